/-! ===== acts, on both sides ===== -/
def AG (c : Nat) (ra tr : Nat → Int32) : Prop := ∀ j, j < c → ra j = tr j
theorem ag_u {c : Nat} {ra tr : Nat → Int32} (h : AG c ra tr) (b : Int32) : AG (c + 1) (upd ra c b) (upd tr c b) := by
  intro j hj
  by_cases e : j = c
  · rw [e, pk_us, pk_us]
  · rw [pk_un e, pk_un e, h j (by omega)]
theorem pc1 {c : Nat} (hc : c < 30) (x nu : Int32) (tr : Nat → Int32) : f_X7_plainCalls x nu (nI c) tr = some (x + nu, nI (c + 1), upd tr c 10) := by
  unfold f_X7_plainCalls
  rw [ran1 hc]; rfl
theorem own0 (rec : Int32 → Int32 → Int32 → Int32 → Int32 → Int32 → Int32 → Int32 → (Nat → Int32) → Option (Int32 × Int32 × Int32 × (Nat → Int32))) {ki : Nat} (hk : ki < 6) (x d c nu a p : Int32) (ran : Nat → Int32) :
    f_X5_own rec (nI 0) x d c (nI ki) nu a p ran = rec (tabB (ki * 4)) x d c (nI ki) nu a p ran := own_e rec hk (ac := 0) (by omega) x d c nu a p ran
section
variable {ki : Nat} {nu a : Int32}
theorem calls_j (hk : ki < 6) (f d c : Nat) (x : Int32) (ra tr : Nat → Int32) (hd : d ≤ 18) (hc : c ≤ 28) (h : AG c ra tr) :
    ∃ (r : Int32) (c' : Nat) (ra' tr' : Nat → Int32), f_X5_own (f_X5_body (f + 2)) (nI 0) x (nI d) (nI c) (nI ki) nu a 0 ra = some (r, nI c', 0, ra') ∧ f_X7_callsIt x (nI ki) nu (nI c) tr = some (r, nI c', tr') ∧ c' ≤ c + 2 ∧ AG c' ra' tr' := by
  have hd2 : d ≤ 20 := by omega
  have hd3 : d + 1 ≤ 20 := by omega
  have hc2 : c < 30 := by omega
  have hc3 : c + 1 < 30 := by omega
  rw [own0 _ hk]
  unfold f_X7_callsIt
  simp only [ran1 hc2, pc1 hc2, pc1 hc3, bd2, bd3]
  rcases (show ki = 0 ∨ ki = 1 ∨ ki = 2 ∨ ki = 3 ∨ ki = 4 ∨ ki = 5 by omega) with rfl | rfl | rfl | rfl | rfl | rfl
  · rw [show tabB (0 * 4) = 10 from rfl, bo10 hd2 hc2, if_neg (by decide), if_neg (by decide), if_neg (by decide), if_neg (by decide)]
    exact ⟨_, c + 1, _, _, rfl, rfl, by omega, ag_u h _⟩
  · rw [show tabB (1 * 4) = 10 from rfl, bo10 hd2 hc2, if_neg (by decide), if_neg (by decide), if_neg (by decide), if_neg (by decide)]
    exact ⟨_, c + 1, _, _, rfl, rfl, by omega, ag_u h _⟩
  · rw [show tabB (2 * 4) = 40 from rfl, bo40 hd2 hc2, bo10 hd3 hc3, if_pos (by decide)]
    exact ⟨_, c + 1 + 1, _, _, rfl, rfl, by omega, ag_u (ag_u h _) _⟩
  · rw [show tabB (3 * 4) = 30 from rfl, bo30 hd2 hc2, bo10 hd3 hc3, if_neg (by decide), if_pos (by decide)]
    exact ⟨_, c + 1 + 1, _, _, rfl, rfl, by omega, ag_u (ag_u h _) _⟩
  · rw [show tabB (4 * 4) = 51 from rfl, bo51 hd2 hc2, bo10 hd3 hc3, if_neg (by decide), if_neg (by decide), if_pos (by decide)]
    exact ⟨_, c + 1 + 1, _, _, rfl, rfl, by omega, ag_u (ag_u h _) _⟩
  · rw [show tabB (5 * 4) = 40 from rfl, bo40 hd2 hc2, bo10 hd3 hc3, if_neg (by decide), if_neg (by decide), if_neg (by decide), if_pos (by decide)]
    exact ⟨_, c + 1 + 1, _, _, rfl, rfl, by omega, ag_u (ag_u h _) _⟩
theorem ph_j (hk : ki < 6) (f d c : Nat) (x : Int32) (ra tr : Nat → Int32) (hd : d ≤ 17) (hc : c ≤ 27) (h : AG c ra tr) :
    ∃ (r : Int32) (c' : Nat) (ra' tr' : Nat → Int32), f_X5_body (f + 3) 11 x (nI d) (nI c) (nI ki) nu a 0 ra = some (r, nI c', 0, ra') ∧ f_X7_plainHolds x (nI ki) nu (nI c) tr = some (r, nI c', tr') ∧ c' ≤ c + 3 ∧ AG c' ra' tr' := by
  have hd2 : d ≤ 20 := by omega
  have hc2 : c < 30 := by omega
  obtain ⟨r, c', ra', tr', e1, e2, e3, e4⟩ := calls_j (nu := nu) (a := a) hk f (d + 1) (c + 1) x _ _ (by omega) (by omega) (ag_u h 11)
  rw [bo11 hd2 hc2, e1]
  unfold f_X7_plainHolds
  rw [ran1 hc2]
  simp only [bd2, bd3, bd4, e2]
  exact ⟨_, c', _, _, rfl, rfl, by omega, e4⟩
theorem lh_j (hk : ki < 6) (f d c : Nat) (x : Int32) (ra tr : Nat → Int32) (hd : d ≤ 16) (hc : c ≤ 26) (h : AG c ra tr) :
    ∃ (r : Int32) (c' : Nat) (ra' tr' : Nat → Int32), f_X5_body (f + 4) 20 x (nI d) (nI c) (nI ki) nu a 0 ra = some (r, nI c', 0, ra') ∧ f_X7_lineHolds x (nI ki) nu a (nI c) tr = some (r, nI c', tr') ∧ c' ≤ c + 4 ∧ AG c' ra' tr' := by
  have hd2 : d ≤ 20 := by omega
  have hc2 : c < 30 := by omega
  obtain ⟨r, c', ra', tr', e1, e2, e3, e4⟩ := ph_j (nu := nu) (a := a) hk f (d + 1) (c + 1) x _ _ (by omega) (by omega) (ag_u h 20)
  rw [bo20 hd2 hc2, e1]
  unfold f_X7_lineHolds
  rw [ran1 hc2]
  simp only [bd2, bd3, bd4, e2]
  exact ⟨_, c', _, _, rfl, rfl, by omega, e4⟩
theorem bh_j (hk : ki < 6) (f d c : Nat) (x : Int32) (ra tr : Nat → Int32) (hd : d ≤ 15) (hc : c ≤ 23) (h : AG c ra tr) :
    ∃ (r : Int32) (c' : Nat) (ra' tr' : Nat → Int32), f_X5_body (f + 5) 41 x (nI d) (nI c) (nI ki) nu a 0 ra = some (r, nI c', 0, ra') ∧
      bd2 (f_X7_ran 41 (nI c) tr) (fun o w => bd3 (f_X7_lineHolds x (nI ki) nu a o w) (fun r o w => bd3 (f_X7_callsIt nu (nI ki) nu o w) (fun r2 o w => some (r + r2, o, w)))) = some (r, nI c', tr') ∧ c' ≤ c + 7 ∧ AG c' ra' tr' := by
  have hd2 : d ≤ 20 := by omega
  have hc2 : c < 30 := by omega
  obtain ⟨r, c', ra', tr', e1, e2, e3, e4⟩ := lh_j (nu := nu) (a := a) hk f (d + 1) (c + 1) x _ _ (by omega) (by omega) (ag_u h 41)
  obtain ⟨r2, c2, ra2, tr2, q1, q2, q3, q4⟩ := calls_j (nu := nu) (a := a) hk (f + 2) (d + 1) c' nu _ _ (by omega) (by omega) e4
  rw [bo41 hd2 hc2, e1, ran1 hc2]
  simp only [bd2, bd3, bd4, e2, q2]
  rw [show f + 4 = f + 2 + 2 from rfl, q1]
  exact ⟨_, c2, _, _, rfl, rfl, by omega, q4⟩
theorem holds_j (hk : ki < 6) (f d c : Nat) (x : Int32) (ra tr : Nat → Int32) (hd : d ≤ 15) (hc : c ≤ 23) (h : AG c ra tr) :
    ∃ (r : Int32) (c' : Nat) (ra' tr' : Nat → Int32), f_X5_own (f_X5_body (f + 5)) (nI 1) x (nI d) (nI c) (nI ki) nu a 0 ra = some (r, nI c', 0, ra') ∧ f_X7_holdsIt x (nI ki) nu a (nI c) tr = some (r, nI c', tr') ∧ c' ≤ c + 7 ∧ AG c' ra' tr' := by
  rw [own_e _ hk (ac := 1) (by omega)]
  unfold f_X7_holdsIt
  rcases (show (ki = 0 ∨ ki = 3) ∨ (ki = 1 ∨ ki = 4) ∨ (ki = 2 ∨ ki = 5) by omega) with hc1 | hc1 | hc1
  · obtain ⟨r, c', ra', tr', e1, e2, e3, e4⟩ := ph_j (nu := nu) (a := a) hk (f + 2) d c x _ _ (by omega) (by omega) h
    refine ⟨r, c', ra', tr', ?_, ?_, by omega, e4⟩
    · rcases hc1 with rfl | rfl <;> exact e1
    · rcases hc1 with rfl | rfl
      · rw [if_neg (by decide), if_neg (by decide), if_neg (by decide), if_neg (by decide), e2]; rfl
      · rw [if_neg (by decide), if_neg (by decide), if_neg (by decide), if_neg (by decide), e2]; rfl
  · obtain ⟨r, c', ra', tr', e1, e2, e3, e4⟩ := lh_j (nu := nu) (a := a) hk (f + 1) d c x _ _ (by omega) (by omega) h
    refine ⟨r, c', ra', tr', ?_, ?_, by omega, e4⟩
    · rcases hc1 with rfl | rfl <;> exact e1
    · rcases hc1 with rfl | rfl
      · rw [if_pos (by decide), e2]; rfl
      · rw [if_neg (by decide), if_pos (by decide), e2]; rfl
  · obtain ⟨r, c', ra', tr', e1, e2, e3, e4⟩ := bh_j (nu := nu) (a := a) hk f d c x _ _ (by omega) (by omega) h
    refine ⟨r, c', ra', tr', ?_, ?_, by omega, e4⟩
    · rcases hc1 with rfl | rfl <;> exact e1
    · rcases hc1 with rfl | rfl
      · rw [if_neg (by decide), if_neg (by decide), if_pos (by decide)]; exact e2
      · rw [if_neg (by decide), if_neg (by decide), if_neg (by decide), if_pos (by decide)]; exact e2
theorem ps_j (f d c : Nat) (x kk : Int32) (ra tr : Nat → Int32) (hd : d ≤ 20) (hc : c ≤ 29) (h : AG c ra tr) :
    ∃ (r p : Int32) (ra' tr' : Nat → Int32), f_X5_body (f + 1) 12 x (nI d) (nI c) kk nu a 0 ra = some (r, nI (c + 1), p, ra') ∧ f_X7_plainShares x nu a (nI c) 0 tr = some (r, nI (c + 1), p, tr') ∧ (p = 0 ∨ (p = 1 ∧ r = 0)) ∧ AG (c + 1) ra' tr' := by
  have hc2 : c < 30 := by omega
  rw [bo12 hd hc2]
  unfold f_X5_part f_X7_plainShares
  rw [ran1 hc2]
  by_cases e : a - nu = 0
  · have e2 : a = nu := by
      have := congrArg (fun z => z + nu) e
      simpa using this
    rw [if_pos e]
    simp only [bd2, if_pos e2]
    exact ⟨_, _, _, _, rfl, rfl, Or.inr ⟨rfl, rfl⟩, ag_u h _⟩
  · have e2 : ¬ a = nu := fun z => e (by rw [z]; simp)
    rw [if_neg e, gz_i e]
    simp only [bd2, if_neg e2, gz_i e]
    exact ⟨_, _, _, _, rfl, rfl, Or.inl rfl, ag_u h _⟩
theorem shares_j (hk : ki < 6) (f d c : Nat) (x : Int32) (ra tr : Nat → Int32) (hd : d ≤ 17) (hc : c ≤ 26) (h : AG c ra tr) :
    ∃ (r p : Int32) (c' : Nat) (ra' tr' : Nat → Int32), f_X5_own (f_X5_body (f + 3)) (nI 2) x (nI d) (nI c) (nI ki) nu a 0 ra = some (r, nI c', p, ra') ∧ f_X7_sharesIt x (nI ki) nu a (nI c) 0 tr = some (r, nI c', p, tr') ∧ c' ≤ c + 4 ∧ (p = 0 ∨ p = 1) ∧ AG c' ra' tr' := by
  have hd2 : d ≤ 20 := by omega
  have hc2 : c < 30 := by omega
  rw [own_e _ hk (ac := 2) (by omega)]
  unfold f_X7_sharesIt
  rcases (show (ki = 0 ∨ ki = 1 ∨ ki = 2 ∨ ki = 3) ∨ ki = 4 ∨ ki = 5 by omega) with hc1 | rfl | rfl
  · obtain ⟨r, p, ra', tr', e1, e2, e3, e4⟩ := ps_j (nu := nu) (a := a) (f + 2) d c x (nI ki) _ _ hd2 (by omega) h
    refine ⟨r, p, c + 1, ra', tr', ?_, ?_, by omega, by rcases e3 with e | e; exact Or.inl e; exact Or.inr e.1, e4⟩
    · rcases hc1 with rfl | rfl | rfl | rfl <;> exact e1
    · rcases hc1 with rfl | rfl | rfl | rfl <;> (rw [if_neg (by decide), if_neg (by decide), e2]; rfl)
  · obtain ⟨r, p, ra', tr', e1, e2, e3, e4⟩ := ps_j (nu := nu) (a := a) (f + 1) (d + 1) (c + 1) (x + 2) (nI 4) _ _ (by omega) (by omega) (ag_u h 50)
    rw [show tabB (4 * 4 + 2) = 50 from rfl, bo50 hd2 hc2, e1, if_pos (by decide), ran1 hc2]
    simp only [bd2, bd4, e2]
    exact ⟨_, p, c + 1 + 1, _, _, rfl, rfl, by omega, by rcases e3 with e | e; exact Or.inl e; exact Or.inr e.1, e4⟩
  · obtain ⟨r, p, ra', tr', e1, e2, e3, e4⟩ := ps_j (nu := nu) (a := a) (f + 1) (d + 1) (c + 1) x (nI 5) _ _ (by omega) (by omega) (ag_u h 61)
    rw [show tabB (5 * 4 + 2) = 61 from rfl, bo61 hd2 hc2, e1, if_neg (by decide), if_pos (by decide), ran1 hc2]
    simp only [bd2, bd4, e2]
    rcases e3 with rfl | ⟨rfl, rfl⟩
    · obtain ⟨r2, c2, ra2, tr2, q1, q2, q3, q4⟩ := calls_j (nu := nu) (a := a) (ki := 5) (by omega) f (d + 1) (c + 1 + 1) a _ _ (by omega) (by omega) e4
      rw [q1, if_pos rfl, q2]
      exact ⟨_, _, c2, _, _, rfl, rfl, by omega, Or.inl rfl, q4⟩
    · rw [own0 _ (ki := 5) (by omega), parted1, if_neg (by decide)]
      exact ⟨_, _, c + 1 + 1, _, _, rfl, rfl, by omega, Or.inr rfl, e4⟩
theorem pt_j (hk : ki < 6) (f d c : Nat) (x : Int32) (ra tr : Nat → Int32) (hd : d ≤ 14) (hc : c ≤ 22) (h : AG c ra tr) :
    ∃ (r : Int32) (c' : Nat) (ra' tr' : Nat → Int32), f_X5_body (f + 6) 13 x (nI d) (nI c) (nI ki) nu a 0 ra = some (r, nI c', 0, ra') ∧ f_X7_plainTells x (nI ki) nu a (nI c) tr = some (r, nI c', tr') ∧ c' ≤ c + 8 ∧ AG c' ra' tr' := by
  have hd2 : d ≤ 20 := by omega
  have hc2 : c < 30 := by omega
  obtain ⟨r, c', ra', tr', e1, e2, e3, e4⟩ := holds_j (nu := nu) (a := a) hk f (d + 1) (c + 1) x _ _ (by omega) (by omega) (ag_u h 13)
  rw [bo13 hd2 hc2, e1]
  unfold f_X7_plainTells
  rw [ran1 hc2]
  simp only [bd2, bd3, bd4, e2]
  exact ⟨_, c', _, _, rfl, rfl, by omega, e4⟩
theorem tells_j (hk : ki < 6) (f d c : Nat) (x : Int32) (ra tr : Nat → Int32) (hd : d ≤ 13) (hc : c ≤ 16) (h : AG c ra tr) :
    ∃ (r p : Int32) (c' : Nat) (ra' tr' : Nat → Int32), f_X5_own (f_X5_body (f + 7)) (nI 3) x (nI d) (nI c) (nI ki) nu a 0 ra = some (r, nI c', p, ra') ∧ f_X7_tellsIt x (nI ki) nu a (nI c) 0 tr = some (r, nI c', p, tr') ∧ c' ≤ 30 ∧ (p = 0 ∨ p = 1) ∧ AG c' ra' tr' := by
  have hd2 : d ≤ 20 := by omega
  have hc2 : c < 30 := by omega
  rw [own_e _ hk (ac := 3) (by omega)]
  unfold f_X7_tellsIt
  rcases (show (ki = 0 ∨ ki = 1 ∨ ki = 2 ∨ ki = 4) ∨ ki = 3 ∨ ki = 5 by omega) with hc1 | rfl | rfl
  · obtain ⟨r, c', ra', tr', e1, e2, e3, e4⟩ := pt_j (nu := nu) (a := a) hk (f + 1) d c x _ _ (by omega) (by omega) h
    refine ⟨r, 0, c', ra', tr', ?_, ?_, by omega, Or.inl rfl, e4⟩
    · rcases hc1 with rfl | rfl | rfl | rfl <;> exact e1
    · rcases hc1 with rfl | rfl | rfl | rfl <;> (rw [if_neg (by decide), if_neg (by decide), e2]; rfl)
  · obtain ⟨r, c', ra', tr', e1, e2, e3, e4⟩ := pt_j (nu := nu) (a := a) (ki := 3) (by omega) f (d + 1) (c + 1) x _ _ (by omega) (by omega) (ag_u h 31)
    obtain ⟨r2, p, c2, ra2, tr2, q1, q2, q3, q5, q4⟩ := shares_j (nu := nu) (a := a) (ki := 3) (by omega) (f + 3) (d + 1) c' nu _ _ (by omega) (by omega) e4
    rw [show tabB (3 * 4 + 3) = 31 from rfl, bo31 hd2 hc2, e1, if_pos (by decide), ran1 hc2]
    simp only [bd2, bd3, bd4, e2, q2]
    rw [show f + 6 = f + 3 + 3 from rfl, q1]
    exact ⟨_, p, c2, _, _, rfl, rfl, by omega, q5, q4⟩
  · obtain ⟨r, c', ra', tr', e1, e2, e3, e4⟩ := pt_j (nu := nu) (a := a) (ki := 5) (by omega) f (d + 1) (c + 1) x _ _ (by omega) (by omega) (ag_u h 60)
    rw [show tabB (5 * 4 + 3) = 60 from rfl, bo60 hd2 hc2, e1, if_neg (by decide), if_pos (by decide), ran1 hc2]
    simp only [bd2, bd3, bd4, e2]
    exact ⟨_, _, c', _, _, rfl, rfl, by omega, Or.inl rfl, e4⟩
end
section
variable {n hc : Nat} {cd : Nat → Nat} {g : Nat → Option Nat} {mk : Nat → Nat} {vil mar hld sta mks rul : Nat → Int32}
theorem op_act {sr ss sz ho hu hz : Nat → Int32} (P : PX n hc cd g mk vil mar hld sta mks rul) (V : SV sr ss sz ho hu hz) (i1 i2 i3 k1 k2 k3 k4 m1 m2 m3 m4 m5 c0 : Int32) (ra tr : Nat → Int32) :
    ∃ (r : Int32) (t : Nat) (u1 u2 u3 u4 w1 w2 w3 w4 : Int32) (ra' tr' : Nat → Int32), f_X6_act i1 i2 i3 c0 k1 k2 k3 k4 sr (nI hc) hld ra = some (r, nI t, u1, u2, u3, u4, ra') ∧ f_X7_act i1 i2 i3 (nI hc) m1 m2 m3 m4 m5 ho hu rul tr = some (r, w1, w2, w3, nI t, w4, tr') ∧ t ≤ 30 ∧ AG t ra' tr' := by
  obtain ⟨hn, hh, hcd, ho', hC, hR, hl, hr⟩ := P
  unfold f_X6_act f_X7_act
  have ag0 : AG 0 ra tr := fun j hj => absurd hj (Nat.not_lt_zero j)
  have bad : ∀ z : Int32, z < 0 ∨ z = 9 → f_X7_in z 0 5 = 0 := fun z hz => by
    rcases hz with hz | rfl
    · exact in_n (fun q => Int32.not_le.mpr hz q.1)
    · decide
  rcases rngN i1 0 3 (by omega) (by omega) with ⟨i, _, hi, rfl, a1, a2⟩ | ⟨a1, a2⟩
  rotate_left
  · rw [if_neg (show ¬ f_X6_outside i1 0 3 = 0 from a1), if_pos (show f_X7_isShelf i1 = 0 from a2)]
    simp only [bd1]
    rw [if_pos (bad (-1) (Or.inl (by decide)))]
    exact ⟨0, 0, _, _, _, _, _, _, _, _, _, _, rfl, ite_k, by omega, ag0⟩
  have hi4 : i < 4 := by omega
  rw [if_pos (show f_X6_outside (nI i) 0 3 = 0 from a1), if_neg (show ¬ f_X7_isShelf (nI i) = 0 from a2)]
  simp only [gd_nI hi4 (show 4 < 2147483648 by decide), clp hi4 (show 4 < 2147483648 by decide)]
  have hK : ∃ z, f_X7_kindOn (nI i) (nI hc) ho hu rul = some z := by
    rcases shelf_c hh hcd hr V hi4 with ⟨_, _, q⟩ | ⟨k, _, _, _, _, q⟩ | ⟨q, _, _, _, _, _, q5⟩
    · exact ⟨_, q⟩
    · exact ⟨_, q⟩
    · exact ⟨_, q5⟩
  rcases rngN i2 0 3 (by omega) (by omega) with ⟨ac, _, hac, rfl, b1, b2⟩ | ⟨b1, b2⟩
  rotate_left
  · obtain ⟨z, hz⟩ := hK
    rw [if_neg (show ¬ f_X6_outside i2 0 3 = 0 from b1), hz]
    simp only [bd1]
    rw [if_pos (show f_X7_in i2 0 3 = 0 from b2)]
    exact ⟨0, 0, _, _, _, _, _, _, _, _, _, _, rfl, rfl, by omega, ag0⟩
  rw [if_pos (show f_X6_outside (nI ac) 0 3 = 0 from b1)]
  rcases shelf_c hh hcd hr V hi4 with ⟨q1, q2, q3⟩ | ⟨k, hk, q1, q2, q3, q4⟩ | ⟨q, hq, q1, q2, q3, q4, q5⟩
  · rw [if_pos q1, q3]
    simp only [bd1]
    rw [if_neg (show ¬ f_X7_in (nI ac) 0 3 = 0 from b2), if_pos (bad (-1) (Or.inl (by decide)))]
    exact ⟨0, 0, _, _, _, _, _, _, _, _, _, _, rfl, rfl, by omega, ag0⟩
  rotate_left
  · rw [if_pos q1, q5]
    simp only [bd1]
    rw [if_neg (show ¬ f_X7_in (nI ac) 0 3 = 0 from b2), if_pos (bad 9 (Or.inr rfl))]
    exact ⟨0, 0, _, _, _, _, _, _, _, _, _, _, rfl, rfl, by omega, ag0⟩
  have hk6 : k < 6 := by omega
  have hck := hcd k hk
  have hki : cd k / 100 < 6 := by omega
  rw [if_neg q3, q4, q1, q2]
  simp only [gd_nI hk6 (show 6 < 2147483648 by decide), clp hk6 (show 6 < 2147483648 by decide), hl k hk, kindOf6 hck, aOf6 hck, f_X5_become, bd1, bd3]
  rw [if_neg (show ¬ f_X7_in (nI ac) 0 3 = 0 from b2), if_neg (show ¬ f_X7_in (nI (cd k / 100)) 0 5 = 0 from in_p ⟨nI_pos' (by omega), nI_le (b := 5) (by omega) (by omega)⟩), show f_X7_of (nI k) 1 rul = some (rul (4 * k + 1)) from of7 (i := k) (j := 1) hk6 (by omega), (hr k hk).2.1]
  unfold f_X5_answer
  generalize cd k / 100 = ki at hki
  generalize nI (cd k / 20 % 5) = aa
  have n1 : ¬ (1 : Int32) = 0 := by decide
  rcases (show ac = 0 ∨ ac = 1 ∨ ac = 2 ∨ ac = 3 by omega) with rfl | rfl | rfl | rfl
  · obtain ⟨r, c', ra', tr', e1, e2, e3, e4⟩ := calls_j (nu := nI k) (a := aa) hki 28 0 0 i3 ra tr (by omega) (by omega) ag0
    rw [show f_X5_own (f_X5_body 30) (nI 0) i3 0 0 (nI ki) (nI k) aa 0 ra = _ from e1]
    simp only [bd1, bd4, if_pos (show nI 0 = (0 : Int32) from rfl), if_true]
    rw [show f_X7_callsIt i3 (nI ki) (nI k) 0 tr = _ from e2]
    exact ⟨_, c', _, _, _, _, _, _, _, _, _, _, rfl, rfl, by omega, e4⟩
  · obtain ⟨r, c', ra', tr', e1, e2, e3, e4⟩ := holds_j (nu := nI k) (a := aa) hki 25 0 0 i3 ra tr (by omega) (by omega) ag0
    rw [show f_X5_own (f_X5_body 30) (nI 1) i3 0 0 (nI ki) (nI k) aa 0 ra = _ from e1]
    simp only [bd1, bd4, if_neg (show ¬ nI 1 = (0 : Int32) by decide), if_pos (show nI 1 = (1 : Int32) from rfl), if_true]
    rw [show f_X7_holdsIt i3 (nI ki) (nI k) aa 0 tr = _ from e2]
    exact ⟨_, c', _, _, _, _, _, _, _, _, _, _, rfl, rfl, by omega, e4⟩
  · obtain ⟨r, p, c', ra', tr', e1, e2, e3, e5, e4⟩ := shares_j (nu := nI k) (a := aa) hki 27 0 0 i3 ra tr (by omega) (by omega) ag0
    rw [show f_X5_own (f_X5_body 30) (nI 2) i3 0 0 (nI ki) (nI k) aa 0 ra = _ from e1]
    simp only [bd1, bd4, if_neg (show ¬ nI 2 = (0 : Int32) by decide), if_neg (show ¬ nI 2 = (1 : Int32) by decide), if_pos (show nI 2 = (2 : Int32) from rfl)]
    rw [show f_X7_sharesIt i3 (nI ki) (nI k) aa 0 0 tr = _ from e2]
    rcases e5 with rfl | rfl
    · exact ⟨_, c', _, _, _, _, _, _, _, _, _, _, rfl, rfl, by omega, e4⟩
    · exact ⟨_, c', _, _, _, _, _, _, _, _, _, _, rfl, rfl, by omega, e4⟩
  · obtain ⟨r, p, c', ra', tr', e1, e2, e3, e5, e4⟩ := tells_j (nu := nI k) (a := aa) hki 23 0 0 i3 ra tr (by omega) (by omega) ag0
    rw [show f_X5_own (f_X5_body 30) (nI 3) i3 0 0 (nI ki) (nI k) aa 0 ra = _ from e1]
    simp only [bd1, bd4, if_neg (show ¬ nI 3 = (0 : Int32) by decide), if_neg (show ¬ nI 3 = (1 : Int32) by decide), if_neg (show ¬ nI 3 = (2 : Int32) by decide)]
    rw [show f_X7_tellsIt i3 (nI ki) (nI k) aa 0 0 tr = _ from e2]
    rcases e5 with rfl | rfl
    · exact ⟨_, c', _, _, _, _, _, _, _, _, _, _, rfl, rfl, by omega, e4⟩
    · exact ⟨_, c', _, _, _, _, _, _, _, _, _, _, rfl, rfl, by omega, e4⟩
end
