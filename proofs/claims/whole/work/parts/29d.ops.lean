/-! ===== the calls on shares ===== -/
section
variable {n hc : Nat} {cd : Nat → Nat} {g : Nat → Option Nat} {mk : Nat → Nat} {vil mar hld sta mks rul : Nat → Int32}
theorem wto_b {F : Nat → Option Nat} : wto F 600 0 < 100000 := by have := wto_le F 600 0; omega
theorem two_pow17 {b : Nat} (h : b < 100000) : b < 2 ^ 17 := by omega
theorem op_odds (P : PX n hc cd g mk vil mar hld sta mks rul) (i1 i2 i3 i4 : Int32) (a b sd : Nat → Int32) : ∃ r a' b' sd', f_X6_odds i1 i2 i3 i4 a (nI n) vil mar = some (r, a') ∧ f_X7_odds i1 i2 i3 i4 (nI n) b sta mks sd = some (r, b', sd') := by
  obtain ⟨hn, hh, hcd, ho, hC, hR, hl, hr⟩ := P
  unfold f_X6_odds f_X7_odds f_X7_isSide
  rcases when_c i1 i3 with ⟨y, M, hy, hM, rfl, rfl, w1, w2, w3⟩ | ⟨w1, w2⟩
  · rw [if_pos w1, if_neg w2]
    rcases rngN i2 0 9 (by omega) (by omega) with ⟨v, _, hv, rfl, a1, a2⟩ | ⟨a1, a2⟩
    rotate_left
    · rw [if_neg (show ¬ f_X6_outside i2 0 9 = 0 from a1), if_pos (show f_X7_in i2 0 9 = 0 from a2)]
      exact ⟨_, _, _, _, rfl, rfl⟩
    rw [if_pos (show f_X6_outside (nI v) 0 9 = 0 from a1), if_neg (show ¬ f_X7_in (nI v) 0 9 = 0 from a2), if_neg w3]
    rcases rng i4 0 1 with ⟨b1, b2, _, _⟩ | ⟨b1, b2⟩
    rotate_left
    · rw [if_neg b1, if_pos b2]; exact ⟨_, _, _, _, rfl, rfl⟩
    rw [if_pos b1, if_neg b2]
    obtain ⟨a', b', sd', e1, e2, e3, e4, e5⟩ := wgh_e ho hC hR hn hM hy a b sd
    have hT := wto_b (F := fs M g n mk y)
    have hsT := wsh_le (fs M g n mk y) v 600 0
    have h10 : v < 10 := by omega
    rw [e1, e2]
    simp only [bd2, bd3]
    generalize wto (fs M g n mk y) 600 0 = T at hT hsT
    by_cases hT0 : T = 0
    · subst hT0
      rw [if_pos (show nI 0 = (0 : Int32) from rfl), if_pos (show nI 0 = (0 : Int32) from rfl)]
      exact ⟨_, _, _, _, rfl, rfl⟩
    · rw [if_neg (nI_ne0 (by omega) (by omega)), if_neg (nI_ne0 (by omega) (by omega)), gd_nI h10 (by decide), gd_nI h10 (by decide), clp h10 (by decide), e3 v h10, e4 v h10]
      generalize wsh (fs M g n mk y) v 600 0 = s at hsT
      obtain ⟨d, d1, d2, d3, d4⟩ := gcd_j 17 s T 0 1000 1000 (two_pow17 hT) (by omega) (by omega) (by omega) (by omega) (by omega) (by omega)
      unfold f_X6_commonDivisor f_X7_partOf
      rw [show f_X6_commonDivisor_L2 1000 (nI s) (nI T) 0 = _ from d3, d4]
      simp only [bd1]
      rw [if_pos (show (1 : Int32) ≤ nI d from nI_le (a := 1) d1 d2)]
      by_cases c : i4 = 0
      · rw [if_pos c, if_pos c, gd_nI h10 (by decide), gz_nI d1 d2, gz_nI d1 d2]; exact ⟨_, _, _, _, rfl, rfl⟩
      · rw [if_neg c, if_neg c, gz_nI d1 d2, gz_nI d1 d2]; exact ⟨_, _, _, _, rfl, rfl⟩
  · rw [if_neg w1]
    rcases w2 with h | ⟨h1, h2⟩
    · rw [if_pos h]; exact ⟨_, _, _, _, rfl, rfl⟩
    · rw [if_neg h1, if_pos h2]
      split
      · exact ⟨_, _, _, _, rfl, rfl⟩
      · exact ⟨_, _, _, _, rfl, rfl⟩
theorem op_bet (P : PX n hc cd g mk vil mar hld sta mks rul) (i1 i2 : Int32) (a b sd : Nat → Int32) : ∃ r a' b' sd', f_X6_bet i1 i2 a (nI n) vil mar = some (r, a') ∧ f_X7_bet i1 i2 (nI n) b sta mks sd = some (r, b', sd') := by
  obtain ⟨hn, hh, hcd, ho, hC, hR, hl, hr⟩ := P
  unfold f_X6_bet f_X7_bet
  rcases when_c i1 i2 with ⟨y, M, hy, hM, rfl, rfl, w1, w2, w3⟩ | ⟨w1, w2⟩
  · rw [if_pos w1, if_neg w2, if_neg w3]
    obtain ⟨a', b', sd', e1, e2, e3, e4, e5⟩ := wgh_e ho hC hR hn hM hy a b sd
    obtain ⟨r, q1, q2⟩ := bet_j e3 e4 9 1 0 1000 (by omega) (by omega) (by omega)
    rw [e1, e2]
    simp only [bd2, bd3]
    rw [show f_X6_bet_L27 a' 1000 0 1 = some r from q1, show f_X7_bet_L33 b' 1000 0 1 = some r from q2]
    split
    · exact ⟨_, _, _, _, rfl, rfl⟩
    · exact ⟨_, _, _, _, rfl, rfl⟩
  · rw [if_neg w1]
    rcases w2 with h | ⟨h1, h2⟩
    · rw [if_pos h]; exact ⟨_, _, _, _, rfl, rfl⟩
    · rw [if_neg h1, if_pos h2]; exact ⟨_, _, _, _, rfl, rfl⟩
theorem op_hard (P : PX n hc cd g mk vil mar hld sta mks rul) (i1 i2 : Int32) (a b sd : Nat → Int32) : ∃ r a' b' sd', f_X6_hard i1 i2 a (nI n) vil mar = some (r, a') ∧ f_X7_hard i1 i2 (nI n) b sta mks sd = some (r, b', sd') := by
  obtain ⟨hn, hh, hcd, ho, hC, hR, hl, hr⟩ := P
  unfold f_X6_hard f_X7_hard
  rcases when_c i1 i2 with ⟨y, M, hy, hM, rfl, rfl, w1, w2, w3⟩ | ⟨w1, w2⟩
  · rw [if_pos w1, if_neg w2, if_neg w3]
    obtain ⟨a', b', sd', e1, e2, e3, e4, e5⟩ := wgh_e ho hC hR hn hM hy a b sd
    obtain ⟨r, q1, q2⟩ := hard_j hn.2 e3 e4 (n - 1) 1 0 1000 (by omega) (by omega) (by omega)
    rw [e1, e2]
    simp only [bd2, bd3]
    rw [show f_X6_hard_L27 (nI n) a' 1000 0 1 = some r from q1, show f_X7_hard_L33 (nI n) b' 1000 0 1 = some r from q2]
    split
    · exact ⟨_, _, _, _, rfl, rfl⟩
    · exact ⟨_, _, _, _, rfl, rfl⟩
  · rw [if_neg w1]
    rcases w2 with h | ⟨h1, h2⟩
    · rw [if_pos h]; exact ⟨_, _, _, _, rfl, rfl⟩
    · rw [if_neg h1, if_pos h2]; exact ⟨_, _, _, _, rfl, rfl⟩
theorem sure_0 {b : Nat → Int32} : ∀ (d k f : Nat), k + d = 10 → d < f → f_X7_sure_L30 0 b f (-3) (nI k) = some (-3) := by
  intro d
  induction d with
  | zero =>
    intro k f hk hf
    obtain ⟨f, rfl⟩ : ∃ q, f = q + 1 := ⟨f - 1, by omega⟩
    obtain rfl : k = 10 := by omega
    rw [f_X7_sure_L30, if_pos (show (10 : Int32) ≤ nI 10 by decide)]
  | succ d ih =>
    intro k f hk hf
    obtain ⟨f, rfl⟩ : ∃ q, f = q + 1 := ⟨f - 1, by omega⟩
    have h10 : k < 10 := by omega
    rw [f_X7_sure_L30, if_neg (nl10 h10), if_pos (show (0 : Int32) ≤ 0 by decide), nI_1]
    exact ih (k + 1) f (by omega) (by omega)
theorem op_sure (P : PX n hc cd g mk vil mar hld sta mks rul) (i1 i2 : Int32) (a b sd : Nat → Int32) : ∃ r a' b' sd', f_X6_sure i1 i2 a (nI n) vil mar = some (r, a') ∧ f_X7_sure i1 i2 (nI n) b sta mks sd = some (r, b', sd') := by
  obtain ⟨hn, hh, hcd, ho, hC, hR, hl, hr⟩ := P
  unfold f_X6_sure f_X7_sure
  rcases when_c i1 i2 with ⟨y, M, hy, hM, rfl, rfl, w1, w2, w3⟩ | ⟨w1, w2⟩
  · rw [if_pos w1, if_neg w2, if_neg w3]
    obtain ⟨a', b', sd', e1, e2, e3, e4, e5⟩ := wgh_e ho hC hR hn hM hy a b sd
    have hT := wto_b (F := fs M g n mk y)
    have hsT := fun v => wsh_le (fs M g n mk y) v 600 0
    have h2 := fun v w (h : v ≠ w) => wsh_two (fs M g n mk y) h 600 0
    rw [e1, e2]
    simp only [bd2, bd3]
    generalize wto (fs M g n mk y) 600 0 = T at hT hsT h2
    by_cases hT0 : T = 0
    · subst hT0
      rw [if_pos (show nI 0 = (0 : Int32) from rfl), show f_X7_sure_L30 (nI 0) b' 1000 (-3) 0 = some (-3) from sure_0 10 0 1000 (by omega) (by omega)]
      exact ⟨_, _, _, _, rfl, rfl⟩
    · rw [if_neg (nI_ne0 (by omega) (by omega))]
      rcases sure_j (T := T) (by omega) (by omega) hsT h2 e3 e4 10 0 1000 (by omega) (by omega) with ⟨q1, q2⟩ | ⟨r, q1, q2⟩
      · rw [show f_X6_sure_L27 a' (nI T) 1000 0 = _ from q1, show f_X7_sure_L30 (nI T) b' 1000 (-3) 0 = _ from q2]; exact ⟨_, _, _, _, rfl, rfl⟩
      · rw [show f_X6_sure_L27 a' (nI T) 1000 0 = _ from q1, show f_X7_sure_L30 (nI T) b' 1000 (-3) 0 = _ from q2]; exact ⟨_, _, _, _, rfl, rfl⟩
  · rw [if_neg w1]
    rcases w2 with h | ⟨h1, h2⟩
    · rw [if_pos h]; exact ⟨_, _, _, _, rfl, rfl⟩
    · rw [if_neg h1, if_pos h2]; exact ⟨_, _, _, _, rfl, rfl⟩
theorem op_camp (P : PX n hc cd g mk vil mar hld sta mks rul) (i1 i2 : Int32) (a b sd : Nat → Int32) : ∃ r a' b' sd', f_X6_camp i1 i2 a (nI n) vil mar = some (r, a') ∧ f_X7_camp i1 i2 (nI n) b sta mks sd = some (r, b', sd') := by
  obtain ⟨hn, hh, hcd, ho, hC, hR, hl, hr⟩ := P
  unfold f_X6_camp f_X7_camp
  rcases when_c i1 i2 with ⟨y, M, hy, hM, rfl, rfl, w1, w2, w3⟩ | ⟨w1, w2⟩
  · rw [if_pos w1, if_neg w2, if_neg w3]
    obtain ⟨a', b', sd', e1, e2, e3, e4, e5⟩ := wgh_e ho hC hR hn hM hy a b sd
    have h0 : ∀ v, n ≤ v → wsh (fs M g n mk y) v 600 0 = 0 := fun v hv => wsh_0 _ (fun c h => by have := fs_lt hn h; omega) 600 0
    have hF : ∀ i, i < 10 → ∃ r, f_X6_farFrom (nI i) a' (nI n) = some r ∧ f_X7_camp_L51 (nI n) b' (nI i) 1000 0 0 = some r := fun i hi => by
      obtain ⟨r, q1, q2⟩ := far_j hn.2 hi e3 e4 h0 n 0 1000 1000 0 (by omega) (by omega) (by omega)
      refine ⟨r, ?_, q2⟩
      unfold f_X6_farFrom
      rw [show f_X6_farFrom_L4 a' (nI n) (nI i) 1000 0 0 = some r from q1]; rfl
    have h6 : ∀ i, i < 10 → f_X6_farFrom (nI i) a' (nI n) = some ((f_X6_farFrom (nI i) a' (nI n)).getD 0) := fun i hi => by
      obtain ⟨r, q1, q2⟩ := hF i hi
      rw [q1]; rfl
    have h7 : ∀ i, i < 10 → f_X7_camp_L51 (nI n) b' (nI i) 1000 0 0 = some ((f_X6_farFrom (nI i) a' (nI n)).getD 0) := fun i hi => by
      obtain ⟨r, q1, q2⟩ := hF i hi
      rw [q1, q2]; rfl
    obtain ⟨r, q1, q2⟩ := camp_j hn.2 (F := fun i => (f_X6_farFrom (nI i) a' (nI n)).getD 0) h6 h7 (n - 1) 1 0 1000 999 (by omega) (by omega) (by omega) (by omega)
    rw [e1, e2]
    simp only [bd2, bd3]
    have q3 : f_X7_camp_L36 (nI n) b' 1000 (-1) 0 0 = some r := by
      rw [show (1000 : Nat) = 999 + 1 from rfl, f_X7_camp_L36, if_neg (show ¬ nI n ≤ (0 : Int32) from nI_nle (by omega) (by omega)), show f_X7_camp_L51 (nI n) b' 0 (999 + 1) 0 0 = _ from h7 0 (by omega)]
      simp only [bd1]
      rw [if_pos (show (-1 : Int32) < 0 by decide)]
      exact q2
    rw [show f_X6_camp_L27 (nI n) a' 1000 0 1 = some r from q1, q3]
    split
    · exact ⟨_, _, _, _, rfl, rfl⟩
    · exact ⟨_, _, _, _, rfl, rfl⟩
  · rw [if_neg w1]
    rcases w2 with h | ⟨h1, h2⟩
    · rw [if_pos h]; exact ⟨_, _, _, _, rfl, rfl⟩
    · rw [if_neg h1, if_pos h2]; exact ⟨_, _, _, _, rfl, rfl⟩
theorem shift16 (x : Int32) : ∃ q, q < 65536 ∧ (x.toUInt32 >>> ((16 : Int32).toUInt32 &&& Int32.toUInt32 31)).toInt32 = nI q := by
  have h := pk_ushr x 16 16 (by decide)
  have hx : x.toBitVec.toNat < 2 ^ 32 := x.toBitVec.isLt
  refine ⟨x.toBitVec.toNat / 2 ^ 16, by omega, ?_⟩
  apply Int32.toBitVec_inj.mp
  apply BitVec.eq_of_toNat_eq
  rw [h, pk_tn (by omega)]
theorem op_draw (P : PX n hc cd g mk vil mar hld sta mks rul) (i1 i2 z : Int32) (a b sd : Nat → Int32) : ∃ r z' a' b' sd', f_X6_draw i1 i2 z a (nI n) vil mar = some (r, z', a') ∧ f_X7_draw i1 i2 (nI n) z b sta mks sd = some (r, z', b', sd') := by
  obtain ⟨hn, hh, hcd, ho, hC, hR, hl, hr⟩ := P
  unfold f_X6_draw f_X7_draw
  rcases when_c i1 i2 with ⟨y, M, hy, hM, rfl, rfl, w1, w2, w3⟩ | ⟨w1, w2⟩
  · rw [if_pos w1, if_neg w2, if_neg w3]
    obtain ⟨a', b', sd', e1, e2, e3, e4, e5⟩ := wgh_e ho hC hR hn hM hy a b sd
    have hT := wto_b (F := fs M g n mk y)
    rw [e1, e2]
    simp only [bd2, bd3]
    by_cases hT0 : wto (fs M g n mk y) 600 0 = 0
    · rw [hT0, if_pos (show nI 0 = (0 : Int32) from rfl), if_pos (show nI 0 = (0 : Int32) from rfl)]
      exact ⟨_, _, _, _, _, rfl, rfl⟩
    · have hTp : 0 < wto (fs M g n mk y) 600 0 := Nat.pos_of_ne_zero hT0
      obtain ⟨q, hq, eq⟩ := shift16 (z * 1103515245 + 12345)
      rw [if_neg (nI_ne0 hTp (by omega)), if_neg (nI_ne0 hTp (by omega)), gz_nI hTp (by omega), gz_nI hTp (by omega), eq, xrem_nI (by omega) hTp (by omega)]
      have hmod := Nat.mod_lt q hTp
      obtain ⟨x, hx, q1, q2⟩ := draw_j ho hC hn (t := q % wto (fs M g n mk y) 600 0) hM hy (by omega) e5 600 0 1000 1000 0 (by omega) (by omega) (by omega) (by omega) (by omega)
      unfold f_X6_drawn
      rw [show f_X6_drawn_L6 (nI y) (nI n) vil mar (nI M) (nI (q % wto (fs M g n mk y) 600 0)) 1000 0 0 = _ from q1, show f_X7_draw_L60 sd' 1000 (nI (q % wto (fs M g n mk y) 600 0)) 0 = _ from q2]
      simp only [bs0, bd1, gd_nI hx (show 600 < 2147483648 by decide), clp hx (show 600 < 2147483648 by decide)]
      exact ⟨_, _, _, _, _, rfl, rfl⟩
  · rw [if_neg w1]
    rcases w2 with h | ⟨h1, h2⟩
    · rw [if_pos h]; exact ⟨_, _, _, _, _, rfl, rfl⟩
    · rw [if_neg h1, if_pos h2]; exact ⟨_, _, _, _, _, rfl, rfl⟩
end
