/-! ===== the calls of a book ===== -/
theorem rng (x lo hi : Int32) : (f_X6_outside x lo hi = 0 ∧ ¬ f_X7_in x lo hi = 0 ∧ lo ≤ x ∧ x ≤ hi) ∨ (¬ f_X6_outside x lo hi = 0 ∧ f_X7_in x lo hi = 0) := by
  by_cases h : lo ≤ x ∧ x ≤ hi
  · exact Or.inl ⟨out_p h, in_p h, h.1, h.2⟩
  · exact Or.inr ⟨out_n h, in_n h⟩
theorem rngN (x : Int32) (lo N : Nat) (h1 : lo ≤ N) (hN : N < 2147483648) : (∃ k, lo ≤ k ∧ k ≤ N ∧ x = nI k ∧ f_X6_outside x (nI lo) (nI N) = 0 ∧ ¬ f_X7_in x (nI lo) (nI N) = 0) ∨ (¬ f_X6_outside x (nI lo) (nI N) = 0 ∧ f_X7_in x (nI lo) (nI N) = 0) := by
  rcases rng x (nI lo) (nI N) with ⟨a, b, c, d⟩ | h
  · obtain ⟨k, hk, rfl⟩ := rngI hN (Int32.le_trans (nI_pos' (by omega)) c) d
    exact Or.inl ⟨k, (nI_leI (by omega) (by omega)).mp c, hk, rfl, a, b⟩
  · exact Or.inr h
theorem ism1 {x : Int32} (h1 : (-1 : Int32) ≤ x) (h2 : ¬ (0 : Int32) ≤ x) : x = -1 := by
  rw [Int32.le_iff_toInt_le] at h1 h2
  rw [show (-1 : Int32).toInt = -1 by decide] at h1
  rw [show (0 : Int32).toInt = 0 by decide] at h2
  exact Int32.toInt_inj.mp (by rw [show (-1 : Int32).toInt = -1 by decide]; omega)
/-- the book and its rules, on both sides -/
def HdR (hc : Nat) (cd : Nat → Nat) (rul : Nat → Int32) : Prop := ∀ i, i < hc → rul (4 * i) = nI (cd i / 100) ∧ rul (4 * i + 1) = nI (cd i / 20 % 5) ∧ rul (4 * i + 2) = nI (cd i / 4 % 5) ∧ rul (4 * i + 3) = nI (cd i % 4 + 1)
def PX (n hc : Nat) (cd : Nat → Nat) (g : Nat → Option Nat) (mk : Nat → Nat) (vil mar hld sta mks rul : Nat → Int32) : Prop :=
  (2 ≤ n ∧ n ≤ 10) ∧ hc ≤ 6 ∧ (∀ i, i < hc → cd i < 600) ∧ BkO g mk ∧ BkC g mk vil mar ∧ BkR g mk sta mks ∧ (∀ i, i < hc → hld i = nI (cd i)) ∧ HdR hc cd rul
theorem bkO_set {g : Nat → Option Nat} {mk : Nat → Nat} {k : Nat} {o : Option Nat} (ho : BkO g mk) (hk : k < 24) (hs : sm o) : BkO (fun y => if y = k then o else g y) mk := by
  refine ⟨fun y => ?_, fun y hy => ?_, ho.2.2⟩
  · show sm (if y = k then o else g y)
    split
    · exact hs
    · exact ho.1 y
  · show (if y = k then o else g y) = none
    rw [if_neg (by omega)]; exact ho.2.1 y hy
theorem bkC_set {g : Nat → Option Nat} {mk : Nat → Nat} {v m : Nat → Int32} {k : Nat} {o : Option Nat} (hb : BkC g mk v m) : BkC (fun y => if y = k then o else g y) mk (upd v k (ov o)) m := by
  refine ⟨fun y hy => ?_, hb.2⟩
  show upd v k (ov o) y = ov (if y = k then o else g y)
  by_cases e : y = k
  · rw [if_pos e, e, pk_us]
  · rw [if_neg e, pk_un e, hb.1 y hy]
theorem bkR_set {g : Nat → Option Nat} {mk : Nat → Nat} {v m : Nat → Int32} {k : Nat} {o : Option Nat} (hb : BkR g mk v m) : BkR (fun y => if y = k then o else g y) mk (upd v k (rv o)) m := by
  refine ⟨fun y hy => ?_, hb.2⟩
  show upd v k (rv o) y = rv (if y = k then o else g y)
  by_cases e : y = k
  · rw [if_pos e, e, pk_us]
  · rw [if_neg e, pk_un e, hb.1 y hy]
theorem rv_ans {o : Option Nat} (h : sm o) : (if (0 : Int32) ≤ rv o then rv o else -9) = ov o := by
  cases o with
  | none => rfl
  | some w => rw [if_pos (rvs_p (h w rfl))]; rfl
section
variable {n hc : Nat} {cd : Nat → Nat} {g : Nat → Option Nat} {mk : Nat → Nat} {vil mar hld sta mks rul : Nat → Int32}
theorem op_year (P : PX n hc cd g mk vil mar hld sta mks rul) (i1 i2 : Int32) : ∃ r vil' sta' g', f_X6_year i1 i2 vil = some (r, vil') ∧ f_X7_year i1 i2 sta = some (r, sta') ∧ PX n hc cd g' mk vil' mar hld sta' mks rul := by
  obtain ⟨hn, hh, hcd, ho, hC, hR, hl, hr⟩ := P
  unfold f_X6_year f_X7_year f_X7_isYear
  rcases rngN i1 0 23 (by omega) (by omega) with ⟨k, _, hk, rfl, a1, a2⟩ | ⟨a1, a2⟩
  · rw [if_pos (show f_X6_outside (nI k) 0 23 = 0 from a1), if_neg (show ¬ f_X7_in (nI k) 0 23 = 0 from a2)]
    have h24 : k < 24 := by omega
    have h100 : k < 100 := by omega
    rcases rng i2 (-1) 9 with ⟨b1, b2, b3, b4⟩ | ⟨b1, b2⟩
    · simp only [if_pos b1, if_neg b2, gd_nI h24 (by decide), gd_nI h100 (by decide), clp h24 (by decide)]
      rw [hC.1 k h24, hR.1 k h100]
      have e9 : ∀ x : Nat → Int32, (if (0 : Int32) ≤ rv (g k) then some (rv (g k), x) else some (-9, x)) = some (ov (g k), x) := fun x => by
        cases hg : g k with
        | none => rfl
        | some w => rw [if_pos (rvs_p (ho.1 k w hg))]; rfl
      by_cases c : (0 : Int32) ≤ i2
      · obtain ⟨w, hw, rfl⟩ := rngI (N := 9) (by omega) c b4
        exact ⟨_, _, _, _, by rw [if_pos c]; rfl, e9 _, hn, hh, hcd, bkO_set ho h24 (sm_s (show w < 10 by omega)), bkC_set hC, bkR_set hR, hl, hr⟩
      · obtain rfl := ism1 b3 c
        exact ⟨_, _, _, _, by rw [if_neg c]; rfl, e9 _, hn, hh, hcd, bkO_set ho h24 sm_n, bkC_set (o := none) hC, bkR_set (o := none) hR, hl, hr⟩
    · rw [if_neg b1, if_pos b2]
      exact ⟨_, _, _, _, rfl, rfl, hn, hh, hcd, ho, hC, hR, hl, hr⟩
  · rw [if_neg (show ¬ f_X6_outside i1 0 23 = 0 from a1), if_pos (show f_X7_in i1 0 23 = 0 from a2)]
    exact ⟨_, _, _, _, rfl, rfl, hn, hh, hcd, ho, hC, hR, hl, hr⟩
theorem op_mark (P : PX n hc cd g mk vil mar hld sta mks rul) (i1 i2 : Int32) : ∃ r mar' mks' mk', f_X6_mark i1 i2 mar = some (r, mar') ∧ f_X7_mark i1 i2 mks = some (r, mks') ∧ PX n hc cd g mk' vil mar' hld sta mks' rul := by
  obtain ⟨hn, hh, hcd, ho, hC, hR, hl, hr⟩ := P
  unfold f_X6_mark f_X7_mark f_X7_isYear
  rcases rngN i1 0 23 (by omega) (by omega) with ⟨k, _, hk, rfl, a1, a2⟩ | ⟨a1, a2⟩
  · rw [if_pos (show f_X6_outside (nI k) 0 23 = 0 from a1), if_neg (show ¬ f_X7_in (nI k) 0 23 = 0 from a2)]
    have h24 : k < 24 := by omega
    have h100 : k < 100 := by omega
    rcases rngN i2 0 9 (by omega) (by omega) with ⟨w, _, hw, rfl, b1, b2⟩ | ⟨b1, b2⟩
    · rw [if_pos (show f_X6_outside (nI w) 0 9 = 0 from b1), if_neg (show ¬ f_X7_in (nI w) 0 9 = 0 from b2)]
      simp only [gd_nI h24 (by decide), gd_nI h100 (by decide), clp h24 (by decide)]
      rw [hC.2 k h24, hR.2 k h100]
      refine ⟨_, _, _, fun y => if y = k then w else mk y, rfl, rfl, hn, hh, hcd, ⟨ho.1, ho.2.1, fun y => ?_, fun y hy => ?_⟩, ⟨hC.1, fun y hy => ?_⟩, ⟨hR.1, fun y hy => ?_⟩, hl, hr⟩
      · show (if y = k then w else mk y) ≤ 9
        split
        · exact hw
        · exact ho.2.2.1 y
      · show (if y = k then w else mk y) = 0
        rw [if_neg (by omega)]; exact ho.2.2.2 y hy
      · show upd mar k (nI w) y = nI (if y = k then w else mk y)
        by_cases e : y = k
        · rw [if_pos e, e, pk_us]
        · rw [if_neg e, pk_un e, hC.2 y hy]
      · show upd mks k (nI w) y = nI (if y = k then w else mk y)
        by_cases e : y = k
        · rw [if_pos e, e, pk_us]
        · rw [if_neg e, pk_un e, hR.2 y hy]
    · rw [if_neg (show ¬ f_X6_outside i2 0 9 = 0 from b1), if_pos (show f_X7_in i2 0 9 = 0 from b2)]
      exact ⟨_, _, _, _, rfl, rfl, hn, hh, hcd, ho, hC, hR, hl, hr⟩
  · rw [if_neg (show ¬ f_X6_outside i1 0 23 = 0 from a1), if_pos (show f_X7_in i1 0 23 = 0 from a2)]
    exact ⟨_, _, _, _, rfl, rfl, hn, hh, hcd, ho, hC, hR, hl, hr⟩
theorem op_yearOf (P : PX n hc cd g mk vil mar hld sta mks rul) (i1 i2 : Int32) : ∃ r, f_X6_yearOf i1 i2 vil mar = some r ∧ f_X7_yearOf i1 i2 mks sta = some r := by
  obtain ⟨hn, hh, hcd, ho, hC, hR, hl, hr⟩ := P
  unfold f_X6_yearOf f_X7_yearOf f_X7_isYear f_X7_isSide
  rcases rngN i1 0 23 (by omega) (by omega) with ⟨k, _, hk, rfl, a1, a2⟩ | ⟨a1, a2⟩
  · rw [if_pos (show f_X6_outside (nI k) 0 23 = 0 from a1), if_neg (show ¬ f_X7_in (nI k) 0 23 = 0 from a2)]
    have h24 : k < 24 := by omega
    have h100 : k < 100 := by omega
    rcases rngN i2 0 1 (by omega) (by omega) with ⟨w, _, hw, rfl, b1, b2⟩ | ⟨b1, b2⟩
    · rw [if_pos (show f_X6_outside (nI w) 0 1 = 0 from b1), if_neg (show ¬ f_X7_in (nI w) 0 1 = 0 from b2)]
      simp only [gd_nI h24 (by decide), gd_nI h100 (by decide), clp h24 (by decide)]
      rw [hC.1 k h24, hR.1 k h100, hC.2 k h24, hR.2 k h100]
      have e9 : (if (0 : Int32) ≤ rv (g k) then some (rv (g k)) else some (-9)) = some (ov (g k)) := by
        cases hg : g k with
        | none => rfl
        | some w => rw [if_pos (rvs_p (ho.1 k w hg))]; rfl
      rcases (show w = 0 ∨ w = 1 by omega) with rfl | rfl
      · exact ⟨_, if_pos rfl, (if_neg (show ¬ nI 0 = (1 : Int32) by decide)).trans e9⟩
      · exact ⟨_, if_neg (show ¬ nI 1 = (0 : Int32) by decide), if_pos rfl⟩
    · rw [if_neg (show ¬ f_X6_outside i2 0 1 = 0 from b1), if_pos (show f_X7_in i2 0 1 = 0 from b2)]
      exact ⟨_, rfl, rfl⟩
  · rw [if_neg (show ¬ f_X6_outside i1 0 23 = 0 from a1), if_pos (show f_X7_in i1 0 23 = 0 from a2)]
    exact ⟨_, rfl, rfl⟩
theorem op_villages (P : PX n hc cd g mk vil mar hld sta mks rul) (i1 : Int32) : ∃ r n', f_X6_villages i1 (nI n) = some (r, nI n') ∧ f_X7_villages i1 (nI n) = some (r, nI n') ∧ PX n' hc cd g mk vil mar hld sta mks rul := by
  obtain ⟨hn, hh, hcd, ho, hC, hR, hl, hr⟩ := P
  unfold f_X6_villages f_X7_villages
  rcases rngN i1 2 10 (by omega) (by omega) with ⟨k, hk2, hk, rfl, a1, a2⟩ | ⟨a1, a2⟩
  · rw [if_pos (show f_X6_outside (nI k) 2 10 = 0 from a1), if_neg (show ¬ f_X7_in (nI k) 2 10 = 0 from a2)]
    exact ⟨_, _, rfl, rfl, ⟨hk2, hk⟩, hh, hcd, ho, hC, hR, hl, hr⟩
  · rw [if_neg (show ¬ f_X6_outside i1 2 10 = 0 from a1), if_pos (show f_X7_in i1 2 10 = 0 from a2)]
    exact ⟨_, _, rfl, rfl, hn, hh, hcd, ho, hC, hR, hl, hr⟩
theorem op_hold (P : PX n hc cd g mk vil mar hld sta mks rul) (i1 i2 i3 i4 : Int32) : ∃ r hc' cd' hld' rul', f_X6_hold i1 i2 i3 i4 (nI hc) hld = some (r, nI hc', hld') ∧ f_X7_hold i1 i2 i3 i4 (nI hc) rul = some (r, nI hc', rul') ∧ PX n hc' cd' g mk vil mar hld' sta mks rul' := by
  obtain ⟨hn, hh, hcd, ho, hC, hR, hl, hr⟩ := P
  unfold f_X6_hold f_X7_hold
  rcases rngN i1 0 5 (by omega) (by omega) with ⟨a, _, ha, rfl, a1, a2⟩ | ⟨a1, a2⟩
  rotate_left
  · rw [if_neg (show ¬ f_X6_outside i1 0 5 = 0 from a1), if_pos (show f_X7_in i1 0 5 = 0 from a2)]
    exact ⟨_, _, _, _, _, rfl, rfl, hn, hh, hcd, ho, hC, hR, hl, hr⟩
  rw [if_pos (show f_X6_outside (nI a) 0 5 = 0 from a1), if_neg (show ¬ f_X7_in (nI a) 0 5 = 0 from a2)]
  rcases rngN i2 0 4 (by omega) (by omega) with ⟨b, _, hb, rfl, b1, b2⟩ | ⟨b1, b2⟩
  rotate_left
  · rw [if_neg (show ¬ f_X6_outside i2 0 4 = 0 from b1), if_pos (show f_X7_in i2 0 4 = 0 from b2)]
    exact ⟨_, _, _, _, _, rfl, rfl, hn, hh, hcd, ho, hC, hR, hl, hr⟩
  rw [if_pos (show f_X6_outside (nI b) 0 4 = 0 from b1), if_neg (show ¬ f_X7_in (nI b) 0 4 = 0 from b2)]
  rcases rngN i3 0 4 (by omega) (by omega) with ⟨c, _, hc3, rfl, c1, c2⟩ | ⟨c1, c2⟩
  rotate_left
  · rw [if_neg (show ¬ f_X6_outside i3 0 4 = 0 from c1), if_pos (show f_X7_in i3 0 4 = 0 from c2)]
    exact ⟨_, _, _, _, _, rfl, rfl, hn, hh, hcd, ho, hC, hR, hl, hr⟩
  rw [if_pos (show f_X6_outside (nI c) 0 4 = 0 from c1), if_neg (show ¬ f_X7_in (nI c) 0 4 = 0 from c2)]
  rcases rngN i4 1 4 (by omega) (by omega) with ⟨d, hd1, hd, rfl, d1, d2⟩ | ⟨d1, d2⟩
  rotate_left
  · rw [if_neg (show ¬ f_X6_outside i4 1 4 = 0 from d1), if_pos (show f_X7_in i4 1 4 = 0 from d2)]
    exact ⟨_, _, _, _, _, rfl, rfl, hn, hh, hcd, ho, hC, hR, hl, hr⟩
  rw [if_pos (show f_X6_outside (nI d) 1 4 = 0 from d1), if_neg (show ¬ f_X7_in (nI d) 1 4 = 0 from d2)]
  by_cases h6 : hc < 6
  · rw [if_pos (show nI hc < (6 : Int32) from nI_lt h6 (by decide)), if_neg (show ¬ nI hc = (6 : Int32) from fun z => by have := (nI_eq (b := 6) (by omega) (by omega)).mp z; omega)]
    unfold f_X0_holdRule
    rw [if_neg (nl6 h6), gd_nI h6 (by decide), clp h6 (by decide)]
    have ecode : f_X6_codeOf (nI a) (nI b) (nI c) (nI d) = nI (a * 100 + b * 20 + c * 4 + (d - 1)) := by
      unfold f_X6_codeOf
      rw [show nI a * (100 : Int32) = nI (a * 100) from pk_mul a 100, show nI b * (20 : Int32) = nI (b * 20) from pk_mul b 20, show nI c * (4 : Int32) = nI (c * 4) from pk_mul c 4, nI_add, nI_add, nI_add,
        show nI (a * 100 + b * 20 + c * 4 + d) - (1 : Int32) = nI (a * 100 + b * 20 + c * 4 + d - 1) from pk_sub (b := 1) (by omega), show a * 100 + b * 20 + c * 4 + d - 1 = a * 100 + b * 20 + c * 4 + (d - 1) by omega]
    rw [ecode, show (4 : Int32) * nI hc = nI (4 * hc) from pk_mul 4 hc, show nI (4 * hc) + (1 : Int32) = nI (4 * hc + 1) from nI_1 _, show nI (4 * hc) + (2 : Int32) = nI (4 * hc + 2) from nI_add _ 2, show nI (4 * hc) + (3 : Int32) = nI (4 * hc + 3) from nI_add _ 3]
    have q0 : 4 * hc < 24 := by omega
    have q1 : 4 * hc + 1 < 24 := by omega
    have q2 : 4 * hc + 2 < 24 := by omega
    have q3 : 4 * hc + 3 < 24 := by omega
    simp only [gd_nI q0 (by decide), gd_nI q1 (by decide), gd_nI q2 (by decide), gd_nI q3 (by decide), clp q0 (by decide), clp q1 (by decide), clp q2 (by decide), clp q3 (by decide), nI_1]
    refine ⟨_, hc + 1, fun i => if i = hc then a * 100 + b * 20 + c * 4 + (d - 1) else cd i, _, _, rfl, rfl, hn, by omega, fun i hi => ?_, ho, hC, hR, fun i hi => ?_, fun i hi => ?_⟩
    · show (if i = hc then a * 100 + b * 20 + c * 4 + (d - 1) else cd i) < 600
      split
      · omega
      · exact hcd i (by omega)
    · show upd hld hc (nI (a * 100 + b * 20 + c * 4 + (d - 1))) i = nI (if i = hc then a * 100 + b * 20 + c * 4 + (d - 1) else cd i)
      by_cases e : i = hc
      · rw [if_pos e, e, pk_us]
      · rw [if_neg e, pk_un e, hl i (by omega)]
    · by_cases e : i = hc
      · subst e
        simp only [if_true]
        refine ⟨?_, ?_, ?_, ?_⟩
        · rw [pk_un (by omega), pk_un (by omega), pk_un (by omega), pk_us]; congr 1; omega
        · rw [pk_un (by omega), pk_un (by omega), pk_us]; congr 1; omega
        · rw [pk_un (by omega), pk_us]; congr 1; omega
        · rw [pk_us]; congr 1; omega
      · simp only [if_neg e]
        have := hr i (by omega)
        refine ⟨?_, ?_, ?_, ?_⟩
        · rw [pk_un (by omega), pk_un (by omega), pk_un (by omega), pk_un (by omega)]; exact this.1
        · rw [pk_un (by omega), pk_un (by omega), pk_un (by omega), pk_un (by omega)]; exact this.2.1
        · rw [pk_un (by omega), pk_un (by omega), pk_un (by omega), pk_un (by omega)]; exact this.2.2.1
        · rw [pk_un (by omega), pk_un (by omega), pk_un (by omega), pk_un (by omega)]; exact this.2.2.2
  · obtain rfl : hc = 6 := by omega
    rw [if_neg (show ¬ nI 6 < (6 : Int32) by decide), if_pos (show nI 6 = (6 : Int32) from rfl)]
    exact ⟨_, _, _, _, _, rfl, rfl, hn, hh, hcd, ho, hC, hR, hl, hr⟩
/-- a held rule, on both sides -/
theorem held_c (i1 : Int32) (hh : hc ≤ 6) : (f_X0_holds i1 (nI hc) = 0 ∧ f_X7_isHeldRule i1 (nI hc) = 0) ∨ ∃ k, k < hc ∧ i1 = nI k ∧ ¬ f_X0_holds i1 (nI hc) = 0 ∧ ¬ f_X7_isHeldRule i1 (nI hc) = 0 := by
  unfold f_X0_holds f_X7_isHeldRule f_X7_in
  rcases pk_ix i1 (n := hc) (by omega) with h | h | ⟨k, hk, rfl⟩
  · rw [if_pos h, if_pos h]; exact Or.inl ⟨rfl, rfl⟩
  · have hm : nI hc - 1 < i1 := by
      rw [Int32.le_iff_toInt_le] at h
      rw [Int32.lt_iff_toInt_lt, show nI hc - 1 = nI hc - nI 1 from rfl, pk_sub_toInt (by omega) (by omega)]
      rw [nI_toInt (by omega)] at h
      omega
    left
    constructor
    · split
      · rfl
      · first | rfl | rw [if_pos h]
    · split
      · rfl
      · first | rfl | rw [if_pos hm]
  · right
    have e1 : nI hc - (1 : Int32) = nI (hc - 1) := pk_sub (b := 1) (by omega)
    have h6 : k < 6 := by omega
    refine ⟨k, hk, rfl, ?_, ?_⟩
    · rw [if_neg (nI_pos (by omega)), if_neg (nl hk (by omega)), if_neg (nl6 h6)]; decide
    · rw [if_neg (nI_pos (by omega)), e1, if_neg (nI_nlt (by omega) (by omega))]; decide
theorem of7 {i j : Nat} (hi : i < 6) (hj : j < 4) : f_X7_of (nI i) (nI j) rul = some (rul (4 * i + j)) := by
  unfold f_X7_of
  have h : 4 * i + j < 24 := by omega
  rw [show (4 : Int32) * nI i = nI (4 * i) from pk_mul 4 i, nI_add, gd_nI h (by decide), clp h (by decide)]
theorem heldS {k N : Nat} {y nn : Int32} {arr ma : Nat → Int32} (hh : hc ≤ 6) (hr : HdR hc cd rul) (hk : k < hc) : f_X7_heldSays (nI k) y N nn rul arr ma = f_X7_saysBy (nI (cd k / 100)) (nI (cd k / 20 % 5)) (nI (cd k / 4 % 5)) (nI (cd k % 4 + 1)) y N nn arr ma := by
  have h := hr k hk
  unfold f_X7_heldSays
  rw [show f_X7_of (nI k) 0 rul = some (rul (4 * k + 0)) from of7 (i := k) (j := 0) (by omega) (by omega), show f_X7_of (nI k) 1 rul = some (rul (4 * k + 1)) from of7 (i := k) (j := 1) (by omega) (by omega), show f_X7_of (nI k) 2 rul = some (rul (4 * k + 2)) from of7 (i := k) (j := 2) (by omega) (by omega), show f_X7_of (nI k) 3 rul = some (rul (4 * k + 3)) from of7 (i := k) (j := 3) (by omega) (by omega), Nat.add_zero, h.1, h.2.1, h.2.2.1, h.2.2.2]
  show bd1 (f_X7_saysBy _ _ _ _ _ _ _ _ _) (fun r_9 => some r_9) = _
  cases f_X7_saysBy (nI (cd k / 100)) (nI (cd k / 20 % 5)) (nI (cd k / 4 % 5)) (nI (cd k % 4 + 1)) y N nn arr ma <;> rfl
theorem part6 {c w : Nat} (ho : BkO g mk) (hC : BkC g mk vil mar) (hn : 2 ≤ n ∧ n ≤ 10) (hc : c < 600) (hw : w ≤ 5) : f_X6_partOf (nI c) (nI w) (nI n) vil mar = some (nI (if w = 0 then c / 100 else if w = 1 then c / 20 % 5 else if w = 2 then c / 4 % 5 else if w = 3 then c % 4 + 1 else if w = 4 then wd c else mis g n mk c)) := by
  unfold f_X6_partOf
  rw [miss6 ho hC hn hc, kindOf6 hc, aOf6 hc, bOf6 hc, kOf6 hc, wd6 hc]
  rcases (show w = 0 ∨ w = 1 ∨ w = 2 ∨ w = 3 ∨ w = 4 ∨ w = 5 by omega) with rfl | rfl | rfl | rfl | rfl | rfl <;> rfl
theorem op_ruleOf (P : PX n hc cd g mk vil mar hld sta mks rul) (i1 i2 : Int32) : ∃ r, f_X6_ruleOf i1 i2 (nI hc) (nI n) hld vil mar = some r ∧ f_X7_ruleOf i1 i2 (nI n) (nI hc) rul sta mks = some r := by
  obtain ⟨hn, hh, hcd, ho, hC, hR, hl, hr⟩ := P
  unfold f_X6_ruleOf f_X7_ruleOf
  rcases held_c i1 hh with ⟨a1, a2⟩ | ⟨k, hk, rfl, a1, a2⟩
  · rw [if_pos a1, if_pos a2]; exact ⟨_, rfl, rfl⟩
  · rw [if_neg a1, if_neg a2]
    rcases rngN i2 0 5 (by omega) (by omega) with ⟨w, _, hw, rfl, b1, b2⟩ | ⟨b1, b2⟩
    rotate_left
    · rw [if_neg (show ¬ f_X6_outside i2 0 5 = 0 from b1), if_pos (show f_X7_in i2 0 5 = 0 from b2)]
      exact ⟨_, rfl, rfl⟩
    · rw [if_pos (show f_X6_outside (nI w) 0 5 = 0 from b1), if_neg (show ¬ f_X7_in (nI w) 0 5 = 0 from b2)]
      have h6 : k < 6 := by omega
      have h := hr k hk
      have h0 : f_X7_of (nI k) 0 rul = some (nI (cd k / 100)) := (of7 (j := 0) h6 (by omega)).trans (congrArg some h.1)
      have h1 : f_X7_of (nI k) 1 rul = some (nI (cd k / 20 % 5)) := (of7 (j := 1) h6 (by omega)).trans (congrArg some h.2.1)
      have h2 : f_X7_of (nI k) 2 rul = some (nI (cd k / 4 % 5)) := (of7 (j := 2) h6 (by omega)).trans (congrArg some h.2.2.1)
      have h3 : f_X7_of (nI k) 3 rul = some (nI (cd k % 4 + 1)) := (of7 (j := 3) h6 (by omega)).trans (congrArg some h.2.2.2)
      rw [gd_nI h6 (by decide), clp h6 (by decide), hl k hk, part6 ho hC hn (hcd k hk) hw]
      rcases (show w = 0 ∨ w = 1 ∨ w = 2 ∨ w = 3 ∨ w = 4 ∨ w = 5 by omega) with rfl | rfl | rfl | rfl | rfl | rfl
      · rw [if_neg (show ¬ (4 : Int32) ≤ nI 0 by decide), show nI 0 = (0 : Int32) from rfl, h0]; exact ⟨_, rfl, rfl⟩
      · rw [if_neg (show ¬ (4 : Int32) ≤ nI 1 by decide), show nI 1 = (1 : Int32) from rfl, h1]; exact ⟨_, rfl, rfl⟩
      · rw [if_neg (show ¬ (4 : Int32) ≤ nI 2 by decide), show nI 2 = (2 : Int32) from rfl, h2]; exact ⟨_, rfl, rfl⟩
      · rw [if_neg (show ¬ (4 : Int32) ≤ nI 3 by decide), show nI 3 = (3 : Int32) from rfl, h3]; exact ⟨_, rfl, rfl⟩
      · rw [if_pos (show (4 : Int32) ≤ nI 4 by decide), if_pos (show nI 4 = (4 : Int32) from rfl), h1, h2, h3]
        exact ⟨_, rfl, congrArg some (wd7x (by omega) (by omega) (by omega))⟩
      · rw [if_pos (show (4 : Int32) ≤ nI 5 by decide), if_neg (show ¬ nI 5 = (4 : Int32) by decide), h0, h1, h2, h3]
        refine ⟨_, rfl, ?_⟩
        show bd1 (f_X7_missesOf _ _ _ _ _ _ _) (fun r => some r) = _
        rw [miss7 ho hR hn (hcd k hk)]
        rfl
theorem drop6_j : ∀ (d x f : Nat) (h : Nat → Int32), x + d + 1 = hc → hc ≤ 6 → d < f → ∃ h', f_X0_dropRule_L2 (nI hc) f (nI x) h = some h' ∧ ∀ z, h' z = if x ≤ z ∧ z + 1 < hc then h (z + 1) else h z := by
  intro d
  induction d with
  | zero =>
    intro x f h hx hh hf
    obtain ⟨f, rfl⟩ : ∃ q, f = q + 1 := ⟨f - 1, by omega⟩
    refine ⟨h, ?_, fun z => by rw [if_neg (by omega)]⟩
    rw [f_X0_dropRule_L2, if_neg (nI_pos (by omega)), nI_1, if_pos (nI_le (by omega) (by omega))]
  | succ d ih =>
    intro x f h hx hh hf
    obtain ⟨f, rfl⟩ : ∃ q, f = q + 1 := ⟨f - 1, by omega⟩
    have h6 : x < 6 := by omega
    have h61 : x + 1 < 6 := by omega
    rw [f_X0_dropRule_L2, if_neg (nI_pos (by omega)), nI_1, if_neg (nl (by omega) (by omega)), if_neg (nl6 h61), gd_nI h61 (by decide), gd_nI h6 (by decide), clp h6 (by decide), clp h61 (by decide)]
    obtain ⟨h', e1, e2⟩ := ih (x + 1) f (upd h x (h (x + 1))) (by omega) hh (by omega)
    refine ⟨h', e1, fun z => ?_⟩
    rw [e2 z]
    by_cases c : z = x
    · subst c; rw [if_neg (by omega), if_pos (by omega), pk_us]
    · by_cases c2 : x ≤ z ∧ z + 1 < hc
      · rw [if_pos (by omega), if_pos c2, pk_un (by omega)]
      · rw [if_neg (by omega), if_neg c2, pk_un c]
theorem drop7_j : ∀ (d x f : Nat) (h : Nat → Int32), x + d = 4 * (hc - 1) → 1 ≤ hc → hc ≤ 6 → d < f → ∃ h', f_X7_drop_L24 (nI hc) f (nI x) h = some h' ∧ ∀ z, h' z = if x ≤ z ∧ z < 4 * (hc - 1) then h (z + 4) else h z := by
  intro d
  induction d with
  | zero =>
    intro x f h hx h1 hh hf
    obtain ⟨f, rfl⟩ : ∃ q, f = q + 1 := ⟨f - 1, by omega⟩
    refine ⟨h, ?_, fun z => by rw [if_neg (by omega)]⟩
    rw [f_X7_drop_L24, show nI hc - (1 : Int32) = nI (hc - 1) from pk_sub (b := 1) h1, show (4 : Int32) * nI (hc - 1) = nI (4 * (hc - 1)) from pk_mul 4 _, if_pos (nI_le (by omega) (by omega))]
  | succ d ih =>
    intro x f h hx h1 hh hf
    obtain ⟨f, rfl⟩ : ∃ q, f = q + 1 := ⟨f - 1, by omega⟩
    have h6 : x < 24 := by omega
    have h61 : x + 4 < 24 := by omega
    rw [f_X7_drop_L24, show nI hc - (1 : Int32) = nI (hc - 1) from pk_sub (b := 1) h1, show (4 : Int32) * nI (hc - 1) = nI (4 * (hc - 1)) from pk_mul 4 _, if_neg (nl (by omega) (by omega)), show nI x + (4 : Int32) = nI (x + 4) from nI_add x 4, gd_nI h61 (by decide), gd_nI h6 (by decide), clp h6 (by decide), clp h61 (by decide), nI_1]
    obtain ⟨h', e1, e2⟩ := ih (x + 1) f (upd h x (h (x + 4))) (by omega) h1 hh (by omega)
    refine ⟨h', e1, fun z => ?_⟩
    rw [e2 z]
    by_cases c : z = x
    · subst c; rw [if_neg (by omega), if_pos (by omega), pk_us]
    · by_cases c2 : x ≤ z ∧ z < 4 * (hc - 1)
      · rw [if_pos (by omega), if_pos c2, pk_un (by omega)]
      · rw [if_neg (by omega), if_neg c2, pk_un c]
theorem op_drop (P : PX n hc cd g mk vil mar hld sta mks rul) (i1 : Int32) : ∃ r hc' cd' hld' rul', f_X6_drop i1 (nI hc) hld = some (r, nI hc', hld') ∧ f_X7_drop i1 (nI hc) rul = some (r, nI hc', rul') ∧ PX n hc' cd' g mk vil mar hld' sta mks rul' := by
  obtain ⟨hn, hh, hcd, ho, hC, hR, hl, hr⟩ := P
  unfold f_X6_drop f_X7_drop
  rcases held_c i1 hh with ⟨a1, a2⟩ | ⟨k, hk, rfl, a1, a2⟩
  · rw [if_pos a1, if_pos a2]; exact ⟨_, _, _, _, _, rfl, rfl, hn, hh, hcd, ho, hC, hR, hl, hr⟩
  · rw [if_neg a1, if_neg a2]
    obtain ⟨h1, e1, e2⟩ := drop6_j (hc := hc) (hc - 1 - k) k 1000 hld (by omega) hh (by omega)
    obtain ⟨h3, e3, e4⟩ := drop7_j (hc := hc) (4 * (hc - 1) - 4 * k) (4 * k) 1000 rul (by omega) (by omega) hh (by omega)
    unfold f_X0_dropRule
    rw [e1, show (4 : Int32) * nI k = nI (4 * k) from pk_mul 4 k, e3, show nI hc - (1 : Int32) = nI (hc - 1) from pk_sub (b := 1) (by omega)]
    refine ⟨_, hc - 1, fun i => if i < k then cd i else cd (i + 1), h1, h3, rfl, rfl, hn, by omega, fun i hi => ?_, ho, hC, hR, fun i hi => ?_, fun i hi => ?_⟩
    · show (if i < k then cd i else cd (i + 1)) < 600
      split <;> exact hcd _ (by omega)
    · show h1 i = nI (if i < k then cd i else cd (i + 1))
      rw [e2 i]
      by_cases c : i < k
      · rw [if_neg (by omega), if_pos c, hl i (by omega)]
      · rw [if_pos (by omega), if_neg c, hl (i + 1) (by omega)]
    · by_cases c : i < k
      · have := hr i (by omega)
        simp only [if_pos c, e4]
        rw [if_neg (by omega), if_neg (by omega), if_neg (by omega), if_neg (by omega)]
        exact this
      · have := hr (i + 1) (by omega)
        simp only [if_neg c, e4]
        rw [if_pos (by omega), if_pos (by omega), if_pos (by omega), if_pos (by omega)]
        rw [show 4 * i + 4 = 4 * (i + 1) by omega, show 4 * i + 1 + 4 = 4 * (i + 1) + 1 by omega, show 4 * i + 2 + 4 = 4 * (i + 1) + 2 by omega, show 4 * i + 3 + 4 = 4 * (i + 1) + 3 by omega]
        exact this
theorem op_says (P : PX n hc cd g mk vil mar hld sta mks rul) (i1 i2 : Int32) : ∃ r, f_X6_says i1 i2 (nI hc) (nI n) hld vil mar = some r ∧ f_X7_says i1 i2 (nI n) (nI hc) rul sta mks = some r := by
  obtain ⟨hn, hh, hcd, ho, hC, hR, hl, hr⟩ := P
  unfold f_X6_says f_X7_says f_X7_isLong
  rcases held_c i1 hh with ⟨a1, a2⟩ | ⟨k, hk, rfl, a1, a2⟩
  · rw [if_pos a1, if_pos a2]; exact ⟨_, rfl, rfl⟩
  · rw [if_neg a1, if_neg a2]
    rcases rngN i2 0 99 (by omega) (by omega) with ⟨y, _, hy, rfl, b1, b2⟩ | ⟨b1, b2⟩
    · rw [if_pos (show f_X6_outside (nI y) 0 99 = 0 from b1), if_neg (show ¬ f_X7_in (nI y) 0 99 = 0 from b2)]
      have h6 : k < 6 := by omega
      rw [gd_nI h6 (by decide), clp h6 (by decide), hl k hk, say6 ho hC hn (hcd k hk) (by omega), heldS hh hr hk, say7 ho hR hn (hcd k hk) (by omega)]
      exact ⟨_, rfl, rfl⟩
    · rw [if_neg (show ¬ f_X6_outside i2 0 99 = 0 from b1), if_pos (show f_X7_in i2 0 99 = 0 from b2)]
      exact ⟨_, rfl, rfl⟩
end
