/-! ===== shelves ===== -/
def SV (sr ss sz ho hu hz : Nat → Int32) : Prop := ∀ i, i < 4 → (sr i = -1 ∧ ss i = -1 ∧ ho i = -1) ∨ (∃ k, k < 6 ∧ sr i = nI k ∧ ss i = -1 ∧ ho i = 0 ∧ hu i = nI k) ∨ (∃ q, q < 4 ∧ sr i = -1 ∧ ss i = nI q ∧ ho i = 1 ∧ hu i = nI q ∧ hz i = sz i)
theorem clear3 {i : Nat} (hi : i < 4) (sr ss sz : Nat → Int32) : f_X3_clear (nI i) sr ss sz = some (upd sr i (-1), upd ss i (-1), upd sz i 0) := by
  unfold f_X3_clear
  rw [if_neg (nI_pos (by omega)), if_neg (show ¬ (4 : Int32) ≤ nI i from nl (N := 4) hi (by decide)), gd_nI hi (by decide), gd_nI hi (by decide), gd_nI hi (by decide), clp hi (by decide)]
theorem holdRule3 {i : Nat} (hi : i < 4) (x : Int32) (sr ss sz : Nat → Int32) : f_X3_holdRule (nI i) x sr ss sz = some (upd (upd sr i (-1)) i x, upd ss i (-1), upd sz i 0) := by
  unfold f_X3_holdRule
  rw [clear3 hi]
  simp only [bd3]
  rw [if_neg (nI_pos (by omega)), if_neg (show ¬ (4 : Int32) ≤ nI i from nl (N := 4) hi (by decide)), gd_nI hi (by decide), clp hi (by decide)]
theorem holdRow3 {i : Nat} (hi : i < 4) (x y : Int32) (sr ss sz : Nat → Int32) : f_X3_holdRow (nI i) x y sr ss sz = some (upd sr i (-1), upd (upd ss i (-1)) i x, upd (upd sz i 0) i y) := by
  unfold f_X3_holdRow
  rw [clear3 hi]
  simp only [bd3]
  rw [if_neg (nI_pos (by omega)), if_neg (show ¬ (4 : Int32) ≤ nI i from nl (N := 4) hi (by decide)), gd_nI hi (by decide), gd_nI hi (by decide), clp hi (by decide)]
theorem sv_set {sr ss sz ho hu hz sr' ss' sz' ho' hu' hz' : Nat → Int32} {i : Nat} (V : SV sr ss sz ho hu hz) (e : ∀ k, k ≠ i → sr' k = sr k ∧ ss' k = ss k ∧ sz' k = sz k ∧ ho' k = ho k ∧ hu' k = hu k ∧ hz' k = hz k)
    (h : (sr' i = -1 ∧ ss' i = -1 ∧ ho' i = -1) ∨ (∃ k, k < 6 ∧ sr' i = nI k ∧ ss' i = -1 ∧ ho' i = 0 ∧ hu' i = nI k) ∨ (∃ q, q < 4 ∧ sr' i = -1 ∧ ss' i = nI q ∧ ho' i = 1 ∧ hu' i = nI q ∧ hz' i = sz' i)) : SV sr' ss' sz' ho' hu' hz' := by
  intro k hk
  by_cases c : k = i
  · rw [c]; exact h
  · obtain ⟨e1, e2, e3, e4, e5, e6⟩ := e k c
    rw [e1, e2, e3, e4, e5, e6]; exact V k hk
section
variable {n hc : Nat} {cd : Nat → Nat} {g : Nat → Option Nat} {mk : Nat → Nat} {vil mar hld sta mks rul : Nat → Int32}
theorem op_shelf {so si so2 si2 : Nat → Int32} {it it2 : Nat → Int64} {sr ss sz ho hu hz : Nat → Int32} (hh : hc ≤ 6) (S : SH so si it so2 si2 it2) (V : SV sr ss sz ho hu hz) (i1 i2 i3 : Int32) :
    ∃ (r : Int32) (sr' ss' sz' ho' hu' hz' : Nat → Int32), f_X6_shelf i1 i2 i3 (nI hc) sr ss sz so si = some (r, sr', ss', sz') ∧ f_X7_shelf i1 i2 i3 (nI hc) so2 ho hu si2 hz = some (r, ho', hu', hz') ∧ SV sr' ss' sz' ho' hu' hz' := by
  unfold f_X6_shelf f_X7_shelf
  rcases rngN i1 0 3 (by omega) (by omega) with ⟨i, _, hi, rfl, a1, a2⟩ | ⟨a1, a2⟩
  rotate_left
  · rw [if_neg (show ¬ f_X6_outside i1 0 3 = 0 from a1), if_pos (show f_X7_isShelf i1 = 0 from a2)]; exact ⟨_, _, _, _, _, _, _, rfl, rfl, V⟩
  have hi4 : i < 4 := by omega
  rw [if_pos (show f_X6_outside (nI i) 0 3 = 0 from a1), if_neg (show ¬ f_X7_isShelf (nI i) = 0 from a2)]
  rcases rngN i2 0 2 (by omega) (by omega) with ⟨w, _, hw, rfl, b1, b2⟩ | ⟨b1, b2⟩
  rotate_left
  · have hmay : f_X7_mayHold i2 i3 (nI hc) = 0 := by
      unfold f_X7_mayHold
      rw [if_neg (fun z => (in_0 _ _ _).mp b2 (by rw [z]; decide)), if_neg (fun z => (in_0 _ _ _).mp b2 (by rw [z]; decide)), if_neg (fun z => (in_0 _ _ _).mp b2 (by rw [z]; decide))]
    rw [if_neg (show ¬ f_X6_outside i2 0 2 = 0 from b1), if_pos hmay]; exact ⟨_, _, _, _, _, _, _, rfl, rfl, V⟩
  rw [if_pos (show f_X6_outside (nI w) 0 2 = 0 from b1)]
  unfold f_X7_mayHold
  have n01 : ¬ nI 0 = (1 : Int32) := by decide
  have n02 : ¬ nI 0 = (2 : Int32) := by decide
  have n10 : ¬ nI 1 = (0 : Int32) := by decide
  have n12 : ¬ nI 1 = (2 : Int32) := by decide
  have n20 : ¬ nI 2 = (0 : Int32) := by decide
  have n21 : ¬ nI 2 = (1 : Int32) := by decide
  have p00 : nI 0 = (0 : Int32) := rfl
  have p11 : nI 1 = (1 : Int32) := rfl
  have p22 : nI 2 = (2 : Int32) := rfl
  rcases (show w = 0 ∨ w = 1 ∨ w = 2 by omega) with rfl | rfl | rfl
  · simp only [if_pos p00, if_neg n01, if_neg n02]
    rcases held_c i3 hh with ⟨c1, c2⟩ | ⟨k, hk, rfl, c1, c2⟩
    · rw [if_pos c1, if_pos c2]; exact ⟨_, _, _, _, _, _, _, rfl, rfl, V⟩
    · rw [if_neg c1, if_neg c2, holdRule3 hi4]
      simp only [bd1, bd3, gd_nI hi4 (show 4 < 2147483648 by decide), clp hi4 (show 4 < 2147483648 by decide)]
      refine ⟨_, _, _, _, _, _, _, rfl, rfl, sv_set V (i := i) (fun z hz => ⟨by rw [pk_un hz, pk_un hz], by rw [pk_un hz], by rw [pk_un hz], by rw [pk_un hz], by rw [pk_un hz], by rw [pk_un hz]⟩) (Or.inr (Or.inl ⟨k, by omega, pk_us, pk_us, pk_us, pk_us⟩))⟩
  · simp only [if_neg n10, if_pos p11, if_neg n12]
    rcases rngN i3 0 3 (by omega) (by omega) with ⟨j, _, hj, rfl, c1, c2⟩ | ⟨c1, c2⟩
    · have hj4 : j < 4 := by omega
      obtain ⟨s1, s2, m, hm, s3, s4⟩ := S.1 j hj4
      rw [if_pos (show f_X6_outside (nI j) 0 3 = 0 from c1), if_neg (show ¬ f_X7_isShelf (nI j) = 0 from c2), clear3 hi4, holdRow3 hi4]
      simp only [bd1, bd3, gd_nI hi4 (show 4 < 2147483648 by decide), clp hi4 (show 4 < 2147483648 by decide), gd_nI hj4 (show 4 < 2147483648 by decide), clp hj4 (show 4 < 2147483648 by decide), s1, s3, s4]
      rcases so_ge s2 with ⟨c, q, hq, hq2⟩ | ⟨c, hq2⟩
      · rw [if_neg (Int32.not_lt.mpr c), if_pos c]
        refine ⟨_, _, _, _, _, _, _, rfl, rfl, sv_set V (i := i) (fun z hz => ⟨by rw [pk_un hz], by rw [pk_un hz, pk_un hz], by rw [pk_un hz, pk_un hz], by rw [pk_un hz], by rw [pk_un hz], by rw [pk_un hz]⟩) (Or.inr (Or.inr ⟨q, hq, pk_us, by rw [pk_us, hq2], by rw [pk_us]; rfl, by rw [pk_us, hq2], by rw [pk_us, pk_us]⟩))⟩
      · rw [if_pos (Int32.not_le.mp c), if_neg c]
        refine ⟨_, _, _, _, _, _, _, rfl, rfl, sv_set V (i := i) (fun z hz => ⟨by rw [pk_un hz], by rw [pk_un hz], by rw [pk_un hz], by rw [pk_un hz], by rw [pk_un hz], by rw [pk_un hz]⟩) (Or.inl ⟨pk_us, pk_us, pk_us⟩)⟩
    · rw [if_neg (show ¬ f_X6_outside i3 0 3 = 0 from c1), if_pos (show f_X7_isShelf i3 = 0 from c2)]; exact ⟨_, _, _, _, _, _, _, rfl, rfl, V⟩
  · simp only [if_neg n20, if_neg n21, if_pos p22, if_neg (show ¬ (1 : Int32) = 0 by decide)]
    rw [clear3 hi4]
    simp only [bd1, bd3, gd_nI hi4 (show 4 < 2147483648 by decide), clp hi4 (show 4 < 2147483648 by decide)]
    refine ⟨_, _, _, _, _, _, _, rfl, rfl, sv_set V (i := i) (fun z hz => ⟨by rw [pk_un hz], by rw [pk_un hz], by rw [pk_un hz], by rw [pk_un hz], by rw [pk_un hz], by rw [pk_un hz]⟩) (Or.inl ⟨pk_us, pk_us, pk_us⟩)⟩
/-- what a shelf holds -/
theorem shelf_c {sr ss sz ho hu hz : Nat → Int32} (hh : hc ≤ 6) (hcd : ∀ i, i < hc → cd i < 600) (hr : HdR hc cd rul) (V : SV sr ss sz ho hu hz) {i : Nat} (hi : i < 4) :
    (f_X0_holds (sr i) (nI hc) = 0 ∧ ¬ (0 : Int32) ≤ ss i ∧ f_X7_kindOn (nI i) (nI hc) ho hu rul = some (-1)) ∨
    (∃ k, k < hc ∧ sr i = nI k ∧ hu i = nI k ∧ ¬ f_X0_holds (sr i) (nI hc) = 0 ∧ f_X7_kindOn (nI i) (nI hc) ho hu rul = some (nI (cd k / 100))) ∨
    (∃ q, q < 4 ∧ f_X0_holds (sr i) (nI hc) = 0 ∧ ss i = nI q ∧ hu i = nI q ∧ hz i = sz i ∧ f_X7_kindOn (nI i) (nI hc) ho hu rul = some 9) := by
  unfold f_X7_kindOn
  simp only [gd_nI hi (show 4 < 2147483648 by decide), clp hi (show 4 < 2147483648 by decide)]
  have hm : f_X0_holds (-1) (nI hc) = 0 := by unfold f_X0_holds; rw [if_pos (by decide)]
  rcases V i hi with ⟨v1, v2, v3⟩ | ⟨k, hk, v1, v2, v3, v4⟩ | ⟨q, hq, v1, v2, v3, v4, v5⟩
  · refine Or.inl ⟨by rw [v1]; exact hm, by rw [v2]; decide, ?_⟩
    rw [v3, if_neg (by decide), if_neg (by decide)]
  · rw [v1, v2, v3, v4, if_pos rfl]
    rcases held_c (hc := hc) (nI k) hh with ⟨c1, c2⟩ | ⟨k', hk', e, c1, c2⟩
    · exact Or.inl ⟨c1, by decide, by rw [if_pos c2]⟩
    · have hkk : k = k' := (nI_eq (by omega) (by omega)).mp e
      have hk2 : k < hc := by omega
      refine Or.inr (Or.inl ⟨k, hk2, rfl, rfl, c1, ?_⟩)
      rw [if_neg c2, show f_X7_of (nI k) 0 rul = some (rul (4 * k + 0)) from of7 (i := k) (j := 0) hk (by omega), Nat.add_zero, (hr k hk2).1]
      rfl
  · refine Or.inr (Or.inr ⟨q, hq, by rw [v1]; exact hm, v2, v4, v5, ?_⟩)
    rw [v3, if_neg (by decide), if_pos (by decide)]
theorem under_e : ∀ k, k < 6 → ∀ w, w < 6 → f_X6_isUnder (nI k) (nI w) = some (f_X7_isUnder (nI k) (nI w)) := by decide +kernel
theorem ten_e : ∀ q, q < 4 → ∀ w, w < 14 → (nI q = nI w - 10 ↔ nI w = 10 + nI q) := by decide +kernel
theorem op_taken {sr ss sz ho hu hz : Nat → Int32} (P : PX n hc cd g mk vil mar hld sta mks rul) (V : SV sr ss sz ho hu hz) (i1 i2 : Int32) : ∃ r, f_X6_taken i1 i2 sr (nI hc) hld ss sz = some r ∧ f_X7_taken i1 i2 (nI hc) ho hu rul hz = some r := by
  obtain ⟨hn, hh, hcd, ho', hC, hR, hl, hr⟩ := P
  unfold f_X6_taken f_X7_taken
  simp only [lt1]
  rcases rngN i1 0 3 (by omega) (by omega) with ⟨i, _, hi, rfl, a1, a2⟩ | ⟨a1, a2⟩
  rotate_left
  · rw [if_neg (show ¬ f_X6_outside i1 0 3 = 0 from a1), if_pos (show f_X7_isShelf i1 = 0 from a2)]; exact ⟨_, rfl, rfl⟩
  have hi4 : i < 4 := by omega
  rw [if_pos (show f_X6_outside (nI i) 0 3 = 0 from a1), if_neg (show ¬ f_X7_isShelf (nI i) = 0 from a2)]
  simp only [gd_nI hi4 (show 4 < 2147483648 by decide), clp hi4 (show 4 < 2147483648 by decide)]
  have n10 : ¬ (1 : Int32) = 0 := by decide
  have p00 : (0 : Int32) = 0 := rfl
  have n9 : (0 : Int32) ≤ 9 := by decide
  have m1 : ¬ (0 : Int32) ≤ -1 := by decide
  rcases rngN i2 0 5 (by omega) (by omega) with ⟨w, _, hw, rfl, b1, b2⟩ | ⟨b1, b2⟩
  · have c1 : ¬ f_X6_outside (nI w) 10 13 = 0 := out_n (fun z => nI_ge (a := w) (b := 10) (by omega) (by omega) z.1)
    rw [if_neg (show ¬ f_X7_in (nI w) 0 5 = 0 from b2)]
    simp only [if_pos (show f_X6_outside (nI w) 0 5 = 0 from b1), if_neg c1, if_neg n10]
    rcases shelf_c hh hcd hr V hi4 with ⟨q1, q2, q3⟩ | ⟨k, hk, q1, q2, q3, q4⟩ | ⟨q, hq, q1, q2, q3, q4, q5⟩
    · rw [q3, if_pos q1, if_neg q2]; exact ⟨_, rfl, (by simp only [bd1]; rw [if_neg m1])⟩
    · have hk6 : k < 6 := by omega
      have hck := hcd k hk
      rw [q4, if_neg q3, q1, q2]
      simp only [bd1, gd_nI hk6 (show 6 < 2147483648 by decide), clp hk6 (show 6 < 2147483648 by decide), hl k hk, kindOf6 hck, under_e (cd k / 100) (by omega) w (by omega)]
      rw [if_pos (nI_pos' (show cd k / 100 < 2147483648 by omega)), if_neg (show ¬ nI (cd k / 100) = (9 : Int32) from fun z => by have := (nI_eq (b := 9) (by omega) (by omega)).mp z; omega), if_neg (show ¬ (10 : Int32) ≤ nI w from nl (N := 10) (by omega) (by decide))]
      split
      · exact ⟨_, rfl, rfl⟩
      · exact ⟨_, rfl, rfl⟩
    · rw [q5, if_pos q1, q2, q3, q4, if_pos (nI_pos' (show q < 2147483648 by omega))]
      simp only [bd1, if_pos n9, if_true, ten_e q hq w (by omega)]
      split
      · exact ⟨_, rfl, rfl⟩
      · exact ⟨_, rfl, rfl⟩
  · rw [if_pos (show f_X7_in i2 0 5 = 0 from b2)]
    simp only [if_neg (show ¬ f_X6_outside i2 0 5 = 0 from b1), if_pos p00]
    rcases rngN i2 10 13 (by omega) (by omega) with ⟨w, hw1, hw, rfl, c1, c2⟩ | ⟨c1, c2⟩
    · rw [if_neg (show ¬ f_X7_in (nI w) 10 13 = 0 from c2)]
      simp only [if_pos (show f_X6_outside (nI w) 10 13 = 0 from c1), if_neg n10]
      rcases shelf_c hh hcd hr V hi4 with ⟨q1, q2, q3⟩ | ⟨k, hk, q1, q2, q3, q4⟩ | ⟨q, hq, q1, q2, q3, q4, q5⟩
      · rw [q3, if_pos q1, if_neg q2]; exact ⟨_, rfl, (by simp only [bd1]; rw [if_neg m1])⟩
      · have hck := hcd k hk
        rw [q4, if_neg q3]
        simp only [bd1]
        rw [if_pos (nI_pos' (show cd k / 100 < 2147483648 by omega)), if_neg (show ¬ nI (cd k / 100) = (9 : Int32) from fun z => by have := (nI_eq (b := 9) (by omega) (by omega)).mp z; omega), if_pos (show (10 : Int32) ≤ nI w from yl (N := 10) hw1 (by omega))]
        exact ⟨_, rfl, rfl⟩
      · rw [q5, if_pos q1, q2, q3, q4, if_pos (nI_pos' (show q < 2147483648 by omega))]
        simp only [bd1, if_pos n9, if_true, ten_e q hq w (by omega)]
        split
        · exact ⟨_, rfl, rfl⟩
        · exact ⟨_, rfl, rfl⟩
    · rw [if_pos (show f_X7_in i2 10 13 = 0 from c2)]
      simp only [if_neg (show ¬ f_X6_outside i2 10 13 = 0 from c1), if_pos p00]
      exact ⟨_, rfl, rfl⟩
theorem op_seed (i1 z : Int32) : f_X6_seed i1 z = f_X7_seed i1 z := rfl
theorem op_trace {t : Nat} {ra tr : Nat → Int32} (ht : t ≤ 30) (he : ∀ j, j < t → ra j = tr j) (i1 : Int32) : ∃ r, f_X6_trace i1 (nI t) ra = some r ∧ f_X7_trace i1 (nI t) tr = some r := by
  unfold f_X6_trace f_X7_trace
  rcases rngM i1 t (by omega) with ⟨k, hk, rfl, a1, a2⟩ | ⟨a1, a2, _⟩
  · have h30 : k < 30 := by omega
    rw [if_pos a1, if_neg a2, gd_nI h30 (by decide), gd_nI h30 (by decide), clp h30 (by decide), he k hk]; exact ⟨_, rfl, rfl⟩
  · rw [if_neg a1, if_pos a2]; exact ⟨_, rfl, rfl⟩
theorem op_many (P : PX n hc cd g mk vil mar hld sta mks rul) (i1 a b c : Int32) : ∃ r, f_X6_many i1 a b c (nI hc) (nI n) vil = some r ∧ f_X7_many i1 (nI n) (nI hc) b c a sta = some r := by
  obtain ⟨hn, hh, hcd, ho, hC, hR, hl, hr⟩ := P
  obtain ⟨r, _, e1, e2⟩ := told_e hC.1 hR.1 ho.1
  obtain ⟨q, _, e3, e4⟩ := last_e hC.1 hR.1 ho.1
  unfold f_X6_many f_X7_many
  rw [e1, e2, e3, e4]
  simp only [bd1]
  split
  · exact ⟨_, rfl, rfl⟩
  split
  · exact ⟨_, rfl, rfl⟩
  split
  · exact ⟨_, rfl, rfl⟩
  split
  · exact ⟨_, rfl, rfl⟩
  split
  · exact ⟨_, rfl, rfl⟩
  split
  · exact ⟨_, rfl, rfl⟩
  split
  · exact ⟨_, rfl, rfl⟩
  · exact ⟨_, rfl, rfl⟩
end
