/-! ===== a text: places and signs ===== -/
theorem sgn_e : ∀ b, b < 256 → (nI b).toInt8.toInt32 = if b < 128 then nI b else nI b - 256 := by decide +kernel
/-- bt: the bytes of a tape of t, as both sides hold them -/
def TB (t : Nat) (bt : Nat → Nat) (a b : Nat → Int32) : Prop := t ≤ 200 ∧ ∀ j, j < t → bt j < 256 ∧ b j = nI (bt j) ∧ a j = (nI (bt j)).toInt8.toInt32
theorem tb_of {t : Nat} {a b : Nat → Int32} (h : TP t a b) : TB t (fun j => (b j).toNatClampNeg) a b := by
  refine ⟨h.1, fun j hj => ?_⟩
  obtain ⟨q, hq, e1, e2⟩ := h.2 j hj
  have e : (b j).toNatClampNeg = q := by rw [e1]; exact nI_clamp (by omega)
  refine ⟨by show (b j).toNatClampNeg < 256; rw [e]; exact hq, by show b j = nI (b j).toNatClampNeg; rw [e, e1], by show a j = (nI (b j).toNatClampNeg).toInt8.toInt32; rw [e, e2]⟩
def isL (t : Nat) (bt : Nat → Nat) (j : Nat) : Prop := j < t ∧ 97 ≤ bt j ∧ bt j ≤ 122
def isD (t : Nat) (bt : Nat → Nat) (j : Nat) : Prop := j < t ∧ 48 ≤ bt j ∧ bt j ≤ 57
section
variable {t : Nat} {bt : Nat → Nat} {a b : Nat → Int32}
theorem b7 (T : TB t bt a b) {j : Nat} (hj : j < 1000) : f_X7_byteAt (nI j) (nI t) b = some (if j < t then nI (bt j) else -1) := by
  have ht := T.1
  unfold f_X7_byteAt
  by_cases c : j < t
  · have h200 : j < 200 := by omega
    rw [if_neg (nl c (by omega)), gd_nI h200 (by decide), clp h200 (by decide), (T.2 j c).2.1, if_pos c]
  · rw [if_pos (nI_le (by omega) (by omega)), if_neg c]
theorem b6 (T : TB t bt a b) {j : Nat} (hj : j < 1000) : f_X4_byteAt (nI j) (nI t) a = some (if j < t then (if bt j < 128 then nI (bt j) else nI (bt j) - 256) else -1) := by
  have ht := T.1
  unfold f_X4_byteAt
  rw [if_neg (nI_pos (by omega))]
  by_cases c : j < t
  · have h200 : j < 200 := by omega
    rw [if_neg (nl c (by omega)), if_neg (nl200 h200), gd_nI h200 (by decide), clp h200 (by decide), (T.2 j c).2.2, sgn_e _ (T.2 j c).1, if_pos c]
  · rw [if_pos (nI_le (by omega) (by omega)), if_neg c]
/-- the class's sign at a place is c (below 128) just if the byte is -/
theorem b6_eq (T : TB t bt a b) {j c : Nat} (hj : j < 1000) (hc : c < 128) : ∃ x, f_X4_byteAt (nI j) (nI t) a = some x ∧ (x = nI c ↔ j < t ∧ bt j = c) := by
  refine ⟨_, b6 T hj, ?_⟩
  by_cases h : j < t
  · rw [if_pos h]
    have hb := (T.2 j h).1
    by_cases h2 : bt j < 128
    · rw [if_pos h2, nI_eq (by omega) (by omega)]
      exact ⟨fun z => ⟨h, z⟩, fun z => z.2⟩
    · rw [if_neg h2]
      exact ⟨fun z => absurd z.symm (nI_m (by omega) (show nI (bt j) - nI 256 < 0 from pk_sneg (by omega) hb)), fun z => by omega⟩
  · rw [if_neg h]
    exact ⟨fun z => absurd z.symm (nI_m (by omega) (by decide)), fun z => absurd z.1 h⟩
theorem b6_rng (T : TB t bt a b) {j lo hi : Nat} (hj : j < 1000) (h1 : 1 ≤ lo) (h2 : lo ≤ hi) (h3 : hi < 128) : ∃ x, f_X4_byteAt (nI j) (nI t) a = some x ∧ ((¬ x < nI lo ∧ ¬ nI hi < x) ↔ (j < t ∧ lo ≤ bt j ∧ bt j ≤ hi)) := by
  refine ⟨_, b6 T hj, ?_⟩
  by_cases h : j < t
  · rw [if_pos h]
    have hb := (T.2 j h).1
    by_cases h4 : bt j < 128
    · rw [if_pos h4, nI_ltI (by omega) (by omega), nI_ltI (by omega) (by omega)]
      omega
    · rw [if_neg h4]
      have hneg : nI (bt j) - (256 : Int32) < nI lo := Int32.lt_of_lt_of_le (show nI (bt j) - nI 256 < 0 from pk_sneg (by omega) hb) (nI_pos' (by omega))
      exact ⟨fun z => absurd hneg z.1, fun z => by omega⟩
  · rw [if_neg h]
    exact ⟨fun z => absurd (Int32.lt_of_lt_of_le (show (-1 : Int32) < 0 by decide) (nI_pos' (by omega))) z.1, fun z => absurd z.1 h⟩
theorem letter6 (T : TB t bt a b) {j : Nat} (hj : j < 1000) : ∃ x, f_X4_letterAt (nI j) (nI t) a = some x ∧ (¬ x = 0 ↔ isL t bt j) := by
  obtain ⟨x, e1, e2⟩ := b6_rng T (lo := 97) (hi := 122) hj (by omega) (by omega) (by omega)
  unfold f_X4_letterAt isL
  rw [e1]
  simp only [bd1]
  by_cases c1 : x < 97
  · rw [if_pos c1]
    exact ⟨0, rfl, fun z => absurd rfl z, fun z => absurd c1 (e2.mpr z).1⟩
  · rw [if_neg c1]
    by_cases c2 : 122 < x
    · rw [if_pos c2]
      exact ⟨0, rfl, fun z => absurd rfl z, fun z => absurd c2 (e2.mpr z).2⟩
    · rw [if_neg c2]
      exact ⟨1, rfl, fun _ => e2.mp ⟨c1, c2⟩, fun _ => by decide⟩
theorem digit6 (T : TB t bt a b) {j : Nat} (hj : j < 1000) : ∃ x, f_X4_digitAt (nI j) (nI t) a = some x ∧ (¬ x = 0 ↔ isD t bt j) := by
  obtain ⟨x, e1, e2⟩ := b6_rng T (lo := 48) (hi := 57) hj (by omega) (by omega) (by omega)
  unfold f_X4_digitAt isD
  rw [e1]
  simp only [bd1]
  by_cases c1 : x < 48
  · rw [if_pos c1]
    exact ⟨0, rfl, fun z => absurd rfl z, fun z => absurd c1 (e2.mpr z).1⟩
  · rw [if_neg c1]
    by_cases c2 : 57 < x
    · rw [if_pos c2]
      exact ⟨0, rfl, fun z => absurd rfl z, fun z => absurd c2 (e2.mpr z).2⟩
    · rw [if_neg c2]
      exact ⟨1, rfl, fun _ => e2.mp ⟨c1, c2⟩, fun _ => by decide⟩
/-- the next place that holds no blank -/
def skN (t : Nat) (bt : Nat → Nat) : Nat → Nat → Nat
  | 0, p => p
  | d + 1, p => if bt p = 32 then skN t bt d (p + 1) else p
def sk (t : Nat) (bt : Nat → Nat) (p : Nat) : Nat := skN t bt (t - p) p
theorem skN_sp : ∀ d p, p + d = t → p ≤ skN t bt d p ∧ skN t bt d p ≤ t ∧ (skN t bt d p < t → bt (skN t bt d p) ≠ 32) ∧ ∀ f, d < f → p < 1000 → TB t bt a b → f_X4_skipBlanks_L0 (nI t) a f (nI p) = some (nI (skN t bt d p)) ∧ f_X7_advance_L8 (nI t) b f (nI p) = some (nI (skN t bt d p)) := by
  intro d
  induction d with
  | zero =>
    intro p hp
    refine ⟨Nat.le_refl p, by rw [skN]; omega, fun z => by rw [skN] at z; omega, fun f hf hp2 T => ?_⟩
    obtain ⟨f, rfl⟩ : ∃ q, f = q + 1 := ⟨f - 1, by omega⟩
    obtain rfl : p = t := by omega
    rw [f_X4_skipBlanks_L0, if_pos (nI_le (Nat.le_refl p) (by omega)), f_X7_advance_L8, b7 T hp2, if_neg (by omega)]
    simp only [bd1]
    rw [if_neg (by decide)]
    exact ⟨rfl, rfl⟩
  | succ d ih =>
    intro p hp
    rw [skN]
    by_cases c : bt p = 32
    · rw [if_pos c]
      obtain ⟨i1, i2, i3, i4⟩ := ih (p + 1) (by omega)
      refine ⟨by omega, i2, i3, fun f hf hp2 T => ?_⟩
      obtain ⟨f, rfl⟩ : ∃ q, f = q + 1 := ⟨f - 1, by omega⟩
      have ht := T.1
      obtain ⟨x, e1, e2⟩ := b6_eq T (j := p) (c := 32) hp2 (by omega)
      rw [f_X4_skipBlanks_L0, if_neg (nl (show p < t by omega) (by omega)), f_X7_advance_L8, b7 T hp2, if_pos (show p < t by omega), e1]
      simp only [bd1]
      rw [if_pos (show x = 32 from e2.mpr ⟨by omega, c⟩), if_pos (show nI (bt p) = (32 : Int32) by rw [c]; rfl), nI_1]
      exact i4 f (by omega) (by omega) T
    · rw [if_neg c]
      refine ⟨Nat.le_refl p, by omega, fun _ => c, fun f hf hp2 T => ?_⟩
      obtain ⟨f, rfl⟩ : ∃ q, f = q + 1 := ⟨f - 1, by omega⟩
      have ht := T.1
      have hb := (T.2 p (by omega)).1
      obtain ⟨x, e1, e2⟩ := b6_eq T (j := p) (c := 32) hp2 (by omega)
      rw [f_X4_skipBlanks_L0, if_neg (nl (show p < t by omega) (by omega)), f_X7_advance_L8, b7 T hp2, if_pos (show p < t by omega), e1]
      simp only [bd1]
      rw [if_neg (show ¬ x = 32 from fun z => c (e2.mp z).2), if_neg (show ¬ nI (bt p) = (32 : Int32) from fun z => c ((nI_eq (b := 32) (by omega) (by omega)).mp z))]
      exact ⟨rfl, rfl⟩
theorem sk_sp (T : TB t bt a b) {p : Nat} (hp : p ≤ t) : p ≤ sk t bt p ∧ sk t bt p ≤ t ∧ (sk t bt p < t → bt (sk t bt p) ≠ 32) ∧ f_X4_skipBlanks (nI t) (nI p) a = some (nI (sk t bt p)) ∧ f_X7_advance_L8 (nI t) b 1000 (nI p) = some (nI (sk t bt p)) := by
  have ht := T.1
  obtain ⟨h1, h2, h3, h4⟩ := skN_sp (t := t) (bt := bt) (a := a) (b := b) (t - p) p (by omega)
  obtain ⟨h5, h6⟩ := h4 1000 (by omega) (by omega) T
  refine ⟨h1, h2, h3, ?_, h6⟩
  unfold f_X4_skipBlanks
  rw [h5]; rfl
theorem sk_id {q : Nat} (h : q < t → bt q ≠ 32) : sk t bt q = q := by
  unfold sk
  cases hd : t - q with
  | zero => rfl
  | succ d => rw [skN, if_neg (h (by omega))]
end
