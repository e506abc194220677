/-! ===== a text: rows of letters and digits ===== -/
theorem lNb {a b : Nat} (ha : a < 9223372036854775808) (hb : b < 9223372036854775808) : lN a = lN b ↔ a = b := by
  constructor
  · intro h
    have h1 := congrArg Int64.toInt h
    rw [show lN a = Int64.ofNat a from rfl, show lN b = Int64.ofNat b from rfl, Int64.toInt_ofNat_of_lt ha, Int64.toInt_ofNat_of_lt hb] at h1
    omega
  · rintro rfl; rfl
theorem lNm {a : Nat} (ha : a < 9223372036854775808) : ¬ (-1 : Int64) = lN a := by
  intro h
  have h1 := congrArg Int64.toInt h
  rw [show lN a = Int64.ofNat a from rfl, Int64.toInt_ofNat_of_lt ha, show (-1 : Int64).toInt = -1 by decide] at h1
  omega
def wv (d : Nat → Nat) : Nat → Nat
  | 0 => 0
  | l + 1 => 27 * wv d l + d l
theorem wv_inj {d e : Nat → Nat} : ∀ l m, (∀ i, i < l → 1 ≤ d i ∧ d i ≤ 26) → (∀ i, i < m → 1 ≤ e i ∧ e i ≤ 26) → wv d l = wv e m → l = m ∧ ∀ i, i < l → d i = e i := by
  intro l
  induction l with
  | zero =>
    intro m hd he h
    cases m with
    | zero => exact ⟨rfl, fun i hi => absurd hi (by omega)⟩
    | succ m =>
      have := he m (by omega)
      rw [wv, wv] at h
      omega
  | succ l ih =>
    intro m hd he h
    cases m with
    | zero =>
      have := hd l (by omega)
      rw [wv, wv] at h
      omega
    | succ m =>
      have h1 := hd l (by omega)
      have h2 := he m (by omega)
      rw [wv, wv] at h
      obtain ⟨e1, e2⟩ := ih m (fun i hi => hd i (by omega)) (fun i hi => he i (by omega)) (by omega)
      subst e1
      refine ⟨rfl, fun i hi => ?_⟩
      by_cases c : i < l
      · exact e2 i c
      · obtain rfl : i = l := by omega
        omega
theorem wv_lt {d : Nat → Nat} : ∀ l, (∀ i, i < l → d i ≤ 26) → wv d l < 27 ^ l := by
  intro l
  induction l with
  | zero => intro _; rw [wv]; decide
  | succ l ih =>
    intro h
    have h1 := ih (fun i hi => h i (by omega))
    have h2 := h l (by omega)
    rw [wv, Nat.pow_succ]
    omega
theorem wv_8 {d : Nat → Nat} {l : Nat} (hl : l ≤ 8) (h : ∀ i, i < l → d i ≤ 26) : wv d l < 9223372036854775808 := by
  have h1 := wv_lt l h
  have h2 : 27 ^ l ≤ 27 ^ 8 := Nat.pow_le_pow_right (by omega) hl
  have h3 : (27 : Nat) ^ 8 = 282429536481 := by decide
  omega
/-- the end of a row of signs from lo to hi -/
def rnN (bt : Nat → Nat) (lo hi : Nat) : Nat → Nat → Nat
  | 0, p => p
  | d + 1, p => if lo ≤ bt p ∧ bt p ≤ hi then rnN bt lo hi d (p + 1) else p
def rn (t : Nat) (bt : Nat → Nat) (lo hi p : Nat) : Nat := rnN bt lo hi (t - p) p
theorem rnN_sp {bt : Nat → Nat} {lo hi : Nat} : ∀ d p, p ≤ rnN bt lo hi d p ∧ rnN bt lo hi d p ≤ p + d ∧ (∀ j, p ≤ j → j < rnN bt lo hi d p → lo ≤ bt j ∧ bt j ≤ hi) ∧ (rnN bt lo hi d p < p + d → ¬ (lo ≤ bt (rnN bt lo hi d p) ∧ bt (rnN bt lo hi d p) ≤ hi)) := by
  intro d
  induction d with
  | zero =>
    intro p
    rw [rnN]
    exact ⟨by omega, by omega, fun j h1 h2 => by omega, fun h => by omega⟩
  | succ d ih =>
    intro p
    rw [rnN]
    by_cases c : lo ≤ bt p ∧ bt p ≤ hi
    · rw [if_pos c]
      obtain ⟨h1, h2, h3, h4⟩ := ih (p + 1)
      refine ⟨by omega, by omega, fun j a1 a2 => ?_, fun h => h4 (by omega)⟩
      by_cases e : j = p
      · rw [e]; exact c
      · exact h3 j (by omega) a2
    · rw [if_neg c]
      exact ⟨by omega, by omega, fun j h1 h2 => by omega, fun _ => c⟩
theorem rn_sp {t : Nat} {bt : Nat → Nat} {lo hi p : Nat} (hp : p ≤ t) : p ≤ rn t bt lo hi p ∧ rn t bt lo hi p ≤ t ∧ (∀ j, p ≤ j → j < rn t bt lo hi p → lo ≤ bt j ∧ bt j ≤ hi) ∧ (rn t bt lo hi p < t → ¬ (lo ≤ bt (rn t bt lo hi p) ∧ bt (rn t bt lo hi p) ≤ hi)) := by
  obtain ⟨h1, h2, h3, h4⟩ := rnN_sp (bt := bt) (lo := lo) (hi := hi) (t - p) p
  unfold rn
  exact ⟨h1, by omega, h3, fun h => h4 (by omega)⟩
theorem rn_un {t : Nat} {bt : Nat → Nat} {lo hi p e : Nat} (h1 : p ≤ e) (h2 : e ≤ t) (h3 : ∀ j, p ≤ j → j < e → lo ≤ bt j ∧ bt j ≤ hi) (h4 : e < t → ¬ (lo ≤ bt e ∧ bt e ≤ hi)) : rn t bt lo hi p = e := by
  obtain ⟨a1, a2, a3, a4⟩ := rn_sp (t := t) (bt := bt) (lo := lo) (hi := hi) (p := p) (by omega)
  rcases Nat.lt_trichotomy (rn t bt lo hi p) e with c | c | c
  · exact absurd (h3 _ a1 c) (a4 (by omega))
  · exact c
  · exact absurd (a3 e h1 c) (h4 (by omega))
theorem rn_up {t : Nat} {bt : Nat → Nat} {lo hi p : Nat} (h1 : p < t) (h2 : lo ≤ bt p ∧ bt p ≤ hi) : rn t bt lo hi p = rn t bt lo hi (p + 1) ∧ p < rn t bt lo hi p := by
  have e : rn t bt lo hi p = rn t bt lo hi (p + 1) := by
    unfold rn
    rw [show t - p = (t - (p + 1)) + 1 by omega, rnN, if_pos h2]
  have := (rn_sp (t := t) (bt := bt) (lo := lo) (hi := hi) (p := p + 1) (by omega)).1
  exact ⟨e, by omega⟩
theorem rn_st {t : Nat} {bt : Nat → Nat} {lo hi p : Nat} (h : ¬ (p < t ∧ lo ≤ bt p ∧ bt p ≤ hi)) (hp : p ≤ t) : rn t bt lo hi p = p :=
  rn_un (Nat.le_refl p) hp (fun j a b => by omega) (fun c z => h ⟨c, z⟩)
theorem isLet {b : Nat} (h : b < 256) : f_X7_isLetter (nI b) = 0 ↔ ¬ (97 ≤ b ∧ b ≤ 122) := by
  unfold f_X7_isLetter
  rw [in_0, show (97 : Int32) = nI 97 from rfl, show (122 : Int32) = nI 122 from rfl, nI_leI (by omega) (by omega), nI_leI (by omega) (by omega)]
theorem isDig {b : Nat} (h : b < 256) : f_X7_isDigit (nI b) = 0 ↔ ¬ (48 ≤ b ∧ b ≤ 57) := by
  unfold f_X7_isDigit
  rw [in_0, show (48 : Int32) = nI 48 from rfl, show (57 : Int32) = nI 57 from rfl, nI_leI (by omega) (by omega), nI_leI (by omega) (by omega)]
/-- a word's number after k letters -/
def wval (bt : Nat → Nat) (q k : Nat) : Int64 := if k ≤ 8 then lN (wv (fun i => bt (q + i) - 96) k) else -1
def dv (bt : Nat → Nat) (q : Nat) : Nat → Nat
  | 0 => 0
  | l + 1 => 10 * dv bt q l + (bt (q + l) - 48)
def dvl (bt : Nat → Nat) (q k : Nat) : Int32 := if k ≤ 2 then nI (dv bt q k) else -1
section
variable {t : Nat} {bt : Nat → Nat} {a b : Nat → Int32}
theorem ltr7 (T : TB t bt a b) {q : Nat} : ∀ d x f, x + d = t → q ≤ x → d < f → f_X7_advance_L126 1 (nI t) b (nI q) f (nI x) (wval bt q (x - q)) = some (nI (rn t bt 97 122 x), wval bt q (rn t bt 97 122 x - q)) := by
  have ht := T.1
  intro d
  induction d with
  | zero =>
    intro x f hx hq hf
    obtain ⟨f, rfl⟩ : ∃ m, f = m + 1 := ⟨f - 1, by omega⟩
    rw [f_X7_advance_L126, if_pos rfl, b7 T (by omega), if_neg (by omega)]
    simp only [bd1]
    rw [if_pos (by decide), rn_st (by omega) (by omega)]
  | succ d ih =>
    intro x f hx hq hf
    obtain ⟨f, rfl⟩ : ∃ m, f = m + 1 := ⟨f - 1, by omega⟩
    have hb := (T.2 x (by omega)).1
    rw [f_X7_advance_L126, if_pos rfl, b7 T (by omega), if_pos (show x < t by omega)]
    simp only [bd1]
    by_cases c : 97 ≤ bt x ∧ bt x ≤ 122
    · rw [if_neg (fun z => (isLet hb).mp z c), show nI x - nI q = nI (x - q) from pk_sub hq, (rn_up (by omega) c).1]
      have e := ih (x + 1) f (by omega) (by omega) (by omega)
      by_cases k : 8 ≤ x - q
      · rw [if_pos (show (8 : Int32) ≤ nI (x - q) from nI_le k (by omega)), nI_1]
        simp only
        rw [← e]
        unfold wval
        rw [if_neg (show ¬ x + 1 - q ≤ 8 by omega)]
      · rw [if_neg (show ¬ (8 : Int32) ≤ nI (x - q) from nl (N := 8) (by omega) (by omega)), nI_1]
        simp only
        rw [← e]
        congr 1
        unfold wval
        rw [if_pos (show x - q ≤ 8 by omega), if_pos (show x + 1 - q ≤ 8 by omega), nI_l (by omega), show (27 : Int64) = lN 27 from rfl, show (96 : Int64) = lN 96 from rfl, lN_mul, lN_add, lN_sub (by omega), show x + 1 - q = (x - q) + 1 by omega, wv]
        show _ = lN (27 * wv (fun i => bt (q + i) - 96) (x - q) + (bt (q + (x - q)) - 96))
        rw [show q + (x - q) = x by omega]
        congr 1
        omega
    · rw [if_pos ((isLet hb).mpr c), rn_st (fun z => c z.2) (by omega)]
theorem dig7 (T : TB t bt a b) {q : Nat} : ∀ d x f, x + d = t → q ≤ x → d < f → f_X7_advance_L207 2 (nI t) b (nI q) f (nI x) (dvl bt q (x - q)) = some (nI (rn t bt 48 57 x), dvl bt q (rn t bt 48 57 x - q)) := by
  have ht := T.1
  intro d
  induction d with
  | zero =>
    intro x f hx hq hf
    obtain ⟨f, rfl⟩ : ∃ m, f = m + 1 := ⟨f - 1, by omega⟩
    rw [f_X7_advance_L207, if_pos rfl, b7 T (by omega), if_neg (by omega)]
    simp only [bd1]
    rw [if_pos (by decide), rn_st (by omega) (by omega)]
  | succ d ih =>
    intro x f hx hq hf
    obtain ⟨f, rfl⟩ : ∃ m, f = m + 1 := ⟨f - 1, by omega⟩
    have hb := (T.2 x (by omega)).1
    rw [f_X7_advance_L207, if_pos rfl, b7 T (by omega), if_pos (show x < t by omega)]
    simp only [bd1]
    by_cases c : 48 ≤ bt x ∧ bt x ≤ 57
    · rw [if_neg (fun z => (isDig hb).mp z c), show nI x - nI q = nI (x - q) from pk_sub hq, (rn_up (by omega) c).1]
      have e := ih (x + 1) f (by omega) (by omega) (by omega)
      by_cases k : 2 ≤ x - q
      · rw [if_pos (show (2 : Int32) ≤ nI (x - q) from nI_le k (by omega)), nI_1]
        simp only
        rw [← e]
        unfold dvl
        rw [if_neg (show ¬ x + 1 - q ≤ 2 by omega)]
      · rw [if_neg (show ¬ (2 : Int32) ≤ nI (x - q) from nl (N := 2) (by omega) (by omega)), nI_1]
        simp only
        rw [← e]
        congr 1
        unfold dvl
        rw [if_pos (show x - q ≤ 2 by omega), if_pos (show x + 1 - q ≤ 2 by omega), show (10 : Int32) = nI 10 from rfl, show (48 : Int32) = nI 48 from rfl, pk_mul, nI_add, pk_sub (by omega), show x + 1 - q = (x - q) + 1 by omega, dv, show q + (x - q) = x by omega]
        congr 1
        omega
    · rw [if_pos ((isDig hb).mpr c), rn_st (fun z => c z.2) (by omega)]
theorem dig6 (T : TB t bt a b) {q : Nat} : ∀ d x f, x + d = t → q ≤ x → d < f → f_X4_number_L12 (nI t) a (nI q) f (nI (dv bt q (min (x - q) 2))) (nI x) = some (nI (dv bt q (min (rn t bt 48 57 x - q) 2)), nI (rn t bt 48 57 x)) := by
  have ht := T.1
  intro d
  induction d with
  | zero =>
    intro x f hx hq hf
    obtain ⟨f, rfl⟩ : ∃ m, f = m + 1 := ⟨f - 1, by omega⟩
    obtain rfl : x = t := by omega
    rw [f_X4_number_L12, if_pos (nI_le (Nat.le_refl x) (by omega)), rn_st (by omega) (by omega)]
  | succ d ih =>
    intro x f hx hq hf
    obtain ⟨f, rfl⟩ : ∃ m, f = m + 1 := ⟨f - 1, by omega⟩
    have hb := (T.2 x (by omega)).1
    obtain ⟨y, e1, e2⟩ := digit6 T (j := x) (by omega)
    rw [f_X4_number_L12, if_neg (nl (show x < t by omega) (by omega)), e1]
    simp only [bd1]
    by_cases c : 48 ≤ bt x ∧ bt x ≤ 57
    · rw [if_neg (e2.mpr ⟨by omega, c⟩), show nI x - nI q = nI (x - q) from pk_sub hq, (rn_up (by omega) c).1]
      have e := ih (x + 1) f (by omega) (by omega) (by omega)
      by_cases k : 2 ≤ x - q
      · rw [if_pos (show (2 : Int32) ≤ nI (x - q) from nI_le k (by omega)), nI_1]
        simp only
        rw [← e, show min (x - q) 2 = min (x + 1 - q) 2 by omega]
      · rw [if_neg (show ¬ (2 : Int32) ≤ nI (x - q) from nl (N := 2) (by omega) (by omega)), nI_1, b6 T (by omega), if_pos (show x < t by omega), if_pos (show bt x < 128 by omega)]
        simp only
        rw [← e, show min (x + 1 - q) 2 = (x - q) + 1 by omega, show min (x - q) 2 = x - q by omega, show (10 : Int32) = nI 10 from rfl, show (48 : Int32) = nI 48 from rfl, pk_mul, nI_add, pk_sub (by omega), dv, show q + (x - q) = x by omega]
        congr 2
        omega
    · rw [if_pos (Classical.byContradiction fun z => c (e2.mp z).2), rn_st (fun z => c z.2) (by omega)]
end
