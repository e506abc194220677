/-! ===== the pure side: numbers ===== -/
theorem gd_nI {α : Type} {k N : Nat} {K : Option α} (h : k < N) (hN : N < 2147483648) : gd (nI k) N K = K := gd_i (vp_in_nI h hN)
theorem gz_nI {α : Type} {k : Nat} {K : Option α} (h : 0 < k) (h2 : k < 2147483648) : gz (nI k) K = K := gz_i (nI_ne0 h h2)
theorem fa_lit (n : Nat) : (OfNat.ofNat n : Int32) = nI n := rfl
theorem xrem_nI {a b : Nat} (ha : a < 2147483648) (h0 : 0 < b) (hb : b < 2147483648) : xrem (nI a) (nI b) = nI (a % b) := pk_rem ha h0 hb
theorem rngI {x : Int32} {N : Nat} (hN : N < 2147483648) (h0 : (0 : Int32) ≤ x) (h1 : x ≤ nI N) : ∃ k : Nat, k ≤ N ∧ x = nI k := by
  obtain ⟨j, hj, rfl⟩ := nI_of (Int32.not_lt.mpr h0)
  exact ⟨j, (nI_leI hj hN).mp h1, rfl⟩
theorem out_0 (a b c : Int32) : f_X6_outside a b c = 0 ↔ b ≤ a ∧ a ≤ c := by
  unfold f_X6_outside
  by_cases h1 : a < b
  · rw [if_pos h1]
    exact ⟨fun h => absurd h (by decide), fun h => absurd h.1 (Int32.not_le.mpr h1)⟩
  · rw [if_neg h1]
    by_cases h2 : a ≤ c
    · rw [if_pos h2]; exact ⟨fun _ => ⟨Int32.not_lt.mp h1, h2⟩, fun _ => rfl⟩
    · rw [if_neg h2]; exact ⟨fun h => absurd h (by decide), fun h => absurd h.2 h2⟩
theorem in_0 (a b c : Int32) : f_X7_in a b c = 0 ↔ ¬ (b ≤ a ∧ a ≤ c) := by
  unfold f_X7_in
  by_cases h1 : a < b
  · rw [if_pos h1]
    exact ⟨fun _ h => absurd h.1 (Int32.not_le.mpr h1), fun _ => rfl⟩
  · rw [if_neg h1]
    by_cases h2 : c < a
    · rw [if_pos h2]; exact ⟨fun _ h => absurd h.2 (Int32.not_le.mpr h2), fun _ => rfl⟩
    · rw [if_neg h2]; exact ⟨fun h => absurd h (by decide), fun h => absurd ⟨Int32.not_lt.mp h1, Int32.not_lt.mp h2⟩ h⟩
theorem out_p {a b c : Int32} (h : b ≤ a ∧ a ≤ c) : f_X6_outside a b c = 0 := (out_0 a b c).mpr h
theorem out_n {a b c : Int32} (h : ¬ (b ≤ a ∧ a ≤ c)) : ¬ f_X6_outside a b c = 0 := fun z => h ((out_0 a b c).mp z)
theorem in_p {a b c : Int32} (h : b ≤ a ∧ a ≤ c) : ¬ f_X7_in a b c = 0 := fun z => (in_0 a b c).mp z h
theorem in_n {a b c : Int32} (h : ¬ (b ≤ a ∧ a ≤ c)) : f_X7_in a b c = 0 := (in_0 a b c).mpr h
/-! what stands in a year: the class's and the reference's sign for nothing -/
def ov : Option Nat → Int32 | none => -9 | some k => nI k
def rv : Option Nat → Int32 | none => -1 | some k => nI k
/-- small -/
def sm (o : Option Nat) : Prop := ∀ k, o = some k → k < 10
theorem sm_n : sm none := fun _ h => by cases h
theorem sm_s {k : Nat} (h : k < 10) : sm (some k) := fun _ e => by cases e; exact h
theorem nI_m {k : Nat} (h : k < 2147483648) {x : Int32} (hx : x < 0) : ¬ nI k = x := fun e => nI_pos h (e ▸ hx)
theorem ov_9 {o : Option Nat} (h : sm o) : ov o = -9 ↔ o = none := by
  cases o with
  | none => exact ⟨fun _ => rfl, fun _ => rfl⟩
  | some k => exact ⟨fun e => absurd e (nI_m (by have := h k rfl; omega) (by decide)), fun e => by cases e⟩
theorem rv_lt {o : Option Nat} (h : sm o) : rv o < 0 ↔ o = none := by
  cases o with
  | none => exact ⟨fun _ => rfl, fun _ => by decide⟩
  | some k => exact ⟨fun e => absurd e (nI_pos (by have := h k rfl; omega)), fun e => by cases e⟩
theorem rv_le {o : Option Nat} (h : sm o) : 0 ≤ rv o ↔ ¬ o = none := by
  rw [← rv_lt h]; exact Int32.not_lt.symm
theorem ov_lt {o : Option Nat} (h : sm o) : ov o < 0 ↔ o = none := by
  cases o with
  | none => exact ⟨fun _ => rfl, fun _ => by decide⟩
  | some k => exact ⟨fun e => absurd e (nI_pos (by have := h k rfl; omega)), fun e => by cases e⟩
theorem ov_le {o : Option Nat} (h : sm o) : 0 ≤ ov o ↔ ¬ o = none := by
  rw [← ov_lt h]; exact Int32.not_lt.symm
theorem ov_inj {o p : Option Nat} (h : sm o) (h2 : sm p) : ov o = ov p ↔ o = p := by
  cases o with
  | none => cases p with
    | none => simp
    | some k => exact ⟨fun e => absurd e.symm (nI_m (by have := h2 k rfl; omega) (by decide)), fun e => by cases e⟩
  | some j => cases p with
    | none => exact ⟨fun e => absurd e (nI_m (by have := h j rfl; omega) (by decide)), fun e => by cases e⟩
    | some k =>
      have a := h j rfl; have b := h2 k rfl
      exact ⟨fun e => congrArg some ((nI_eq (by omega) (by omega)).mp e), fun e => by cases e; rfl⟩
/-- the class's answer against the reference's year, where it is told -/
theorem ov_rv {o p : Option Nat} (h : sm o) (h2 : sm p) (hp : ¬ p = none) : ov o = rv p ↔ o = p := by
  cases p with
  | none => exact absurd rfl hp
  | some k => exact ov_inj h h2
theorem vcat_ov (o : Option Nat) : ov o = (match o with | none => -9 | some k => nI k) := by cases o <;> rfl
/-! ===== what a rule says: a number or nothing ===== -/
def xback (h : Nat → Option Nat) (y k : Nat) : Option Nat := if k ≤ y then h (y - k) else none
/-- the table: the nearest told year back by steps of k -/
def xtab (h : Nat → Option Nat) (k : Nat) : Nat → Nat → Option Nat
  | 0, _ => none
  | d + 1, y => if k ≤ y then (match h (y - k) with | some v => some v | none => xtab h k d (y - k)) else none
def xsay (kind a b k y : Nat) (h : Nat → Option Nat) (n : Nat) (mk : Nat → Nat) : Option Nat :=
  if kind = 0 then some (b % n) else if kind = 1 then some ((a * y + b) % n)
  else if kind = 2 then (xback h y k).map (fun z => (a * z + b) % n)
  else if kind = 3 then (xtab h k 100 y).map (fun z => z % n)
  else if kind = 4 then some ((a * y + b + mk y) % n)
  else (xback h y k).bind (fun z => (xback h y 1).map (fun w => (a * z + b + w) % n))
theorem xsay_sm {kind a b k y n : Nat} {h : Nat → Option Nat} {mk : Nat → Nat} (hn : 2 ≤ n ∧ n ≤ 10) : sm (xsay kind a b k y h n mk) := by
  have lt : ∀ z, z % n < 10 := fun z => Nat.lt_of_lt_of_le (Nat.mod_lt z (by omega)) hn.2
  unfold xsay
  split
  · exact sm_s (lt _)
  · split
    · exact sm_s (lt _)
    · split
      · cases xback h y k with
        | none => exact sm_n
        | some z => exact sm_s (lt _)
      · split
        · cases xtab h k 100 y with
          | none => exact sm_n
          | some z => exact sm_s (lt _)
        · split
          · exact sm_s (lt _)
          · cases xback h y k with
            | none => exact sm_n
            | some z =>
              cases xback h y 1 with
              | none => exact sm_n
              | some w => exact sm_s (lt _)
