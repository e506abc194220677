/-! ===== a text: numbers, ends, words wanted ===== -/
theorem m1n {k : Nat} (h : k < 2147483648) : ¬ (0 : Int32) ≤ rv none := by decide
theorem rv0 {z : Nat} (h : z < 2147483648) : (0 : Int32) ≤ rv (some z) := nI_pos' h
def fl (o : Option Nat) (q : Nat) : Option Nat := match o with | none => some q | some z => some z
theorem fail_e {o : Option Nat} {q : Nat} (h : ∀ z, o = some z → z < 1000) : f_X4_fail (nI q) (rv o) = rv (fl o q) := by
  unfold f_X4_fail
  cases o with
  | none => rw [if_neg (show ¬ (0 : Int32) ≤ rv none by decide)]; rfl
  | some z => rw [if_pos (rv0 (by have := h z rfl; omega))]; rfl
/-- the reference's state against the class's place and fault -/
def RS (t : Nat) (bt : Nat → Nat) (p : Nat) (o : Option Nat) (srt beg te : Int32) (w : Int64) (v good : Int32) : Prop :=
  p ≤ t ∧ (o = none → good = 1 ∧ Tk t bt (sk t bt p) srt beg te w v) ∧ ∀ z, o = some z → z ≤ t ∧ good = 0 ∧ beg = nI z
/-- the same after a clause's end -/
def EN (t : Nat) (bt : Nat → Nat) (p : Nat) (o : Option Nat) (srt beg te : Int32) (w : Int64) (v good : Int32) : Prop :=
  p ≤ t + 1 ∧ (o = none → p ≤ t ∧ good = 1 ∧ Tk t bt (sk t bt p) srt beg te w v) ∧ ∀ z, o = some z → z ≤ t ∧ good = 0 ∧ beg = nI z
section
variable {t : Nat} {bt : Nat → Nat} {a b : Nat → Int32}
theorem tso_2 {q : Nat} (h : q ≤ t) : (tso t bt q = 2 ∧ q < rn t bt 48 57 q ∧ ten t bt q = rn t bt 48 57 q) ∨ (¬ tso t bt q = 2 ∧ rn t bt 48 57 q = q) := by
  by_cases c : q < t ∧ 48 ≤ bt q ∧ bt q ≤ 57
  · left
    have l : ¬ (97 ≤ bt q ∧ bt q ≤ 122) := by omega
    refine ⟨by unfold tso; rw [if_pos c.1, if_neg l, if_pos c.2], (rn_up c.1 c.2).2, by unfold ten; rw [if_pos c.1, if_neg l, if_pos c.2]⟩
  · right
    refine ⟨?_, rn_st c h⟩
    unfold tso
    intro z
    split at z
    · next h1 =>
      split at z
      · omega
      · split at z
        · next h2 => exact c ⟨h1, h2⟩
        · omega
    · omega
theorem num_e (T : TB t bt a b) {p lo hi : Nat} {o : Option Nat} {srt beg te v good : Int32} {w : Int64} (R : RS t bt p o srt beg te w v good) (hh : lo < 1000 ∧ hi < 1000) :
    ∃ y p' o' y7 srt' beg' te' w' v' good', f_X4_number (nI lo) (nI hi) (nI t) (nI p) (rv o) a = some (y, nI p', rv o') ∧ f_X7_wantNumber (nI lo) (nI hi) (nI t) srt beg te w v good b = some (y7, srt', beg', te', w', v', good') ∧ RS t bt p' o' srt' beg' te' w' v' good' ∧ p ≤ p' ∧ (o' = none → o = none ∧ p < p' ∧ ∃ k, lo ≤ k ∧ k ≤ hi ∧ y = nI k ∧ y7 = nI k) := by
  have ht := T.1
  obtain ⟨hlo, hh⟩ := hh
  obtain ⟨hp, R1, R2⟩ := R
  obtain ⟨h1, h2, h3, h4, h5⟩ := sk_sp T hp
  have e := dig6 T (q := sk t bt p) (t - sk t bt p) (sk t bt p) 1000 (by omega) (Nat.le_refl _) (by omega)
  obtain ⟨r1, r2, r3, r4⟩ := rn_sp (t := t) (bt := bt) (lo := 48) (hi := 57) h2
  have h12 := tso_2 (bt := bt) h2
  unfold f_X4_number f_X7_wantNumber
  rw [h4]
  simp only [bd1, lt1]
  generalize hq : sk t bt p = q at *
  rw [Nat.sub_self, show nI (dv bt q (min 0 2)) = (0 : Int32) from rfl] at e
  rw [e]
  simp only [bd2]
  rw [show nI (rn t bt 48 57 q) - nI q = nI (rn t bt 48 57 q - q) from pk_sub r1]
  have ho : ∀ z, o = some z → z < 1000 := fun z hz => by have := (R2 z hz).1; omega
  rw [fail_e ho]
  have ee : nI (rn t bt 48 57 q) = nI q ↔ rn t bt 48 57 q = q := nI_eq (by omega) (by omega)
  have e2 : (2 : Int32) < nI (rn t bt 48 57 q - q) ↔ 2 < rn t bt 48 57 q - q := nI_ltI (a := 2) (by omega) (by omega)
  have hdv : ∀ l, l ≤ 2 → q + l ≤ rn t bt 48 57 q → dv bt q l < 100 := fun l hl hr => by
    have g0 : 0 < l → bt q ≤ 57 := fun z => (r3 q (by omega) (by omega)).2
    have g1 : 1 < l → bt (q + 1) ≤ 57 := fun z => (r3 (q + 1) (by omega) (by omega)).2
    rcases (show l = 0 ∨ l = 1 ∨ l = 2 by omega) with rfl | rfl | rfl
    · show 0 < 100; omega
    · have := g0 (by omega)
      show 10 * 0 + (bt (q + 0) - 48) < 100
      rw [Nat.add_zero]; omega
    · have := g0 (by omega)
      have := g1 (by omega)
      show 10 * (10 * 0 + (bt (q + 0) - 48)) + (bt (q + 1) - 48) < 100
      rw [Nat.add_zero]; omega
  cases o with
  | some z =>
    obtain ⟨z1, z2, z3⟩ := R2 z rfl
    rw [if_pos z2, if_pos rfl]
    refine ⟨nI (dv bt q (min (rn t bt 48 57 q - q) 2)), rn t bt 48 57 q, some z, v, srt, beg, te, w, v, 0, ?_, rfl, ⟨r2, fun h => (by cases h), fun z' h' => by cases h'; exact ⟨z1, rfl, z3⟩⟩, by omega, fun h => (by cases h)⟩
    show _ = some (nI (dv bt q (min (rn t bt 48 57 q - q) 2)), nI (rn t bt 48 57 q), rv (some z))
    simp only [fl, ite_k]
  | none =>
    obtain ⟨g1, k1, k2, k3, k4, k5, k6⟩ := R1 rfl
    subst g1
    rw [if_neg (show ¬ (1 : Int32) = 0 by decide)]
    rw [show fl none q = some q from rfl]
    have hbad : (P : Prop) → (f_X7_in v (nI lo) (nI hi) = 0 ∨ ¬ tso t bt q = 2) → (if srt = (2 : Int32) then (if f_X7_in v (nI lo) (nI hi) = 0 then (0 : Int32) else 1) else 0) = 0 := fun _ h => by
      rcases h with h | h
      · by_cases c : srt = 2
        · rw [if_pos c, if_pos h]
        · rw [if_neg c]
      · rw [if_neg]
        rw [k3]
        intro z
        exact h ((nI_eq (b := 2) (by have := tso_b (t := t) (bt := bt) q; omega) (by omega)).mp z)
    have fin : ∀ y, (if srt = (2 : Int32) then (if f_X7_in v (nI lo) (nI hi) = 0 then (0 : Int32) else 1) else 0) = 0 →
        ∃ y0 p' o' y7 srt' beg' te' w' v' good', some (y, nI (rn t bt 48 57 q), rv (some q)) = some (y0, nI p', rv o') ∧ (if (if srt = (2 : Int32) then (if f_X7_in v (nI lo) (nI hi) = 0 then (0 : Int32) else 1) else 0) = 0 then some (v, srt, beg, te, w, v, (if srt = (2 : Int32) then (if f_X7_in v (nI lo) (nI hi) = 0 then (0 : Int32) else 1) else 0)) else bd5 (f_X7_advance (nI t) srt beg te w v b) (fun o_4 o_5 o_6 o_7 o_8 => some (v, o_4, o_5, o_6, o_7, o_8, (if srt = (2 : Int32) then (if f_X7_in v (nI lo) (nI hi) = 0 then (0 : Int32) else 1) else 0)))) = some (y7, srt', beg', te', w', v', good') ∧ RS t bt p' o' srt' beg' te' w' v' good' ∧ p ≤ p' ∧ (o' = none → (none : Option Nat) = none ∧ p < p' ∧ ∃ k, lo ≤ k ∧ k ≤ hi ∧ y0 = nI k ∧ y7 = nI k) := fun y hz => by
      rw [if_pos hz, hz]
      exact ⟨_, rn t bt 48 57 q, some q, _, _, _, _, _, _, _, rfl, rfl, ⟨r2, fun h => (by cases h), fun z' h' => by cases h'; exact ⟨h2, rfl, k1⟩⟩, by omega, fun h => (by cases h)⟩
    by_cases c1 : rn t bt 48 57 q = q
    · rw [if_pos (ee.mpr c1)]
      exact fin _ (hbad True (Or.inr (by rcases h12 with h | h; exact absurd c1 (by omega); exact h.1)))
    · rw [if_neg (fun z => c1 (ee.mp z))]
      obtain ⟨t2, t3, t4⟩ : tso t bt q = 2 ∧ q < rn t bt 48 57 q ∧ ten t bt q = rn t bt 48 57 q := by
        rcases h12 with h | h
        · exact h
        · exact absurd h.2 c1
      have hv := k5 t2
      rw [t4] at hv
      unfold dvl at hv
      by_cases c2 : 2 < rn t bt 48 57 q - q
      · rw [if_pos (e2.mpr c2)]
        rw [if_neg (by omega)] at hv
        refine fin _ (hbad True (Or.inl ?_))
        rw [hv]
        exact in_n (fun z => absurd z.1 (Int32.not_le.mpr (Int32.lt_of_lt_of_le (show (-1 : Int32) < 0 by decide) (nI_pos' (by omega)))))
      · rw [if_neg (fun z => c2 (e2.mp z))]
        rw [if_pos (by omega)] at hv
        have hd := hdv (rn t bt 48 57 q - q) (by omega) (by omega)
        rw [show min (rn t bt 48 57 q - q) 2 = rn t bt 48 57 q - q by omega]
        rcases rng v (nI lo) (nI hi) with ⟨x1, x2, x3, x4⟩ | ⟨x1, x2⟩
        · rw [← hv, if_pos x1, if_pos (show srt = 2 by rw [k3, t2]; rfl), if_neg x2, if_neg (show ¬ (1 : Int32) = 0 by decide)]
          rw [k2, t4]
          obtain ⟨srt', beg', te', w', v', a1, a2⟩ := adv7 T r2 srt beg w v
          rw [a1]
          refine ⟨_, rn t bt 48 57 q, none, _, srt', beg', te', w', v', 1, rfl, rfl, ⟨r2, fun _ => ⟨rfl, a2⟩, fun z h => (by cases h)⟩, by omega, fun _ => ⟨rfl, by omega, dv bt q (rn t bt 48 57 q - q), ?_, ?_, hv, hv⟩⟩
          · rw [hv] at x3; exact (nI_leI (by omega) (by omega)).mp x3
          · rw [hv] at x4; exact (nI_leI (by omega) (by omega)).mp x4
        · rw [← hv, if_neg x1]
          exact fin _ (hbad True (Or.inl x2))
end
