/-! ===== what a rule says: the class's way and the reference's ===== -/
theorem kindOf6 {c : Nat} (h : c < 600) : f_X6_kindOf (nI c) = nI (c / 100) := pk_div (a := c) (d := 100) (by omega) (by omega) (by omega)
theorem aOf6 {c : Nat} (h : c < 600) : f_X6_aOf (nI c) = nI (c / 20 % 5) := by
  unfold f_X6_aOf
  rw [show (nI c / (20 : Int32)) = nI (c / 20) from pk_div (a := c) (d := 20) (by omega) (by omega) (by omega)]
  exact xrem_nI (b := 5) (by omega) (by omega) (by omega)
theorem bOf6 {c : Nat} (h : c < 600) : f_X6_bOf (nI c) = nI (c / 4 % 5) := by
  unfold f_X6_bOf
  rw [show (nI c / (4 : Int32)) = nI (c / 4) from pk_div (a := c) (d := 4) (by omega) (by omega) (by omega)]
  exact xrem_nI (b := 5) (by omega) (by omega) (by omega)
theorem kOf6 {c : Nat} (h : c < 600) : f_X6_kOf (nI c) = nI (c % 4 + 1) := by
  unfold f_X6_kOf
  rw [show xrem (nI c) (4 : Int32) = nI (c % 4) from xrem_nI (b := 4) (by omega) (by omega) (by omega)]
  exact nI_1 _
theorem kindOf7 {c : Nat} (h : c < 600) : f_X7_kindOf (nI c) = nI (c / 100) := kindOf6 h
theorem aOf7 {c : Nat} (h : c < 600) : f_X7_aOf (nI c) = nI (c / 20 % 5) := aOf6 h
theorem bOf7 {c : Nat} (h : c < 600) : f_X7_bOf (nI c) = nI (c / 4 % 5) := bOf6 h
theorem kOf7 {c : Nat} (h : c < 600) : f_X7_kOf (nI c) = nI (c % 4 + 1) := by
  unfold f_X7_kOf
  rw [show xrem (nI c) (4 : Int32) = nI (c % 4) from xrem_nI (b := 4) (by omega) (by omega) (by omega), show (1 : Int32) + nI (c % 4) = nI (1 + c % 4) from nI_add 1 _, Nat.add_comm]
theorem rest6 {a n : Nat} (ha : a < 2147483648) (hn : 1 ≤ n) (hn2 : n < 2147483648) : f_X6_rest (nI a) (nI n) = some (nI (a % n)) := by
  unfold f_X6_rest
  rw [if_pos (show (1 : Int32) ≤ nI n from (nI_leI (a := 1) (by omega) hn2).mpr hn), gz_nI (by omega) hn2, xrem_nI ha (by omega) hn2]
/-- a row of the class that holds h below y -/
def rowC (N y : Nat) (arr : Nat → Int32) (h : Nat → Option Nat) : Prop := (∀ z, z < N → z < y → arr z = ov (h z)) ∧ (∀ z, N ≤ z → z < y → h z = none) ∧ ∀ z, z < y → sm (h z)
def rowR (N y : Nat) (arr : Nat → Int32) (h : Nat → Option Nat) : Prop := (∀ z, z < N → z < y → arr z = rv (h z)) ∧ y ≤ N ∧ ∀ z, z < y → sm (h z)
theorem standC {N y k : Nat} {arr : Nat → Int32} {h : Nat → Option Nat} (hr : rowC N y arr h) (hk : 1 ≤ k) (hk2 : k < 1000000) (hy : y < 1000) (hN : N < 1000) : f_X0_standing (nI y - nI k) N arr = some (ov (xback h y k)) := by
  unfold f_X0_standing xback
  by_cases c : k ≤ y
  · rw [pk_sub c, if_neg (nI_pos (by omega)), if_pos c]
    by_cases c2 : y - k < N
    · rw [if_pos (show nI (y - k) < Int32.ofNat N from (nI_ltI (by omega) (by omega)).mpr c2), gd_nI c2 (by omega), nI_clamp (by omega), hr.1 _ c2 (by omega)]
    · rw [if_neg (show ¬ nI (y - k) < Int32.ofNat N from fun z => c2 ((nI_ltI (by omega) (by omega)).mp z)), hr.2.1 _ (by omega) (by omega)]
      rfl
  · rw [if_pos (show nI y - nI k < (0 : Int32) from pk_sneg (by omega) (by omega)), if_neg c]
    rfl
theorem atR {N y k : Nat} {arr : Nat → Int32} {h : Nat → Option Nat} (hr : rowR N y arr h) (hk : 1 ≤ k) (hk2 : k < 1000000) (hN : N < 1000) : f_X7_at (nI y - nI k) N arr = some (rv (xback h y k)) := by
  have h2 := hr.2.1
  unfold f_X7_at xback
  by_cases c : k ≤ y
  · rw [pk_sub c, if_pos (show (0 : Int32) ≤ nI (y - k) from nI_pos' (by omega)), if_pos c, gd_nI (by omega) (by omega), nI_clamp (by omega), hr.1 _ (by omega) (by omega)]
  · rw [if_neg (show ¬ (0 : Int32) ≤ nI y - nI k from Int32.not_le.mpr (pk_sneg (by omega) (by omega))), if_neg c]
    rfl
theorem xback_sm {y k : Nat} {h : Nat → Option Nat} (hs : ∀ z, z < y → sm (h z)) (hk : 1 ≤ k) : sm (xback h y k) := by
  unfold xback
  split
  · exact hs _ (by omega)
  · exact sm_n
theorem backC {c z w n : Nat} (hc : c < 600) (hz : z < 10) (hw : w < 10) (hn : 2 ≤ n ∧ n ≤ 10) : f_X0_backSaying (nI c) (nI z) (nI w) (nI n) = some (nI ((c / 20 % 5 * z + c / 4 % 5 + w) % n)) := by
  unfold f_X0_backSaying
  have hb : c / 20 % 5 * z ≤ 4 * 9 := Nat.mul_le_mul (by omega) (by omega)
  rw [if_neg (nI_m (by omega) (by decide)), if_neg (nI_m (by omega) (by decide)), aOf6 hc, bOf6 hc, pk_mul, nI_add, nI_add, rest6 (by omega) (by omega) (by omega)]
  rfl
theorem tabC {N y k n : Nat} {arr : Nat → Int32} {h : Nat → Option Nat} (hr : rowC N y arr h) (hk : 1 ≤ k ∧ k ≤ 4) (hy : y < 100) (hN : N < 1000) (hn : 2 ≤ n ∧ n ≤ 10) :
    ∀ (d j f : Nat), j + d = 101 → 1 ≤ j → (j - 1) * k ≤ y → d < f → f_X0_tableSaying_L3 (nI y) (nI k) N arr (nI n) f (nI j) = some (match xtab h k d (y - (j - 1) * k) with | some v => .inr (nI (v % n)) | none => .inl ()) := by
  intro d
  induction d with
  | zero =>
    intro j f hj h1 h2 hf
    exfalso
    have : 100 * 1 ≤ (j - 1) * k := Nat.mul_le_mul (by omega) hk.1
    omega
  | succ d ih =>
    intro j f hj h1 h2 hf
    obtain ⟨f, rfl⟩ : ∃ g, f = g + 1 := ⟨f - 1, by omega⟩
    have hjk : j * k = (j - 1) * k + k := by
      obtain ⟨i, rfl⟩ : ∃ i, j = i + 1 := ⟨j - 1, by omega⟩
      rw [Nat.add_sub_cancel, Nat.succ_mul]
    have hjb : j * k ≤ 101 * 4 := Nat.mul_le_mul (by omega) hk.2
    rw [f_X0_tableSaying_L3, xtab]
    by_cases c : j * k ≤ y
    · have hj100 : j < 100 := by
        rcases Nat.lt_or_ge j 100 with q | q
        · exact q
        · have : 100 * 1 ≤ j * k := Nat.mul_le_mul q hk.1
          omega
      rw [if_neg (show ¬ (100 : Int32) ≤ nI j from fun z => by have := (nI_leI (a := 100) (by omega) (by omega)).mp z; omega), pk_mul, if_neg (show ¬ nI y < nI (j * k) from fun z => by have := (nI_ltI (by omega) (by omega)).mp z; omega), if_pos (show k ≤ y - (j - 1) * k by omega), standC hr (by have : 1 * 1 ≤ j * k := Nat.mul_le_mul h1 hk.1; omega) (by omega) (by omega) hN]
      have e1 : xback h y (j * k) = h (y - (j - 1) * k - k) := by
        unfold xback
        rw [if_pos c, hjk, Nat.sub_sub]
      have hs : sm (h (y - (j - 1) * k - k)) := hr.2.2 _ (by omega)
      rw [e1]
      show (if ov (h (y - (j - 1) * k - k)) = -9 then _ else _) = _
      cases hv : h (y - (j - 1) * k - k) with
      | none =>
        rw [if_pos (show ov none = -9 from rfl), show nI j + (1 : Int32) = nI (j + 1) from nI_1 j, ih (j + 1) f (by omega) (by omega) (by rw [Nat.add_sub_cancel]; exact c) (by omega), Nat.add_sub_cancel, hjk, ← Nat.sub_sub]
      | some v =>
        rw [hv] at hs
        have hv10 := hs v rfl
        rw [if_neg (show ¬ ov (some v) = -9 from nI_m (by omega) (by decide))]
        show bd1 (f_X6_rest (nI v) (nI n)) _ = _
        rw [rest6 (by omega) (by omega) (by omega)]
        rfl
    · rw [if_neg (show ¬ k ≤ y - (j - 1) * k by omega)]
      by_cases c2 : 100 ≤ j
      · rw [if_pos (show (100 : Int32) ≤ nI j from (nI_leI (a := 100) (by omega) (by omega)).mpr c2)]
      · rw [if_neg (show ¬ (100 : Int32) ≤ nI j from fun z => c2 ((nI_leI (a := 100) (by omega) (by omega)).mp z)), pk_mul, if_pos (show nI y < nI (j * k) from (nI_ltI (by omega) (by omega)).mpr (by omega))]
theorem tabR {N k : Nat} {arr : Nat → Int32} {h : Nat → Option Nat} (hk : 1 ≤ k ∧ k ≤ 4) (hN : N < 1000) :
    ∀ (d y f : Nat), rowR N y arr h → y < d → d < f → ∃ x, f_X7_saysBy_L153 N arr (nI k) f (nI y - nI k) = some x ∧ ((x < 0 ∧ xtab h k d y = none) ∨ ∃ q v, q < N ∧ x = nI q ∧ h q = some v ∧ arr q = nI v ∧ v < 10 ∧ xtab h k d y = some v) := by
  intro d
  induction d with
  | zero => intro y f _ h1; omega
  | succ d ih =>
    intro y f hr hy hf
    obtain ⟨f, rfl⟩ : ∃ g, f = g + 1 := ⟨f - 1, by omega⟩
    have hyN := hr.2.1
    rw [f_X7_saysBy_L153, xtab]
    by_cases c : k ≤ y
    · rw [pk_sub c, if_neg (nI_pos (by omega)), if_pos c, gd_nI (by omega) (by omega), nI_clamp (by omega), hr.1 _ (by omega) (by omega)]
      have hs : sm (h (y - k)) := hr.2.2 _ (by omega)
      cases hv : h (y - k) with
      | none =>
        rw [if_neg (show ¬ (0 : Int32) ≤ rv none by decide)]
        exact ih (y - k) f ⟨fun z h1 h2 => hr.1 z h1 (by omega), by omega, fun z hz => hr.2.2 z (by omega)⟩ (by omega) (by omega)
      | some v =>
        rw [hv] at hs
        have hv10 := hs v rfl
        rw [if_pos (show (0 : Int32) ≤ rv (some v) from nI_pos' (by omega))]
        exact ⟨_, rfl, Or.inr ⟨y - k, v, by omega, rfl, hv, by rw [hr.1 _ (by omega) (by omega), hv]; rfl, hv10, rfl⟩⟩
    · rw [if_pos (show nI y - nI k < (0 : Int32) from pk_sneg (by omega) (by omega)), if_neg c]
      exact ⟨_, rfl, Or.inl ⟨pk_sneg (by omega) (by omega), rfl⟩⟩
/-- what stands of marks -/
def marksOK (N : Nat) (mk : Nat → Nat) (arr : Nat → Int32) : Prop := (∀ z, z < N → arr z = nI (mk z)) ∧ (∀ z, mk z ≤ 9) ∧ ∀ z, N ≤ z → mk z = 0
theorem sayC {c y N n : Nat} {arr vm : Nat → Int32} {h : Nat → Option Nat} {mk : Nat → Nat} (hc : c < 600) (hr : rowC N y arr h) (hy : y < 100) (hN : N < 1000) (hn : 2 ≤ n ∧ n ≤ 10) (hm : marksOK 24 mk vm) : f_X0_saying (nI c) (nI y) N (nI n) arr vm = some (ov (xsay (c / 100) (c / 20 % 5) (c / 4 % 5) (c % 4 + 1) y h n mk)) := by
  unfold f_X0_saying
  rw [kindOf6 hc, bOf6 hc, aOf6 hc, kOf6 hc]
  have hK : c / 100 < 6 := by omega
  have ha : c / 20 % 5 < 5 := by omega
  have hay : c / 20 % 5 * y ≤ 4 * 99 := Nat.mul_le_mul (by omega) (by omega)
  have ne : ∀ i j : Nat, i < 6 → j < 6 → i ≠ j → ¬ nI i = nI j := fun i j hi hj hij e => hij ((nI_eq (by omega) (by omega)).mp e)
  rcases (show c / 100 = 0 ∨ c / 100 = 1 ∨ c / 100 = 2 ∨ c / 100 = 3 ∨ c / 100 = 4 ∨ c / 100 = 5 by omega) with e | e | e | e | e | e
  · rw [e, if_pos (show nI 0 = (0 : Int32) from rfl), rest6 (by omega) (by omega) (by omega)]
    rfl
  · rw [e, if_neg (show ¬ nI 1 = (0 : Int32) by decide), if_pos (show nI 1 = (1 : Int32) from rfl), pk_mul, nI_add, rest6 (by omega) (by omega) (by omega)]
    rfl
  · rw [e, if_neg (show ¬ nI 2 = (0 : Int32) by decide), if_neg (show ¬ nI 2 = (1 : Int32) by decide), if_pos (show nI 2 = (2 : Int32) from rfl), standC hr (by omega) (by omega) (by omega) hN]
    have hs := xback_sm (k := c % 4 + 1) hr.2.2 (by omega)
    unfold xsay
    rw [if_neg (by decide), if_neg (by decide), if_pos rfl]
    show bd1 (f_X0_backSaying (nI c) (ov (xback h y (c % 4 + 1))) 0 (nI n)) _ = _
    cases hv : xback h y (c % 4 + 1) with
    | none => rfl
    | some z =>
      rw [hv] at hs
      show bd1 (f_X0_backSaying (nI c) (nI z) (nI 0) (nI n)) _ = _
      rw [backC hc (hs z rfl) (by omega) hn]
      rfl
  · rw [e, if_neg (show ¬ nI 3 = (0 : Int32) by decide), if_neg (show ¬ nI 3 = (1 : Int32) by decide), if_neg (show ¬ nI 3 = (2 : Int32) by decide), if_pos (show nI 3 = (3 : Int32) from rfl)]
    unfold xsay
    rw [if_neg (by decide), if_neg (by decide), if_neg (by decide), if_pos rfl]
    have ht := tabC hr (k := c % 4 + 1) (n := n) ⟨by omega, by omega⟩ hy hN hn 100 1 1000 (by omega) (by omega) (by omega) (by omega)
    unfold f_X0_tableSaying
    rw [show (1 : Int32) = nI 1 from rfl, ht]
    show bd1 (bs0 (some (match xtab h (c % 4 + 1) 100 (y - 0 * (c % 4 + 1)) with | some v => Sum.inr (nI (v % n)) | none => Sum.inl ())) _ _) _ = _
    rw [Nat.zero_mul, Nat.sub_zero]
    cases xtab h (c % 4 + 1) 100 y with
    | none => rfl
    | some v => rfl
  · rw [e, if_neg (show ¬ nI 4 = (0 : Int32) by decide), if_neg (show ¬ nI 4 = (1 : Int32) by decide), if_neg (show ¬ nI 4 = (2 : Int32) by decide), if_neg (show ¬ nI 4 = (3 : Int32) by decide), if_pos (show nI 4 = (4 : Int32) from rfl)]
    have hmy := hm.2.1 y
    have e9 : (if (24 : Int32) ≤ nI y then some (0 : Int32) else gd (nI y) 24 (some (vm (nI y).toNatClampNeg))) = some (nI (mk y)) := by
      by_cases c2 : 24 ≤ y
      · rw [if_pos (show (24 : Int32) ≤ nI y from (nI_leI (a := 24) (by omega) (by omega)).mpr c2), hm.2.2 y c2]; rfl
      · rw [if_neg (show ¬ (24 : Int32) ≤ nI y from fun z => c2 ((nI_leI (a := 24) (by omega) (by omega)).mp z)), gd_nI (by omega) (by omega), nI_clamp (by omega), hm.1 y (by omega)]
    rw [e9]
    show bd1 (f_X6_rest (nI (c / 20 % 5) * nI y + nI (c / 4 % 5) + nI (mk y)) (nI n)) _ = _
    rw [pk_mul, nI_add, nI_add, rest6 (by omega) (by omega) (by omega)]
    rfl
  · rw [e, if_neg (show ¬ nI 5 = (0 : Int32) by decide), if_neg (show ¬ nI 5 = (1 : Int32) by decide), if_neg (show ¬ nI 5 = (2 : Int32) by decide), if_neg (show ¬ nI 5 = (3 : Int32) by decide), if_neg (show ¬ nI 5 = (4 : Int32) by decide), if_pos (show nI 5 = (5 : Int32) from rfl), standC hr (by omega) (by omega) (by omega) hN]
    unfold xsay
    rw [if_neg (by decide), if_neg (by decide), if_neg (by decide), if_neg (by decide), if_neg (by decide)]
    have hs := xback_sm (k := c % 4 + 1) hr.2.2 (by omega)
    have hs1 := xback_sm (k := 1) hr.2.2 (by omega)
    show bd1 (f_X0_standing (nI y - nI 1) N arr) _ = _
    rw [standC hr (by omega) (by omega) (by omega) hN]
    show bd1 (f_X0_backSaying (nI c) (ov (xback h y (c % 4 + 1))) (ov (xback h y 1)) (nI n)) _ = _
    cases hv : xback h y (c % 4 + 1) with
    | none => rfl
    | some z =>
      rw [hv] at hs
      have hz := hs z rfl
      cases hw : xback h y 1 with
      | none =>
        unfold f_X0_backSaying
        rw [if_neg (show ¬ ov (some z) = -9 from nI_m (by omega) (by decide))]
        rfl
      | some w =>
        rw [hw] at hs1
        show bd1 (f_X0_backSaying (nI c) (nI z) (nI w) (nI n)) _ = _
        rw [backC hc hz (hs1 w rfl) hn]
        rfl
theorem sayR {kind a b k y N n : Nat} {arr vm : Nat → Int32} {h : Nat → Option Nat} {mk : Nat → Nat} (hkind : kind < 6) (ha : a < 5) (hb : b < 5) (hk : 1 ≤ k ∧ k ≤ 4) (hr : rowR N y arr h) (hy : y < 100) (hN : N < 1000) (hn : 2 ≤ n ∧ n ≤ 10) (hm : marksOK 100 mk vm) : f_X7_saysBy (nI kind) (nI a) (nI b) (nI k) (nI y) N (nI n) arr vm = some (ov (xsay kind a b k y h n mk)) := by
  unfold f_X7_saysBy
  rw [atR hr hk.1 (by omega) hN]
  have hay : a * y ≤ 4 * 99 := Nat.mul_le_mul (by omega) (by omega)
  have hs := xback_sm (k := k) hr.2.2 hk.1
  have hs1 := xback_sm (k := 1) hr.2.2 (by omega)
  have hrem : ∀ z, z < 2147483648 → gz (nI n) (some (xrem (nI z) (nI n))) = some (nI (z % n)) := fun z hz => by rw [gz_nI (by omega) (by omega), xrem_nI hz (by omega) (by omega)]
  rcases (show kind = 0 ∨ kind = 1 ∨ kind = 2 ∨ kind = 3 ∨ kind = 4 ∨ kind = 5 by omega) with rfl | rfl | rfl | rfl | rfl | rfl
  · show gz (nI n) (some (xrem (nI b) (nI n))) = _
    rw [hrem b (by omega)]
    rfl
  · show gz (nI n) (some (xrem (nI a * nI y + nI b) (nI n))) = _
    rw [pk_mul, nI_add, hrem _ (by omega)]
    rfl
  · show (if (0 : Int32) ≤ rv (xback h y k) then gz (nI n) (some (xrem (nI a * rv (xback h y k) + nI b) (nI n))) else some (-9)) = some (ov ((xback h y k).map (fun z => (a * z + b) % n)))
    cases hv : xback h y k with
    | none => rfl
    | some z =>
      rw [hv] at hs
      have hz := hs z rfl
      have haz : a * z ≤ 4 * 9 := Nat.mul_le_mul (by omega) (by omega)
      rw [if_pos (show (0 : Int32) ≤ rv (some z) from nI_pos' (by omega))]
      show gz (nI n) (some (xrem (nI a * nI z + nI b) (nI n))) = _
      rw [pk_mul, nI_add, hrem _ (by omega)]
      rfl
  · obtain ⟨x, e1, e2⟩ := tabR (arr := arr) (h := h) hk hN 100 y 1000 hr hy (by omega)
    show bd1 (f_X7_saysBy_L153 N arr (nI k) 1000 (nI y - nI k)) (fun y8 => if (0 : Int32) ≤ y8 then gd y8 N (gz (nI n) (some (xrem (arr y8.toNatClampNeg) (nI n)))) else some (-9)) = some (ov ((xtab h k 100 y).map (fun z => z % n)))
    rw [e1]
    show (if (0 : Int32) ≤ x then gd x N (gz (nI n) (some (xrem (arr x.toNatClampNeg) (nI n)))) else some (-9)) = _
    rcases e2 with ⟨h1, h2⟩ | ⟨q, v, h1, rfl, h3, h4, h5, h6⟩
    · rw [if_neg (Int32.not_le.mpr h1), h2]; rfl
    · rw [if_pos (nI_pos' (by omega)), gd_nI h1 (by omega), nI_clamp (by omega), h4, hrem v (by omega), h6]; rfl
  · show gd (nI y) 100 (gz (nI n) (some (xrem (nI a * nI y + nI b + vm (nI y).toNatClampNeg) (nI n)))) = _
    have hmy := hm.2.1 y
    rw [gd_nI (by omega) (by omega), nI_clamp (by omega), hm.1 y (by omega), pk_mul, nI_add, nI_add, hrem _ (by omega)]
    rfl
  · show (if rv (xback h y k) < 0 then some (-9 : Int32) else bd1 (f_X7_at (nI y - nI 1) N arr) (fun r22 => if (0 : Int32) ≤ r22 then bd1 (f_X7_at (nI y - nI 1) N arr) (fun r25 => gz (nI n) (some (xrem (nI a * rv (xback h y k) + nI b + r25) (nI n)))) else some (-9))) = some (ov ((xback h y k).bind (fun z => (xback h y 1).map (fun w => (a * z + b + w) % n))))
    rw [atR hr (by omega) (by omega) hN]
    cases hv : xback h y k with
    | none => rfl
    | some z =>
      rw [hv] at hs
      have hz := hs z rfl
      have haz : a * z ≤ 4 * 9 := Nat.mul_le_mul (by omega) (by omega)
      rw [if_neg (show ¬ rv (some z) < 0 from nI_pos (by omega))]
      show (if (0 : Int32) ≤ rv (xback h y 1) then gz (nI n) (some (xrem (nI a * nI z + nI b + rv (xback h y 1)) (nI n))) else some (-9)) = _
      cases hw : xback h y 1 with
      | none => rfl
      | some w =>
        rw [hw] at hs1
        have hw10 := hs1 w rfl
        rw [if_pos (show (0 : Int32) ≤ rv (some w) from nI_pos' (by omega))]
        show gz (nI n) (some (xrem (nI a * nI z + nI b + nI w) (nI n))) = _
        rw [pk_mul, nI_add, nI_add, hrem _ (by omega)]
        rfl
