/-! ===== rows ===== -/
theorem rngM (x : Int32) (N : Nat) (hN : N < 1000000) : (∃ k, k < N ∧ x = nI k ∧ f_X6_outside x 0 (nI N - 1) = 0 ∧ ¬ f_X7_in x 0 (nI N - 1) = 0) ∨ (¬ f_X6_outside x 0 (nI N - 1) = 0 ∧ f_X7_in x 0 (nI N - 1) = 0 ∧ (x < 0 ∨ nI N ≤ x)) := by
  rcases pk_ix x (n := N) (by omega) with h | h | ⟨k, hk, rfl⟩
  · have hno : ¬ ((0 : Int32) ≤ x ∧ x ≤ nI N - 1) := fun z => Int32.not_le.mpr h z.1
    exact Or.inr ⟨out_n hno, in_n hno, Or.inl h⟩
  · have hm : nI N - 1 < x := by
      rw [Int32.le_iff_toInt_le] at h
      rw [Int32.lt_iff_toInt_lt, show nI N - 1 = nI N - nI 1 from rfl, pk_sub_toInt (by omega) (by omega)]
      rw [nI_toInt (by omega)] at h
      omega
    have hno : ¬ ((0 : Int32) ≤ x ∧ x ≤ nI N - 1) := fun z => Int32.not_le.mpr hm z.2
    exact Or.inr ⟨out_n hno, in_n hno, Or.inr h⟩
  · have e1 : nI N - (1 : Int32) = nI (N - 1) := pk_sub (b := 1) (by omega)
    have hyes : (0 : Int32) ≤ nI k ∧ nI k ≤ nI N - 1 := ⟨nI_pos' (by omega), by rw [e1]; exact nI_le (by omega) (by omega)⟩
    exact Or.inl ⟨k, hk, rfl, out_p hyes, in_p hyes⟩
theorem cell_c (i1 i2 : Int32) {rc : Nat} (hrc : rc ≤ 24) : (f_X1_isCell i1 i2 (nI rc) = 0 ∧ f_X7_isRow i1 i2 (nI rc) = 0) ∨ ∃ k w, k < rc ∧ w < 3 ∧ i1 = nI k ∧ i2 = nI w ∧ ¬ f_X1_isCell i1 i2 (nI rc) = 0 ∧ ¬ f_X7_isRow i1 i2 (nI rc) = 0 := by
  unfold f_X1_isCell f_X7_isRow
  rcases rngM i1 rc (by omega) with ⟨k, hk, rfl, a1, a2⟩ | ⟨a1, a2, a3⟩
  · have h24 : k < 24 := by omega
    rw [if_neg a2, if_neg (nI_pos (by omega)), if_neg (nl hk (by omega)), if_neg (nl24 h24)]
    rcases rngN i2 0 2 (by omega) (by omega) with ⟨w, _, hw, rfl, b1, b2⟩ | ⟨b1, b2⟩
    · have h3 : w < 3 := by omega
      rw [if_neg (nI_pos (by omega)), if_neg (nl3 h3), if_neg (show ¬ f_X7_in (nI w) 0 2 = 0 from b2)]
      exact Or.inr ⟨k, w, hk, by omega, rfl, rfl, by decide, by decide⟩
    · rw [if_pos (show f_X7_in i2 0 2 = 0 from b2)]
      left
      refine ⟨?_, rfl⟩
      by_cases c : i2 < 0
      · rw [if_pos c]
      · rw [if_neg c]
        by_cases c2 : (3 : Int32) ≤ i2
        · rw [if_pos c2]
        · exfalso
          obtain ⟨j, hj, rfl⟩ := nI_of c
          have h3 : ¬ 3 ≤ j := fun z => c2 ((nI_leI (a := 3) (by omega) hj).mpr z)
          exact b1 (out_p ⟨nI_pos' hj, (nI_leI hj (by omega)).mpr (by omega)⟩)
  · rw [if_pos a2]
    left
    refine ⟨?_, rfl⟩
    rcases a3 with h | h
    · rw [if_pos h]
    · split
      · rfl
      · first | rfl | rw [if_pos h]
theorem op_row {rc : Nat} {ce ro : Nat → Int32} (hrc : rc ≤ 24) (he : ∀ j, j < 3 * rc → ce j = ro j) (i1 i2 : Int32) : ∃ r, f_X6_row i1 i2 (nI rc) ce = some r ∧ f_X7_row i1 i2 (nI rc) ro = some r := by
  unfold f_X6_row f_X7_row
  rcases cell_c i1 i2 hrc with ⟨a1, a2⟩ | ⟨k, w, hk, hw, rfl, rfl, a1, a2⟩
  · rw [if_pos a1, if_pos a2]; exact ⟨_, rfl, rfl⟩
  · have h72 : 3 * k + w < 72 := by omega
    rw [if_neg a1, if_neg a2, show nI k * (3 : Int32) = nI (k * 3) from pk_mul k 3, show (3 : Int32) * nI k = nI (3 * k) from pk_mul 3 k, Nat.mul_comm k 3, nI_add, gd_nI h72 (by decide), gd_nI h72 (by decide), clp h72 (by decide), he _ (by omega)]
    exact ⟨_, rfl, rfl⟩
theorem op_alterRow {rc : Nat} {ce ro : Nat → Int32} (hrc : rc ≤ 24) (he : ∀ j, j < 3 * rc → ce j = ro j) (i1 i2 i3 : Int32) : ∃ (r : Int32) (ce' ro' : Nat → Int32), f_X6_alterRow i1 i2 i3 (nI rc) ce = some (r, ce') ∧ f_X7_alterRow i1 i2 i3 (nI rc) ro = some (r, ro') ∧ ∀ j, j < 3 * rc → ce' j = ro' j := by
  unfold f_X6_alterRow f_X7_alterRow
  rcases cell_c i1 i2 hrc with ⟨a1, a2⟩ | ⟨k, w, hk, hw, rfl, rfl, a1, a2⟩
  · rw [if_pos a1, if_pos a2]; exact ⟨_, _, _, rfl, rfl, he⟩
  · have h72 : 3 * k + w < 72 := by omega
    rw [if_neg a1, if_neg a2, show nI k * (3 : Int32) = nI (k * 3) from pk_mul k 3, show (3 : Int32) * nI k = nI (3 * k) from pk_mul 3 k, Nat.mul_comm k 3, nI_add]
    simp only [gd_nI h72 (by decide), clp h72 (by decide)]
    rw [he (3 * k + w) (by omega)]
    refine ⟨_, _, _, rfl, rfl, fun j hj => ?_⟩
    by_cases c : j = 3 * k + w
    · rw [c, pk_us, pk_us]
    · rw [pk_un c, pk_un c, he j hj]
theorem upd3_eq {a b : Nat → Int32} {m : Nat} {x y z : Int32} (h : ∀ j, j < 3 * m → a j = b j) : ∀ j, j < 3 * (m + 1) → upd (upd (upd a (3 * m) x) (3 * m + 1) y) (3 * m + 2) z j = upd (upd (upd b (3 * m) x) (3 * m + 1) y) (3 * m + 2) z j := by
  intro j hj
  by_cases c2 : j = 3 * m + 2
  · rw [c2, pk_us, pk_us]
  · rw [pk_un c2, pk_un c2]
    by_cases c1 : j = 3 * m + 1
    · rw [c1, pk_us, pk_us]
    · rw [pk_un c1, pk_un c1]
      by_cases c0 : j = 3 * m
      · rw [c0, pk_us, pk_us]
      · rw [pk_un c0, pk_un c0, h j (by omega)]
section
variable {n hc : Nat} {cd : Nat → Nat} {g : Nat → Option Nat} {mk : Nat → Nat} {vil mar hld sta mks rul : Nat → Int32}
theorem add1 {m : Nat} (hm : m < 24) (x y z : Int32) (ce : Nat → Int32) : f_X1_add x y z (nI m) ce = some (nI (m + 1), upd (upd (upd ce (3 * m) x) (3 * m + 1) y) (3 * m + 2) z) := by
  unfold f_X1_add
  have h0 : 3 * m < 72 := by omega
  have h1 : 3 * m + 1 < 72 := by omega
  have h2 : 3 * m + 2 < 72 := by omega
  rw [if_neg (nl24 hm), show nI m * (3 : Int32) = nI (m * 3) from pk_mul m 3, Nat.mul_comm m 3, nI_1, show nI (3 * m) + (2 : Int32) = nI (3 * m + 2) from nI_add _ 2, gd_nI h0 (by decide), gd_nI h1 (by decide), gd_nI h2 (by decide), clp h0 (by decide), clp h1 (by decide), clp h2 (by decide), nI_1]
theorem prove_j (P : PX n hc cd g mk vil mar hld sta mks rul) {i : Nat} (hi : i < hc) : ∀ (c k m f : Nat) (a b : Nat → Int32), k + c = 24 → m ≤ k → c < f → (∀ j, j < 3 * m → a j = b j) →
    ∃ (m' : Nat) (a' b' : Nat → Int32), m' ≤ 24 ∧ f_X6_prove_L23 vil (nI i) hld (nI n) mar f (nI k) (nI m) a = some (nI m', a') ∧ f_X7_findRows_L7 sta (nI i) (nI n) rul mks f (nI k) (nI m) b = some (nI m', b') ∧ ∀ j, j < 3 * m' → a' j = b' j := by
  obtain ⟨hn, hh, hcd, ho, hC, hR, hl, hr⟩ := P
  intro c
  induction c with
  | zero =>
    intro k m f a b hk hm hf hab
    obtain ⟨f, rfl⟩ : ∃ q, f = q + 1 := ⟨f - 1, by omega⟩
    obtain rfl : k = 24 := by omega
    exact ⟨m, a, b, hm, by rw [f_X6_prove_L23, if_pos (show (24 : Int32) ≤ nI 24 by decide)], by rw [f_X7_findRows_L7, if_pos (show (24 : Int32) ≤ nI 24 by decide)], hab⟩
  | succ c ih =>
    intro k m f a b hk hm hf hab
    obtain ⟨f, rfl⟩ : ∃ q, f = q + 1 := ⟨f - 1, by omega⟩
    have h24 : k < 24 := by omega
    have h100 : k < 100 := by omega
    have h6 : i < 6 := by omega
    have hm24 : m < 24 := by omega
    have h0 : 3 * m < 72 := by omega
    have h1 : 3 * m + 1 < 72 := by omega
    have h2 : 3 * m + 2 < 72 := by omega
    rw [f_X6_prove_L23, f_X7_findRows_L7, heldS hh hr hi]
    simp only [if_neg (nl24 h24), gd_nI h24 (by decide), gd_nI h100 (by decide), gd_nI h6 (by decide), clp h24 (by decide), clp h6 (by decide), hl i hi, hC.1 k h24, hR.1 k h100, say6 ho hC hn (hcd i hi) h100, say7 ho hR hn (hcd i hi) h100, bd1, bd2, lt1, nI_1, add1 hm24,
      show (3 : Int32) * nI m = nI (3 * m) from pk_mul 3 m, show nI (3 * m) + (2 : Int32) = nI (3 * m + 2) from nI_add _ 2, gd_nI h0 (by decide), gd_nI h1 (by decide), gd_nI h2 (by decide), clp h0 (by decide), clp h1 (by decide), clp h2 (by decide)]
    cases hg : g k with
    | none =>
      rw [if_pos (show ov none = -9 from rfl), if_pos (show rv none < 0 by decide)]
      exact ih (k + 1) m f a b (by omega) (by omega) (by omega) hab
    | some w =>
      have hw := sm_lt (ho.1 k) hg
      rw [if_neg (ovs_9 hw), if_neg (rvs_n hw)]
      rcases said_c (xsc_sm (c := cd i) (y := k) (g := g) (mk := mk) hn) (sm_s hw) (by simp) with ⟨e1, e2⟩ | ⟨e1, e2⟩
      · rw [if_pos e1, if_pos e2]
        exact ih (k + 1) (m + 1) f _ _ (by omega) (by omega) (by omega) (upd3_eq hab)
      · rw [if_neg e1, if_neg e2]
        exact ih (k + 1) (m + 1) f _ _ (by omega) (by omega) (by omega) (upd3_eq hab)
theorem copy_j {m : Nat} {b : Nat → Int32} (hm : m ≤ 24) : ∀ (d x f : Nat) (a : Nat → Int32), x + d = 3 * m → d < f → (∀ j, j < x → a j = b j) → ∃ (a' : Nat → Int32), f_X7_prove_L25 (nI m) b f (nI x) a = some a' ∧ ∀ j, j < 3 * m → a' j = b j := by
  intro d
  induction d with
  | zero =>
    intro x f a hx hf ha
    obtain ⟨f, rfl⟩ : ∃ q, f = q + 1 := ⟨f - 1, by omega⟩
    obtain rfl : x = 3 * m := by omega
    exact ⟨a, by rw [f_X7_prove_L25, show (3 : Int32) * nI m = nI (3 * m) from pk_mul 3 m, if_pos (nI_le (Nat.le_refl _) (by omega))], ha⟩
  | succ d ih =>
    intro x f a hx hf ha
    obtain ⟨f, rfl⟩ : ∃ q, f = q + 1 := ⟨f - 1, by omega⟩
    have h72 : x < 72 := by omega
    obtain ⟨a', e1, e2⟩ := ih (x + 1) f (upd a x (b x)) (by omega) (by omega) (fun z hz => by
      by_cases c : z = x
      · rw [c, pk_us]
      · rw [pk_un c]; exact ha z (by omega))
    exact ⟨a', by rw [f_X7_prove_L25, show (3 : Int32) * nI m = nI (3 * m) from pk_mul 3 m, if_neg (nl (by omega) (by omega)), gd_nI h72 (by decide), gd_nI h72 (by decide), clp h72 (by decide), nI_1, e1], e2⟩
theorem op_prove (P : PX n hc cd g mk vil mar hld sta mks rul) {rc : Nat} {ce ro : Nat → Int32} (hrc : rc ≤ 24) (he : ∀ j, j < 3 * rc → ce j = ro j) (i1 mm : Int32) (mu : Nat → Int32) :
    ∃ (r : Int32) (rc' : Nat) (ce' : Nat → Int32) (mm' : Int32) (mu' ro' : Nat → Int32), f_X6_prove i1 (nI hc) (nI n) (nI rc) vil hld mar ce = some (r, nI rc', ce') ∧ f_X7_prove i1 (nI n) (nI hc) (nI rc) mm sta rul mks mu ro = some (r, nI rc', mm', mu', ro') ∧ rc' ≤ 24 ∧ ∀ j, j < 3 * rc' → ce' j = ro' j := by
  have P0 := P
  obtain ⟨hn, hh, hcd, ho, hC, hR, hl, hr⟩ := P
  unfold f_X6_prove f_X7_prove
  rcases held_c i1 hh with ⟨a1, a2⟩ | ⟨k, hk, rfl, a1, a2⟩
  · rw [if_pos a1, if_pos a2]; exact ⟨_, _, _, _, _, _, rfl, rfl, hrc, he⟩
  · rw [if_neg a1, if_neg a2]
    obtain ⟨m', a', b', hm', e1, e2, e3⟩ := prove_j P0 hk 24 0 0 1000 ce mu (by omega) (by omega) (by omega) (fun j hj => by omega)
    obtain ⟨c', e4, e5⟩ := copy_j (b := b') hm' (3 * m') 0 1000 ro (by omega) (by omega) (fun j hj => absurd hj (Nat.not_lt_zero j))
    unfold f_X7_findRows
    rw [show f_X6_prove_L23 vil (nI k) hld (nI n) mar 1000 0 0 ce = _ from e1, show f_X7_findRows_L7 sta (nI k) (nI n) rul mks 1000 0 0 mu = _ from e2]
    simp only [bd1, bd2]
    rw [show f_X7_prove_L25 (nI m') b' 1000 0 ro = _ from e4]
    exact ⟨_, m', a', _, _, c', rfl, rfl, hm', fun j hj => by rw [e3 j hj, e5 j hj]⟩
def rowEq (ce mu : Nat → Int32) (i : Nat) : Prop := ce (3 * i) = mu (3 * i) ∧ ce (3 * i + 1) = mu (3 * i + 1) ∧ ce (3 * i + 2) = mu (3 * i + 2)
theorem is1 {m rc : Nat} {ce : Nat → Int32} (hrc : rc ≤ 24) (hm : m < rc) (x y z : Int32) : f_X1_is (nI m) x y z (nI rc) ce = some (if ce (3 * m) = x ∧ ce (3 * m + 1) = y ∧ ce (3 * m + 2) = z then 1 else 0) := by
  unfold f_X1_is f_X1_isCell
  have h24 : m < 24 := by omega
  have h0 : 3 * m < 72 := by omega
  have h1 : 3 * m + 1 < 72 := by omega
  have h2 : 3 * m + 2 < 72 := by omega
  rw [if_neg (nI_pos (show m < 2147483648 by omega)), if_neg (nl hm (by omega)), if_neg (nl24 h24), if_neg (show ¬ (0 : Int32) < 0 by decide), if_neg (show ¬ (3 : Int32) ≤ 0 by decide), if_neg (show ¬ (1 : Int32) = 0 by decide), show nI m * (3 : Int32) = nI (m * 3) from pk_mul m 3, Nat.mul_comm m 3, nI_1, show nI (3 * m) + (2 : Int32) = nI (3 * m + 2) from nI_add _ 2, gd_nI h0 (by decide), gd_nI h1 (by decide), gd_nI h2 (by decide), clp h0 (by decide), clp h1 (by decide), clp h2 (by decide)]
  by_cases c0 : ce (3 * m) = x <;> by_cases c1 : ce (3 * m + 1) = y <;> by_cases c2 : ce (3 * m + 2) = z <;> simp [c0, c1, c2]
theorem judge_j (P : PX n hc cd g mk vil mar hld sta mks rul) {i rc : Nat} {ce : Nat → Int32} (hi : i < hc) (hrc : rc ≤ 24) : ∀ (c k m f : Nat) (b : Nat → Int32), k + c = 24 → m ≤ k → c < f →
    ∃ (m' : Nat) (b' : Nat → Int32), m ≤ m' ∧ m' ≤ 24 ∧ f_X7_findRows_L7 sta (nI i) (nI n) rul mks f (nI k) (nI m) b = some (nI m', b') ∧ (∀ j, j < 3 * m → b' j = b j) ∧
      (((∀ z, m ≤ z → z < m' → z < rc → rowEq ce b' z) ∧ f_X6_judge_L17 vil (nI i) hld (nI n) mar (nI rc) ce f (nI m) (nI k) = some (.inl (nI m'))) ∨
       ∃ z, m ≤ z ∧ z < m' ∧ z < rc ∧ ¬ rowEq ce b' z ∧ (∀ y, m ≤ y → y < z → rowEq ce b' y) ∧ f_X6_judge_L17 vil (nI i) hld (nI n) mar (nI rc) ce f (nI m) (nI k) = some (.inr (nI (z + 1)))) := by
  obtain ⟨hn, hh, hcd, ho, hC, hR, hl, hr⟩ := P
  intro c
  induction c with
  | zero =>
    intro k m f b hk hm hf
    obtain ⟨f, rfl⟩ : ∃ q, f = q + 1 := ⟨f - 1, by omega⟩
    obtain rfl : k = 24 := by omega
    exact ⟨m, b, Nat.le_refl m, hm, by rw [f_X7_findRows_L7, if_pos (show (24 : Int32) ≤ nI 24 by decide)], fun j _ => rfl, Or.inl ⟨fun z h1 h2 => by omega, by rw [f_X6_judge_L17, if_pos (show (24 : Int32) ≤ nI 24 by decide)]⟩⟩
  | succ c ih =>
    intro k m f b hk hm hf
    obtain ⟨f, rfl⟩ : ∃ q, f = q + 1 := ⟨f - 1, by omega⟩
    have h24 : k < 24 := by omega
    have h100 : k < 100 := by omega
    have h6 : i < 6 := by omega
    have h0 : 3 * m < 72 := by omega
    have h1 : 3 * m + 1 < 72 := by omega
    have h2 : 3 * m + 2 < 72 := by omega
    rw [f_X6_judge_L17, f_X7_findRows_L7, heldS hh hr hi]
    simp only [if_neg (nl24 h24), gd_nI h24 (by decide), gd_nI h100 (by decide), gd_nI h6 (by decide), clp h24 (by decide), clp h6 (by decide), hl i hi, hC.1 k h24, hR.1 k h100, say6 ho hC hn (hcd i hi) h100, say7 ho hR hn (hcd i hi) h100, bd1, bd2, lt1, nI_1,
      show (3 : Int32) * nI m = nI (3 * m) from pk_mul 3 m, show nI (3 * m) + (2 : Int32) = nI (3 * m + 2) from nI_add _ 2, gd_nI h0 (by decide), gd_nI h1 (by decide), gd_nI h2 (by decide), clp h0 (by decide), clp h1 (by decide), clp h2 (by decide)]
    cases hg : g k with
    | none =>
      rw [if_pos (show ov none = -9 from rfl), if_pos (show rv none < 0 by decide)]
      exact ih (k + 1) m f b (by omega) (by omega) (by omega)
    | some w =>
      have hw := sm_lt (ho.1 k) hg
      rw [if_neg (ovs_9 hw), if_neg (rvs_n hw)]
      have hj : ∃ j : Int32, (if ov (xsc (cd i) k g n mk) = ov (some w) then (1 : Int32) else 0) = j ∧ (if ov (xsc (cd i) k g n mk) = rv (some w) then (1 : Int32) else 0) = j := by
        rcases said_c (xsc_sm (c := cd i) (y := k) (g := g) (mk := mk) hn) (sm_s hw) (by simp) with ⟨e1, e2⟩ | ⟨e1, e2⟩
        · exact ⟨1, if_pos e1, if_pos e2⟩
        · exact ⟨0, if_neg e1, if_neg e2⟩
      obtain ⟨j, hj2, hj3⟩ := hj
      rw [hj2, hj3]
      obtain ⟨m', b', p1, p2, p3, p4, p5⟩ := ih (k + 1) (m + 1) f (upd (upd (upd b (3 * m) (nI k)) (3 * m + 1) (ov (xsc (cd i) k g n mk))) (3 * m + 2) j) (by omega) (by omega) (by omega)
      have r0 : b' (3 * m) = nI k := by rw [p4 _ (by omega), pk_un (by omega), pk_un (by omega), pk_us]
      have r1 : b' (3 * m + 1) = ov (xsc (cd i) k g n mk) := by rw [p4 _ (by omega), pk_un (by omega), pk_us]
      have r2 : b' (3 * m + 2) = j := by rw [p4 _ (by omega), pk_us]
      refine ⟨m', b', by omega, p2, p3, fun z hz => by rw [p4 z (by omega), pk_un (by omega), pk_un (by omega), pk_un (by omega)], ?_⟩
      by_cases c1 : rc ≤ m
      · rw [if_pos (nI_le c1 (by omega))]
        rcases p5 with ⟨q1, q2⟩ | ⟨z, q1, q2, q3, q4, q5, q6⟩
        · exact Or.inl ⟨fun z z1 z2 z3 => by omega, q2⟩
        · omega
      · rw [if_neg (nl (by omega) (by omega)), is1 hrc (by omega)]
        simp only []
        by_cases c2 : rowEq ce b' m
        · have c3 : ce (3 * m) = nI k ∧ ce (3 * m + 1) = ov (xsc (cd i) k g n mk) ∧ ce (3 * m + 2) = j := by
            unfold rowEq at c2; rw [r0, r1, r2] at c2; exact c2
          rw [if_pos c3, if_neg (show ¬ (1 : Int32) = 0 by decide)]
          rcases p5 with ⟨q1, q2⟩ | ⟨z, q1, q2, q3, q4, q5, q6⟩
          · refine Or.inl ⟨fun z z1 z2 z3 => ?_, q2⟩
            by_cases e : z = m
            · rw [e]; exact c2
            · exact q1 z (by omega) z2 z3
          · refine Or.inr ⟨z, by omega, q2, q3, q4, fun y y1 y2 => ?_, q6⟩
            by_cases e : y = m
            · rw [e]; exact c2
            · exact q5 y (by omega) y2
        · have c3 : ¬ (ce (3 * m) = nI k ∧ ce (3 * m + 1) = ov (xsc (cd i) k g n mk) ∧ ce (3 * m + 2) = j) := by
            unfold rowEq at c2; rw [r0, r1, r2] at c2; exact c2
          rw [if_neg c3, if_pos rfl]
          exact Or.inr ⟨m, Nat.le_refl m, by omega, by omega, c2, fun y y1 y2 => by omega, rfl⟩
theorem row7 {x : Nat} {ro mu : Nat → Int32} (hx : x < 24) (j0 : Bool) (f : Nat) (hf : 4 ≤ f) : ∃ r : Int32, f_X7_judge_L42 (nI x) ro mu f (if j0 then 1 else 0) 0 = some r ∧ (r = 0 ↔ ¬ (j0 = true ∧ rowEq ro mu x)) := by
  obtain ⟨f, rfl⟩ : ∃ q, f = q + 4 := ⟨f - 4, by omega⟩
  have h0 : 3 * x < 72 := by omega
  have h1 : 3 * x + 1 < 72 := by omega
  have h2 : 3 * x + 2 < 72 := by omega
  have z3 : ¬ (3 : Int32) ≤ 0 := by decide
  have z31 : ¬ (3 : Int32) ≤ 1 := by decide
  have z32 : ¬ (3 : Int32) ≤ 2 := by decide
  have z33 : (3 : Int32) ≤ 3 := by decide
  have a1 : (0 : Int32) + 1 = 1 := by decide
  have a2 : (1 : Int32) + 1 = 2 := by decide
  have a3 : (2 : Int32) + 1 = 3 := by decide
  have n1 : ¬ (1 : Int32) = 0 := by decide
  have i0 : nI (3 * x) + (0 : Int32) = nI (3 * x) := nI_p0 _
  have i2 : nI (3 * x) + (2 : Int32) = nI (3 * x + 2) := nI_add _ 2
  cases j0 with
  | false =>
    refine ⟨0, ?_, by simp⟩
    rw [show f + 4 = (f + 3) + 1 from rfl, f_X7_judge_L42, if_neg z3]
    simp
  | true =>
    unfold rowEq
    rw [show f + 4 = (f + 3) + 1 from rfl, f_X7_judge_L42, if_pos rfl, if_neg z3, if_neg n1, show (3 : Int32) * nI x = nI (3 * x) from pk_mul 3 x, i0, gd_nI h0 (by decide), gd_nI h0 (by decide), clp h0 (by decide), a1]
    by_cases c0 : ro (3 * x) = mu (3 * x)
    rotate_left
    · rw [if_neg c0, show f + 3 = (f + 2) + 1 from rfl, f_X7_judge_L42, if_neg z31, if_pos rfl]
      exact ⟨0, rfl, by simp [c0]⟩
    rw [if_pos c0, show f + 3 = (f + 2) + 1 from rfl, f_X7_judge_L42, if_neg z31, if_neg n1, show (3 : Int32) * nI x = nI (3 * x) from pk_mul 3 x, nI_1, gd_nI h1 (by decide), gd_nI h1 (by decide), clp h1 (by decide), a2]
    by_cases c1 : ro (3 * x + 1) = mu (3 * x + 1)
    rotate_left
    · rw [if_neg c1, show f + 2 = (f + 1) + 1 from rfl, f_X7_judge_L42, if_neg z32, if_pos rfl]
      exact ⟨0, rfl, by simp [c1]⟩
    rw [if_pos c1, show f + 2 = (f + 1) + 1 from rfl, f_X7_judge_L42, if_neg z32, if_neg n1, show (3 : Int32) * nI x = nI (3 * x) from pk_mul 3 x, i2, gd_nI h2 (by decide), gd_nI h2 (by decide), clp h2 (by decide), a3]
    by_cases c2 : ro (3 * x + 2) = mu (3 * x + 2)
    · rw [if_pos c2, f_X7_judge_L42, if_pos z33]; exact ⟨1, rfl, by simp [c0, c1, c2]⟩
    · rw [if_neg c2, f_X7_judge_L42, if_pos z33]; exact ⟨0, rfl, by simp [c2]⟩
theorem jud7_j {rc m : Nat} {ro mu : Nat → Int32} (hrc : rc ≤ 24) (hm : m ≤ 24) : ∀ (d x f : Nat), x + d = rc → d < f →
    ((∀ z, x ≤ z → z < rc → z < m ∧ rowEq ro mu z) → f_X7_judge_L17 (nI rc) (nI m) ro mu f (nI x) = some (.inl ())) ∧
    (∀ z, x ≤ z → z < rc → ¬ (z < m ∧ rowEq ro mu z) → (∀ y, x ≤ y → y < z → y < m ∧ rowEq ro mu y) → f_X7_judge_L17 (nI rc) (nI m) ro mu f (nI x) = some (.inr (nI (z + 1), nI m, mu))) := by
  intro d
  induction d with
  | zero =>
    intro x f hx hf
    obtain ⟨f, rfl⟩ : ∃ q, f = q + 1 := ⟨f - 1, by omega⟩
    obtain rfl : x = rc := by omega
    refine ⟨fun _ => ?_, fun z h1 h2 => by omega⟩
    rw [f_X7_judge_L17, if_pos (nI_le (Nat.le_refl x) (by omega))]
  | succ d ih =>
    intro x f hx hf
    obtain ⟨f, rfl⟩ : ∃ q, f = q + 1 := ⟨f - 1, by omega⟩
    have hj : (if nI m ≤ nI x then (0 : Int32) else 1) = (if decide (x < m) then 1 else 0) := by
      by_cases c : x < m
      · rw [if_neg (nl c (by omega))]; simp [c]
      · rw [if_pos (nI_le (by omega) (by omega))]; simp [c]
    obtain ⟨r, e1, e2⟩ := row7 (x := x) (ro := ro) (mu := mu) (by omega) (decide (x < m)) 1000 (by omega)
    rw [f_X7_judge_L17, if_neg (nl (by omega) (by omega))]
    simp only [lt1]
    rw [hj, e1]
    simp only [bd1, nI_1]
    have hih := ih (x + 1) f (by omega) (by omega)
    by_cases c : x < m ∧ rowEq ro mu x
    · have hr0 : ¬ r = 0 := fun z => (e2.mp z) ⟨by simp [c.1], c.2⟩
      rw [if_neg hr0]
      refine ⟨fun h => hih.1 (fun z z1 z2 => h z (by omega) z2), fun z z1 z2 z3 z4 => hih.2 z ?_ z2 z3 (fun y y1 y2 => z4 y (by omega) y2)⟩
      rcases Nat.lt_or_ge x z with h | h
      · exact h
      · obtain rfl : z = x := by omega
        exact absurd c z3
    · have hr0 : r = 0 := e2.mpr (fun z => c ⟨by have := z.1; simpa using this, z.2⟩)
      rw [if_pos hr0]
      refine ⟨fun h => absurd (h x (Nat.le_refl x) (by omega)) c, fun z z1 z2 z3 z4 => ?_⟩
      rcases Nat.lt_or_ge x z with h | h
      · exact absurd (z4 x (Nat.le_refl x) h) c
      · obtain rfl : z = x := by omega
        rfl
theorem op_judge (P : PX n hc cd g mk vil mar hld sta mks rul) {rc : Nat} {ce ro : Nat → Int32} (hrc : rc ≤ 24) (he : ∀ j, j < 3 * rc → ce j = ro j) (i1 mm : Int32) (mu : Nat → Int32) :
    ∃ (r mm' : Int32) (mu' : Nat → Int32), f_X6_judge i1 (nI hc) (nI n) vil hld mar (nI rc) ce = some r ∧ f_X7_judge i1 (nI n) (nI hc) (nI rc) mm sta rul mks mu ro = some (r, mm', mu') := by
  have P0 := P
  obtain ⟨hn, hh, hcd, ho, hC, hR, hl, hr⟩ := P
  unfold f_X6_judge f_X7_judge
  rcases held_c i1 hh with ⟨a1, a2⟩ | ⟨k, hk, rfl, a1, a2⟩
  · rw [if_pos a1, if_pos a2]; exact ⟨_, _, _, rfl, rfl⟩
  · rw [if_neg a1, if_neg a2]
    obtain ⟨m', b', p1, p2, p3, p4, p5⟩ := judge_j P0 (ce := ce) hk hrc 24 0 0 1000 mu (by omega) (by omega) (by omega)
    have hro : ∀ z, z < rc → (rowEq ce b' z ↔ rowEq ro b' z) := fun z hz => by
      unfold rowEq
      rw [he (3 * z) (by omega), he (3 * z + 1) (by omega), he (3 * z + 2) (by omega)]
    unfold f_X7_findRows
    rw [show f_X7_findRows_L7 sta (nI k) (nI n) rul mks 1000 0 0 mu = _ from p3]
    simp only [bd2]
    obtain ⟨j1, j2⟩ := jud7_j (ro := ro) (mu := b') hrc p2 rc 0 1000 (by omega) (by omega)
    rcases p5 with ⟨q1, q2⟩ | ⟨z, q1, q2, q3, q4, q5, q6⟩
    · rw [show f_X6_judge_L17 vil (nI k) hld (nI n) mar (nI rc) ce 1000 0 0 = _ from q2]
      by_cases c : rc ≤ m'
      · rw [show f_X7_judge_L17 (nI rc) (nI m') ro b' 1000 0 = _ from j1 (fun z _ h => ⟨by omega, (hro z h).mp (q1 z (by omega) (by omega) h)⟩)]
        simp only [bs0, bs1]
        rw [if_pos (nI_le c (by omega))]
        by_cases c2 : m' ≤ rc
        · rw [if_pos (nI_le c2 (by omega)), if_pos (nI_le c2 (by omega))]; exact ⟨_, _, _, rfl, rfl⟩
        · rw [if_neg (nl (by omega) (by omega)), if_neg (nl (by omega) (by omega))]; exact ⟨_, _, _, rfl, rfl⟩
      · rw [show f_X7_judge_L17 (nI rc) (nI m') ro b' 1000 0 = _ from j2 m' (by omega) (by omega) (fun z => by omega) (fun y _ h => ⟨h, (hro y (by omega)).mp (q1 y (by omega) h (by omega))⟩)]
        simp only [bs0, bs1]
        rw [if_neg (nl (by omega) (by omega)), nI_1]
        exact ⟨_, _, _, rfl, rfl⟩
    · rw [show f_X6_judge_L17 vil (nI k) hld (nI n) mar (nI rc) ce 1000 0 0 = _ from q6]
      rw [show f_X7_judge_L17 (nI rc) (nI m') ro b' 1000 0 = _ from j2 z (by omega) q3 (fun h => q4 ((hro z q3).mpr h.2)) (fun y _ h => ⟨by omega, (hro y (by omega)).mp (q5 y (by omega) h)⟩)]
      exact ⟨_, _, _, rfl, rfl⟩
end
