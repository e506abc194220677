/-! ===== odds, bet, hard, sure, camp, draw ===== -/
theorem gcd_j : ∀ (j a b k f f2 : Nat), b < 2 ^ j → k + 2 * j + 1 ≤ 64 → 0 < a + b → a < 2147483648 → b < 2147483648 → 2 * j + 1 < f → 2 * j + 1 < f2 →
    ∃ d, 0 < d ∧ d < 2147483648 ∧ f_X6_commonDivisor_L2 f (nI a) (nI b) (nI k) = some (nI d) ∧ f_X7_partOf_L5 f2 (nI a) (nI b) = some (nI d) := by
  intro j
  induction j with
  | zero =>
    intro a b k f f2 hb hk h0 ha hb2 hf hf2
    obtain ⟨f, rfl⟩ : ∃ q, f = q + 1 := ⟨f - 1, by omega⟩
    obtain ⟨f2, rfl⟩ : ∃ q, f2 = q + 1 := ⟨f2 - 1, by omega⟩
    obtain rfl : b = 0 := by omega
    have h64 : k < 64 := by omega
    exact ⟨a, by omega, ha, by rw [f_X6_commonDivisor_L2, if_neg (nl64 h64), if_pos (show nI 0 = (0 : Int32) from rfl)], by rw [f_X7_partOf_L5, if_pos (show nI 0 = (0 : Int32) from rfl)]⟩
  | succ j ih =>
    intro a b k f f2 hb hk h0 ha hb2 hf hf2
    obtain ⟨f, rfl⟩ : ∃ q, f = q + 2 := ⟨f - 2, by omega⟩
    obtain ⟨f2, rfl⟩ : ∃ q, f2 = q + 2 := ⟨f2 - 2, by omega⟩
    have h64 : k < 64 := by omega
    have h641 : k + 1 < 64 := by omega
    rw [f_X6_commonDivisor_L2, f_X7_partOf_L5, if_neg (nl64 h64)]
    by_cases b0 : b = 0
    · subst b0
      exact ⟨a, by omega, ha, by rw [if_pos (show nI 0 = (0 : Int32) from rfl)], by rw [if_pos (show nI 0 = (0 : Int32) from rfl)]⟩
    · have bp : 0 < b := Nat.pos_of_ne_zero b0
      have hr : a % b < b := Nat.mod_lt a bp
      rw [if_neg (nI_ne0 bp hb2), if_neg (nI_ne0 bp hb2), gz_nI bp hb2, gz_nI bp hb2, xrem_nI ha bp hb2, nI_1, f_X6_commonDivisor_L2, f_X7_partOf_L5, if_neg (nl64 h641)]
      generalize a % b = r at hr
      by_cases r0 : r = 0
      · subst r0
        exact ⟨b, bp, hb2, by rw [if_pos (show nI 0 = (0 : Int32) from rfl)], by rw [if_pos (show nI 0 = (0 : Int32) from rfl)]⟩
      · have rp : 0 < r := Nat.pos_of_ne_zero r0
        have hq : b % r < r := Nat.mod_lt b rp
        have hd := Nat.div_add_mod b r
        have hq1 : 1 ≤ b / r := (Nat.le_div_iff_mul_le rp).mpr (by omega)
        have hmul : r * 1 ≤ r * (b / r) := Nat.mul_le_mul_left r hq1
        have hp : 2 ^ (j + 1) = 2 * 2 ^ j := by rw [Nat.pow_succ, Nat.mul_comm]
        rw [if_neg (nI_ne0 rp (by omega)), if_neg (nI_ne0 rp (by omega)), gz_nI rp (by omega), gz_nI rp (by omega), xrem_nI hb2 rp (by omega), nI_1]
        exact ih r (b % r) (k + 1 + 1) f f2 (by omega) (by omega) (by omega) (by omega) (by omega) (by omega) (by omega)
theorem bet_j {a b : Nat → Int32} {s : Nat → Nat} (ha : ∀ v, v < 10 → a v = nI (s v)) (hb : ∀ v, v < 10 → b v = nI (s v)) : ∀ (d k x f : Nat), k + d = 10 → x < 10 → d < f →
    ∃ r, f_X6_bet_L27 a f (nI x) (nI k) = some r ∧ f_X7_bet_L33 b f (nI x) (nI k) = some r := by
  intro d
  induction d with
  | zero =>
    intro k x f hk hx hf
    obtain ⟨f, rfl⟩ : ∃ q, f = q + 1 := ⟨f - 1, by omega⟩
    obtain rfl : k = 10 := by omega
    exact ⟨nI x, by rw [f_X6_bet_L27, if_pos (show (10 : Int32) ≤ nI 10 by decide)], by rw [f_X7_bet_L33, if_pos (show (10 : Int32) ≤ nI 10 by decide)]⟩
  | succ d ih =>
    intro k x f hk hx hf
    obtain ⟨f, rfl⟩ : ∃ q, f = q + 1 := ⟨f - 1, by omega⟩
    have h10 : k < 10 := by omega
    rw [f_X6_bet_L27, f_X7_bet_L33]
    simp only [if_neg (nl10 h10), gd_nI h10 (by decide), gd_nI hx (by decide), clp h10 (by decide), clp hx (by decide), ha k h10, ha x hx, hb k h10, hb x hx, nI_1]
    by_cases c : nI (s k) ≤ nI (s x)
    · rw [if_pos c, if_pos c]; exact ih (k + 1) x f (by omega) hx (by omega)
    · rw [if_neg c, if_neg c]; exact ih (k + 1) k f (by omega) h10 (by omega)
theorem hard_j {a b : Nat → Int32} {s : Nat → Nat} {n : Nat} (hn : n ≤ 10) (ha : ∀ v, v < 10 → a v = nI (s v)) (hb : ∀ v, v < 10 → b v = nI (s v)) : ∀ (d k x f : Nat), k + d = n → x < 10 → d < f →
    ∃ r, f_X6_hard_L27 (nI n) a f (nI x) (nI k) = some r ∧ f_X7_hard_L33 (nI n) b f (nI x) (nI k) = some r := by
  intro d
  induction d with
  | zero =>
    intro k x f hk hx hf
    obtain ⟨f, rfl⟩ : ∃ q, f = q + 1 := ⟨f - 1, by omega⟩
    obtain rfl : k = n := by omega
    refine ⟨nI x, ?_, by rw [f_X7_hard_L33, if_pos (nI_le (Nat.le_refl k) (by omega))]⟩
    rw [f_X6_hard_L27]
    split
    · rfl
    · rw [if_pos (nI_le (Nat.le_refl k) (by omega))]
  | succ d ih =>
    intro k x f hk hx hf
    obtain ⟨f, rfl⟩ : ∃ q, f = q + 1 := ⟨f - 1, by omega⟩
    have h10 : k < 10 := by omega
    have hkn : k < n := by omega
    rw [f_X6_hard_L27, f_X7_hard_L33]
    simp only [if_neg (nl10 h10), if_neg (nl hkn (show n < 2147483648 by omega)), gd_nI h10 (by decide), gd_nI hx (by decide), clp h10 (by decide), clp hx (by decide), ha k h10, ha x hx, hb k h10, hb x hx, nI_1]
    by_cases c : nI (s x) ≤ nI (s k)
    · rw [if_pos c, if_pos c]; exact ih (k + 1) x f (by omega) hx (by omega)
    · rw [if_neg c, if_neg c]; exact ih (k + 1) k f (by omega) h10 (by omega)
theorem sure7_a {b : Nat → Int32} {s : Nat → Nat} {T : Nat} (hT : T < 2147483648) (hsT : ∀ v, s v ≤ T) (hb : ∀ v, v < 10 → b v = nI (s v)) (r : Int32) : ∀ (d k f : Nat), k + d = 10 → (∀ v, k ≤ v → v < 10 → s v ≠ T) → d < f → f_X7_sure_L30 (nI T) b f r (nI k) = some r := by
  intro d
  induction d with
  | zero =>
    intro k f hk hx hf
    obtain ⟨f, rfl⟩ : ∃ q, f = q + 1 := ⟨f - 1, by omega⟩
    obtain rfl : k = 10 := by omega
    rw [f_X7_sure_L30, if_pos (show (10 : Int32) ≤ nI 10 by decide)]
  | succ d ih =>
    intro k f hk hx hf
    obtain ⟨f, rfl⟩ : ∃ q, f = q + 1 := ⟨f - 1, by omega⟩
    have h10 : k < 10 := by omega
    have hs := hsT k
    have hne := hx k (Nat.le_refl k) h10
    have key := ih (k + 1) f (by omega) (fun v h1 h2 => hx v (by omega) h2) (by omega)
    rw [f_X7_sure_L30]
    simp only [if_neg (nl10 h10), gd_nI h10 (by decide), clp h10 (by decide), hb k h10, nI_1]
    rw [if_neg (show ¬ nI (s k) = nI T from fun z => hne ((nI_eq (by omega) hT).mp z))]
    split <;> exact key
theorem sure_j {a b : Nat → Int32} {s : Nat → Nat} {T : Nat} (hT0 : 0 < T) (hT : T < 2147483648) (hsT : ∀ v, s v ≤ T) (h2 : ∀ v w, v ≠ w → s v + s w ≤ T) (ha : ∀ v, v < 10 → a v = nI (s v)) (hb : ∀ v, v < 10 → b v = nI (s v)) : ∀ (d k f : Nat), k + d = 10 → d < f →
    (f_X6_sure_L27 a (nI T) f (nI k) = some (.inl ()) ∧ f_X7_sure_L30 (nI T) b f (-3) (nI k) = some (-3)) ∨ ∃ r, f_X6_sure_L27 a (nI T) f (nI k) = some (.inr (r, a)) ∧ f_X7_sure_L30 (nI T) b f (-3) (nI k) = some r := by
  intro d
  induction d with
  | zero =>
    intro k f hk hf
    obtain ⟨f, rfl⟩ : ∃ q, f = q + 1 := ⟨f - 1, by omega⟩
    obtain rfl : k = 10 := by omega
    exact Or.inl ⟨by rw [f_X6_sure_L27, if_pos (show (10 : Int32) ≤ nI 10 by decide)], by rw [f_X7_sure_L30, if_pos (show (10 : Int32) ≤ nI 10 by decide)]⟩
  | succ d ih =>
    intro k f hk hf
    obtain ⟨f, rfl⟩ : ∃ q, f = q + 1 := ⟨f - 1, by omega⟩
    have h10 : k < 10 := by omega
    have hs := hsT k
    rw [f_X6_sure_L27, f_X7_sure_L30]
    simp only [if_neg (nl10 h10), gd_nI h10 (by decide), clp h10 (by decide), ha k h10, hb k h10, nI_1]
    rw [if_neg (show ¬ nI T ≤ (0 : Int32) from nI_nle hT0 hT)]
    by_cases c : s k = T
    · rw [if_pos (show nI (s k) = nI T by rw [c]), if_pos (show nI (s k) = nI T by rw [c])]
      refine Or.inr ⟨nI k, rfl, ?_⟩
      exact sure7_a hT hsT hb (nI k) d (k + 1) f (by omega) (fun v h1 _ => by have := h2 k v (by omega); omega) (by omega)
    · have e : ¬ nI (s k) = nI T := fun z => c ((nI_eq (by omega) hT).mp z)
      rw [if_neg e, if_neg e]
      exact ih (k + 1) f (by omega) (by omega)
/-! how far -/
theorem apart_e {i x n : Nat} (hi : i < 1000) (hx : x < 1000) (hn : n < 1000) : (if (nI n - (if (0 : Int32) ≤ (nI i - nI x) then (nI i - nI x) else 0 - (nI i - nI x))) < (if (0 : Int32) ≤ (nI i - nI x) then (nI i - nI x) else 0 - (nI i - nI x)) then (nI n - (if (0 : Int32) ≤ (nI i - nI x) then (nI i - nI x) else 0 - (nI i - nI x))) else (if (0 : Int32) ≤ (nI i - nI x) then (nI i - nI x) else 0 - (nI i - nI x))) = f_X7_apart (nI i) (nI x) (nI n) := by
  have e1 : (if (0 : Int32) ≤ (nI i - nI x) then (nI i - nI x) else 0 - (nI i - nI x)) = (if nI x ≤ nI i then nI i - nI x else nI x - nI i) := by
    by_cases c : x ≤ i
    · rw [if_pos (show nI x ≤ nI i from nI_le c (by omega)), if_pos (show (0 : Int32) ≤ nI i - nI x by rw [pk_sub c]; exact nI_pos' (by omega))]
    · rw [if_neg (show ¬ nI x ≤ nI i from nI_ge (by omega) (by omega)), if_neg (show ¬ (0 : Int32) ≤ nI i - nI x from Int32.not_le.mpr (pk_sneg (by omega) (by omega))), Int32.zero_sub, Int32.neg_sub]
  rw [e1]
  unfold f_X7_apart
  simp only [lt1]
  generalize (if nI x ≤ nI i then nI i - nI x else nI x - nI i) = d
  by_cases c : nI n - d < d
  · rw [if_pos c, if_neg (Int32.not_le.mpr c)]
  · rw [if_neg c, if_pos (Int32.not_lt.mp c)]
theorem far_z {a : Nat → Int32} {n i : Nat} (ha : ∀ v, n ≤ v → v < 10 → a v = nI 0) (acc : Int32) : ∀ (d k f : Nat), k + d = 10 → n ≤ k → d < f → f_X6_farFrom_L4 a (nI n) (nI i) f acc (nI k) = some acc := by
  intro d
  induction d with
  | zero =>
    intro k f hk hnk hf
    obtain ⟨f, rfl⟩ : ∃ q, f = q + 1 := ⟨f - 1, by omega⟩
    obtain rfl : k = 10 := by omega
    rw [f_X6_farFrom_L4, if_pos (show (10 : Int32) ≤ nI 10 by decide)]
  | succ d ih =>
    intro k f hk hnk hf
    obtain ⟨f, rfl⟩ : ∃ q, f = q + 1 := ⟨f - 1, by omega⟩
    have h10 : k < 10 := by omega
    rw [f_X6_farFrom_L4, if_neg (nl10 h10), gd_nI h10 (by decide), clp h10 (by decide), ha k hnk h10, show nI 0 = (0 : Int32) from rfl, Int32.zero_mul, Int32.add_zero, nI_1]
    exact ih (k + 1) f (by omega) (by omega) (by omega)
theorem far_j {a b : Nat → Int32} {s : Nat → Nat} {n i : Nat} (hn : n ≤ 10) (hi : i < 10) (ha : ∀ v, v < 10 → a v = nI (s v)) (hb : ∀ v, v < 10 → b v = nI (s v)) (h0 : ∀ v, n ≤ v → s v = 0) : ∀ (d k f f2 : Nat) (acc : Int32), k + d = n → d + 11 < f → d < f2 →
    ∃ r, f_X6_farFrom_L4 a (nI n) (nI i) f acc (nI k) = some r ∧ f_X7_camp_L51 (nI n) b (nI i) f2 acc (nI k) = some r := by
  intro d
  induction d with
  | zero =>
    intro k f f2 acc hk hf hf2
    obtain ⟨f2, rfl⟩ : ∃ q, f2 = q + 1 := ⟨f2 - 1, by omega⟩
    obtain rfl : k = n := by omega
    exact ⟨acc, far_z (fun v h1 h2 => by rw [ha v h2, h0 v h1]) acc (10 - k) k f (by omega) (Nat.le_refl k) (by omega), by rw [f_X7_camp_L51, if_pos (nI_le (Nat.le_refl k) (by omega))]⟩
  | succ d ih =>
    intro k f f2 acc hk hf hf2
    obtain ⟨f, rfl⟩ : ∃ q, f = q + 1 := ⟨f - 1, by omega⟩
    obtain ⟨f2, rfl⟩ : ∃ q, f2 = q + 1 := ⟨f2 - 1, by omega⟩
    have h10 : k < 10 := by omega
    have hkn : k < n := by omega
    rw [f_X6_farFrom_L4, f_X7_camp_L51, if_neg (nl10 h10), if_neg (nl hkn (by omega)), gd_nI h10 (by decide), gd_nI h10 (by decide), clp h10 (by decide), ha k h10, hb k h10, apart_e (by omega) (by omega) (by omega), nI_1]
    exact ih (k + 1) f f2 _ (by omega) (by omega) (by omega)
theorem camp_j {a b : Nat → Int32} {n : Nat} (hn : n ≤ 10) {F : Nat → Int32} (h6 : ∀ i, i < 10 → f_X6_farFrom (nI i) a (nI n) = some (F i)) (h7 : ∀ i, i < 10 → f_X7_camp_L51 (nI n) b (nI i) 1000 0 0 = some (F i)) : ∀ (d k x f f2 : Nat), k + d = n → x < n → d < f → d < f2 →
    ∃ r, f_X6_camp_L27 (nI n) a f (nI x) (nI k) = some r ∧ f_X7_camp_L36 (nI n) b f2 (nI x) (F x) (nI k) = some r := by
  intro d
  induction d with
  | zero =>
    intro k x f f2 hk hx hf hf2
    obtain ⟨f, rfl⟩ : ∃ q, f = q + 1 := ⟨f - 1, by omega⟩
    obtain ⟨f2, rfl⟩ : ∃ q, f2 = q + 1 := ⟨f2 - 1, by omega⟩
    obtain rfl : k = n := by omega
    exact ⟨nI x, by rw [f_X6_camp_L27, if_pos (nI_le (Nat.le_refl k) (by omega))], by rw [f_X7_camp_L36, if_pos (nI_le (Nat.le_refl k) (by omega))]⟩
  | succ d ih =>
    intro k x f f2 hk hx hf hf2
    obtain ⟨f, rfl⟩ : ∃ q, f = q + 1 := ⟨f - 1, by omega⟩
    obtain ⟨f2, rfl⟩ : ∃ q, f2 = q + 1 := ⟨f2 - 1, by omega⟩
    have h10 : k < 10 := by omega
    have hkn : k < n := by omega
    rw [f_X6_camp_L27, f_X7_camp_L36, if_neg (nl hkn (by omega)), if_neg (nl hkn (by omega)), h6 k h10, h7 k h10]
    simp only [bd1, h6 x (show x < 10 by omega), nI_1]
    rw [if_neg (nI_pos (show x < 2147483648 by omega))]
    by_cases c : F x ≤ F k
    · rw [if_pos c, if_pos c]; exact ih (k + 1) x f f2 (by omega) hx (by omega) (by omega)
    · rw [if_neg c, if_neg c]; exact ih (k + 1) k f f2 (by omega) hkn (by omega) (by omega)
section
variable {n hc : Nat} {cd : Nat → Nat} {g : Nat → Option Nat} {mk : Nat → Nat} {vil mar hld sta mks rul : Nat → Int32}
theorem draw_j (ho : BkO g mk) (hC : BkC g mk vil mar) (hn : 2 ≤ n ∧ n ≤ 10) {M y t : Nat} {sd : Nat → Int32} (hM : M ≤ 9) (hy : y < 100) (ht : t < 100000) (hsd : ∀ z, z < 600 → sd z = ov (fs M g n mk y z)) : ∀ (c k f f2 q : Nat), k + c = 600 → q ≤ t → t < q + wto (fs M g n mk y) c k → c < f → c < f2 →
    ∃ z, z < 600 ∧ f_X6_drawn_L6 (nI y) (nI n) vil mar (nI M) (nI t) f (nI q) (nI k) = some (.inr (sd z)) ∧ f_X7_draw_L60 sd f2 (nI (t - q)) (nI k) = some (nI z) := by
  intro c
  induction c with
  | zero => intro k f f2 q hk hq h; rw [wto] at h; omega
  | succ c ih =>
    intro k f f2 q hk hq h hf hf2
    obtain ⟨f, rfl⟩ : ∃ q, f = q + 1 := ⟨f - 1, by omega⟩
    obtain ⟨f2, rfl⟩ : ∃ q, f2 = q + 1 := ⟨f2 - 1, by omega⟩
    have h600 : k < 600 := by omega
    have hsm : sm (xsc k y g n mk) := xsc_sm hn
    have hfm : sm (fs M g n mk y k) := fs_sm hn
    have hsb := shr_b k
    rw [wto] at h
    rw [f_X6_drawn_L6, f_X7_draw_L60, if_neg (nl600 h600), say6 ho hC hn h600 hy, fit6 ho hC hn h600 (by omega), shr6 h600]
    simp only [bd1, nI_1, nI_add, gd_nI h600 (by decide), clp h600 (by decide), hsd k h600, shr7 h600, show nI (t - q) - (0 : Int32) = nI (t - q) from pk_sub (b := 0) (by omega)]
    cases hF : fs M g n mk y k with
    | none =>
      rw [hF, if_pos rfl, Nat.zero_add] at h
      obtain ⟨z, hz, e1, e2⟩ := ih (k + 1) f f2 q (by omega) hq h (by omega) (by omega)
      refine ⟨z, hz, ?_, ?_⟩
      · by_cases hnone : xsc k y g n mk = none
        · rw [if_pos ((ov_9 hsm).mpr hnone), e1]
        · rw [if_neg (fun z => hnone ((ov_9 hsm).mp z))]
          rcases fit_c (g := g) (mk := mk) (c := k) (n := n) (M := M) with ⟨e3, e4⟩ | ⟨e3, e4⟩
          · exfalso; unfold fs at hF; rw [if_pos e3] at hF; exact hnone hF
          · rw [if_pos e4, e1]
      · rw [if_pos (show ov none < 0 by decide), if_neg (show ¬ (0 : Int32) ≤ ov none by decide), e2]
    | some w =>
      have hw10 := hfm w hF
      rw [hF, if_neg (by simp)] at h
      have hx : mis g n mk k ≤ M ∧ xsc k y g n mk = some w := by
        unfold fs at hF
        by_cases e : mis g n mk k ≤ M
        · rw [if_pos e] at hF; exact ⟨e, hF⟩
        · rw [if_neg e] at hF; cases hF
      rw [hx.2, if_neg (ovs_9 hw10), if_pos hx.1, if_neg (show ¬ (1 : Int32) = 0 by decide), if_neg (show ¬ ov (some w) < 0 from rvs_n hw10), if_pos (show (0 : Int32) ≤ ov (some w) from rvs_p hw10)]
      by_cases e : q + shr k ≤ t
      · obtain ⟨z, hz, e1, e2⟩ := ih (k + 1) f f2 (q + shr k) (by omega) e (by omega) (by omega) (by omega)
        refine ⟨z, hz, ?_, ?_⟩
        · rw [if_pos (nI_le e (by omega)), e1]
        · rw [if_neg (nI_nlt (by omega) (by omega)), pk_sub (by omega), show t - q - shr k = t - (q + shr k) by omega, e2]
      · refine ⟨k, h600, ?_, ?_⟩
        · rw [if_neg (nI_ge (by omega) (by omega)), hsd k h600, hF]
        · rw [if_pos (nI_lt (by omega) (by omega))]
end
