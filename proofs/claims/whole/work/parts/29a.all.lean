/-! ===== all rules ===== -/
theorem eq600 : (600 : Int32) ≤ nI 600 := by decide
theorem fit_c {g : Nat → Option Nat} {mk : Nat → Nat} {c n M : Nat} : (mis g n mk c ≤ M ∧ ¬ (if mis g n mk c ≤ M then (1 : Int32) else 0) = 0) ∨ (¬ mis g n mk c ≤ M ∧ (if mis g n mk c ≤ M then (1 : Int32) else 0) = 0) := by
  by_cases h : mis g n mk c ≤ M
  · exact Or.inl ⟨h, by rw [if_pos h]; decide⟩
  · exact Or.inr ⟨h, by rw [if_neg h]⟩
section
variable {n hc : Nat} {cd : Nat → Nat} {g : Nat → Option Nat} {mk : Nat → Nat} {vil mar hld sta mks rul : Nat → Int32}
theorem fits_j (ho : BkO g mk) (hC : BkC g mk vil mar) (hR : BkR g mk sta mks) (hn : 2 ≤ n ∧ n ≤ 10) {M : Nat} (hM : M ≤ 9) : ∀ (c k a f : Nat), k + c = 600 → a ≤ k → c < f →
    ∃ r, f_X6_fits_L16 (nI M) (nI n) vil mar f (nI a) (nI k) = some r ∧ f_X7_fits_L13 (nI n) sta mks (nI M) f (nI a) (nI k) = some r := by
  intro c
  induction c with
  | zero =>
    intro k a f hk ha hf
    obtain ⟨f, rfl⟩ : ∃ q, f = q + 1 := ⟨f - 1, by omega⟩
    obtain rfl : k = 600 := by omega
    exact ⟨nI a, by rw [f_X6_fits_L16, if_pos eq600], by rw [f_X7_fits_L13, if_pos eq600]⟩
  | succ c ih =>
    intro k a f hk ha hf
    obtain ⟨f, rfl⟩ : ∃ q, f = q + 1 := ⟨f - 1, by omega⟩
    have h600 : k < 600 := by omega
    rw [f_X6_fits_L16, f_X7_fits_L13, if_neg (nl600 h600), if_neg (nl600 h600), fit6 ho hC hn h600 (by omega), all7 ho hR hn h600]
    simp only [bd1, nI_1, nI_p0, gt7 (show M ≤ 24 by omega)]
    rcases fit_c (g := g) (mk := mk) (c := k) (n := n) (M := M) with ⟨e1, e2⟩ | ⟨e1, e2⟩
    · rw [if_neg e2, if_neg (fun z => z e1)]
      exact ih (k + 1) (a + 1) f (by omega) (by omega) (by omega)
    · rw [if_pos e2, if_pos e1]
      exact ih (k + 1) a f (by omega) (by omega) (by omega)
theorem op_fits (P : PX n hc cd g mk vil mar hld sta mks rul) (i1 : Int32) : ∃ r, f_X6_fits i1 (nI n) vil mar = some r ∧ f_X7_fits i1 (nI n) sta mks = some r := by
  obtain ⟨hn, hh, hcd, ho, hC, hR, hl, hr⟩ := P
  unfold f_X6_fits f_X7_fits f_X7_isAllowed
  rcases rngN i1 0 9 (by omega) (by omega) with ⟨M, _, hM, rfl, a1, a2⟩ | ⟨a1, a2⟩
  · rw [if_pos (show f_X6_outside (nI M) 0 9 = 0 from a1), if_neg (show ¬ f_X7_in (nI M) 0 9 = 0 from a2)]
    obtain ⟨r, e1, e2⟩ := fits_j ho hC hR hn hM 600 0 0 1000 (by omega) (by omega) (by omega)
    rw [show f_X6_fits_L16 (nI M) (nI n) vil mar 1000 0 0 = some r from e1, show f_X7_fits_L13 (nI n) sta mks (nI M) 1000 0 0 = some r from e2]
    exact ⟨_, rfl, rfl⟩
  · rw [if_neg (show ¬ f_X6_outside i1 0 9 = 0 from a1), if_pos (show f_X7_in i1 0 9 = 0 from a2)]
    exact ⟨_, rfl, rfl⟩
/-! the plainest -/
def plS (M : Nat) (g : Nat → Option Nat) (n : Nat) (mk : Nat → Nat) : Nat → Nat → Option Nat → Nat → Option Nat × Nat
  | 0, _, o, l => (o, l)
  | c + 1, k, o, l => if l ≤ wd k then plS M g n mk c (k + 1) o l else if mis g n mk k ≤ M then plS M g n mk c (k + 1) (some k) (wd k) else plS M g n mk c (k + 1) o l
def b3 : Option Nat → Int32 | none => -3 | some k => nI k
theorem plS_min {M : Nat} : ∀ (c k : Nat) (o1 o2 : Option Nat) (l1 l2 L : Nat), l1 = min L l2 → (plS M g n mk c k o1 l1).2 = min L (plS M g n mk c k o2 l2).2 := by
  intro c
  induction c with
  | zero => intro k o1 o2 l1 l2 L h; exact h
  | succ c ih =>
    intro k o1 o2 l1 l2 L h
    rw [plS, plS]
    by_cases c1 : l1 ≤ wd k
    · rw [if_pos c1]
      by_cases c2 : l2 ≤ wd k
      · rw [if_pos c2]; exact ih _ _ _ _ _ _ h
      · rw [if_neg c2]
        by_cases c3 : mis g n mk k ≤ M
        · rw [if_pos c3]; exact ih _ _ _ _ _ _ (by omega)
        · rw [if_neg c3]; exact ih _ _ _ _ _ _ h
    · rw [if_neg c1, if_neg (show ¬ l2 ≤ wd k by omega)]
      by_cases c3 : mis g n mk k ≤ M
      · rw [if_pos c3, if_pos c3]; exact ih _ _ _ _ _ _ (by omega)
      · rw [if_neg c3, if_neg c3]; exact ih _ _ _ _ _ _ h
theorem plS_inv {M : Nat} : ∀ (c k : Nat) (o : Option Nat) (l L : Nat), k + c ≤ 600 → l ≤ L → (o = none → l = L) → (∀ b, o = some b → wd b = l ∧ l < L ∧ b < 600) →
    ((plS M g n mk c k o l).1 = none → (plS M g n mk c k o l).2 = L) ∧ (∀ b, (plS M g n mk c k o l).1 = some b → wd b = (plS M g n mk c k o l).2 ∧ (plS M g n mk c k o l).2 < L ∧ b < 600) := by
  intro c
  induction c with
  | zero => intro k o l L _ _ h1 h2; exact ⟨h1, h2⟩
  | succ c ih =>
    intro k o l L hk hl h1 h2
    rw [plS]
    by_cases c1 : l ≤ wd k
    · rw [if_pos c1]; exact ih _ _ _ _ (by omega) hl h1 h2
    · rw [if_neg c1]
      by_cases c3 : mis g n mk k ≤ M
      · rw [if_pos c3]
        exact ih _ _ _ _ (by omega) (by omega) (fun z => by cases z) (fun b hb => by cases hb; exact ⟨rfl, by omega, by omega⟩)
      · rw [if_neg c3]; exact ih _ _ _ _ (by omega) hl h1 h2
theorem pl6_j (ho : BkO g mk) (hC : BkC g mk vil mar) (hn : 2 ≤ n ∧ n ≤ 10) {M : Nat} (hM : M ≤ 9) : ∀ (c k f : Nat) (o : Option Nat) (l : Nat), k + c = 600 → c < f → l ≤ 5 →
    f_X0_plainestRule_L9 (nI M) (nI n) vil mar f (b3 o) (nI l) (nI k) = some (b3 (plS M g n mk c k o l).1) := by
  intro c
  induction c with
  | zero =>
    intro k f o l hk hf hl
    obtain ⟨f, rfl⟩ : ∃ q, f = q + 1 := ⟨f - 1, by omega⟩
    obtain rfl : k = 600 := by omega
    rw [f_X0_plainestRule_L9, if_pos eq600]; rfl
  | succ c ih =>
    intro k f o l hk hf hl
    obtain ⟨f, rfl⟩ : ∃ q, f = q + 1 := ⟨f - 1, by omega⟩
    have h600 : k < 600 := by omega
    have hw := wd_b k
    rw [f_X0_plainestRule_L9, if_neg (nl600 h600), wd6 h600, plS, nI_1]
    by_cases c1 : l ≤ wd k
    · rw [if_pos (nI_le c1 (by omega)), if_pos c1]; exact ih (k + 1) f o l (by omega) (by omega) hl
    · rw [if_neg (nI_ge (by omega) (by omega)), if_neg c1, fit6 ho hC hn h600 (by omega)]
      simp only [bd1]
      rcases fit_c (g := g) (mk := mk) (c := k) (n := n) (M := M) with ⟨e1, e2⟩ | ⟨e1, e2⟩
      · rw [if_neg e2, if_pos e1]; exact ih (k + 1) f (some k) (wd k) (by omega) (by omega) (by omega)
      · rw [if_pos e2, if_neg e1]; exact ih (k + 1) f o l (by omega) (by omega) hl
theorem pl7_j (ho : BkO g mk) (hR : BkR g mk sta mks) (hn : 2 ≤ n ∧ n ≤ 10) {M : Nat} (hM : M ≤ 9) : ∀ (c k f : Nat) (o : Option Nat) (l : Nat), k + c = 600 → c < f → (o = none → l = 5) → (∀ b, o = some b → wd b = l ∧ b < 600) →
    f_X7_plainestOf_L4 (nI n) sta mks (nI M) f (rv o) (nI k) = some (rv (plS M g n mk c k o l).1) := by
  intro c
  induction c with
  | zero =>
    intro k f o l hk hf h1 h2
    obtain ⟨f, rfl⟩ : ∃ q, f = q + 1 := ⟨f - 1, by omega⟩
    obtain rfl : k = 600 := by omega
    rw [f_X7_plainestOf_L4, if_pos eq600]; rfl
  | succ c ih =>
    intro k f o l hk hf h1 h2
    obtain ⟨f, rfl⟩ : ∃ q, f = q + 1 := ⟨f - 1, by omega⟩
    have h600 : k < 600 := by omega
    have hw := wd_b k
    rw [f_X7_plainestOf_L4, if_neg (nl600 h600), wd7 h600, plS, all7 ho hR hn h600]
    simp only [bd1, nI_1, gt7 (show M ≤ 24 by omega)]
    cases o with
    | none =>
      rw [if_pos (show rv none < 0 by decide)]
      have := h1 rfl
      rw [if_neg (show ¬ l ≤ wd k by omega)]
      by_cases e1 : mis g n mk k ≤ M
      · rw [if_neg (fun z => z e1), if_pos e1]
        exact ih (k + 1) f (some k) (wd k) (by omega) (by omega) (fun z => by cases z) (fun b hb => by cases hb; exact ⟨rfl, h600⟩)
      · rw [if_pos e1, if_neg e1]; exact ih (k + 1) f none l (by omega) (by omega) h1 h2
    | some b =>
      obtain ⟨hb1, hb2⟩ := h2 b rfl
      have hwb := wd_b b
      rw [if_neg (show ¬ rv (some b) < 0 from nI_pos (by omega)), show f_X7_allWords (rv (some b)) = nI (wd b) from wd7 hb2]
      by_cases c1 : l ≤ wd k
      · rw [if_pos (nI_le (by omega) (by omega)), if_pos c1]; exact ih (k + 1) f (some b) l (by omega) (by omega) h1 h2
      · rw [if_neg (nI_ge (by omega) (by omega)), if_neg c1]
        by_cases e1 : mis g n mk k ≤ M
        · rw [if_neg (fun z => z e1), if_pos e1]
          exact ih (k + 1) f (some k) (wd k) (by omega) (by omega) (fun z => by cases z) (fun b hb => by cases hb; exact ⟨rfl, h600⟩)
        · rw [if_pos e1, if_neg e1]; exact ih (k + 1) f (some b) l (by omega) (by omega) h1 h2
def plB (M : Nat) (g : Nat → Option Nat) (n : Nat) (mk : Nat → Nat) (l : Nat) : Option Nat × Nat := plS M g n mk 600 0 none l
theorem pl6 (ho : BkO g mk) (hC : BkC g mk vil mar) (hn : 2 ≤ n ∧ n ≤ 10) {M l : Nat} (hM : M ≤ 9) (hl : l ≤ 5) : f_X0_plainestRule (nI M) (nI l) (nI n) vil mar = some (b3 (plB M g n mk l).1) := by
  have h := pl6_j ho hC hn hM 600 0 1000 none l (by omega) (by omega) hl
  unfold f_X0_plainestRule
  rw [show f_X0_plainestRule_L9 (nI M) (nI n) vil mar 1000 (-3) (nI l) 0 = some (b3 (plB M g n mk l).1) from h]; rfl
theorem pl7 (ho : BkO g mk) (hR : BkR g mk sta mks) (hn : 2 ≤ n ∧ n ≤ 10) {M : Nat} (hM : M ≤ 9) : f_X7_plainestOf (nI M) (nI n) sta mks = some (rv (plB M g n mk 5).1) := by
  have h := pl7_j ho hR hn hM 600 0 1000 none 5 (by omega) (by omega) (fun _ => rfl) (fun b hb => by cases hb)
  unfold f_X7_plainestOf
  rw [show f_X7_plainestOf_L4 (nI n) sta mks (nI M) 1000 (-1) 0 = some (rv (plB M g n mk 5).1) from h]; rfl
theorem plB_inv {M l : Nat} : ((plB M g n mk l).1 = none → (plB M g n mk l).2 = l) ∧ (∀ b, (plB M g n mk l).1 = some b → wd b = (plB M g n mk l).2 ∧ (plB M g n mk l).2 < l ∧ b < 600) :=
  plS_inv 600 0 none l l (by omega) (Nat.le_refl l) (fun _ => rfl) (fun b hb => by cases hb)
theorem op_plainest (P : PX n hc cd g mk vil mar hld sta mks rul) (i1 i2 : Int32) : ∃ r, f_X6_plainest i1 i2 (nI n) vil mar = some r ∧ f_X7_plainest i1 i2 (nI n) sta mks = some r := by
  obtain ⟨hn, hh, hcd, ho, hC, hR, hl, hr⟩ := P
  unfold f_X6_plainest f_X7_plainest f_X7_isAllowed
  rcases rngN i1 0 9 (by omega) (by omega) with ⟨M, _, hM, rfl, a1, a2⟩ | ⟨a1, a2⟩
  rotate_left
  · rw [if_neg (show ¬ f_X6_outside i1 0 9 = 0 from a1), if_pos (show f_X7_in i1 0 9 = 0 from a2)]
    exact ⟨_, rfl, rfl⟩
  rw [if_pos (show f_X6_outside (nI M) 0 9 = 0 from a1), if_neg (show ¬ f_X7_in (nI M) 0 9 = 0 from a2)]
  rcases rngN i2 0 5 (by omega) (by omega) with ⟨w, _, hw, rfl, b1, b2⟩ | ⟨b1, b2⟩
  rotate_left
  · rw [if_neg (show ¬ f_X6_outside i2 0 5 = 0 from b1), if_pos (show f_X7_in i2 0 5 = 0 from b2)]
    exact ⟨_, rfl, rfl⟩
  rw [if_pos (show f_X6_outside (nI w) 0 5 = 0 from b1), if_neg (show ¬ f_X7_in (nI w) 0 5 = 0 from b2), show f_X0_plainestRule (nI M) 5 (nI n) vil mar = _ from pl6 ho hC hn hM (l := 5) (by omega), pl7 ho hR hn hM]
  have hi := (plB_inv (M := M) (g := g) (n := n) (mk := mk) (l := 5)).2
  simp only [bd1]
  cases hb : (plB M g n mk 5).1 with
  | none =>
    rw [if_neg (show ¬ (0 : Int32) ≤ b3 none by decide), if_neg (show ¬ (0 : Int32) ≤ rv none by decide)]
    exact ⟨_, rfl, rfl⟩
  | some c =>
    have hc6 := (hi c hb).2.2
    rw [if_pos (show (0 : Int32) ≤ b3 (some c) from nI_pos' (by omega)), if_pos (show (0 : Int32) ≤ rv (some c) from nI_pos' (by omega)), show b3 (some c) = nI c from rfl, show rv (some c) = nI c from rfl, part6 ho hC hn hc6 hw, kindOf7 hc6, aOf7 hc6, bOf7 hc6, kOf7 hc6, wd7 hc6, all7 ho hR hn hc6]
    rcases (show w = 0 ∨ w = 1 ∨ w = 2 ∨ w = 3 ∨ w = 4 ∨ w = 5 by omega) with rfl | rfl | rfl | rfl | rfl | rfl <;> exact ⟨_, rfl, rfl⟩
def fwx (p : Nat) : Nat := if p = 5 then 9 else p
theorem few7 (ho : BkO g mk) (hR : BkR g mk sta mks) (hn : 2 ≤ n ∧ n ≤ 10) {M : Nat} (hM : M ≤ 9) : f_X7_fewestWords (nI M) (nI n) sta mks = some (nI (fwx (plB M g n mk 5).2)) := by
  unfold f_X7_fewestWords fwx
  rw [pl7 ho hR hn hM]
  have hi := plB_inv (M := M) (g := g) (n := n) (mk := mk) (l := 5)
  simp only [bd1]
  cases hb : (plB M g n mk 5).1 with
  | none => rw [if_neg (show ¬ (0 : Int32) ≤ rv none by decide), hi.1 hb]; rfl
  | some c =>
    obtain ⟨h1, h2, h3⟩ := hi.2 c hb
    rw [if_pos (show (0 : Int32) ≤ rv (some c) from nI_pos' (by omega)), show f_X7_allWords (rv (some c)) = nI (wd c) from wd7 h3, if_neg (by omega), h1]
theorem leave_j (hn : 2 ≤ n ∧ n ≤ 10) {M : Nat} (hM : M ≤ 9) (ho : BkO g mk) : ∀ (c k f : Nat) (l : Nat) (x : Int32) (vil sta : Nat → Int32), k + c = 24 → c < f → l ≤ 5 → BkC g mk vil mar → BkR g mk sta mks →
    ∃ (r : Int32) (vil' sta' : Nat → Int32), f_X6_leave_L42 (nI M) (nI n) mar f (nI l) x (nI k) vil = some (r, vil') ∧ f_X7_leave_L21 (nI M) (nI n) mks f (nI (fwx l)) x (nI k) sta = some (r, sta') ∧ BkC g mk vil' mar ∧ BkR g mk sta' mks := by
  intro c
  induction c with
  | zero =>
    intro k f l x vil sta hk hf hl hC hR
    obtain ⟨f, rfl⟩ : ∃ q, f = q + 1 := ⟨f - 1, by omega⟩
    obtain rfl : k = 24 := by omega
    exact ⟨x, vil, sta, by rw [f_X6_leave_L42, if_pos (show (24 : Int32) ≤ nI 24 by decide)], by rw [f_X7_leave_L21, if_pos (show (24 : Int32) ≤ nI 24 by decide)], hC, hR⟩
  | succ c ih =>
    intro k f l x vil sta hk hf hl hC hR
    obtain ⟨f, rfl⟩ : ∃ q, f = q + 1 := ⟨f - 1, by omega⟩
    have h24 : k < 24 := by omega
    have h100 : k < 100 := by omega
    have ho' : BkO (fun y => if y = k then none else g y) mk := bkO_set ho h24 sm_n
    have hC' : BkC (fun y => if y = k then none else g y) mk (upd vil k (-9)) mar := bkC_set (o := none) hC
    have hR' : BkR (fun y => if y = k then none else g y) mk (upd sta k (-1)) mks := bkR_set (o := none) hR
    have hC2 : BkC g mk (upd (upd vil k (-9)) k (vil k)) mar := ⟨fun y hy => by
      by_cases e : y = k
      · rw [e, pk_us, hC.1 k h24]
      · rw [pk_un e, pk_un e, hC.1 y hy], hC.2⟩
    have hR2 : BkR g mk (upd (upd sta k (-1)) k (sta k)) mks := ⟨fun y hy => by
      by_cases e : y = k
      · rw [e, pk_us, hR.1 k h100]
      · rw [pk_un e, pk_un e, hR.1 y hy], hR.2⟩
    rw [f_X6_leave_L42, f_X7_leave_L21]
    simp only [if_neg (nl24 h24), gd_nI h24 (by decide), gd_nI h100 (by decide), clp h24 (by decide), nI_1]
    cases hg : g k with
    | none =>
      rw [if_pos (show vil k = -9 by rw [hC.1 k h24, hg]; rfl), if_pos (show sta k < 0 by rw [hR.1 k h100, hg]; decide)]
      exact ih (k + 1) f l x vil sta (by omega) (by omega) hl hC hR
    | some w =>
      have hw := sm_lt (ho.1 k) hg
      rw [if_neg (show ¬ vil k = -9 by rw [hC.1 k h24, hg]; exact ovs_9 hw), if_neg (show ¬ sta k < 0 by rw [hR.1 k h100, hg]; exact rvs_n hw), pl6 ho' hC' hn hM hl, few7 ho' hR' hn hM]
      simp only [bd1, lt1]
      have hi := plB_inv (M := M) (g := fun y => if y = k then none else g y) (n := n) (mk := mk) (l := l)
      have hi5 := plB_inv (M := M) (g := fun y => if y = k then none else g y) (n := n) (mk := mk) (l := 5)
      have hmin : (plB M (fun y => if y = k then none else g y) n mk l).2 = min l (plB M (fun y => if y = k then none else g y) n mk 5).2 := plS_min 600 0 none none l 5 l (by omega)
      have h5 : (plB M (fun y => if y = k then none else g y) n mk 5).2 ≤ 5 := by
        cases hb : (plB M (fun y => if y = k then none else g y) n mk 5).1 with
        | none => rw [hi5.1 hb]; exact Nat.le_refl 5
        | some b => exact Nat.le_of_lt (hi5.2 b hb).2.1
      generalize plB M (fun y => if y = k then none else g y) n mk l = p at hi hmin
      generalize (plB M (fun y => if y = k then none else g y) n mk 5).2 = p5 at hmin h5
      cases hb : p.1 with
      | none =>
        have := hi.1 hb
        have hle : fwx l ≤ fwx p5 := by unfold fwx; split <;> split <;> omega
        have hb9 : fwx p5 ≤ 9 := by unfold fwx; split <;> omega
        rw [if_pos (show b3 none < 0 by decide), if_pos (nI_le hle (by omega)), if_pos (nI_le hle (by omega))]
        exact ih (k + 1) f l x _ _ (by omega) (by omega) hl hC2 hR2
      | some b =>
        obtain ⟨h1, h2, h3⟩ := hi.2 b hb
        have hb9 : fwx l ≤ 9 := by unfold fwx; split <;> omega
        have hlt : fwx p5 < fwx l := by unfold fwx; split <;> split <;> omega
        have hwb : wd b = fwx p5 := by unfold fwx; split <;> omega
        have hwb5 : wd b = fwx (wd b) := by unfold fwx; split <;> omega
        rw [if_neg (show ¬ b3 (some b) < 0 from nI_pos (by omega)), if_neg (nI_ge hlt (by omega)), if_neg (nI_ge hlt (by omega)), show f_X6_wordsOf (b3 (some b)) = nI (wd b) from wd6 h3, ← hwb]
        have key := ih (k + 1) f (wd b) (nI k) _ _ (by omega) (by omega) (by omega) hC2 hR2
        rw [← hwb5] at key
        exact key
theorem op_leave (P : PX n hc cd g mk vil mar hld sta mks rul) (i1 : Int32) : ∃ r vil' sta', f_X6_leave i1 (nI n) vil mar = some (r, vil') ∧ f_X7_leave i1 (nI n) sta mks = some (r, sta') ∧ PX n hc cd g mk vil' mar hld sta' mks rul := by
  obtain ⟨hn, hh, hcd, ho, hC, hR, hl, hr⟩ := P
  unfold f_X6_leave f_X7_leave f_X7_isAllowed
  rcases rngN i1 0 9 (by omega) (by omega) with ⟨M, _, hM, rfl, a1, a2⟩ | ⟨a1, a2⟩
  rotate_left
  · rw [if_neg (show ¬ f_X6_outside i1 0 9 = 0 from a1), if_pos (show f_X7_in i1 0 9 = 0 from a2)]
    exact ⟨_, _, _, rfl, rfl, hn, hh, hcd, ho, hC, hR, hl, hr⟩
  rw [if_pos (show f_X6_outside (nI M) 0 9 = 0 from a1), if_neg (show ¬ f_X7_in (nI M) 0 9 = 0 from a2), show f_X0_plainestRule (nI M) 5 (nI n) vil mar = _ from pl6 ho hC hn hM (l := 5) (by omega), few7 ho hR hn hM]
  have hi := plB_inv (M := M) (g := g) (n := n) (mk := mk) (l := 5)
  have hst : ∃ l, l ≤ 5 ∧ (if (0 : Int32) ≤ b3 (plB M g n mk 5).1 then f_X6_wordsOf (b3 (plB M g n mk 5).1) else 5) = nI l ∧ (plB M g n mk 5).2 = l := by
    cases hb : (plB M g n mk 5).1 with
    | none => exact ⟨5, Nat.le_refl 5, by rw [if_neg (show ¬ (0 : Int32) ≤ b3 none by decide)]; rfl, hi.1 hb⟩
    | some b =>
      obtain ⟨h1, h2, h3⟩ := hi.2 b hb
      exact ⟨wd b, by omega, by rw [if_pos (show (0 : Int32) ≤ b3 (some b) from nI_pos' (by omega))]; exact wd6 h3, h1.symm⟩
  obtain ⟨l, hl5, e1, e2⟩ := hst
  simp only [bd1, lt1]
  rw [e1, e2]
  obtain ⟨r, vil', sta', q1, q2, q3, q4⟩ := leave_j (mar := mar) (mks := mks) hn hM ho 24 0 1000 l (-3) vil sta (by omega) (by omega) hl5 hC hR
  rw [show f_X6_leave_L42 (nI M) (nI n) mar 1000 (nI l) (-3) 0 vil = some (r, vil') from q1, show f_X7_leave_L21 (nI M) (nI n) mks 1000 (nI (fwx l)) (-3) 0 sta = some (r, sta') from q2]
  exact ⟨r, vil', sta', rfl, rfl, hn, hh, hcd, ho, q3, q4, hl, hr⟩
end
