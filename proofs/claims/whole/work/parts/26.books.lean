/-! ===== books: told, last, misses, words, shares ===== -/
theorem nl {N k : Nat} (h : k < N) (hN : N < 2147483648) : ¬ nI N ≤ nI k := nI_ge h hN
theorem yl {N k : Nat} (h : N ≤ k) (hk : k < 2147483648) : nI N ≤ nI k := nI_le h hk
theorem nl3 {k : Nat} (h : k < 3) : ¬ (3 : Int32) ≤ nI k := nl h (by decide)
theorem nl6 {k : Nat} (h : k < 6) : ¬ (6 : Int32) ≤ nI k := nl h (by decide)
theorem nl10 {k : Nat} (h : k < 10) : ¬ (10 : Int32) ≤ nI k := nl h (by decide)
theorem nl24 {k : Nat} (h : k < 24) : ¬ (24 : Int32) ≤ nI k := nl h (by decide)
theorem nl30 {k : Nat} (h : k < 30) : ¬ (30 : Int32) ≤ nI k := nl h (by decide)
theorem nl40 {k : Nat} (h : k < 40) : ¬ (40 : Int32) ≤ nI k := nl h (by decide)
theorem nl64 {k : Nat} (h : k < 64) : ¬ (64 : Int32) ≤ nI k := nl h (by decide)
theorem nl100 {k : Nat} (h : k < 100) : ¬ (100 : Int32) ≤ nI k := nl h (by decide)
theorem nl200 {k : Nat} (h : k < 200) : ¬ (200 : Int32) ≤ nI k := nl h (by decide)
theorem nl600 {k : Nat} (h : k < 600) : ¬ (600 : Int32) ≤ nI k := nl h (by decide)
theorem nI_p0 (a : Nat) : nI a + (0 : Int32) = nI a := nI_add a 0
theorem clp {k N : Nat} (h : k < N) (hN : N < 2147483648) : (nI k).toNatClampNeg = k := nI_clamp (Nat.lt_trans h hN)
theorem sm_lt {o : Option Nat} {w : Nat} (h : sm o) (e : o = some w) : w < 10 := h w e
theorem ovs_9 {w : Nat} (h : w < 10) : ¬ ov (some w) = -9 := nI_m (by omega) (by decide)
theorem rvs_n {w : Nat} (h : w < 10) : ¬ rv (some w) < 0 := nI_pos (by omega)
theorem rvs_p {w : Nat} (h : w < 10) : (0 : Int32) ≤ rv (some w) := nI_pos' (by omega)
def BkO (g : Nat → Option Nat) (mk : Nat → Nat) : Prop := (∀ y, sm (g y)) ∧ (∀ y, 24 ≤ y → g y = none) ∧ (∀ y, mk y ≤ 9) ∧ ∀ y, 24 ≤ y → mk y = 0
def BkC (g : Nat → Option Nat) (mk : Nat → Nat) (v m : Nat → Int32) : Prop := (∀ y, y < 24 → v y = ov (g y)) ∧ ∀ y, y < 24 → m y = nI (mk y)
def BkR (g : Nat → Option Nat) (mk : Nat → Nat) (v m : Nat → Int32) : Prop := (∀ y, y < 100 → v y = rv (g y)) ∧ ∀ y, y < 100 → m y = nI (mk y)
/-- a loop of fuel f at y of 24, the rest c -/
theorem told_j {g : Nat → Option Nat} {v s : Nat → Int32} (hv : ∀ y, y < 24 → v y = ov (g y)) (hs : ∀ y, y < 100 → s y = rv (g y)) (hm : ∀ y, sm (g y)) :
    ∀ (c k a f : Nat), k + c = 24 → a ≤ k → c < f → ∃ r, r ≤ 24 ∧ f_X0_toldYears_L4 v f (nI a) (nI k) = some (nI r) ∧ f_X7_toldMany_L4 s f (nI a) (nI k) = some (nI r) := by
  intro c
  induction c with
  | zero =>
    intro k a f hk ha hf
    obtain ⟨f, rfl⟩ : ∃ q, f = q + 1 := ⟨f - 1, by omega⟩
    obtain rfl : k = 24 := by omega
    exact ⟨a, ha, by rw [f_X0_toldYears_L4, if_pos (show (24 : Int32) ≤ nI 24 by decide)], by rw [f_X7_toldMany_L4, if_pos (show (24 : Int32) ≤ nI 24 by decide)]⟩
  | succ c ih =>
    intro k a f hk ha hf
    obtain ⟨f, rfl⟩ : ∃ q, f = q + 1 := ⟨f - 1, by omega⟩
    have h24 : k < 24 := by omega
    have h100 : k < 100 := by omega
    simp only [f_X0_toldYears_L4, f_X7_toldMany_L4, if_neg (nl24 h24), gd_nI h24 (by decide), gd_nI h100 (by decide), clp h24 (by decide), hv k h24, hs k h100]
    cases hg : g k with
    | none =>
      rw [if_pos (show ov none = -9 from rfl), if_pos (show rv none < 0 by decide), nI_p0, nI_1]
      exact ih (k + 1) a f (by omega) (by omega) (by omega)
    | some w =>
      have hw := sm_lt (hm k) hg
      rw [if_neg (ovs_9 hw), if_neg (rvs_n hw), nI_1, nI_1]
      exact ih (k + 1) (a + 1) f (by omega) (by omega) (by omega)
theorem told_e {g : Nat → Option Nat} {v s : Nat → Int32} (hv : ∀ y, y < 24 → v y = ov (g y)) (hs : ∀ y, y < 100 → s y = rv (g y)) (hm : ∀ y, sm (g y)) : ∃ r, r ≤ 24 ∧ f_X0_toldYears v = some (nI r) ∧ f_X7_toldMany s = some (nI r) := by
  obtain ⟨r, h1, h2, h3⟩ := told_j hv hs hm 24 0 0 1000 (by omega) (by omega) (by omega)
  refine ⟨r, h1, ?_, ?_⟩
  · unfold f_X0_toldYears
    rw [show f_X0_toldYears_L4 v 1000 0 0 = some (nI r) from h2]; rfl
  · unfold f_X7_toldMany
    rw [show f_X7_toldMany_L4 s 1000 0 0 = some (nI r) from h3]; rfl
theorem last_j {g : Nat → Option Nat} {v s : Nat → Int32} (hv : ∀ y, y < 24 → v y = ov (g y)) (hs : ∀ y, y < 100 → s y = rv (g y)) (hm : ∀ y, sm (g y)) :
    ∀ (c k a f : Nat), k + c = 24 → a ≤ 24 → c < f → ∃ r, r ≤ 24 ∧ f_X0_last_L4 v f (nI a) (nI k) = some (nI r) ∧ f_X7_last_L4 s f (nI a) (nI k) = some (nI r) := by
  intro c
  induction c with
  | zero =>
    intro k a f hk ha hf
    obtain ⟨f, rfl⟩ : ∃ q, f = q + 1 := ⟨f - 1, by omega⟩
    obtain rfl : k = 24 := by omega
    exact ⟨a, ha, by rw [f_X0_last_L4, if_pos (show (24 : Int32) ≤ nI 24 by decide)], by rw [f_X7_last_L4, if_pos (show (24 : Int32) ≤ nI 24 by decide)]⟩
  | succ c ih =>
    intro k a f hk ha hf
    obtain ⟨f, rfl⟩ : ∃ q, f = q + 1 := ⟨f - 1, by omega⟩
    have h24 : k < 24 := by omega
    have h100 : k < 100 := by omega
    simp only [f_X0_last_L4, f_X7_last_L4, if_neg (nl24 h24), gd_nI h24 (by decide), gd_nI h100 (by decide), clp h24 (by decide), hv k h24, hs k h100]
    cases hg : g k with
    | none =>
      rw [if_pos (show ov none = -9 from rfl), if_pos (show rv none < 0 by decide), nI_1]
      exact ih (k + 1) a f (by omega) (by omega) (by omega)
    | some w =>
      have hw := sm_lt (hm k) hg
      rw [if_neg (ovs_9 hw), if_neg (rvs_n hw), nI_1]
      exact ih (k + 1) (k + 1) f (by omega) (by omega) (by omega)
theorem last_e {g : Nat → Option Nat} {v s : Nat → Int32} (hv : ∀ y, y < 24 → v y = ov (g y)) (hs : ∀ y, y < 100 → s y = rv (g y)) (hm : ∀ y, sm (g y)) : ∃ r, r ≤ 24 ∧ f_X0_last v = some (nI r) ∧ f_X7_last s = some (nI r) := by
  obtain ⟨r, h1, h2, h3⟩ := last_j hv hs hm 24 0 0 1000 (by omega) (by omega) (by omega)
  refine ⟨r, h1, ?_, ?_⟩
  · unfold f_X0_last
    rw [show f_X0_last_L4 v 1000 0 0 = some (nI r) from h2]; rfl
  · unfold f_X7_last
    rw [show f_X7_last_L4 s 1000 0 0 = some (nI r) from h3]; rfl
/-- what rule c says for y by a book -/
def xsc (c y : Nat) (g : Nat → Option Nat) (n : Nat) (mk : Nat → Nat) : Option Nat := xsay (c / 100) (c / 20 % 5) (c / 4 % 5) (c % 4 + 1) y g n mk
theorem xsc_sm {c y n : Nat} {g : Nat → Option Nat} {mk : Nat → Nat} (hn : 2 ≤ n ∧ n ≤ 10) : sm (xsc c y g n mk) := xsay_sm hn
theorem bkm {g : Nat → Option Nat} {mk : Nat → Nat} {v m : Nat → Int32} (ho : BkO g mk) (hc : BkC g mk v m) : marksOK 24 mk m := ⟨hc.2, ho.2.2.1, ho.2.2.2⟩
theorem bkmR {g : Nat → Option Nat} {mk : Nat → Nat} {v m : Nat → Int32} (ho : BkO g mk) (hc : BkR g mk v m) : marksOK 100 mk m := ⟨hc.2, ho.2.2.1, fun z hz => ho.2.2.2 z (by omega)⟩
theorem say6 {g : Nat → Option Nat} {mk : Nat → Nat} {v m : Nat → Int32} {c y n : Nat} (ho : BkO g mk) (hb : BkC g mk v m) (hn : 2 ≤ n ∧ n ≤ 10) (hc : c < 600) (hy : y < 100) : f_X0_saying (nI c) (nI y) 24 (nI n) v m = some (ov (xsc c y g n mk)) :=
  sayC hc ⟨fun z h _ => hb.1 z h, fun z h _ => ho.2.1 z h, fun z _ => ho.1 z⟩ hy (by decide) hn (bkm ho hb)
theorem say7 {g : Nat → Option Nat} {mk : Nat → Nat} {v m : Nat → Int32} {c y n : Nat} (ho : BkO g mk) (hb : BkR g mk v m) (hn : 2 ≤ n ∧ n ≤ 10) (hc : c < 600) (hy : y < 100) : f_X7_saysBy (nI (c / 100)) (nI (c / 20 % 5)) (nI (c / 4 % 5)) (nI (c % 4 + 1)) (nI y) 100 (nI n) v m = some (ov (xsc c y g n mk)) :=
  sayR (by omega) (by omega) (by omega) ⟨by omega, by omega⟩ ⟨fun z h _ => hb.1 z h, by omega, fun z _ => ho.1 z⟩ hy (by decide) hn (bkmR ho hb)
/-- in how many told years from k on w isn't what is told -/
def mss (g w : Nat → Option Nat) : Nat → Nat → Nat
  | 0, _ => 0
  | c + 1, k => (if g k = none then 0 else if w k = g k then 0 else 1) + mss g w c (k + 1)
theorem mss_le (g w : Nat → Option Nat) : ∀ c k, mss g w c k ≤ c := by
  intro c
  induction c with
  | zero => intro k; exact Nat.le_refl 0
  | succ c ih =>
    intro k
    have := ih (k + 1)
    rw [mss]
    split
    · omega
    · split <;> omega
theorem miss6_j {g : Nat → Option Nat} {mk : Nat → Nat} {v m : Nat → Int32} {cd n M : Nat} (ho : BkO g mk) (hb : BkC g mk v m) (hn : 2 ≤ n ∧ n ≤ 10) (hc : cd < 600) (hM : M ≤ 24) :
    ∀ (c k a f : Nat), k + c = 24 → a ≤ k → c < f → ∃ r, f_X0_misses_L5 (nI M) v (nI cd) (nI n) m f (nI a) (nI k) = some (nI r) ∧ r ≤ a + mss g (fun y => xsc cd y g n mk) c k ∧ (r = a + mss g (fun y => xsc cd y g n mk) c k ∨ M < r) := by
  intro c
  induction c with
  | zero =>
    intro k a f hk ha hf
    obtain ⟨f, rfl⟩ : ∃ q, f = q + 1 := ⟨f - 1, by omega⟩
    obtain rfl : k = 24 := by omega
    exact ⟨a, by rw [f_X0_misses_L5, if_pos (show (24 : Int32) ≤ nI 24 by decide)], Nat.le_refl _, Or.inl rfl⟩
  | succ c ih =>
    intro k a f hk ha hf
    obtain ⟨f, rfl⟩ : ∃ q, f = q + 1 := ⟨f - 1, by omega⟩
    have h24 : k < 24 := by omega
    have h100 : k < 100 := by omega
    rw [f_X0_misses_L5, if_neg (nl24 h24), mss]
    by_cases hMa : M < a
    · exact ⟨a, by rw [if_pos (show nI M < nI a from nI_lt hMa (by omega))], by omega, Or.inr hMa⟩
    · rw [if_neg (show ¬ nI M < nI a from nI_nlt (by omega) (by omega))]
      simp only [gd_nI h24 (by decide), clp h24 (by decide), hb.1 k h24, say6 ho hb hn hc h100, bd1]
      cases hg : g k with
      | none =>
        rw [if_pos (show ov none = -9 from rfl), nI_1, if_pos rfl, Nat.zero_add]
        exact ih (k + 1) a f (by omega) (by omega) (by omega)
      | some w =>
        have hw := sm_lt (ho.1 k) hg
        rw [if_neg (ovs_9 hw), nI_1, nI_1, if_neg (show ¬ (some w : Option Nat) = none by simp)]
        by_cases he : xsc cd k g n mk = some w
        · rw [if_pos (show ov (xsc cd k g n mk) = ov (some w) by rw [he]), if_pos he, Nat.zero_add]
          exact ih (k + 1) a f (by omega) (by omega) (by omega)
        · rw [if_neg (show ¬ ov (xsc cd k g n mk) = ov (some w) from fun z => he ((ov_inj (xsc_sm hn) (sm_s hw)).mp z)), if_neg he]
          obtain ⟨r, e1, e2, e3⟩ := ih (k + 1) (a + 1) f (by omega) (by omega) (by omega)
          exact ⟨r, e1, by omega, by omega⟩
theorem miss7_j {g : Nat → Option Nat} {mk : Nat → Nat} {v m : Nat → Int32} {cd n : Nat} (ho : BkO g mk) (hb : BkR g mk v m) (hn : 2 ≤ n ∧ n ≤ 10) (hc : cd < 600) :
    ∀ (c k a f : Nat), k + c = 24 → a ≤ k → c < f → f_X7_missesOf_L6 v (nI (cd / 100)) (nI (cd / 20 % 5)) (nI (cd / 4 % 5)) (nI (cd % 4 + 1)) (nI n) m f (nI a) (nI k) = some (nI (a + mss g (fun y => xsc cd y g n mk) c k)) := by
  intro c
  induction c with
  | zero =>
    intro k a f hk ha hf
    obtain ⟨f, rfl⟩ : ∃ q, f = q + 1 := ⟨f - 1, by omega⟩
    obtain rfl : k = 24 := by omega
    rw [f_X7_missesOf_L6, if_pos (show (24 : Int32) ≤ nI 24 by decide)]; rfl
  | succ c ih =>
    intro k a f hk ha hf
    obtain ⟨f, rfl⟩ : ∃ q, f = q + 1 := ⟨f - 1, by omega⟩
    have h24 : k < 24 := by omega
    have h100 : k < 100 := by omega
    rw [f_X7_missesOf_L6, if_neg (nl24 h24), mss]
    simp only [gd_nI h100 (by decide), clp h100 (by decide), hb.1 k h100, say7 ho hb hn hc h100, bd1]
    cases hg : g k with
    | none =>
      rw [if_pos (show rv none < 0 by decide), nI_1, if_pos rfl, Nat.zero_add]
      exact ih (k + 1) a f (by omega) (by omega) (by omega)
    | some w =>
      have hw := sm_lt (ho.1 k) hg
      rw [if_neg (rvs_n hw), nI_1, nI_1, nI_p0, if_neg (show ¬ (some w : Option Nat) = none by simp)]
      by_cases he : xsc cd k g n mk = some w
      · rw [if_pos (show ov (xsc cd k g n mk) = rv (some w) by rw [he]; rfl), if_pos he, Nat.zero_add]
        exact ih (k + 1) a f (by omega) (by omega) (by omega)
      · rw [if_neg (show ¬ ov (xsc cd k g n mk) = rv (some w) from fun z => he ((ov_inj (xsc_sm hn) (sm_s hw)).mp z)), if_neg he, ih (k + 1) (a + 1) f (by omega) (by omega) (by omega), Nat.add_assoc]
def mis (g : Nat → Option Nat) (n : Nat) (mk : Nat → Nat) (cd : Nat) : Nat := mss g (fun y => xsc cd y g n mk) 24 0
theorem mis_le (g : Nat → Option Nat) (n : Nat) (mk : Nat → Nat) (cd : Nat) : mis g n mk cd ≤ 24 := mss_le _ _ _ _
theorem miss6 {g : Nat → Option Nat} {mk : Nat → Nat} {v m : Nat → Int32} {cd n : Nat} (ho : BkO g mk) (hb : BkC g mk v m) (hn : 2 ≤ n ∧ n ≤ 10) (hc : cd < 600) : f_X0_misses (nI cd) 24 (nI n) v m = some (nI (mis g n mk cd)) := by
  obtain ⟨r, e1, e2, e3⟩ := miss6_j ho hb hn hc (M := 24) (by omega) 24 0 0 1000 (by omega) (by omega) (by omega)
  have hl := mis_le g n mk cd
  have e4 : r = mis g n mk cd := by
    unfold mis at hl ⊢
    omega
  unfold f_X0_misses
  rw [show (24 : Int32) = nI 24 from rfl, show (0 : Int32) = nI 0 from rfl, e1, e4]
  rfl
theorem miss7 {g : Nat → Option Nat} {mk : Nat → Nat} {v m : Nat → Int32} {cd n : Nat} (ho : BkO g mk) (hb : BkR g mk v m) (hn : 2 ≤ n ∧ n ≤ 10) (hc : cd < 600) : f_X7_missesOf (nI (cd / 100)) (nI (cd / 20 % 5)) (nI (cd / 4 % 5)) (nI (cd % 4 + 1)) (nI n) v m = some (nI (mis g n mk cd)) := by
  have h := miss7_j ho hb hn hc 24 0 0 1000 (by omega) (by omega) (by omega)
  unfold f_X7_missesOf
  rw [show f_X7_missesOf_L6 v (nI (cd / 100)) (nI (cd / 20 % 5)) (nI (cd / 4 % 5)) (nI (cd % 4 + 1)) (nI n) m 1000 0 0 = _ from h, Nat.zero_add]
  rfl
theorem fit6 {g : Nat → Option Nat} {mk : Nat → Nat} {v m : Nat → Int32} {cd n M : Nat} (ho : BkO g mk) (hb : BkC g mk v m) (hn : 2 ≤ n ∧ n ≤ 10) (hc : cd < 600) (hM : M ≤ 24) : f_X0_fitting (nI cd) (nI M) (nI n) v m = some (if mis g n mk cd ≤ M then 1 else 0) := by
  obtain ⟨r, e1, e2, e3⟩ := miss6_j ho hb hn hc hM 24 0 0 1000 (by omega) (by omega) (by omega)
  unfold f_X0_fitting f_X0_misses
  rw [show f_X0_misses_L5 (nI M) v (nI cd) (nI n) m 1000 0 0 = some (nI r) from e1]
  have hl := mis_le g n mk cd
  unfold mis at hl ⊢
  show (if nI M < nI r then some (0 : Int32) else some 1) = _
  by_cases h : M < r
  · rw [if_pos (nI_lt h (by omega)), if_neg (by omega)]
  · rw [if_neg (nI_nlt (by omega) (by omega)), if_pos (by omega)]
theorem all7 {g : Nat → Option Nat} {mk : Nat → Nat} {v m : Nat → Int32} {cd n : Nat} (ho : BkO g mk) (hb : BkR g mk v m) (hn : 2 ≤ n ∧ n ≤ 10) (hc : cd < 600) : f_X7_allMisses (nI cd) (nI n) v m = some (nI (mis g n mk cd)) := by
  unfold f_X7_allMisses
  rw [kindOf7 hc, aOf7 hc, bOf7 hc, kOf7 hc, miss7 ho hb hn hc]
  rfl
theorem gt7 {g : Nat → Option Nat} {mk : Nat → Nat} {cd n M : Nat} (hM : M ≤ 24) : nI M < nI (mis g n mk cd) ↔ ¬ mis g n mk cd ≤ M := by
  have hl := mis_le g n mk cd
  rw [nI_ltI (by omega) (by omega)]; omega
/-- words of a rule -/
def wdx (a b k : Nat) : Nat := 1 + (if a = 0 then 0 else 1) + (if b = 0 then 0 else 1) + if k = 1 then 0 else 1
def wd (c : Nat) : Nat := wdx (c / 20 % 5) (c / 4 % 5) (c % 4 + 1)
theorem wd_b (c : Nat) : 1 ≤ wd c ∧ wd c ≤ 4 := by
  unfold wd wdx
  constructor <;> (repeat' split) <;> omega
theorem wd7x {a b k : Nat} (ha : a < 10) (hb : b < 10) (hk : k < 10) : f_X7_wordsOf (nI a) (nI b) (nI k) = nI (wdx a b k) := by
  unfold f_X7_wordsOf wdx
  have ea : nI a = (0 : Int32) ↔ a = 0 := nI_eq (b := 0) (by omega) (by omega)
  have eb : nI b = (0 : Int32) ↔ b = 0 := nI_eq (b := 0) (by omega) (by omega)
  have ek : nI k = (1 : Int32) ↔ k = 1 := nI_eq (b := 1) (by omega) (by omega)
  simp only [lt1, ea, eb, ek]
  by_cases h1 : a = 0 <;> by_cases h2 : b = 0 <;> by_cases h3 : k = 1 <;> simp only [if_pos, if_neg, h1, h2, h3, not_false_eq_true, if_true, if_false] <;> rfl
theorem wd6 {c : Nat} (h : c < 600) : f_X6_wordsOf (nI c) = nI (wd c) := by
  have := wd7x (a := c / 20 % 5) (b := c / 4 % 5) (k := c % 4 + 1) (by omega) (by omega) (by omega)
  unfold f_X6_wordsOf
  rw [aOf6 h, bOf6 h, kOf6 h]
  exact this
theorem wd7 {c : Nat} (h : c < 600) : f_X7_allWords (nI c) = nI (wd c) := by
  unfold f_X7_allWords
  rw [aOf7 h, bOf7 h, kOf7 h]
  exact wd7x (by omega) (by omega) (by omega)
def shr (c : Nat) : Nat := 4 ^ (4 - wd c)
theorem shr_b (c : Nat) : 1 ≤ shr c ∧ shr c ≤ 64 := by
  have := wd_b c
  unfold shr
  rcases (show wd c = 1 ∨ wd c = 2 ∨ wd c = 3 ∨ wd c = 4 by omega) with e | e | e | e <;> rw [e] <;> decide
theorem shr6 {c : Nat} (h : c < 600) : f_X6_shareOf (nI c) = nI (shr c) := by
  have := wd_b c
  unfold f_X6_shareOf shr
  rw [wd6 h]
  rcases (show wd c = 1 ∨ wd c = 2 ∨ wd c = 3 ∨ wd c = 4 by omega) with e | e | e | e <;> rw [e] <;> decide
theorem shr7 {c : Nat} (h : c < 600) : f_X7_shareOf (nI c) = nI (shr c) := by
  have := wd_b c
  unfold f_X7_shareOf shr
  rw [wd7 h]
  rcases (show wd c = 1 ∨ wd c = 2 ∨ wd c = 3 ∨ wd c = 4 by omega) with e | e | e | e <;> rw [e] <;> decide
