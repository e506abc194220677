/-! ===== shares ===== -/
theorem xsay_lt {kind a b k y n w : Nat} {h : Nat → Option Nat} {mk : Nat → Nat} (hn : 2 ≤ n) (e : xsay kind a b k y h n mk = some w) : w < n := by
  have lt : ∀ z, z % n < n := fun z => Nat.mod_lt z (by omega)
  unfold xsay at e
  split at e
  · cases e; exact lt _
  · split at e
    · cases e; exact lt _
    · split at e
      · cases hx : xback h y k with
        | none => rw [hx] at e; cases e
        | some z => rw [hx] at e; cases e; exact lt _
      · split at e
        · cases hx : xtab h k 100 y with
          | none => rw [hx] at e; cases e
          | some z => rw [hx] at e; cases e; exact lt _
        · split at e
          · cases e; exact lt _
          · cases hx : xback h y k with
            | none => rw [hx] at e; cases e
            | some z =>
              rw [hx] at e
              cases hw : xback h y 1 with
              | none => rw [hw] at e; cases e
              | some q => rw [hw] at e; cases e; exact lt _
/-- what code c adds: what it says, if it fits -/
def fs (M : Nat) (g : Nat → Option Nat) (n : Nat) (mk : Nat → Nat) (y c : Nat) : Option Nat := if mis g n mk c ≤ M then xsc c y g n mk else none
def wsh (F : Nat → Option Nat) (v : Nat) : Nat → Nat → Nat
  | 0, _ => 0
  | c + 1, k => (if F k = some v then shr k else 0) + wsh F v c (k + 1)
def wto (F : Nat → Option Nat) : Nat → Nat → Nat
  | 0, _ => 0
  | c + 1, k => (if F k = none then 0 else shr k) + wto F c (k + 1)
theorem wto_le (F : Nat → Option Nat) : ∀ c k, wto F c k ≤ 64 * c := by
  intro c
  induction c with
  | zero => intro k; exact Nat.le_refl 0
  | succ c ih =>
    intro k
    have := ih (k + 1)
    have := shr_b k
    rw [wto]
    split <;> omega
theorem wsh_two (F : Nat → Option Nat) {v w : Nat} (h : v ≠ w) : ∀ c k, wsh F v c k + wsh F w c k ≤ wto F c k := by
  intro c
  induction c with
  | zero => intro k; exact Nat.le_refl 0
  | succ c ih =>
    intro k
    have := ih (k + 1)
    rw [wsh, wsh, wto]
    cases hF : F k with
    | none => simp; omega
    | some q =>
      by_cases e1 : q = v
      · rw [if_pos (by rw [e1]), if_neg (show ¬ (some q : Option Nat) = some w from fun z => h (by cases z; exact e1.symm)), if_neg (by simp)]; omega
      · rw [if_neg (show ¬ (some q : Option Nat) = some v from fun z => e1 (by cases z; rfl)), if_neg (show ¬ (some q : Option Nat) = none by simp)]
        split <;> omega
theorem wsh_le (F : Nat → Option Nat) (v : Nat) (c k : Nat) : wsh F v c k ≤ wto F c k := by
  have := wsh_two F (v := v) (w := v + 1) (by omega) c k
  omega
theorem wsh_0 (F : Nat → Option Nat) {v : Nat} (h : ∀ c, F c ≠ some v) : ∀ c k, wsh F v c k = 0 := by
  intro c
  induction c with
  | zero => intro k; rfl
  | succ c ih => intro k; rw [wsh, if_neg (h k), ih (k + 1)]
section
variable {n hc : Nat} {cd : Nat → Nat} {g : Nat → Option Nat} {mk : Nat → Nat} {vil mar hld sta mks rul : Nat → Int32}
theorem fs_sm {M y c : Nat} (hn : 2 ≤ n ∧ n ≤ 10) : sm (fs M g n mk y c) := by
  unfold fs
  split
  · exact xsc_sm hn
  · exact sm_n
theorem fs_lt {M y c w : Nat} (hn : 2 ≤ n ∧ n ≤ 10) (h : fs M g n mk y c = some w) : w < n := by
  unfold fs at h
  split at h
  · exact xsay_lt hn.1 h
  · cases h
theorem out9 {o : Option Nat} (h : sm o) : (f_X6_outside (ov o) 0 9 = 0 ↔ ¬ o = none) := by
  cases o with
  | none => exact ⟨fun z => absurd z (by decide), fun z => absurd rfl z⟩
  | some w =>
    have := h w rfl
    exact ⟨fun _ => by simp, fun _ => out_p ⟨nI_pos' (by omega), nI_le (b := 9) (by omega) (by omega)⟩⟩
theorem zero6 : ∀ (d x f : Nat) (a : Nat → Int32), x + d = 10 → (∀ z, z < x → a z = nI 0) → d < f → ∃ (a' : Nat → Int32), f_X6_weigh_L2 f (nI x) a = some a' ∧ ∀ z, z < 10 → a' z = nI 0 := by
  intro d
  induction d with
  | zero =>
    intro x f a hx ha hf
    obtain ⟨f, rfl⟩ : ∃ q, f = q + 1 := ⟨f - 1, by omega⟩
    obtain rfl : x = 10 := by omega
    exact ⟨a, by rw [f_X6_weigh_L2, if_pos (show (10 : Int32) ≤ nI 10 by decide)], ha⟩
  | succ d ih =>
    intro x f a hx ha hf
    obtain ⟨f, rfl⟩ : ∃ q, f = q + 1 := ⟨f - 1, by omega⟩
    have h10 : x < 10 := by omega
    obtain ⟨a', e1, e2⟩ := ih (x + 1) f (upd a x 0) (by omega) (fun z hz => by
      by_cases c : z = x
      · rw [c, pk_us]; rfl
      · rw [pk_un c]; exact ha z (by omega)) (by omega)
    exact ⟨a', by rw [f_X6_weigh_L2, if_neg (nl10 h10), gd_nI h10 (by decide), clp h10 (by decide), nI_1, e1], e2⟩
theorem zero7 : ∀ (d x f : Nat) (a : Nat → Int32), x + d = 10 → (∀ z, z < x → a z = nI 0) → d < f → ∃ (a' : Nat → Int32), f_X7_findShares_L5 f (nI x) a = some a' ∧ ∀ z, z < 10 → a' z = nI 0 := by
  intro d
  induction d with
  | zero =>
    intro x f a hx ha hf
    obtain ⟨f, rfl⟩ : ∃ q, f = q + 1 := ⟨f - 1, by omega⟩
    obtain rfl : x = 10 := by omega
    exact ⟨a, by rw [f_X7_findShares_L5, if_pos (show (10 : Int32) ≤ nI 10 by decide)], ha⟩
  | succ d ih =>
    intro x f a hx ha hf
    obtain ⟨f, rfl⟩ : ∃ q, f = q + 1 := ⟨f - 1, by omega⟩
    have h10 : x < 10 := by omega
    obtain ⟨a', e1, e2⟩ := ih (x + 1) f (upd a x 0) (by omega) (fun z hz => by
      by_cases c : z = x
      · rw [c, pk_us]; rfl
      · rw [pk_un c]; exact ha z (by omega)) (by omega)
    exact ⟨a', by rw [f_X7_findShares_L5, if_neg (nl10 h10), gd_nI h10 (by decide), clp h10 (by decide), nI_1, e1], e2⟩
theorem upd_sh {a : Nat → Int32} {s : Nat → Nat} {w k : Nat} {F : Nat → Option Nat} (hF : F k = some w) (ha : ∀ v, v < 10 → a v = nI (s v)) : ∀ v, v < 10 → upd a w (a w + nI (shr k)) v = nI (s v + if F k = some v then shr k else 0) := by
  intro v hv
  by_cases c : v = w
  · rw [c, pk_us, if_pos hF, ha w (by omega), nI_add]
  · rw [pk_un c, if_neg (show ¬ F k = some v from fun z => c (by rw [hF] at z; cases z; rfl)), ha v hv]; rfl
theorem upd_sk {a : Nat → Int32} {s : Nat → Nat} {k : Nat} {F : Nat → Option Nat} (hF : F k = none) (ha : ∀ v, v < 10 → a v = nI (s v)) : ∀ v, v < 10 → a v = nI (s v + if F k = some v then shr k else 0) := by
  intro v hv
  rw [if_neg (show ¬ F k = some v by rw [hF]; simp), ha v hv]; rfl
theorem wgh6_j (ho : BkO g mk) (hC : BkC g mk vil mar) (hn : 2 ≤ n ∧ n ≤ 10) {M y : Nat} (hM : M ≤ 9) (hy : y < 100) : ∀ (c k f t : Nat) (a : Nat → Int32) (s : Nat → Nat), k + c = 600 → c < f → (∀ v, v < 10 → a v = nI (s v)) →
    ∃ (a' : Nat → Int32), f_X6_weigh_L26 (nI y) (nI n) vil mar (nI M) f (nI t) (nI k) a = some (nI (t + wto (fs M g n mk y) c k), a') ∧ ∀ v, v < 10 → a' v = nI (s v + wsh (fs M g n mk y) v c k) := by
  intro c
  induction c with
  | zero =>
    intro k f t a s hk hf ha
    obtain ⟨f, rfl⟩ : ∃ q, f = q + 1 := ⟨f - 1, by omega⟩
    obtain rfl : k = 600 := by omega
    exact ⟨a, by rw [f_X6_weigh_L26, if_pos eq600]; rfl, ha⟩
  | succ c ih =>
    intro k f t a s hk hf ha
    obtain ⟨f, rfl⟩ : ∃ q, f = q + 1 := ⟨f - 1, by omega⟩
    have h600 : k < 600 := by omega
    have hsm : sm (xsc k y g n mk) := xsc_sm hn
    rw [f_X6_weigh_L26, if_neg (nl600 h600), say6 ho hC hn h600 hy, fit6 ho hC hn h600 (by omega), shr6 h600]
    simp only [bd1, nI_1, nI_add, wto, wsh]
    by_cases hnone : xsc k y g n mk = none
    · have hF : fs M g n mk y k = none := by unfold fs; rw [hnone]; exact ite_k
      obtain ⟨a', e1, e2⟩ := ih (k + 1) f t a _ (by omega) (by omega) (upd_sk hF ha)
      refine ⟨a', ?_, fun v hv => by rw [e2 v hv, Nat.add_assoc]⟩
      rw [if_neg (show ¬ f_X6_outside (ov (xsc k y g n mk)) 0 9 = 0 from fun z => (out9 hsm).mp z hnone), e1, if_pos hF, Nat.zero_add]
    · rw [if_pos ((out9 hsm).mpr hnone)]
      obtain ⟨w, hw⟩ := Option.ne_none_iff_exists'.mp hnone
      have hw10 := hsm w hw
      rcases fit_c (g := g) (mk := mk) (c := k) (n := n) (M := M) with ⟨e1, e2⟩ | ⟨e1, e2⟩
      · have hF : fs M g n mk y k = some w := by unfold fs; rw [if_pos e1, hw]
        obtain ⟨a', q1, q2⟩ := ih (k + 1) f (t + shr k) (upd a w (a w + nI (shr k))) _ (by omega) (by omega) (upd_sh hF ha)
        refine ⟨a', ?_, fun v hv => by rw [q2 v hv, Nat.add_assoc]⟩
        rw [if_neg e2, hw, show ov (some w) = nI w from rfl, gd_nI hw10 (by decide), gd_nI hw10 (by decide), clp hw10 (by decide), q1, if_neg (show ¬ fs M g n mk y k = none by rw [hF]; simp), Nat.add_assoc]
      · have hF : fs M g n mk y k = none := by unfold fs; rw [if_neg e1]
        obtain ⟨a', q1, q2⟩ := ih (k + 1) f t a _ (by omega) (by omega) (upd_sk hF ha)
        refine ⟨a', ?_, fun v hv => by rw [q2 v hv, Nat.add_assoc]⟩
        rw [if_pos e2, q1, if_pos hF, Nat.zero_add]
theorem wgh7_j (ho : BkO g mk) (hR : BkR g mk sta mks) (hn : 2 ≤ n ∧ n ≤ 10) {M y : Nat} (hM : M ≤ 9) (hy : y < 100) : ∀ (c k f t : Nat) (a sd : Nat → Int32) (s : Nat → Nat), k + c = 600 → c < f → (∀ v, v < 10 → a v = nI (s v)) → (∀ z, z < k → sd z = ov (fs M g n mk y z)) →
    ∃ (a' sd' : Nat → Int32), f_X7_findShares_L29 (nI n) sta mks (nI M) (nI y) f (nI t) (nI k) a sd = some (nI (t + wto (fs M g n mk y) c k), a', sd') ∧ (∀ v, v < 10 → a' v = nI (s v + wsh (fs M g n mk y) v c k)) ∧ ∀ z, z < 600 → sd' z = ov (fs M g n mk y z) := by
  intro c
  induction c with
  | zero =>
    intro k f t a sd s hk hf ha hsd
    obtain ⟨f, rfl⟩ : ∃ q, f = q + 1 := ⟨f - 1, by omega⟩
    obtain rfl : k = 600 := by omega
    exact ⟨a, sd, by rw [f_X7_findShares_L29, if_pos eq600]; rfl, ha, hsd⟩
  | succ c ih =>
    intro k f t a sd s hk hf ha hsd
    obtain ⟨f, rfl⟩ : ∃ q, f = q + 1 := ⟨f - 1, by omega⟩
    have h600 : k < 600 := by omega
    have hsm : sm (fs M g n mk y k) := fs_sm hn
    have hj : (if nI M < nI (mis g n mk k) then some (-9 : Int32) else some (ov (xsc k y g n mk))) = some (ov (fs M g n mk y k)) := by
      simp only [gt7 (show M ≤ 24 by omega)]
      unfold fs
      by_cases e1 : mis g n mk k ≤ M
      · rw [if_neg (fun z => z e1), if_pos e1]
      · rw [if_pos e1, if_neg e1]; rfl
    rw [f_X7_findShares_L29, if_neg (nl600 h600), all7 ho hR hn h600, kindOf7 h600, aOf7 h600, bOf7 h600, kOf7 h600, say7 ho hR hn h600 hy, shr7 h600]
    simp only [bd1, hj, nI_1, nI_add, wto, wsh, gd_nI h600 (by decide), clp h600 (by decide), pk_us]
    have hsd' : ∀ z, z < k + 1 → upd sd k (ov (fs M g n mk y k)) z = ov (fs M g n mk y z) := fun z hz => by
      by_cases c : z = k
      · rw [c, pk_us]
      · rw [pk_un c, hsd z (by omega)]
    cases hF : fs M g n mk y k with
    | none =>
      rw [hF] at hsd'
      obtain ⟨a', sd', e1, e2, e3⟩ := ih (k + 1) f t a _ _ (by omega) (by omega) (upd_sk hF ha) hsd'
      refine ⟨a', sd', ?_, fun v hv => by rw [e2 v hv, hF, Nat.add_assoc], e3⟩
      rw [if_pos (show ov none < 0 by decide), e1, if_pos rfl, Nat.zero_add]
    | some w =>
      have hw10 := hsm w hF
      rw [hF] at hsd'
      obtain ⟨a', sd', q1, q2, q3⟩ := ih (k + 1) f (t + shr k) (upd a w (a w + nI (shr k))) _ _ (by omega) (by omega) (upd_sh hF ha) hsd'
      refine ⟨a', sd', ?_, fun v hv => by rw [q2 v hv, hF, Nat.add_assoc], q3⟩
      rw [if_neg (show ¬ ov (some w) < 0 from rvs_n hw10), show ov (some w) = nI w from rfl, gd_nI hw10 (by decide), gd_nI hw10 (by decide), clp hw10 (by decide), show nI w = ov (some w) from rfl, q1, if_neg (by simp), Nat.add_assoc]
theorem wgh_e (ho : BkO g mk) (hC : BkC g mk vil mar) (hR : BkR g mk sta mks) (hn : 2 ≤ n ∧ n ≤ 10) {M y : Nat} (hM : M ≤ 9) (hy : y < 100) (a b sd : Nat → Int32) :
    ∃ (a' b' sd' : Nat → Int32), f_X6_weigh (nI y) (nI M) a (nI n) vil mar = some (nI (wto (fs M g n mk y) 600 0), a') ∧ f_X7_findShares (nI y) (nI M) (nI n) b sta mks sd = some (nI (wto (fs M g n mk y) 600 0), b', sd') ∧
      (∀ v, v < 10 → a' v = nI (wsh (fs M g n mk y) v 600 0)) ∧ (∀ v, v < 10 → b' v = nI (wsh (fs M g n mk y) v 600 0)) ∧ ∀ z, z < 600 → sd' z = ov (fs M g n mk y z) := by
  obtain ⟨a1, e1, e2⟩ := zero6 10 0 1000 a (by omega) (fun z hz => absurd hz (Nat.not_lt_zero z)) (by omega)
  obtain ⟨b1, e3, e4⟩ := zero7 10 0 1000 b (by omega) (fun z hz => absurd hz (Nat.not_lt_zero z)) (by omega)
  obtain ⟨a', q1, q2⟩ := wgh6_j ho hC hn hM hy 600 0 1000 0 a1 (fun _ => 0) (by omega) (by omega) e2
  obtain ⟨b', sd', q3, q4, q5⟩ := wgh7_j ho hR hn hM hy 600 0 1000 0 b1 sd (fun _ => 0) (by omega) (by omega) e4 (fun z hz => absurd hz (Nat.not_lt_zero z))
  rw [Nat.zero_add] at q1 q3
  refine ⟨a', b', sd', ?_, ?_, fun v hv => (q2 v hv).trans (by rw [Nat.zero_add]), fun v hv => (q4 v hv).trans (by rw [Nat.zero_add]), q5⟩
  · unfold f_X6_weigh
    rw [show f_X6_weigh_L2 1000 0 a = some a1 from e1]
    simp only [bd1]
    rw [show f_X6_weigh_L26 (nI y) (nI n) vil mar (nI M) 1000 0 0 a1 = _ from q1]
    rfl
  · unfold f_X7_findShares
    rw [show f_X7_findShares_L5 1000 0 b = some b1 from e3]
    simp only [bd1]
    rw [show f_X7_findShares_L29 (nI n) sta mks (nI M) (nI y) 1000 0 0 b1 sd = _ from q3]
    rfl
end
/-- when and by how many misses -/
theorem when_c (i1 i2 : Int32) : (∃ y M, y < 100 ∧ M ≤ 9 ∧ i1 = nI y ∧ i2 = nI M ∧ f_X6_badWhen i1 i2 = 0 ∧ ¬ f_X7_isLong i1 = 0 ∧ ¬ f_X7_isAllowed i2 = 0) ∨ (¬ f_X6_badWhen i1 i2 = 0 ∧ (f_X7_isLong i1 = 0 ∨ (¬ f_X7_isLong i1 = 0 ∧ f_X7_isAllowed i2 = 0))) := by
  unfold f_X6_badWhen f_X7_isLong f_X7_isAllowed
  rcases rngN i1 0 99 (by omega) (by omega) with ⟨y, _, hy, rfl, a1, a2⟩ | ⟨a1, a2⟩
  · rcases rngN i2 0 9 (by omega) (by omega) with ⟨M, _, hM, rfl, b1, b2⟩ | ⟨b1, b2⟩
    · exact Or.inl ⟨y, M, by omega, hM, rfl, rfl, by rw [if_pos (show f_X6_outside (nI y) 0 99 = 0 from a1), if_pos (show f_X6_outside (nI M) 0 9 = 0 from b1)], a2, b2⟩
    · exact Or.inr ⟨by rw [if_pos (show f_X6_outside (nI y) 0 99 = 0 from a1), if_neg (show ¬ f_X6_outside i2 0 9 = 0 from b1)]; decide, Or.inr ⟨a2, b2⟩⟩
  · exact Or.inr ⟨by rw [if_neg (show ¬ f_X6_outside i1 0 99 = 0 from a1)]; decide, Or.inl a2⟩
