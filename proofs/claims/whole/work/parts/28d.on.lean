section
variable {n hc : Nat} {cd : Nat → Nat} {g : Nat → Option Nat} {mk : Nat → Nat} {vil mar hld sta mks rul : Nat → Int32}
theorem op_on (P : PX n hc cd g mk vil mar hld sta mks rul) (i1 i2 : Int32) (a b : Nat → Int32) : ∃ r a' b', f_X6_on i1 i2 (nI hc) (nI n) vil hld a mar = some (r, a') ∧ f_X7_on i1 i2 (nI n) (nI hc) sta b rul mks = some (r, b') := by
  have P0 := P
  obtain ⟨hn, hh, hcd, ho, hC, hR, hl, hr⟩ := P
  unfold f_X6_on f_X7_on
  rcases held_c i1 hh with ⟨a1, a2⟩ | ⟨k, hk, rfl, a1, a2⟩
  · rw [if_pos a1, if_pos a2]; exact ⟨_, _, _, rfl, rfl⟩
  · rw [if_neg a1, if_neg a2]
    obtain ⟨a', b', h', L, hL, l1, l2, q1, q2, q3, q4, q5⟩ := go_e P0 hk a b
    have h6 : k < 6 := by omega
    rw [l1, l2]
    show ∃ r a' b', (if f_X6_outside i2 (nI L) 99 = 0 then _ else _) = _ ∧ (if f_X7_in i2 (nI L) 99 = 0 then _ else _) = _
    rcases rngN i2 L 99 (by omega) (by omega) with ⟨y, _, hy, rfl, b1, b2⟩ | ⟨b1, b2⟩
    · have h100 : y < 100 := by omega
      rw [if_pos (show f_X6_outside (nI y) (nI L) 99 = 0 from b1), if_neg (show ¬ f_X7_in (nI y) (nI L) 99 = 0 from b2), gd_nI h6 (by decide), clp h6 (by decide), hl k hk, q1, q2]
      simp only [bd1, gd_nI h100 (by decide), clp h100 (by decide), q3 y h100, q4 y h100]
      refine ⟨_, a', b', rfl, ?_⟩
      cases hg : h' y with
      | none => rfl
      | some w => rw [if_pos (rvs_p (q5 y h100 w hg))]; rfl
    · rw [if_neg (show ¬ f_X6_outside i2 (nI L) 99 = 0 from b1), if_pos (show f_X7_in i2 (nI L) 99 = 0 from b2)]
      exact ⟨_, _, _, rfl, rfl⟩
theorem here_j {a b : Nat → Int32} {h : Nat → Option Nat} {v : Nat} (hv : v < 10) (qa : ∀ z, z < 100 → a z = ov (h z)) (qb : ∀ z, z < 100 → b z = rv (h z)) (qs : ∀ z, z < 100 → sm (h z)) : ∀ (d x f : Nat), x + d = 100 → d < f →
    (f_X6_here_L59 a (nI v) f (nI x) = some (.inl ()) ∧ f_X7_here_L50 b (nI v) f (nI x) = some (nI 100)) ∨ ∃ z, z < 100 ∧ f_X6_here_L59 a (nI v) f (nI x) = some (.inr (nI z, a)) ∧ f_X7_here_L50 b (nI v) f (nI x) = some (nI z) := by
  intro d
  induction d with
  | zero =>
    intro x f hx hf
    obtain ⟨f, rfl⟩ : ∃ q, f = q + 1 := ⟨f - 1, by omega⟩
    obtain rfl : x = 100 := by omega
    exact Or.inl ⟨by rw [f_X6_here_L59, if_pos (show (100 : Int32) ≤ nI 100 by decide)], by rw [f_X7_here_L50, if_pos (show (100 : Int32) ≤ nI 100 by decide)]⟩
  | succ d ih =>
    intro x f hx hf
    obtain ⟨f, rfl⟩ : ∃ q, f = q + 1 := ⟨f - 1, by omega⟩
    have h100 : x < 100 := by omega
    rw [f_X6_here_L59, f_X7_here_L50]
    simp only [if_neg (nl100 h100), gd_nI h100 (by decide), clp h100 (by decide), qa x h100, qb x h100, nI_1]
    by_cases e : h x = some v
    · rw [e, if_pos (show ov (some v) = nI v from rfl), if_pos (show rv (some v) = nI v from rfl)]
      exact Or.inr ⟨x, h100, rfl, rfl⟩
    · have e1 : ¬ ov (h x) = nI v := fun z => e ((ov_inj (qs x h100) (sm_s hv)).mp z)
      have e2 : ¬ rv (h x) = nI v := fun z => by
        cases hh : h x with
        | none => rw [hh] at z; exact nI_m (by omega) (by decide) z.symm
        | some w => rw [hh] at z e1; exact e1 z
      rw [if_neg e1, if_neg e2]
      exact ih (x + 1) f (by omega) (by omega)
theorem op_here (P : PX n hc cd g mk vil mar hld sta mks rul) (i1 i2 i3 : Int32) (a b : Nat → Int32) : ∃ r a' b', f_X6_here i1 i2 i3 (nI hc) (nI n) hld vil a mar = some (r, a') ∧ f_X7_here i1 i2 i3 (nI n) (nI hc) sta b rul mks = some (r, b') := by
  have P0 := P
  obtain ⟨hn, hh, hcd, ho, hC, hR, hl, hr⟩ := P
  unfold f_X6_here f_X7_here f_X7_isLong
  rcases held_c i1 hh with ⟨a1, a2⟩ | ⟨k, hk, rfl, a1, a2⟩
  · rw [if_pos a1, if_pos a2]; exact ⟨_, _, _, rfl, rfl⟩
  rw [if_neg a1, if_neg a2]
  rcases rngN i2 0 9 (by omega) (by omega) with ⟨v, _, hv, rfl, b1, b2⟩ | ⟨b1, b2⟩
  rotate_left
  · rw [if_neg (show ¬ f_X6_outside i2 0 9 = 0 from b1), if_pos (show f_X7_in i2 0 9 = 0 from b2)]; exact ⟨_, _, _, rfl, rfl⟩
  rw [if_pos (show f_X6_outside (nI v) 0 9 = 0 from b1), if_neg (show ¬ f_X7_in (nI v) 0 9 = 0 from b2)]
  rcases rngN i3 0 99 (by omega) (by omega) with ⟨y, _, hy, rfl, c1, c2⟩ | ⟨c1, c2⟩
  rotate_left
  · rw [if_neg (show ¬ f_X6_outside i3 0 99 = 0 from c1), if_pos (show f_X7_in i3 0 99 = 0 from c2)]; exact ⟨_, _, _, rfl, rfl⟩
  rw [if_pos (show f_X6_outside (nI y) 0 99 = 0 from c1), if_neg (show ¬ f_X7_in (nI y) 0 99 = 0 from c2)]
  obtain ⟨a', b', h', L, hL, l1, l2, q1, q2, q3, q4, q5⟩ := go_e P0 hk a b
  have h6 : k < 6 := by omega
  rw [gd_nI h6 (by decide), clp h6 (by decide), hl k hk, q1, q2, l1]
  simp only [bd1, l2]
  have hst : ∃ x, x ≤ 99 ∧ (if nI y < nI L then nI L else nI y) = nI x ∧ (if nI L ≤ nI y then some (nI y) else some (nI L)) = some (nI x) := by
    by_cases c : y < L
    · exact ⟨L, by omega, if_pos (nI_lt c (by omega)), if_neg (nI_ge c (by omega))⟩
    · exact ⟨y, by omega, if_neg (nI_nlt (by omega) (by omega)), if_pos (nI_le (by omega) (by omega))⟩
  obtain ⟨x, hx, e1, e2⟩ := hst
  rw [e1, e2]
  simp only []
  rcases here_j (v := v) (by omega) q3 q4 q5 (100 - x) x 1000 (by omega) (by omega) with ⟨w1, w2⟩ | ⟨z, hz, w1, w2⟩
  · rw [w1, w2]
    exact ⟨_, _, _, rfl, if_pos (show (100 : Int32) ≤ nI 100 by decide)⟩
  · rw [w1, w2]
    exact ⟨_, _, _, rfl, if_neg (nl100 hz)⟩
theorem never_j {a b : Nat → Int32} {h : Nat → Option Nat} (qa : ∀ z, z < 100 → a z = ov (h z)) (qb : ∀ z, z < 100 → b z = rv (h z)) (qs : ∀ z, z < 100 → sm (h z)) : ∀ (d x f : Nat) (m : Int32), x + d = 100 → d < f →
    ∃ r, f_X6_never_L46 a f m (nI x) = some r ∧ f_X7_never_L29 b f m (nI x) = some r := by
  intro d
  induction d with
  | zero =>
    intro x f m hx hf
    obtain ⟨f, rfl⟩ : ∃ q, f = q + 1 := ⟨f - 1, by omega⟩
    obtain rfl : x = 100 := by omega
    exact ⟨m, by rw [f_X6_never_L46, if_pos (show (100 : Int32) ≤ nI 100 by decide)], by rw [f_X7_never_L29, if_pos (show (100 : Int32) ≤ nI 100 by decide)]⟩
  | succ d ih =>
    intro x f m hx hf
    obtain ⟨f, rfl⟩ : ∃ q, f = q + 1 := ⟨f - 1, by omega⟩
    have h100 : x < 100 := by omega
    rw [f_X6_never_L46, f_X7_never_L29]
    simp only [if_neg (nl100 h100), gd_nI h100 (by decide), clp h100 (by decide), qa x h100, qb x h100, nI_1]
    have hs := qs x h100
    cases hg : h x with
    | none =>
      rw [if_pos (show ov none < 0 by decide), if_neg (show ¬ (0 : Int32) ≤ rv none by decide), show m &&& (-1 : Int32) = m by simp]
      exact ih (x + 1) f m (by omega) (by omega)
    | some w =>
      rw [if_neg (show ¬ ov (some w) < 0 from rvs_n (sm_lt hs hg)), if_pos (rvs_p (sm_lt hs hg))]
      exact ih (x + 1) f _ (by omega) (by omega)
theorem op_never (P : PX n hc cd g mk vil mar hld sta mks rul) (i1 : Int32) (a b : Nat → Int32) : ∃ r a' b', f_X6_never i1 (nI hc) (nI n) hld vil a mar = some (r, a') ∧ f_X7_never i1 (nI n) (nI hc) sta b rul mks = some (r, b') := by
  have P0 := P
  obtain ⟨hn, hh, hcd, ho, hC, hR, hl, hr⟩ := P
  unfold f_X6_never f_X7_never
  rcases held_c i1 hh with ⟨a1, a2⟩ | ⟨k, hk, rfl, a1, a2⟩
  · rw [if_pos a1, if_pos a2]; exact ⟨_, _, _, rfl, rfl⟩
  rw [if_neg a1, if_neg a2]
  obtain ⟨a', b', h', L, hL, l1, l2, q1, q2, q3, q4, q5⟩ := go_e P0 hk a b
  have h6 : k < 6 := by omega
  obtain ⟨r, e1, e2⟩ := never_j q3 q4 q5 (100 - L) L 1000 (((1 : Int32) <<< (nI n &&& 31)) - 1) (by omega) (by omega)
  rw [gd_nI h6 (by decide), clp h6 (by decide), hl k hk, q1, q2, l1]
  simp only [bd1, l2, e1, e2]
  exact ⟨_, _, _, rfl, rfl⟩
end
