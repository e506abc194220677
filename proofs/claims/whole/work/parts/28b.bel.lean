section
variable {n hc : Nat} {cd : Nat → Nat} {g : Nat → Option Nat} {mk : Nat → Nat} {vil mar hld sta mks rul : Nat → Int32}
theorem bel_j (P : PX n hc cd g mk vil mar hld sta mks rul) {i : Nat} (hi : i < hc) (m : Int32) : ∀ (c k b f : Nat), k + c = 24 → b ≤ k → c < f →
    ∃ r, f_X0_yearOfRun_L5 vil (nI (cd i)) (nI n) mar m f (nI b) (nI k) = some r ∧ f_X7_believed_L25 sta (nI i) (nI n) rul mks m f (nI b) (nI k) = some r := by
  obtain ⟨hn, hh, hcd, ho, hC, hR, hl, hr⟩ := P
  intro c
  induction c with
  | zero =>
    intro k b f hk hb hf
    obtain ⟨f, rfl⟩ : ∃ q, f = q + 1 := ⟨f - 1, by omega⟩
    obtain rfl : k = 24 := by omega
    exact ⟨_, by rw [f_X0_yearOfRun_L5, if_pos (show (24 : Int32) ≤ nI 24 by decide)], by rw [f_X7_believed_L25, if_pos (show (24 : Int32) ≤ nI 24 by decide)]⟩
  | succ c ih =>
    intro k b f hk hb hf
    obtain ⟨f, rfl⟩ : ∃ q, f = q + 1 := ⟨f - 1, by omega⟩
    have h24 : k < 24 := by omega
    have h100 : k < 100 := by omega
    rw [f_X0_yearOfRun_L5, f_X7_believed_L25, heldS hh hr hi]
    simp only [if_neg (nl24 h24), gd_nI h24 (by decide), gd_nI h100 (by decide), clp h24 (by decide), hC.1 k h24, hR.1 k h100, say6 ho hC hn (hcd i hi) h100, say7 ho hR hn (hcd i hi) h100, bd1, lt1, nI_1]
    cases hg : g k with
    | none =>
      rw [if_pos (show ov none = -9 from rfl), if_pos (show rv none < 0 by decide)]
      exact ih (k + 1) b f (by omega) (by omega) (by omega)
    | some w =>
      have hw := sm_lt (ho.1 k) hg
      rw [if_neg (ovs_9 hw), if_neg (rvs_n hw)]
      have hj : ∃ j, j ≤ k + 1 ∧ (if ov (xsc (cd i) k g n mk) = ov (some w) then nI (b + 1) else 0) = nI j ∧ (if ov (xsc (cd i) k g n mk) = rv (some w) then nI (b + 1) else 0) = nI j := by
        rcases said_c (xsc_sm (c := cd i) (y := k) (g := g) (mk := mk) hn) (sm_s hw) (by simp) with ⟨e1, e2⟩ | ⟨e1, e2⟩
        · exact ⟨b + 1, by omega, if_pos e1, if_pos e2⟩
        · exact ⟨0, by omega, if_neg e1, if_neg e2⟩
      obtain ⟨j, hj1, hj2, hj3⟩ := hj
      rw [hj2, hj3]
      by_cases c2 : nI j = m
      · rw [if_pos c2, if_pos c2]; exact ⟨_, rfl, rfl⟩
      · rw [if_neg c2, if_neg c2]
        exact ih (k + 1) j f (by omega) (by omega) (by omega)
theorem op_believed (P : PX n hc cd g mk vil mar hld sta mks rul) (i1 i2 : Int32) : ∃ r, f_X6_believed i1 i2 (nI hc) (nI n) hld vil mar = some r ∧ f_X7_believed i1 i2 (nI n) (nI hc) sta rul mks = some r := by
  have P0 := P
  obtain ⟨hn, hh, hcd, ho, hC, hR, hl, hr⟩ := P
  unfold f_X6_believed f_X7_believed
  rcases held_c i1 hh with ⟨a1, a2⟩ | ⟨k, hk, rfl, a1, a2⟩
  · rw [if_pos a1, if_pos a2]; exact ⟨_, rfl, rfl⟩
  · rw [if_neg a1, if_neg a2]
    rcases rng i2 1 9 with ⟨b1, b2, _, _⟩ | ⟨b1, b2⟩
    · have h6 : k < 6 := by omega
      obtain ⟨r, e1, e2⟩ := bel_j P0 hk i2 24 0 0 1000 (by omega) (by omega) (by omega)
      rw [if_pos b1, if_neg b2, gd_nI h6 (by decide), clp h6 (by decide), hl k hk]
      unfold f_X0_yearOfRun
      rw [show f_X0_yearOfRun_L5 vil (nI (cd k)) (nI n) mar i2 1000 0 0 = some r from e1, show f_X7_believed_L25 sta (nI k) (nI n) rul mks i2 1000 0 0 = some r from e2]
      cases r with
      | inl u => exact ⟨_, rfl, rfl⟩
      | inr q => exact ⟨_, rfl, rfl⟩
    · rw [if_neg b1, if_pos b2]; exact ⟨_, rfl, rfl⟩
end
