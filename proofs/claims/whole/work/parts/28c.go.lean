section
variable {n hc : Nat} {cd : Nat → Nat} {g : Nat → Option Nat} {mk : Nat → Nat} {vil mar hld sta mks rul : Nat → Int32}
/-! going on -/
theorem go6_1 {L : Nat} (hL : L ≤ 24) (hv : ∀ y, y < 24 → vil y = ov (g y)) (c : Int32) (nn : Int32) : ∀ (d x f : Nat) (a : Nat → Int32), x + d = L → (∀ z, z < x → a z = ov (g z)) → d + 101 ≤ f →
    ∃ (f' : Nat) (a' : Nat → Int32), f_X6_goOn_L10 (nI L) c nn mar vil f (nI x) a = f_X6_goOn_L10 (nI L) c nn mar vil f' (nI L) a' ∧ 101 ≤ f' ∧ ∀ z, z < L → a' z = ov (g z) := by
  intro d
  induction d with
  | zero =>
    intro x f a hx ha hf
    obtain rfl : x = L := by omega
    exact ⟨f, a, rfl, by omega, ha⟩
  | succ d ih =>
    intro x f a hx ha hf
    obtain ⟨f, rfl⟩ : ∃ q, f = q + 1 := ⟨f - 1, by omega⟩
    have h24 : x < 24 := by omega
    have h100 : x < 100 := by omega
    obtain ⟨f', a', e1, e2, e3⟩ := ih (x + 1) f (upd a x (ov (g x))) (by omega) (fun z hz => by
      by_cases c : z = x
      · rw [c, pk_us]
      · rw [pk_un c]; exact ha z (by omega)) (by omega)
    refine ⟨f', a', ?_, e2, e3⟩
    rw [← e1]
    conv => lhs; rw [f_X6_goOn_L10]
    rw [if_neg (nl100 h100), if_neg (nl (by omega) (by omega)), if_neg (nl24 h24), gd_nI h24 (by decide), gd_nI h100 (by decide), clp h24 (by decide), hv x h24, nI_1]
theorem go7_1 : ∀ (d x f : Nat) (a : Nat → Int32), x + d = 100 → (∀ z, z < x → a z = sta z) → d < f → ∃ (a' : Nat → Int32), f_X7_goesOn_L2 sta f (nI x) a = some a' ∧ ∀ z, z < 100 → a' z = sta z := by
  intro d
  induction d with
  | zero =>
    intro x f a hx ha hf
    obtain ⟨f, rfl⟩ : ∃ q, f = q + 1 := ⟨f - 1, by omega⟩
    obtain rfl : x = 100 := by omega
    exact ⟨a, by rw [f_X7_goesOn_L2, if_pos (show (100 : Int32) ≤ nI 100 by decide)], ha⟩
  | succ d ih =>
    intro x f a hx ha hf
    obtain ⟨f, rfl⟩ : ∃ q, f = q + 1 := ⟨f - 1, by omega⟩
    have h100 : x < 100 := by omega
    obtain ⟨a', e1, e2⟩ := ih (x + 1) f (upd a x (sta x)) (by omega) (fun z hz => by
      by_cases c : z = x
      · rw [c, pk_us]
      · rw [pk_un c]; exact ha z (by omega)) (by omega)
    refine ⟨a', ?_, e2⟩
    rw [f_X7_goesOn_L2, if_neg (nl100 h100), gd_nI h100 (by decide), gd_nI h100 (by decide), clp h100 (by decide), nI_1, e1]
theorem go_j (P : PX n hc cd g mk vil mar hld sta mks rul) {i L : Nat} (hi : i < hc) (hL : L ≤ 24) : ∀ (d x f f2 : Nat) (a b : Nat → Int32) (h : Nat → Option Nat), x + d = 100 → L ≤ x → rowC 100 x a h → rowR 100 x b h → d < f → d < f2 →
    ∃ (a' b' : Nat → Int32) (h' : Nat → Option Nat), f_X6_goOn_L10 (nI L) (nI (cd i)) (nI n) mar vil f (nI x) a = some a' ∧ f_X7_goesOn_L31 (nI i) (nI n) rul mks f2 (nI x) b = some b' ∧ (∀ z, z < 100 → a' z = ov (h' z)) ∧ (∀ z, z < 100 → b' z = rv (h' z)) ∧ ∀ z, z < 100 → sm (h' z) := by
  obtain ⟨hn, hh, hcd, ho, hC, hR, hl, hr⟩ := P
  intro d
  induction d with
  | zero =>
    intro x f f2 a b h hx hLx hrc hrr hf hf2
    obtain ⟨f, rfl⟩ : ∃ q, f = q + 1 := ⟨f - 1, by omega⟩
    obtain ⟨f2, rfl⟩ : ∃ q, f2 = q + 1 := ⟨f2 - 1, by omega⟩
    obtain rfl : x = 100 := by omega
    exact ⟨a, b, h, by rw [f_X6_goOn_L10, if_pos (show (100 : Int32) ≤ nI 100 by decide)], by rw [f_X7_goesOn_L31, if_pos (show (100 : Int32) ≤ nI 100 by decide)], fun z hz => hrc.1 z hz hz, fun z hz => hrr.1 z hz hz, fun z hz => hrc.2.2 z hz⟩
  | succ d ih =>
    intro x f f2 a b h hx hLx hrc hrr hf hf2
    obtain ⟨f, rfl⟩ : ∃ q, f = q + 1 := ⟨f - 1, by omega⟩
    obtain ⟨f2, rfl⟩ : ∃ q, f2 = q + 1 := ⟨f2 - 1, by omega⟩
    have h100 : x < 100 := by omega
    have hci := hcd i hi
    rw [f_X6_goOn_L10, f_X7_goesOn_L31, heldS hh hr hi, if_neg (nl100 h100), if_neg (nl100 h100), if_pos (nI_le hLx (by omega)), sayC hci hrc h100 (by decide) hn (bkm ho hC), sayR (by omega) (by omega) (by omega) ⟨by omega, by omega⟩ hrr h100 (by decide) hn (bkmR ho hR)]
    have hs : sm (xsay (cd i / 100) (cd i / 20 % 5) (cd i / 4 % 5) (cd i % 4 + 1) x h n mk) := xsay_sm hn
    generalize xsay (cd i / 100) (cd i / 20 % 5) (cd i / 4 % 5) (cd i % 4 + 1) x h n mk = o at hs
    simp only [bd1, gd_nI h100 (by decide), clp h100 (by decide), nI_1]
    have key := ih (x + 1) f f2 (upd a x (ov o)) (upd b x (rv o)) (fun z => if z = x then o else h z) (by omega) (by omega)
      ⟨fun z h1 h2 => by
        show upd a x (ov o) z = ov (if z = x then o else h z)
        by_cases c : z = x
        · rw [if_pos c, c, pk_us]
        · rw [if_neg c, pk_un c]; exact hrc.1 z h1 (by omega), fun z h1 h2 => by omega, fun z hz => by
        show sm (if z = x then o else h z)
        split
        · exact hs
        · exact hrc.2.2 z (by omega)⟩
      ⟨fun z h1 h2 => by
        show upd b x (rv o) z = rv (if z = x then o else h z)
        by_cases c : z = x
        · rw [if_pos c, c, pk_us]
        · rw [if_neg c, pk_un c]; exact hrr.1 z h1 (by omega), by omega, fun z hz => by
        show sm (if z = x then o else h z)
        split
        · exact hs
        · exact hrc.2.2 z (by omega)⟩ (by omega) (by omega)
    cases o with
    | none => rw [if_neg (show ¬ (0 : Int32) ≤ ov none by decide)]; exact key
    | some w => rw [if_pos (show (0 : Int32) ≤ ov (some w) from rvs_p (hs w rfl))]; exact key
theorem go_e (P : PX n hc cd g mk vil mar hld sta mks rul) {i : Nat} (hi : i < hc) (a b : Nat → Int32) :
    ∃ (a' b' : Nat → Int32) (h' : Nat → Option Nat) (L : Nat), L ≤ 24 ∧ f_X0_last vil = some (nI L) ∧ f_X7_last sta = some (nI L) ∧ f_X6_goOn (nI (cd i)) (nI n) vil a mar = some a' ∧ f_X7_goesOn (nI i) (nI n) sta b rul mks = some b' ∧ (∀ z, z < 100 → a' z = ov (h' z)) ∧ (∀ z, z < 100 → b' z = rv (h' z)) ∧ ∀ z, z < 100 → sm (h' z) := by
  have P0 := P
  obtain ⟨hn, hh, hcd, ho, hC, hR, hl, hr⟩ := P
  obtain ⟨L, hL, l1, l2⟩ := last_e hC.1 hR.1 ho.1
  obtain ⟨f', a1, e1, e2, e3⟩ := go6_1 (mar := mar) hL hC.1 (nI (cd i)) (nI n) L 0 1000 a (by omega) (fun z hz => absurd hz (Nat.not_lt_zero z)) (by omega)
  obtain ⟨b1, e4, e5⟩ := go7_1 (sta := sta) 100 0 1000 b (by omega) (fun z hz => absurd hz (Nat.not_lt_zero z)) (by omega)
  obtain ⟨a', b', h', q1, q2, q3, q4, q5⟩ := go_j P0 hi hL (100 - L) L f' 1000 a1 b1 g (by omega) (by omega) ⟨fun z _ h2 => e3 z h2, fun z h1 h2 => by omega, fun z _ => ho.1 z⟩ ⟨fun z h1 _ => by rw [e5 z h1, hR.1 z h1], by omega, fun z _ => ho.1 z⟩ (by omega) (by omega)
  refine ⟨a', b', h', L, hL, l1, l2, ?_, ?_, q3, q4, q5⟩
  · unfold f_X6_goOn
    rw [l1]
    show bd1 (f_X6_goOn_L10 (nI L) (nI (cd i)) (nI n) mar vil 1000 (nI 0) a) _ = _
    rw [e1, q1]; rfl
  · unfold f_X7_goesOn
    rw [show f_X7_goesOn_L2 sta 1000 0 b = some b1 from e4, l2]
    show bd1 (f_X7_goesOn_L31 (nI i) (nI n) rul mks 1000 (nI L) b1) _ = _
    rw [q2]; rfl
end
