/-! ===== the law ends with 1 ===== -/
theorem law_all {L : Nat} {xs : Nat → Int32} (hL : L ≤ 2560) : ∀ f j, j ≤ 2600 → L ≤ j + 5 * f → GK j (f_law_L L xs (f + 1)) := by
  intro f
  induction f with
  | zero =>
    intro j hj h
    exact law_step hL hj (fun h2 => by omega)
  | succ f ih =>
    intro j hj h
    exact law_step hL hj (fun h2 => ih (j + 5) (by omega) (by omega))
theorem ini7_j : ∀ c k f (v : Nat → Int32), k + c = 100 → c < f → (∀ y, y < k → v y = -1) → ∃ v', f_X7_init_L214 f (nI k) v = some v' ∧ ∀ y, y < 100 → v' y = -1 := by
  intro c
  induction c with
  | zero =>
    intro k f v hk hf h
    obtain ⟨f, rfl⟩ : ∃ m, f = m + 1 := ⟨f - 1, by omega⟩
    obtain rfl : k = 100 := by omega
    exact ⟨v, by rw [f_X7_init_L214, if_pos (show (100 : Int32) ≤ nI 100 by decide)], h⟩
  | succ c ih =>
    intro k f v hk hf h
    obtain ⟨f, rfl⟩ : ∃ m, f = m + 1 := ⟨f - 1, by omega⟩
    have h100 : k < 100 := by omega
    simp only [f_X7_init_L214, if_neg (nl100 h100), gd_nI h100 (by decide), clp h100 (by decide), nI_1]
    refine ih (k + 1) f _ (by omega) (by omega) (fun y hy => ?_)
    by_cases e : y = k
    · rw [e, pk_us]
    · rw [pk_un e]; exact h y (by omega)
theorem u4 : ∀ i, i < 4 → (upd (upd (upd (upd (fun _ => 0) (0 : Int32).toNatClampNeg (-1 : Int32)) (1 : Int32).toNatClampNeg (-1 : Int32)) (2 : Int32).toNatClampNeg (-1 : Int32)) (3 : Int32).toNatClampNeg (-1 : Int32)) i = -1 := by decide
theorem hpure (L : Nat) (xs : Nat → Int32) (hL : L ≤ 2560) : f_law L xs = some 1 := by
  obtain ⟨v, m, e1, e2⟩ := clr6_j 24 0 1000 (fun _ => 0) (fun _ => 0) (by omega) (by omega) (fun y hy => by omega)
  obtain ⟨w, e3, e4⟩ := ini7_j 100 0 1000 (fun _ => 0) (by omega) (by omega) (fun y hy => by omega)
  unfold f_law f_X6_init f_X7_init f_X0_init f_X0_clear
  rw [show f_X0_clear_L2 1000 0 (fun _ => 0) (fun _ => 0) = _ from e1, show f_X7_init_L214 1000 0 (fun _ => 0) = _ from e3]
  simp only [bd1, bd2, bd4, bd12]
  refine GK_use (law_all hL 999 0 (by omega) (by omega)) (n := 10) (hc := 0) (t := 0) (rc := 0) (c0 := 0) (cd := fun _ => 0) (g := fun _ => none) (mk := fun _ => 0) (x := 0) rfl ?_ (Or.inl rfl) (T0 _ _) ⟨by omega, fun j hj => by omega⟩ ?_ ?_ ⟨by omega, fun j hj => by omega⟩
  · refine ⟨by omega, by omega, fun i hi => by omega, ⟨fun y => sm_n, fun y _ => rfl, fun y => Nat.zero_le 9, fun y _ => rfl⟩, ⟨fun y hy => (e2 y hy).1, fun y hy => (e2 y hy).2⟩, ⟨fun y hy => e4 y hy, fun y hy => rfl⟩, fun i hi => by omega, fun i hi => by omega⟩
  · refine ⟨fun i hi => ⟨rfl, Or.inl (u4 i hi), 0, by omega, rfl, rfl⟩, fun j hj => rfl, fun j hj => ⟨0, rfl⟩⟩
  · exact fun i hi => Or.inl ⟨u4 i hi, u4 i hi, u4 i hi⟩
