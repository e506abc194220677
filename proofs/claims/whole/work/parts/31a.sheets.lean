/-! ===== sheets ===== -/
def SH (so si : Nat → Int32) (it : Nat → Int64) (so2 si2 : Nat → Int32) (it2 : Nat → Int64) : Prop :=
  (∀ i, i < 4 → so2 i = so i ∧ ((so i = -1) ∨ ∃ q, q < 4 ∧ so i = nI q) ∧ ∃ m, m ≤ 40 ∧ si i = nI m ∧ si2 i = nI m) ∧ (∀ j, j < 160 → it2 j = it j) ∧ ∀ j, j < 160 → ∃ x : Int32, it j = x.toInt64
theorem back64 (x : Int32) : x.toInt64.toInt32 = x := by simp
theorem so_ge {so : Int32} (h : (so = -1) ∨ ∃ q, q < 4 ∧ so = nI q) : ((0 : Int32) ≤ so ∧ ∃ q, q < 4 ∧ so = nI q) ∨ (¬ (0 : Int32) ≤ so ∧ so = -1) := by
  rcases h with rfl | ⟨q, hq, rfl⟩
  · exact Or.inr ⟨by decide, rfl⟩
  · exact Or.inl ⟨nI_pos' (by omega), q, hq, rfl⟩
theorem ren6_j {i : Nat} (hi : i < 4) : ∀ (d x f : Nat) (it : Nat → Int64), x + d = 40 → d < f → ∃ (it' : Nat → Int64), f_X2_renew_L27 (nI i) f (nI x) it = some it' ∧ ∀ j, it' j = if 40 * i + x ≤ j ∧ j < 40 * i + 40 then 0 else it j := by
  intro d
  induction d with
  | zero =>
    intro x f it hx hf
    obtain ⟨f, rfl⟩ : ∃ q, f = q + 1 := ⟨f - 1, by omega⟩
    obtain rfl : x = 40 := by omega
    exact ⟨it, by rw [f_X2_renew_L27, if_pos (show (40 : Int32) ≤ nI 40 by decide)], fun j => by rw [if_neg (by omega)]⟩
  | succ d ih =>
    intro x f it hx hf
    obtain ⟨f, rfl⟩ : ∃ q, f = q + 1 := ⟨f - 1, by omega⟩
    have h40 : x < 40 := by omega
    have h160 : 40 * i + x < 160 := by omega
    obtain ⟨it', e1, e2⟩ := ih (x + 1) f (vp_updL it (40 * i + x) 0) (by omega) (by omega)
    refine ⟨it', ?_, fun j => ?_⟩
    · rw [f_X2_renew_L27, if_neg (nl40 h40), show nI i * (40 : Int32) = nI (i * 40) from pk_mul i 40, Nat.mul_comm i 40, nI_add, gd_nI h160 (by decide), clp h160 (by decide), nI_1, e1]
    · rw [e2 j]
      by_cases c : j = 40 * i + x
      · rw [if_neg (by omega), if_pos (by omega), c, pk_uLs]
      · rw [pk_uLn c]
        by_cases c2 : 40 * i + x ≤ j ∧ j < 40 * i + 40
        · rw [if_pos (by omega), if_pos c2]
        · rw [if_neg (by omega), if_neg c2]
theorem ren7a_j {i : Nat} (hi : i < 4) : ∀ (d x f : Nat) (it : Nat → Int64), x + d = 40 → d < f → ∃ (it' : Nat → Int64), f_X7_sheet_L64 (nI i) f (nI x) it = some it' ∧ ∀ j, it' j = if 40 * i + x ≤ j ∧ j < 40 * i + 40 then 0 else it j := by
  intro d
  induction d with
  | zero =>
    intro x f it hx hf
    obtain ⟨f, rfl⟩ : ∃ q, f = q + 1 := ⟨f - 1, by omega⟩
    obtain rfl : x = 40 := by omega
    exact ⟨it, by rw [f_X7_sheet_L64, if_pos (show (40 : Int32) ≤ nI 40 by decide)], fun j => by rw [if_neg (by omega)]⟩
  | succ d ih =>
    intro x f it hx hf
    obtain ⟨f, rfl⟩ : ∃ q, f = q + 1 := ⟨f - 1, by omega⟩
    have h40 : x < 40 := by omega
    have h160 : 40 * i + x < 160 := by omega
    obtain ⟨it', e1, e2⟩ := ih (x + 1) f (vp_updL it (40 * i + x) 0) (by omega) (by omega)
    refine ⟨it', ?_, fun j => ?_⟩
    · rw [f_X7_sheet_L64, if_neg (nl40 h40), show (40 : Int32) * nI i = nI (40 * i) from pk_mul 40 i, nI_add, gd_nI h160 (by decide), clp h160 (by decide), nI_1, e1]
    · rw [e2 j]
      by_cases c : j = 40 * i + x
      · rw [if_neg (by omega), if_pos (by omega), c, pk_uLs]
      · rw [pk_uLn c]
        by_cases c2 : 40 * i + x ≤ j ∧ j < 40 * i + 40
        · rw [if_pos (by omega), if_pos c2]
        · rw [if_neg (by omega), if_neg c2]
theorem ren7b_j {i : Nat} (hi : i < 4) : ∀ (d x f : Nat) (it : Nat → Int64), x + d = 40 → d < f → ∃ (it' : Nat → Int64), f_X7_sheet_L64_43 (nI i) f (nI x) it = some it' ∧ ∀ j, it' j = if 40 * i + x ≤ j ∧ j < 40 * i + 40 then 0 else it j := by
  intro d
  induction d with
  | zero =>
    intro x f it hx hf
    obtain ⟨f, rfl⟩ : ∃ q, f = q + 1 := ⟨f - 1, by omega⟩
    obtain rfl : x = 40 := by omega
    exact ⟨it, by rw [f_X7_sheet_L64_43, if_pos (show (40 : Int32) ≤ nI 40 by decide)], fun j => by rw [if_neg (by omega)]⟩
  | succ d ih =>
    intro x f it hx hf
    obtain ⟨f, rfl⟩ : ∃ q, f = q + 1 := ⟨f - 1, by omega⟩
    have h40 : x < 40 := by omega
    have h160 : 40 * i + x < 160 := by omega
    obtain ⟨it', e1, e2⟩ := ih (x + 1) f (vp_updL it (40 * i + x) 0) (by omega) (by omega)
    refine ⟨it', ?_, fun j => ?_⟩
    · rw [f_X7_sheet_L64_43, if_neg (nl40 h40), show (40 : Int32) * nI i = nI (40 * i) from pk_mul 40 i, nI_add, gd_nI h160 (by decide), clp h160 (by decide), nI_1, e1]
    · rw [e2 j]
      by_cases c : j = 40 * i + x
      · rw [if_neg (by omega), if_pos (by omega), c, pk_uLs]
      · rw [pk_uLn c]
        by_cases c2 : 40 * i + x ≤ j ∧ j < 40 * i + 40
        · rw [if_pos (by omega), if_pos c2]
        · rw [if_neg (by omega), if_neg c2]
theorem ren6 {i : Nat} (hi : i < 4) (a b : Int32) (so si : Nat → Int32) (it : Nat → Int64) : ∃ (it' : Nat → Int64), f_X2_renew (nI i) a b so si it = some (upd so i a, upd si i b, it') ∧ ∀ j, it' j = if 40 * i ≤ j ∧ j < 40 * i + 40 then 0 else it j := by
  obtain ⟨it', e1, e2⟩ := ren6_j hi 40 0 1000 it (by omega) (by omega)
  refine ⟨it', ?_, e2⟩
  unfold f_X2_renew
  rw [if_neg (nI_pos (by omega)), if_pos (show nI i < (4 : Int32) from nI_lt hi (by decide)), gd_nI hi (by decide), gd_nI hi (by decide), clp hi (by decide), show f_X2_renew_L27 (nI i) 1000 0 it = _ from e1]
  rfl
theorem sh_set {so si so2 si2 : Nat → Int32} {it it2 it' it2' : Nat → Int64} (S : SH so si it so2 si2 it2) {i m : Nat} {a : Int32} (hi : i < 4) (ha : (a = -1) ∨ ∃ q, q < 4 ∧ a = nI q) (hm : m ≤ 40)
    (e1 : ∀ j, it' j = if 40 * i ≤ j ∧ j < 40 * i + 40 then 0 else it j) (e2 : ∀ j, it2' j = if 40 * i ≤ j ∧ j < 40 * i + 40 then 0 else it2 j) : SH (upd so i a) (upd si i (nI m)) it' (upd so2 i a) (upd si2 i (nI m)) it2' := by
  obtain ⟨h1, h2, h3⟩ := S
  refine ⟨fun k hk => ?_, fun j hj => ?_, fun j hj => ?_⟩
  · by_cases c : k = i
    · subst c; rw [pk_us, pk_us, pk_us, pk_us]; exact ⟨rfl, ha, m, hm, rfl, rfl⟩
    · simp only [pk_un c]; exact h1 k hk
  · rw [e1, e2, h2 j hj]
  · rw [e1]
    split
    · exact ⟨0, by decide⟩
    · exact h3 j hj
theorem op_sheet {so si so2 si2 : Nat → Int32} {it it2 : Nat → Int64} (S : SH so si it so2 si2 it2) (i1 i2 i3 : Int32) : ∃ (r : Int32) (so' si' : Nat → Int32) (it' : Nat → Int64) (so2' si2' : Nat → Int32) (it2' : Nat → Int64), f_X6_sheet i1 i2 i3 so si it = some (r, so', si', it') ∧ f_X7_sheet i1 i2 i3 so2 si2 it2 = some (r, so2', si2', it2') ∧ SH so' si' it' so2' si2' it2' := by
  unfold f_X6_sheet f_X7_sheet f_X7_isShelf
  rcases rngN i1 0 3 (by omega) (by omega) with ⟨i, _, hi, rfl, a1, a2⟩ | ⟨a1, a2⟩
  rotate_left
  · rw [if_neg (show ¬ f_X6_outside i1 0 3 = 0 from a1), if_pos (show f_X7_in i1 0 3 = 0 from a2)]; exact ⟨_, _, _, _, _, _, _, rfl, rfl, S⟩
  have hi4 : i < 4 := by omega
  rw [if_pos (show f_X6_outside (nI i) 0 3 = 0 from a1), if_neg (show ¬ f_X7_in (nI i) 0 3 = 0 from a2)]
  rcases rng i2 (-1) 3 with ⟨b1, b2, b3, b4⟩ | ⟨b1, b2⟩
  rotate_left
  · rw [if_neg b1, if_pos b2]; exact ⟨_, _, _, _, _, _, _, rfl, rfl, S⟩
  rw [if_pos b1, if_neg b2]
  by_cases c : i2 < 0
  · have c' : ¬ (0 : Int32) ≤ i2 := Int32.not_le.mpr c
    have hm1 := ism1 b3 c'
    obtain ⟨it', e1, e2⟩ := ren6 hi4 i2 0 so si it
    obtain ⟨it2', e3, e4⟩ := ren7a_j hi4 40 0 1000 it2 (by omega) (by omega)
    rw [if_pos c, if_pos c, if_pos c, if_pos c, if_neg c', e1, gd_nI hi4 (by decide), clp hi4 (by decide)]
    simp only [lt1, if_neg c', gd_nI hi4 (show 4 < 2147483648 by decide)]
    rw [show f_X7_sheet_L64 (nI i) 1000 0 it2 = _ from e3]
    exact ⟨_, _, _, _, _, _, _, rfl, rfl, sh_set (m := 0) S hi4 (Or.inl hm1) (by omega) e2 e4⟩
  · have c' : (0 : Int32) ≤ i2 := Int32.not_lt.mp c
    obtain ⟨q, hq, hq2⟩ := rngI (N := 3) (by omega) c' b4
    rw [if_neg c, if_neg c]
    by_cases d : i3 ≤ 40
    · rw [if_pos d, if_pos d, if_neg c, if_neg c]
      by_cases e : (0 : Int32) ≤ i3
      · obtain ⟨m, hm, rfl⟩ := rngI (N := 40) (by omega) e d
        obtain ⟨it', e1, e2⟩ := ren6 hi4 i2 (nI m) so si it
        obtain ⟨it2', e3, e4⟩ := ren7b_j hi4 40 0 1000 it2 (by omega) (by omega)
        rw [if_pos e, if_pos e, if_pos c', e1, gd_nI hi4 (by decide), clp hi4 (by decide)]
        simp only [lt1, if_pos c', gd_nI hi4 (show 4 < 2147483648 by decide)]
        rw [show f_X7_sheet_L64_43 (nI i) 1000 0 it2 = _ from e3]
        exact ⟨_, _, _, _, _, _, _, rfl, rfl, sh_set (m := m) S hi4 (Or.inr ⟨q, by omega, hq2⟩) hm e2 e4⟩
      · rw [if_neg e, if_neg e]; exact ⟨_, _, _, _, _, _, _, rfl, rfl, S⟩
    · rw [if_neg d, if_neg d, if_neg c]; exact ⟨_, _, _, _, _, _, _, rfl, rfl, S⟩
theorem sh_put {so si so2 si2 : Nat → Int32} {it it2 : Nat → Int64} (S : SH so si it so2 si2 it2) (k : Nat) (x : Int32) : SH so si (vp_updL it k x.toInt64) so2 si2 (vp_updL it2 k x.toInt64) := by
  obtain ⟨h1, h2, h3⟩ := S
  refine ⟨h1, fun j hj => ?_, fun j hj => ?_⟩
  · by_cases c : j = k
    · rw [c, pk_uLs, pk_uLs]
    · rw [pk_uLn c, pk_uLn c, h2 j hj]
  · by_cases c : j = k
    · rw [c, pk_uLs]; exact ⟨x, rfl⟩
    · rw [pk_uLn c]; exact h3 j hj
theorem op_put {so si so2 si2 : Nat → Int32} {it it2 : Nat → Int64} (S : SH so si it so2 si2 it2) (i1 i2 i3 : Int32) : ∃ (r : Int32) (it' it2' : Nat → Int64), f_X6_put i1 i2 i3 so si it = some (r, it') ∧ f_X7_put i1 i2 i3 so2 si2 it2 = some (r, it2') ∧ SH so si it' so2 si2 it2' := by
  unfold f_X6_put f_X7_put f_X7_isShelf
  rcases rngN i1 0 3 (by omega) (by omega) with ⟨i, _, hi, rfl, a1, a2⟩ | ⟨a1, a2⟩
  rotate_left
  · rw [if_neg (show ¬ f_X6_outside i1 0 3 = 0 from a1), if_pos (show f_X7_in i1 0 3 = 0 from a2)]; exact ⟨_, _, _, rfl, rfl, S⟩
  have hi4 : i < 4 := by omega
  obtain ⟨s1, s2, m, hm, s3, s4⟩ := S.1 i hi4
  rw [if_pos (show f_X6_outside (nI i) 0 3 = 0 from a1), if_neg (show ¬ f_X7_in (nI i) 0 3 = 0 from a2)]
  simp only [gd_nI hi4 (show 4 < 2147483648 by decide), clp hi4 (show 4 < 2147483648 by decide), s1, s3, s4]
  rcases so_ge s2 with ⟨c, q, hq, hq2⟩ | ⟨c, hq2⟩
  rotate_left
  · rw [if_neg c, if_neg c]; exact ⟨_, _, _, rfl, rfl, S⟩
  rw [if_pos c, if_pos c]
  rcases rngM i2 m (by omega) with ⟨p, hp, rfl, b1, b2⟩ | ⟨b1, b2, _⟩
  rotate_left
  · rw [if_neg b1, if_pos b2]; exact ⟨_, _, _, rfl, rfl, S⟩
  have h160 : 40 * i + p < 160 := by omega
  rw [if_pos b1, if_neg b2, show nI i * (40 : Int32) = nI (i * 40) from pk_mul i 40, show (40 : Int32) * nI i = nI (40 * i) from pk_mul 40 i, Nat.mul_comm i 40, nI_add]
  simp only [gd_nI h160 (show 160 < 2147483648 by decide), clp h160 (show 160 < 2147483648 by decide)]
  unfold f_X6_narrowed
  by_cases c0 : so i = 0
  · rw [if_pos c0, if_pos c0]; exact ⟨_, _, _, rfl, rfl, sh_put S _ _⟩
  · rw [if_neg c0, if_neg c0]
    by_cases c1 : so i = 1
    · rw [if_pos c1, if_pos c1]; exact ⟨_, _, _, rfl, rfl, sh_put S _ _⟩
    · rw [if_neg c1, if_neg c1]; exact ⟨_, _, _, rfl, rfl, sh_put S _ _⟩
theorem op_item {so si so2 si2 : Nat → Int32} {it it2 : Nat → Int64} (S : SH so si it so2 si2 it2) (i1 i2 i3 : Int32) : ∃ (r : Int32), f_X6_item i1 i2 i3 so si it = some r ∧ f_X7_item i1 i2 i3 so2 si2 it2 = some r := by
  unfold f_X6_item f_X7_item f_X7_isShelf f_X7_lacksSort
  rcases rngN i1 0 3 (by omega) (by omega) with ⟨i, _, hi, rfl, a1, a2⟩ | ⟨a1, a2⟩
  rotate_left
  · rw [if_neg (show ¬ f_X6_outside i1 0 3 = 0 from a1), if_pos (show f_X7_in i1 0 3 = 0 from a2)]; exact ⟨_, rfl, rfl⟩
  have hi4 : i < 4 := by omega
  obtain ⟨s1, s2, m, hm, s3, s4⟩ := S.1 i hi4
  rw [if_pos (show f_X6_outside (nI i) 0 3 = 0 from a1), if_neg (show ¬ f_X7_in (nI i) 0 3 = 0 from a2)]
  rcases rng i2 0 3 with ⟨b1, b2, b3, b4⟩ | ⟨b1, b2⟩
  rotate_left
  · rw [if_neg b1, if_pos b2]; exact ⟨_, rfl, rfl⟩
  rw [if_pos b1, if_neg b2]
  simp only [gd_nI hi4 (show 4 < 2147483648 by decide), clp hi4 (show 4 < 2147483648 by decide), s1, s3, s4]
  rcases so_ge s2 with ⟨c, q, hq, hq2⟩ | ⟨c, hq2⟩
  rotate_left
  · rw [if_neg c, if_neg c]; exact ⟨_, rfl, rfl⟩
  rw [if_pos c, if_pos c]
  by_cases d : so i = i2
  rotate_left
  · rw [if_neg d, if_neg d]; exact ⟨_, rfl, rfl⟩
  rw [if_pos d, if_pos d]
  simp only [bd1, if_true]
  rcases rngM i3 m (by omega) with ⟨p, hp, rfl, e1, e2⟩ | ⟨e1, e2, _⟩
  rotate_left
  · rw [if_neg e1, if_pos e2]; exact ⟨_, rfl, rfl⟩
  have h160 : 40 * i + p < 160 := by omega
  rw [if_pos e1, if_neg e2, show nI i * (40 : Int32) = nI (i * 40) from pk_mul i 40, show (40 : Int32) * nI i = nI (40 * i) from pk_mul 40 i, Nat.mul_comm i 40, nI_add, gd_nI h160 (by decide), gd_nI h160 (by decide), clp h160 (by decide), S.2.1 _ h160]
  exact ⟨_, rfl, rfl⟩
theorem lg_rng (x : Int32) : (if lg_cmp x.toInt64 0 < 0 then (0 : Int32) else if 0 < lg_cmp x.toInt64 9 then 0 else 1) = if f_X6_outside x 0 9 = 0 then 1 else 0 := by
  simp only [lg_cmp_lt, lg_cmp_gt, out_0]
  have e0 : x.toInt64 < 0 ↔ ¬ (0 : Int32) ≤ x := by
    rw [Int64.lt_iff_toInt_lt, Int32.le_iff_toInt_le, Int32.toInt_toInt64, show (0 : Int64).toInt = 0 by decide, show (0 : Int32).toInt = 0 by decide]; omega
  have e9 : (9 : Int64) < x.toInt64 ↔ ¬ x ≤ (9 : Int32) := by
    rw [Int64.lt_iff_toInt_lt, Int32.le_iff_toInt_le, Int32.toInt_toInt64, show (9 : Int64).toInt = 9 by decide, show (9 : Int32).toInt = 9 by decide]; omega
  simp only [e0, e9]
  by_cases c : (0 : Int32) ≤ x <;> by_cases d : x ≤ (9 : Int32) <;> simp [c, d]
section
variable {n hc : Nat} {cd : Nat → Nat} {g : Nat → Option Nat} {mk : Nat → Nat} {vil mar hld sta mks rul : Nat → Int32}
theorem years_j {so si so2 si2 : Nat → Int32} {it it2 : Nat → Int64} (S : SH so si it so2 si2 it2) {i p y w : Nat} (hi : i < 4) (hy : y + w ≤ 24) (hp : p + w ≤ 40) : ∀ (d x cnt f : Nat) (g : Nat → Option Nat) (vil sta : Nat → Int32), x + d = w → d < f → BkO g mk → BkC g mk vil mar → BkR g mk sta mks →
    ∃ (r : Int32) (vil' sta' : Nat → Int32) (g' : Nat → Option Nat), f_X6_years_L93 (nI w) (nI i) (nI p) it (nI y) f (nI cnt) (nI x) vil = some (r, vil') ∧ f_X7_years_L78 (nI w) (nI i) (nI p) it2 (nI y) f (nI cnt) (nI x) sta = some (r, sta') ∧ BkO g' mk ∧ BkC g' mk vil' mar ∧ BkR g' mk sta' mks := by
  intro d
  induction d with
  | zero =>
    intro x cnt f g vil sta hx hf ho hC hR
    obtain ⟨f, rfl⟩ : ∃ q, f = q + 1 := ⟨f - 1, by omega⟩
    obtain rfl : x = w := by omega
    exact ⟨nI cnt, vil, sta, g, by rw [f_X6_years_L93, if_pos (nI_le (Nat.le_refl x) (by omega))], by rw [f_X7_years_L78, if_pos (nI_le (Nat.le_refl x) (by omega))], ho, hC, hR⟩
  | succ d ih =>
    intro x cnt f g vil sta hx hf ho hC hR
    obtain ⟨f, rfl⟩ : ∃ q, f = q + 1 := ⟨f - 1, by omega⟩
    have h160 : 40 * i + p + x < 160 := by omega
    have h24 : y + x < 24 := by omega
    have h100 : y + x < 100 := by omega
    obtain ⟨v, hv⟩ := S.2.2 _ h160
    rw [f_X6_years_L93, f_X7_years_L78, if_neg (nl (show x < w by omega) (by omega)), if_neg (nl (show x < w by omega) (by omega)), show nI i * (40 : Int32) = nI (i * 40) from pk_mul i 40, show (40 : Int32) * nI i = nI (40 * i) from pk_mul 40 i, Nat.mul_comm i 40]
    simp only [nI_add, gd_nI h160 (show 160 < 2147483648 by decide), clp h160 (show 160 < 2147483648 by decide), S.2.1 _ h160, hv, back64, lg_rng, lt1, gd_nI h24 (show 24 < 2147483648 by decide), gd_nI h100 (show 100 < 2147483648 by decide), clp h24 (show 24 < 2147483648 by decide), nI_1, nI_p0]
    by_cases c : f_X6_outside v 0 9 = 0
    · obtain ⟨c1, c2⟩ := (out_0 v 0 9).mp c
      obtain ⟨k, hk, rfl⟩ := rngI (N := 9) (by omega) c1 c2
      simp only [if_pos c, if_neg (show ¬ (1 : Int32) = 0 by decide)]
      exact ih (x + 1) (cnt + 1) f _ _ _ (by omega) (by omega) (bkO_set ho h24 (sm_s (show k < 10 by omega))) (bkC_set (o := some k) hC) (bkR_set (o := some k) hR)
    · simp only [if_neg c, if_true]
      exact ih (x + 1) cnt f _ _ _ (by omega) (by omega) (bkO_set ho h24 sm_n) (bkC_set (o := none) hC) (bkR_set (o := none) hR)
theorem op_years (P : PX n hc cd g mk vil mar hld sta mks rul) {so si so2 si2 : Nat → Int32} {it it2 : Nat → Int64} (S : SH so si it so2 si2 it2) (i1 i2 i3 i4 : Int32) :
    ∃ (r : Int32) (vil' sta' : Nat → Int32) (g' : Nat → Option Nat), f_X6_years i1 i2 i3 i4 so si it vil = some (r, vil') ∧ f_X7_years i1 i2 i3 i4 so2 si2 it2 sta = some (r, sta') ∧ PX n hc cd g' mk vil' mar hld sta' mks rul := by
  have P0 := P
  obtain ⟨hn, hh, hcd, ho, hC, hR, hl, hr⟩ := P
  unfold f_X6_years f_X7_years f_X7_isShelf f_X7_isYear f_X7_lacksSort
  rcases rngN i1 0 3 (by omega) (by omega) with ⟨i, _, hi, rfl, a1, a2⟩ | ⟨a1, a2⟩
  rotate_left
  · rw [if_neg (show ¬ f_X6_outside i1 0 3 = 0 from a1), if_pos (show f_X7_in i1 0 3 = 0 from a2)]; exact ⟨_, _, _, _, rfl, rfl, P0⟩
  have hi4 : i < 4 := by omega
  obtain ⟨s1, s2, m, hm, s3, s4⟩ := S.1 i hi4
  rw [if_pos (show f_X6_outside (nI i) 0 3 = 0 from a1), if_neg (show ¬ f_X7_in (nI i) 0 3 = 0 from a2)]
  rcases rngN i3 0 23 (by omega) (by omega) with ⟨y, _, hy, rfl, b1, b2⟩ | ⟨b1, b2⟩
  rotate_left
  · rw [if_neg (show ¬ f_X6_outside i3 0 23 = 0 from b1), if_pos (show f_X7_in i3 0 23 = 0 from b2)]; exact ⟨_, _, _, _, rfl, rfl, P0⟩
  rw [if_pos (show f_X6_outside (nI y) 0 23 = 0 from b1), if_neg (show ¬ f_X7_in (nI y) 0 23 = 0 from b2), show (24 : Int32) - nI y = nI (24 - y) from pk_sub (a := 24) (by omega)]
  rcases rngN i4 0 (24 - y) (by omega) (by omega) with ⟨w, _, hw, rfl, c1, c2⟩ | ⟨c1, c2⟩
  rotate_left
  · rw [if_neg (show ¬ f_X6_outside i4 0 (nI (24 - y)) = 0 from c1)]
    rcases rngN i4 0 24 (by omega) (by omega) with ⟨w, _, hw, rfl, d1, d2⟩ | ⟨d1, d2⟩
    · have hbig : 24 - y < w := by
        rcases Nat.lt_or_ge (24 - y) w with h | h
        · exact h
        · exact absurd (out_p ⟨nI_pos' (by omega), nI_le h (by omega)⟩) c1
      rw [if_neg (show ¬ f_X7_in (nI w) 0 24 = 0 from d2), nI_add, if_neg (show ¬ nI (y + w) ≤ (24 : Int32) from nI_ge (a := 24) (by omega) (by omega))]
      exact ⟨_, _, _, _, rfl, rfl, P0⟩
    · rw [if_pos (show f_X7_in i4 0 24 = 0 from d2)]; exact ⟨_, _, _, _, rfl, rfl, P0⟩
  have d2 : ¬ f_X7_in (nI w) 0 24 = 0 := in_p ⟨nI_pos' (by omega), nI_le (b := 24) (by omega) (by omega)⟩
  rw [if_pos (show f_X6_outside (nI w) 0 (nI (24 - y)) = 0 from c1), if_neg d2, nI_add, if_pos (show nI (y + w) ≤ (24 : Int32) from nI_le (b := 24) (by omega) (by omega))]
  simp only [gd_nI hi4 (show 4 < 2147483648 by decide), clp hi4 (show 4 < 2147483648 by decide), s1, s3, s4]
  rcases so_ge s2 with ⟨c, q, hq, hq2⟩ | ⟨c, hq2⟩
  rotate_left
  · rw [if_neg c, if_neg c]; exact ⟨_, _, _, _, rfl, rfl, P0⟩
  rw [if_pos c, if_pos c]
  by_cases d : so i = 0
  rotate_left
  · rw [if_neg d, if_neg d]; exact ⟨_, _, _, _, rfl, rfl, P0⟩
  rw [if_pos d, if_pos d]
  simp only [bd1, if_true, out_0]
  by_cases e : i2 < 0
  · rw [if_neg (fun z => Int32.not_le.mpr e z.1), if_pos e]; exact ⟨_, _, _, _, rfl, rfl, P0⟩
  rw [if_neg e]
  by_cases e2 : i2 ≤ nI m - nI w
  rotate_left
  · rw [if_neg (fun z => e2 z.2), if_neg e2]; exact ⟨_, _, _, _, rfl, rfl, P0⟩
  rw [if_pos ⟨Int32.not_lt.mp e, e2⟩, if_pos e2]
  have hmw : w ≤ m := by
    rcases Nat.lt_or_ge m w with h | h
    · exact absurd (Int32.lt_of_le_of_lt e2 (pk_sneg (by omega) h)) e
    · exact h
  rw [pk_sub hmw] at e2
  obtain ⟨p, hp, rfl⟩ := rngI (N := m - w) (by omega) (Int32.not_lt.mp e) e2
  obtain ⟨r, vil', sta', g', q1, q2, q3, q4, q5⟩ := years_j (mar := mar) (mks := mks) S (y := y) (w := w) (p := p) hi4 (by omega) (by omega) w 0 0 1000 g vil sta (by omega) (by omega) ho hC hR
  rw [show f_X6_years_L93 (nI w) (nI i) (nI p) it (nI y) 1000 0 0 vil = _ from q1, show f_X7_years_L78 (nI w) (nI i) (nI p) it2 (nI y) 1000 0 0 sta = _ from q2]
  exact ⟨_, _, _, g', rfl, rfl, hn, hh, hcd, q3, q4, q5, hl, hr⟩
end
