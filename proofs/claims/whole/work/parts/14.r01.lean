def f_X7_in (i1 : Int32) (i2 : Int32) (i3 : Int32) : Int32 := (if i1 < i2 then ((0 : Int32)) else (if i3 < i1 then ((0 : Int32)) else ((1 : Int32))))
abbrev rmX7_in : Room := { frames := 0, cells := 0, slots := 0, locals := 0 }
set_option maxHeartbeats 400000 in
set_option maxRecDepth 100000 in
theorem c_X7_in (l : Launch) (D : va_G) (cI cB cJ : ClassId) (sz : Nat) (i1 : Int32) (i2 : Int32) (i3 : Int32) (r : Int32) (hF : f_X7_in i1 i2 i3 = r) : xMz l yX7_in (.code yX7_in cX7_in 3 (some .boolean) :: xU) rmX7_in (xK D cI cB cJ) D sz [.int i1, .int i2, .int i3] [] [] r := by
  refine xMz.mk (own := "FairNextModel") (by decide +kernel) rfl (Nat.le_of_ble_eq_true rfl) ?_
  intro p e s m args below meth c A Q ls H hfix hK hP hD hA hS hl hEnd
  obtain ⟨hx, hb, hml, hown, hts⟩ := id hfix
  have hl : lv_has ls 3 [(0, .int i1), (1, .int i2), (2, .int i3)] := hl
  rw [f_X7_in] at hF
  refine lv_iload_n hx hb dX7_in_0 rfl (lv_at hl 0 rfl) ?_
  refine lv_iload_n hx hb dX7_in_1 rfl (lv_at hl 1 rfl) ?_
  refine lv_icmp_lt (tgt := 14) hx hb dX7_in_2 (by decide) (fun c_1 => ?_) (fun c_1 => ?_)
  · replace hF := if_t c_1 hF
    refine lv_iconst (v := (0 : Int32)) hx hb dX7_in_14 (by decide) ?_
    subst hF
    exact hEnd _ _ _ _ _ dX7_in_15 hP hS x01_0 rfl
  · replace hF := if_f c_1 hF
    refine lv_iload_n hx hb dX7_in_5 rfl (lv_at hl 0 rfl) ?_
    refine lv_iload_n hx hb dX7_in_6 rfl (lv_at hl 2 rfl) ?_
    refine lv_icmp_gt (tgt := 14) hx hb dX7_in_7 (by decide) (fun c_2 => ?_) (fun c_2 => ?_)
    · replace hF := if_t c_2 hF
      refine lv_iconst (v := (0 : Int32)) hx hb dX7_in_14 (by decide) ?_
      subst hF
      exact hEnd _ _ _ _ _ dX7_in_15 hP hS x01_0 rfl
    · replace hF := if_f c_2 hF
      refine lv_iconst (v := (1 : Int32)) hx hb dX7_in_10 (by decide) ?_
      refine lv_goto (tgt := 15) hx hb dX7_in_11 (by decide) ?_
      subst hF
      exact hEnd _ _ _ _ _ dX7_in_15 hP hS x01_1 rfl
def f_X7_isYear (i1 : Int32) : Int32 := ((f_X7_in i1 (0 : Int32) (23 : Int32)))
abbrev rmX7_isYear : Room := { frames := 1, cells := 0, slots := 0, locals := 22 }
set_option maxHeartbeats 400000 in
set_option maxRecDepth 100000 in
theorem c_X7_isYear (l : Launch) (D : va_G) (cI cB cJ : ClassId) (sz : Nat) (i1 : Int32) (r : Int32) (hF : f_X7_isYear i1 = r) : xMz l yX7_isYear (.code yX7_isYear cX7_isYear 1 (some .boolean) :: xU) rmX7_isYear (xK D cI cB cJ) D sz [.int i1] [] [] r := by
  refine xMz.mk (own := "FairNextModel") (by decide +kernel) rfl (Nat.le_of_ble_eq_true rfl) ?_
  intro p e s m args below meth c A Q ls H hfix hK hP hD hA hS hl hEnd
  obtain ⟨hx, hb, hml, hown, hts⟩ := id hfix
  have hl : lv_has ls 1 [(0, .int i1)] := hl
  rw [f_X7_isYear] at hF
  refine lv_iload_n hx hb dX7_isYear_0 rfl (lv_at hl 0 rfl) ?_
  refine lv_iconst (v := (0 : Int32)) hx hb dX7_isYear_1 (by decide) ?_
  refine lv_bipush (v := (23 : Int32)) hx hb dX7_isYear_2 (by decide) ?_
  refine xrz0 (xrunS (As := [.int i1, .int (0 : Int32), .int (23 : Int32)]) (rest := []) (c_X7_in l D cI cB cJ _ i1 (0 : Int32) (23 : Int32) (f_X7_in i1 (0 : Int32) (23 : Int32)) rfl) hfix xw_819 ys_X7_in ⟨rfl, rfl⟩ ⟨(Nat.le_of_ble_eq_true rfl), (Nat.le_of_ble_eq_true rfl)⟩ xKk_K (fun U hU hW => xK.warm hW hK) hP hD [] rfl rfl rfl hl.1 rfl (Nat.le_of_ble_eq_true rfl) dX7_isYear_4 ⟨Nat.zero_le _, Nat.zero_le _⟩) hP hD hS hA [] rfl rfl (fun H locs hP hD hS hz_1 => ?_)
  subst hF
  exact hEnd _ _ _ _ _ dX7_isYear_7 hP hS hz_1 rfl
def f_X7_isSide (i1 : Int32) : Int32 := ((f_X7_in i1 (0 : Int32) (1 : Int32)))
abbrev rmX7_isSide : Room := { frames := 1, cells := 0, slots := 0, locals := 22 }
set_option maxHeartbeats 400000 in
set_option maxRecDepth 100000 in
theorem c_X7_isSide (l : Launch) (D : va_G) (cI cB cJ : ClassId) (sz : Nat) (i1 : Int32) (r : Int32) (hF : f_X7_isSide i1 = r) : xMz l yX7_isSide (.code yX7_isSide cX7_isSide 1 (some .boolean) :: xU) rmX7_isSide (xK D cI cB cJ) D sz [.int i1] [] [] r := by
  refine xMz.mk (own := "FairNextModel") (by decide +kernel) rfl (Nat.le_of_ble_eq_true rfl) ?_
  intro p e s m args below meth c A Q ls H hfix hK hP hD hA hS hl hEnd
  obtain ⟨hx, hb, hml, hown, hts⟩ := id hfix
  have hl : lv_has ls 1 [(0, .int i1)] := hl
  rw [f_X7_isSide] at hF
  refine lv_iload_n hx hb dX7_isSide_0 rfl (lv_at hl 0 rfl) ?_
  refine lv_iconst (v := (0 : Int32)) hx hb dX7_isSide_1 (by decide) ?_
  refine lv_iconst (v := (1 : Int32)) hx hb dX7_isSide_2 (by decide) ?_
  refine xrz0 (xrunS (As := [.int i1, .int (0 : Int32), .int (1 : Int32)]) (rest := []) (c_X7_in l D cI cB cJ _ i1 (0 : Int32) (1 : Int32) (f_X7_in i1 (0 : Int32) (1 : Int32)) rfl) hfix xw_819 ys_X7_in ⟨rfl, rfl⟩ ⟨(Nat.le_of_ble_eq_true rfl), (Nat.le_of_ble_eq_true rfl)⟩ xKk_K (fun U hU hW => xK.warm hW hK) hP hD [] rfl rfl rfl hl.1 rfl (Nat.le_of_ble_eq_true rfl) dX7_isSide_3 ⟨Nat.zero_le _, Nat.zero_le _⟩) hP hD hS hA [] rfl rfl (fun H locs hP hD hS hz_1 => ?_)
  subst hF
  exact hEnd _ _ _ _ _ dX7_isSide_6 hP hS hz_1 rfl
def f_X7_isHeldRule (i1 : Int32) (s_t_held : Int32) : Int32 := ((f_X7_in i1 (0 : Int32) (s_t_held - (1 : Int32))))
abbrev rmX7_isHeldRule : Room := { frames := 1, cells := 0, slots := 0, locals := 22 }
set_option maxHeartbeats 400000 in
set_option maxRecDepth 100000 in
theorem c_X7_isHeldRule (l : Launch) (D : va_G) (cI cB cJ : ClassId) (a_t : Nat) (a_t_stand : Nat) (a_t_on : Nat) (a_t_marks : Nat) (a_t_rule : Nat) (a_t_tape : Nat) (a_t_freshStand : Nat) (a_t_freshMarks : Nat) (a_t_freshRule : Nat) (a_t_shares : Nat) (a_t_said : Nat) (a_t_rows : Nat) (a_t_must : Nat) (a_t_sorts : Nat) (a_t_sizes : Nat) (a_t_sheets : Nat) (a_t_holds : Nat) (a_t_heldNumber : Nat) (a_t_heldSize : Nat) (a_t_traced : Nat) (a_t_keptRow : Nat) (a_t_single : Nat) (sz : Nat) (s_t_villages : Int32) (s_t_held : Int32) (s_t_z : Int32) (s_t_tapeMany : Int32) (s_t_sort : Int32) (s_t_begins : Int32) (s_t_tokenEnds : Int32) (s_t_word : Int64) (s_t_value : Int32) (s_t_good : Int32) (s_t_freshVillages : Int32) (s_t_freshHeld : Int32) (s_t_rowMany : Int32) (s_t_mustMany : Int32) (s_t_kind : Int32) (s_t_number : Int32) (s_t_own : Int32) (s_t_bodies : Int32) (s_t_isParted : Int32) (s_t_isKept : Int32) (s_t_movedTo : Int32) (i1 : Int32) (r : Int32) (hF : f_X7_isHeldRule i1 s_t_held = r) : xMz l yX7_isHeldRule (.code yX7_isHeldRule cX7_isHeldRule 2 (some .boolean) :: xU) rmX7_isHeldRule (xK D cI cB cJ) D sz [.ref a_t, .int i1] [(a_t, .inr (7, [.ref a_t_stand, .ref a_t_on, .ref a_t_marks, .int s_t_villages, .int s_t_held, .ref a_t_rule, .int s_t_z, .ref a_t_tape, .int s_t_tapeMany, .int s_t_sort, .int s_t_begins, .int s_t_tokenEnds, .long s_t_word, .int s_t_value, .int s_t_good, .int s_t_freshVillages, .int s_t_freshHeld, .ref a_t_freshStand, .ref a_t_freshMarks, .ref a_t_freshRule, .ref a_t_shares, .ref a_t_said, .ref a_t_rows, .ref a_t_must, .int s_t_rowMany, .int s_t_mustMany, .ref a_t_sorts, .ref a_t_sizes, .ref a_t_sheets, .ref a_t_holds, .ref a_t_heldNumber, .ref a_t_heldSize, .int s_t_kind, .int s_t_number, .int s_t_own, .ref a_t_traced, .int s_t_bodies, .int s_t_isParted, .int s_t_isKept, .ref a_t_keptRow, .int s_t_movedTo, .ref a_t_single]))] [(a_t, .inr (7, [.ref a_t_stand, .ref a_t_on, .ref a_t_marks, .int s_t_villages, .int s_t_held, .ref a_t_rule, .int s_t_z, .ref a_t_tape, .int s_t_tapeMany, .int s_t_sort, .int s_t_begins, .int s_t_tokenEnds, .long s_t_word, .int s_t_value, .int s_t_good, .int s_t_freshVillages, .int s_t_freshHeld, .ref a_t_freshStand, .ref a_t_freshMarks, .ref a_t_freshRule, .ref a_t_shares, .ref a_t_said, .ref a_t_rows, .ref a_t_must, .int s_t_rowMany, .int s_t_mustMany, .ref a_t_sorts, .ref a_t_sizes, .ref a_t_sheets, .ref a_t_holds, .ref a_t_heldNumber, .ref a_t_heldSize, .int s_t_kind, .int s_t_number, .int s_t_own, .ref a_t_traced, .int s_t_bodies, .int s_t_isParted, .int s_t_isKept, .ref a_t_keptRow, .int s_t_movedTo, .ref a_t_single]))] r := by
  refine xMz.mk (own := "FairNextModel") (by decide +kernel) rfl (Nat.le_of_ble_eq_true rfl) ?_
  intro p e s m args below meth c A Q ls H hfix hK hP hD hA hS hl hEnd
  obtain ⟨hx, hb, hml, hown, hts⟩ := id hfix
  have hl : lv_has ls 2 [(0, .ref a_t), (1, .int i1)] := hl
  rw [f_X7_isHeldRule] at hF
  refine lv_iload_n hx hb dX7_isHeldRule_0 rfl (lv_at hl 1 rfl) ?_
  refine lv_iconst (v := (0 : Int32)) hx hb dX7_isHeldRule_1 (by decide) ?_
  refine lv_aload_n hx hb dX7_isHeldRule_2 rfl (lv_at hl 0 rfl) ?_
  refine xget (ci := 7) (C := RX7) (T := TX7) (N := 42) hfix xiX7 hK.1 hP 0 rfl rfl 4 (by decide) rfl xw_692 rfl dX7_isHeldRule_3 ?_
  refine lv_iconst (v := (1 : Int32)) hx hb dX7_isHeldRule_6 (by decide) ?_
  refine lv_isub hx hb dX7_isHeldRule_7 ?_
  refine xrz0 (xrunS (As := [.int i1, .int (0 : Int32), .int (s_t_held - (1 : Int32))]) (rest := []) (c_X7_in l D cI cB cJ _ i1 (0 : Int32) (s_t_held - (1 : Int32)) (f_X7_in i1 (0 : Int32) (s_t_held - (1 : Int32))) rfl) hfix xw_819 ys_X7_in ⟨rfl, rfl⟩ ⟨(Nat.le_of_ble_eq_true rfl), (Nat.le_of_ble_eq_true rfl)⟩ xKk_K (fun U hU hW => xK.warm hW hK) hP hD [] rfl rfl rfl hl.1 rfl (Nat.le_of_ble_eq_true rfl) dX7_isHeldRule_8 ⟨Nat.zero_le _, Nat.zero_le _⟩) hP hD hS hA [] rfl rfl (fun H locs hP hD hS hz_1 => ?_)
  subst hF
  exact hEnd _ _ _ _ _ dX7_isHeldRule_11 hP hS hz_1 rfl
def f_X7_toldMany_L4 (v_t_stand : (Nat → Int32)) : Nat → Int32 → Int32 → Option (Int32)
  | 0, _, _ => none
  | n + 1, x1_1, x2_2 => (if (24 : Int32) ≤ x2_2 then some (x1_1) else gd x2_2 100 ((if (v_t_stand x2_2.toNatClampNeg) < (0 : Int32) then f_X7_toldMany_L4 v_t_stand n (x1_1 + (0 : Int32)) (x2_2 + (1 : Int32)) else f_X7_toldMany_L4 v_t_stand n (x1_1 + (1 : Int32)) (x2_2 + (1 : Int32)))))
def f_X7_toldMany (v_t_stand : (Nat → Int32)) : Option (Int32) := bd1 (f_X7_toldMany_L4 v_t_stand 1000 (0 : Int32) (0 : Int32)) (fun (y1_3 : Int32) => some (y1_3))
abbrev rmX7_toldMany : Room := { frames := 0, cells := 0, slots := 0, locals := 0 }
set_option maxHeartbeats 400000 in
set_option maxRecDepth 100000 in
theorem c_X7_toldMany (l : Launch) (D : va_G) (cI cB cJ : ClassId) (a_t : Nat) (a_t_stand : Nat) (a_t_on : Nat) (a_t_marks : Nat) (a_t_rule : Nat) (a_t_tape : Nat) (a_t_freshStand : Nat) (a_t_freshMarks : Nat) (a_t_freshRule : Nat) (a_t_shares : Nat) (a_t_said : Nat) (a_t_rows : Nat) (a_t_must : Nat) (a_t_sorts : Nat) (a_t_sizes : Nat) (a_t_sheets : Nat) (a_t_holds : Nat) (a_t_heldNumber : Nat) (a_t_heldSize : Nat) (a_t_traced : Nat) (a_t_keptRow : Nat) (a_t_single : Nat) (sz : Nat) (s_t_villages : Int32) (s_t_held : Int32) (s_t_z : Int32) (s_t_tapeMany : Int32) (s_t_sort : Int32) (s_t_begins : Int32) (s_t_tokenEnds : Int32) (s_t_word : Int64) (s_t_value : Int32) (s_t_good : Int32) (s_t_freshVillages : Int32) (s_t_freshHeld : Int32) (s_t_rowMany : Int32) (s_t_mustMany : Int32) (s_t_kind : Int32) (s_t_number : Int32) (s_t_own : Int32) (s_t_bodies : Int32) (s_t_isParted : Int32) (s_t_isKept : Int32) (s_t_movedTo : Int32) (v_t_stand : (Nat → Int32)) (r : Int32) (hF : f_X7_toldMany v_t_stand = some r) : xMi l yX7_toldMany (.code yX7_toldMany cX7_toldMany 3 (some .int) :: xU) rmX7_toldMany (xK D cI cB cJ) D sz [.ref a_t] [(a_t, .inr (7, [.ref a_t_stand, .ref a_t_on, .ref a_t_marks, .int s_t_villages, .int s_t_held, .ref a_t_rule, .int s_t_z, .ref a_t_tape, .int s_t_tapeMany, .int s_t_sort, .int s_t_begins, .int s_t_tokenEnds, .long s_t_word, .int s_t_value, .int s_t_good, .int s_t_freshVillages, .int s_t_freshHeld, .ref a_t_freshStand, .ref a_t_freshMarks, .ref a_t_freshRule, .ref a_t_shares, .ref a_t_said, .ref a_t_rows, .ref a_t_must, .int s_t_rowMany, .int s_t_mustMany, .ref a_t_sorts, .ref a_t_sizes, .ref a_t_sheets, .ref a_t_holds, .ref a_t_heldNumber, .ref a_t_heldSize, .int s_t_kind, .int s_t_number, .int s_t_own, .ref a_t_traced, .int s_t_bodies, .int s_t_isParted, .int s_t_isKept, .ref a_t_keptRow, .int s_t_movedTo, .ref a_t_single])), (a_t_stand, .inl (cI, 100, .inl v_t_stand))] [(a_t, .inr (7, [.ref a_t_stand, .ref a_t_on, .ref a_t_marks, .int s_t_villages, .int s_t_held, .ref a_t_rule, .int s_t_z, .ref a_t_tape, .int s_t_tapeMany, .int s_t_sort, .int s_t_begins, .int s_t_tokenEnds, .long s_t_word, .int s_t_value, .int s_t_good, .int s_t_freshVillages, .int s_t_freshHeld, .ref a_t_freshStand, .ref a_t_freshMarks, .ref a_t_freshRule, .ref a_t_shares, .ref a_t_said, .ref a_t_rows, .ref a_t_must, .int s_t_rowMany, .int s_t_mustMany, .ref a_t_sorts, .ref a_t_sizes, .ref a_t_sheets, .ref a_t_holds, .ref a_t_heldNumber, .ref a_t_heldSize, .int s_t_kind, .int s_t_number, .int s_t_own, .ref a_t_traced, .int s_t_bodies, .int s_t_isParted, .int s_t_isKept, .ref a_t_keptRow, .int s_t_movedTo, .ref a_t_single])), (a_t_stand, .inl (cI, 100, .inl v_t_stand))] r := by
  refine xMi.mk (own := "FairNextModel") (by decide +kernel) rfl (Nat.le_of_ble_eq_true rfl) ?_
  intro p e s m args below meth c A Q ls H hfix hK hP hD hA hS hl hEnd
  obtain ⟨hx, hb, hml, hown, hts⟩ := id hfix
  have hl : lv_has ls 3 [(0, .ref a_t)] := hl
  rw [f_X7_toldMany] at hF
  refine lv_iconst (v := (0 : Int32)) hx hb dX7_toldMany_0 (by decide) ?_
  refine lv_istore_n (lv' := [(1, .int (0 : Int32)), (0, .ref a_t)]) hx hb dX7_toldMany_1 rfl hl (by decide) rfl (fun ls hl => ?_)
  refine lv_iconst (v := (0 : Int32)) hx hb dX7_toldMany_2 (by decide) ?_
  refine lv_istore_n (lv' := [(2, .int (0 : Int32)), (1, .int (0 : Int32)), (0, .ref a_t)]) hx hb dX7_toldMany_3 rfl hl (by decide) rfl (fun ls hl => ?_)
  have hL_4 : ∀ (n : Nat) (x1_1 : Int32) (x2_2 : Int32) (y1_3 : Int32), f_X7_toldMany_L4 v_t_stand n x1_1 x2_2 = some y1_3 → ∀ (H : Heap) (locs : List Loc) (ls : Array Slot), va_P D vwCl [(a_t, .inr (7, [.ref a_t_stand, .ref a_t_on, .ref a_t_marks, .int s_t_villages, .int s_t_held, .ref a_t_rule, .int s_t_z, .ref a_t_tape, .int s_t_tapeMany, .int s_t_sort, .int s_t_begins, .int s_t_tokenEnds, .long s_t_word, .int s_t_value, .int s_t_good, .int s_t_freshVillages, .int s_t_freshHeld, .ref a_t_freshStand, .ref a_t_freshMarks, .ref a_t_freshRule, .ref a_t_shares, .ref a_t_said, .ref a_t_rows, .ref a_t_must, .int s_t_rowMany, .int s_t_mustMany, .ref a_t_sorts, .ref a_t_sizes, .ref a_t_sheets, .ref a_t_holds, .ref a_t_heldNumber, .ref a_t_heldSize, .int s_t_kind, .int s_t_number, .int s_t_own, .ref a_t_traced, .int s_t_bodies, .int s_t_isParted, .int s_t_isKept, .ref a_t_keptRow, .int s_t_movedTo, .ref a_t_single])), (a_t_stand, .inl (cI, 100, .inl v_t_stand))] H → va_D A [(a_t, .inr (7, [.ref a_t_stand, .ref a_t_on, .ref a_t_marks, .int s_t_villages, .int s_t_held, .ref a_t_rule, .int s_t_z, .ref a_t_tape, .int s_t_tapeMany, .int s_t_sort, .int s_t_begins, .int s_t_tokenEnds, .long s_t_word, .int s_t_value, .int s_t_good, .int s_t_freshVillages, .int s_t_freshHeld, .ref a_t_freshStand, .ref a_t_freshMarks, .ref a_t_freshRule, .ref a_t_shares, .ref a_t_said, .ref a_t_rows, .ref a_t_must, .int s_t_rowMany, .int s_t_mustMany, .ref a_t_sorts, .ref a_t_sizes, .ref a_t_sheets, .ref a_t_holds, .ref a_t_heldNumber, .ref a_t_heldSize, .int s_t_kind, .int s_t_number, .int s_t_own, .ref a_t_traced, .int s_t_bodies, .int s_t_isParted, .int s_t_isKept, .ref a_t_keptRow, .int s_t_movedTo, .ref a_t_single])), (a_t_stand, .inl (cI, 100, .inl v_t_stand))] → va_S A s.heap H locs → lv_has ls 3 [(0, .ref a_t), (1, .int x1_1), (2, .int x2_2)] → (∀ (H : Heap) (locs : List Loc) (ls : Array Slot), va_P D vwCl [(a_t, .inr (7, [.ref a_t_stand, .ref a_t_on, .ref a_t_marks, .int s_t_villages, .int s_t_held, .ref a_t_rule, .int s_t_z, .ref a_t_tape, .int s_t_tapeMany, .int s_t_sort, .int s_t_begins, .int s_t_tokenEnds, .long s_t_word, .int s_t_value, .int s_t_good, .int s_t_freshVillages, .int s_t_freshHeld, .ref a_t_freshStand, .ref a_t_freshMarks, .ref a_t_freshRule, .ref a_t_shares, .ref a_t_said, .ref a_t_rows, .ref a_t_must, .int s_t_rowMany, .int s_t_mustMany, .ref a_t_sorts, .ref a_t_sizes, .ref a_t_sheets, .ref a_t_holds, .ref a_t_heldNumber, .ref a_t_heldSize, .int s_t_kind, .int s_t_number, .int s_t_own, .ref a_t_traced, .int s_t_bodies, .int s_t_isParted, .int s_t_isKept, .ref a_t_keptRow, .int s_t_movedTo, .ref a_t_single])), (a_t_stand, .inl (cI, 100, .inl v_t_stand))] H → va_D A [(a_t, .inr (7, [.ref a_t_stand, .ref a_t_on, .ref a_t_marks, .int s_t_villages, .int s_t_held, .ref a_t_rule, .int s_t_z, .ref a_t_tape, .int s_t_tapeMany, .int s_t_sort, .int s_t_begins, .int s_t_tokenEnds, .long s_t_word, .int s_t_value, .int s_t_good, .int s_t_freshVillages, .int s_t_freshHeld, .ref a_t_freshStand, .ref a_t_freshMarks, .ref a_t_freshRule, .ref a_t_shares, .ref a_t_said, .ref a_t_rows, .ref a_t_must, .int s_t_rowMany, .int s_t_mustMany, .ref a_t_sorts, .ref a_t_sizes, .ref a_t_sheets, .ref a_t_holds, .ref a_t_heldNumber, .ref a_t_heldSize, .int s_t_kind, .int s_t_number, .int s_t_own, .ref a_t_traced, .int s_t_bodies, .int s_t_isParted, .int s_t_isKept, .ref a_t_keptRow, .int s_t_movedTo, .ref a_t_single])), (a_t_stand, .inl (cI, 100, .inl v_t_stand))] → va_S A s.heap H locs → lv_has ls 3 [(1, .int y1_3)] → W p l e rmX7_toldMany s m args below meth c H locs 0 0 Q (F0 m 33 ls [])) → W p l e rmX7_toldMany s m args below meth c H locs 0 0 Q (F0 m 4 ls []) := by
    intro n
    induction n with
    | zero => intro x1_1 x2_2 y1_3 hF; exact (no_some hF).elim
    | succ n ih =>
      intro x1_1 x2_2 y1_3 hF H locs ls hP hD hS hl kexit
      rw [f_X7_toldMany_L4] at hF
      refine lv_iload_n hx hb dX7_toldMany_4 rfl (lv_at hl 2 rfl) ?_
      refine lv_bipush (v := (24 : Int32)) hx hb dX7_toldMany_5 (by decide) ?_
      refine lv_icmp_ge (tgt := 33) hx hb dX7_toldMany_7 (by decide) (fun c_4 => ?_) (fun c_4 => ?_)
      · replace hF := if_t c_4 hF
        obtain rfl := Option.some.inj hF
        exact kexit _ _ _ hP hD hS (lv_sub hl [1] rfl)
      · replace hF := if_f c_4 hF
        refine lv_iload_n hx hb dX7_toldMany_10 rfl (lv_at hl 1 rfl) ?_
        refine lv_aload_n hx hb dX7_toldMany_11 rfl (lv_at hl 0 rfl) ?_
        refine xget (ci := 7) (C := RX7) (T := TX7) (N := 42) hfix xiX7 hK.1 hP 0 rfl rfl 0 (by decide) rfl xw_688 rfl dX7_toldMany_12 ?_
        refine lv_iload_n hx hb dX7_toldMany_15 rfl (lv_at hl 2 rfl) ?_
        obtain ⟨c_5, hF⟩ := gd_e hF
        refine va_iald hx hb hK.1 hP 1 0 rfl rfl c_5 dX7_toldMany_16 ?_
        refine lv_if_lt (tgt := 24) hx hb dX7_toldMany_17 (by decide) (fun c_6 => ?_) (fun c_6 => ?_)
        · replace hF := if_t c_6 hF
          refine lv_iconst (v := (0 : Int32)) hx hb dX7_toldMany_24 (by decide) ?_
          refine lv_iadd hx hb dX7_toldMany_25 ?_
          refine lv_istore_n (lv' := [(1, .int (x1_1 + (0 : Int32))), (0, .ref a_t), (2, .int x2_2)]) hx hb dX7_toldMany_26 rfl hl (by decide) rfl (fun ls hl => ?_)
          refine lv_iinc (v := (x2_2 + (1 : Int32))) (lv' := [(2, .int (x2_2 + (1 : Int32))), (1, .int (x1_1 + (0 : Int32))), (0, .ref a_t)]) hx hb dX7_toldMany_27 hl (k := 2) rfl rfl (by decide) rfl (fun ls hl => ?_)
          refine lv_goto (tgt := 4) hx hb dX7_toldMany_30 (by decide) ?_
          exact ih _ _ _ hF _ _ _ hP hD hS (lv_sub hl [2, 1, 0] rfl) kexit
        · replace hF := if_f c_6 hF
          refine lv_iconst (v := (1 : Int32)) hx hb dX7_toldMany_20 (by decide) ?_
          refine lv_goto (tgt := 25) hx hb dX7_toldMany_21 (by decide) ?_
          refine lv_iadd hx hb dX7_toldMany_25 ?_
          refine lv_istore_n (lv' := [(1, .int (x1_1 + (1 : Int32))), (0, .ref a_t), (2, .int x2_2)]) hx hb dX7_toldMany_26 rfl hl (by decide) rfl (fun ls hl => ?_)
          refine lv_iinc (v := (x2_2 + (1 : Int32))) (lv' := [(2, .int (x2_2 + (1 : Int32))), (1, .int (x1_1 + (1 : Int32))), (0, .ref a_t)]) hx hb dX7_toldMany_27 hl (k := 2) rfl rfl (by decide) rfl (fun ls hl => ?_)
          refine lv_goto (tgt := 4) hx hb dX7_toldMany_30 (by decide) ?_
          exact ih _ _ _ hF _ _ _ hP hD hS (lv_sub hl [2, 1, 0] rfl) kexit
  obtain ⟨y1_3, hq, hF⟩ := bd1_e hF
  refine hL_4 _ _ _ _ hq _ _ _ hP hD hS (lv_sub hl [2, 1, 0] rfl) (fun H locs ls hP hD hS hl => ?_)
  refine lv_iload_n hx hb dX7_toldMany_33 rfl (lv_at hl 0 rfl) ?_
  obtain rfl := Option.some.inj hF
  exact hEnd _ _ _ _ _ dX7_toldMany_34 hP hS rfl
def f_X7_last_L4 (v_t_stand : (Nat → Int32)) : Nat → Int32 → Int32 → Option (Int32)
  | 0, _, _ => none
  | n + 1, x1_1, x2_2 => (if (24 : Int32) ≤ x2_2 then some (x1_1) else gd x2_2 100 ((if (v_t_stand x2_2.toNatClampNeg) < (0 : Int32) then f_X7_last_L4 v_t_stand n x1_1 (x2_2 + (1 : Int32)) else f_X7_last_L4 v_t_stand n (x2_2 + (1 : Int32)) (x2_2 + (1 : Int32)))))
def f_X7_last (v_t_stand : (Nat → Int32)) : Option (Int32) := bd1 (f_X7_last_L4 v_t_stand 1000 (0 : Int32) (0 : Int32)) (fun (y1_3 : Int32) => some (y1_3))
abbrev rmX7_last : Room := { frames := 0, cells := 0, slots := 0, locals := 0 }
set_option maxHeartbeats 400000 in
set_option maxRecDepth 100000 in
theorem c_X7_last (l : Launch) (D : va_G) (cI cB cJ : ClassId) (a_t : Nat) (a_t_stand : Nat) (a_t_on : Nat) (a_t_marks : Nat) (a_t_rule : Nat) (a_t_tape : Nat) (a_t_freshStand : Nat) (a_t_freshMarks : Nat) (a_t_freshRule : Nat) (a_t_shares : Nat) (a_t_said : Nat) (a_t_rows : Nat) (a_t_must : Nat) (a_t_sorts : Nat) (a_t_sizes : Nat) (a_t_sheets : Nat) (a_t_holds : Nat) (a_t_heldNumber : Nat) (a_t_heldSize : Nat) (a_t_traced : Nat) (a_t_keptRow : Nat) (a_t_single : Nat) (sz : Nat) (s_t_villages : Int32) (s_t_held : Int32) (s_t_z : Int32) (s_t_tapeMany : Int32) (s_t_sort : Int32) (s_t_begins : Int32) (s_t_tokenEnds : Int32) (s_t_word : Int64) (s_t_value : Int32) (s_t_good : Int32) (s_t_freshVillages : Int32) (s_t_freshHeld : Int32) (s_t_rowMany : Int32) (s_t_mustMany : Int32) (s_t_kind : Int32) (s_t_number : Int32) (s_t_own : Int32) (s_t_bodies : Int32) (s_t_isParted : Int32) (s_t_isKept : Int32) (s_t_movedTo : Int32) (v_t_stand : (Nat → Int32)) (r : Int32) (hF : f_X7_last v_t_stand = some r) : xMi l yX7_last (.code yX7_last cX7_last 3 (some .int) :: xU) rmX7_last (xK D cI cB cJ) D sz [.ref a_t] [(a_t, .inr (7, [.ref a_t_stand, .ref a_t_on, .ref a_t_marks, .int s_t_villages, .int s_t_held, .ref a_t_rule, .int s_t_z, .ref a_t_tape, .int s_t_tapeMany, .int s_t_sort, .int s_t_begins, .int s_t_tokenEnds, .long s_t_word, .int s_t_value, .int s_t_good, .int s_t_freshVillages, .int s_t_freshHeld, .ref a_t_freshStand, .ref a_t_freshMarks, .ref a_t_freshRule, .ref a_t_shares, .ref a_t_said, .ref a_t_rows, .ref a_t_must, .int s_t_rowMany, .int s_t_mustMany, .ref a_t_sorts, .ref a_t_sizes, .ref a_t_sheets, .ref a_t_holds, .ref a_t_heldNumber, .ref a_t_heldSize, .int s_t_kind, .int s_t_number, .int s_t_own, .ref a_t_traced, .int s_t_bodies, .int s_t_isParted, .int s_t_isKept, .ref a_t_keptRow, .int s_t_movedTo, .ref a_t_single])), (a_t_stand, .inl (cI, 100, .inl v_t_stand))] [(a_t, .inr (7, [.ref a_t_stand, .ref a_t_on, .ref a_t_marks, .int s_t_villages, .int s_t_held, .ref a_t_rule, .int s_t_z, .ref a_t_tape, .int s_t_tapeMany, .int s_t_sort, .int s_t_begins, .int s_t_tokenEnds, .long s_t_word, .int s_t_value, .int s_t_good, .int s_t_freshVillages, .int s_t_freshHeld, .ref a_t_freshStand, .ref a_t_freshMarks, .ref a_t_freshRule, .ref a_t_shares, .ref a_t_said, .ref a_t_rows, .ref a_t_must, .int s_t_rowMany, .int s_t_mustMany, .ref a_t_sorts, .ref a_t_sizes, .ref a_t_sheets, .ref a_t_holds, .ref a_t_heldNumber, .ref a_t_heldSize, .int s_t_kind, .int s_t_number, .int s_t_own, .ref a_t_traced, .int s_t_bodies, .int s_t_isParted, .int s_t_isKept, .ref a_t_keptRow, .int s_t_movedTo, .ref a_t_single])), (a_t_stand, .inl (cI, 100, .inl v_t_stand))] r := by
  refine xMi.mk (own := "FairNextModel") (by decide +kernel) rfl (Nat.le_of_ble_eq_true rfl) ?_
  intro p e s m args below meth c A Q ls H hfix hK hP hD hA hS hl hEnd
  obtain ⟨hx, hb, hml, hown, hts⟩ := id hfix
  have hl : lv_has ls 3 [(0, .ref a_t)] := hl
  rw [f_X7_last] at hF
  refine lv_iconst (v := (0 : Int32)) hx hb dX7_last_0 (by decide) ?_
  refine lv_istore_n (lv' := [(1, .int (0 : Int32)), (0, .ref a_t)]) hx hb dX7_last_1 rfl hl (by decide) rfl (fun ls hl => ?_)
  refine lv_iconst (v := (0 : Int32)) hx hb dX7_last_2 (by decide) ?_
  refine lv_istore_n (lv' := [(2, .int (0 : Int32)), (1, .int (0 : Int32)), (0, .ref a_t)]) hx hb dX7_last_3 rfl hl (by decide) rfl (fun ls hl => ?_)
  have hL_4 : ∀ (n : Nat) (x1_1 : Int32) (x2_2 : Int32) (y1_3 : Int32), f_X7_last_L4 v_t_stand n x1_1 x2_2 = some y1_3 → ∀ (H : Heap) (locs : List Loc) (ls : Array Slot), va_P D vwCl [(a_t, .inr (7, [.ref a_t_stand, .ref a_t_on, .ref a_t_marks, .int s_t_villages, .int s_t_held, .ref a_t_rule, .int s_t_z, .ref a_t_tape, .int s_t_tapeMany, .int s_t_sort, .int s_t_begins, .int s_t_tokenEnds, .long s_t_word, .int s_t_value, .int s_t_good, .int s_t_freshVillages, .int s_t_freshHeld, .ref a_t_freshStand, .ref a_t_freshMarks, .ref a_t_freshRule, .ref a_t_shares, .ref a_t_said, .ref a_t_rows, .ref a_t_must, .int s_t_rowMany, .int s_t_mustMany, .ref a_t_sorts, .ref a_t_sizes, .ref a_t_sheets, .ref a_t_holds, .ref a_t_heldNumber, .ref a_t_heldSize, .int s_t_kind, .int s_t_number, .int s_t_own, .ref a_t_traced, .int s_t_bodies, .int s_t_isParted, .int s_t_isKept, .ref a_t_keptRow, .int s_t_movedTo, .ref a_t_single])), (a_t_stand, .inl (cI, 100, .inl v_t_stand))] H → va_D A [(a_t, .inr (7, [.ref a_t_stand, .ref a_t_on, .ref a_t_marks, .int s_t_villages, .int s_t_held, .ref a_t_rule, .int s_t_z, .ref a_t_tape, .int s_t_tapeMany, .int s_t_sort, .int s_t_begins, .int s_t_tokenEnds, .long s_t_word, .int s_t_value, .int s_t_good, .int s_t_freshVillages, .int s_t_freshHeld, .ref a_t_freshStand, .ref a_t_freshMarks, .ref a_t_freshRule, .ref a_t_shares, .ref a_t_said, .ref a_t_rows, .ref a_t_must, .int s_t_rowMany, .int s_t_mustMany, .ref a_t_sorts, .ref a_t_sizes, .ref a_t_sheets, .ref a_t_holds, .ref a_t_heldNumber, .ref a_t_heldSize, .int s_t_kind, .int s_t_number, .int s_t_own, .ref a_t_traced, .int s_t_bodies, .int s_t_isParted, .int s_t_isKept, .ref a_t_keptRow, .int s_t_movedTo, .ref a_t_single])), (a_t_stand, .inl (cI, 100, .inl v_t_stand))] → va_S A s.heap H locs → lv_has ls 3 [(0, .ref a_t), (1, .int x1_1), (2, .int x2_2)] → (∀ (H : Heap) (locs : List Loc) (ls : Array Slot), va_P D vwCl [(a_t, .inr (7, [.ref a_t_stand, .ref a_t_on, .ref a_t_marks, .int s_t_villages, .int s_t_held, .ref a_t_rule, .int s_t_z, .ref a_t_tape, .int s_t_tapeMany, .int s_t_sort, .int s_t_begins, .int s_t_tokenEnds, .long s_t_word, .int s_t_value, .int s_t_good, .int s_t_freshVillages, .int s_t_freshHeld, .ref a_t_freshStand, .ref a_t_freshMarks, .ref a_t_freshRule, .ref a_t_shares, .ref a_t_said, .ref a_t_rows, .ref a_t_must, .int s_t_rowMany, .int s_t_mustMany, .ref a_t_sorts, .ref a_t_sizes, .ref a_t_sheets, .ref a_t_holds, .ref a_t_heldNumber, .ref a_t_heldSize, .int s_t_kind, .int s_t_number, .int s_t_own, .ref a_t_traced, .int s_t_bodies, .int s_t_isParted, .int s_t_isKept, .ref a_t_keptRow, .int s_t_movedTo, .ref a_t_single])), (a_t_stand, .inl (cI, 100, .inl v_t_stand))] H → va_D A [(a_t, .inr (7, [.ref a_t_stand, .ref a_t_on, .ref a_t_marks, .int s_t_villages, .int s_t_held, .ref a_t_rule, .int s_t_z, .ref a_t_tape, .int s_t_tapeMany, .int s_t_sort, .int s_t_begins, .int s_t_tokenEnds, .long s_t_word, .int s_t_value, .int s_t_good, .int s_t_freshVillages, .int s_t_freshHeld, .ref a_t_freshStand, .ref a_t_freshMarks, .ref a_t_freshRule, .ref a_t_shares, .ref a_t_said, .ref a_t_rows, .ref a_t_must, .int s_t_rowMany, .int s_t_mustMany, .ref a_t_sorts, .ref a_t_sizes, .ref a_t_sheets, .ref a_t_holds, .ref a_t_heldNumber, .ref a_t_heldSize, .int s_t_kind, .int s_t_number, .int s_t_own, .ref a_t_traced, .int s_t_bodies, .int s_t_isParted, .int s_t_isKept, .ref a_t_keptRow, .int s_t_movedTo, .ref a_t_single])), (a_t_stand, .inl (cI, 100, .inl v_t_stand))] → va_S A s.heap H locs → lv_has ls 3 [(1, .int y1_3)] → W p l e rmX7_last s m args below meth c H locs 0 0 Q (F0 m 33 ls [])) → W p l e rmX7_last s m args below meth c H locs 0 0 Q (F0 m 4 ls []) := by
    intro n
    induction n with
    | zero => intro x1_1 x2_2 y1_3 hF; exact (no_some hF).elim
    | succ n ih =>
      intro x1_1 x2_2 y1_3 hF H locs ls hP hD hS hl kexit
      rw [f_X7_last_L4] at hF
      refine lv_iload_n hx hb dX7_last_4 rfl (lv_at hl 2 rfl) ?_
      refine lv_bipush (v := (24 : Int32)) hx hb dX7_last_5 (by decide) ?_
      refine lv_icmp_ge (tgt := 33) hx hb dX7_last_7 (by decide) (fun c_4 => ?_) (fun c_4 => ?_)
      · replace hF := if_t c_4 hF
        obtain rfl := Option.some.inj hF
        exact kexit _ _ _ hP hD hS (lv_sub hl [1] rfl)
      · replace hF := if_f c_4 hF
        refine lv_aload_n hx hb dX7_last_10 rfl (lv_at hl 0 rfl) ?_
        refine xget (ci := 7) (C := RX7) (T := TX7) (N := 42) hfix xiX7 hK.1 hP 0 rfl rfl 0 (by decide) rfl xw_688 rfl dX7_last_11 ?_
        refine lv_iload_n hx hb dX7_last_14 rfl (lv_at hl 2 rfl) ?_
        obtain ⟨c_5, hF⟩ := gd_e hF
        refine va_iald hx hb hK.1 hP 1 0 rfl rfl c_5 dX7_last_15 ?_
        refine lv_if_lt (tgt := 25) hx hb dX7_last_16 (by decide) (fun c_6 => ?_) (fun c_6 => ?_)
        · replace hF := if_t c_6 hF
          refine lv_iload_n hx hb dX7_last_25 rfl (lv_at hl 1 rfl) ?_
          refine lv_istore_n (lv' := [(1, .int x1_1), (0, .ref a_t), (2, .int x2_2)]) hx hb dX7_last_26 rfl hl (by decide) rfl (fun ls hl => ?_)
          refine lv_iinc (v := (x2_2 + (1 : Int32))) (lv' := [(2, .int (x2_2 + (1 : Int32))), (1, .int x1_1), (0, .ref a_t)]) hx hb dX7_last_27 hl (k := 2) rfl rfl (by decide) rfl (fun ls hl => ?_)
          refine lv_goto (tgt := 4) hx hb dX7_last_30 (by decide) ?_
          exact ih _ _ _ hF _ _ _ hP hD hS (lv_sub hl [2, 1, 0] rfl) kexit
        · replace hF := if_f c_6 hF
          refine lv_iload_n hx hb dX7_last_19 rfl (lv_at hl 2 rfl) ?_
          refine lv_iconst (v := (1 : Int32)) hx hb dX7_last_20 (by decide) ?_
          refine lv_iadd hx hb dX7_last_21 ?_
          refine lv_goto (tgt := 26) hx hb dX7_last_22 (by decide) ?_
          refine lv_istore_n (lv' := [(1, .int (x2_2 + (1 : Int32))), (0, .ref a_t), (2, .int x2_2)]) hx hb dX7_last_26 rfl hl (by decide) rfl (fun ls hl => ?_)
          refine lv_iinc (v := (x2_2 + (1 : Int32))) (lv' := [(2, .int (x2_2 + (1 : Int32))), (1, .int (x2_2 + (1 : Int32))), (0, .ref a_t)]) hx hb dX7_last_27 hl (k := 2) rfl rfl (by decide) rfl (fun ls hl => ?_)
          refine lv_goto (tgt := 4) hx hb dX7_last_30 (by decide) ?_
          exact ih _ _ _ hF _ _ _ hP hD hS (lv_sub hl [2, 1, 0] rfl) kexit
  obtain ⟨y1_3, hq, hF⟩ := bd1_e hF
  refine hL_4 _ _ _ _ hq _ _ _ hP hD hS (lv_sub hl [2, 1, 0] rfl) (fun H locs ls hP hD hS hl => ?_)
  refine lv_iload_n hx hb dX7_last_33 rfl (lv_at hl 0 rfl) ?_
  obtain rfl := Option.some.inj hF
  exact hEnd _ _ _ _ _ dX7_last_34 hP hS rfl
def f_X7_feed_L30 (i2 : Int32) (i1 : Int64) : Nat → Int32 → Int32 → (Nat → Int32) → Option (Int32 × (Nat → Int32))
  | 0, _, _, _ => none
  | n + 1, x4_4, xs_t_tapeMany_5, xv_t_tape_6 => (if i2 ≤ x4_4 then some ((xs_t_tapeMany_5, xv_t_tape_6)) else gd xs_t_tapeMany_5 200 (f_X7_feed_L30 i2 i1 n (x4_4 + (1 : Int32)) (xs_t_tapeMany_5 + (1 : Int32)) (upd xv_t_tape_6 xs_t_tapeMany_5.toNatClampNeg (((i1 >>> ((((8 : Int32) * x4_4)).toInt64 &&& 63)) &&& (255 : Int64)).toInt32))))
def f_X7_feed (i1 : Int64) (i2 : Int32) (s_t_tapeMany : Int32) (v_t_tape : (Nat → Int32)) : Option (Int32 × Int32 × (Nat → Int32)) := (if (f_X7_in i2 (1 : Int32) (8 : Int32)) = (0 : Int32) then some (((-1 : Int32), s_t_tapeMany, v_t_tape)) else (if (s_t_tapeMany + i2) ≤ (200 : Int32) then bd2 (f_X7_feed_L30 i2 i1 1000 (0 : Int32) s_t_tapeMany v_t_tape) (fun (ys_t_tapeMany_7 : Int32) (yv_t_tape_8 : (Nat → Int32)) => some ((ys_t_tapeMany_7, ys_t_tapeMany_7, yv_t_tape_8))) else some (((-2 : Int32), s_t_tapeMany, v_t_tape))))
abbrev rmX7_feed : Room := { frames := 1, cells := 0, slots := 0, locals := 22 }
set_option maxHeartbeats 400000 in
set_option maxRecDepth 100000 in
theorem c_X7_feed (l : Launch) (D : va_G) (cI cB cJ : ClassId) (a_t : Nat) (a_t_stand : Nat) (a_t_on : Nat) (a_t_marks : Nat) (a_t_rule : Nat) (a_t_tape : Nat) (a_t_freshStand : Nat) (a_t_freshMarks : Nat) (a_t_freshRule : Nat) (a_t_shares : Nat) (a_t_said : Nat) (a_t_rows : Nat) (a_t_must : Nat) (a_t_sorts : Nat) (a_t_sizes : Nat) (a_t_sheets : Nat) (a_t_holds : Nat) (a_t_heldNumber : Nat) (a_t_heldSize : Nat) (a_t_traced : Nat) (a_t_keptRow : Nat) (a_t_single : Nat) (sz : Nat) (s_t_villages : Int32) (s_t_held : Int32) (s_t_z : Int32) (s_t_tapeMany : Int32) (s_t_sort : Int32) (s_t_begins : Int32) (s_t_tokenEnds : Int32) (s_t_word : Int64) (s_t_value : Int32) (s_t_good : Int32) (s_t_freshVillages : Int32) (s_t_freshHeld : Int32) (s_t_rowMany : Int32) (s_t_mustMany : Int32) (s_t_kind : Int32) (s_t_number : Int32) (s_t_own : Int32) (s_t_bodies : Int32) (s_t_isParted : Int32) (s_t_isKept : Int32) (s_t_movedTo : Int32) (v_t_tape : (Nat → Int32)) (i1 : Int64) (i2 : Int32) (r : Int32) (o_s_t_tapeMany : Int32) (o_v_t_tape : (Nat → Int32)) (hF : f_X7_feed i1 i2 s_t_tapeMany v_t_tape = some (r, o_s_t_tapeMany, o_v_t_tape)) : xMi l yX7_feed (.code yX7_feed cX7_feed 5 (some .int) :: xU) rmX7_feed (xK D cI cB cJ) D sz [.ref a_t, .long i1, .int i2] [(a_t, .inr (7, [.ref a_t_stand, .ref a_t_on, .ref a_t_marks, .int s_t_villages, .int s_t_held, .ref a_t_rule, .int s_t_z, .ref a_t_tape, .int s_t_tapeMany, .int s_t_sort, .int s_t_begins, .int s_t_tokenEnds, .long s_t_word, .int s_t_value, .int s_t_good, .int s_t_freshVillages, .int s_t_freshHeld, .ref a_t_freshStand, .ref a_t_freshMarks, .ref a_t_freshRule, .ref a_t_shares, .ref a_t_said, .ref a_t_rows, .ref a_t_must, .int s_t_rowMany, .int s_t_mustMany, .ref a_t_sorts, .ref a_t_sizes, .ref a_t_sheets, .ref a_t_holds, .ref a_t_heldNumber, .ref a_t_heldSize, .int s_t_kind, .int s_t_number, .int s_t_own, .ref a_t_traced, .int s_t_bodies, .int s_t_isParted, .int s_t_isKept, .ref a_t_keptRow, .int s_t_movedTo, .ref a_t_single])), (a_t_tape, .inl (cI, 200, .inl v_t_tape))] [(a_t, .inr (7, [.ref a_t_stand, .ref a_t_on, .ref a_t_marks, .int s_t_villages, .int s_t_held, .ref a_t_rule, .int s_t_z, .ref a_t_tape, .int o_s_t_tapeMany, .int s_t_sort, .int s_t_begins, .int s_t_tokenEnds, .long s_t_word, .int s_t_value, .int s_t_good, .int s_t_freshVillages, .int s_t_freshHeld, .ref a_t_freshStand, .ref a_t_freshMarks, .ref a_t_freshRule, .ref a_t_shares, .ref a_t_said, .ref a_t_rows, .ref a_t_must, .int s_t_rowMany, .int s_t_mustMany, .ref a_t_sorts, .ref a_t_sizes, .ref a_t_sheets, .ref a_t_holds, .ref a_t_heldNumber, .ref a_t_heldSize, .int s_t_kind, .int s_t_number, .int s_t_own, .ref a_t_traced, .int s_t_bodies, .int s_t_isParted, .int s_t_isKept, .ref a_t_keptRow, .int s_t_movedTo, .ref a_t_single])), (a_t_tape, .inl (cI, 200, .inl o_v_t_tape))] r := by
  refine xMi.mk (own := "FairNextModel") (by decide +kernel) rfl (Nat.le_of_ble_eq_true rfl) ?_
  intro p e s m args below meth c A Q ls H hfix hK hP hD hA hS hl hEnd
  obtain ⟨hx, hb, hml, hown, hts⟩ := id hfix
  have hl : lv_has ls 5 [(0, .ref a_t), (1, .long i1), (3, .int i2)] := hl
  rw [f_X7_feed] at hF
  refine lv_iload_n hx hb dX7_feed_0 rfl (lv_at hl 2 rfl) ?_
  refine lv_iconst (v := (1 : Int32)) hx hb dX7_feed_1 (by decide) ?_
  refine lv_bipush (v := (8 : Int32)) hx hb dX7_feed_2 (by decide) ?_
  refine xrz0 (xrunS (As := [.int i2, .int (1 : Int32), .int (8 : Int32)]) (rest := []) (c_X7_in l D cI cB cJ _ i2 (1 : Int32) (8 : Int32) (f_X7_in i2 (1 : Int32) (8 : Int32)) rfl) hfix xw_819 ys_X7_in ⟨rfl, rfl⟩ ⟨(Nat.le_of_ble_eq_true rfl), (Nat.le_of_ble_eq_true rfl)⟩ xKk_K (fun U hU hW => xK.warm hW hK) hP hD [] rfl rfl rfl hl.1 rfl (Nat.le_of_ble_eq_true rfl) dX7_feed_4 ⟨Nat.zero_le _, Nat.zero_le _⟩) hP hD hS hA [] rfl rfl (fun H locs hP hD hS hz_1 => ?_)
  refine lv_if_ne (tgt := 12) hx hb dX7_feed_7 (by decide) (fun c_2 => ?_) (fun c_2 => ?_)
  · replace hF := if_f c_2 hF
    refine lv_aload_n hx hb dX7_feed_12 rfl (lv_at hl 0 rfl) ?_
    refine xget (ci := 7) (C := RX7) (T := TX7) (N := 42) hfix xiX7 hK.1 hP 0 rfl rfl 8 (by decide) rfl xw_696 rfl dX7_feed_13 ?_
    refine lv_iload_n hx hb dX7_feed_16 rfl (lv_at hl 2 rfl) ?_
    refine lv_iadd hx hb dX7_feed_17 ?_
    refine lv_sipush (v := (200 : Int32)) hx hb dX7_feed_18 (by decide) ?_
    refine lv_icmp_le (tgt := 27) hx hb dX7_feed_21 (by decide) (fun c_3 => ?_) (fun c_3 => ?_)
    · replace hF := if_t c_3 hF
      refine lv_iconst (v := (0 : Int32)) hx hb dX7_feed_27 (by decide) ?_
      refine lv_istore (lv' := [(4, .int (0 : Int32)), (0, .ref a_t), (1, .long i1), (3, .int i2)]) hx hb dX7_feed_28 hl (by decide) rfl (fun ls hl => ?_)
      have hL_30 : ∀ (n : Nat) (x4_4 : Int32) (xs_t_tapeMany_5 : Int32) (xv_t_tape_6 : (Nat → Int32)) (ys_t_tapeMany_7 : Int32) (yv_t_tape_8 : (Nat → Int32)), f_X7_feed_L30 i2 i1 n x4_4 xs_t_tapeMany_5 xv_t_tape_6 = some (ys_t_tapeMany_7, yv_t_tape_8) → ∀ (H : Heap) (locs : List Loc) (ls : Array Slot), va_P D vwCl [(a_t, .inr (7, [.ref a_t_stand, .ref a_t_on, .ref a_t_marks, .int s_t_villages, .int s_t_held, .ref a_t_rule, .int s_t_z, .ref a_t_tape, .int xs_t_tapeMany_5, .int s_t_sort, .int s_t_begins, .int s_t_tokenEnds, .long s_t_word, .int s_t_value, .int s_t_good, .int s_t_freshVillages, .int s_t_freshHeld, .ref a_t_freshStand, .ref a_t_freshMarks, .ref a_t_freshRule, .ref a_t_shares, .ref a_t_said, .ref a_t_rows, .ref a_t_must, .int s_t_rowMany, .int s_t_mustMany, .ref a_t_sorts, .ref a_t_sizes, .ref a_t_sheets, .ref a_t_holds, .ref a_t_heldNumber, .ref a_t_heldSize, .int s_t_kind, .int s_t_number, .int s_t_own, .ref a_t_traced, .int s_t_bodies, .int s_t_isParted, .int s_t_isKept, .ref a_t_keptRow, .int s_t_movedTo, .ref a_t_single])), (a_t_tape, .inl (cI, 200, .inl xv_t_tape_6))] H → va_D A [(a_t, .inr (7, [.ref a_t_stand, .ref a_t_on, .ref a_t_marks, .int s_t_villages, .int s_t_held, .ref a_t_rule, .int s_t_z, .ref a_t_tape, .int xs_t_tapeMany_5, .int s_t_sort, .int s_t_begins, .int s_t_tokenEnds, .long s_t_word, .int s_t_value, .int s_t_good, .int s_t_freshVillages, .int s_t_freshHeld, .ref a_t_freshStand, .ref a_t_freshMarks, .ref a_t_freshRule, .ref a_t_shares, .ref a_t_said, .ref a_t_rows, .ref a_t_must, .int s_t_rowMany, .int s_t_mustMany, .ref a_t_sorts, .ref a_t_sizes, .ref a_t_sheets, .ref a_t_holds, .ref a_t_heldNumber, .ref a_t_heldSize, .int s_t_kind, .int s_t_number, .int s_t_own, .ref a_t_traced, .int s_t_bodies, .int s_t_isParted, .int s_t_isKept, .ref a_t_keptRow, .int s_t_movedTo, .ref a_t_single])), (a_t_tape, .inl (cI, 200, .inl xv_t_tape_6))] → va_S A s.heap H locs → lv_has ls 5 [(0, .ref a_t), (1, .long i1), (3, .int i2), (4, .int x4_4)] → (∀ (H : Heap) (locs : List Loc) (ls : Array Slot), va_P D vwCl [(a_t, .inr (7, [.ref a_t_stand, .ref a_t_on, .ref a_t_marks, .int s_t_villages, .int s_t_held, .ref a_t_rule, .int s_t_z, .ref a_t_tape, .int ys_t_tapeMany_7, .int s_t_sort, .int s_t_begins, .int s_t_tokenEnds, .long s_t_word, .int s_t_value, .int s_t_good, .int s_t_freshVillages, .int s_t_freshHeld, .ref a_t_freshStand, .ref a_t_freshMarks, .ref a_t_freshRule, .ref a_t_shares, .ref a_t_said, .ref a_t_rows, .ref a_t_must, .int s_t_rowMany, .int s_t_mustMany, .ref a_t_sorts, .ref a_t_sizes, .ref a_t_sheets, .ref a_t_holds, .ref a_t_heldNumber, .ref a_t_heldSize, .int s_t_kind, .int s_t_number, .int s_t_own, .ref a_t_traced, .int s_t_bodies, .int s_t_isParted, .int s_t_isKept, .ref a_t_keptRow, .int s_t_movedTo, .ref a_t_single])), (a_t_tape, .inl (cI, 200, .inl yv_t_tape_8))] H → va_D A [(a_t, .inr (7, [.ref a_t_stand, .ref a_t_on, .ref a_t_marks, .int s_t_villages, .int s_t_held, .ref a_t_rule, .int s_t_z, .ref a_t_tape, .int ys_t_tapeMany_7, .int s_t_sort, .int s_t_begins, .int s_t_tokenEnds, .long s_t_word, .int s_t_value, .int s_t_good, .int s_t_freshVillages, .int s_t_freshHeld, .ref a_t_freshStand, .ref a_t_freshMarks, .ref a_t_freshRule, .ref a_t_shares, .ref a_t_said, .ref a_t_rows, .ref a_t_must, .int s_t_rowMany, .int s_t_mustMany, .ref a_t_sorts, .ref a_t_sizes, .ref a_t_sheets, .ref a_t_holds, .ref a_t_heldNumber, .ref a_t_heldSize, .int s_t_kind, .int s_t_number, .int s_t_own, .ref a_t_traced, .int s_t_bodies, .int s_t_isParted, .int s_t_isKept, .ref a_t_keptRow, .int s_t_movedTo, .ref a_t_single])), (a_t_tape, .inl (cI, 200, .inl yv_t_tape_8))] → va_S A s.heap H locs → lv_has ls 5 [(0, .ref a_t)] → W p l e rmX7_feed s m args below meth c H locs 0 0 Q (F0 m 73 ls [])) → W p l e rmX7_feed s m args below meth c H locs 0 0 Q (F0 m 30 ls []) := by
        intro n
        induction n with
        | zero => intro x4_4 xs_t_tapeMany_5 xv_t_tape_6 ys_t_tapeMany_7 yv_t_tape_8 hF; exact (no_some hF).elim
        | succ n ih =>
          intro x4_4 xs_t_tapeMany_5 xv_t_tape_6 ys_t_tapeMany_7 yv_t_tape_8 hF H locs ls hP hD hS hl kexit
          rw [f_X7_feed_L30] at hF
          refine lv_iload hx hb dX7_feed_30 (lv_at hl 3 rfl) ?_
          refine lv_iload_n hx hb dX7_feed_32 rfl (lv_at hl 2 rfl) ?_
          refine lv_icmp_ge (tgt := 73) hx hb dX7_feed_33 (by decide) (fun c_9 => ?_) (fun c_9 => ?_)
          · replace hF := if_t c_9 hF
            obtain ⟨rfl, rfl⟩ := pj2 hF
            exact kexit _ _ _ hP hD hS (lv_sub hl [0] rfl)
          · replace hF := if_f c_9 hF
            refine lv_aload_n hx hb dX7_feed_36 rfl (lv_at hl 0 rfl) ?_
            refine xget (ci := 7) (C := RX7) (T := TX7) (N := 42) hfix xiX7 hK.1 hP 0 rfl rfl 7 (by decide) rfl xw_695 rfl dX7_feed_37 ?_
            refine lv_aload_n hx hb dX7_feed_40 rfl (lv_at hl 0 rfl) ?_
            refine xget (ci := 7) (C := RX7) (T := TX7) (N := 42) hfix xiX7 hK.1 hP 0 rfl rfl 8 (by decide) rfl xw_696 rfl dX7_feed_41 ?_
            refine lv_lload_n hx hb dX7_feed_44 rfl (lv_at hl 1 rfl) ?_
            refine lv_bipush (v := (8 : Int32)) hx hb dX7_feed_45 (by decide) ?_
            refine lv_iload hx hb dX7_feed_47 (lv_at hl 3 rfl) ?_
            refine lv_imul hx hb dX7_feed_49 ?_
            refine lv_lshr (v := (i1 >>> ((((8 : Int32) * x4_4)).toInt64 &&& 63))) hx hb dX7_feed_50 rfl ?_
            refine lv_ldc2 (v := (255 : Int64)) hx hb hown (hts _ (List.mem_cons_of_mem _ xk_822)) dX7_feed_51 ?_
            refine lv_land hx hb dX7_feed_54 ?_
            refine lv_l2i (v := (((i1 >>> ((((8 : Int32) * x4_4)).toInt64 &&& 63)) &&& (255 : Int64)).toInt32)) hx hb dX7_feed_55 rfl ?_
            obtain ⟨c_10, hF⟩ := gd_e hF
            refine va_iast hx hb hK.1 hP hD hS 1 0 rfl rfl c_10 dX7_feed_56 (fun H locs hP hD hS => ?_)
            have hP : va_P D vwCl [(a_t, .inr (7, [.ref a_t_stand, .ref a_t_on, .ref a_t_marks, .int s_t_villages, .int s_t_held, .ref a_t_rule, .int s_t_z, .ref a_t_tape, .int xs_t_tapeMany_5, .int s_t_sort, .int s_t_begins, .int s_t_tokenEnds, .long s_t_word, .int s_t_value, .int s_t_good, .int s_t_freshVillages, .int s_t_freshHeld, .ref a_t_freshStand, .ref a_t_freshMarks, .ref a_t_freshRule, .ref a_t_shares, .ref a_t_said, .ref a_t_rows, .ref a_t_must, .int s_t_rowMany, .int s_t_mustMany, .ref a_t_sorts, .ref a_t_sizes, .ref a_t_sheets, .ref a_t_holds, .ref a_t_heldNumber, .ref a_t_heldSize, .int s_t_kind, .int s_t_number, .int s_t_own, .ref a_t_traced, .int s_t_bodies, .int s_t_isParted, .int s_t_isKept, .ref a_t_keptRow, .int s_t_movedTo, .ref a_t_single])), (a_t_tape, .inl (cI, 200, .inl (upd xv_t_tape_6 xs_t_tapeMany_5.toNatClampNeg (((i1 >>> ((((8 : Int32) * x4_4)).toInt64 &&& 63)) &&& (255 : Int64)).toInt32))))] H := hP
            have hD : va_D A [(a_t, .inr (7, [.ref a_t_stand, .ref a_t_on, .ref a_t_marks, .int s_t_villages, .int s_t_held, .ref a_t_rule, .int s_t_z, .ref a_t_tape, .int xs_t_tapeMany_5, .int s_t_sort, .int s_t_begins, .int s_t_tokenEnds, .long s_t_word, .int s_t_value, .int s_t_good, .int s_t_freshVillages, .int s_t_freshHeld, .ref a_t_freshStand, .ref a_t_freshMarks, .ref a_t_freshRule, .ref a_t_shares, .ref a_t_said, .ref a_t_rows, .ref a_t_must, .int s_t_rowMany, .int s_t_mustMany, .ref a_t_sorts, .ref a_t_sizes, .ref a_t_sheets, .ref a_t_holds, .ref a_t_heldNumber, .ref a_t_heldSize, .int s_t_kind, .int s_t_number, .int s_t_own, .ref a_t_traced, .int s_t_bodies, .int s_t_isParted, .int s_t_isKept, .ref a_t_keptRow, .int s_t_movedTo, .ref a_t_single])), (a_t_tape, .inl (cI, 200, .inl (upd xv_t_tape_6 xs_t_tapeMany_5.toNatClampNeg (((i1 >>> ((((8 : Int32) * x4_4)).toInt64 &&& 63)) &&& (255 : Int64)).toInt32))))] := hD
            refine lv_aload_n hx hb dX7_feed_57 rfl (lv_at hl 0 rfl) ?_
            refine lv_dup hx hb dX7_feed_58 rfl ?_
            refine xget (ci := 7) (C := RX7) (T := TX7) (N := 42) hfix xiX7 hK.1 hP 0 rfl rfl 8 (by decide) rfl xw_696 rfl dX7_feed_59 ?_
            refine lv_iconst (v := (1 : Int32)) hx hb dX7_feed_62 (by decide) ?_
            refine lv_iadd hx hb dX7_feed_63 ?_
            refine xput (ci := 7) (C := RX7) (T := TX7) (N := 42) hfix xiX7 tyX7 tyX7_ok nmX7 hK.1 hP hD hS 0 rfl rfl 8 (by decide) rfl rfl xw_696 (ty := .int) rfl rfl rfl (Nat.le_of_ble_eq_true rfl) dX7_feed_64 (wn := [(a_t, .inr (7, [.ref a_t_stand, .ref a_t_on, .ref a_t_marks, .int s_t_villages, .int s_t_held, .ref a_t_rule, .int s_t_z, .ref a_t_tape, .int (xs_t_tapeMany_5 + (1 : Int32)), .int s_t_sort, .int s_t_begins, .int s_t_tokenEnds, .long s_t_word, .int s_t_value, .int s_t_good, .int s_t_freshVillages, .int s_t_freshHeld, .ref a_t_freshStand, .ref a_t_freshMarks, .ref a_t_freshRule, .ref a_t_shares, .ref a_t_said, .ref a_t_rows, .ref a_t_must, .int s_t_rowMany, .int s_t_mustMany, .ref a_t_sorts, .ref a_t_sizes, .ref a_t_sheets, .ref a_t_holds, .ref a_t_heldNumber, .ref a_t_heldSize, .int s_t_kind, .int s_t_number, .int s_t_own, .ref a_t_traced, .int s_t_bodies, .int s_t_isParted, .int s_t_isKept, .ref a_t_keptRow, .int s_t_movedTo, .ref a_t_single])), (a_t_tape, .inl (cI, 200, .inl (upd xv_t_tape_6 xs_t_tapeMany_5.toNatClampNeg (((i1 >>> ((((8 : Int32) * x4_4)).toInt64 &&& 63)) &&& (255 : Int64)).toInt32))))]) rfl (fun H locs hP hD hS => ?_)
            refine lv_iinc (v := (x4_4 + (1 : Int32))) (lv' := [(4, .int (x4_4 + (1 : Int32))), (0, .ref a_t), (1, .long i1), (3, .int i2)]) hx hb dX7_feed_67 hl (k := 3) rfl rfl (by decide) rfl (fun ls hl => ?_)
            refine lv_goto (tgt := 30) hx hb dX7_feed_70 (by decide) ?_
            exact ih _ _ _ _ _ hF _ _ _ hP hD hS (lv_sub hl [1, 2, 3, 0] rfl) kexit
      obtain ⟨ys_t_tapeMany_7, yv_t_tape_8, hq, hF⟩ := bd2_e hF
      refine hL_30 _ _ _ _ _ _ hq _ _ _ hP hD hS (lv_sub hl [1, 2, 3, 0] rfl) (fun H locs ls hP hD hS hl => ?_)
      refine lv_aload_n hx hb dX7_feed_73 rfl (lv_at hl 0 rfl) ?_
      refine xget (ci := 7) (C := RX7) (T := TX7) (N := 42) hfix xiX7 hK.1 hP 0 rfl rfl 8 (by decide) rfl xw_696 rfl dX7_feed_74 ?_
      obtain ⟨rfl, rfl, rfl⟩ := pj3 hF
      exact hEnd _ _ _ _ _ dX7_feed_77 hP hS rfl
    · replace hF := if_f c_3 hF
      refine lv_bipush (v := (-2 : Int32)) hx hb dX7_feed_24 (by decide) ?_
      obtain ⟨rfl, rfl, rfl⟩ := pj3 hF
      exact hEnd _ _ _ _ _ dX7_feed_26 hP hS rfl
  · replace hF := if_t c_2 hF
    refine lv_iconst (v := (-1 : Int32)) hx hb dX7_feed_10 (by decide) ?_
    obtain ⟨rfl, rfl, rfl⟩ := pj3 hF
    exact hEnd _ _ _ _ _ dX7_feed_11 hP hS rfl
def f_X7_byteAt (i1 : Int32) (s_t_tapeMany : Int32) (v_t_tape : (Nat → Int32)) : Option (Int32) := (if s_t_tapeMany ≤ i1 then some ((-1 : Int32)) else gd i1 200 (some ((v_t_tape i1.toNatClampNeg))))
abbrev rmX7_byteAt : Room := { frames := 0, cells := 0, slots := 0, locals := 0 }
set_option maxHeartbeats 400000 in
set_option maxRecDepth 100000 in
theorem c_X7_byteAt (l : Launch) (D : va_G) (cI cB cJ : ClassId) (a_t : Nat) (a_t_stand : Nat) (a_t_on : Nat) (a_t_marks : Nat) (a_t_rule : Nat) (a_t_tape : Nat) (a_t_freshStand : Nat) (a_t_freshMarks : Nat) (a_t_freshRule : Nat) (a_t_shares : Nat) (a_t_said : Nat) (a_t_rows : Nat) (a_t_must : Nat) (a_t_sorts : Nat) (a_t_sizes : Nat) (a_t_sheets : Nat) (a_t_holds : Nat) (a_t_heldNumber : Nat) (a_t_heldSize : Nat) (a_t_traced : Nat) (a_t_keptRow : Nat) (a_t_single : Nat) (sz : Nat) (s_t_villages : Int32) (s_t_held : Int32) (s_t_z : Int32) (s_t_tapeMany : Int32) (s_t_sort : Int32) (s_t_begins : Int32) (s_t_tokenEnds : Int32) (s_t_word : Int64) (s_t_value : Int32) (s_t_good : Int32) (s_t_freshVillages : Int32) (s_t_freshHeld : Int32) (s_t_rowMany : Int32) (s_t_mustMany : Int32) (s_t_kind : Int32) (s_t_number : Int32) (s_t_own : Int32) (s_t_bodies : Int32) (s_t_isParted : Int32) (s_t_isKept : Int32) (s_t_movedTo : Int32) (v_t_tape : (Nat → Int32)) (i1 : Int32) (r : Int32) (hF : f_X7_byteAt i1 s_t_tapeMany v_t_tape = some r) : xMi l yX7_byteAt (.code yX7_byteAt cX7_byteAt 2 (some .int) :: xU) rmX7_byteAt (xK D cI cB cJ) D sz [.ref a_t, .int i1] [(a_t, .inr (7, [.ref a_t_stand, .ref a_t_on, .ref a_t_marks, .int s_t_villages, .int s_t_held, .ref a_t_rule, .int s_t_z, .ref a_t_tape, .int s_t_tapeMany, .int s_t_sort, .int s_t_begins, .int s_t_tokenEnds, .long s_t_word, .int s_t_value, .int s_t_good, .int s_t_freshVillages, .int s_t_freshHeld, .ref a_t_freshStand, .ref a_t_freshMarks, .ref a_t_freshRule, .ref a_t_shares, .ref a_t_said, .ref a_t_rows, .ref a_t_must, .int s_t_rowMany, .int s_t_mustMany, .ref a_t_sorts, .ref a_t_sizes, .ref a_t_sheets, .ref a_t_holds, .ref a_t_heldNumber, .ref a_t_heldSize, .int s_t_kind, .int s_t_number, .int s_t_own, .ref a_t_traced, .int s_t_bodies, .int s_t_isParted, .int s_t_isKept, .ref a_t_keptRow, .int s_t_movedTo, .ref a_t_single])), (a_t_tape, .inl (cI, 200, .inl v_t_tape))] [(a_t, .inr (7, [.ref a_t_stand, .ref a_t_on, .ref a_t_marks, .int s_t_villages, .int s_t_held, .ref a_t_rule, .int s_t_z, .ref a_t_tape, .int s_t_tapeMany, .int s_t_sort, .int s_t_begins, .int s_t_tokenEnds, .long s_t_word, .int s_t_value, .int s_t_good, .int s_t_freshVillages, .int s_t_freshHeld, .ref a_t_freshStand, .ref a_t_freshMarks, .ref a_t_freshRule, .ref a_t_shares, .ref a_t_said, .ref a_t_rows, .ref a_t_must, .int s_t_rowMany, .int s_t_mustMany, .ref a_t_sorts, .ref a_t_sizes, .ref a_t_sheets, .ref a_t_holds, .ref a_t_heldNumber, .ref a_t_heldSize, .int s_t_kind, .int s_t_number, .int s_t_own, .ref a_t_traced, .int s_t_bodies, .int s_t_isParted, .int s_t_isKept, .ref a_t_keptRow, .int s_t_movedTo, .ref a_t_single])), (a_t_tape, .inl (cI, 200, .inl v_t_tape))] r := by
  refine xMi.mk (own := "FairNextModel") (by decide +kernel) rfl (Nat.le_of_ble_eq_true rfl) ?_
  intro p e s m args below meth c A Q ls H hfix hK hP hD hA hS hl hEnd
  obtain ⟨hx, hb, hml, hown, hts⟩ := id hfix
  have hl : lv_has ls 2 [(0, .ref a_t), (1, .int i1)] := hl
  rw [f_X7_byteAt] at hF
  refine lv_iload_n hx hb dX7_byteAt_0 rfl (lv_at hl 1 rfl) ?_
  refine lv_aload_n hx hb dX7_byteAt_1 rfl (lv_at hl 0 rfl) ?_
  refine xget (ci := 7) (C := RX7) (T := TX7) (N := 42) hfix xiX7 hK.1 hP 0 rfl rfl 8 (by decide) rfl xw_696 rfl dX7_byteAt_2 ?_
  refine lv_icmp_ge (tgt := 17) hx hb dX7_byteAt_5 (by decide) (fun c_1 => ?_) (fun c_1 => ?_)
  · replace hF := if_t c_1 hF
    refine lv_iconst (v := (-1 : Int32)) hx hb dX7_byteAt_17 (by decide) ?_
    obtain rfl := Option.some.inj hF
    exact hEnd _ _ _ _ _ dX7_byteAt_18 hP hS rfl
  · replace hF := if_f c_1 hF
    refine lv_aload_n hx hb dX7_byteAt_8 rfl (lv_at hl 0 rfl) ?_
    refine xget (ci := 7) (C := RX7) (T := TX7) (N := 42) hfix xiX7 hK.1 hP 0 rfl rfl 7 (by decide) rfl xw_695 rfl dX7_byteAt_9 ?_
    refine lv_iload_n hx hb dX7_byteAt_12 rfl (lv_at hl 1 rfl) ?_
    obtain ⟨c_2, hF⟩ := gd_e hF
    refine va_iald hx hb hK.1 hP 1 0 rfl rfl c_2 dX7_byteAt_13 ?_
    refine lv_goto (tgt := 18) hx hb dX7_byteAt_14 (by decide) ?_
    obtain rfl := Option.some.inj hF
    exact hEnd _ _ _ _ _ dX7_byteAt_18 hP hS rfl
def f_X7_isLetter (i1 : Int32) : Int32 := ((f_X7_in i1 (97 : Int32) (122 : Int32)))
abbrev rmX7_isLetter : Room := { frames := 1, cells := 0, slots := 0, locals := 22 }
set_option maxHeartbeats 400000 in
set_option maxRecDepth 100000 in
theorem c_X7_isLetter (l : Launch) (D : va_G) (cI cB cJ : ClassId) (sz : Nat) (i1 : Int32) (r : Int32) (hF : f_X7_isLetter i1 = r) : xMz l yX7_isLetter (.code yX7_isLetter cX7_isLetter 1 (some .boolean) :: xU) rmX7_isLetter (xK D cI cB cJ) D sz [.int i1] [] [] r := by
  refine xMz.mk (own := "FairNextModel") (by decide +kernel) rfl (Nat.le_of_ble_eq_true rfl) ?_
  intro p e s m args below meth c A Q ls H hfix hK hP hD hA hS hl hEnd
  obtain ⟨hx, hb, hml, hown, hts⟩ := id hfix
  have hl : lv_has ls 1 [(0, .int i1)] := hl
  rw [f_X7_isLetter] at hF
  refine lv_iload_n hx hb dX7_isLetter_0 rfl (lv_at hl 0 rfl) ?_
  refine lv_bipush (v := (97 : Int32)) hx hb dX7_isLetter_1 (by decide) ?_
  refine lv_bipush (v := (122 : Int32)) hx hb dX7_isLetter_3 (by decide) ?_
  refine xrz0 (xrunS (As := [.int i1, .int (97 : Int32), .int (122 : Int32)]) (rest := []) (c_X7_in l D cI cB cJ _ i1 (97 : Int32) (122 : Int32) (f_X7_in i1 (97 : Int32) (122 : Int32)) rfl) hfix xw_819 ys_X7_in ⟨rfl, rfl⟩ ⟨(Nat.le_of_ble_eq_true rfl), (Nat.le_of_ble_eq_true rfl)⟩ xKk_K (fun U hU hW => xK.warm hW hK) hP hD [] rfl rfl rfl hl.1 rfl (Nat.le_of_ble_eq_true rfl) dX7_isLetter_5 ⟨Nat.zero_le _, Nat.zero_le _⟩) hP hD hS hA [] rfl rfl (fun H locs hP hD hS hz_1 => ?_)
  subst hF
  exact hEnd _ _ _ _ _ dX7_isLetter_8 hP hS hz_1 rfl
def f_X7_isDigit (i1 : Int32) : Int32 := ((f_X7_in i1 (48 : Int32) (57 : Int32)))
abbrev rmX7_isDigit : Room := { frames := 1, cells := 0, slots := 0, locals := 22 }
set_option maxHeartbeats 400000 in
set_option maxRecDepth 100000 in
theorem c_X7_isDigit (l : Launch) (D : va_G) (cI cB cJ : ClassId) (sz : Nat) (i1 : Int32) (r : Int32) (hF : f_X7_isDigit i1 = r) : xMz l yX7_isDigit (.code yX7_isDigit cX7_isDigit 1 (some .boolean) :: xU) rmX7_isDigit (xK D cI cB cJ) D sz [.int i1] [] [] r := by
  refine xMz.mk (own := "FairNextModel") (by decide +kernel) rfl (Nat.le_of_ble_eq_true rfl) ?_
  intro p e s m args below meth c A Q ls H hfix hK hP hD hA hS hl hEnd
  obtain ⟨hx, hb, hml, hown, hts⟩ := id hfix
  have hl : lv_has ls 1 [(0, .int i1)] := hl
  rw [f_X7_isDigit] at hF
  refine lv_iload_n hx hb dX7_isDigit_0 rfl (lv_at hl 0 rfl) ?_
  refine lv_bipush (v := (48 : Int32)) hx hb dX7_isDigit_1 (by decide) ?_
  refine lv_bipush (v := (57 : Int32)) hx hb dX7_isDigit_3 (by decide) ?_
  refine xrz0 (xrunS (As := [.int i1, .int (48 : Int32), .int (57 : Int32)]) (rest := []) (c_X7_in l D cI cB cJ _ i1 (48 : Int32) (57 : Int32) (f_X7_in i1 (48 : Int32) (57 : Int32)) rfl) hfix xw_819 ys_X7_in ⟨rfl, rfl⟩ ⟨(Nat.le_of_ble_eq_true rfl), (Nat.le_of_ble_eq_true rfl)⟩ xKk_K (fun U hU hW => xK.warm hW hK) hP hD [] rfl rfl rfl hl.1 rfl (Nat.le_of_ble_eq_true rfl) dX7_isDigit_5 ⟨Nat.zero_le _, Nat.zero_le _⟩) hP hD hS hA [] rfl rfl (fun H locs hP hD hS hz_1 => ?_)
  subst hF
  exact hEnd _ _ _ _ _ dX7_isDigit_8 hP hS hz_1 rfl
