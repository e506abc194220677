def f_X7_fewestWords (i1 : Int32) (s_t_villages : Int32) (v_t_stand : (Nat → Int32)) (v_t_marks : (Nat → Int32)) : Option (Int32) := bd1 (f_X7_plainestOf i1 s_t_villages v_t_stand v_t_marks) (fun (r_1 : Int32) => (if (0 : Int32) ≤ r_1 then some ((f_X7_allWords r_1)) else some ((9 : Int32))))
abbrev rmX7_fewestWords : Room := { frames := 5, cells := 0, slots := 0, locals := 119 }
set_option maxHeartbeats 400000 in
set_option maxRecDepth 100000 in
theorem c_X7_fewestWords (l : Launch) (D : va_G) (cI cB cJ : ClassId) (a_t : Nat) (a_t_stand : Nat) (a_t_on : Nat) (a_t_marks : Nat) (a_t_rule : Nat) (a_t_tape : Nat) (a_t_freshStand : Nat) (a_t_freshMarks : Nat) (a_t_freshRule : Nat) (a_t_shares : Nat) (a_t_said : Nat) (a_t_rows : Nat) (a_t_must : Nat) (a_t_sorts : Nat) (a_t_sizes : Nat) (a_t_sheets : Nat) (a_t_holds : Nat) (a_t_heldNumber : Nat) (a_t_heldSize : Nat) (a_t_traced : Nat) (a_t_keptRow : Nat) (a_t_single : Nat) (sz : Nat) (s_t_villages : Int32) (s_t_held : Int32) (s_t_z : Int32) (s_t_tapeMany : Int32) (s_t_sort : Int32) (s_t_begins : Int32) (s_t_tokenEnds : Int32) (s_t_word : Int64) (s_t_value : Int32) (s_t_good : Int32) (s_t_freshVillages : Int32) (s_t_freshHeld : Int32) (s_t_rowMany : Int32) (s_t_mustMany : Int32) (s_t_kind : Int32) (s_t_number : Int32) (s_t_own : Int32) (s_t_bodies : Int32) (s_t_isParted : Int32) (s_t_isKept : Int32) (s_t_movedTo : Int32) (v_t_stand : (Nat → Int32)) (v_t_marks : (Nat → Int32)) (i1 : Int32) (r : Int32) (hF : f_X7_fewestWords i1 s_t_villages v_t_stand v_t_marks = some r) : xMi l yX7_fewestWords (.code yX7_fewestWords cX7_fewestWords 3 (some .int) :: xU) rmX7_fewestWords (xK D cI cB cJ) D sz [.ref a_t, .int i1] [(a_t, .inr (7, [.ref a_t_stand, .ref a_t_on, .ref a_t_marks, .int s_t_villages, .int s_t_held, .ref a_t_rule, .int s_t_z, .ref a_t_tape, .int s_t_tapeMany, .int s_t_sort, .int s_t_begins, .int s_t_tokenEnds, .long s_t_word, .int s_t_value, .int s_t_good, .int s_t_freshVillages, .int s_t_freshHeld, .ref a_t_freshStand, .ref a_t_freshMarks, .ref a_t_freshRule, .ref a_t_shares, .ref a_t_said, .ref a_t_rows, .ref a_t_must, .int s_t_rowMany, .int s_t_mustMany, .ref a_t_sorts, .ref a_t_sizes, .ref a_t_sheets, .ref a_t_holds, .ref a_t_heldNumber, .ref a_t_heldSize, .int s_t_kind, .int s_t_number, .int s_t_own, .ref a_t_traced, .int s_t_bodies, .int s_t_isParted, .int s_t_isKept, .ref a_t_keptRow, .int s_t_movedTo, .ref a_t_single])), (a_t_stand, .inl (cI, 100, .inl v_t_stand)), (a_t_marks, .inl (cI, 100, .inl v_t_marks))] [(a_t, .inr (7, [.ref a_t_stand, .ref a_t_on, .ref a_t_marks, .int s_t_villages, .int s_t_held, .ref a_t_rule, .int s_t_z, .ref a_t_tape, .int s_t_tapeMany, .int s_t_sort, .int s_t_begins, .int s_t_tokenEnds, .long s_t_word, .int s_t_value, .int s_t_good, .int s_t_freshVillages, .int s_t_freshHeld, .ref a_t_freshStand, .ref a_t_freshMarks, .ref a_t_freshRule, .ref a_t_shares, .ref a_t_said, .ref a_t_rows, .ref a_t_must, .int s_t_rowMany, .int s_t_mustMany, .ref a_t_sorts, .ref a_t_sizes, .ref a_t_sheets, .ref a_t_holds, .ref a_t_heldNumber, .ref a_t_heldSize, .int s_t_kind, .int s_t_number, .int s_t_own, .ref a_t_traced, .int s_t_bodies, .int s_t_isParted, .int s_t_isKept, .ref a_t_keptRow, .int s_t_movedTo, .ref a_t_single])), (a_t_stand, .inl (cI, 100, .inl v_t_stand)), (a_t_marks, .inl (cI, 100, .inl v_t_marks))] r := by
  refine xMi.mk (own := "FairNextModel") (by decide +kernel) rfl (Nat.le_of_ble_eq_true rfl) ?_
  intro p e s m args below meth c A Q ls H hfix hK hP hD hA hS hl hEnd
  obtain ⟨hx, hb, hml, hown, hts⟩ := id hfix
  have hl : lv_has ls 3 [(0, .ref a_t), (1, .int i1)] := hl
  rw [f_X7_fewestWords] at hF
  refine lv_aload_n hx hb dX7_fewestWords_0 rfl (lv_at hl 0 rfl) ?_
  refine lv_iload_n hx hb dX7_fewestWords_1 rfl (lv_at hl 1 rfl) ?_
  obtain ⟨r_1, hq_2, hF⟩ := bd1_e hF
  refine xri0 (xrunV (As := [.int i1]) (rest := []) (c_X7_plainestOf l D cI cB cJ a_t a_t_stand a_t_on a_t_marks a_t_rule a_t_tape a_t_freshStand a_t_freshMarks a_t_freshRule a_t_shares a_t_said a_t_rows a_t_must a_t_sorts a_t_sizes a_t_sheets a_t_holds a_t_heldNumber a_t_heldSize a_t_traced a_t_keptRow a_t_single _ s_t_villages s_t_held s_t_z s_t_tapeMany s_t_sort s_t_begins s_t_tokenEnds s_t_word s_t_value s_t_good s_t_freshVillages s_t_freshHeld s_t_rowMany s_t_mustMany s_t_kind s_t_number s_t_own s_t_bodies s_t_isParted s_t_isKept s_t_movedTo v_t_stand v_t_marks i1 r_1 hq_2) hfix xw_1013 yv_X7_plainestOf ⟨rfl, rfl⟩ ⟨(Nat.le_of_ble_eq_true rfl), (Nat.le_of_ble_eq_true rfl)⟩ xKk_K (fun U hU hW => xK.warm hW hK) hK.1 hP hD [0, 1, 2] rfl rfl 0 7 rfl rfl rfl rfl hl.1 rfl (Nat.le_of_ble_eq_true rfl) dX7_fewestWords_2 ⟨Nat.zero_le _, Nat.zero_le _⟩) hP hD hS hA [0, 1, 2] rfl rfl (fun H locs hP hD hS => ?_)
  refine lv_istore_n (lv' := [(2, .int r_1), (0, .ref a_t), (1, .int i1)]) hx hb dX7_fewestWords_5 rfl hl (by decide) rfl (fun ls hl => ?_)
  refine lv_iload_n hx hb dX7_fewestWords_6 rfl (lv_at hl 0 rfl) ?_
  refine lv_if_ge (tgt := 15) hx hb dX7_fewestWords_7 (by decide) (fun c_3 => ?_) (fun c_3 => ?_)
  · replace hF := if_t c_3 hF
    refine lv_iload_n hx hb dX7_fewestWords_15 rfl (lv_at hl 0 rfl) ?_
    refine xri0 (xrunS (As := [.int r_1]) (rest := []) (c_X7_allWords l D cI cB cJ _ r_1 (f_X7_allWords r_1) rfl) hfix xw_1017 ys_X7_allWords ⟨rfl, rfl⟩ ⟨(Nat.le_of_ble_eq_true rfl), (Nat.le_of_ble_eq_true rfl)⟩ xKk_K (fun U hU hW => xK.warm hW hK) hP hD [] rfl rfl rfl hl.1 rfl (Nat.le_of_ble_eq_true rfl) dX7_fewestWords_16 ⟨Nat.zero_le _, Nat.zero_le _⟩) hP hD hS hA [] rfl rfl (fun H locs hP hD hS => ?_)
    obtain rfl := Option.some.inj hF
    exact hEnd _ _ _ _ _ dX7_fewestWords_19 hP hS rfl
  · replace hF := if_f c_3 hF
    refine lv_bipush (v := (9 : Int32)) hx hb dX7_fewestWords_10 (by decide) ?_
    refine lv_goto (tgt := 19) hx hb dX7_fewestWords_12 (by decide) ?_
    obtain rfl := Option.some.inj hF
    exact hEnd _ _ _ _ _ dX7_fewestWords_19 hP hS rfl
def f_X7_leave_L21 (i1 : Int32) (s_t_villages : Int32) (v_t_marks : (Nat → Int32)) : Nat → Int32 → Int32 → Int32 → (Nat → Int32) → Option (Int32 × (Nat → Int32))
  | 0, _, _, _, _ => none
  | n + 1, x2_5, x3_6, x4_7, xv_t_stand_8 => (if (24 : Int32) ≤ x4_7 then some ((x3_6, xv_t_stand_8)) else gd x4_7 100 ((if (xv_t_stand_8 x4_7.toNatClampNeg) < (0 : Int32) then f_X7_leave_L21 i1 s_t_villages v_t_marks n x2_5 x3_6 (x4_7 + (1 : Int32)) xv_t_stand_8 else gd x4_7 100 (bd1 (f_X7_fewestWords i1 s_t_villages (upd xv_t_stand_8 x4_7.toNatClampNeg (-1 : Int32)) v_t_marks) (fun (r_15 : Int32) => gd x4_7 100 (lt1 ((if x2_5 ≤ r_15 then (x3_6) else (x4_7))) (fun (j_18 : Int32) => (if x2_5 ≤ r_15 then f_X7_leave_L21 i1 s_t_villages v_t_marks n x2_5 j_18 (x4_7 + (1 : Int32)) (upd (upd xv_t_stand_8 x4_7.toNatClampNeg (-1 : Int32)) x4_7.toNatClampNeg (xv_t_stand_8 x4_7.toNatClampNeg)) else f_X7_leave_L21 i1 s_t_villages v_t_marks n r_15 j_18 (x4_7 + (1 : Int32)) (upd (upd xv_t_stand_8 x4_7.toNatClampNeg (-1 : Int32)) x4_7.toNatClampNeg (xv_t_stand_8 x4_7.toNatClampNeg))))))))))
def f_X7_leave (i1 : Int32) (s_t_villages : Int32) (v_t_stand : (Nat → Int32)) (v_t_marks : (Nat → Int32)) : Option (Int32 × (Nat → Int32)) := (if (f_X7_isAllowed i1) = (0 : Int32) then some (((-1 : Int32), v_t_stand)) else bd1 (f_X7_fewestWords i1 s_t_villages v_t_stand v_t_marks) (fun (r_3 : Int32) => bd2 (f_X7_leave_L21 i1 s_t_villages v_t_marks 1000 r_3 (-3 : Int32) (0 : Int32) v_t_stand) (fun (y3_9 : Int32) (yv_t_stand_10 : (Nat → Int32)) => some ((y3_9, yv_t_stand_10)))))
abbrev rmX7_leave : Room := { frames := 6, cells := 0, slots := 0, locals := 141 }
set_option maxHeartbeats 400000 in
set_option maxRecDepth 100000 in
theorem c_X7_leave (l : Launch) (D : va_G) (cI cB cJ : ClassId) (a_t : Nat) (a_t_stand : Nat) (a_t_on : Nat) (a_t_marks : Nat) (a_t_rule : Nat) (a_t_tape : Nat) (a_t_freshStand : Nat) (a_t_freshMarks : Nat) (a_t_freshRule : Nat) (a_t_shares : Nat) (a_t_said : Nat) (a_t_rows : Nat) (a_t_must : Nat) (a_t_sorts : Nat) (a_t_sizes : Nat) (a_t_sheets : Nat) (a_t_holds : Nat) (a_t_heldNumber : Nat) (a_t_heldSize : Nat) (a_t_traced : Nat) (a_t_keptRow : Nat) (a_t_single : Nat) (sz : Nat) (s_t_villages : Int32) (s_t_held : Int32) (s_t_z : Int32) (s_t_tapeMany : Int32) (s_t_sort : Int32) (s_t_begins : Int32) (s_t_tokenEnds : Int32) (s_t_word : Int64) (s_t_value : Int32) (s_t_good : Int32) (s_t_freshVillages : Int32) (s_t_freshHeld : Int32) (s_t_rowMany : Int32) (s_t_mustMany : Int32) (s_t_kind : Int32) (s_t_number : Int32) (s_t_own : Int32) (s_t_bodies : Int32) (s_t_isParted : Int32) (s_t_isKept : Int32) (s_t_movedTo : Int32) (v_t_stand : (Nat → Int32)) (v_t_marks : (Nat → Int32)) (i1 : Int32) (r : Int32) (o_v_t_stand : (Nat → Int32)) (hF : f_X7_leave i1 s_t_villages v_t_stand v_t_marks = some (r, o_v_t_stand)) : xMi l yX7_leave (.code yX7_leave cX7_leave 7 (some .int) :: xU) rmX7_leave (xK D cI cB cJ) D sz [.ref a_t, .int i1] [(a_t, .inr (7, [.ref a_t_stand, .ref a_t_on, .ref a_t_marks, .int s_t_villages, .int s_t_held, .ref a_t_rule, .int s_t_z, .ref a_t_tape, .int s_t_tapeMany, .int s_t_sort, .int s_t_begins, .int s_t_tokenEnds, .long s_t_word, .int s_t_value, .int s_t_good, .int s_t_freshVillages, .int s_t_freshHeld, .ref a_t_freshStand, .ref a_t_freshMarks, .ref a_t_freshRule, .ref a_t_shares, .ref a_t_said, .ref a_t_rows, .ref a_t_must, .int s_t_rowMany, .int s_t_mustMany, .ref a_t_sorts, .ref a_t_sizes, .ref a_t_sheets, .ref a_t_holds, .ref a_t_heldNumber, .ref a_t_heldSize, .int s_t_kind, .int s_t_number, .int s_t_own, .ref a_t_traced, .int s_t_bodies, .int s_t_isParted, .int s_t_isKept, .ref a_t_keptRow, .int s_t_movedTo, .ref a_t_single])), (a_t_stand, .inl (cI, 100, .inl v_t_stand)), (a_t_marks, .inl (cI, 100, .inl v_t_marks))] [(a_t, .inr (7, [.ref a_t_stand, .ref a_t_on, .ref a_t_marks, .int s_t_villages, .int s_t_held, .ref a_t_rule, .int s_t_z, .ref a_t_tape, .int s_t_tapeMany, .int s_t_sort, .int s_t_begins, .int s_t_tokenEnds, .long s_t_word, .int s_t_value, .int s_t_good, .int s_t_freshVillages, .int s_t_freshHeld, .ref a_t_freshStand, .ref a_t_freshMarks, .ref a_t_freshRule, .ref a_t_shares, .ref a_t_said, .ref a_t_rows, .ref a_t_must, .int s_t_rowMany, .int s_t_mustMany, .ref a_t_sorts, .ref a_t_sizes, .ref a_t_sheets, .ref a_t_holds, .ref a_t_heldNumber, .ref a_t_heldSize, .int s_t_kind, .int s_t_number, .int s_t_own, .ref a_t_traced, .int s_t_bodies, .int s_t_isParted, .int s_t_isKept, .ref a_t_keptRow, .int s_t_movedTo, .ref a_t_single])), (a_t_stand, .inl (cI, 100, .inl o_v_t_stand)), (a_t_marks, .inl (cI, 100, .inl v_t_marks))] r := by
  refine xMi.mk (own := "FairNextModel") (by decide +kernel) rfl (Nat.le_of_ble_eq_true rfl) ?_
  intro p e s m args below meth c A Q ls H hfix hK hP hD hA hS hl hEnd
  obtain ⟨hx, hb, hml, hown, hts⟩ := id hfix
  have hl : lv_has ls 7 [(0, .ref a_t), (1, .int i1)] := hl
  rw [f_X7_leave] at hF
  refine lv_iload_n hx hb dX7_leave_0 rfl (lv_at hl 1 rfl) ?_
  refine xrz0 (xrunS (As := [.int i1]) (rest := []) (c_X7_isAllowed l D cI cB cJ _ i1 (f_X7_isAllowed i1) rfl) hfix xw_990 ys_X7_isAllowed ⟨rfl, rfl⟩ ⟨(Nat.le_of_ble_eq_true rfl), (Nat.le_of_ble_eq_true rfl)⟩ xKk_K (fun U hU hW => xK.warm hW hK) hP hD [] rfl rfl rfl hl.1 rfl (Nat.le_of_ble_eq_true rfl) dX7_leave_1 ⟨Nat.zero_le _, Nat.zero_le _⟩) hP hD hS hA [] rfl rfl (fun H locs hP hD hS hz_1 => ?_)
  refine lv_if_ne (tgt := 9) hx hb dX7_leave_4 (by decide) (fun c_2 => ?_) (fun c_2 => ?_)
  · replace hF := if_f c_2 hF
    refine lv_aload_n hx hb dX7_leave_9 rfl (lv_at hl 0 rfl) ?_
    refine lv_iload_n hx hb dX7_leave_10 rfl (lv_at hl 1 rfl) ?_
    obtain ⟨r_3, hq_4, hF⟩ := bd1_e hF
    refine xri0 (xrunV (As := [.int i1]) (rest := []) (c_X7_fewestWords l D cI cB cJ a_t a_t_stand a_t_on a_t_marks a_t_rule a_t_tape a_t_freshStand a_t_freshMarks a_t_freshRule a_t_shares a_t_said a_t_rows a_t_must a_t_sorts a_t_sizes a_t_sheets a_t_holds a_t_heldNumber a_t_heldSize a_t_traced a_t_keptRow a_t_single _ s_t_villages s_t_held s_t_z s_t_tapeMany s_t_sort s_t_begins s_t_tokenEnds s_t_word s_t_value s_t_good s_t_freshVillages s_t_freshHeld s_t_rowMany s_t_mustMany s_t_kind s_t_number s_t_own s_t_bodies s_t_isParted s_t_isKept s_t_movedTo v_t_stand v_t_marks i1 r_3 hq_4) hfix xw_1050 yv_X7_fewestWords ⟨rfl, rfl⟩ ⟨(Nat.le_of_ble_eq_true rfl), (Nat.le_of_ble_eq_true rfl)⟩ xKk_K (fun U hU hW => xK.warm hW hK) hK.1 hP hD [0, 1, 2] rfl rfl 0 7 rfl rfl rfl rfl hl.1 rfl (Nat.le_of_ble_eq_true rfl) dX7_leave_11 ⟨Nat.zero_le _, Nat.zero_le _⟩) hP hD hS hA [0, 1, 2] rfl rfl (fun H locs hP hD hS => ?_)
    refine lv_istore_n (lv' := [(2, .int r_3), (0, .ref a_t), (1, .int i1)]) hx hb dX7_leave_14 rfl hl (by decide) rfl (fun ls hl => ?_)
    refine lv_bipush (v := (-3 : Int32)) hx hb dX7_leave_15 (by decide) ?_
    refine lv_istore_n (lv' := [(3, .int (-3 : Int32)), (2, .int r_3), (0, .ref a_t), (1, .int i1)]) hx hb dX7_leave_17 rfl hl (by decide) rfl (fun ls hl => ?_)
    refine lv_iconst (v := (0 : Int32)) hx hb dX7_leave_18 (by decide) ?_
    refine lv_istore (lv' := [(4, .int (0 : Int32)), (3, .int (-3 : Int32)), (2, .int r_3), (0, .ref a_t), (1, .int i1)]) hx hb dX7_leave_19 hl (by decide) rfl (fun ls hl => ?_)
    have hL_21 : ∀ (n : Nat) (x2_5 : Int32) (x3_6 : Int32) (x4_7 : Int32) (xv_t_stand_8 : (Nat → Int32)) (y3_9 : Int32) (yv_t_stand_10 : (Nat → Int32)), f_X7_leave_L21 i1 s_t_villages v_t_marks n x2_5 x3_6 x4_7 xv_t_stand_8 = some (y3_9, yv_t_stand_10) → ∀ (H : Heap) (locs : List Loc) (ls : Array Slot), va_P D vwCl [(a_t, .inr (7, [.ref a_t_stand, .ref a_t_on, .ref a_t_marks, .int s_t_villages, .int s_t_held, .ref a_t_rule, .int s_t_z, .ref a_t_tape, .int s_t_tapeMany, .int s_t_sort, .int s_t_begins, .int s_t_tokenEnds, .long s_t_word, .int s_t_value, .int s_t_good, .int s_t_freshVillages, .int s_t_freshHeld, .ref a_t_freshStand, .ref a_t_freshMarks, .ref a_t_freshRule, .ref a_t_shares, .ref a_t_said, .ref a_t_rows, .ref a_t_must, .int s_t_rowMany, .int s_t_mustMany, .ref a_t_sorts, .ref a_t_sizes, .ref a_t_sheets, .ref a_t_holds, .ref a_t_heldNumber, .ref a_t_heldSize, .int s_t_kind, .int s_t_number, .int s_t_own, .ref a_t_traced, .int s_t_bodies, .int s_t_isParted, .int s_t_isKept, .ref a_t_keptRow, .int s_t_movedTo, .ref a_t_single])), (a_t_stand, .inl (cI, 100, .inl xv_t_stand_8)), (a_t_marks, .inl (cI, 100, .inl v_t_marks))] H → va_D A [(a_t, .inr (7, [.ref a_t_stand, .ref a_t_on, .ref a_t_marks, .int s_t_villages, .int s_t_held, .ref a_t_rule, .int s_t_z, .ref a_t_tape, .int s_t_tapeMany, .int s_t_sort, .int s_t_begins, .int s_t_tokenEnds, .long s_t_word, .int s_t_value, .int s_t_good, .int s_t_freshVillages, .int s_t_freshHeld, .ref a_t_freshStand, .ref a_t_freshMarks, .ref a_t_freshRule, .ref a_t_shares, .ref a_t_said, .ref a_t_rows, .ref a_t_must, .int s_t_rowMany, .int s_t_mustMany, .ref a_t_sorts, .ref a_t_sizes, .ref a_t_sheets, .ref a_t_holds, .ref a_t_heldNumber, .ref a_t_heldSize, .int s_t_kind, .int s_t_number, .int s_t_own, .ref a_t_traced, .int s_t_bodies, .int s_t_isParted, .int s_t_isKept, .ref a_t_keptRow, .int s_t_movedTo, .ref a_t_single])), (a_t_stand, .inl (cI, 100, .inl xv_t_stand_8)), (a_t_marks, .inl (cI, 100, .inl v_t_marks))] → va_S A s.heap H locs → lv_has ls 7 [(0, .ref a_t), (1, .int i1), (2, .int x2_5), (3, .int x3_6), (4, .int x4_7)] → (∀ (H : Heap) (locs : List Loc) (ls : Array Slot), va_P D vwCl [(a_t, .inr (7, [.ref a_t_stand, .ref a_t_on, .ref a_t_marks, .int s_t_villages, .int s_t_held, .ref a_t_rule, .int s_t_z, .ref a_t_tape, .int s_t_tapeMany, .int s_t_sort, .int s_t_begins, .int s_t_tokenEnds, .long s_t_word, .int s_t_value, .int s_t_good, .int s_t_freshVillages, .int s_t_freshHeld, .ref a_t_freshStand, .ref a_t_freshMarks, .ref a_t_freshRule, .ref a_t_shares, .ref a_t_said, .ref a_t_rows, .ref a_t_must, .int s_t_rowMany, .int s_t_mustMany, .ref a_t_sorts, .ref a_t_sizes, .ref a_t_sheets, .ref a_t_holds, .ref a_t_heldNumber, .ref a_t_heldSize, .int s_t_kind, .int s_t_number, .int s_t_own, .ref a_t_traced, .int s_t_bodies, .int s_t_isParted, .int s_t_isKept, .ref a_t_keptRow, .int s_t_movedTo, .ref a_t_single])), (a_t_stand, .inl (cI, 100, .inl yv_t_stand_10)), (a_t_marks, .inl (cI, 100, .inl v_t_marks))] H → va_D A [(a_t, .inr (7, [.ref a_t_stand, .ref a_t_on, .ref a_t_marks, .int s_t_villages, .int s_t_held, .ref a_t_rule, .int s_t_z, .ref a_t_tape, .int s_t_tapeMany, .int s_t_sort, .int s_t_begins, .int s_t_tokenEnds, .long s_t_word, .int s_t_value, .int s_t_good, .int s_t_freshVillages, .int s_t_freshHeld, .ref a_t_freshStand, .ref a_t_freshMarks, .ref a_t_freshRule, .ref a_t_shares, .ref a_t_said, .ref a_t_rows, .ref a_t_must, .int s_t_rowMany, .int s_t_mustMany, .ref a_t_sorts, .ref a_t_sizes, .ref a_t_sheets, .ref a_t_holds, .ref a_t_heldNumber, .ref a_t_heldSize, .int s_t_kind, .int s_t_number, .int s_t_own, .ref a_t_traced, .int s_t_bodies, .int s_t_isParted, .int s_t_isKept, .ref a_t_keptRow, .int s_t_movedTo, .ref a_t_single])), (a_t_stand, .inl (cI, 100, .inl yv_t_stand_10)), (a_t_marks, .inl (cI, 100, .inl v_t_marks))] → va_S A s.heap H locs → lv_has ls 7 [(3, .int y3_9)] → W p l e rmX7_leave s m args below meth c H locs 0 0 Q (F0 m 98 ls [])) → W p l e rmX7_leave s m args below meth c H locs 0 0 Q (F0 m 21 ls []) := by
      intro n
      induction n with
      | zero => intro x2_5 x3_6 x4_7 xv_t_stand_8 y3_9 yv_t_stand_10 hF; exact (no_some hF).elim
      | succ n ih =>
        intro x2_5 x3_6 x4_7 xv_t_stand_8 y3_9 yv_t_stand_10 hF H locs ls hP hD hS hl kexit
        rw [f_X7_leave_L21] at hF
        refine lv_iload hx hb dX7_leave_21 (lv_at hl 4 rfl) ?_
        refine lv_bipush (v := (24 : Int32)) hx hb dX7_leave_23 (by decide) ?_
        refine lv_icmp_ge (tgt := 98) hx hb dX7_leave_25 (by decide) (fun c_11 => ?_) (fun c_11 => ?_)
        · replace hF := if_t c_11 hF
          obtain ⟨rfl, rfl⟩ := pj2 hF
          exact kexit _ _ _ hP hD hS (lv_sub hl [3] rfl)
        · replace hF := if_f c_11 hF
          refine lv_aload_n hx hb dX7_leave_28 rfl (lv_at hl 0 rfl) ?_
          refine xget (ci := 7) (C := RX7) (T := TX7) (N := 42) hfix xiX7 hK.1 hP 0 rfl rfl 0 (by decide) rfl xw_688 rfl dX7_leave_29 ?_
          refine lv_iload hx hb dX7_leave_32 (lv_at hl 4 rfl) ?_
          obtain ⟨c_12, hF⟩ := gd_e hF
          refine va_iald hx hb hK.1 hP 1 0 rfl rfl c_12 dX7_leave_34 ?_
          refine lv_istore (lv' := [(5, .int (xv_t_stand_8 x4_7.toNatClampNeg)), (0, .ref a_t), (1, .int i1), (2, .int x2_5), (3, .int x3_6), (4, .int x4_7)]) hx hb dX7_leave_35 hl (by decide) rfl (fun ls hl => ?_)
          refine lv_iload hx hb dX7_leave_37 (lv_at hl 0 rfl) ?_
          refine lv_if_lt (tgt := 92) hx hb dX7_leave_39 (by decide) (fun c_13 => ?_) (fun c_13 => ?_)
          · replace hF := if_t c_13 hF
            refine lv_iinc (v := (x4_7 + (1 : Int32))) (lv' := [(4, .int (x4_7 + (1 : Int32))), (5, .int (xv_t_stand_8 x4_7.toNatClampNeg)), (0, .ref a_t), (1, .int i1), (2, .int x2_5), (3, .int x3_6)]) hx hb dX7_leave_92 hl (k := 5) rfl rfl (by decide) rfl (fun ls hl => ?_)
            refine lv_goto (tgt := 21) hx hb dX7_leave_95 (by decide) ?_
            exact ih _ _ _ _ _ _ hF _ _ _ hP hD hS (lv_sub hl [2, 3, 4, 5, 0] rfl) kexit
          · replace hF := if_f c_13 hF
            refine lv_aload_n hx hb dX7_leave_42 rfl (lv_at hl 1 rfl) ?_
            refine xget (ci := 7) (C := RX7) (T := TX7) (N := 42) hfix xiX7 hK.1 hP 0 rfl rfl 0 (by decide) rfl xw_688 rfl dX7_leave_43 ?_
            refine lv_iload hx hb dX7_leave_46 (lv_at hl 5 rfl) ?_
            refine lv_iconst (v := (-1 : Int32)) hx hb dX7_leave_48 (by decide) ?_
            obtain ⟨c_14, hF⟩ := gd_e hF
            refine va_iast hx hb hK.1 hP hD hS 1 0 rfl rfl c_14 dX7_leave_49 (fun H locs hP hD hS => ?_)
            have hP : va_P D vwCl [(a_t, .inr (7, [.ref a_t_stand, .ref a_t_on, .ref a_t_marks, .int s_t_villages, .int s_t_held, .ref a_t_rule, .int s_t_z, .ref a_t_tape, .int s_t_tapeMany, .int s_t_sort, .int s_t_begins, .int s_t_tokenEnds, .long s_t_word, .int s_t_value, .int s_t_good, .int s_t_freshVillages, .int s_t_freshHeld, .ref a_t_freshStand, .ref a_t_freshMarks, .ref a_t_freshRule, .ref a_t_shares, .ref a_t_said, .ref a_t_rows, .ref a_t_must, .int s_t_rowMany, .int s_t_mustMany, .ref a_t_sorts, .ref a_t_sizes, .ref a_t_sheets, .ref a_t_holds, .ref a_t_heldNumber, .ref a_t_heldSize, .int s_t_kind, .int s_t_number, .int s_t_own, .ref a_t_traced, .int s_t_bodies, .int s_t_isParted, .int s_t_isKept, .ref a_t_keptRow, .int s_t_movedTo, .ref a_t_single])), (a_t_stand, .inl (cI, 100, .inl (upd xv_t_stand_8 x4_7.toNatClampNeg (-1 : Int32)))), (a_t_marks, .inl (cI, 100, .inl v_t_marks))] H := hP
            have hD : va_D A [(a_t, .inr (7, [.ref a_t_stand, .ref a_t_on, .ref a_t_marks, .int s_t_villages, .int s_t_held, .ref a_t_rule, .int s_t_z, .ref a_t_tape, .int s_t_tapeMany, .int s_t_sort, .int s_t_begins, .int s_t_tokenEnds, .long s_t_word, .int s_t_value, .int s_t_good, .int s_t_freshVillages, .int s_t_freshHeld, .ref a_t_freshStand, .ref a_t_freshMarks, .ref a_t_freshRule, .ref a_t_shares, .ref a_t_said, .ref a_t_rows, .ref a_t_must, .int s_t_rowMany, .int s_t_mustMany, .ref a_t_sorts, .ref a_t_sizes, .ref a_t_sheets, .ref a_t_holds, .ref a_t_heldNumber, .ref a_t_heldSize, .int s_t_kind, .int s_t_number, .int s_t_own, .ref a_t_traced, .int s_t_bodies, .int s_t_isParted, .int s_t_isKept, .ref a_t_keptRow, .int s_t_movedTo, .ref a_t_single])), (a_t_stand, .inl (cI, 100, .inl (upd xv_t_stand_8 x4_7.toNatClampNeg (-1 : Int32)))), (a_t_marks, .inl (cI, 100, .inl v_t_marks))] := hD
            refine lv_aload_n hx hb dX7_leave_50 rfl (lv_at hl 1 rfl) ?_
            refine lv_iload_n hx hb dX7_leave_51 rfl (lv_at hl 2 rfl) ?_
            obtain ⟨r_15, hq_16, hF⟩ := bd1_e hF
            refine xri0 (xrunV (As := [.int i1]) (rest := []) (c_X7_fewestWords l D cI cB cJ a_t a_t_stand a_t_on a_t_marks a_t_rule a_t_tape a_t_freshStand a_t_freshMarks a_t_freshRule a_t_shares a_t_said a_t_rows a_t_must a_t_sorts a_t_sizes a_t_sheets a_t_holds a_t_heldNumber a_t_heldSize a_t_traced a_t_keptRow a_t_single _ s_t_villages s_t_held s_t_z s_t_tapeMany s_t_sort s_t_begins s_t_tokenEnds s_t_word s_t_value s_t_good s_t_freshVillages s_t_freshHeld s_t_rowMany s_t_mustMany s_t_kind s_t_number s_t_own s_t_bodies s_t_isParted s_t_isKept s_t_movedTo (upd xv_t_stand_8 x4_7.toNatClampNeg (-1 : Int32)) v_t_marks i1 r_15 hq_16) hfix xw_1050 yv_X7_fewestWords ⟨rfl, rfl⟩ ⟨(Nat.le_of_ble_eq_true rfl), (Nat.le_of_ble_eq_true rfl)⟩ xKk_K (fun U hU hW => xK.warm hW hK) hK.1 hP hD [0, 1, 2] rfl rfl 0 7 rfl rfl rfl rfl hl.1 rfl (Nat.le_of_ble_eq_true rfl) dX7_leave_52 ⟨Nat.zero_le _, Nat.zero_le _⟩) hP hD hS hA [0, 1, 2] rfl rfl (fun H locs hP hD hS => ?_)
            refine lv_istore (lv' := [(6, .int r_15), (5, .int (xv_t_stand_8 x4_7.toNatClampNeg)), (0, .ref a_t), (1, .int i1), (2, .int x2_5), (3, .int x3_6), (4, .int x4_7)]) hx hb dX7_leave_55 hl (by decide) rfl (fun ls hl => ?_)
            refine lv_aload_n hx hb dX7_leave_57 rfl (lv_at hl 2 rfl) ?_
            refine xget (ci := 7) (C := RX7) (T := TX7) (N := 42) hfix xiX7 hK.1 hP 0 rfl rfl 0 (by decide) rfl xw_688 rfl dX7_leave_58 ?_
            refine lv_iload hx hb dX7_leave_61 (lv_at hl 6 rfl) ?_
            refine lv_iload hx hb dX7_leave_63 (lv_at hl 1 rfl) ?_
            obtain ⟨c_17, hF⟩ := gd_e hF
            refine va_iast hx hb hK.1 hP hD hS 1 0 rfl rfl c_17 dX7_leave_65 (fun H locs hP hD hS => ?_)
            have hP : va_P D vwCl [(a_t, .inr (7, [.ref a_t_stand, .ref a_t_on, .ref a_t_marks, .int s_t_villages, .int s_t_held, .ref a_t_rule, .int s_t_z, .ref a_t_tape, .int s_t_tapeMany, .int s_t_sort, .int s_t_begins, .int s_t_tokenEnds, .long s_t_word, .int s_t_value, .int s_t_good, .int s_t_freshVillages, .int s_t_freshHeld, .ref a_t_freshStand, .ref a_t_freshMarks, .ref a_t_freshRule, .ref a_t_shares, .ref a_t_said, .ref a_t_rows, .ref a_t_must, .int s_t_rowMany, .int s_t_mustMany, .ref a_t_sorts, .ref a_t_sizes, .ref a_t_sheets, .ref a_t_holds, .ref a_t_heldNumber, .ref a_t_heldSize, .int s_t_kind, .int s_t_number, .int s_t_own, .ref a_t_traced, .int s_t_bodies, .int s_t_isParted, .int s_t_isKept, .ref a_t_keptRow, .int s_t_movedTo, .ref a_t_single])), (a_t_stand, .inl (cI, 100, .inl (upd (upd xv_t_stand_8 x4_7.toNatClampNeg (-1 : Int32)) x4_7.toNatClampNeg (xv_t_stand_8 x4_7.toNatClampNeg)))), (a_t_marks, .inl (cI, 100, .inl v_t_marks))] H := hP
            have hD : va_D A [(a_t, .inr (7, [.ref a_t_stand, .ref a_t_on, .ref a_t_marks, .int s_t_villages, .int s_t_held, .ref a_t_rule, .int s_t_z, .ref a_t_tape, .int s_t_tapeMany, .int s_t_sort, .int s_t_begins, .int s_t_tokenEnds, .long s_t_word, .int s_t_value, .int s_t_good, .int s_t_freshVillages, .int s_t_freshHeld, .ref a_t_freshStand, .ref a_t_freshMarks, .ref a_t_freshRule, .ref a_t_shares, .ref a_t_said, .ref a_t_rows, .ref a_t_must, .int s_t_rowMany, .int s_t_mustMany, .ref a_t_sorts, .ref a_t_sizes, .ref a_t_sheets, .ref a_t_holds, .ref a_t_heldNumber, .ref a_t_heldSize, .int s_t_kind, .int s_t_number, .int s_t_own, .ref a_t_traced, .int s_t_bodies, .int s_t_isParted, .int s_t_isKept, .ref a_t_keptRow, .int s_t_movedTo, .ref a_t_single])), (a_t_stand, .inl (cI, 100, .inl (upd (upd xv_t_stand_8 x4_7.toNatClampNeg (-1 : Int32)) x4_7.toNatClampNeg (xv_t_stand_8 x4_7.toNatClampNeg)))), (a_t_marks, .inl (cI, 100, .inl v_t_marks))] := hD
            refine lv_iload hx hb dX7_leave_66 (lv_at hl 0 rfl) ?_
            refine lv_iload_n hx hb dX7_leave_68 rfl (lv_at hl 4 rfl) ?_
            obtain ⟨j_18, hJ, hF⟩ := lt1_e hF
            have hN_78_18 : ∀ (H : Heap) (locs : List Loc) (ls : Array Slot), va_P D vwCl [(a_t, .inr (7, [.ref a_t_stand, .ref a_t_on, .ref a_t_marks, .int s_t_villages, .int s_t_held, .ref a_t_rule, .int s_t_z, .ref a_t_tape, .int s_t_tapeMany, .int s_t_sort, .int s_t_begins, .int s_t_tokenEnds, .long s_t_word, .int s_t_value, .int s_t_good, .int s_t_freshVillages, .int s_t_freshHeld, .ref a_t_freshStand, .ref a_t_freshMarks, .ref a_t_freshRule, .ref a_t_shares, .ref a_t_said, .ref a_t_rows, .ref a_t_must, .int s_t_rowMany, .int s_t_mustMany, .ref a_t_sorts, .ref a_t_sizes, .ref a_t_sheets, .ref a_t_holds, .ref a_t_heldNumber, .ref a_t_heldSize, .int s_t_kind, .int s_t_number, .int s_t_own, .ref a_t_traced, .int s_t_bodies, .int s_t_isParted, .int s_t_isKept, .ref a_t_keptRow, .int s_t_movedTo, .ref a_t_single])), (a_t_stand, .inl (cI, 100, .inl (upd (upd xv_t_stand_8 x4_7.toNatClampNeg (-1 : Int32)) x4_7.toNatClampNeg (xv_t_stand_8 x4_7.toNatClampNeg)))), (a_t_marks, .inl (cI, 100, .inl v_t_marks))] H → va_D A [(a_t, .inr (7, [.ref a_t_stand, .ref a_t_on, .ref a_t_marks, .int s_t_villages, .int s_t_held, .ref a_t_rule, .int s_t_z, .ref a_t_tape, .int s_t_tapeMany, .int s_t_sort, .int s_t_begins, .int s_t_tokenEnds, .long s_t_word, .int s_t_value, .int s_t_good, .int s_t_freshVillages, .int s_t_freshHeld, .ref a_t_freshStand, .ref a_t_freshMarks, .ref a_t_freshRule, .ref a_t_shares, .ref a_t_said, .ref a_t_rows, .ref a_t_must, .int s_t_rowMany, .int s_t_mustMany, .ref a_t_sorts, .ref a_t_sizes, .ref a_t_sheets, .ref a_t_holds, .ref a_t_heldNumber, .ref a_t_heldSize, .int s_t_kind, .int s_t_number, .int s_t_own, .ref a_t_traced, .int s_t_bodies, .int s_t_isParted, .int s_t_isKept, .ref a_t_keptRow, .int s_t_movedTo, .ref a_t_single])), (a_t_stand, .inl (cI, 100, .inl (upd (upd xv_t_stand_8 x4_7.toNatClampNeg (-1 : Int32)) x4_7.toNatClampNeg (xv_t_stand_8 x4_7.toNatClampNeg)))), (a_t_marks, .inl (cI, 100, .inl v_t_marks))] → va_S A s.heap H locs → lv_has ls 7 [(0, .ref a_t), (1, .int i1), (2, .int x2_5), (4, .int x4_7), (6, .int r_15)] → W p l e rmX7_leave s m args below meth c H locs 0 0 Q (F0 m 78 ls [.int j_18]) := by
              intro H locs ls hP hD hS hl
              refine lv_istore_n (lv' := [(3, .int j_18), (0, .ref a_t), (1, .int i1), (2, .int x2_5), (4, .int x4_7), (6, .int r_15)]) hx hb dX7_leave_78 rfl hl (by decide) rfl (fun ls hl => ?_)
              refine lv_iload hx hb dX7_leave_79 (lv_at hl 5 rfl) ?_
              refine lv_iload_n hx hb dX7_leave_81 rfl (lv_at hl 3 rfl) ?_
              refine lv_icmp_ge (tgt := 90) hx hb dX7_leave_82 (by decide) (fun c_19 => ?_) (fun c_19 => ?_)
              · replace hF := if_t c_19 hF
                refine lv_iload_n hx hb dX7_leave_90 rfl (lv_at hl 3 rfl) ?_
                refine lv_istore_n (lv' := [(2, .int x2_5), (3, .int j_18), (0, .ref a_t), (1, .int i1), (4, .int x4_7), (6, .int r_15)]) hx hb dX7_leave_91 rfl hl (by decide) rfl (fun ls hl => ?_)
                refine lv_iinc (v := (x4_7 + (1 : Int32))) (lv' := [(4, .int (x4_7 + (1 : Int32))), (2, .int x2_5), (3, .int j_18), (0, .ref a_t), (1, .int i1), (6, .int r_15)]) hx hb dX7_leave_92 hl (k := 4) rfl rfl (by decide) rfl (fun ls hl => ?_)
                refine lv_goto (tgt := 21) hx hb dX7_leave_95 (by decide) ?_
                exact ih _ _ _ _ _ _ hF _ _ _ hP hD hS (lv_sub hl [3, 4, 1, 2, 0] rfl) kexit
              · replace hF := if_f c_19 hF
                refine lv_iload hx hb dX7_leave_85 (lv_at hl 5 rfl) ?_
                refine lv_goto (tgt := 91) hx hb dX7_leave_87 (by decide) ?_
                refine lv_istore_n (lv' := [(2, .int r_15), (3, .int j_18), (0, .ref a_t), (1, .int i1), (4, .int x4_7), (6, .int r_15)]) hx hb dX7_leave_91 rfl hl (by decide) rfl (fun ls hl => ?_)
                refine lv_iinc (v := (x4_7 + (1 : Int32))) (lv' := [(4, .int (x4_7 + (1 : Int32))), (2, .int r_15), (3, .int j_18), (0, .ref a_t), (1, .int i1), (6, .int r_15)]) hx hb dX7_leave_92 hl (k := 4) rfl rfl (by decide) rfl (fun ls hl => ?_)
                refine lv_goto (tgt := 21) hx hb dX7_leave_95 (by decide) ?_
                exact ih _ _ _ _ _ _ hF _ _ _ hP hD hS (lv_sub hl [3, 4, 1, 2, 0] rfl) kexit
            replace hF := hJ
            refine lv_icmp_ge (tgt := 77) hx hb dX7_leave_69 (by decide) (fun c_20 => ?_) (fun c_20 => ?_)
            · replace hF := if_t c_20 hF
              refine lv_iload_n hx hb dX7_leave_77 rfl (lv_at hl 5 rfl) ?_
              subst hF
              exact hN_78_18 _ _ _ hP hD hS (lv_sub hl [2, 3, 4, 6, 0] rfl)
            · replace hF := if_f c_20 hF
              refine lv_iload hx hb dX7_leave_72 (lv_at hl 6 rfl) ?_
              refine lv_goto (tgt := 78) hx hb dX7_leave_74 (by decide) ?_
              subst hF
              exact hN_78_18 _ _ _ hP hD hS (lv_sub hl [2, 3, 4, 6, 0] rfl)
    obtain ⟨y3_9, yv_t_stand_10, hq, hF⟩ := bd2_e hF
    refine hL_21 _ _ _ _ _ _ _ hq _ _ _ hP hD hS (lv_sub hl [3, 4, 2, 1, 0] rfl) (fun H locs ls hP hD hS hl => ?_)
    refine lv_iload_n hx hb dX7_leave_98 rfl (lv_at hl 0 rfl) ?_
    obtain ⟨rfl, rfl⟩ := pj2 hF
    exact hEnd _ _ _ _ _ dX7_leave_99 hP hS rfl
  · replace hF := if_t c_2 hF
    refine lv_iconst (v := (-1 : Int32)) hx hb dX7_leave_7 (by decide) ?_
    obtain ⟨rfl, rfl⟩ := pj2 hF
    exact hEnd _ _ _ _ _ dX7_leave_8 hP hS rfl
def f_X7_apart (i1 : Int32) (i2 : Int32) (s_t_villages : Int32) : Int32 := lt1 ((if i2 ≤ i1 then ((i1 - i2)) else ((i2 - i1)))) (fun (j_1 : Int32) => (if j_1 ≤ (s_t_villages - j_1) then (j_1) else ((s_t_villages - j_1))))
abbrev rmX7_apart : Room := { frames := 0, cells := 0, slots := 0, locals := 0 }
set_option maxHeartbeats 400000 in
set_option maxRecDepth 100000 in
theorem c_X7_apart (l : Launch) (D : va_G) (cI cB cJ : ClassId) (a_t : Nat) (a_t_stand : Nat) (a_t_on : Nat) (a_t_marks : Nat) (a_t_rule : Nat) (a_t_tape : Nat) (a_t_freshStand : Nat) (a_t_freshMarks : Nat) (a_t_freshRule : Nat) (a_t_shares : Nat) (a_t_said : Nat) (a_t_rows : Nat) (a_t_must : Nat) (a_t_sorts : Nat) (a_t_sizes : Nat) (a_t_sheets : Nat) (a_t_holds : Nat) (a_t_heldNumber : Nat) (a_t_heldSize : Nat) (a_t_traced : Nat) (a_t_keptRow : Nat) (a_t_single : Nat) (sz : Nat) (s_t_villages : Int32) (s_t_held : Int32) (s_t_z : Int32) (s_t_tapeMany : Int32) (s_t_sort : Int32) (s_t_begins : Int32) (s_t_tokenEnds : Int32) (s_t_word : Int64) (s_t_value : Int32) (s_t_good : Int32) (s_t_freshVillages : Int32) (s_t_freshHeld : Int32) (s_t_rowMany : Int32) (s_t_mustMany : Int32) (s_t_kind : Int32) (s_t_number : Int32) (s_t_own : Int32) (s_t_bodies : Int32) (s_t_isParted : Int32) (s_t_isKept : Int32) (s_t_movedTo : Int32) (i1 : Int32) (i2 : Int32) (r : Int32) (hF : f_X7_apart i1 i2 s_t_villages = r) : xMi l yX7_apart (.code yX7_apart cX7_apart 4 (some .int) :: xU) rmX7_apart (xK D cI cB cJ) D sz [.ref a_t, .int i1, .int i2] [(a_t, .inr (7, [.ref a_t_stand, .ref a_t_on, .ref a_t_marks, .int s_t_villages, .int s_t_held, .ref a_t_rule, .int s_t_z, .ref a_t_tape, .int s_t_tapeMany, .int s_t_sort, .int s_t_begins, .int s_t_tokenEnds, .long s_t_word, .int s_t_value, .int s_t_good, .int s_t_freshVillages, .int s_t_freshHeld, .ref a_t_freshStand, .ref a_t_freshMarks, .ref a_t_freshRule, .ref a_t_shares, .ref a_t_said, .ref a_t_rows, .ref a_t_must, .int s_t_rowMany, .int s_t_mustMany, .ref a_t_sorts, .ref a_t_sizes, .ref a_t_sheets, .ref a_t_holds, .ref a_t_heldNumber, .ref a_t_heldSize, .int s_t_kind, .int s_t_number, .int s_t_own, .ref a_t_traced, .int s_t_bodies, .int s_t_isParted, .int s_t_isKept, .ref a_t_keptRow, .int s_t_movedTo, .ref a_t_single]))] [(a_t, .inr (7, [.ref a_t_stand, .ref a_t_on, .ref a_t_marks, .int s_t_villages, .int s_t_held, .ref a_t_rule, .int s_t_z, .ref a_t_tape, .int s_t_tapeMany, .int s_t_sort, .int s_t_begins, .int s_t_tokenEnds, .long s_t_word, .int s_t_value, .int s_t_good, .int s_t_freshVillages, .int s_t_freshHeld, .ref a_t_freshStand, .ref a_t_freshMarks, .ref a_t_freshRule, .ref a_t_shares, .ref a_t_said, .ref a_t_rows, .ref a_t_must, .int s_t_rowMany, .int s_t_mustMany, .ref a_t_sorts, .ref a_t_sizes, .ref a_t_sheets, .ref a_t_holds, .ref a_t_heldNumber, .ref a_t_heldSize, .int s_t_kind, .int s_t_number, .int s_t_own, .ref a_t_traced, .int s_t_bodies, .int s_t_isParted, .int s_t_isKept, .ref a_t_keptRow, .int s_t_movedTo, .ref a_t_single]))] r := by
  refine xMi.mk (own := "FairNextModel") (by decide +kernel) rfl (Nat.le_of_ble_eq_true rfl) ?_
  intro p e s m args below meth c A Q ls H hfix hK hP hD hA hS hl hEnd
  obtain ⟨hx, hb, hml, hown, hts⟩ := id hfix
  have hl : lv_has ls 4 [(0, .ref a_t), (1, .int i1), (2, .int i2)] := hl
  rw [f_X7_apart] at hF
  refine lv_iload_n hx hb dX7_apart_0 rfl (lv_at hl 1 rfl) ?_
  refine lv_iload_n hx hb dX7_apart_1 rfl (lv_at hl 2 rfl) ?_
  obtain ⟨j_1, hJ, hF⟩ := lt1_e hF
  have hN_14_1 : ∀ (H : Heap) (locs : List Loc) (ls : Array Slot), va_P D vwCl [(a_t, .inr (7, [.ref a_t_stand, .ref a_t_on, .ref a_t_marks, .int s_t_villages, .int s_t_held, .ref a_t_rule, .int s_t_z, .ref a_t_tape, .int s_t_tapeMany, .int s_t_sort, .int s_t_begins, .int s_t_tokenEnds, .long s_t_word, .int s_t_value, .int s_t_good, .int s_t_freshVillages, .int s_t_freshHeld, .ref a_t_freshStand, .ref a_t_freshMarks, .ref a_t_freshRule, .ref a_t_shares, .ref a_t_said, .ref a_t_rows, .ref a_t_must, .int s_t_rowMany, .int s_t_mustMany, .ref a_t_sorts, .ref a_t_sizes, .ref a_t_sheets, .ref a_t_holds, .ref a_t_heldNumber, .ref a_t_heldSize, .int s_t_kind, .int s_t_number, .int s_t_own, .ref a_t_traced, .int s_t_bodies, .int s_t_isParted, .int s_t_isKept, .ref a_t_keptRow, .int s_t_movedTo, .ref a_t_single]))] H → va_D A [(a_t, .inr (7, [.ref a_t_stand, .ref a_t_on, .ref a_t_marks, .int s_t_villages, .int s_t_held, .ref a_t_rule, .int s_t_z, .ref a_t_tape, .int s_t_tapeMany, .int s_t_sort, .int s_t_begins, .int s_t_tokenEnds, .long s_t_word, .int s_t_value, .int s_t_good, .int s_t_freshVillages, .int s_t_freshHeld, .ref a_t_freshStand, .ref a_t_freshMarks, .ref a_t_freshRule, .ref a_t_shares, .ref a_t_said, .ref a_t_rows, .ref a_t_must, .int s_t_rowMany, .int s_t_mustMany, .ref a_t_sorts, .ref a_t_sizes, .ref a_t_sheets, .ref a_t_holds, .ref a_t_heldNumber, .ref a_t_heldSize, .int s_t_kind, .int s_t_number, .int s_t_own, .ref a_t_traced, .int s_t_bodies, .int s_t_isParted, .int s_t_isKept, .ref a_t_keptRow, .int s_t_movedTo, .ref a_t_single]))] → va_S A s.heap H locs → lv_has ls 4 [(0, .ref a_t)] → W p l e rmX7_apart s m args below meth c H locs 0 0 Q (F0 m 14 ls [.int j_1]) := by
    intro H locs ls hP hD hS hl
    refine lv_istore_n (lv' := [(3, .int j_1), (0, .ref a_t)]) hx hb dX7_apart_14 rfl hl (by decide) rfl (fun ls hl => ?_)
    refine lv_aload_n hx hb dX7_apart_15 rfl (lv_at hl 1 rfl) ?_
    refine xget (ci := 7) (C := RX7) (T := TX7) (N := 42) hfix xiX7 hK.1 hP 0 rfl rfl 3 (by decide) rfl xw_691 rfl dX7_apart_16 ?_
    refine lv_iload_n hx hb dX7_apart_19 rfl (lv_at hl 0 rfl) ?_
    refine lv_isub hx hb dX7_apart_20 ?_
    refine lv_iload_n hx hb dX7_apart_21 rfl (lv_at hl 0 rfl) ?_
    refine lv_icmp_ge (tgt := 34) hx hb dX7_apart_22 (by decide) (fun c_2 => ?_) (fun c_2 => ?_)
    · replace hF := if_t c_2 hF
      refine lv_iload_n hx hb dX7_apart_34 rfl (lv_at hl 0 rfl) ?_
      subst hF
      exact hEnd _ _ _ _ _ dX7_apart_35 hP hS rfl
    · replace hF := if_f c_2 hF
      refine lv_aload_n hx hb dX7_apart_25 rfl (lv_at hl 1 rfl) ?_
      refine xget (ci := 7) (C := RX7) (T := TX7) (N := 42) hfix xiX7 hK.1 hP 0 rfl rfl 3 (by decide) rfl xw_691 rfl dX7_apart_26 ?_
      refine lv_iload_n hx hb dX7_apart_29 rfl (lv_at hl 0 rfl) ?_
      refine lv_isub hx hb dX7_apart_30 ?_
      refine lv_goto (tgt := 35) hx hb dX7_apart_31 (by decide) ?_
      subst hF
      exact hEnd _ _ _ _ _ dX7_apart_35 hP hS rfl
  replace hF := hJ
  refine lv_icmp_ge (tgt := 11) hx hb dX7_apart_2 (by decide) (fun c_3 => ?_) (fun c_3 => ?_)
  · replace hF := if_t c_3 hF
    refine lv_iload_n hx hb dX7_apart_11 rfl (lv_at hl 1 rfl) ?_
    refine lv_iload_n hx hb dX7_apart_12 rfl (lv_at hl 2 rfl) ?_
    refine lv_isub hx hb dX7_apart_13 ?_
    subst hF
    exact hN_14_1 _ _ _ hP hD hS (lv_sub hl [0] rfl)
  · replace hF := if_f c_3 hF
    refine lv_iload_n hx hb dX7_apart_5 rfl (lv_at hl 2 rfl) ?_
    refine lv_iload_n hx hb dX7_apart_6 rfl (lv_at hl 1 rfl) ?_
    refine lv_isub hx hb dX7_apart_7 ?_
    refine lv_goto (tgt := 14) hx hb dX7_apart_8 (by decide) ?_
    subst hF
    exact hN_14_1 _ _ _ hP hD hS (lv_sub hl [0] rfl)
def f_X7_camp_L51 (s_t_villages : Int32) (o_6 : (Nat → Int32)) (x5_12 : Int32) : Nat → Int32 → Int32 → Option (Int32)
  | 0, _, _ => none
  | n + 1, x6_15, x7_16 => (if s_t_villages ≤ x7_16 then some (x6_15) else gd x7_16 10 (f_X7_camp_L51 s_t_villages o_6 x5_12 n (x6_15 + ((o_6 x7_16.toNatClampNeg) * (f_X7_apart x5_12 x7_16 s_t_villages))) (x7_16 + (1 : Int32))))
def f_X7_camp_L36 (s_t_villages : Int32) (o_6 : (Nat → Int32)) : Nat → Int32 → Int32 → Int32 → Option (Int32)
  | 0, _, _, _ => none
  | n + 1, x3_10, x4_11, x5_12 => (if s_t_villages ≤ x5_12 then some (x3_10) else bd1 (f_X7_camp_L51 s_t_villages o_6 x5_12 1000 (0 : Int32) (0 : Int32)) (fun (y6_17 : Int32) => (if x3_10 < (0 : Int32) then f_X7_camp_L36 s_t_villages o_6 n x5_12 y6_17 (x5_12 + (1 : Int32)) else (if x4_11 ≤ y6_17 then f_X7_camp_L36 s_t_villages o_6 n x3_10 x4_11 (x5_12 + (1 : Int32)) else f_X7_camp_L36 s_t_villages o_6 n x5_12 y6_17 (x5_12 + (1 : Int32))))))
def f_X7_camp (i1 : Int32) (i2 : Int32) (s_t_villages : Int32) (v_t_shares : (Nat → Int32)) (v_t_stand : (Nat → Int32)) (v_t_marks : (Nat → Int32)) (v_t_said : (Nat → Int32)) : Option (Int32 × (Nat → Int32) × (Nat → Int32)) := (if (f_X7_isLong i1) = (0 : Int32) then some (((-1 : Int32), v_t_shares, v_t_said)) else (if (f_X7_isAllowed i2) = (0 : Int32) then some (((-1 : Int32), v_t_shares, v_t_said)) else bd3 (f_X7_findShares i1 i2 s_t_villages v_t_shares v_t_stand v_t_marks v_t_said) (fun (r_5 : Int32) (o_6 : (Nat → Int32)) (o_7 : (Nat → Int32)) => (if r_5 = (0 : Int32) then some (((-3 : Int32), o_6, o_7)) else bd1 (f_X7_camp_L36 s_t_villages o_6 1000 (-1 : Int32) (0 : Int32) (0 : Int32)) (fun (y3_13 : Int32) => some ((y3_13, o_6, o_7)))))))
abbrev rmX7_camp : Room := { frames := 5, cells := 0, slots := 0, locals := 120 }
set_option maxHeartbeats 400000 in
set_option maxRecDepth 100000 in
theorem c_X7_camp (l : Launch) (D : va_G) (cI cB cJ : ClassId) (a_t : Nat) (a_t_stand : Nat) (a_t_on : Nat) (a_t_marks : Nat) (a_t_rule : Nat) (a_t_tape : Nat) (a_t_freshStand : Nat) (a_t_freshMarks : Nat) (a_t_freshRule : Nat) (a_t_shares : Nat) (a_t_said : Nat) (a_t_rows : Nat) (a_t_must : Nat) (a_t_sorts : Nat) (a_t_sizes : Nat) (a_t_sheets : Nat) (a_t_holds : Nat) (a_t_heldNumber : Nat) (a_t_heldSize : Nat) (a_t_traced : Nat) (a_t_keptRow : Nat) (a_t_single : Nat) (sz : Nat) (s_t_villages : Int32) (s_t_held : Int32) (s_t_z : Int32) (s_t_tapeMany : Int32) (s_t_sort : Int32) (s_t_begins : Int32) (s_t_tokenEnds : Int32) (s_t_word : Int64) (s_t_value : Int32) (s_t_good : Int32) (s_t_freshVillages : Int32) (s_t_freshHeld : Int32) (s_t_rowMany : Int32) (s_t_mustMany : Int32) (s_t_kind : Int32) (s_t_number : Int32) (s_t_own : Int32) (s_t_bodies : Int32) (s_t_isParted : Int32) (s_t_isKept : Int32) (s_t_movedTo : Int32) (v_t_shares : (Nat → Int32)) (v_t_stand : (Nat → Int32)) (v_t_marks : (Nat → Int32)) (v_t_said : (Nat → Int32)) (i1 : Int32) (i2 : Int32) (r : Int32) (o_v_t_shares : (Nat → Int32)) (o_v_t_said : (Nat → Int32)) (hF : f_X7_camp i1 i2 s_t_villages v_t_shares v_t_stand v_t_marks v_t_said = some (r, o_v_t_shares, o_v_t_said)) : xMi l yX7_camp (.code yX7_camp cX7_camp 8 (some .int) :: xU) rmX7_camp (xK D cI cB cJ) D sz [.ref a_t, .int i1, .int i2] [(a_t, .inr (7, [.ref a_t_stand, .ref a_t_on, .ref a_t_marks, .int s_t_villages, .int s_t_held, .ref a_t_rule, .int s_t_z, .ref a_t_tape, .int s_t_tapeMany, .int s_t_sort, .int s_t_begins, .int s_t_tokenEnds, .long s_t_word, .int s_t_value, .int s_t_good, .int s_t_freshVillages, .int s_t_freshHeld, .ref a_t_freshStand, .ref a_t_freshMarks, .ref a_t_freshRule, .ref a_t_shares, .ref a_t_said, .ref a_t_rows, .ref a_t_must, .int s_t_rowMany, .int s_t_mustMany, .ref a_t_sorts, .ref a_t_sizes, .ref a_t_sheets, .ref a_t_holds, .ref a_t_heldNumber, .ref a_t_heldSize, .int s_t_kind, .int s_t_number, .int s_t_own, .ref a_t_traced, .int s_t_bodies, .int s_t_isParted, .int s_t_isKept, .ref a_t_keptRow, .int s_t_movedTo, .ref a_t_single])), (a_t_shares, .inl (cI, 10, .inl v_t_shares)), (a_t_stand, .inl (cI, 100, .inl v_t_stand)), (a_t_marks, .inl (cI, 100, .inl v_t_marks)), (a_t_said, .inl (cI, 600, .inl v_t_said))] [(a_t, .inr (7, [.ref a_t_stand, .ref a_t_on, .ref a_t_marks, .int s_t_villages, .int s_t_held, .ref a_t_rule, .int s_t_z, .ref a_t_tape, .int s_t_tapeMany, .int s_t_sort, .int s_t_begins, .int s_t_tokenEnds, .long s_t_word, .int s_t_value, .int s_t_good, .int s_t_freshVillages, .int s_t_freshHeld, .ref a_t_freshStand, .ref a_t_freshMarks, .ref a_t_freshRule, .ref a_t_shares, .ref a_t_said, .ref a_t_rows, .ref a_t_must, .int s_t_rowMany, .int s_t_mustMany, .ref a_t_sorts, .ref a_t_sizes, .ref a_t_sheets, .ref a_t_holds, .ref a_t_heldNumber, .ref a_t_heldSize, .int s_t_kind, .int s_t_number, .int s_t_own, .ref a_t_traced, .int s_t_bodies, .int s_t_isParted, .int s_t_isKept, .ref a_t_keptRow, .int s_t_movedTo, .ref a_t_single])), (a_t_shares, .inl (cI, 10, .inl o_v_t_shares)), (a_t_stand, .inl (cI, 100, .inl v_t_stand)), (a_t_marks, .inl (cI, 100, .inl v_t_marks)), (a_t_said, .inl (cI, 600, .inl o_v_t_said))] r := by
  refine xMi.mk (own := "FairNextModel") (by decide +kernel) rfl (Nat.le_of_ble_eq_true rfl) ?_
  intro p e s m args below meth c A Q ls H hfix hK hP hD hA hS hl hEnd
  obtain ⟨hx, hb, hml, hown, hts⟩ := id hfix
  have hl : lv_has ls 8 [(0, .ref a_t), (1, .int i1), (2, .int i2)] := hl
  rw [f_X7_camp] at hF
  refine lv_iload_n hx hb dX7_camp_0 rfl (lv_at hl 1 rfl) ?_
  refine xrz0 (xrunS (As := [.int i1]) (rest := []) (c_X7_isLong l D cI cB cJ _ i1 (f_X7_isLong i1) rfl) hfix xw_951 ys_X7_isLong ⟨rfl, rfl⟩ ⟨(Nat.le_of_ble_eq_true rfl), (Nat.le_of_ble_eq_true rfl)⟩ xKk_K (fun U hU hW => xK.warm hW hK) hP hD [] rfl rfl rfl hl.1 rfl (Nat.le_of_ble_eq_true rfl) dX7_camp_1 ⟨Nat.zero_le _, Nat.zero_le _⟩) hP hD hS hA [] rfl rfl (fun H locs hP hD hS hz_1 => ?_)
  refine lv_if_eq (tgt := 14) hx hb dX7_camp_4 (by decide) (fun c_2 => ?_) (fun c_2 => ?_)
  · replace hF := if_t c_2 hF
    refine lv_iconst (v := (-1 : Int32)) hx hb dX7_camp_14 (by decide) ?_
    obtain ⟨rfl, rfl, rfl⟩ := pj3 hF
    exact hEnd _ _ _ _ _ dX7_camp_15 hP hS rfl
  · replace hF := if_f c_2 hF
    refine lv_iload_n hx hb dX7_camp_7 rfl (lv_at hl 2 rfl) ?_
    refine xrz0 (xrunS (As := [.int i2]) (rest := []) (c_X7_isAllowed l D cI cB cJ _ i2 (f_X7_isAllowed i2) rfl) hfix xw_990 ys_X7_isAllowed ⟨rfl, rfl⟩ ⟨(Nat.le_of_ble_eq_true rfl), (Nat.le_of_ble_eq_true rfl)⟩ xKk_K (fun U hU hW => xK.warm hW hK) hP hD [] rfl rfl rfl hl.1 rfl (Nat.le_of_ble_eq_true rfl) dX7_camp_8 ⟨Nat.zero_le _, Nat.zero_le _⟩) hP hD hS hA [] rfl rfl (fun H locs hP hD hS hz_3 => ?_)
    refine lv_if_ne (tgt := 16) hx hb dX7_camp_11 (by decide) (fun c_4 => ?_) (fun c_4 => ?_)
    · replace hF := if_f c_4 hF
      refine lv_aload_n hx hb dX7_camp_16 rfl (lv_at hl 0 rfl) ?_
      refine lv_iload_n hx hb dX7_camp_17 rfl (lv_at hl 1 rfl) ?_
      refine lv_iload_n hx hb dX7_camp_18 rfl (lv_at hl 2 rfl) ?_
      obtain ⟨r_5, o_6, o_7, hq_8, hF⟩ := bd3_e hF
      refine xri (xrunV (As := [.int i1, .int i2]) (rest := []) (c_X7_findShares l D cI cB cJ a_t a_t_stand a_t_on a_t_marks a_t_rule a_t_tape a_t_freshStand a_t_freshMarks a_t_freshRule a_t_shares a_t_said a_t_rows a_t_must a_t_sorts a_t_sizes a_t_sheets a_t_holds a_t_heldNumber a_t_heldSize a_t_traced a_t_keptRow a_t_single _ s_t_villages s_t_held s_t_z s_t_tapeMany s_t_sort s_t_begins s_t_tokenEnds s_t_word s_t_value s_t_good s_t_freshVillages s_t_freshHeld s_t_rowMany s_t_mustMany s_t_kind s_t_number s_t_own s_t_bodies s_t_isParted s_t_isKept s_t_movedTo v_t_shares v_t_stand v_t_marks v_t_said i1 i2 r_5 o_6 o_7 hq_8) hfix xw_1024 yv_X7_findShares ⟨rfl, rfl⟩ ⟨(Nat.le_of_ble_eq_true rfl), (Nat.le_of_ble_eq_true rfl)⟩ xKk_K (fun U hU hW => xK.warm hW hK) hK.1 hP hD [0, 1, 2, 3, 4] rfl rfl 0 7 rfl rfl rfl rfl hl.1 rfl (Nat.le_of_ble_eq_true rfl) dX7_camp_19 ⟨Nat.zero_le _, Nat.zero_le _⟩) hP hD hS hA [0, 1, 2, 3, 4] rfl rfl rfl (wn := [(a_t, .inr (7, [.ref a_t_stand, .ref a_t_on, .ref a_t_marks, .int s_t_villages, .int s_t_held, .ref a_t_rule, .int s_t_z, .ref a_t_tape, .int s_t_tapeMany, .int s_t_sort, .int s_t_begins, .int s_t_tokenEnds, .long s_t_word, .int s_t_value, .int s_t_good, .int s_t_freshVillages, .int s_t_freshHeld, .ref a_t_freshStand, .ref a_t_freshMarks, .ref a_t_freshRule, .ref a_t_shares, .ref a_t_said, .ref a_t_rows, .ref a_t_must, .int s_t_rowMany, .int s_t_mustMany, .ref a_t_sorts, .ref a_t_sizes, .ref a_t_sheets, .ref a_t_holds, .ref a_t_heldNumber, .ref a_t_heldSize, .int s_t_kind, .int s_t_number, .int s_t_own, .ref a_t_traced, .int s_t_bodies, .int s_t_isParted, .int s_t_isKept, .ref a_t_keptRow, .int s_t_movedTo, .ref a_t_single])), (a_t_shares, .inl (cI, 10, .inl o_6)), (a_t_stand, .inl (cI, 100, .inl v_t_stand)), (a_t_marks, .inl (cI, 100, .inl v_t_marks)), (a_t_said, .inl (cI, 600, .inl o_7))]) rfl (fun H locs hP hD hS => ?_)
      refine lv_if_ne (tgt := 28) hx hb dX7_camp_22 (by decide) (fun c_9 => ?_) (fun c_9 => ?_)
      · replace hF := if_f c_9 hF
        refine lv_iconst (v := (-1 : Int32)) hx hb dX7_camp_28 (by decide) ?_
        refine lv_istore_n (lv' := [(3, .int (-1 : Int32)), (0, .ref a_t), (1, .int i1), (2, .int i2)]) hx hb dX7_camp_29 rfl hl (by decide) rfl (fun ls hl => ?_)
        refine lv_iconst (v := (0 : Int32)) hx hb dX7_camp_30 (by decide) ?_
        refine lv_istore (lv' := [(4, .int (0 : Int32)), (3, .int (-1 : Int32)), (0, .ref a_t), (1, .int i1), (2, .int i2)]) hx hb dX7_camp_31 hl (by decide) rfl (fun ls hl => ?_)
        refine lv_iconst (v := (0 : Int32)) hx hb dX7_camp_33 (by decide) ?_
        refine lv_istore (lv' := [(5, .int (0 : Int32)), (4, .int (0 : Int32)), (3, .int (-1 : Int32)), (0, .ref a_t), (1, .int i1), (2, .int i2)]) hx hb dX7_camp_34 hl (by decide) rfl (fun ls hl => ?_)
        have hL_36 : ∀ (n : Nat) (x3_10 : Int32) (x4_11 : Int32) (x5_12 : Int32) (y3_13 : Int32), f_X7_camp_L36 s_t_villages o_6 n x3_10 x4_11 x5_12 = some y3_13 → ∀ (H : Heap) (locs : List Loc) (ls : Array Slot), va_P D vwCl [(a_t, .inr (7, [.ref a_t_stand, .ref a_t_on, .ref a_t_marks, .int s_t_villages, .int s_t_held, .ref a_t_rule, .int s_t_z, .ref a_t_tape, .int s_t_tapeMany, .int s_t_sort, .int s_t_begins, .int s_t_tokenEnds, .long s_t_word, .int s_t_value, .int s_t_good, .int s_t_freshVillages, .int s_t_freshHeld, .ref a_t_freshStand, .ref a_t_freshMarks, .ref a_t_freshRule, .ref a_t_shares, .ref a_t_said, .ref a_t_rows, .ref a_t_must, .int s_t_rowMany, .int s_t_mustMany, .ref a_t_sorts, .ref a_t_sizes, .ref a_t_sheets, .ref a_t_holds, .ref a_t_heldNumber, .ref a_t_heldSize, .int s_t_kind, .int s_t_number, .int s_t_own, .ref a_t_traced, .int s_t_bodies, .int s_t_isParted, .int s_t_isKept, .ref a_t_keptRow, .int s_t_movedTo, .ref a_t_single])), (a_t_shares, .inl (cI, 10, .inl o_6)), (a_t_stand, .inl (cI, 100, .inl v_t_stand)), (a_t_marks, .inl (cI, 100, .inl v_t_marks)), (a_t_said, .inl (cI, 600, .inl o_7))] H → va_D A [(a_t, .inr (7, [.ref a_t_stand, .ref a_t_on, .ref a_t_marks, .int s_t_villages, .int s_t_held, .ref a_t_rule, .int s_t_z, .ref a_t_tape, .int s_t_tapeMany, .int s_t_sort, .int s_t_begins, .int s_t_tokenEnds, .long s_t_word, .int s_t_value, .int s_t_good, .int s_t_freshVillages, .int s_t_freshHeld, .ref a_t_freshStand, .ref a_t_freshMarks, .ref a_t_freshRule, .ref a_t_shares, .ref a_t_said, .ref a_t_rows, .ref a_t_must, .int s_t_rowMany, .int s_t_mustMany, .ref a_t_sorts, .ref a_t_sizes, .ref a_t_sheets, .ref a_t_holds, .ref a_t_heldNumber, .ref a_t_heldSize, .int s_t_kind, .int s_t_number, .int s_t_own, .ref a_t_traced, .int s_t_bodies, .int s_t_isParted, .int s_t_isKept, .ref a_t_keptRow, .int s_t_movedTo, .ref a_t_single])), (a_t_shares, .inl (cI, 10, .inl o_6)), (a_t_stand, .inl (cI, 100, .inl v_t_stand)), (a_t_marks, .inl (cI, 100, .inl v_t_marks)), (a_t_said, .inl (cI, 600, .inl o_7))] → va_S A s.heap H locs → lv_has ls 8 [(0, .ref a_t), (3, .int x3_10), (4, .int x4_11), (5, .int x5_12)] → (∀ (H : Heap) (locs : List Loc) (ls : Array Slot), va_P D vwCl [(a_t, .inr (7, [.ref a_t_stand, .ref a_t_on, .ref a_t_marks, .int s_t_villages, .int s_t_held, .ref a_t_rule, .int s_t_z, .ref a_t_tape, .int s_t_tapeMany, .int s_t_sort, .int s_t_begins, .int s_t_tokenEnds, .long s_t_word, .int s_t_value, .int s_t_good, .int s_t_freshVillages, .int s_t_freshHeld, .ref a_t_freshStand, .ref a_t_freshMarks, .ref a_t_freshRule, .ref a_t_shares, .ref a_t_said, .ref a_t_rows, .ref a_t_must, .int s_t_rowMany, .int s_t_mustMany, .ref a_t_sorts, .ref a_t_sizes, .ref a_t_sheets, .ref a_t_holds, .ref a_t_heldNumber, .ref a_t_heldSize, .int s_t_kind, .int s_t_number, .int s_t_own, .ref a_t_traced, .int s_t_bodies, .int s_t_isParted, .int s_t_isKept, .ref a_t_keptRow, .int s_t_movedTo, .ref a_t_single])), (a_t_shares, .inl (cI, 10, .inl o_6)), (a_t_stand, .inl (cI, 100, .inl v_t_stand)), (a_t_marks, .inl (cI, 100, .inl v_t_marks)), (a_t_said, .inl (cI, 600, .inl o_7))] H → va_D A [(a_t, .inr (7, [.ref a_t_stand, .ref a_t_on, .ref a_t_marks, .int s_t_villages, .int s_t_held, .ref a_t_rule, .int s_t_z, .ref a_t_tape, .int s_t_tapeMany, .int s_t_sort, .int s_t_begins, .int s_t_tokenEnds, .long s_t_word, .int s_t_value, .int s_t_good, .int s_t_freshVillages, .int s_t_freshHeld, .ref a_t_freshStand, .ref a_t_freshMarks, .ref a_t_freshRule, .ref a_t_shares, .ref a_t_said, .ref a_t_rows, .ref a_t_must, .int s_t_rowMany, .int s_t_mustMany, .ref a_t_sorts, .ref a_t_sizes, .ref a_t_sheets, .ref a_t_holds, .ref a_t_heldNumber, .ref a_t_heldSize, .int s_t_kind, .int s_t_number, .int s_t_own, .ref a_t_traced, .int s_t_bodies, .int s_t_isParted, .int s_t_isKept, .ref a_t_keptRow, .int s_t_movedTo, .ref a_t_single])), (a_t_shares, .inl (cI, 10, .inl o_6)), (a_t_stand, .inl (cI, 100, .inl v_t_stand)), (a_t_marks, .inl (cI, 100, .inl v_t_marks)), (a_t_said, .inl (cI, 600, .inl o_7))] → va_S A s.heap H locs → lv_has ls 8 [(3, .int y3_13)] → W p l e rmX7_camp s m args below meth c H locs 0 0 Q (F0 m 111 ls [])) → W p l e rmX7_camp s m args below meth c H locs 0 0 Q (F0 m 36 ls []) := by
          intro n
          induction n with
          | zero => intro x3_10 x4_11 x5_12 y3_13 hF; exact (no_some hF).elim
          | succ n ih =>
            intro x3_10 x4_11 x5_12 y3_13 hF H locs ls hP hD hS hl kexit
            rw [f_X7_camp_L36] at hF
            refine lv_iload hx hb dX7_camp_36 (lv_at hl 3 rfl) ?_
            refine lv_aload_n hx hb dX7_camp_38 rfl (lv_at hl 0 rfl) ?_
            refine xget (ci := 7) (C := RX7) (T := TX7) (N := 42) hfix xiX7 hK.1 hP 0 rfl rfl 3 (by decide) rfl xw_691 rfl dX7_camp_39 ?_
            refine lv_icmp_ge (tgt := 111) hx hb dX7_camp_42 (by decide) (fun c_14 => ?_) (fun c_14 => ?_)
            · replace hF := if_t c_14 hF
              obtain rfl := Option.some.inj hF
              exact kexit _ _ _ hP hD hS (lv_sub hl [1] rfl)
            · replace hF := if_f c_14 hF
              refine lv_iconst (v := (0 : Int32)) hx hb dX7_camp_45 (by decide) ?_
              refine lv_istore (lv' := [(6, .int (0 : Int32)), (0, .ref a_t), (3, .int x3_10), (4, .int x4_11), (5, .int x5_12)]) hx hb dX7_camp_46 hl (by decide) rfl (fun ls hl => ?_)
              refine lv_iconst (v := (0 : Int32)) hx hb dX7_camp_48 (by decide) ?_
              refine lv_istore (lv' := [(7, .int (0 : Int32)), (6, .int (0 : Int32)), (0, .ref a_t), (3, .int x3_10), (4, .int x4_11), (5, .int x5_12)]) hx hb dX7_camp_49 hl (by decide) rfl (fun ls hl => ?_)
              have hL_51 : ∀ (n : Nat) (x6_15 : Int32) (x7_16 : Int32) (y6_17 : Int32), f_X7_camp_L51 s_t_villages o_6 x5_12 n x6_15 x7_16 = some y6_17 → ∀ (H : Heap) (locs : List Loc) (ls : Array Slot), va_P D vwCl [(a_t, .inr (7, [.ref a_t_stand, .ref a_t_on, .ref a_t_marks, .int s_t_villages, .int s_t_held, .ref a_t_rule, .int s_t_z, .ref a_t_tape, .int s_t_tapeMany, .int s_t_sort, .int s_t_begins, .int s_t_tokenEnds, .long s_t_word, .int s_t_value, .int s_t_good, .int s_t_freshVillages, .int s_t_freshHeld, .ref a_t_freshStand, .ref a_t_freshMarks, .ref a_t_freshRule, .ref a_t_shares, .ref a_t_said, .ref a_t_rows, .ref a_t_must, .int s_t_rowMany, .int s_t_mustMany, .ref a_t_sorts, .ref a_t_sizes, .ref a_t_sheets, .ref a_t_holds, .ref a_t_heldNumber, .ref a_t_heldSize, .int s_t_kind, .int s_t_number, .int s_t_own, .ref a_t_traced, .int s_t_bodies, .int s_t_isParted, .int s_t_isKept, .ref a_t_keptRow, .int s_t_movedTo, .ref a_t_single])), (a_t_shares, .inl (cI, 10, .inl o_6)), (a_t_stand, .inl (cI, 100, .inl v_t_stand)), (a_t_marks, .inl (cI, 100, .inl v_t_marks)), (a_t_said, .inl (cI, 600, .inl o_7))] H → va_D A [(a_t, .inr (7, [.ref a_t_stand, .ref a_t_on, .ref a_t_marks, .int s_t_villages, .int s_t_held, .ref a_t_rule, .int s_t_z, .ref a_t_tape, .int s_t_tapeMany, .int s_t_sort, .int s_t_begins, .int s_t_tokenEnds, .long s_t_word, .int s_t_value, .int s_t_good, .int s_t_freshVillages, .int s_t_freshHeld, .ref a_t_freshStand, .ref a_t_freshMarks, .ref a_t_freshRule, .ref a_t_shares, .ref a_t_said, .ref a_t_rows, .ref a_t_must, .int s_t_rowMany, .int s_t_mustMany, .ref a_t_sorts, .ref a_t_sizes, .ref a_t_sheets, .ref a_t_holds, .ref a_t_heldNumber, .ref a_t_heldSize, .int s_t_kind, .int s_t_number, .int s_t_own, .ref a_t_traced, .int s_t_bodies, .int s_t_isParted, .int s_t_isKept, .ref a_t_keptRow, .int s_t_movedTo, .ref a_t_single])), (a_t_shares, .inl (cI, 10, .inl o_6)), (a_t_stand, .inl (cI, 100, .inl v_t_stand)), (a_t_marks, .inl (cI, 100, .inl v_t_marks)), (a_t_said, .inl (cI, 600, .inl o_7))] → va_S A s.heap H locs → lv_has ls 8 [(0, .ref a_t), (3, .int x3_10), (4, .int x4_11), (5, .int x5_12), (6, .int x6_15), (7, .int x7_16)] → (∀ (H : Heap) (locs : List Loc) (ls : Array Slot), va_P D vwCl [(a_t, .inr (7, [.ref a_t_stand, .ref a_t_on, .ref a_t_marks, .int s_t_villages, .int s_t_held, .ref a_t_rule, .int s_t_z, .ref a_t_tape, .int s_t_tapeMany, .int s_t_sort, .int s_t_begins, .int s_t_tokenEnds, .long s_t_word, .int s_t_value, .int s_t_good, .int s_t_freshVillages, .int s_t_freshHeld, .ref a_t_freshStand, .ref a_t_freshMarks, .ref a_t_freshRule, .ref a_t_shares, .ref a_t_said, .ref a_t_rows, .ref a_t_must, .int s_t_rowMany, .int s_t_mustMany, .ref a_t_sorts, .ref a_t_sizes, .ref a_t_sheets, .ref a_t_holds, .ref a_t_heldNumber, .ref a_t_heldSize, .int s_t_kind, .int s_t_number, .int s_t_own, .ref a_t_traced, .int s_t_bodies, .int s_t_isParted, .int s_t_isKept, .ref a_t_keptRow, .int s_t_movedTo, .ref a_t_single])), (a_t_shares, .inl (cI, 10, .inl o_6)), (a_t_stand, .inl (cI, 100, .inl v_t_stand)), (a_t_marks, .inl (cI, 100, .inl v_t_marks)), (a_t_said, .inl (cI, 600, .inl o_7))] H → va_D A [(a_t, .inr (7, [.ref a_t_stand, .ref a_t_on, .ref a_t_marks, .int s_t_villages, .int s_t_held, .ref a_t_rule, .int s_t_z, .ref a_t_tape, .int s_t_tapeMany, .int s_t_sort, .int s_t_begins, .int s_t_tokenEnds, .long s_t_word, .int s_t_value, .int s_t_good, .int s_t_freshVillages, .int s_t_freshHeld, .ref a_t_freshStand, .ref a_t_freshMarks, .ref a_t_freshRule, .ref a_t_shares, .ref a_t_said, .ref a_t_rows, .ref a_t_must, .int s_t_rowMany, .int s_t_mustMany, .ref a_t_sorts, .ref a_t_sizes, .ref a_t_sheets, .ref a_t_holds, .ref a_t_heldNumber, .ref a_t_heldSize, .int s_t_kind, .int s_t_number, .int s_t_own, .ref a_t_traced, .int s_t_bodies, .int s_t_isParted, .int s_t_isKept, .ref a_t_keptRow, .int s_t_movedTo, .ref a_t_single])), (a_t_shares, .inl (cI, 10, .inl o_6)), (a_t_stand, .inl (cI, 100, .inl v_t_stand)), (a_t_marks, .inl (cI, 100, .inl v_t_marks)), (a_t_said, .inl (cI, 600, .inl o_7))] → va_S A s.heap H locs → lv_has ls 8 [(0, .ref a_t), (3, .int x3_10), (4, .int x4_11), (5, .int x5_12), (6, .int y6_17)] → W p l e rmX7_camp s m args below meth c H locs 0 0 Q (F0 m 87 ls [])) → W p l e rmX7_camp s m args below meth c H locs 0 0 Q (F0 m 51 ls []) := by
                intro n
                induction n with
                | zero => intro x6_15 x7_16 y6_17 hF; exact (no_some hF).elim
                | succ n ih =>
                  intro x6_15 x7_16 y6_17 hF H locs ls hP hD hS hl kexit
                  rw [f_X7_camp_L51] at hF
                  refine lv_iload hx hb dX7_camp_51 (lv_at hl 5 rfl) ?_
                  refine lv_aload_n hx hb dX7_camp_53 rfl (lv_at hl 0 rfl) ?_
                  refine xget (ci := 7) (C := RX7) (T := TX7) (N := 42) hfix xiX7 hK.1 hP 0 rfl rfl 3 (by decide) rfl xw_691 rfl dX7_camp_54 ?_
                  refine lv_icmp_ge (tgt := 87) hx hb dX7_camp_57 (by decide) (fun c_18 => ?_) (fun c_18 => ?_)
                  · replace hF := if_t c_18 hF
                    obtain rfl := Option.some.inj hF
                    exact kexit _ _ _ hP hD hS (lv_sub hl [0, 1, 2, 3, 4] rfl)
                  · replace hF := if_f c_18 hF
                    refine lv_iload hx hb dX7_camp_60 (lv_at hl 4 rfl) ?_
                    refine lv_aload_n hx hb dX7_camp_62 rfl (lv_at hl 0 rfl) ?_
                    refine xget (ci := 7) (C := RX7) (T := TX7) (N := 42) hfix xiX7 hK.1 hP 0 rfl rfl 20 (by decide) rfl xw_708 rfl dX7_camp_63 ?_
                    refine lv_iload hx hb dX7_camp_66 (lv_at hl 5 rfl) ?_
                    obtain ⟨c_19, hF⟩ := gd_e hF
                    refine va_iald hx hb hK.1 hP 1 0 rfl rfl c_19 dX7_camp_68 ?_
                    refine lv_aload_n hx hb dX7_camp_69 rfl (lv_at hl 0 rfl) ?_
                    refine lv_iload hx hb dX7_camp_70 (lv_at hl 3 rfl) ?_
                    refine lv_iload hx hb dX7_camp_72 (lv_at hl 5 rfl) ?_
                    refine xri0 (xrunV (As := [.int x5_12, .int x7_16]) (rest := [.int (o_6 x7_16.toNatClampNeg), .int x6_15]) (c_X7_apart l D cI cB cJ a_t a_t_stand a_t_on a_t_marks a_t_rule a_t_tape a_t_freshStand a_t_freshMarks a_t_freshRule a_t_shares a_t_said a_t_rows a_t_must a_t_sorts a_t_sizes a_t_sheets a_t_holds a_t_heldNumber a_t_heldSize a_t_traced a_t_keptRow a_t_single _ s_t_villages s_t_held s_t_z s_t_tapeMany s_t_sort s_t_begins s_t_tokenEnds s_t_word s_t_value s_t_good s_t_freshVillages s_t_freshHeld s_t_rowMany s_t_mustMany s_t_kind s_t_number s_t_own s_t_bodies s_t_isParted s_t_isKept s_t_movedTo x5_12 x7_16 (f_X7_apart x5_12 x7_16 s_t_villages) rfl) hfix xw_1058 yv_X7_apart ⟨rfl, rfl⟩ ⟨(Nat.le_of_ble_eq_true rfl), (Nat.le_of_ble_eq_true rfl)⟩ xKk_K (fun U hU hW => xK.warm hW hK) hK.1 hP hD [0] rfl rfl 0 7 rfl rfl rfl rfl hl.1 rfl (Nat.le_of_ble_eq_true rfl) dX7_camp_74 ⟨Nat.zero_le _, Nat.zero_le _⟩) hP hD hS hA [0] rfl rfl (fun H locs hP hD hS => ?_)
                    refine lv_imul hx hb dX7_camp_77 ?_
                    refine lv_iadd hx hb dX7_camp_78 ?_
                    refine lv_istore (lv' := [(6, .int (x6_15 + ((o_6 x7_16.toNatClampNeg) * (f_X7_apart x5_12 x7_16 s_t_villages)))), (0, .ref a_t), (3, .int x3_10), (4, .int x4_11), (5, .int x5_12), (7, .int x7_16)]) hx hb dX7_camp_79 hl (by decide) rfl (fun ls hl => ?_)
                    refine lv_iinc (v := (x7_16 + (1 : Int32))) (lv' := [(7, .int (x7_16 + (1 : Int32))), (6, .int (x6_15 + ((o_6 x7_16.toNatClampNeg) * (f_X7_apart x5_12 x7_16 s_t_villages)))), (0, .ref a_t), (3, .int x3_10), (4, .int x4_11), (5, .int x5_12)]) hx hb dX7_camp_81 hl (k := 5) rfl rfl (by decide) rfl (fun ls hl => ?_)
                    refine lv_goto (tgt := 51) hx hb dX7_camp_84 (by decide) ?_
                    exact ih _ _ _ hF _ _ _ hP hD hS (lv_sub hl [2, 3, 4, 5, 1, 0] rfl) kexit
              obtain ⟨y6_17, hq, hF⟩ := bd1_e hF
              refine hL_51 _ _ _ _ hq _ _ _ hP hD hS (lv_sub hl [2, 3, 4, 5, 1, 0] rfl) (fun H locs ls hP hD hS hl => ?_)
              refine lv_iload_n hx hb dX7_camp_87 rfl (lv_at hl 1 rfl) ?_
              refine lv_if_lt (tgt := 98) hx hb dX7_camp_88 (by decide) (fun c_20 => ?_) (fun c_20 => ?_)
              · replace hF := if_t c_20 hF
                refine lv_iload hx hb dX7_camp_98 (lv_at hl 3 rfl) ?_
                refine lv_istore_n (lv' := [(3, .int x5_12), (0, .ref a_t), (4, .int x4_11), (5, .int x5_12), (6, .int y6_17)]) hx hb dX7_camp_100 rfl hl (by decide) rfl (fun ls hl => ?_)
                refine lv_iload hx hb dX7_camp_101 (lv_at hl 4 rfl) ?_
                refine lv_istore (lv' := [(4, .int y6_17), (3, .int x5_12), (0, .ref a_t), (5, .int x5_12), (6, .int y6_17)]) hx hb dX7_camp_103 hl (by decide) rfl (fun ls hl => ?_)
                refine lv_iinc (v := (x5_12 + (1 : Int32))) (lv' := [(5, .int (x5_12 + (1 : Int32))), (4, .int y6_17), (3, .int x5_12), (0, .ref a_t), (6, .int y6_17)]) hx hb dX7_camp_105 hl (k := 3) rfl rfl (by decide) rfl (fun ls hl => ?_)
                refine lv_goto (tgt := 36) hx hb dX7_camp_108 (by decide) ?_
                exact ih _ _ _ _ hF _ _ _ hP hD hS (lv_sub hl [3, 2, 1, 0] rfl) kexit
              · replace hF := if_f c_20 hF
                refine lv_iload hx hb dX7_camp_91 (lv_at hl 4 rfl) ?_
                refine lv_iload hx hb dX7_camp_93 (lv_at hl 2 rfl) ?_
                refine lv_icmp_ge (tgt := 105) hx hb dX7_camp_95 (by decide) (fun c_21 => ?_) (fun c_21 => ?_)
                · replace hF := if_t c_21 hF
                  refine lv_iinc (v := (x5_12 + (1 : Int32))) (lv' := [(5, .int (x5_12 + (1 : Int32))), (0, .ref a_t), (3, .int x3_10), (4, .int x4_11), (6, .int y6_17)]) hx hb dX7_camp_105 hl (k := 3) rfl rfl (by decide) rfl (fun ls hl => ?_)
                  refine lv_goto (tgt := 36) hx hb dX7_camp_108 (by decide) ?_
                  exact ih _ _ _ _ hF _ _ _ hP hD hS (lv_sub hl [1, 2, 3, 0] rfl) kexit
                · replace hF := if_f c_21 hF
                  refine lv_iload hx hb dX7_camp_98 (lv_at hl 3 rfl) ?_
                  refine lv_istore_n (lv' := [(3, .int x5_12), (0, .ref a_t), (4, .int x4_11), (5, .int x5_12), (6, .int y6_17)]) hx hb dX7_camp_100 rfl hl (by decide) rfl (fun ls hl => ?_)
                  refine lv_iload hx hb dX7_camp_101 (lv_at hl 4 rfl) ?_
                  refine lv_istore (lv' := [(4, .int y6_17), (3, .int x5_12), (0, .ref a_t), (5, .int x5_12), (6, .int y6_17)]) hx hb dX7_camp_103 hl (by decide) rfl (fun ls hl => ?_)
                  refine lv_iinc (v := (x5_12 + (1 : Int32))) (lv' := [(5, .int (x5_12 + (1 : Int32))), (4, .int y6_17), (3, .int x5_12), (0, .ref a_t), (6, .int y6_17)]) hx hb dX7_camp_105 hl (k := 3) rfl rfl (by decide) rfl (fun ls hl => ?_)
                  refine lv_goto (tgt := 36) hx hb dX7_camp_108 (by decide) ?_
                  exact ih _ _ _ _ hF _ _ _ hP hD hS (lv_sub hl [3, 2, 1, 0] rfl) kexit
        obtain ⟨y3_13, hq, hF⟩ := bd1_e hF
        refine hL_36 _ _ _ _ _ hq _ _ _ hP hD hS (lv_sub hl [3, 2, 1, 0] rfl) (fun H locs ls hP hD hS hl => ?_)
        refine lv_iload_n hx hb dX7_camp_111 rfl (lv_at hl 0 rfl) ?_
        obtain ⟨rfl, rfl, rfl⟩ := pj3 hF
        exact hEnd _ _ _ _ _ dX7_camp_112 hP hS rfl
      · replace hF := if_t c_9 hF
        refine lv_bipush (v := (-3 : Int32)) hx hb dX7_camp_25 (by decide) ?_
        obtain ⟨rfl, rfl, rfl⟩ := pj3 hF
        exact hEnd _ _ _ _ _ dX7_camp_27 hP hS rfl
    · replace hF := if_t c_4 hF
      refine lv_iconst (v := (-1 : Int32)) hx hb dX7_camp_14 (by decide) ?_
      obtain ⟨rfl, rfl, rfl⟩ := pj3 hF
      exact hEnd _ _ _ _ _ dX7_camp_15 hP hS rfl
def f_X7_seed (i1 : Int32) (s_t_z : Int32) : Option (Int32 × Int32) := some ((s_t_z, i1))
abbrev rmX7_seed : Room := { frames := 0, cells := 0, slots := 0, locals := 0 }
set_option maxHeartbeats 400000 in
set_option maxRecDepth 100000 in
theorem c_X7_seed (l : Launch) (D : va_G) (cI cB cJ : ClassId) (a_t : Nat) (a_t_stand : Nat) (a_t_on : Nat) (a_t_marks : Nat) (a_t_rule : Nat) (a_t_tape : Nat) (a_t_freshStand : Nat) (a_t_freshMarks : Nat) (a_t_freshRule : Nat) (a_t_shares : Nat) (a_t_said : Nat) (a_t_rows : Nat) (a_t_must : Nat) (a_t_sorts : Nat) (a_t_sizes : Nat) (a_t_sheets : Nat) (a_t_holds : Nat) (a_t_heldNumber : Nat) (a_t_heldSize : Nat) (a_t_traced : Nat) (a_t_keptRow : Nat) (a_t_single : Nat) (sz : Nat) (s_t_villages : Int32) (s_t_held : Int32) (s_t_z : Int32) (s_t_tapeMany : Int32) (s_t_sort : Int32) (s_t_begins : Int32) (s_t_tokenEnds : Int32) (s_t_word : Int64) (s_t_value : Int32) (s_t_good : Int32) (s_t_freshVillages : Int32) (s_t_freshHeld : Int32) (s_t_rowMany : Int32) (s_t_mustMany : Int32) (s_t_kind : Int32) (s_t_number : Int32) (s_t_own : Int32) (s_t_bodies : Int32) (s_t_isParted : Int32) (s_t_isKept : Int32) (s_t_movedTo : Int32) (i1 : Int32) (r : Int32) (o_s_t_z : Int32) (hF : f_X7_seed i1 s_t_z = some (r, o_s_t_z)) : xMi l yX7_seed (.code yX7_seed cX7_seed 3 (some .int) :: xU) rmX7_seed (xK D cI cB cJ) D sz [.ref a_t, .int i1] [(a_t, .inr (7, [.ref a_t_stand, .ref a_t_on, .ref a_t_marks, .int s_t_villages, .int s_t_held, .ref a_t_rule, .int s_t_z, .ref a_t_tape, .int s_t_tapeMany, .int s_t_sort, .int s_t_begins, .int s_t_tokenEnds, .long s_t_word, .int s_t_value, .int s_t_good, .int s_t_freshVillages, .int s_t_freshHeld, .ref a_t_freshStand, .ref a_t_freshMarks, .ref a_t_freshRule, .ref a_t_shares, .ref a_t_said, .ref a_t_rows, .ref a_t_must, .int s_t_rowMany, .int s_t_mustMany, .ref a_t_sorts, .ref a_t_sizes, .ref a_t_sheets, .ref a_t_holds, .ref a_t_heldNumber, .ref a_t_heldSize, .int s_t_kind, .int s_t_number, .int s_t_own, .ref a_t_traced, .int s_t_bodies, .int s_t_isParted, .int s_t_isKept, .ref a_t_keptRow, .int s_t_movedTo, .ref a_t_single]))] [(a_t, .inr (7, [.ref a_t_stand, .ref a_t_on, .ref a_t_marks, .int s_t_villages, .int s_t_held, .ref a_t_rule, .int o_s_t_z, .ref a_t_tape, .int s_t_tapeMany, .int s_t_sort, .int s_t_begins, .int s_t_tokenEnds, .long s_t_word, .int s_t_value, .int s_t_good, .int s_t_freshVillages, .int s_t_freshHeld, .ref a_t_freshStand, .ref a_t_freshMarks, .ref a_t_freshRule, .ref a_t_shares, .ref a_t_said, .ref a_t_rows, .ref a_t_must, .int s_t_rowMany, .int s_t_mustMany, .ref a_t_sorts, .ref a_t_sizes, .ref a_t_sheets, .ref a_t_holds, .ref a_t_heldNumber, .ref a_t_heldSize, .int s_t_kind, .int s_t_number, .int s_t_own, .ref a_t_traced, .int s_t_bodies, .int s_t_isParted, .int s_t_isKept, .ref a_t_keptRow, .int s_t_movedTo, .ref a_t_single]))] r := by
  refine xMi.mk (own := "FairNextModel") (by decide +kernel) rfl (Nat.le_of_ble_eq_true rfl) ?_
  intro p e s m args below meth c A Q ls H hfix hK hP hD hA hS hl hEnd
  obtain ⟨hx, hb, hml, hown, hts⟩ := id hfix
  have hl : lv_has ls 3 [(0, .ref a_t), (1, .int i1)] := hl
  rw [f_X7_seed] at hF
  refine lv_aload_n hx hb dX7_seed_0 rfl (lv_at hl 0 rfl) ?_
  refine xget (ci := 7) (C := RX7) (T := TX7) (N := 42) hfix xiX7 hK.1 hP 0 rfl rfl 6 (by decide) rfl xw_694 rfl dX7_seed_1 ?_
  refine lv_istore_n (lv' := [(2, .int s_t_z), (0, .ref a_t), (1, .int i1)]) hx hb dX7_seed_4 rfl hl (by decide) rfl (fun ls hl => ?_)
  refine lv_aload_n hx hb dX7_seed_5 rfl (lv_at hl 1 rfl) ?_
  refine lv_iload_n hx hb dX7_seed_6 rfl (lv_at hl 2 rfl) ?_
  refine xput (ci := 7) (C := RX7) (T := TX7) (N := 42) hfix xiX7 tyX7 tyX7_ok nmX7 hK.1 hP hD hS 0 rfl rfl 6 (by decide) rfl rfl xw_694 (ty := .int) rfl rfl rfl (Nat.le_of_ble_eq_true rfl) dX7_seed_7 (wn := [(a_t, .inr (7, [.ref a_t_stand, .ref a_t_on, .ref a_t_marks, .int s_t_villages, .int s_t_held, .ref a_t_rule, .int i1, .ref a_t_tape, .int s_t_tapeMany, .int s_t_sort, .int s_t_begins, .int s_t_tokenEnds, .long s_t_word, .int s_t_value, .int s_t_good, .int s_t_freshVillages, .int s_t_freshHeld, .ref a_t_freshStand, .ref a_t_freshMarks, .ref a_t_freshRule, .ref a_t_shares, .ref a_t_said, .ref a_t_rows, .ref a_t_must, .int s_t_rowMany, .int s_t_mustMany, .ref a_t_sorts, .ref a_t_sizes, .ref a_t_sheets, .ref a_t_holds, .ref a_t_heldNumber, .ref a_t_heldSize, .int s_t_kind, .int s_t_number, .int s_t_own, .ref a_t_traced, .int s_t_bodies, .int s_t_isParted, .int s_t_isKept, .ref a_t_keptRow, .int s_t_movedTo, .ref a_t_single]))]) rfl (fun H locs hP hD hS => ?_)
  refine lv_iload_n hx hb dX7_seed_10 rfl (lv_at hl 0 rfl) ?_
  obtain ⟨rfl, rfl⟩ := pj2 hF
  exact hEnd _ _ _ _ _ dX7_seed_11 hP hS rfl
def f_X7_draw_L60 (o_7 : (Nat → Int32)) : Nat → Int32 → Int32 → Option (Int32)
  | 0, _, _ => none
  | n + 1, x4_11, x5_12 => gd x5_12 600 ((if (o_7 x5_12.toNatClampNeg) < (0 : Int32) then gd x5_12 600 ((if (0 : Int32) ≤ (o_7 x5_12.toNatClampNeg) then f_X7_draw_L60 o_7 n (x4_11 - (f_X7_shareOf x5_12)) (x5_12 + (1 : Int32)) else f_X7_draw_L60 o_7 n (x4_11 - (0 : Int32)) (x5_12 + (1 : Int32)))) else (if x4_11 < (f_X7_shareOf x5_12) then some (x5_12) else gd x5_12 600 ((if (0 : Int32) ≤ (o_7 x5_12.toNatClampNeg) then f_X7_draw_L60 o_7 n (x4_11 - (f_X7_shareOf x5_12)) (x5_12 + (1 : Int32)) else f_X7_draw_L60 o_7 n (x4_11 - (0 : Int32)) (x5_12 + (1 : Int32)))))))
def f_X7_draw (i1 : Int32) (i2 : Int32) (s_t_villages : Int32) (s_t_z : Int32) (v_t_shares : (Nat → Int32)) (v_t_stand : (Nat → Int32)) (v_t_marks : (Nat → Int32)) (v_t_said : (Nat → Int32)) : Option (Int32 × Int32 × (Nat → Int32) × (Nat → Int32)) := (if (f_X7_isLong i1) = (0 : Int32) then some (((-1 : Int32), s_t_z, v_t_shares, v_t_said)) else (if (f_X7_isAllowed i2) = (0 : Int32) then some (((-1 : Int32), s_t_z, v_t_shares, v_t_said)) else bd3 (f_X7_findShares i1 i2 s_t_villages v_t_shares v_t_stand v_t_marks v_t_said) (fun (r_5 : Int32) (o_6 : (Nat → Int32)) (o_7 : (Nat → Int32)) => (if r_5 = (0 : Int32) then some (((-3 : Int32), s_t_z, o_6, o_7)) else gz r_5 (bd1 (f_X7_draw_L60 o_7 1000 (xrem (((((s_t_z * (1103515245 : Int32)) + (12345 : Int32))).toUInt32 >>> (((16 : Int32)).toUInt32 &&& Int32.toUInt32 31)).toInt32) r_5) (0 : Int32)) (fun (y5_13 : Int32) => gd y5_13 600 (some (((o_7 y5_13.toNatClampNeg), ((s_t_z * (1103515245 : Int32)) + (12345 : Int32)), o_6, o_7)))))))))
abbrev rmX7_draw : Room := { frames := 5, cells := 0, slots := 0, locals := 120 }
set_option maxHeartbeats 400000 in
set_option maxRecDepth 100000 in
theorem c_X7_draw (l : Launch) (D : va_G) (cI cB cJ : ClassId) (a_t : Nat) (a_t_stand : Nat) (a_t_on : Nat) (a_t_marks : Nat) (a_t_rule : Nat) (a_t_tape : Nat) (a_t_freshStand : Nat) (a_t_freshMarks : Nat) (a_t_freshRule : Nat) (a_t_shares : Nat) (a_t_said : Nat) (a_t_rows : Nat) (a_t_must : Nat) (a_t_sorts : Nat) (a_t_sizes : Nat) (a_t_sheets : Nat) (a_t_holds : Nat) (a_t_heldNumber : Nat) (a_t_heldSize : Nat) (a_t_traced : Nat) (a_t_keptRow : Nat) (a_t_single : Nat) (sz : Nat) (s_t_villages : Int32) (s_t_held : Int32) (s_t_z : Int32) (s_t_tapeMany : Int32) (s_t_sort : Int32) (s_t_begins : Int32) (s_t_tokenEnds : Int32) (s_t_word : Int64) (s_t_value : Int32) (s_t_good : Int32) (s_t_freshVillages : Int32) (s_t_freshHeld : Int32) (s_t_rowMany : Int32) (s_t_mustMany : Int32) (s_t_kind : Int32) (s_t_number : Int32) (s_t_own : Int32) (s_t_bodies : Int32) (s_t_isParted : Int32) (s_t_isKept : Int32) (s_t_movedTo : Int32) (v_t_shares : (Nat → Int32)) (v_t_stand : (Nat → Int32)) (v_t_marks : (Nat → Int32)) (v_t_said : (Nat → Int32)) (i1 : Int32) (i2 : Int32) (r : Int32) (o_s_t_z : Int32) (o_v_t_shares : (Nat → Int32)) (o_v_t_said : (Nat → Int32)) (hF : f_X7_draw i1 i2 s_t_villages s_t_z v_t_shares v_t_stand v_t_marks v_t_said = some (r, o_s_t_z, o_v_t_shares, o_v_t_said)) : xMi l yX7_draw (.code yX7_draw cX7_draw 6 (some .int) :: xU) rmX7_draw (xK D cI cB cJ) D sz [.ref a_t, .int i1, .int i2] [(a_t, .inr (7, [.ref a_t_stand, .ref a_t_on, .ref a_t_marks, .int s_t_villages, .int s_t_held, .ref a_t_rule, .int s_t_z, .ref a_t_tape, .int s_t_tapeMany, .int s_t_sort, .int s_t_begins, .int s_t_tokenEnds, .long s_t_word, .int s_t_value, .int s_t_good, .int s_t_freshVillages, .int s_t_freshHeld, .ref a_t_freshStand, .ref a_t_freshMarks, .ref a_t_freshRule, .ref a_t_shares, .ref a_t_said, .ref a_t_rows, .ref a_t_must, .int s_t_rowMany, .int s_t_mustMany, .ref a_t_sorts, .ref a_t_sizes, .ref a_t_sheets, .ref a_t_holds, .ref a_t_heldNumber, .ref a_t_heldSize, .int s_t_kind, .int s_t_number, .int s_t_own, .ref a_t_traced, .int s_t_bodies, .int s_t_isParted, .int s_t_isKept, .ref a_t_keptRow, .int s_t_movedTo, .ref a_t_single])), (a_t_shares, .inl (cI, 10, .inl v_t_shares)), (a_t_stand, .inl (cI, 100, .inl v_t_stand)), (a_t_marks, .inl (cI, 100, .inl v_t_marks)), (a_t_said, .inl (cI, 600, .inl v_t_said))] [(a_t, .inr (7, [.ref a_t_stand, .ref a_t_on, .ref a_t_marks, .int s_t_villages, .int s_t_held, .ref a_t_rule, .int o_s_t_z, .ref a_t_tape, .int s_t_tapeMany, .int s_t_sort, .int s_t_begins, .int s_t_tokenEnds, .long s_t_word, .int s_t_value, .int s_t_good, .int s_t_freshVillages, .int s_t_freshHeld, .ref a_t_freshStand, .ref a_t_freshMarks, .ref a_t_freshRule, .ref a_t_shares, .ref a_t_said, .ref a_t_rows, .ref a_t_must, .int s_t_rowMany, .int s_t_mustMany, .ref a_t_sorts, .ref a_t_sizes, .ref a_t_sheets, .ref a_t_holds, .ref a_t_heldNumber, .ref a_t_heldSize, .int s_t_kind, .int s_t_number, .int s_t_own, .ref a_t_traced, .int s_t_bodies, .int s_t_isParted, .int s_t_isKept, .ref a_t_keptRow, .int s_t_movedTo, .ref a_t_single])), (a_t_shares, .inl (cI, 10, .inl o_v_t_shares)), (a_t_stand, .inl (cI, 100, .inl v_t_stand)), (a_t_marks, .inl (cI, 100, .inl v_t_marks)), (a_t_said, .inl (cI, 600, .inl o_v_t_said))] r := by
  refine xMi.mk (own := "FairNextModel") (by decide +kernel) rfl (Nat.le_of_ble_eq_true rfl) ?_
  intro p e s m args below meth c A Q ls H hfix hK hP hD hA hS hl hEnd
  obtain ⟨hx, hb, hml, hown, hts⟩ := id hfix
  have hl : lv_has ls 6 [(0, .ref a_t), (1, .int i1), (2, .int i2)] := hl
  rw [f_X7_draw] at hF
  refine lv_iload_n hx hb dX7_draw_0 rfl (lv_at hl 1 rfl) ?_
  refine xrz0 (xrunS (As := [.int i1]) (rest := []) (c_X7_isLong l D cI cB cJ _ i1 (f_X7_isLong i1) rfl) hfix xw_951 ys_X7_isLong ⟨rfl, rfl⟩ ⟨(Nat.le_of_ble_eq_true rfl), (Nat.le_of_ble_eq_true rfl)⟩ xKk_K (fun U hU hW => xK.warm hW hK) hP hD [] rfl rfl rfl hl.1 rfl (Nat.le_of_ble_eq_true rfl) dX7_draw_1 ⟨Nat.zero_le _, Nat.zero_le _⟩) hP hD hS hA [] rfl rfl (fun H locs hP hD hS hz_1 => ?_)
  refine lv_if_eq (tgt := 14) hx hb dX7_draw_4 (by decide) (fun c_2 => ?_) (fun c_2 => ?_)
  · replace hF := if_t c_2 hF
    refine lv_iconst (v := (-1 : Int32)) hx hb dX7_draw_14 (by decide) ?_
    obtain ⟨rfl, rfl, rfl, rfl⟩ := pj4 hF
    exact hEnd _ _ _ _ _ dX7_draw_15 hP hS rfl
  · replace hF := if_f c_2 hF
    refine lv_iload_n hx hb dX7_draw_7 rfl (lv_at hl 2 rfl) ?_
    refine xrz0 (xrunS (As := [.int i2]) (rest := []) (c_X7_isAllowed l D cI cB cJ _ i2 (f_X7_isAllowed i2) rfl) hfix xw_990 ys_X7_isAllowed ⟨rfl, rfl⟩ ⟨(Nat.le_of_ble_eq_true rfl), (Nat.le_of_ble_eq_true rfl)⟩ xKk_K (fun U hU hW => xK.warm hW hK) hP hD [] rfl rfl rfl hl.1 rfl (Nat.le_of_ble_eq_true rfl) dX7_draw_8 ⟨Nat.zero_le _, Nat.zero_le _⟩) hP hD hS hA [] rfl rfl (fun H locs hP hD hS hz_3 => ?_)
    refine lv_if_ne (tgt := 16) hx hb dX7_draw_11 (by decide) (fun c_4 => ?_) (fun c_4 => ?_)
    · replace hF := if_f c_4 hF
      refine lv_aload_n hx hb dX7_draw_16 rfl (lv_at hl 0 rfl) ?_
      refine lv_iload_n hx hb dX7_draw_17 rfl (lv_at hl 1 rfl) ?_
      refine lv_iload_n hx hb dX7_draw_18 rfl (lv_at hl 2 rfl) ?_
      obtain ⟨r_5, o_6, o_7, hq_8, hF⟩ := bd3_e hF
      refine xri (xrunV (As := [.int i1, .int i2]) (rest := []) (c_X7_findShares l D cI cB cJ a_t a_t_stand a_t_on a_t_marks a_t_rule a_t_tape a_t_freshStand a_t_freshMarks a_t_freshRule a_t_shares a_t_said a_t_rows a_t_must a_t_sorts a_t_sizes a_t_sheets a_t_holds a_t_heldNumber a_t_heldSize a_t_traced a_t_keptRow a_t_single _ s_t_villages s_t_held s_t_z s_t_tapeMany s_t_sort s_t_begins s_t_tokenEnds s_t_word s_t_value s_t_good s_t_freshVillages s_t_freshHeld s_t_rowMany s_t_mustMany s_t_kind s_t_number s_t_own s_t_bodies s_t_isParted s_t_isKept s_t_movedTo v_t_shares v_t_stand v_t_marks v_t_said i1 i2 r_5 o_6 o_7 hq_8) hfix xw_1024 yv_X7_findShares ⟨rfl, rfl⟩ ⟨(Nat.le_of_ble_eq_true rfl), (Nat.le_of_ble_eq_true rfl)⟩ xKk_K (fun U hU hW => xK.warm hW hK) hK.1 hP hD [0, 1, 2, 3, 4] rfl rfl 0 7 rfl rfl rfl rfl hl.1 rfl (Nat.le_of_ble_eq_true rfl) dX7_draw_19 ⟨Nat.zero_le _, Nat.zero_le _⟩) hP hD hS hA [0, 1, 2, 3, 4] rfl rfl rfl (wn := [(a_t, .inr (7, [.ref a_t_stand, .ref a_t_on, .ref a_t_marks, .int s_t_villages, .int s_t_held, .ref a_t_rule, .int s_t_z, .ref a_t_tape, .int s_t_tapeMany, .int s_t_sort, .int s_t_begins, .int s_t_tokenEnds, .long s_t_word, .int s_t_value, .int s_t_good, .int s_t_freshVillages, .int s_t_freshHeld, .ref a_t_freshStand, .ref a_t_freshMarks, .ref a_t_freshRule, .ref a_t_shares, .ref a_t_said, .ref a_t_rows, .ref a_t_must, .int s_t_rowMany, .int s_t_mustMany, .ref a_t_sorts, .ref a_t_sizes, .ref a_t_sheets, .ref a_t_holds, .ref a_t_heldNumber, .ref a_t_heldSize, .int s_t_kind, .int s_t_number, .int s_t_own, .ref a_t_traced, .int s_t_bodies, .int s_t_isParted, .int s_t_isKept, .ref a_t_keptRow, .int s_t_movedTo, .ref a_t_single])), (a_t_shares, .inl (cI, 10, .inl o_6)), (a_t_stand, .inl (cI, 100, .inl v_t_stand)), (a_t_marks, .inl (cI, 100, .inl v_t_marks)), (a_t_said, .inl (cI, 600, .inl o_7))]) rfl (fun H locs hP hD hS => ?_)
      refine lv_istore_n (lv' := [(3, .int r_5), (0, .ref a_t), (1, .int i1), (2, .int i2)]) hx hb dX7_draw_22 rfl hl (by decide) rfl (fun ls hl => ?_)
      refine lv_iload_n hx hb dX7_draw_23 rfl (lv_at hl 0 rfl) ?_
      refine lv_if_ne (tgt := 30) hx hb dX7_draw_24 (by decide) (fun c_9 => ?_) (fun c_9 => ?_)
      · replace hF := if_f c_9 hF
        refine lv_aload_n hx hb dX7_draw_30 rfl (lv_at hl 1 rfl) ?_
        refine lv_aload_n hx hb dX7_draw_31 rfl (lv_at hl 1 rfl) ?_
        refine xget (ci := 7) (C := RX7) (T := TX7) (N := 42) hfix xiX7 hK.1 hP 0 rfl rfl 6 (by decide) rfl xw_694 rfl dX7_draw_32 ?_
        refine lv_ldcw (v := (1103515245 : Int32)) hx hb hown (hts _ (List.mem_cons_of_mem _ xk_1070)) dX7_draw_35 ?_
        refine lv_imul hx hb dX7_draw_38 ?_
        refine lv_sipush (v := (12345 : Int32)) hx hb dX7_draw_39 (by decide) ?_
        refine lv_iadd hx hb dX7_draw_42 ?_
        refine xput (ci := 7) (C := RX7) (T := TX7) (N := 42) hfix xiX7 tyX7 tyX7_ok nmX7 hK.1 hP hD hS 0 rfl rfl 6 (by decide) rfl rfl xw_694 (ty := .int) rfl rfl rfl (Nat.le_of_ble_eq_true rfl) dX7_draw_43 (wn := [(a_t, .inr (7, [.ref a_t_stand, .ref a_t_on, .ref a_t_marks, .int s_t_villages, .int s_t_held, .ref a_t_rule, .int ((s_t_z * (1103515245 : Int32)) + (12345 : Int32)), .ref a_t_tape, .int s_t_tapeMany, .int s_t_sort, .int s_t_begins, .int s_t_tokenEnds, .long s_t_word, .int s_t_value, .int s_t_good, .int s_t_freshVillages, .int s_t_freshHeld, .ref a_t_freshStand, .ref a_t_freshMarks, .ref a_t_freshRule, .ref a_t_shares, .ref a_t_said, .ref a_t_rows, .ref a_t_must, .int s_t_rowMany, .int s_t_mustMany, .ref a_t_sorts, .ref a_t_sizes, .ref a_t_sheets, .ref a_t_holds, .ref a_t_heldNumber, .ref a_t_heldSize, .int s_t_kind, .int s_t_number, .int s_t_own, .ref a_t_traced, .int s_t_bodies, .int s_t_isParted, .int s_t_isKept, .ref a_t_keptRow, .int s_t_movedTo, .ref a_t_single])), (a_t_shares, .inl (cI, 10, .inl o_6)), (a_t_stand, .inl (cI, 100, .inl v_t_stand)), (a_t_marks, .inl (cI, 100, .inl v_t_marks)), (a_t_said, .inl (cI, 600, .inl o_7))]) rfl (fun H locs hP hD hS => ?_)
        refine lv_aload_n hx hb dX7_draw_46 rfl (lv_at hl 1 rfl) ?_
        refine xget (ci := 7) (C := RX7) (T := TX7) (N := 42) hfix xiX7 hK.1 hP 0 rfl rfl 6 (by decide) rfl xw_694 rfl dX7_draw_47 ?_
        refine lv_bipush (v := (16 : Int32)) hx hb dX7_draw_50 (by decide) ?_
        refine lv_iushr (v := (((((s_t_z * (1103515245 : Int32)) + (12345 : Int32))).toUInt32 >>> (((16 : Int32)).toUInt32 &&& Int32.toUInt32 31)).toInt32)) hx hb dX7_draw_52 rfl ?_
        refine lv_iload_n hx hb dX7_draw_53 rfl (lv_at hl 0 rfl) ?_
        obtain ⟨c_10, hF⟩ := gz_e hF
        refine lv_irem hx hb dX7_draw_54 c_10 ?_
        refine lv_istore (lv' := [(4, .int (xrem (((((s_t_z * (1103515245 : Int32)) + (12345 : Int32))).toUInt32 >>> (((16 : Int32)).toUInt32 &&& Int32.toUInt32 31)).toInt32) r_5)), (3, .int r_5), (0, .ref a_t), (1, .int i1), (2, .int i2)]) hx hb dX7_draw_55 hl (by decide) rfl (fun ls hl => ?_)
        refine lv_iconst (v := (0 : Int32)) hx hb dX7_draw_57 (by decide) ?_
        refine lv_istore (lv' := [(5, .int (0 : Int32)), (4, .int (xrem (((((s_t_z * (1103515245 : Int32)) + (12345 : Int32))).toUInt32 >>> (((16 : Int32)).toUInt32 &&& Int32.toUInt32 31)).toInt32) r_5)), (3, .int r_5), (0, .ref a_t), (1, .int i1), (2, .int i2)]) hx hb dX7_draw_58 hl (by decide) rfl (fun ls hl => ?_)
        have hL_60 : ∀ (n : Nat) (x4_11 : Int32) (x5_12 : Int32) (y5_13 : Int32), f_X7_draw_L60 o_7 n x4_11 x5_12 = some y5_13 → ∀ (H : Heap) (locs : List Loc) (ls : Array Slot), va_P D vwCl [(a_t, .inr (7, [.ref a_t_stand, .ref a_t_on, .ref a_t_marks, .int s_t_villages, .int s_t_held, .ref a_t_rule, .int ((s_t_z * (1103515245 : Int32)) + (12345 : Int32)), .ref a_t_tape, .int s_t_tapeMany, .int s_t_sort, .int s_t_begins, .int s_t_tokenEnds, .long s_t_word, .int s_t_value, .int s_t_good, .int s_t_freshVillages, .int s_t_freshHeld, .ref a_t_freshStand, .ref a_t_freshMarks, .ref a_t_freshRule, .ref a_t_shares, .ref a_t_said, .ref a_t_rows, .ref a_t_must, .int s_t_rowMany, .int s_t_mustMany, .ref a_t_sorts, .ref a_t_sizes, .ref a_t_sheets, .ref a_t_holds, .ref a_t_heldNumber, .ref a_t_heldSize, .int s_t_kind, .int s_t_number, .int s_t_own, .ref a_t_traced, .int s_t_bodies, .int s_t_isParted, .int s_t_isKept, .ref a_t_keptRow, .int s_t_movedTo, .ref a_t_single])), (a_t_shares, .inl (cI, 10, .inl o_6)), (a_t_stand, .inl (cI, 100, .inl v_t_stand)), (a_t_marks, .inl (cI, 100, .inl v_t_marks)), (a_t_said, .inl (cI, 600, .inl o_7))] H → va_D A [(a_t, .inr (7, [.ref a_t_stand, .ref a_t_on, .ref a_t_marks, .int s_t_villages, .int s_t_held, .ref a_t_rule, .int ((s_t_z * (1103515245 : Int32)) + (12345 : Int32)), .ref a_t_tape, .int s_t_tapeMany, .int s_t_sort, .int s_t_begins, .int s_t_tokenEnds, .long s_t_word, .int s_t_value, .int s_t_good, .int s_t_freshVillages, .int s_t_freshHeld, .ref a_t_freshStand, .ref a_t_freshMarks, .ref a_t_freshRule, .ref a_t_shares, .ref a_t_said, .ref a_t_rows, .ref a_t_must, .int s_t_rowMany, .int s_t_mustMany, .ref a_t_sorts, .ref a_t_sizes, .ref a_t_sheets, .ref a_t_holds, .ref a_t_heldNumber, .ref a_t_heldSize, .int s_t_kind, .int s_t_number, .int s_t_own, .ref a_t_traced, .int s_t_bodies, .int s_t_isParted, .int s_t_isKept, .ref a_t_keptRow, .int s_t_movedTo, .ref a_t_single])), (a_t_shares, .inl (cI, 10, .inl o_6)), (a_t_stand, .inl (cI, 100, .inl v_t_stand)), (a_t_marks, .inl (cI, 100, .inl v_t_marks)), (a_t_said, .inl (cI, 600, .inl o_7))] → va_S A s.heap H locs → lv_has ls 6 [(0, .ref a_t), (4, .int x4_11), (5, .int x5_12)] → (∀ (H : Heap) (locs : List Loc) (ls : Array Slot), va_P D vwCl [(a_t, .inr (7, [.ref a_t_stand, .ref a_t_on, .ref a_t_marks, .int s_t_villages, .int s_t_held, .ref a_t_rule, .int ((s_t_z * (1103515245 : Int32)) + (12345 : Int32)), .ref a_t_tape, .int s_t_tapeMany, .int s_t_sort, .int s_t_begins, .int s_t_tokenEnds, .long s_t_word, .int s_t_value, .int s_t_good, .int s_t_freshVillages, .int s_t_freshHeld, .ref a_t_freshStand, .ref a_t_freshMarks, .ref a_t_freshRule, .ref a_t_shares, .ref a_t_said, .ref a_t_rows, .ref a_t_must, .int s_t_rowMany, .int s_t_mustMany, .ref a_t_sorts, .ref a_t_sizes, .ref a_t_sheets, .ref a_t_holds, .ref a_t_heldNumber, .ref a_t_heldSize, .int s_t_kind, .int s_t_number, .int s_t_own, .ref a_t_traced, .int s_t_bodies, .int s_t_isParted, .int s_t_isKept, .ref a_t_keptRow, .int s_t_movedTo, .ref a_t_single])), (a_t_shares, .inl (cI, 10, .inl o_6)), (a_t_stand, .inl (cI, 100, .inl v_t_stand)), (a_t_marks, .inl (cI, 100, .inl v_t_marks)), (a_t_said, .inl (cI, 600, .inl o_7))] H → va_D A [(a_t, .inr (7, [.ref a_t_stand, .ref a_t_on, .ref a_t_marks, .int s_t_villages, .int s_t_held, .ref a_t_rule, .int ((s_t_z * (1103515245 : Int32)) + (12345 : Int32)), .ref a_t_tape, .int s_t_tapeMany, .int s_t_sort, .int s_t_begins, .int s_t_tokenEnds, .long s_t_word, .int s_t_value, .int s_t_good, .int s_t_freshVillages, .int s_t_freshHeld, .ref a_t_freshStand, .ref a_t_freshMarks, .ref a_t_freshRule, .ref a_t_shares, .ref a_t_said, .ref a_t_rows, .ref a_t_must, .int s_t_rowMany, .int s_t_mustMany, .ref a_t_sorts, .ref a_t_sizes, .ref a_t_sheets, .ref a_t_holds, .ref a_t_heldNumber, .ref a_t_heldSize, .int s_t_kind, .int s_t_number, .int s_t_own, .ref a_t_traced, .int s_t_bodies, .int s_t_isParted, .int s_t_isKept, .ref a_t_keptRow, .int s_t_movedTo, .ref a_t_single])), (a_t_shares, .inl (cI, 10, .inl o_6)), (a_t_stand, .inl (cI, 100, .inl v_t_stand)), (a_t_marks, .inl (cI, 100, .inl v_t_marks)), (a_t_said, .inl (cI, 600, .inl o_7))] → va_S A s.heap H locs → lv_has ls 6 [(0, .ref a_t), (5, .int y5_13)] → W p l e rmX7_draw s m args below meth c H locs 0 0 Q (F0 m 110 ls [])) → W p l e rmX7_draw s m args below meth c H locs 0 0 Q (F0 m 60 ls []) := by
          intro n
          induction n with
          | zero => intro x4_11 x5_12 y5_13 hF; exact (no_some hF).elim
          | succ n ih =>
            intro x4_11 x5_12 y5_13 hF H locs ls hP hD hS hl kexit
            rw [f_X7_draw_L60] at hF
            refine lv_aload_n hx hb dX7_draw_60 rfl (lv_at hl 0 rfl) ?_
            refine xget (ci := 7) (C := RX7) (T := TX7) (N := 42) hfix xiX7 hK.1 hP 0 rfl rfl 21 (by decide) rfl xw_709 rfl dX7_draw_61 ?_
            refine lv_iload hx hb dX7_draw_64 (lv_at hl 2 rfl) ?_
            obtain ⟨c_14, hF⟩ := gd_e hF
            refine va_iald hx hb hK.1 hP 4 0 rfl rfl c_14 dX7_draw_66 ?_
            refine lv_if_lt (tgt := 80) hx hb dX7_draw_67 (by decide) (fun c_15 => ?_) (fun c_15 => ?_)
            · replace hF := if_t c_15 hF
              refine lv_iload hx hb dX7_draw_80 (lv_at hl 1 rfl) ?_
              refine lv_aload_n hx hb dX7_draw_82 rfl (lv_at hl 0 rfl) ?_
              refine xget (ci := 7) (C := RX7) (T := TX7) (N := 42) hfix xiX7 hK.1 hP 0 rfl rfl 21 (by decide) rfl xw_709 rfl dX7_draw_83 ?_
              refine lv_iload hx hb dX7_draw_86 (lv_at hl 2 rfl) ?_
              obtain ⟨c_16, hF⟩ := gd_e hF
              refine va_iald hx hb hK.1 hP 4 0 rfl rfl c_16 dX7_draw_88 ?_
              refine lv_if_ge (tgt := 96) hx hb dX7_draw_89 (by decide) (fun c_17 => ?_) (fun c_17 => ?_)
              · replace hF := if_t c_17 hF
                refine lv_iload hx hb dX7_draw_96 (lv_at hl 2 rfl) ?_
                refine xri0 (xrunS (As := [.int x5_12]) (rest := [.int x4_11]) (c_X7_shareOf l D cI cB cJ _ x5_12 (f_X7_shareOf x5_12) rfl) hfix xw_1028 ys_X7_shareOf ⟨rfl, rfl⟩ ⟨(Nat.le_of_ble_eq_true rfl), (Nat.le_of_ble_eq_true rfl)⟩ xKk_K (fun U hU hW => xK.warm hW hK) hP hD [] rfl rfl rfl hl.1 rfl (Nat.le_of_ble_eq_true rfl) dX7_draw_98 ⟨Nat.zero_le _, Nat.zero_le _⟩) hP hD hS hA [] rfl rfl (fun H locs hP hD hS => ?_)
                refine lv_isub hx hb dX7_draw_101 ?_
                refine lv_istore (lv' := [(4, .int (x4_11 - (f_X7_shareOf x5_12))), (0, .ref a_t), (5, .int x5_12)]) hx hb dX7_draw_102 hl (by decide) rfl (fun ls hl => ?_)
                refine lv_iinc (v := (x5_12 + (1 : Int32))) (lv' := [(5, .int (x5_12 + (1 : Int32))), (4, .int (x4_11 - (f_X7_shareOf x5_12))), (0, .ref a_t)]) hx hb dX7_draw_104 hl (k := 2) rfl rfl (by decide) rfl (fun ls hl => ?_)
                refine lv_goto (tgt := 60) hx hb dX7_draw_107 (by decide) ?_
                exact ih _ _ _ hF _ _ _ hP hD hS (lv_sub hl [2, 1, 0] rfl) kexit
              · replace hF := if_f c_17 hF
                refine lv_iconst (v := (0 : Int32)) hx hb dX7_draw_92 (by decide) ?_
                refine lv_goto (tgt := 101) hx hb dX7_draw_93 (by decide) ?_
                refine lv_isub hx hb dX7_draw_101 ?_
                refine lv_istore (lv' := [(4, .int (x4_11 - (0 : Int32))), (0, .ref a_t), (5, .int x5_12)]) hx hb dX7_draw_102 hl (by decide) rfl (fun ls hl => ?_)
                refine lv_iinc (v := (x5_12 + (1 : Int32))) (lv' := [(5, .int (x5_12 + (1 : Int32))), (4, .int (x4_11 - (0 : Int32))), (0, .ref a_t)]) hx hb dX7_draw_104 hl (k := 2) rfl rfl (by decide) rfl (fun ls hl => ?_)
                refine lv_goto (tgt := 60) hx hb dX7_draw_107 (by decide) ?_
                exact ih _ _ _ hF _ _ _ hP hD hS (lv_sub hl [2, 1, 0] rfl) kexit
            · replace hF := if_f c_15 hF
              refine lv_iload hx hb dX7_draw_70 (lv_at hl 1 rfl) ?_
              refine lv_iload hx hb dX7_draw_72 (lv_at hl 2 rfl) ?_
              refine xri0 (xrunS (As := [.int x5_12]) (rest := [.int x4_11]) (c_X7_shareOf l D cI cB cJ _ x5_12 (f_X7_shareOf x5_12) rfl) hfix xw_1028 ys_X7_shareOf ⟨rfl, rfl⟩ ⟨(Nat.le_of_ble_eq_true rfl), (Nat.le_of_ble_eq_true rfl)⟩ xKk_K (fun U hU hW => xK.warm hW hK) hP hD [] rfl rfl rfl hl.1 rfl (Nat.le_of_ble_eq_true rfl) dX7_draw_74 ⟨Nat.zero_le _, Nat.zero_le _⟩) hP hD hS hA [] rfl rfl (fun H locs hP hD hS => ?_)
              refine lv_icmp_lt (tgt := 110) hx hb dX7_draw_77 (by decide) (fun c_18 => ?_) (fun c_18 => ?_)
              · replace hF := if_t c_18 hF
                obtain rfl := Option.some.inj hF
                exact kexit _ _ _ hP hD hS (lv_sub hl [0, 2] rfl)
              · replace hF := if_f c_18 hF
                refine lv_iload hx hb dX7_draw_80 (lv_at hl 1 rfl) ?_
                refine lv_aload_n hx hb dX7_draw_82 rfl (lv_at hl 0 rfl) ?_
                refine xget (ci := 7) (C := RX7) (T := TX7) (N := 42) hfix xiX7 hK.1 hP 0 rfl rfl 21 (by decide) rfl xw_709 rfl dX7_draw_83 ?_
                refine lv_iload hx hb dX7_draw_86 (lv_at hl 2 rfl) ?_
                obtain ⟨c_19, hF⟩ := gd_e hF
                refine va_iald hx hb hK.1 hP 4 0 rfl rfl c_19 dX7_draw_88 ?_
                refine lv_if_ge (tgt := 96) hx hb dX7_draw_89 (by decide) (fun c_20 => ?_) (fun c_20 => ?_)
                · replace hF := if_t c_20 hF
                  refine lv_iload hx hb dX7_draw_96 (lv_at hl 2 rfl) ?_
                  refine xri0 (xrunS (As := [.int x5_12]) (rest := [.int x4_11]) (c_X7_shareOf l D cI cB cJ _ x5_12 (f_X7_shareOf x5_12) rfl) hfix xw_1028 ys_X7_shareOf ⟨rfl, rfl⟩ ⟨(Nat.le_of_ble_eq_true rfl), (Nat.le_of_ble_eq_true rfl)⟩ xKk_K (fun U hU hW => xK.warm hW hK) hP hD [] rfl rfl rfl hl.1 rfl (Nat.le_of_ble_eq_true rfl) dX7_draw_98 ⟨Nat.zero_le _, Nat.zero_le _⟩) hP hD hS hA [] rfl rfl (fun H locs hP hD hS => ?_)
                  refine lv_isub hx hb dX7_draw_101 ?_
                  refine lv_istore (lv' := [(4, .int (x4_11 - (f_X7_shareOf x5_12))), (0, .ref a_t), (5, .int x5_12)]) hx hb dX7_draw_102 hl (by decide) rfl (fun ls hl => ?_)
                  refine lv_iinc (v := (x5_12 + (1 : Int32))) (lv' := [(5, .int (x5_12 + (1 : Int32))), (4, .int (x4_11 - (f_X7_shareOf x5_12))), (0, .ref a_t)]) hx hb dX7_draw_104 hl (k := 2) rfl rfl (by decide) rfl (fun ls hl => ?_)
                  refine lv_goto (tgt := 60) hx hb dX7_draw_107 (by decide) ?_
                  exact ih _ _ _ hF _ _ _ hP hD hS (lv_sub hl [2, 1, 0] rfl) kexit
                · replace hF := if_f c_20 hF
                  refine lv_iconst (v := (0 : Int32)) hx hb dX7_draw_92 (by decide) ?_
                  refine lv_goto (tgt := 101) hx hb dX7_draw_93 (by decide) ?_
                  refine lv_isub hx hb dX7_draw_101 ?_
                  refine lv_istore (lv' := [(4, .int (x4_11 - (0 : Int32))), (0, .ref a_t), (5, .int x5_12)]) hx hb dX7_draw_102 hl (by decide) rfl (fun ls hl => ?_)
                  refine lv_iinc (v := (x5_12 + (1 : Int32))) (lv' := [(5, .int (x5_12 + (1 : Int32))), (4, .int (x4_11 - (0 : Int32))), (0, .ref a_t)]) hx hb dX7_draw_104 hl (k := 2) rfl rfl (by decide) rfl (fun ls hl => ?_)
                  refine lv_goto (tgt := 60) hx hb dX7_draw_107 (by decide) ?_
                  exact ih _ _ _ hF _ _ _ hP hD hS (lv_sub hl [2, 1, 0] rfl) kexit
        obtain ⟨y5_13, hq, hF⟩ := bd1_e hF
        refine hL_60 _ _ _ _ hq _ _ _ hP hD hS (lv_sub hl [3, 1, 0] rfl) (fun H locs ls hP hD hS hl => ?_)
        refine lv_aload_n hx hb dX7_draw_110 rfl (lv_at hl 0 rfl) ?_
        refine xget (ci := 7) (C := RX7) (T := TX7) (N := 42) hfix xiX7 hK.1 hP 0 rfl rfl 21 (by decide) rfl xw_709 rfl dX7_draw_111 ?_
        refine lv_iload hx hb dX7_draw_114 (lv_at hl 1 rfl) ?_
        obtain ⟨c_21, hF⟩ := gd_e hF
        refine va_iald hx hb hK.1 hP 4 0 rfl rfl c_21 dX7_draw_116 ?_
        obtain ⟨rfl, rfl, rfl, rfl⟩ := pj4 hF
        exact hEnd _ _ _ _ _ dX7_draw_117 hP hS rfl
      · replace hF := if_t c_9 hF
        refine lv_bipush (v := (-3 : Int32)) hx hb dX7_draw_27 (by decide) ?_
        obtain ⟨rfl, rfl, rfl, rfl⟩ := pj4 hF
        exact hEnd _ _ _ _ _ dX7_draw_29 hP hS rfl
    · replace hF := if_t c_4 hF
      refine lv_iconst (v := (-1 : Int32)) hx hb dX7_draw_14 (by decide) ?_
      obtain ⟨rfl, rfl, rfl, rfl⟩ := pj4 hF
      exact hEnd _ _ _ _ _ dX7_draw_15 hP hS rfl
