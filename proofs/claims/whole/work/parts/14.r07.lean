def f_X7_here_L50 (o_7 : (Nat → Int32)) (i2 : Int32) : Nat → Int32 → Option (Int32)
  | 0, _ => none
  | n + 1, x4_12 => (if (100 : Int32) ≤ x4_12 then some (x4_12) else gd x4_12 100 ((if (o_7 x4_12.toNatClampNeg) = i2 then some (x4_12) else f_X7_here_L50 o_7 i2 n (x4_12 + (1 : Int32)))))
def f_X7_here (i1 : Int32) (i2 : Int32) (i3 : Int32) (s_t_villages : Int32) (s_t_held : Int32) (v_t_stand : (Nat → Int32)) (v_t_on : (Nat → Int32)) (v_t_rule : (Nat → Int32)) (v_t_marks : (Nat → Int32)) : Option (Int32 × (Nat → Int32)) := (if (f_X7_isHeldRule i1 s_t_held) = (0 : Int32) then some (((-1 : Int32), v_t_on)) else (if (f_X7_in i2 (0 : Int32) (9 : Int32)) = (0 : Int32) then some (((-1 : Int32), v_t_on)) else (if (f_X7_isLong i3) = (0 : Int32) then some (((-1 : Int32), v_t_on)) else bd1 (f_X7_goesOn i1 s_t_villages v_t_stand v_t_on v_t_rule v_t_marks) (fun (o_7 : (Nat → Int32)) => bd1 (f_X7_last v_t_stand) (fun (r_9 : Int32) => bd1 ((if r_9 ≤ i3 then some (i3) else bd1 (f_X7_last v_t_stand) (fun (r_19 : Int32) => some (r_19)))) (fun (j_11 : Int32) => bd1 (f_X7_here_L50 o_7 i2 1000 j_11) (fun (y4_13 : Int32) => (if (100 : Int32) ≤ y4_13 then some (((-3 : Int32), o_7)) else some ((y4_13, o_7))))))))))
abbrev rmX7_here : Room := { frames := 4, cells := 0, slots := 0, locals := 95 }
set_option maxHeartbeats 400000 in
set_option maxRecDepth 100000 in
theorem c_X7_here (l : Launch) (D : va_G) (cI cB cJ : ClassId) (a_t : Nat) (a_t_stand : Nat) (a_t_on : Nat) (a_t_marks : Nat) (a_t_rule : Nat) (a_t_tape : Nat) (a_t_freshStand : Nat) (a_t_freshMarks : Nat) (a_t_freshRule : Nat) (a_t_shares : Nat) (a_t_said : Nat) (a_t_rows : Nat) (a_t_must : Nat) (a_t_sorts : Nat) (a_t_sizes : Nat) (a_t_sheets : Nat) (a_t_holds : Nat) (a_t_heldNumber : Nat) (a_t_heldSize : Nat) (a_t_traced : Nat) (a_t_keptRow : Nat) (a_t_single : Nat) (sz : Nat) (s_t_villages : Int32) (s_t_held : Int32) (s_t_z : Int32) (s_t_tapeMany : Int32) (s_t_sort : Int32) (s_t_begins : Int32) (s_t_tokenEnds : Int32) (s_t_word : Int64) (s_t_value : Int32) (s_t_good : Int32) (s_t_freshVillages : Int32) (s_t_freshHeld : Int32) (s_t_rowMany : Int32) (s_t_mustMany : Int32) (s_t_kind : Int32) (s_t_number : Int32) (s_t_own : Int32) (s_t_bodies : Int32) (s_t_isParted : Int32) (s_t_isKept : Int32) (s_t_movedTo : Int32) (v_t_stand : (Nat → Int32)) (v_t_on : (Nat → Int32)) (v_t_rule : (Nat → Int32)) (v_t_marks : (Nat → Int32)) (i1 : Int32) (i2 : Int32) (i3 : Int32) (r : Int32) (o_v_t_on : (Nat → Int32)) (hF : f_X7_here i1 i2 i3 s_t_villages s_t_held v_t_stand v_t_on v_t_rule v_t_marks = some (r, o_v_t_on)) : xMi l yX7_here (.code yX7_here cX7_here 5 (some .int) :: xU) rmX7_here (xK D cI cB cJ) D sz [.ref a_t, .int i1, .int i2, .int i3] [(a_t, .inr (7, [.ref a_t_stand, .ref a_t_on, .ref a_t_marks, .int s_t_villages, .int s_t_held, .ref a_t_rule, .int s_t_z, .ref a_t_tape, .int s_t_tapeMany, .int s_t_sort, .int s_t_begins, .int s_t_tokenEnds, .long s_t_word, .int s_t_value, .int s_t_good, .int s_t_freshVillages, .int s_t_freshHeld, .ref a_t_freshStand, .ref a_t_freshMarks, .ref a_t_freshRule, .ref a_t_shares, .ref a_t_said, .ref a_t_rows, .ref a_t_must, .int s_t_rowMany, .int s_t_mustMany, .ref a_t_sorts, .ref a_t_sizes, .ref a_t_sheets, .ref a_t_holds, .ref a_t_heldNumber, .ref a_t_heldSize, .int s_t_kind, .int s_t_number, .int s_t_own, .ref a_t_traced, .int s_t_bodies, .int s_t_isParted, .int s_t_isKept, .ref a_t_keptRow, .int s_t_movedTo, .ref a_t_single])), (a_t_stand, .inl (cI, 100, .inl v_t_stand)), (a_t_on, .inl (cI, 100, .inl v_t_on)), (a_t_rule, .inl (cI, 24, .inl v_t_rule)), (a_t_marks, .inl (cI, 100, .inl v_t_marks))] [(a_t, .inr (7, [.ref a_t_stand, .ref a_t_on, .ref a_t_marks, .int s_t_villages, .int s_t_held, .ref a_t_rule, .int s_t_z, .ref a_t_tape, .int s_t_tapeMany, .int s_t_sort, .int s_t_begins, .int s_t_tokenEnds, .long s_t_word, .int s_t_value, .int s_t_good, .int s_t_freshVillages, .int s_t_freshHeld, .ref a_t_freshStand, .ref a_t_freshMarks, .ref a_t_freshRule, .ref a_t_shares, .ref a_t_said, .ref a_t_rows, .ref a_t_must, .int s_t_rowMany, .int s_t_mustMany, .ref a_t_sorts, .ref a_t_sizes, .ref a_t_sheets, .ref a_t_holds, .ref a_t_heldNumber, .ref a_t_heldSize, .int s_t_kind, .int s_t_number, .int s_t_own, .ref a_t_traced, .int s_t_bodies, .int s_t_isParted, .int s_t_isKept, .ref a_t_keptRow, .int s_t_movedTo, .ref a_t_single])), (a_t_stand, .inl (cI, 100, .inl v_t_stand)), (a_t_on, .inl (cI, 100, .inl o_v_t_on)), (a_t_rule, .inl (cI, 24, .inl v_t_rule)), (a_t_marks, .inl (cI, 100, .inl v_t_marks))] r := by
  refine xMi.mk (own := "FairNextModel") (by decide +kernel) rfl (Nat.le_of_ble_eq_true rfl) ?_
  intro p e s m args below meth c A Q ls H hfix hK hP hD hA hS hl hEnd
  obtain ⟨hx, hb, hml, hown, hts⟩ := id hfix
  have hl : lv_has ls 5 [(0, .ref a_t), (1, .int i1), (2, .int i2), (3, .int i3)] := hl
  rw [f_X7_here] at hF
  refine lv_aload_n hx hb dX7_here_0 rfl (lv_at hl 0 rfl) ?_
  refine lv_iload_n hx hb dX7_here_1 rfl (lv_at hl 1 rfl) ?_
  refine xrz0 (xrunV (As := [.int i1]) (rest := []) (c_X7_isHeldRule l D cI cB cJ a_t a_t_stand a_t_on a_t_marks a_t_rule a_t_tape a_t_freshStand a_t_freshMarks a_t_freshRule a_t_shares a_t_said a_t_rows a_t_must a_t_sorts a_t_sizes a_t_sheets a_t_holds a_t_heldNumber a_t_heldSize a_t_traced a_t_keptRow a_t_single _ s_t_villages s_t_held s_t_z s_t_tapeMany s_t_sort s_t_begins s_t_tokenEnds s_t_word s_t_value s_t_good s_t_freshVillages s_t_freshHeld s_t_rowMany s_t_mustMany s_t_kind s_t_number s_t_own s_t_bodies s_t_isParted s_t_isKept s_t_movedTo i1 (f_X7_isHeldRule i1 s_t_held) rfl) hfix xw_921 yv_X7_isHeldRule ⟨rfl, rfl⟩ ⟨(Nat.le_of_ble_eq_true rfl), (Nat.le_of_ble_eq_true rfl)⟩ xKk_K (fun U hU hW => xK.warm hW hK) hK.1 hP hD [0] rfl rfl 0 7 rfl rfl rfl rfl hl.1 rfl (Nat.le_of_ble_eq_true rfl) dX7_here_2 ⟨Nat.zero_le _, Nat.zero_le _⟩) hP hD hS hA [0] rfl rfl (fun H locs hP hD hS hz_1 => ?_)
  refine lv_if_eq (tgt := 25) hx hb dX7_here_5 (by decide) (fun c_2 => ?_) (fun c_2 => ?_)
  · replace hF := if_t c_2 hF
    refine lv_iconst (v := (-1 : Int32)) hx hb dX7_here_25 (by decide) ?_
    obtain ⟨rfl, rfl⟩ := pj2 hF
    exact hEnd _ _ _ _ _ dX7_here_26 hP hS rfl
  · replace hF := if_f c_2 hF
    refine lv_iload_n hx hb dX7_here_8 rfl (lv_at hl 2 rfl) ?_
    refine lv_iconst (v := (0 : Int32)) hx hb dX7_here_9 (by decide) ?_
    refine lv_bipush (v := (9 : Int32)) hx hb dX7_here_10 (by decide) ?_
    refine xrz0 (xrunS (As := [.int i2, .int (0 : Int32), .int (9 : Int32)]) (rest := []) (c_X7_in l D cI cB cJ _ i2 (0 : Int32) (9 : Int32) (f_X7_in i2 (0 : Int32) (9 : Int32)) rfl) hfix xw_819 ys_X7_in ⟨rfl, rfl⟩ ⟨(Nat.le_of_ble_eq_true rfl), (Nat.le_of_ble_eq_true rfl)⟩ xKk_K (fun U hU hW => xK.warm hW hK) hP hD [] rfl rfl rfl hl.1 rfl (Nat.le_of_ble_eq_true rfl) dX7_here_12 ⟨Nat.zero_le _, Nat.zero_le _⟩) hP hD hS hA [] rfl rfl (fun H locs hP hD hS hz_3 => ?_)
    refine lv_if_eq (tgt := 25) hx hb dX7_here_15 (by decide) (fun c_4 => ?_) (fun c_4 => ?_)
    · replace hF := if_t c_4 hF
      refine lv_iconst (v := (-1 : Int32)) hx hb dX7_here_25 (by decide) ?_
      obtain ⟨rfl, rfl⟩ := pj2 hF
      exact hEnd _ _ _ _ _ dX7_here_26 hP hS rfl
    · replace hF := if_f c_4 hF
      refine lv_iload_n hx hb dX7_here_18 rfl (lv_at hl 3 rfl) ?_
      refine xrz0 (xrunS (As := [.int i3]) (rest := []) (c_X7_isLong l D cI cB cJ _ i3 (f_X7_isLong i3) rfl) hfix xw_951 ys_X7_isLong ⟨rfl, rfl⟩ ⟨(Nat.le_of_ble_eq_true rfl), (Nat.le_of_ble_eq_true rfl)⟩ xKk_K (fun U hU hW => xK.warm hW hK) hP hD [] rfl rfl rfl hl.1 rfl (Nat.le_of_ble_eq_true rfl) dX7_here_19 ⟨Nat.zero_le _, Nat.zero_le _⟩) hP hD hS hA [] rfl rfl (fun H locs hP hD hS hz_5 => ?_)
      refine lv_if_ne (tgt := 27) hx hb dX7_here_22 (by decide) (fun c_6 => ?_) (fun c_6 => ?_)
      · replace hF := if_f c_6 hF
        refine lv_aload_n hx hb dX7_here_27 rfl (lv_at hl 0 rfl) ?_
        refine lv_iload_n hx hb dX7_here_28 rfl (lv_at hl 1 rfl) ?_
        obtain ⟨o_7, hq_8, hF⟩ := bd1_e hF
        refine xrv (xrunV (As := [.int i1]) (rest := []) (c_X7_goesOn l D cI cB cJ a_t a_t_stand a_t_on a_t_marks a_t_rule a_t_tape a_t_freshStand a_t_freshMarks a_t_freshRule a_t_shares a_t_said a_t_rows a_t_must a_t_sorts a_t_sizes a_t_sheets a_t_holds a_t_heldNumber a_t_heldSize a_t_traced a_t_keptRow a_t_single _ s_t_villages s_t_held s_t_z s_t_tapeMany s_t_sort s_t_begins s_t_tokenEnds s_t_word s_t_value s_t_good s_t_freshVillages s_t_freshHeld s_t_rowMany s_t_mustMany s_t_kind s_t_number s_t_own s_t_bodies s_t_isParted s_t_isKept s_t_movedTo v_t_stand v_t_on v_t_rule v_t_marks i1 o_7 hq_8) hfix xw_974 yv_X7_goesOn ⟨rfl, rfl⟩ ⟨(Nat.le_of_ble_eq_true rfl), (Nat.le_of_ble_eq_true rfl)⟩ xKk_K (fun U hU hW => xK.warm hW hK) hK.1 hP hD [0, 1, 2, 3, 4] rfl rfl 0 7 rfl rfl rfl rfl hl.1 rfl (Nat.le_of_ble_eq_true rfl) dX7_here_29 ⟨Nat.zero_le _, Nat.zero_le _⟩) hP hD hS hA [0, 1, 2, 3, 4] rfl rfl rfl (wn := [(a_t, .inr (7, [.ref a_t_stand, .ref a_t_on, .ref a_t_marks, .int s_t_villages, .int s_t_held, .ref a_t_rule, .int s_t_z, .ref a_t_tape, .int s_t_tapeMany, .int s_t_sort, .int s_t_begins, .int s_t_tokenEnds, .long s_t_word, .int s_t_value, .int s_t_good, .int s_t_freshVillages, .int s_t_freshHeld, .ref a_t_freshStand, .ref a_t_freshMarks, .ref a_t_freshRule, .ref a_t_shares, .ref a_t_said, .ref a_t_rows, .ref a_t_must, .int s_t_rowMany, .int s_t_mustMany, .ref a_t_sorts, .ref a_t_sizes, .ref a_t_sheets, .ref a_t_holds, .ref a_t_heldNumber, .ref a_t_heldSize, .int s_t_kind, .int s_t_number, .int s_t_own, .ref a_t_traced, .int s_t_bodies, .int s_t_isParted, .int s_t_isKept, .ref a_t_keptRow, .int s_t_movedTo, .ref a_t_single])), (a_t_stand, .inl (cI, 100, .inl v_t_stand)), (a_t_on, .inl (cI, 100, .inl o_7)), (a_t_rule, .inl (cI, 24, .inl v_t_rule)), (a_t_marks, .inl (cI, 100, .inl v_t_marks))]) rfl (fun H locs hP hD hS => ?_)
        refine lv_iload_n hx hb dX7_here_32 rfl (lv_at hl 3 rfl) ?_
        refine lv_aload_n hx hb dX7_here_33 rfl (lv_at hl 0 rfl) ?_
        obtain ⟨r_9, hq_10, hF⟩ := bd1_e hF
        refine xri0 (xrunV (As := []) (rest := [.int i3]) (c_X7_last l D cI cB cJ a_t a_t_stand a_t_on a_t_marks a_t_rule a_t_tape a_t_freshStand a_t_freshMarks a_t_freshRule a_t_shares a_t_said a_t_rows a_t_must a_t_sorts a_t_sizes a_t_sheets a_t_holds a_t_heldNumber a_t_heldSize a_t_traced a_t_keptRow a_t_single _ s_t_villages s_t_held s_t_z s_t_tapeMany s_t_sort s_t_begins s_t_tokenEnds s_t_word s_t_value s_t_good s_t_freshVillages s_t_freshHeld s_t_rowMany s_t_mustMany s_t_kind s_t_number s_t_own s_t_bodies s_t_isParted s_t_isKept s_t_movedTo v_t_stand r_9 hq_10) hfix xw_970 yv_X7_last ⟨rfl, rfl⟩ ⟨(Nat.le_of_ble_eq_true rfl), (Nat.le_of_ble_eq_true rfl)⟩ xKk_K (fun U hU hW => xK.warm hW hK) hK.1 hP hD [0, 1] rfl rfl 0 7 rfl rfl rfl rfl hl.1 rfl (Nat.le_of_ble_eq_true rfl) dX7_here_34 ⟨Nat.zero_le _, Nat.zero_le _⟩) hP hD hS hA [0, 1] rfl rfl (fun H locs hP hD hS => ?_)
        obtain ⟨j_11, hJ, hF⟩ := bd1_e hF
        have hN_48_11 : ∀ (H : Heap) (locs : List Loc) (ls : Array Slot), va_P D vwCl [(a_t, .inr (7, [.ref a_t_stand, .ref a_t_on, .ref a_t_marks, .int s_t_villages, .int s_t_held, .ref a_t_rule, .int s_t_z, .ref a_t_tape, .int s_t_tapeMany, .int s_t_sort, .int s_t_begins, .int s_t_tokenEnds, .long s_t_word, .int s_t_value, .int s_t_good, .int s_t_freshVillages, .int s_t_freshHeld, .ref a_t_freshStand, .ref a_t_freshMarks, .ref a_t_freshRule, .ref a_t_shares, .ref a_t_said, .ref a_t_rows, .ref a_t_must, .int s_t_rowMany, .int s_t_mustMany, .ref a_t_sorts, .ref a_t_sizes, .ref a_t_sheets, .ref a_t_holds, .ref a_t_heldNumber, .ref a_t_heldSize, .int s_t_kind, .int s_t_number, .int s_t_own, .ref a_t_traced, .int s_t_bodies, .int s_t_isParted, .int s_t_isKept, .ref a_t_keptRow, .int s_t_movedTo, .ref a_t_single])), (a_t_stand, .inl (cI, 100, .inl v_t_stand)), (a_t_on, .inl (cI, 100, .inl o_7)), (a_t_rule, .inl (cI, 24, .inl v_t_rule)), (a_t_marks, .inl (cI, 100, .inl v_t_marks))] H → va_D A [(a_t, .inr (7, [.ref a_t_stand, .ref a_t_on, .ref a_t_marks, .int s_t_villages, .int s_t_held, .ref a_t_rule, .int s_t_z, .ref a_t_tape, .int s_t_tapeMany, .int s_t_sort, .int s_t_begins, .int s_t_tokenEnds, .long s_t_word, .int s_t_value, .int s_t_good, .int s_t_freshVillages, .int s_t_freshHeld, .ref a_t_freshStand, .ref a_t_freshMarks, .ref a_t_freshRule, .ref a_t_shares, .ref a_t_said, .ref a_t_rows, .ref a_t_must, .int s_t_rowMany, .int s_t_mustMany, .ref a_t_sorts, .ref a_t_sizes, .ref a_t_sheets, .ref a_t_holds, .ref a_t_heldNumber, .ref a_t_heldSize, .int s_t_kind, .int s_t_number, .int s_t_own, .ref a_t_traced, .int s_t_bodies, .int s_t_isParted, .int s_t_isKept, .ref a_t_keptRow, .int s_t_movedTo, .ref a_t_single])), (a_t_stand, .inl (cI, 100, .inl v_t_stand)), (a_t_on, .inl (cI, 100, .inl o_7)), (a_t_rule, .inl (cI, 24, .inl v_t_rule)), (a_t_marks, .inl (cI, 100, .inl v_t_marks))] → va_S A s.heap H locs → lv_has ls 5 [(0, .ref a_t), (2, .int i2)] → W p l e rmX7_here s m args below meth c H locs 0 0 Q (F0 m 48 ls [.int j_11]) := by
          intro H locs ls hP hD hS hl
          refine lv_istore (lv' := [(4, .int j_11), (0, .ref a_t), (2, .int i2)]) hx hb dX7_here_48 hl (by decide) rfl (fun ls hl => ?_)
          have hL_50 : ∀ (n : Nat) (x4_12 : Int32) (y4_13 : Int32), f_X7_here_L50 o_7 i2 n x4_12 = some y4_13 → ∀ (H : Heap) (locs : List Loc) (ls : Array Slot), va_P D vwCl [(a_t, .inr (7, [.ref a_t_stand, .ref a_t_on, .ref a_t_marks, .int s_t_villages, .int s_t_held, .ref a_t_rule, .int s_t_z, .ref a_t_tape, .int s_t_tapeMany, .int s_t_sort, .int s_t_begins, .int s_t_tokenEnds, .long s_t_word, .int s_t_value, .int s_t_good, .int s_t_freshVillages, .int s_t_freshHeld, .ref a_t_freshStand, .ref a_t_freshMarks, .ref a_t_freshRule, .ref a_t_shares, .ref a_t_said, .ref a_t_rows, .ref a_t_must, .int s_t_rowMany, .int s_t_mustMany, .ref a_t_sorts, .ref a_t_sizes, .ref a_t_sheets, .ref a_t_holds, .ref a_t_heldNumber, .ref a_t_heldSize, .int s_t_kind, .int s_t_number, .int s_t_own, .ref a_t_traced, .int s_t_bodies, .int s_t_isParted, .int s_t_isKept, .ref a_t_keptRow, .int s_t_movedTo, .ref a_t_single])), (a_t_stand, .inl (cI, 100, .inl v_t_stand)), (a_t_on, .inl (cI, 100, .inl o_7)), (a_t_rule, .inl (cI, 24, .inl v_t_rule)), (a_t_marks, .inl (cI, 100, .inl v_t_marks))] H → va_D A [(a_t, .inr (7, [.ref a_t_stand, .ref a_t_on, .ref a_t_marks, .int s_t_villages, .int s_t_held, .ref a_t_rule, .int s_t_z, .ref a_t_tape, .int s_t_tapeMany, .int s_t_sort, .int s_t_begins, .int s_t_tokenEnds, .long s_t_word, .int s_t_value, .int s_t_good, .int s_t_freshVillages, .int s_t_freshHeld, .ref a_t_freshStand, .ref a_t_freshMarks, .ref a_t_freshRule, .ref a_t_shares, .ref a_t_said, .ref a_t_rows, .ref a_t_must, .int s_t_rowMany, .int s_t_mustMany, .ref a_t_sorts, .ref a_t_sizes, .ref a_t_sheets, .ref a_t_holds, .ref a_t_heldNumber, .ref a_t_heldSize, .int s_t_kind, .int s_t_number, .int s_t_own, .ref a_t_traced, .int s_t_bodies, .int s_t_isParted, .int s_t_isKept, .ref a_t_keptRow, .int s_t_movedTo, .ref a_t_single])), (a_t_stand, .inl (cI, 100, .inl v_t_stand)), (a_t_on, .inl (cI, 100, .inl o_7)), (a_t_rule, .inl (cI, 24, .inl v_t_rule)), (a_t_marks, .inl (cI, 100, .inl v_t_marks))] → va_S A s.heap H locs → lv_has ls 5 [(0, .ref a_t), (2, .int i2), (4, .int x4_12)] → (∀ (H : Heap) (locs : List Loc) (ls : Array Slot), va_P D vwCl [(a_t, .inr (7, [.ref a_t_stand, .ref a_t_on, .ref a_t_marks, .int s_t_villages, .int s_t_held, .ref a_t_rule, .int s_t_z, .ref a_t_tape, .int s_t_tapeMany, .int s_t_sort, .int s_t_begins, .int s_t_tokenEnds, .long s_t_word, .int s_t_value, .int s_t_good, .int s_t_freshVillages, .int s_t_freshHeld, .ref a_t_freshStand, .ref a_t_freshMarks, .ref a_t_freshRule, .ref a_t_shares, .ref a_t_said, .ref a_t_rows, .ref a_t_must, .int s_t_rowMany, .int s_t_mustMany, .ref a_t_sorts, .ref a_t_sizes, .ref a_t_sheets, .ref a_t_holds, .ref a_t_heldNumber, .ref a_t_heldSize, .int s_t_kind, .int s_t_number, .int s_t_own, .ref a_t_traced, .int s_t_bodies, .int s_t_isParted, .int s_t_isKept, .ref a_t_keptRow, .int s_t_movedTo, .ref a_t_single])), (a_t_stand, .inl (cI, 100, .inl v_t_stand)), (a_t_on, .inl (cI, 100, .inl o_7)), (a_t_rule, .inl (cI, 24, .inl v_t_rule)), (a_t_marks, .inl (cI, 100, .inl v_t_marks))] H → va_D A [(a_t, .inr (7, [.ref a_t_stand, .ref a_t_on, .ref a_t_marks, .int s_t_villages, .int s_t_held, .ref a_t_rule, .int s_t_z, .ref a_t_tape, .int s_t_tapeMany, .int s_t_sort, .int s_t_begins, .int s_t_tokenEnds, .long s_t_word, .int s_t_value, .int s_t_good, .int s_t_freshVillages, .int s_t_freshHeld, .ref a_t_freshStand, .ref a_t_freshMarks, .ref a_t_freshRule, .ref a_t_shares, .ref a_t_said, .ref a_t_rows, .ref a_t_must, .int s_t_rowMany, .int s_t_mustMany, .ref a_t_sorts, .ref a_t_sizes, .ref a_t_sheets, .ref a_t_holds, .ref a_t_heldNumber, .ref a_t_heldSize, .int s_t_kind, .int s_t_number, .int s_t_own, .ref a_t_traced, .int s_t_bodies, .int s_t_isParted, .int s_t_isKept, .ref a_t_keptRow, .int s_t_movedTo, .ref a_t_single])), (a_t_stand, .inl (cI, 100, .inl v_t_stand)), (a_t_on, .inl (cI, 100, .inl o_7)), (a_t_rule, .inl (cI, 24, .inl v_t_rule)), (a_t_marks, .inl (cI, 100, .inl v_t_marks))] → va_S A s.heap H locs → lv_has ls 5 [(4, .int y4_13)] → W p l e rmX7_here s m args below meth c H locs 0 0 Q (F0 m 74 ls [])) → W p l e rmX7_here s m args below meth c H locs 0 0 Q (F0 m 50 ls []) := by
            intro n
            induction n with
            | zero => intro x4_12 y4_13 hF; exact (no_some hF).elim
            | succ n ih =>
              intro x4_12 y4_13 hF H locs ls hP hD hS hl kexit
              rw [f_X7_here_L50] at hF
              refine lv_iload hx hb dX7_here_50 (lv_at hl 2 rfl) ?_
              refine lv_bipush (v := (100 : Int32)) hx hb dX7_here_52 (by decide) ?_
              refine lv_icmp_ge (tgt := 74) hx hb dX7_here_54 (by decide) (fun c_14 => ?_) (fun c_14 => ?_)
              · replace hF := if_t c_14 hF
                obtain rfl := Option.some.inj hF
                exact kexit _ _ _ hP hD hS (lv_sub hl [2] rfl)
              · replace hF := if_f c_14 hF
                refine lv_aload_n hx hb dX7_here_57 rfl (lv_at hl 0 rfl) ?_
                refine xget (ci := 7) (C := RX7) (T := TX7) (N := 42) hfix xiX7 hK.1 hP 0 rfl rfl 1 (by decide) rfl xw_689 rfl dX7_here_58 ?_
                refine lv_iload hx hb dX7_here_61 (lv_at hl 2 rfl) ?_
                obtain ⟨c_15, hF⟩ := gd_e hF
                refine va_iald hx hb hK.1 hP 2 0 rfl rfl c_15 dX7_here_63 ?_
                refine lv_iload_n hx hb dX7_here_64 rfl (lv_at hl 1 rfl) ?_
                refine lv_icmp_eq (tgt := 74) hx hb dX7_here_65 (by decide) (fun c_16 => ?_) (fun c_16 => ?_)
                · replace hF := if_t c_16 hF
                  obtain rfl := Option.some.inj hF
                  exact kexit _ _ _ hP hD hS (lv_sub hl [2] rfl)
                · replace hF := if_f c_16 hF
                  refine lv_iinc (v := (x4_12 + (1 : Int32))) (lv' := [(4, .int (x4_12 + (1 : Int32))), (0, .ref a_t), (2, .int i2)]) hx hb dX7_here_68 hl (k := 2) rfl rfl (by decide) rfl (fun ls hl => ?_)
                  refine lv_goto (tgt := 50) hx hb dX7_here_71 (by decide) ?_
                  exact ih _ _ hF _ _ _ hP hD hS (lv_sub hl [1, 2, 0] rfl) kexit
          obtain ⟨y4_13, hq, hF⟩ := bd1_e hF
          refine hL_50 _ _ _ hq _ _ _ hP hD hS (lv_sub hl [1, 2, 0] rfl) (fun H locs ls hP hD hS hl => ?_)
          refine lv_iload hx hb dX7_here_74 (lv_at hl 0 rfl) ?_
          refine lv_bipush (v := (100 : Int32)) hx hb dX7_here_76 (by decide) ?_
          refine lv_icmp_ge (tgt := 86) hx hb dX7_here_78 (by decide) (fun c_17 => ?_) (fun c_17 => ?_)
          · replace hF := if_t c_17 hF
            refine lv_bipush (v := (-3 : Int32)) hx hb dX7_here_86 (by decide) ?_
            obtain ⟨rfl, rfl⟩ := pj2 hF
            exact hEnd _ _ _ _ _ dX7_here_88 hP hS rfl
          · replace hF := if_f c_17 hF
            refine lv_iload hx hb dX7_here_81 (lv_at hl 0 rfl) ?_
            refine lv_goto (tgt := 88) hx hb dX7_here_83 (by decide) ?_
            obtain ⟨rfl, rfl⟩ := pj2 hF
            exact hEnd _ _ _ _ _ dX7_here_88 hP hS rfl
        replace hF := hJ
        refine lv_icmp_ge (tgt := 47) hx hb dX7_here_37 (by decide) (fun c_18 => ?_) (fun c_18 => ?_)
        · replace hF := if_t c_18 hF
          refine lv_iload_n hx hb dX7_here_47 rfl (lv_at hl 3 rfl) ?_
          obtain rfl := Option.some.inj hF
          exact hN_48_11 _ _ _ hP hD hS (lv_sub hl [0, 2] rfl)
        · replace hF := if_f c_18 hF
          refine lv_aload_n hx hb dX7_here_40 rfl (lv_at hl 0 rfl) ?_
          obtain ⟨r_19, hq_20, hF⟩ := bd1_e hF
          refine xri0 (xrunV (As := []) (rest := []) (c_X7_last l D cI cB cJ a_t a_t_stand a_t_on a_t_marks a_t_rule a_t_tape a_t_freshStand a_t_freshMarks a_t_freshRule a_t_shares a_t_said a_t_rows a_t_must a_t_sorts a_t_sizes a_t_sheets a_t_holds a_t_heldNumber a_t_heldSize a_t_traced a_t_keptRow a_t_single _ s_t_villages s_t_held s_t_z s_t_tapeMany s_t_sort s_t_begins s_t_tokenEnds s_t_word s_t_value s_t_good s_t_freshVillages s_t_freshHeld s_t_rowMany s_t_mustMany s_t_kind s_t_number s_t_own s_t_bodies s_t_isParted s_t_isKept s_t_movedTo v_t_stand r_19 hq_20) hfix xw_970 yv_X7_last ⟨rfl, rfl⟩ ⟨(Nat.le_of_ble_eq_true rfl), (Nat.le_of_ble_eq_true rfl)⟩ xKk_K (fun U hU hW => xK.warm hW hK) hK.1 hP hD [0, 1] rfl rfl 0 7 rfl rfl rfl rfl hl.1 rfl (Nat.le_of_ble_eq_true rfl) dX7_here_41 ⟨Nat.zero_le _, Nat.zero_le _⟩) hP hD hS hA [0, 1] rfl rfl (fun H locs hP hD hS => ?_)
          refine lv_goto (tgt := 48) hx hb dX7_here_44 (by decide) ?_
          obtain rfl := Option.some.inj hF
          exact hN_48_11 _ _ _ hP hD hS (lv_sub hl [0, 2] rfl)
      · replace hF := if_t c_6 hF
        refine lv_iconst (v := (-1 : Int32)) hx hb dX7_here_25 (by decide) ?_
        obtain ⟨rfl, rfl⟩ := pj2 hF
        exact hEnd _ _ _ _ _ dX7_here_26 hP hS rfl
def f_X7_never_L29 (o_3 : (Nat → Int32)) : Nat → Int32 → Int32 → Option (Int32)
  | 0, _, _ => none
  | n + 1, x2_7, x3_8 => (if (100 : Int32) ≤ x3_8 then some (x2_7) else gd x3_8 100 ((if (0 : Int32) ≤ (o_3 x3_8.toNatClampNeg) then gd x3_8 100 (f_X7_never_L29 o_3 n (x2_7 &&& (((1 : Int32) <<< ((o_3 x3_8.toNatClampNeg) &&& 31)) ^^^ (-1 : Int32))) (x3_8 + (1 : Int32))) else f_X7_never_L29 o_3 n (x2_7 &&& (-1 : Int32)) (x3_8 + (1 : Int32)))))
def f_X7_never (i1 : Int32) (s_t_villages : Int32) (s_t_held : Int32) (v_t_stand : (Nat → Int32)) (v_t_on : (Nat → Int32)) (v_t_rule : (Nat → Int32)) (v_t_marks : (Nat → Int32)) : Option (Int32 × (Nat → Int32)) := (if (f_X7_isHeldRule i1 s_t_held) = (0 : Int32) then some (((-1 : Int32), v_t_on)) else bd1 (f_X7_goesOn i1 s_t_villages v_t_stand v_t_on v_t_rule v_t_marks) (fun (o_3 : (Nat → Int32)) => bd1 (f_X7_last v_t_stand) (fun (r_5 : Int32) => bd1 (f_X7_never_L29 o_3 1000 (((1 : Int32) <<< (s_t_villages &&& 31)) - (1 : Int32)) r_5) (fun (y2_9 : Int32) => some ((y2_9, o_3))))))
abbrev rmX7_never : Room := { frames := 4, cells := 0, slots := 0, locals := 95 }
set_option maxHeartbeats 400000 in
set_option maxRecDepth 100000 in
theorem c_X7_never (l : Launch) (D : va_G) (cI cB cJ : ClassId) (a_t : Nat) (a_t_stand : Nat) (a_t_on : Nat) (a_t_marks : Nat) (a_t_rule : Nat) (a_t_tape : Nat) (a_t_freshStand : Nat) (a_t_freshMarks : Nat) (a_t_freshRule : Nat) (a_t_shares : Nat) (a_t_said : Nat) (a_t_rows : Nat) (a_t_must : Nat) (a_t_sorts : Nat) (a_t_sizes : Nat) (a_t_sheets : Nat) (a_t_holds : Nat) (a_t_heldNumber : Nat) (a_t_heldSize : Nat) (a_t_traced : Nat) (a_t_keptRow : Nat) (a_t_single : Nat) (sz : Nat) (s_t_villages : Int32) (s_t_held : Int32) (s_t_z : Int32) (s_t_tapeMany : Int32) (s_t_sort : Int32) (s_t_begins : Int32) (s_t_tokenEnds : Int32) (s_t_word : Int64) (s_t_value : Int32) (s_t_good : Int32) (s_t_freshVillages : Int32) (s_t_freshHeld : Int32) (s_t_rowMany : Int32) (s_t_mustMany : Int32) (s_t_kind : Int32) (s_t_number : Int32) (s_t_own : Int32) (s_t_bodies : Int32) (s_t_isParted : Int32) (s_t_isKept : Int32) (s_t_movedTo : Int32) (v_t_stand : (Nat → Int32)) (v_t_on : (Nat → Int32)) (v_t_rule : (Nat → Int32)) (v_t_marks : (Nat → Int32)) (i1 : Int32) (r : Int32) (o_v_t_on : (Nat → Int32)) (hF : f_X7_never i1 s_t_villages s_t_held v_t_stand v_t_on v_t_rule v_t_marks = some (r, o_v_t_on)) : xMi l yX7_never (.code yX7_never cX7_never 4 (some .int) :: xU) rmX7_never (xK D cI cB cJ) D sz [.ref a_t, .int i1] [(a_t, .inr (7, [.ref a_t_stand, .ref a_t_on, .ref a_t_marks, .int s_t_villages, .int s_t_held, .ref a_t_rule, .int s_t_z, .ref a_t_tape, .int s_t_tapeMany, .int s_t_sort, .int s_t_begins, .int s_t_tokenEnds, .long s_t_word, .int s_t_value, .int s_t_good, .int s_t_freshVillages, .int s_t_freshHeld, .ref a_t_freshStand, .ref a_t_freshMarks, .ref a_t_freshRule, .ref a_t_shares, .ref a_t_said, .ref a_t_rows, .ref a_t_must, .int s_t_rowMany, .int s_t_mustMany, .ref a_t_sorts, .ref a_t_sizes, .ref a_t_sheets, .ref a_t_holds, .ref a_t_heldNumber, .ref a_t_heldSize, .int s_t_kind, .int s_t_number, .int s_t_own, .ref a_t_traced, .int s_t_bodies, .int s_t_isParted, .int s_t_isKept, .ref a_t_keptRow, .int s_t_movedTo, .ref a_t_single])), (a_t_stand, .inl (cI, 100, .inl v_t_stand)), (a_t_on, .inl (cI, 100, .inl v_t_on)), (a_t_rule, .inl (cI, 24, .inl v_t_rule)), (a_t_marks, .inl (cI, 100, .inl v_t_marks))] [(a_t, .inr (7, [.ref a_t_stand, .ref a_t_on, .ref a_t_marks, .int s_t_villages, .int s_t_held, .ref a_t_rule, .int s_t_z, .ref a_t_tape, .int s_t_tapeMany, .int s_t_sort, .int s_t_begins, .int s_t_tokenEnds, .long s_t_word, .int s_t_value, .int s_t_good, .int s_t_freshVillages, .int s_t_freshHeld, .ref a_t_freshStand, .ref a_t_freshMarks, .ref a_t_freshRule, .ref a_t_shares, .ref a_t_said, .ref a_t_rows, .ref a_t_must, .int s_t_rowMany, .int s_t_mustMany, .ref a_t_sorts, .ref a_t_sizes, .ref a_t_sheets, .ref a_t_holds, .ref a_t_heldNumber, .ref a_t_heldSize, .int s_t_kind, .int s_t_number, .int s_t_own, .ref a_t_traced, .int s_t_bodies, .int s_t_isParted, .int s_t_isKept, .ref a_t_keptRow, .int s_t_movedTo, .ref a_t_single])), (a_t_stand, .inl (cI, 100, .inl v_t_stand)), (a_t_on, .inl (cI, 100, .inl o_v_t_on)), (a_t_rule, .inl (cI, 24, .inl v_t_rule)), (a_t_marks, .inl (cI, 100, .inl v_t_marks))] r := by
  refine xMi.mk (own := "FairNextModel") (by decide +kernel) rfl (Nat.le_of_ble_eq_true rfl) ?_
  intro p e s m args below meth c A Q ls H hfix hK hP hD hA hS hl hEnd
  obtain ⟨hx, hb, hml, hown, hts⟩ := id hfix
  have hl : lv_has ls 4 [(0, .ref a_t), (1, .int i1)] := hl
  rw [f_X7_never] at hF
  refine lv_aload_n hx hb dX7_never_0 rfl (lv_at hl 0 rfl) ?_
  refine lv_iload_n hx hb dX7_never_1 rfl (lv_at hl 1 rfl) ?_
  refine xrz0 (xrunV (As := [.int i1]) (rest := []) (c_X7_isHeldRule l D cI cB cJ a_t a_t_stand a_t_on a_t_marks a_t_rule a_t_tape a_t_freshStand a_t_freshMarks a_t_freshRule a_t_shares a_t_said a_t_rows a_t_must a_t_sorts a_t_sizes a_t_sheets a_t_holds a_t_heldNumber a_t_heldSize a_t_traced a_t_keptRow a_t_single _ s_t_villages s_t_held s_t_z s_t_tapeMany s_t_sort s_t_begins s_t_tokenEnds s_t_word s_t_value s_t_good s_t_freshVillages s_t_freshHeld s_t_rowMany s_t_mustMany s_t_kind s_t_number s_t_own s_t_bodies s_t_isParted s_t_isKept s_t_movedTo i1 (f_X7_isHeldRule i1 s_t_held) rfl) hfix xw_921 yv_X7_isHeldRule ⟨rfl, rfl⟩ ⟨(Nat.le_of_ble_eq_true rfl), (Nat.le_of_ble_eq_true rfl)⟩ xKk_K (fun U hU hW => xK.warm hW hK) hK.1 hP hD [0] rfl rfl 0 7 rfl rfl rfl rfl hl.1 rfl (Nat.le_of_ble_eq_true rfl) dX7_never_2 ⟨Nat.zero_le _, Nat.zero_le _⟩) hP hD hS hA [0] rfl rfl (fun H locs hP hD hS hz_1 => ?_)
  refine lv_if_ne (tgt := 10) hx hb dX7_never_5 (by decide) (fun c_2 => ?_) (fun c_2 => ?_)
  · replace hF := if_f c_2 hF
    refine lv_aload_n hx hb dX7_never_10 rfl (lv_at hl 0 rfl) ?_
    refine lv_iload_n hx hb dX7_never_11 rfl (lv_at hl 1 rfl) ?_
    obtain ⟨o_3, hq_4, hF⟩ := bd1_e hF
    refine xrv (xrunV (As := [.int i1]) (rest := []) (c_X7_goesOn l D cI cB cJ a_t a_t_stand a_t_on a_t_marks a_t_rule a_t_tape a_t_freshStand a_t_freshMarks a_t_freshRule a_t_shares a_t_said a_t_rows a_t_must a_t_sorts a_t_sizes a_t_sheets a_t_holds a_t_heldNumber a_t_heldSize a_t_traced a_t_keptRow a_t_single _ s_t_villages s_t_held s_t_z s_t_tapeMany s_t_sort s_t_begins s_t_tokenEnds s_t_word s_t_value s_t_good s_t_freshVillages s_t_freshHeld s_t_rowMany s_t_mustMany s_t_kind s_t_number s_t_own s_t_bodies s_t_isParted s_t_isKept s_t_movedTo v_t_stand v_t_on v_t_rule v_t_marks i1 o_3 hq_4) hfix xw_974 yv_X7_goesOn ⟨rfl, rfl⟩ ⟨(Nat.le_of_ble_eq_true rfl), (Nat.le_of_ble_eq_true rfl)⟩ xKk_K (fun U hU hW => xK.warm hW hK) hK.1 hP hD [0, 1, 2, 3, 4] rfl rfl 0 7 rfl rfl rfl rfl hl.1 rfl (Nat.le_of_ble_eq_true rfl) dX7_never_12 ⟨Nat.zero_le _, Nat.zero_le _⟩) hP hD hS hA [0, 1, 2, 3, 4] rfl rfl rfl (wn := [(a_t, .inr (7, [.ref a_t_stand, .ref a_t_on, .ref a_t_marks, .int s_t_villages, .int s_t_held, .ref a_t_rule, .int s_t_z, .ref a_t_tape, .int s_t_tapeMany, .int s_t_sort, .int s_t_begins, .int s_t_tokenEnds, .long s_t_word, .int s_t_value, .int s_t_good, .int s_t_freshVillages, .int s_t_freshHeld, .ref a_t_freshStand, .ref a_t_freshMarks, .ref a_t_freshRule, .ref a_t_shares, .ref a_t_said, .ref a_t_rows, .ref a_t_must, .int s_t_rowMany, .int s_t_mustMany, .ref a_t_sorts, .ref a_t_sizes, .ref a_t_sheets, .ref a_t_holds, .ref a_t_heldNumber, .ref a_t_heldSize, .int s_t_kind, .int s_t_number, .int s_t_own, .ref a_t_traced, .int s_t_bodies, .int s_t_isParted, .int s_t_isKept, .ref a_t_keptRow, .int s_t_movedTo, .ref a_t_single])), (a_t_stand, .inl (cI, 100, .inl v_t_stand)), (a_t_on, .inl (cI, 100, .inl o_3)), (a_t_rule, .inl (cI, 24, .inl v_t_rule)), (a_t_marks, .inl (cI, 100, .inl v_t_marks))]) rfl (fun H locs hP hD hS => ?_)
    refine lv_iconst (v := (1 : Int32)) hx hb dX7_never_15 (by decide) ?_
    refine lv_aload_n hx hb dX7_never_16 rfl (lv_at hl 0 rfl) ?_
    refine xget (ci := 7) (C := RX7) (T := TX7) (N := 42) hfix xiX7 hK.1 hP 0 rfl rfl 3 (by decide) rfl xw_691 rfl dX7_never_17 ?_
    refine lv_ishl hx hb dX7_never_20 ?_
    refine lv_iconst (v := (1 : Int32)) hx hb dX7_never_21 (by decide) ?_
    refine lv_isub hx hb dX7_never_22 ?_
    refine lv_istore_n (lv' := [(2, .int (((1 : Int32) <<< (s_t_villages &&& 31)) - (1 : Int32))), (0, .ref a_t), (1, .int i1)]) hx hb dX7_never_23 rfl hl (by decide) rfl (fun ls hl => ?_)
    refine lv_aload_n hx hb dX7_never_24 rfl (lv_at hl 1 rfl) ?_
    obtain ⟨r_5, hq_6, hF⟩ := bd1_e hF
    refine xri0 (xrunV (As := []) (rest := []) (c_X7_last l D cI cB cJ a_t a_t_stand a_t_on a_t_marks a_t_rule a_t_tape a_t_freshStand a_t_freshMarks a_t_freshRule a_t_shares a_t_said a_t_rows a_t_must a_t_sorts a_t_sizes a_t_sheets a_t_holds a_t_heldNumber a_t_heldSize a_t_traced a_t_keptRow a_t_single _ s_t_villages s_t_held s_t_z s_t_tapeMany s_t_sort s_t_begins s_t_tokenEnds s_t_word s_t_value s_t_good s_t_freshVillages s_t_freshHeld s_t_rowMany s_t_mustMany s_t_kind s_t_number s_t_own s_t_bodies s_t_isParted s_t_isKept s_t_movedTo v_t_stand r_5 hq_6) hfix xw_970 yv_X7_last ⟨rfl, rfl⟩ ⟨(Nat.le_of_ble_eq_true rfl), (Nat.le_of_ble_eq_true rfl)⟩ xKk_K (fun U hU hW => xK.warm hW hK) hK.1 hP hD [0, 1] rfl rfl 0 7 rfl rfl rfl rfl hl.1 rfl (Nat.le_of_ble_eq_true rfl) dX7_never_25 ⟨Nat.zero_le _, Nat.zero_le _⟩) hP hD hS hA [0, 1] rfl rfl (fun H locs hP hD hS => ?_)
    refine lv_istore_n (lv' := [(3, .int r_5), (2, .int (((1 : Int32) <<< (s_t_villages &&& 31)) - (1 : Int32))), (0, .ref a_t), (1, .int i1)]) hx hb dX7_never_28 rfl hl (by decide) rfl (fun ls hl => ?_)
    have hL_29 : ∀ (n : Nat) (x2_7 : Int32) (x3_8 : Int32) (y2_9 : Int32), f_X7_never_L29 o_3 n x2_7 x3_8 = some y2_9 → ∀ (H : Heap) (locs : List Loc) (ls : Array Slot), va_P D vwCl [(a_t, .inr (7, [.ref a_t_stand, .ref a_t_on, .ref a_t_marks, .int s_t_villages, .int s_t_held, .ref a_t_rule, .int s_t_z, .ref a_t_tape, .int s_t_tapeMany, .int s_t_sort, .int s_t_begins, .int s_t_tokenEnds, .long s_t_word, .int s_t_value, .int s_t_good, .int s_t_freshVillages, .int s_t_freshHeld, .ref a_t_freshStand, .ref a_t_freshMarks, .ref a_t_freshRule, .ref a_t_shares, .ref a_t_said, .ref a_t_rows, .ref a_t_must, .int s_t_rowMany, .int s_t_mustMany, .ref a_t_sorts, .ref a_t_sizes, .ref a_t_sheets, .ref a_t_holds, .ref a_t_heldNumber, .ref a_t_heldSize, .int s_t_kind, .int s_t_number, .int s_t_own, .ref a_t_traced, .int s_t_bodies, .int s_t_isParted, .int s_t_isKept, .ref a_t_keptRow, .int s_t_movedTo, .ref a_t_single])), (a_t_stand, .inl (cI, 100, .inl v_t_stand)), (a_t_on, .inl (cI, 100, .inl o_3)), (a_t_rule, .inl (cI, 24, .inl v_t_rule)), (a_t_marks, .inl (cI, 100, .inl v_t_marks))] H → va_D A [(a_t, .inr (7, [.ref a_t_stand, .ref a_t_on, .ref a_t_marks, .int s_t_villages, .int s_t_held, .ref a_t_rule, .int s_t_z, .ref a_t_tape, .int s_t_tapeMany, .int s_t_sort, .int s_t_begins, .int s_t_tokenEnds, .long s_t_word, .int s_t_value, .int s_t_good, .int s_t_freshVillages, .int s_t_freshHeld, .ref a_t_freshStand, .ref a_t_freshMarks, .ref a_t_freshRule, .ref a_t_shares, .ref a_t_said, .ref a_t_rows, .ref a_t_must, .int s_t_rowMany, .int s_t_mustMany, .ref a_t_sorts, .ref a_t_sizes, .ref a_t_sheets, .ref a_t_holds, .ref a_t_heldNumber, .ref a_t_heldSize, .int s_t_kind, .int s_t_number, .int s_t_own, .ref a_t_traced, .int s_t_bodies, .int s_t_isParted, .int s_t_isKept, .ref a_t_keptRow, .int s_t_movedTo, .ref a_t_single])), (a_t_stand, .inl (cI, 100, .inl v_t_stand)), (a_t_on, .inl (cI, 100, .inl o_3)), (a_t_rule, .inl (cI, 24, .inl v_t_rule)), (a_t_marks, .inl (cI, 100, .inl v_t_marks))] → va_S A s.heap H locs → lv_has ls 4 [(0, .ref a_t), (2, .int x2_7), (3, .int x3_8)] → (∀ (H : Heap) (locs : List Loc) (ls : Array Slot), va_P D vwCl [(a_t, .inr (7, [.ref a_t_stand, .ref a_t_on, .ref a_t_marks, .int s_t_villages, .int s_t_held, .ref a_t_rule, .int s_t_z, .ref a_t_tape, .int s_t_tapeMany, .int s_t_sort, .int s_t_begins, .int s_t_tokenEnds, .long s_t_word, .int s_t_value, .int s_t_good, .int s_t_freshVillages, .int s_t_freshHeld, .ref a_t_freshStand, .ref a_t_freshMarks, .ref a_t_freshRule, .ref a_t_shares, .ref a_t_said, .ref a_t_rows, .ref a_t_must, .int s_t_rowMany, .int s_t_mustMany, .ref a_t_sorts, .ref a_t_sizes, .ref a_t_sheets, .ref a_t_holds, .ref a_t_heldNumber, .ref a_t_heldSize, .int s_t_kind, .int s_t_number, .int s_t_own, .ref a_t_traced, .int s_t_bodies, .int s_t_isParted, .int s_t_isKept, .ref a_t_keptRow, .int s_t_movedTo, .ref a_t_single])), (a_t_stand, .inl (cI, 100, .inl v_t_stand)), (a_t_on, .inl (cI, 100, .inl o_3)), (a_t_rule, .inl (cI, 24, .inl v_t_rule)), (a_t_marks, .inl (cI, 100, .inl v_t_marks))] H → va_D A [(a_t, .inr (7, [.ref a_t_stand, .ref a_t_on, .ref a_t_marks, .int s_t_villages, .int s_t_held, .ref a_t_rule, .int s_t_z, .ref a_t_tape, .int s_t_tapeMany, .int s_t_sort, .int s_t_begins, .int s_t_tokenEnds, .long s_t_word, .int s_t_value, .int s_t_good, .int s_t_freshVillages, .int s_t_freshHeld, .ref a_t_freshStand, .ref a_t_freshMarks, .ref a_t_freshRule, .ref a_t_shares, .ref a_t_said, .ref a_t_rows, .ref a_t_must, .int s_t_rowMany, .int s_t_mustMany, .ref a_t_sorts, .ref a_t_sizes, .ref a_t_sheets, .ref a_t_holds, .ref a_t_heldNumber, .ref a_t_heldSize, .int s_t_kind, .int s_t_number, .int s_t_own, .ref a_t_traced, .int s_t_bodies, .int s_t_isParted, .int s_t_isKept, .ref a_t_keptRow, .int s_t_movedTo, .ref a_t_single])), (a_t_stand, .inl (cI, 100, .inl v_t_stand)), (a_t_on, .inl (cI, 100, .inl o_3)), (a_t_rule, .inl (cI, 24, .inl v_t_rule)), (a_t_marks, .inl (cI, 100, .inl v_t_marks))] → va_S A s.heap H locs → lv_has ls 4 [(2, .int y2_9)] → W p l e rmX7_never s m args below meth c H locs 0 0 Q (F0 m 67 ls [])) → W p l e rmX7_never s m args below meth c H locs 0 0 Q (F0 m 29 ls []) := by
      intro n
      induction n with
      | zero => intro x2_7 x3_8 y2_9 hF; exact (no_some hF).elim
      | succ n ih =>
        intro x2_7 x3_8 y2_9 hF H locs ls hP hD hS hl kexit
        rw [f_X7_never_L29] at hF
        refine lv_iload_n hx hb dX7_never_29 rfl (lv_at hl 2 rfl) ?_
        refine lv_bipush (v := (100 : Int32)) hx hb dX7_never_30 (by decide) ?_
        refine lv_icmp_ge (tgt := 67) hx hb dX7_never_32 (by decide) (fun c_10 => ?_) (fun c_10 => ?_)
        · replace hF := if_t c_10 hF
          obtain rfl := Option.some.inj hF
          exact kexit _ _ _ hP hD hS (lv_sub hl [1] rfl)
        · replace hF := if_f c_10 hF
          refine lv_iload_n hx hb dX7_never_35 rfl (lv_at hl 1 rfl) ?_
          refine lv_aload_n hx hb dX7_never_36 rfl (lv_at hl 0 rfl) ?_
          refine xget (ci := 7) (C := RX7) (T := TX7) (N := 42) hfix xiX7 hK.1 hP 0 rfl rfl 1 (by decide) rfl xw_689 rfl dX7_never_37 ?_
          refine lv_iload_n hx hb dX7_never_40 rfl (lv_at hl 2 rfl) ?_
          obtain ⟨c_11, hF⟩ := gd_e hF
          refine va_iald hx hb hK.1 hP 2 0 rfl rfl c_11 dX7_never_41 ?_
          refine lv_if_ge (tgt := 49) hx hb dX7_never_42 (by decide) (fun c_12 => ?_) (fun c_12 => ?_)
          · replace hF := if_t c_12 hF
            refine lv_iconst (v := (1 : Int32)) hx hb dX7_never_49 (by decide) ?_
            refine lv_aload_n hx hb dX7_never_50 rfl (lv_at hl 0 rfl) ?_
            refine xget (ci := 7) (C := RX7) (T := TX7) (N := 42) hfix xiX7 hK.1 hP 0 rfl rfl 1 (by decide) rfl xw_689 rfl dX7_never_51 ?_
            refine lv_iload_n hx hb dX7_never_54 rfl (lv_at hl 2 rfl) ?_
            obtain ⟨c_13, hF⟩ := gd_e hF
            refine va_iald hx hb hK.1 hP 2 0 rfl rfl c_13 dX7_never_55 ?_
            refine lv_ishl hx hb dX7_never_56 ?_
            refine lv_iconst (v := (-1 : Int32)) hx hb dX7_never_57 (by decide) ?_
            refine lv_ixor hx hb dX7_never_58 ?_
            refine lv_iand hx hb dX7_never_59 ?_
            refine lv_istore_n (lv' := [(2, .int (x2_7 &&& (((1 : Int32) <<< ((o_3 x3_8.toNatClampNeg) &&& 31)) ^^^ (-1 : Int32)))), (0, .ref a_t), (3, .int x3_8)]) hx hb dX7_never_60 rfl hl (by decide) rfl (fun ls hl => ?_)
            refine lv_iinc (v := (x3_8 + (1 : Int32))) (lv' := [(3, .int (x3_8 + (1 : Int32))), (2, .int (x2_7 &&& (((1 : Int32) <<< ((o_3 x3_8.toNatClampNeg) &&& 31)) ^^^ (-1 : Int32)))), (0, .ref a_t)]) hx hb dX7_never_61 hl (k := 2) rfl rfl (by decide) rfl (fun ls hl => ?_)
            refine lv_goto (tgt := 29) hx hb dX7_never_64 (by decide) ?_
            exact ih _ _ _ hF _ _ _ hP hD hS (lv_sub hl [2, 1, 0] rfl) kexit
          · replace hF := if_f c_12 hF
            refine lv_iconst (v := (-1 : Int32)) hx hb dX7_never_45 (by decide) ?_
            refine lv_goto (tgt := 59) hx hb dX7_never_46 (by decide) ?_
            refine lv_iand hx hb dX7_never_59 ?_
            refine lv_istore_n (lv' := [(2, .int (x2_7 &&& (-1 : Int32))), (0, .ref a_t), (3, .int x3_8)]) hx hb dX7_never_60 rfl hl (by decide) rfl (fun ls hl => ?_)
            refine lv_iinc (v := (x3_8 + (1 : Int32))) (lv' := [(3, .int (x3_8 + (1 : Int32))), (2, .int (x2_7 &&& (-1 : Int32))), (0, .ref a_t)]) hx hb dX7_never_61 hl (k := 2) rfl rfl (by decide) rfl (fun ls hl => ?_)
            refine lv_goto (tgt := 29) hx hb dX7_never_64 (by decide) ?_
            exact ih _ _ _ hF _ _ _ hP hD hS (lv_sub hl [2, 1, 0] rfl) kexit
    obtain ⟨y2_9, hq, hF⟩ := bd1_e hF
    refine hL_29 _ _ _ _ hq _ _ _ hP hD hS (lv_sub hl [2, 1, 0] rfl) (fun H locs ls hP hD hS hl => ?_)
    refine lv_iload_n hx hb dX7_never_67 rfl (lv_at hl 0 rfl) ?_
    obtain ⟨rfl, rfl⟩ := pj2 hF
    exact hEnd _ _ _ _ _ dX7_never_68 hP hS rfl
  · replace hF := if_t c_2 hF
    refine lv_iconst (v := (-1 : Int32)) hx hb dX7_never_8 (by decide) ?_
    obtain ⟨rfl, rfl⟩ := pj2 hF
    exact hEnd _ _ _ _ _ dX7_never_9 hP hS rfl
def f_X7_kindOf (i1 : Int32) : Int32 := ((i1 / (100 : Int32)))
abbrev rmX7_kindOf : Room := { frames := 0, cells := 0, slots := 0, locals := 0 }
set_option maxHeartbeats 400000 in
set_option maxRecDepth 100000 in
theorem c_X7_kindOf (l : Launch) (D : va_G) (cI cB cJ : ClassId) (sz : Nat) (i1 : Int32) (r : Int32) (hF : f_X7_kindOf i1 = r) : xMi l yX7_kindOf (.code yX7_kindOf cX7_kindOf 1 (some .int) :: xU) rmX7_kindOf (xK D cI cB cJ) D sz [.int i1] [] [] r := by
  refine xMi.mk (own := "FairNextModel") (by decide +kernel) rfl (Nat.le_of_ble_eq_true rfl) ?_
  intro p e s m args below meth c A Q ls H hfix hK hP hD hA hS hl hEnd
  obtain ⟨hx, hb, hml, hown, hts⟩ := id hfix
  have hl : lv_has ls 1 [(0, .int i1)] := hl
  rw [f_X7_kindOf] at hF
  refine lv_iload_n hx hb dX7_kindOf_0 rfl (lv_at hl 0 rfl) ?_
  refine lv_bipush (v := (100 : Int32)) hx hb dX7_kindOf_1 (by decide) ?_
  refine lv_idiv hx hb dX7_kindOf_3 (by decide) ?_
  subst hF
  exact hEnd _ _ _ _ _ dX7_kindOf_4 hP hS rfl
def f_X7_aOf (i1 : Int32) : Int32 := ((xrem (i1 / (20 : Int32)) (5 : Int32)))
abbrev rmX7_aOf : Room := { frames := 0, cells := 0, slots := 0, locals := 0 }
set_option maxHeartbeats 400000 in
set_option maxRecDepth 100000 in
theorem c_X7_aOf (l : Launch) (D : va_G) (cI cB cJ : ClassId) (sz : Nat) (i1 : Int32) (r : Int32) (hF : f_X7_aOf i1 = r) : xMi l yX7_aOf (.code yX7_aOf cX7_aOf 1 (some .int) :: xU) rmX7_aOf (xK D cI cB cJ) D sz [.int i1] [] [] r := by
  refine xMi.mk (own := "FairNextModel") (by decide +kernel) rfl (Nat.le_of_ble_eq_true rfl) ?_
  intro p e s m args below meth c A Q ls H hfix hK hP hD hA hS hl hEnd
  obtain ⟨hx, hb, hml, hown, hts⟩ := id hfix
  have hl : lv_has ls 1 [(0, .int i1)] := hl
  rw [f_X7_aOf] at hF
  refine lv_iload_n hx hb dX7_aOf_0 rfl (lv_at hl 0 rfl) ?_
  refine lv_bipush (v := (20 : Int32)) hx hb dX7_aOf_1 (by decide) ?_
  refine lv_idiv hx hb dX7_aOf_3 (by decide) ?_
  refine lv_iconst (v := (5 : Int32)) hx hb dX7_aOf_4 (by decide) ?_
  refine lv_irem hx hb dX7_aOf_5 (by decide) ?_
  subst hF
  exact hEnd _ _ _ _ _ dX7_aOf_6 hP hS rfl
def f_X7_bOf (i1 : Int32) : Int32 := ((xrem (i1 / (4 : Int32)) (5 : Int32)))
abbrev rmX7_bOf : Room := { frames := 0, cells := 0, slots := 0, locals := 0 }
set_option maxHeartbeats 400000 in
set_option maxRecDepth 100000 in
theorem c_X7_bOf (l : Launch) (D : va_G) (cI cB cJ : ClassId) (sz : Nat) (i1 : Int32) (r : Int32) (hF : f_X7_bOf i1 = r) : xMi l yX7_bOf (.code yX7_bOf cX7_bOf 1 (some .int) :: xU) rmX7_bOf (xK D cI cB cJ) D sz [.int i1] [] [] r := by
  refine xMi.mk (own := "FairNextModel") (by decide +kernel) rfl (Nat.le_of_ble_eq_true rfl) ?_
  intro p e s m args below meth c A Q ls H hfix hK hP hD hA hS hl hEnd
  obtain ⟨hx, hb, hml, hown, hts⟩ := id hfix
  have hl : lv_has ls 1 [(0, .int i1)] := hl
  rw [f_X7_bOf] at hF
  refine lv_iload_n hx hb dX7_bOf_0 rfl (lv_at hl 0 rfl) ?_
  refine lv_iconst (v := (4 : Int32)) hx hb dX7_bOf_1 (by decide) ?_
  refine lv_idiv hx hb dX7_bOf_2 (by decide) ?_
  refine lv_iconst (v := (5 : Int32)) hx hb dX7_bOf_3 (by decide) ?_
  refine lv_irem hx hb dX7_bOf_4 (by decide) ?_
  subst hF
  exact hEnd _ _ _ _ _ dX7_bOf_5 hP hS rfl
def f_X7_kOf (i1 : Int32) : Int32 := (((1 : Int32) + (xrem i1 (4 : Int32))))
abbrev rmX7_kOf : Room := { frames := 0, cells := 0, slots := 0, locals := 0 }
set_option maxHeartbeats 400000 in
set_option maxRecDepth 100000 in
theorem c_X7_kOf (l : Launch) (D : va_G) (cI cB cJ : ClassId) (sz : Nat) (i1 : Int32) (r : Int32) (hF : f_X7_kOf i1 = r) : xMi l yX7_kOf (.code yX7_kOf cX7_kOf 1 (some .int) :: xU) rmX7_kOf (xK D cI cB cJ) D sz [.int i1] [] [] r := by
  refine xMi.mk (own := "FairNextModel") (by decide +kernel) rfl (Nat.le_of_ble_eq_true rfl) ?_
  intro p e s m args below meth c A Q ls H hfix hK hP hD hA hS hl hEnd
  obtain ⟨hx, hb, hml, hown, hts⟩ := id hfix
  have hl : lv_has ls 1 [(0, .int i1)] := hl
  rw [f_X7_kOf] at hF
  refine lv_iconst (v := (1 : Int32)) hx hb dX7_kOf_0 (by decide) ?_
  refine lv_iload_n hx hb dX7_kOf_1 rfl (lv_at hl 0 rfl) ?_
  refine lv_iconst (v := (4 : Int32)) hx hb dX7_kOf_2 (by decide) ?_
  refine lv_irem hx hb dX7_kOf_3 (by decide) ?_
  refine lv_iadd hx hb dX7_kOf_4 ?_
  subst hF
  exact hEnd _ _ _ _ _ dX7_kOf_5 hP hS rfl
def f_X7_allMisses (i1 : Int32) (s_t_villages : Int32) (v_t_stand : (Nat → Int32)) (v_t_marks : (Nat → Int32)) : Option (Int32) := bd1 (f_X7_missesOf (f_X7_kindOf i1) (f_X7_aOf i1) (f_X7_bOf i1) (f_X7_kOf i1) s_t_villages v_t_stand v_t_marks) (fun (r_1 : Int32) => some (r_1))
abbrev rmX7_allMisses : Room := { frames := 3, cells := 0, slots := 0, locals := 75 }
set_option maxHeartbeats 400000 in
set_option maxRecDepth 100000 in
theorem c_X7_allMisses (l : Launch) (D : va_G) (cI cB cJ : ClassId) (a_t : Nat) (a_t_stand : Nat) (a_t_on : Nat) (a_t_marks : Nat) (a_t_rule : Nat) (a_t_tape : Nat) (a_t_freshStand : Nat) (a_t_freshMarks : Nat) (a_t_freshRule : Nat) (a_t_shares : Nat) (a_t_said : Nat) (a_t_rows : Nat) (a_t_must : Nat) (a_t_sorts : Nat) (a_t_sizes : Nat) (a_t_sheets : Nat) (a_t_holds : Nat) (a_t_heldNumber : Nat) (a_t_heldSize : Nat) (a_t_traced : Nat) (a_t_keptRow : Nat) (a_t_single : Nat) (sz : Nat) (s_t_villages : Int32) (s_t_held : Int32) (s_t_z : Int32) (s_t_tapeMany : Int32) (s_t_sort : Int32) (s_t_begins : Int32) (s_t_tokenEnds : Int32) (s_t_word : Int64) (s_t_value : Int32) (s_t_good : Int32) (s_t_freshVillages : Int32) (s_t_freshHeld : Int32) (s_t_rowMany : Int32) (s_t_mustMany : Int32) (s_t_kind : Int32) (s_t_number : Int32) (s_t_own : Int32) (s_t_bodies : Int32) (s_t_isParted : Int32) (s_t_isKept : Int32) (s_t_movedTo : Int32) (v_t_stand : (Nat → Int32)) (v_t_marks : (Nat → Int32)) (i1 : Int32) (r : Int32) (hF : f_X7_allMisses i1 s_t_villages v_t_stand v_t_marks = some r) : xMi l yX7_allMisses (.code yX7_allMisses cX7_allMisses 2 (some .int) :: xU) rmX7_allMisses (xK D cI cB cJ) D sz [.ref a_t, .int i1] [(a_t, .inr (7, [.ref a_t_stand, .ref a_t_on, .ref a_t_marks, .int s_t_villages, .int s_t_held, .ref a_t_rule, .int s_t_z, .ref a_t_tape, .int s_t_tapeMany, .int s_t_sort, .int s_t_begins, .int s_t_tokenEnds, .long s_t_word, .int s_t_value, .int s_t_good, .int s_t_freshVillages, .int s_t_freshHeld, .ref a_t_freshStand, .ref a_t_freshMarks, .ref a_t_freshRule, .ref a_t_shares, .ref a_t_said, .ref a_t_rows, .ref a_t_must, .int s_t_rowMany, .int s_t_mustMany, .ref a_t_sorts, .ref a_t_sizes, .ref a_t_sheets, .ref a_t_holds, .ref a_t_heldNumber, .ref a_t_heldSize, .int s_t_kind, .int s_t_number, .int s_t_own, .ref a_t_traced, .int s_t_bodies, .int s_t_isParted, .int s_t_isKept, .ref a_t_keptRow, .int s_t_movedTo, .ref a_t_single])), (a_t_stand, .inl (cI, 100, .inl v_t_stand)), (a_t_marks, .inl (cI, 100, .inl v_t_marks))] [(a_t, .inr (7, [.ref a_t_stand, .ref a_t_on, .ref a_t_marks, .int s_t_villages, .int s_t_held, .ref a_t_rule, .int s_t_z, .ref a_t_tape, .int s_t_tapeMany, .int s_t_sort, .int s_t_begins, .int s_t_tokenEnds, .long s_t_word, .int s_t_value, .int s_t_good, .int s_t_freshVillages, .int s_t_freshHeld, .ref a_t_freshStand, .ref a_t_freshMarks, .ref a_t_freshRule, .ref a_t_shares, .ref a_t_said, .ref a_t_rows, .ref a_t_must, .int s_t_rowMany, .int s_t_mustMany, .ref a_t_sorts, .ref a_t_sizes, .ref a_t_sheets, .ref a_t_holds, .ref a_t_heldNumber, .ref a_t_heldSize, .int s_t_kind, .int s_t_number, .int s_t_own, .ref a_t_traced, .int s_t_bodies, .int s_t_isParted, .int s_t_isKept, .ref a_t_keptRow, .int s_t_movedTo, .ref a_t_single])), (a_t_stand, .inl (cI, 100, .inl v_t_stand)), (a_t_marks, .inl (cI, 100, .inl v_t_marks))] r := by
  refine xMi.mk (own := "FairNextModel") (by decide +kernel) rfl (Nat.le_of_ble_eq_true rfl) ?_
  intro p e s m args below meth c A Q ls H hfix hK hP hD hA hS hl hEnd
  obtain ⟨hx, hb, hml, hown, hts⟩ := id hfix
  have hl : lv_has ls 2 [(0, .ref a_t), (1, .int i1)] := hl
  rw [f_X7_allMisses] at hF
  refine lv_aload_n hx hb dX7_allMisses_0 rfl (lv_at hl 0 rfl) ?_
  refine lv_iload_n hx hb dX7_allMisses_1 rfl (lv_at hl 1 rfl) ?_
  refine xri0 (xrunS (As := [.int i1]) (rest := [.ref a_t]) (c_X7_kindOf l D cI cB cJ _ i1 (f_X7_kindOf i1) rfl) hfix xw_997 ys_X7_kindOf ⟨rfl, rfl⟩ ⟨(Nat.le_of_ble_eq_true rfl), (Nat.le_of_ble_eq_true rfl)⟩ xKk_K (fun U hU hW => xK.warm hW hK) hP hD [] rfl rfl rfl hl.1 rfl (Nat.le_of_ble_eq_true rfl) dX7_allMisses_2 ⟨Nat.zero_le _, Nat.zero_le _⟩) hP hD hS hA [] rfl rfl (fun H locs hP hD hS => ?_)
  refine lv_iload_n hx hb dX7_allMisses_5 rfl (lv_at hl 1 rfl) ?_
  refine xri0 (xrunS (As := [.int i1]) (rest := [.int (f_X7_kindOf i1), .ref a_t]) (c_X7_aOf l D cI cB cJ _ i1 (f_X7_aOf i1) rfl) hfix xw_1000 ys_X7_aOf ⟨rfl, rfl⟩ ⟨(Nat.le_of_ble_eq_true rfl), (Nat.le_of_ble_eq_true rfl)⟩ xKk_K (fun U hU hW => xK.warm hW hK) hP hD [] rfl rfl rfl hl.1 rfl (Nat.le_of_ble_eq_true rfl) dX7_allMisses_6 ⟨Nat.zero_le _, Nat.zero_le _⟩) hP hD hS hA [] rfl rfl (fun H locs hP hD hS => ?_)
  refine lv_iload_n hx hb dX7_allMisses_9 rfl (lv_at hl 1 rfl) ?_
  refine xri0 (xrunS (As := [.int i1]) (rest := [.int (f_X7_aOf i1), .int (f_X7_kindOf i1), .ref a_t]) (c_X7_bOf l D cI cB cJ _ i1 (f_X7_bOf i1) rfl) hfix xw_1003 ys_X7_bOf ⟨rfl, rfl⟩ ⟨(Nat.le_of_ble_eq_true rfl), (Nat.le_of_ble_eq_true rfl)⟩ xKk_K (fun U hU hW => xK.warm hW hK) hP hD [] rfl rfl rfl hl.1 rfl (Nat.le_of_ble_eq_true rfl) dX7_allMisses_10 ⟨Nat.zero_le _, Nat.zero_le _⟩) hP hD hS hA [] rfl rfl (fun H locs hP hD hS => ?_)
  refine lv_iload_n hx hb dX7_allMisses_13 rfl (lv_at hl 1 rfl) ?_
  refine xri0 (xrunS (As := [.int i1]) (rest := [.int (f_X7_bOf i1), .int (f_X7_aOf i1), .int (f_X7_kindOf i1), .ref a_t]) (c_X7_kOf l D cI cB cJ _ i1 (f_X7_kOf i1) rfl) hfix xw_1006 ys_X7_kOf ⟨rfl, rfl⟩ ⟨(Nat.le_of_ble_eq_true rfl), (Nat.le_of_ble_eq_true rfl)⟩ xKk_K (fun U hU hW => xK.warm hW hK) hP hD [] rfl rfl rfl hl.1 rfl (Nat.le_of_ble_eq_true rfl) dX7_allMisses_14 ⟨Nat.zero_le _, Nat.zero_le _⟩) hP hD hS hA [] rfl rfl (fun H locs hP hD hS => ?_)
  obtain ⟨r_1, hq_2, hF⟩ := bd1_e hF
  refine xri0 (xrunV (As := [.int (f_X7_kindOf i1), .int (f_X7_aOf i1), .int (f_X7_bOf i1), .int (f_X7_kOf i1)]) (rest := []) (c_X7_missesOf l D cI cB cJ a_t a_t_stand a_t_on a_t_marks a_t_rule a_t_tape a_t_freshStand a_t_freshMarks a_t_freshRule a_t_shares a_t_said a_t_rows a_t_must a_t_sorts a_t_sizes a_t_sheets a_t_holds a_t_heldNumber a_t_heldSize a_t_traced a_t_keptRow a_t_single _ s_t_villages s_t_held s_t_z s_t_tapeMany s_t_sort s_t_begins s_t_tokenEnds s_t_word s_t_value s_t_good s_t_freshVillages s_t_freshHeld s_t_rowMany s_t_mustMany s_t_kind s_t_number s_t_own s_t_bodies s_t_isParted s_t_isKept s_t_movedTo v_t_stand v_t_marks (f_X7_kindOf i1) (f_X7_aOf i1) (f_X7_bOf i1) (f_X7_kOf i1) r_1 hq_2) hfix xw_932 yv_X7_missesOf ⟨rfl, rfl⟩ ⟨(Nat.le_of_ble_eq_true rfl), (Nat.le_of_ble_eq_true rfl)⟩ xKk_K (fun U hU hW => xK.warm hW hK) hK.1 hP hD [0, 1, 2] rfl rfl 0 7 rfl rfl rfl rfl hl.1 rfl (Nat.le_of_ble_eq_true rfl) dX7_allMisses_17 ⟨Nat.zero_le _, Nat.zero_le _⟩) hP hD hS hA [0, 1, 2] rfl rfl (fun H locs hP hD hS => ?_)
  obtain rfl := Option.some.inj hF
  exact hEnd _ _ _ _ _ dX7_allMisses_20 hP hS rfl
def f_X7_allWords (i1 : Int32) : Int32 := ((f_X7_wordsOf (f_X7_aOf i1) (f_X7_bOf i1) (f_X7_kOf i1)))
abbrev rmX7_allWords : Room := { frames := 1, cells := 0, slots := 0, locals := 22 }
set_option maxHeartbeats 400000 in
set_option maxRecDepth 100000 in
theorem c_X7_allWords (l : Launch) (D : va_G) (cI cB cJ : ClassId) (sz : Nat) (i1 : Int32) (r : Int32) (hF : f_X7_allWords i1 = r) : xMi l yX7_allWords (.code yX7_allWords cX7_allWords 1 (some .int) :: xU) rmX7_allWords (xK D cI cB cJ) D sz [.int i1] [] [] r := by
  refine xMi.mk (own := "FairNextModel") (by decide +kernel) rfl (Nat.le_of_ble_eq_true rfl) ?_
  intro p e s m args below meth c A Q ls H hfix hK hP hD hA hS hl hEnd
  obtain ⟨hx, hb, hml, hown, hts⟩ := id hfix
  have hl : lv_has ls 1 [(0, .int i1)] := hl
  rw [f_X7_allWords] at hF
  refine lv_iload_n hx hb dX7_allWords_0 rfl (lv_at hl 0 rfl) ?_
  refine xri0 (xrunS (As := [.int i1]) (rest := []) (c_X7_aOf l D cI cB cJ _ i1 (f_X7_aOf i1) rfl) hfix xw_1000 ys_X7_aOf ⟨rfl, rfl⟩ ⟨(Nat.le_of_ble_eq_true rfl), (Nat.le_of_ble_eq_true rfl)⟩ xKk_K (fun U hU hW => xK.warm hW hK) hP hD [] rfl rfl rfl hl.1 rfl (Nat.le_of_ble_eq_true rfl) dX7_allWords_1 ⟨Nat.zero_le _, Nat.zero_le _⟩) hP hD hS hA [] rfl rfl (fun H locs hP hD hS => ?_)
  refine lv_iload_n hx hb dX7_allWords_4 rfl (lv_at hl 0 rfl) ?_
  refine xri0 (xrunS (As := [.int i1]) (rest := [.int (f_X7_aOf i1)]) (c_X7_bOf l D cI cB cJ _ i1 (f_X7_bOf i1) rfl) hfix xw_1003 ys_X7_bOf ⟨rfl, rfl⟩ ⟨(Nat.le_of_ble_eq_true rfl), (Nat.le_of_ble_eq_true rfl)⟩ xKk_K (fun U hU hW => xK.warm hW hK) hP hD [] rfl rfl rfl hl.1 rfl (Nat.le_of_ble_eq_true rfl) dX7_allWords_5 ⟨Nat.zero_le _, Nat.zero_le _⟩) hP hD hS hA [] rfl rfl (fun H locs hP hD hS => ?_)
  refine lv_iload_n hx hb dX7_allWords_8 rfl (lv_at hl 0 rfl) ?_
  refine xri0 (xrunS (As := [.int i1]) (rest := [.int (f_X7_bOf i1), .int (f_X7_aOf i1)]) (c_X7_kOf l D cI cB cJ _ i1 (f_X7_kOf i1) rfl) hfix xw_1006 ys_X7_kOf ⟨rfl, rfl⟩ ⟨(Nat.le_of_ble_eq_true rfl), (Nat.le_of_ble_eq_true rfl)⟩ xKk_K (fun U hU hW => xK.warm hW hK) hP hD [] rfl rfl rfl hl.1 rfl (Nat.le_of_ble_eq_true rfl) dX7_allWords_9 ⟨Nat.zero_le _, Nat.zero_le _⟩) hP hD hS hA [] rfl rfl (fun H locs hP hD hS => ?_)
  refine xri0 (xrunS (As := [.int (f_X7_aOf i1), .int (f_X7_bOf i1), .int (f_X7_kOf i1)]) (rest := []) (c_X7_wordsOf l D cI cB cJ _ (f_X7_aOf i1) (f_X7_bOf i1) (f_X7_kOf i1) (f_X7_wordsOf (f_X7_aOf i1) (f_X7_bOf i1) (f_X7_kOf i1)) rfl) hfix xw_929 ys_X7_wordsOf ⟨rfl, rfl⟩ ⟨(Nat.le_of_ble_eq_true rfl), (Nat.le_of_ble_eq_true rfl)⟩ xKk_K (fun U hU hW => xK.warm hW hK) hP hD [] rfl rfl rfl hl.1 rfl (Nat.le_of_ble_eq_true rfl) dX7_allWords_12 ⟨Nat.zero_le _, Nat.zero_le _⟩) hP hD hS hA [] rfl rfl (fun H locs hP hD hS => ?_)
  subst hF
  exact hEnd _ _ _ _ _ dX7_allWords_15 hP hS rfl
def f_X7_isAllowed (i1 : Int32) : Int32 := ((f_X7_in i1 (0 : Int32) (9 : Int32)))
abbrev rmX7_isAllowed : Room := { frames := 1, cells := 0, slots := 0, locals := 22 }
set_option maxHeartbeats 400000 in
set_option maxRecDepth 100000 in
theorem c_X7_isAllowed (l : Launch) (D : va_G) (cI cB cJ : ClassId) (sz : Nat) (i1 : Int32) (r : Int32) (hF : f_X7_isAllowed i1 = r) : xMz l yX7_isAllowed (.code yX7_isAllowed cX7_isAllowed 1 (some .boolean) :: xU) rmX7_isAllowed (xK D cI cB cJ) D sz [.int i1] [] [] r := by
  refine xMz.mk (own := "FairNextModel") (by decide +kernel) rfl (Nat.le_of_ble_eq_true rfl) ?_
  intro p e s m args below meth c A Q ls H hfix hK hP hD hA hS hl hEnd
  obtain ⟨hx, hb, hml, hown, hts⟩ := id hfix
  have hl : lv_has ls 1 [(0, .int i1)] := hl
  rw [f_X7_isAllowed] at hF
  refine lv_iload_n hx hb dX7_isAllowed_0 rfl (lv_at hl 0 rfl) ?_
  refine lv_iconst (v := (0 : Int32)) hx hb dX7_isAllowed_1 (by decide) ?_
  refine lv_bipush (v := (9 : Int32)) hx hb dX7_isAllowed_2 (by decide) ?_
  refine xrz0 (xrunS (As := [.int i1, .int (0 : Int32), .int (9 : Int32)]) (rest := []) (c_X7_in l D cI cB cJ _ i1 (0 : Int32) (9 : Int32) (f_X7_in i1 (0 : Int32) (9 : Int32)) rfl) hfix xw_819 ys_X7_in ⟨rfl, rfl⟩ ⟨(Nat.le_of_ble_eq_true rfl), (Nat.le_of_ble_eq_true rfl)⟩ xKk_K (fun U hU hW => xK.warm hW hK) hP hD [] rfl rfl rfl hl.1 rfl (Nat.le_of_ble_eq_true rfl) dX7_isAllowed_4 ⟨Nat.zero_le _, Nat.zero_le _⟩) hP hD hS hA [] rfl rfl (fun H locs hP hD hS hz_1 => ?_)
  subst hF
  exact hEnd _ _ _ _ _ dX7_isAllowed_7 hP hS hz_1 rfl
def f_X7_fits_L13 (s_t_villages : Int32) (v_t_stand : (Nat → Int32)) (v_t_marks : (Nat → Int32)) (i1 : Int32) : Nat → Int32 → Int32 → Option (Int32)
  | 0, _, _ => none
  | n + 1, x2_3, x3_4 => (if (600 : Int32) ≤ x3_4 then some (x2_3) else bd1 (f_X7_allMisses x3_4 s_t_villages v_t_stand v_t_marks) (fun (r_7 : Int32) => (if i1 < r_7 then f_X7_fits_L13 s_t_villages v_t_stand v_t_marks i1 n (x2_3 + (0 : Int32)) (x3_4 + (1 : Int32)) else f_X7_fits_L13 s_t_villages v_t_stand v_t_marks i1 n (x2_3 + (1 : Int32)) (x3_4 + (1 : Int32)))))
def f_X7_fits (i1 : Int32) (s_t_villages : Int32) (v_t_stand : (Nat → Int32)) (v_t_marks : (Nat → Int32)) : Option (Int32) := (if (f_X7_isAllowed i1) = (0 : Int32) then some ((-1 : Int32)) else bd1 (f_X7_fits_L13 s_t_villages v_t_stand v_t_marks i1 1000 (0 : Int32) (0 : Int32)) (fun (y2_5 : Int32) => some (y2_5)))
abbrev rmX7_fits : Room := { frames := 4, cells := 0, slots := 0, locals := 96 }
set_option maxHeartbeats 400000 in
set_option maxRecDepth 100000 in
theorem c_X7_fits (l : Launch) (D : va_G) (cI cB cJ : ClassId) (a_t : Nat) (a_t_stand : Nat) (a_t_on : Nat) (a_t_marks : Nat) (a_t_rule : Nat) (a_t_tape : Nat) (a_t_freshStand : Nat) (a_t_freshMarks : Nat) (a_t_freshRule : Nat) (a_t_shares : Nat) (a_t_said : Nat) (a_t_rows : Nat) (a_t_must : Nat) (a_t_sorts : Nat) (a_t_sizes : Nat) (a_t_sheets : Nat) (a_t_holds : Nat) (a_t_heldNumber : Nat) (a_t_heldSize : Nat) (a_t_traced : Nat) (a_t_keptRow : Nat) (a_t_single : Nat) (sz : Nat) (s_t_villages : Int32) (s_t_held : Int32) (s_t_z : Int32) (s_t_tapeMany : Int32) (s_t_sort : Int32) (s_t_begins : Int32) (s_t_tokenEnds : Int32) (s_t_word : Int64) (s_t_value : Int32) (s_t_good : Int32) (s_t_freshVillages : Int32) (s_t_freshHeld : Int32) (s_t_rowMany : Int32) (s_t_mustMany : Int32) (s_t_kind : Int32) (s_t_number : Int32) (s_t_own : Int32) (s_t_bodies : Int32) (s_t_isParted : Int32) (s_t_isKept : Int32) (s_t_movedTo : Int32) (v_t_stand : (Nat → Int32)) (v_t_marks : (Nat → Int32)) (i1 : Int32) (r : Int32) (hF : f_X7_fits i1 s_t_villages v_t_stand v_t_marks = some r) : xMi l yX7_fits (.code yX7_fits cX7_fits 4 (some .int) :: xU) rmX7_fits (xK D cI cB cJ) D sz [.ref a_t, .int i1] [(a_t, .inr (7, [.ref a_t_stand, .ref a_t_on, .ref a_t_marks, .int s_t_villages, .int s_t_held, .ref a_t_rule, .int s_t_z, .ref a_t_tape, .int s_t_tapeMany, .int s_t_sort, .int s_t_begins, .int s_t_tokenEnds, .long s_t_word, .int s_t_value, .int s_t_good, .int s_t_freshVillages, .int s_t_freshHeld, .ref a_t_freshStand, .ref a_t_freshMarks, .ref a_t_freshRule, .ref a_t_shares, .ref a_t_said, .ref a_t_rows, .ref a_t_must, .int s_t_rowMany, .int s_t_mustMany, .ref a_t_sorts, .ref a_t_sizes, .ref a_t_sheets, .ref a_t_holds, .ref a_t_heldNumber, .ref a_t_heldSize, .int s_t_kind, .int s_t_number, .int s_t_own, .ref a_t_traced, .int s_t_bodies, .int s_t_isParted, .int s_t_isKept, .ref a_t_keptRow, .int s_t_movedTo, .ref a_t_single])), (a_t_stand, .inl (cI, 100, .inl v_t_stand)), (a_t_marks, .inl (cI, 100, .inl v_t_marks))] [(a_t, .inr (7, [.ref a_t_stand, .ref a_t_on, .ref a_t_marks, .int s_t_villages, .int s_t_held, .ref a_t_rule, .int s_t_z, .ref a_t_tape, .int s_t_tapeMany, .int s_t_sort, .int s_t_begins, .int s_t_tokenEnds, .long s_t_word, .int s_t_value, .int s_t_good, .int s_t_freshVillages, .int s_t_freshHeld, .ref a_t_freshStand, .ref a_t_freshMarks, .ref a_t_freshRule, .ref a_t_shares, .ref a_t_said, .ref a_t_rows, .ref a_t_must, .int s_t_rowMany, .int s_t_mustMany, .ref a_t_sorts, .ref a_t_sizes, .ref a_t_sheets, .ref a_t_holds, .ref a_t_heldNumber, .ref a_t_heldSize, .int s_t_kind, .int s_t_number, .int s_t_own, .ref a_t_traced, .int s_t_bodies, .int s_t_isParted, .int s_t_isKept, .ref a_t_keptRow, .int s_t_movedTo, .ref a_t_single])), (a_t_stand, .inl (cI, 100, .inl v_t_stand)), (a_t_marks, .inl (cI, 100, .inl v_t_marks))] r := by
  refine xMi.mk (own := "FairNextModel") (by decide +kernel) rfl (Nat.le_of_ble_eq_true rfl) ?_
  intro p e s m args below meth c A Q ls H hfix hK hP hD hA hS hl hEnd
  obtain ⟨hx, hb, hml, hown, hts⟩ := id hfix
  have hl : lv_has ls 4 [(0, .ref a_t), (1, .int i1)] := hl
  rw [f_X7_fits] at hF
  refine lv_iload_n hx hb dX7_fits_0 rfl (lv_at hl 1 rfl) ?_
  refine xrz0 (xrunS (As := [.int i1]) (rest := []) (c_X7_isAllowed l D cI cB cJ _ i1 (f_X7_isAllowed i1) rfl) hfix xw_990 ys_X7_isAllowed ⟨rfl, rfl⟩ ⟨(Nat.le_of_ble_eq_true rfl), (Nat.le_of_ble_eq_true rfl)⟩ xKk_K (fun U hU hW => xK.warm hW hK) hP hD [] rfl rfl rfl hl.1 rfl (Nat.le_of_ble_eq_true rfl) dX7_fits_1 ⟨Nat.zero_le _, Nat.zero_le _⟩) hP hD hS hA [] rfl rfl (fun H locs hP hD hS hz_1 => ?_)
  refine lv_if_ne (tgt := 9) hx hb dX7_fits_4 (by decide) (fun c_2 => ?_) (fun c_2 => ?_)
  · replace hF := if_f c_2 hF
    refine lv_iconst (v := (0 : Int32)) hx hb dX7_fits_9 (by decide) ?_
    refine lv_istore_n (lv' := [(2, .int (0 : Int32)), (0, .ref a_t), (1, .int i1)]) hx hb dX7_fits_10 rfl hl (by decide) rfl (fun ls hl => ?_)
    refine lv_iconst (v := (0 : Int32)) hx hb dX7_fits_11 (by decide) ?_
    refine lv_istore_n (lv' := [(3, .int (0 : Int32)), (2, .int (0 : Int32)), (0, .ref a_t), (1, .int i1)]) hx hb dX7_fits_12 rfl hl (by decide) rfl (fun ls hl => ?_)
    have hL_13 : ∀ (n : Nat) (x2_3 : Int32) (x3_4 : Int32) (y2_5 : Int32), f_X7_fits_L13 s_t_villages v_t_stand v_t_marks i1 n x2_3 x3_4 = some y2_5 → ∀ (H : Heap) (locs : List Loc) (ls : Array Slot), va_P D vwCl [(a_t, .inr (7, [.ref a_t_stand, .ref a_t_on, .ref a_t_marks, .int s_t_villages, .int s_t_held, .ref a_t_rule, .int s_t_z, .ref a_t_tape, .int s_t_tapeMany, .int s_t_sort, .int s_t_begins, .int s_t_tokenEnds, .long s_t_word, .int s_t_value, .int s_t_good, .int s_t_freshVillages, .int s_t_freshHeld, .ref a_t_freshStand, .ref a_t_freshMarks, .ref a_t_freshRule, .ref a_t_shares, .ref a_t_said, .ref a_t_rows, .ref a_t_must, .int s_t_rowMany, .int s_t_mustMany, .ref a_t_sorts, .ref a_t_sizes, .ref a_t_sheets, .ref a_t_holds, .ref a_t_heldNumber, .ref a_t_heldSize, .int s_t_kind, .int s_t_number, .int s_t_own, .ref a_t_traced, .int s_t_bodies, .int s_t_isParted, .int s_t_isKept, .ref a_t_keptRow, .int s_t_movedTo, .ref a_t_single])), (a_t_stand, .inl (cI, 100, .inl v_t_stand)), (a_t_marks, .inl (cI, 100, .inl v_t_marks))] H → va_D A [(a_t, .inr (7, [.ref a_t_stand, .ref a_t_on, .ref a_t_marks, .int s_t_villages, .int s_t_held, .ref a_t_rule, .int s_t_z, .ref a_t_tape, .int s_t_tapeMany, .int s_t_sort, .int s_t_begins, .int s_t_tokenEnds, .long s_t_word, .int s_t_value, .int s_t_good, .int s_t_freshVillages, .int s_t_freshHeld, .ref a_t_freshStand, .ref a_t_freshMarks, .ref a_t_freshRule, .ref a_t_shares, .ref a_t_said, .ref a_t_rows, .ref a_t_must, .int s_t_rowMany, .int s_t_mustMany, .ref a_t_sorts, .ref a_t_sizes, .ref a_t_sheets, .ref a_t_holds, .ref a_t_heldNumber, .ref a_t_heldSize, .int s_t_kind, .int s_t_number, .int s_t_own, .ref a_t_traced, .int s_t_bodies, .int s_t_isParted, .int s_t_isKept, .ref a_t_keptRow, .int s_t_movedTo, .ref a_t_single])), (a_t_stand, .inl (cI, 100, .inl v_t_stand)), (a_t_marks, .inl (cI, 100, .inl v_t_marks))] → va_S A s.heap H locs → lv_has ls 4 [(0, .ref a_t), (1, .int i1), (2, .int x2_3), (3, .int x3_4)] → (∀ (H : Heap) (locs : List Loc) (ls : Array Slot), va_P D vwCl [(a_t, .inr (7, [.ref a_t_stand, .ref a_t_on, .ref a_t_marks, .int s_t_villages, .int s_t_held, .ref a_t_rule, .int s_t_z, .ref a_t_tape, .int s_t_tapeMany, .int s_t_sort, .int s_t_begins, .int s_t_tokenEnds, .long s_t_word, .int s_t_value, .int s_t_good, .int s_t_freshVillages, .int s_t_freshHeld, .ref a_t_freshStand, .ref a_t_freshMarks, .ref a_t_freshRule, .ref a_t_shares, .ref a_t_said, .ref a_t_rows, .ref a_t_must, .int s_t_rowMany, .int s_t_mustMany, .ref a_t_sorts, .ref a_t_sizes, .ref a_t_sheets, .ref a_t_holds, .ref a_t_heldNumber, .ref a_t_heldSize, .int s_t_kind, .int s_t_number, .int s_t_own, .ref a_t_traced, .int s_t_bodies, .int s_t_isParted, .int s_t_isKept, .ref a_t_keptRow, .int s_t_movedTo, .ref a_t_single])), (a_t_stand, .inl (cI, 100, .inl v_t_stand)), (a_t_marks, .inl (cI, 100, .inl v_t_marks))] H → va_D A [(a_t, .inr (7, [.ref a_t_stand, .ref a_t_on, .ref a_t_marks, .int s_t_villages, .int s_t_held, .ref a_t_rule, .int s_t_z, .ref a_t_tape, .int s_t_tapeMany, .int s_t_sort, .int s_t_begins, .int s_t_tokenEnds, .long s_t_word, .int s_t_value, .int s_t_good, .int s_t_freshVillages, .int s_t_freshHeld, .ref a_t_freshStand, .ref a_t_freshMarks, .ref a_t_freshRule, .ref a_t_shares, .ref a_t_said, .ref a_t_rows, .ref a_t_must, .int s_t_rowMany, .int s_t_mustMany, .ref a_t_sorts, .ref a_t_sizes, .ref a_t_sheets, .ref a_t_holds, .ref a_t_heldNumber, .ref a_t_heldSize, .int s_t_kind, .int s_t_number, .int s_t_own, .ref a_t_traced, .int s_t_bodies, .int s_t_isParted, .int s_t_isKept, .ref a_t_keptRow, .int s_t_movedTo, .ref a_t_single])), (a_t_stand, .inl (cI, 100, .inl v_t_stand)), (a_t_marks, .inl (cI, 100, .inl v_t_marks))] → va_S A s.heap H locs → lv_has ls 4 [(2, .int y2_5)] → W p l e rmX7_fits s m args below meth c H locs 0 0 Q (F0 m 43 ls [])) → W p l e rmX7_fits s m args below meth c H locs 0 0 Q (F0 m 13 ls []) := by
      intro n
      induction n with
      | zero => intro x2_3 x3_4 y2_5 hF; exact (no_some hF).elim
      | succ n ih =>
        intro x2_3 x3_4 y2_5 hF H locs ls hP hD hS hl kexit
        rw [f_X7_fits_L13] at hF
        refine lv_iload_n hx hb dX7_fits_13 rfl (lv_at hl 3 rfl) ?_
        refine lv_sipush (v := (600 : Int32)) hx hb dX7_fits_14 (by decide) ?_
        refine lv_icmp_ge (tgt := 43) hx hb dX7_fits_17 (by decide) (fun c_6 => ?_) (fun c_6 => ?_)
        · replace hF := if_t c_6 hF
          obtain rfl := Option.some.inj hF
          exact kexit _ _ _ hP hD hS (lv_sub hl [2] rfl)
        · replace hF := if_f c_6 hF
          refine lv_iload_n hx hb dX7_fits_20 rfl (lv_at hl 2 rfl) ?_
          refine lv_aload_n hx hb dX7_fits_21 rfl (lv_at hl 0 rfl) ?_
          refine lv_iload_n hx hb dX7_fits_22 rfl (lv_at hl 3 rfl) ?_
          obtain ⟨r_7, hq_8, hF⟩ := bd1_e hF
          refine xri0 (xrunV (As := [.int x3_4]) (rest := [.int x2_3]) (c_X7_allMisses l D cI cB cJ a_t a_t_stand a_t_on a_t_marks a_t_rule a_t_tape a_t_freshStand a_t_freshMarks a_t_freshRule a_t_shares a_t_said a_t_rows a_t_must a_t_sorts a_t_sizes a_t_sheets a_t_holds a_t_heldNumber a_t_heldSize a_t_traced a_t_keptRow a_t_single _ s_t_villages s_t_held s_t_z s_t_tapeMany s_t_sort s_t_begins s_t_tokenEnds s_t_word s_t_value s_t_good s_t_freshVillages s_t_freshHeld s_t_rowMany s_t_mustMany s_t_kind s_t_number s_t_own s_t_bodies s_t_isParted s_t_isKept s_t_movedTo v_t_stand v_t_marks x3_4 r_7 hq_8) hfix xw_993 yv_X7_allMisses ⟨rfl, rfl⟩ ⟨(Nat.le_of_ble_eq_true rfl), (Nat.le_of_ble_eq_true rfl)⟩ xKk_K (fun U hU hW => xK.warm hW hK) hK.1 hP hD [0, 1, 2] rfl rfl 0 7 rfl rfl rfl rfl hl.1 rfl (Nat.le_of_ble_eq_true rfl) dX7_fits_23 ⟨Nat.zero_le _, Nat.zero_le _⟩) hP hD hS hA [0, 1, 2] rfl rfl (fun H locs hP hD hS => ?_)
          refine lv_iload_n hx hb dX7_fits_26 rfl (lv_at hl 1 rfl) ?_
          refine lv_icmp_gt (tgt := 34) hx hb dX7_fits_27 (by decide) (fun c_9 => ?_) (fun c_9 => ?_)
          · replace hF := if_t c_9 hF
            refine lv_iconst (v := (0 : Int32)) hx hb dX7_fits_34 (by decide) ?_
            refine lv_iadd hx hb dX7_fits_35 ?_
            refine lv_istore_n (lv' := [(2, .int (x2_3 + (0 : Int32))), (0, .ref a_t), (1, .int i1), (3, .int x3_4)]) hx hb dX7_fits_36 rfl hl (by decide) rfl (fun ls hl => ?_)
            refine lv_iinc (v := (x3_4 + (1 : Int32))) (lv' := [(3, .int (x3_4 + (1 : Int32))), (2, .int (x2_3 + (0 : Int32))), (0, .ref a_t), (1, .int i1)]) hx hb dX7_fits_37 hl (k := 3) rfl rfl (by decide) rfl (fun ls hl => ?_)
            refine lv_goto (tgt := 13) hx hb dX7_fits_40 (by decide) ?_
            exact ih _ _ _ hF _ _ _ hP hD hS (lv_sub hl [2, 3, 1, 0] rfl) kexit
          · replace hF := if_f c_9 hF
            refine lv_iconst (v := (1 : Int32)) hx hb dX7_fits_30 (by decide) ?_
            refine lv_goto (tgt := 35) hx hb dX7_fits_31 (by decide) ?_
            refine lv_iadd hx hb dX7_fits_35 ?_
            refine lv_istore_n (lv' := [(2, .int (x2_3 + (1 : Int32))), (0, .ref a_t), (1, .int i1), (3, .int x3_4)]) hx hb dX7_fits_36 rfl hl (by decide) rfl (fun ls hl => ?_)
            refine lv_iinc (v := (x3_4 + (1 : Int32))) (lv' := [(3, .int (x3_4 + (1 : Int32))), (2, .int (x2_3 + (1 : Int32))), (0, .ref a_t), (1, .int i1)]) hx hb dX7_fits_37 hl (k := 3) rfl rfl (by decide) rfl (fun ls hl => ?_)
            refine lv_goto (tgt := 13) hx hb dX7_fits_40 (by decide) ?_
            exact ih _ _ _ hF _ _ _ hP hD hS (lv_sub hl [2, 3, 1, 0] rfl) kexit
    obtain ⟨y2_5, hq, hF⟩ := bd1_e hF
    refine hL_13 _ _ _ _ hq _ _ _ hP hD hS (lv_sub hl [2, 3, 1, 0] rfl) (fun H locs ls hP hD hS hl => ?_)
    refine lv_iload_n hx hb dX7_fits_43 rfl (lv_at hl 0 rfl) ?_
    obtain rfl := Option.some.inj hF
    exact hEnd _ _ _ _ _ dX7_fits_44 hP hS rfl
  · replace hF := if_t c_2 hF
    refine lv_iconst (v := (-1 : Int32)) hx hb dX7_fits_7 (by decide) ?_
    obtain rfl := Option.some.inj hF
    exact hEnd _ _ _ _ _ dX7_fits_8 hP hS rfl
def f_X7_plainestOf_L4 (s_t_villages : Int32) (v_t_stand : (Nat → Int32)) (v_t_marks : (Nat → Int32)) (i1 : Int32) : Nat → Int32 → Int32 → Option (Int32)
  | 0, _, _ => none
  | n + 1, x2_1, x3_2 => (if (600 : Int32) ≤ x3_2 then some (x2_1) else (if x2_1 < (0 : Int32) then bd1 (f_X7_allMisses x3_2 s_t_villages v_t_stand v_t_marks) (fun (r_6 : Int32) => (if i1 < r_6 then f_X7_plainestOf_L4 s_t_villages v_t_stand v_t_marks i1 n x2_1 (x3_2 + (1 : Int32)) else f_X7_plainestOf_L4 s_t_villages v_t_stand v_t_marks i1 n x3_2 (x3_2 + (1 : Int32)))) else (if (f_X7_allWords x2_1) ≤ (f_X7_allWords x3_2) then f_X7_plainestOf_L4 s_t_villages v_t_stand v_t_marks i1 n x2_1 (x3_2 + (1 : Int32)) else bd1 (f_X7_allMisses x3_2 s_t_villages v_t_stand v_t_marks) (fun (r_10 : Int32) => (if i1 < r_10 then f_X7_plainestOf_L4 s_t_villages v_t_stand v_t_marks i1 n x2_1 (x3_2 + (1 : Int32)) else f_X7_plainestOf_L4 s_t_villages v_t_stand v_t_marks i1 n x3_2 (x3_2 + (1 : Int32)))))))
def f_X7_plainestOf (i1 : Int32) (s_t_villages : Int32) (v_t_stand : (Nat → Int32)) (v_t_marks : (Nat → Int32)) : Option (Int32) := bd1 (f_X7_plainestOf_L4 s_t_villages v_t_stand v_t_marks i1 1000 (-1 : Int32) (0 : Int32)) (fun (y2_3 : Int32) => some (y2_3))
abbrev rmX7_plainestOf : Room := { frames := 4, cells := 0, slots := 0, locals := 96 }
set_option maxHeartbeats 400000 in
set_option maxRecDepth 100000 in
theorem c_X7_plainestOf (l : Launch) (D : va_G) (cI cB cJ : ClassId) (a_t : Nat) (a_t_stand : Nat) (a_t_on : Nat) (a_t_marks : Nat) (a_t_rule : Nat) (a_t_tape : Nat) (a_t_freshStand : Nat) (a_t_freshMarks : Nat) (a_t_freshRule : Nat) (a_t_shares : Nat) (a_t_said : Nat) (a_t_rows : Nat) (a_t_must : Nat) (a_t_sorts : Nat) (a_t_sizes : Nat) (a_t_sheets : Nat) (a_t_holds : Nat) (a_t_heldNumber : Nat) (a_t_heldSize : Nat) (a_t_traced : Nat) (a_t_keptRow : Nat) (a_t_single : Nat) (sz : Nat) (s_t_villages : Int32) (s_t_held : Int32) (s_t_z : Int32) (s_t_tapeMany : Int32) (s_t_sort : Int32) (s_t_begins : Int32) (s_t_tokenEnds : Int32) (s_t_word : Int64) (s_t_value : Int32) (s_t_good : Int32) (s_t_freshVillages : Int32) (s_t_freshHeld : Int32) (s_t_rowMany : Int32) (s_t_mustMany : Int32) (s_t_kind : Int32) (s_t_number : Int32) (s_t_own : Int32) (s_t_bodies : Int32) (s_t_isParted : Int32) (s_t_isKept : Int32) (s_t_movedTo : Int32) (v_t_stand : (Nat → Int32)) (v_t_marks : (Nat → Int32)) (i1 : Int32) (r : Int32) (hF : f_X7_plainestOf i1 s_t_villages v_t_stand v_t_marks = some r) : xMi l yX7_plainestOf (.code yX7_plainestOf cX7_plainestOf 4 (some .int) :: xU) rmX7_plainestOf (xK D cI cB cJ) D sz [.ref a_t, .int i1] [(a_t, .inr (7, [.ref a_t_stand, .ref a_t_on, .ref a_t_marks, .int s_t_villages, .int s_t_held, .ref a_t_rule, .int s_t_z, .ref a_t_tape, .int s_t_tapeMany, .int s_t_sort, .int s_t_begins, .int s_t_tokenEnds, .long s_t_word, .int s_t_value, .int s_t_good, .int s_t_freshVillages, .int s_t_freshHeld, .ref a_t_freshStand, .ref a_t_freshMarks, .ref a_t_freshRule, .ref a_t_shares, .ref a_t_said, .ref a_t_rows, .ref a_t_must, .int s_t_rowMany, .int s_t_mustMany, .ref a_t_sorts, .ref a_t_sizes, .ref a_t_sheets, .ref a_t_holds, .ref a_t_heldNumber, .ref a_t_heldSize, .int s_t_kind, .int s_t_number, .int s_t_own, .ref a_t_traced, .int s_t_bodies, .int s_t_isParted, .int s_t_isKept, .ref a_t_keptRow, .int s_t_movedTo, .ref a_t_single])), (a_t_stand, .inl (cI, 100, .inl v_t_stand)), (a_t_marks, .inl (cI, 100, .inl v_t_marks))] [(a_t, .inr (7, [.ref a_t_stand, .ref a_t_on, .ref a_t_marks, .int s_t_villages, .int s_t_held, .ref a_t_rule, .int s_t_z, .ref a_t_tape, .int s_t_tapeMany, .int s_t_sort, .int s_t_begins, .int s_t_tokenEnds, .long s_t_word, .int s_t_value, .int s_t_good, .int s_t_freshVillages, .int s_t_freshHeld, .ref a_t_freshStand, .ref a_t_freshMarks, .ref a_t_freshRule, .ref a_t_shares, .ref a_t_said, .ref a_t_rows, .ref a_t_must, .int s_t_rowMany, .int s_t_mustMany, .ref a_t_sorts, .ref a_t_sizes, .ref a_t_sheets, .ref a_t_holds, .ref a_t_heldNumber, .ref a_t_heldSize, .int s_t_kind, .int s_t_number, .int s_t_own, .ref a_t_traced, .int s_t_bodies, .int s_t_isParted, .int s_t_isKept, .ref a_t_keptRow, .int s_t_movedTo, .ref a_t_single])), (a_t_stand, .inl (cI, 100, .inl v_t_stand)), (a_t_marks, .inl (cI, 100, .inl v_t_marks))] r := by
  refine xMi.mk (own := "FairNextModel") (by decide +kernel) rfl (Nat.le_of_ble_eq_true rfl) ?_
  intro p e s m args below meth c A Q ls H hfix hK hP hD hA hS hl hEnd
  obtain ⟨hx, hb, hml, hown, hts⟩ := id hfix
  have hl : lv_has ls 4 [(0, .ref a_t), (1, .int i1)] := hl
  rw [f_X7_plainestOf] at hF
  refine lv_iconst (v := (-1 : Int32)) hx hb dX7_plainestOf_0 (by decide) ?_
  refine lv_istore_n (lv' := [(2, .int (-1 : Int32)), (0, .ref a_t), (1, .int i1)]) hx hb dX7_plainestOf_1 rfl hl (by decide) rfl (fun ls hl => ?_)
  refine lv_iconst (v := (0 : Int32)) hx hb dX7_plainestOf_2 (by decide) ?_
  refine lv_istore_n (lv' := [(3, .int (0 : Int32)), (2, .int (-1 : Int32)), (0, .ref a_t), (1, .int i1)]) hx hb dX7_plainestOf_3 rfl hl (by decide) rfl (fun ls hl => ?_)
  have hL_4 : ∀ (n : Nat) (x2_1 : Int32) (x3_2 : Int32) (y2_3 : Int32), f_X7_plainestOf_L4 s_t_villages v_t_stand v_t_marks i1 n x2_1 x3_2 = some y2_3 → ∀ (H : Heap) (locs : List Loc) (ls : Array Slot), va_P D vwCl [(a_t, .inr (7, [.ref a_t_stand, .ref a_t_on, .ref a_t_marks, .int s_t_villages, .int s_t_held, .ref a_t_rule, .int s_t_z, .ref a_t_tape, .int s_t_tapeMany, .int s_t_sort, .int s_t_begins, .int s_t_tokenEnds, .long s_t_word, .int s_t_value, .int s_t_good, .int s_t_freshVillages, .int s_t_freshHeld, .ref a_t_freshStand, .ref a_t_freshMarks, .ref a_t_freshRule, .ref a_t_shares, .ref a_t_said, .ref a_t_rows, .ref a_t_must, .int s_t_rowMany, .int s_t_mustMany, .ref a_t_sorts, .ref a_t_sizes, .ref a_t_sheets, .ref a_t_holds, .ref a_t_heldNumber, .ref a_t_heldSize, .int s_t_kind, .int s_t_number, .int s_t_own, .ref a_t_traced, .int s_t_bodies, .int s_t_isParted, .int s_t_isKept, .ref a_t_keptRow, .int s_t_movedTo, .ref a_t_single])), (a_t_stand, .inl (cI, 100, .inl v_t_stand)), (a_t_marks, .inl (cI, 100, .inl v_t_marks))] H → va_D A [(a_t, .inr (7, [.ref a_t_stand, .ref a_t_on, .ref a_t_marks, .int s_t_villages, .int s_t_held, .ref a_t_rule, .int s_t_z, .ref a_t_tape, .int s_t_tapeMany, .int s_t_sort, .int s_t_begins, .int s_t_tokenEnds, .long s_t_word, .int s_t_value, .int s_t_good, .int s_t_freshVillages, .int s_t_freshHeld, .ref a_t_freshStand, .ref a_t_freshMarks, .ref a_t_freshRule, .ref a_t_shares, .ref a_t_said, .ref a_t_rows, .ref a_t_must, .int s_t_rowMany, .int s_t_mustMany, .ref a_t_sorts, .ref a_t_sizes, .ref a_t_sheets, .ref a_t_holds, .ref a_t_heldNumber, .ref a_t_heldSize, .int s_t_kind, .int s_t_number, .int s_t_own, .ref a_t_traced, .int s_t_bodies, .int s_t_isParted, .int s_t_isKept, .ref a_t_keptRow, .int s_t_movedTo, .ref a_t_single])), (a_t_stand, .inl (cI, 100, .inl v_t_stand)), (a_t_marks, .inl (cI, 100, .inl v_t_marks))] → va_S A s.heap H locs → lv_has ls 4 [(0, .ref a_t), (1, .int i1), (2, .int x2_1), (3, .int x3_2)] → (∀ (H : Heap) (locs : List Loc) (ls : Array Slot), va_P D vwCl [(a_t, .inr (7, [.ref a_t_stand, .ref a_t_on, .ref a_t_marks, .int s_t_villages, .int s_t_held, .ref a_t_rule, .int s_t_z, .ref a_t_tape, .int s_t_tapeMany, .int s_t_sort, .int s_t_begins, .int s_t_tokenEnds, .long s_t_word, .int s_t_value, .int s_t_good, .int s_t_freshVillages, .int s_t_freshHeld, .ref a_t_freshStand, .ref a_t_freshMarks, .ref a_t_freshRule, .ref a_t_shares, .ref a_t_said, .ref a_t_rows, .ref a_t_must, .int s_t_rowMany, .int s_t_mustMany, .ref a_t_sorts, .ref a_t_sizes, .ref a_t_sheets, .ref a_t_holds, .ref a_t_heldNumber, .ref a_t_heldSize, .int s_t_kind, .int s_t_number, .int s_t_own, .ref a_t_traced, .int s_t_bodies, .int s_t_isParted, .int s_t_isKept, .ref a_t_keptRow, .int s_t_movedTo, .ref a_t_single])), (a_t_stand, .inl (cI, 100, .inl v_t_stand)), (a_t_marks, .inl (cI, 100, .inl v_t_marks))] H → va_D A [(a_t, .inr (7, [.ref a_t_stand, .ref a_t_on, .ref a_t_marks, .int s_t_villages, .int s_t_held, .ref a_t_rule, .int s_t_z, .ref a_t_tape, .int s_t_tapeMany, .int s_t_sort, .int s_t_begins, .int s_t_tokenEnds, .long s_t_word, .int s_t_value, .int s_t_good, .int s_t_freshVillages, .int s_t_freshHeld, .ref a_t_freshStand, .ref a_t_freshMarks, .ref a_t_freshRule, .ref a_t_shares, .ref a_t_said, .ref a_t_rows, .ref a_t_must, .int s_t_rowMany, .int s_t_mustMany, .ref a_t_sorts, .ref a_t_sizes, .ref a_t_sheets, .ref a_t_holds, .ref a_t_heldNumber, .ref a_t_heldSize, .int s_t_kind, .int s_t_number, .int s_t_own, .ref a_t_traced, .int s_t_bodies, .int s_t_isParted, .int s_t_isKept, .ref a_t_keptRow, .int s_t_movedTo, .ref a_t_single])), (a_t_stand, .inl (cI, 100, .inl v_t_stand)), (a_t_marks, .inl (cI, 100, .inl v_t_marks))] → va_S A s.heap H locs → lv_has ls 4 [(2, .int y2_3)] → W p l e rmX7_plainestOf s m args below meth c H locs 0 0 Q (F0 m 43 ls [])) → W p l e rmX7_plainestOf s m args below meth c H locs 0 0 Q (F0 m 4 ls []) := by
    intro n
    induction n with
    | zero => intro x2_1 x3_2 y2_3 hF; exact (no_some hF).elim
    | succ n ih =>
      intro x2_1 x3_2 y2_3 hF H locs ls hP hD hS hl kexit
      rw [f_X7_plainestOf_L4] at hF
      refine lv_iload_n hx hb dX7_plainestOf_4 rfl (lv_at hl 3 rfl) ?_
      refine lv_sipush (v := (600 : Int32)) hx hb dX7_plainestOf_5 (by decide) ?_
      refine lv_icmp_ge (tgt := 43) hx hb dX7_plainestOf_8 (by decide) (fun c_4 => ?_) (fun c_4 => ?_)
      · replace hF := if_t c_4 hF
        obtain rfl := Option.some.inj hF
        exact kexit _ _ _ hP hD hS (lv_sub hl [2] rfl)
      · replace hF := if_f c_4 hF
        refine lv_iload_n hx hb dX7_plainestOf_11 rfl (lv_at hl 2 rfl) ?_
        refine lv_if_lt (tgt := 26) hx hb dX7_plainestOf_12 (by decide) (fun c_5 => ?_) (fun c_5 => ?_)
        · replace hF := if_t c_5 hF
          refine lv_aload_n hx hb dX7_plainestOf_26 rfl (lv_at hl 0 rfl) ?_
          refine lv_iload_n hx hb dX7_plainestOf_27 rfl (lv_at hl 3 rfl) ?_
          obtain ⟨r_6, hq_7, hF⟩ := bd1_e hF
          refine xri0 (xrunV (As := [.int x3_2]) (rest := []) (c_X7_allMisses l D cI cB cJ a_t a_t_stand a_t_on a_t_marks a_t_rule a_t_tape a_t_freshStand a_t_freshMarks a_t_freshRule a_t_shares a_t_said a_t_rows a_t_must a_t_sorts a_t_sizes a_t_sheets a_t_holds a_t_heldNumber a_t_heldSize a_t_traced a_t_keptRow a_t_single _ s_t_villages s_t_held s_t_z s_t_tapeMany s_t_sort s_t_begins s_t_tokenEnds s_t_word s_t_value s_t_good s_t_freshVillages s_t_freshHeld s_t_rowMany s_t_mustMany s_t_kind s_t_number s_t_own s_t_bodies s_t_isParted s_t_isKept s_t_movedTo v_t_stand v_t_marks x3_2 r_6 hq_7) hfix xw_993 yv_X7_allMisses ⟨rfl, rfl⟩ ⟨(Nat.le_of_ble_eq_true rfl), (Nat.le_of_ble_eq_true rfl)⟩ xKk_K (fun U hU hW => xK.warm hW hK) hK.1 hP hD [0, 1, 2] rfl rfl 0 7 rfl rfl rfl rfl hl.1 rfl (Nat.le_of_ble_eq_true rfl) dX7_plainestOf_28 ⟨Nat.zero_le _, Nat.zero_le _⟩) hP hD hS hA [0, 1, 2] rfl rfl (fun H locs hP hD hS => ?_)
          refine lv_iload_n hx hb dX7_plainestOf_31 rfl (lv_at hl 1 rfl) ?_
          refine lv_icmp_gt (tgt := 37) hx hb dX7_plainestOf_32 (by decide) (fun c_8 => ?_) (fun c_8 => ?_)
          · replace hF := if_t c_8 hF
            refine lv_iinc (v := (x3_2 + (1 : Int32))) (lv' := [(3, .int (x3_2 + (1 : Int32))), (0, .ref a_t), (1, .int i1), (2, .int x2_1)]) hx hb dX7_plainestOf_37 hl (k := 3) rfl rfl (by decide) rfl (fun ls hl => ?_)
            refine lv_goto (tgt := 4) hx hb dX7_plainestOf_40 (by decide) ?_
            exact ih _ _ _ hF _ _ _ hP hD hS (lv_sub hl [1, 2, 3, 0] rfl) kexit
          · replace hF := if_f c_8 hF
            refine lv_iload_n hx hb dX7_plainestOf_35 rfl (lv_at hl 3 rfl) ?_
            refine lv_istore_n (lv' := [(2, .int x3_2), (0, .ref a_t), (1, .int i1), (3, .int x3_2)]) hx hb dX7_plainestOf_36 rfl hl (by decide) rfl (fun ls hl => ?_)
            refine lv_iinc (v := (x3_2 + (1 : Int32))) (lv' := [(3, .int (x3_2 + (1 : Int32))), (2, .int x3_2), (0, .ref a_t), (1, .int i1)]) hx hb dX7_plainestOf_37 hl (k := 3) rfl rfl (by decide) rfl (fun ls hl => ?_)
            refine lv_goto (tgt := 4) hx hb dX7_plainestOf_40 (by decide) ?_
            exact ih _ _ _ hF _ _ _ hP hD hS (lv_sub hl [2, 3, 1, 0] rfl) kexit
        · replace hF := if_f c_5 hF
          refine lv_iload_n hx hb dX7_plainestOf_15 rfl (lv_at hl 3 rfl) ?_
          refine xri0 (xrunS (As := [.int x3_2]) (rest := []) (c_X7_allWords l D cI cB cJ _ x3_2 (f_X7_allWords x3_2) rfl) hfix xw_1017 ys_X7_allWords ⟨rfl, rfl⟩ ⟨(Nat.le_of_ble_eq_true rfl), (Nat.le_of_ble_eq_true rfl)⟩ xKk_K (fun U hU hW => xK.warm hW hK) hP hD [] rfl rfl rfl hl.1 rfl (Nat.le_of_ble_eq_true rfl) dX7_plainestOf_16 ⟨Nat.zero_le _, Nat.zero_le _⟩) hP hD hS hA [] rfl rfl (fun H locs hP hD hS => ?_)
          refine lv_iload_n hx hb dX7_plainestOf_19 rfl (lv_at hl 2 rfl) ?_
          refine xri0 (xrunS (As := [.int x2_1]) (rest := [.int (f_X7_allWords x3_2)]) (c_X7_allWords l D cI cB cJ _ x2_1 (f_X7_allWords x2_1) rfl) hfix xw_1017 ys_X7_allWords ⟨rfl, rfl⟩ ⟨(Nat.le_of_ble_eq_true rfl), (Nat.le_of_ble_eq_true rfl)⟩ xKk_K (fun U hU hW => xK.warm hW hK) hP hD [] rfl rfl rfl hl.1 rfl (Nat.le_of_ble_eq_true rfl) dX7_plainestOf_20 ⟨Nat.zero_le _, Nat.zero_le _⟩) hP hD hS hA [] rfl rfl (fun H locs hP hD hS => ?_)
          refine lv_icmp_ge (tgt := 37) hx hb dX7_plainestOf_23 (by decide) (fun c_9 => ?_) (fun c_9 => ?_)
          · replace hF := if_t c_9 hF
            refine lv_iinc (v := (x3_2 + (1 : Int32))) (lv' := [(3, .int (x3_2 + (1 : Int32))), (0, .ref a_t), (1, .int i1), (2, .int x2_1)]) hx hb dX7_plainestOf_37 hl (k := 3) rfl rfl (by decide) rfl (fun ls hl => ?_)
            refine lv_goto (tgt := 4) hx hb dX7_plainestOf_40 (by decide) ?_
            exact ih _ _ _ hF _ _ _ hP hD hS (lv_sub hl [1, 2, 3, 0] rfl) kexit
          · replace hF := if_f c_9 hF
            refine lv_aload_n hx hb dX7_plainestOf_26 rfl (lv_at hl 0 rfl) ?_
            refine lv_iload_n hx hb dX7_plainestOf_27 rfl (lv_at hl 3 rfl) ?_
            obtain ⟨r_10, hq_11, hF⟩ := bd1_e hF
            refine xri0 (xrunV (As := [.int x3_2]) (rest := []) (c_X7_allMisses l D cI cB cJ a_t a_t_stand a_t_on a_t_marks a_t_rule a_t_tape a_t_freshStand a_t_freshMarks a_t_freshRule a_t_shares a_t_said a_t_rows a_t_must a_t_sorts a_t_sizes a_t_sheets a_t_holds a_t_heldNumber a_t_heldSize a_t_traced a_t_keptRow a_t_single _ s_t_villages s_t_held s_t_z s_t_tapeMany s_t_sort s_t_begins s_t_tokenEnds s_t_word s_t_value s_t_good s_t_freshVillages s_t_freshHeld s_t_rowMany s_t_mustMany s_t_kind s_t_number s_t_own s_t_bodies s_t_isParted s_t_isKept s_t_movedTo v_t_stand v_t_marks x3_2 r_10 hq_11) hfix xw_993 yv_X7_allMisses ⟨rfl, rfl⟩ ⟨(Nat.le_of_ble_eq_true rfl), (Nat.le_of_ble_eq_true rfl)⟩ xKk_K (fun U hU hW => xK.warm hW hK) hK.1 hP hD [0, 1, 2] rfl rfl 0 7 rfl rfl rfl rfl hl.1 rfl (Nat.le_of_ble_eq_true rfl) dX7_plainestOf_28 ⟨Nat.zero_le _, Nat.zero_le _⟩) hP hD hS hA [0, 1, 2] rfl rfl (fun H locs hP hD hS => ?_)
            refine lv_iload_n hx hb dX7_plainestOf_31 rfl (lv_at hl 1 rfl) ?_
            refine lv_icmp_gt (tgt := 37) hx hb dX7_plainestOf_32 (by decide) (fun c_12 => ?_) (fun c_12 => ?_)
            · replace hF := if_t c_12 hF
              refine lv_iinc (v := (x3_2 + (1 : Int32))) (lv' := [(3, .int (x3_2 + (1 : Int32))), (0, .ref a_t), (1, .int i1), (2, .int x2_1)]) hx hb dX7_plainestOf_37 hl (k := 3) rfl rfl (by decide) rfl (fun ls hl => ?_)
              refine lv_goto (tgt := 4) hx hb dX7_plainestOf_40 (by decide) ?_
              exact ih _ _ _ hF _ _ _ hP hD hS (lv_sub hl [1, 2, 3, 0] rfl) kexit
            · replace hF := if_f c_12 hF
              refine lv_iload_n hx hb dX7_plainestOf_35 rfl (lv_at hl 3 rfl) ?_
              refine lv_istore_n (lv' := [(2, .int x3_2), (0, .ref a_t), (1, .int i1), (3, .int x3_2)]) hx hb dX7_plainestOf_36 rfl hl (by decide) rfl (fun ls hl => ?_)
              refine lv_iinc (v := (x3_2 + (1 : Int32))) (lv' := [(3, .int (x3_2 + (1 : Int32))), (2, .int x3_2), (0, .ref a_t), (1, .int i1)]) hx hb dX7_plainestOf_37 hl (k := 3) rfl rfl (by decide) rfl (fun ls hl => ?_)
              refine lv_goto (tgt := 4) hx hb dX7_plainestOf_40 (by decide) ?_
              exact ih _ _ _ hF _ _ _ hP hD hS (lv_sub hl [2, 3, 1, 0] rfl) kexit
  obtain ⟨y2_3, hq, hF⟩ := bd1_e hF
  refine hL_4 _ _ _ _ hq _ _ _ hP hD hS (lv_sub hl [2, 3, 1, 0] rfl) (fun H locs ls hP hD hS hl => ?_)
  refine lv_iload_n hx hb dX7_plainestOf_43 rfl (lv_at hl 0 rfl) ?_
  obtain rfl := Option.some.inj hF
  exact hEnd _ _ _ _ _ dX7_plainestOf_44 hP hS rfl
def f_X7_plainest (i1 : Int32) (i2 : Int32) (s_t_villages : Int32) (v_t_stand : (Nat → Int32)) (v_t_marks : (Nat → Int32)) : Option (Int32) := (if (f_X7_isAllowed i1) = (0 : Int32) then some ((-1 : Int32)) else (if (f_X7_in i2 (0 : Int32) (5 : Int32)) = (0 : Int32) then some ((-1 : Int32)) else bd1 (f_X7_plainestOf i1 s_t_villages v_t_stand v_t_marks) (fun (r_5 : Int32) => (if (0 : Int32) ≤ r_5 then (if i2 = (0 : Int32) then some ((f_X7_kindOf r_5)) else (if i2 = (1 : Int32) then some ((f_X7_aOf r_5)) else (if i2 = (2 : Int32) then some ((f_X7_bOf r_5)) else (if i2 = (3 : Int32) then some ((f_X7_kOf r_5)) else (if i2 = (4 : Int32) then some ((f_X7_allWords r_5)) else bd1 (f_X7_allMisses r_5 s_t_villages v_t_stand v_t_marks) (fun (r_13 : Int32) => some (r_13))))))) else some ((-3 : Int32))))))
abbrev rmX7_plainest : Room := { frames := 5, cells := 0, slots := 0, locals := 119 }
set_option maxHeartbeats 400000 in
set_option maxRecDepth 100000 in
theorem c_X7_plainest (l : Launch) (D : va_G) (cI cB cJ : ClassId) (a_t : Nat) (a_t_stand : Nat) (a_t_on : Nat) (a_t_marks : Nat) (a_t_rule : Nat) (a_t_tape : Nat) (a_t_freshStand : Nat) (a_t_freshMarks : Nat) (a_t_freshRule : Nat) (a_t_shares : Nat) (a_t_said : Nat) (a_t_rows : Nat) (a_t_must : Nat) (a_t_sorts : Nat) (a_t_sizes : Nat) (a_t_sheets : Nat) (a_t_holds : Nat) (a_t_heldNumber : Nat) (a_t_heldSize : Nat) (a_t_traced : Nat) (a_t_keptRow : Nat) (a_t_single : Nat) (sz : Nat) (s_t_villages : Int32) (s_t_held : Int32) (s_t_z : Int32) (s_t_tapeMany : Int32) (s_t_sort : Int32) (s_t_begins : Int32) (s_t_tokenEnds : Int32) (s_t_word : Int64) (s_t_value : Int32) (s_t_good : Int32) (s_t_freshVillages : Int32) (s_t_freshHeld : Int32) (s_t_rowMany : Int32) (s_t_mustMany : Int32) (s_t_kind : Int32) (s_t_number : Int32) (s_t_own : Int32) (s_t_bodies : Int32) (s_t_isParted : Int32) (s_t_isKept : Int32) (s_t_movedTo : Int32) (v_t_stand : (Nat → Int32)) (v_t_marks : (Nat → Int32)) (i1 : Int32) (i2 : Int32) (r : Int32) (hF : f_X7_plainest i1 i2 s_t_villages v_t_stand v_t_marks = some r) : xMi l yX7_plainest (.code yX7_plainest cX7_plainest 4 (some .int) :: xU) rmX7_plainest (xK D cI cB cJ) D sz [.ref a_t, .int i1, .int i2] [(a_t, .inr (7, [.ref a_t_stand, .ref a_t_on, .ref a_t_marks, .int s_t_villages, .int s_t_held, .ref a_t_rule, .int s_t_z, .ref a_t_tape, .int s_t_tapeMany, .int s_t_sort, .int s_t_begins, .int s_t_tokenEnds, .long s_t_word, .int s_t_value, .int s_t_good, .int s_t_freshVillages, .int s_t_freshHeld, .ref a_t_freshStand, .ref a_t_freshMarks, .ref a_t_freshRule, .ref a_t_shares, .ref a_t_said, .ref a_t_rows, .ref a_t_must, .int s_t_rowMany, .int s_t_mustMany, .ref a_t_sorts, .ref a_t_sizes, .ref a_t_sheets, .ref a_t_holds, .ref a_t_heldNumber, .ref a_t_heldSize, .int s_t_kind, .int s_t_number, .int s_t_own, .ref a_t_traced, .int s_t_bodies, .int s_t_isParted, .int s_t_isKept, .ref a_t_keptRow, .int s_t_movedTo, .ref a_t_single])), (a_t_stand, .inl (cI, 100, .inl v_t_stand)), (a_t_marks, .inl (cI, 100, .inl v_t_marks))] [(a_t, .inr (7, [.ref a_t_stand, .ref a_t_on, .ref a_t_marks, .int s_t_villages, .int s_t_held, .ref a_t_rule, .int s_t_z, .ref a_t_tape, .int s_t_tapeMany, .int s_t_sort, .int s_t_begins, .int s_t_tokenEnds, .long s_t_word, .int s_t_value, .int s_t_good, .int s_t_freshVillages, .int s_t_freshHeld, .ref a_t_freshStand, .ref a_t_freshMarks, .ref a_t_freshRule, .ref a_t_shares, .ref a_t_said, .ref a_t_rows, .ref a_t_must, .int s_t_rowMany, .int s_t_mustMany, .ref a_t_sorts, .ref a_t_sizes, .ref a_t_sheets, .ref a_t_holds, .ref a_t_heldNumber, .ref a_t_heldSize, .int s_t_kind, .int s_t_number, .int s_t_own, .ref a_t_traced, .int s_t_bodies, .int s_t_isParted, .int s_t_isKept, .ref a_t_keptRow, .int s_t_movedTo, .ref a_t_single])), (a_t_stand, .inl (cI, 100, .inl v_t_stand)), (a_t_marks, .inl (cI, 100, .inl v_t_marks))] r := by
  refine xMi.mk (own := "FairNextModel") (by decide +kernel) rfl (Nat.le_of_ble_eq_true rfl) ?_
  intro p e s m args below meth c A Q ls H hfix hK hP hD hA hS hl hEnd
  obtain ⟨hx, hb, hml, hown, hts⟩ := id hfix
  have hl : lv_has ls 4 [(0, .ref a_t), (1, .int i1), (2, .int i2)] := hl
  rw [f_X7_plainest] at hF
  refine lv_iload_n hx hb dX7_plainest_0 rfl (lv_at hl 1 rfl) ?_
  refine xrz0 (xrunS (As := [.int i1]) (rest := []) (c_X7_isAllowed l D cI cB cJ _ i1 (f_X7_isAllowed i1) rfl) hfix xw_990 ys_X7_isAllowed ⟨rfl, rfl⟩ ⟨(Nat.le_of_ble_eq_true rfl), (Nat.le_of_ble_eq_true rfl)⟩ xKk_K (fun U hU hW => xK.warm hW hK) hP hD [] rfl rfl rfl hl.1 rfl (Nat.le_of_ble_eq_true rfl) dX7_plainest_1 ⟨Nat.zero_le _, Nat.zero_le _⟩) hP hD hS hA [] rfl rfl (fun H locs hP hD hS hz_1 => ?_)
  refine lv_if_eq (tgt := 16) hx hb dX7_plainest_4 (by decide) (fun c_2 => ?_) (fun c_2 => ?_)
  · replace hF := if_t c_2 hF
    refine lv_iconst (v := (-1 : Int32)) hx hb dX7_plainest_16 (by decide) ?_
    obtain rfl := Option.some.inj hF
    exact hEnd _ _ _ _ _ dX7_plainest_17 hP hS rfl
  · replace hF := if_f c_2 hF
    refine lv_iload_n hx hb dX7_plainest_7 rfl (lv_at hl 2 rfl) ?_
    refine lv_iconst (v := (0 : Int32)) hx hb dX7_plainest_8 (by decide) ?_
    refine lv_iconst (v := (5 : Int32)) hx hb dX7_plainest_9 (by decide) ?_
    refine xrz0 (xrunS (As := [.int i2, .int (0 : Int32), .int (5 : Int32)]) (rest := []) (c_X7_in l D cI cB cJ _ i2 (0 : Int32) (5 : Int32) (f_X7_in i2 (0 : Int32) (5 : Int32)) rfl) hfix xw_819 ys_X7_in ⟨rfl, rfl⟩ ⟨(Nat.le_of_ble_eq_true rfl), (Nat.le_of_ble_eq_true rfl)⟩ xKk_K (fun U hU hW => xK.warm hW hK) hP hD [] rfl rfl rfl hl.1 rfl (Nat.le_of_ble_eq_true rfl) dX7_plainest_10 ⟨Nat.zero_le _, Nat.zero_le _⟩) hP hD hS hA [] rfl rfl (fun H locs hP hD hS hz_3 => ?_)
    refine lv_if_ne (tgt := 18) hx hb dX7_plainest_13 (by decide) (fun c_4 => ?_) (fun c_4 => ?_)
    · replace hF := if_f c_4 hF
      refine lv_aload_n hx hb dX7_plainest_18 rfl (lv_at hl 0 rfl) ?_
      refine lv_iload_n hx hb dX7_plainest_19 rfl (lv_at hl 1 rfl) ?_
      obtain ⟨r_5, hq_6, hF⟩ := bd1_e hF
      refine xri0 (xrunV (As := [.int i1]) (rest := []) (c_X7_plainestOf l D cI cB cJ a_t a_t_stand a_t_on a_t_marks a_t_rule a_t_tape a_t_freshStand a_t_freshMarks a_t_freshRule a_t_shares a_t_said a_t_rows a_t_must a_t_sorts a_t_sizes a_t_sheets a_t_holds a_t_heldNumber a_t_heldSize a_t_traced a_t_keptRow a_t_single _ s_t_villages s_t_held s_t_z s_t_tapeMany s_t_sort s_t_begins s_t_tokenEnds s_t_word s_t_value s_t_good s_t_freshVillages s_t_freshHeld s_t_rowMany s_t_mustMany s_t_kind s_t_number s_t_own s_t_bodies s_t_isParted s_t_isKept s_t_movedTo v_t_stand v_t_marks i1 r_5 hq_6) hfix xw_1013 yv_X7_plainestOf ⟨rfl, rfl⟩ ⟨(Nat.le_of_ble_eq_true rfl), (Nat.le_of_ble_eq_true rfl)⟩ xKk_K (fun U hU hW => xK.warm hW hK) hK.1 hP hD [0, 1, 2] rfl rfl 0 7 rfl rfl rfl rfl hl.1 rfl (Nat.le_of_ble_eq_true rfl) dX7_plainest_20 ⟨Nat.zero_le _, Nat.zero_le _⟩) hP hD hS hA [0, 1, 2] rfl rfl (fun H locs hP hD hS => ?_)
      refine lv_istore_n (lv' := [(3, .int r_5), (0, .ref a_t), (1, .int i1), (2, .int i2)]) hx hb dX7_plainest_23 rfl hl (by decide) rfl (fun ls hl => ?_)
      refine lv_iload_n hx hb dX7_plainest_24 rfl (lv_at hl 0 rfl) ?_
      refine lv_if_ge (tgt := 31) hx hb dX7_plainest_25 (by decide) (fun c_7 => ?_) (fun c_7 => ?_)
      · replace hF := if_t c_7 hF
        refine lv_iload_n hx hb dX7_plainest_31 rfl (lv_at hl 3 rfl) ?_
        by_cases c_8 : i2 = (0 : Int32)
        · replace hF := if_t c_8 hF
          refine lv_tableIn (off := 36) (tgt := 68) hx hb dX7_plainest_32 (by rw [c_8]; decide) (by rw [c_8]; decide) (by rw [c_8]; decide) (by decide) ?_
          refine lv_iload_n hx hb dX7_plainest_68 rfl (lv_at hl 0 rfl) ?_
          refine xri0 (xrunS (As := [.int r_5]) (rest := []) (c_X7_kindOf l D cI cB cJ _ r_5 (f_X7_kindOf r_5) rfl) hfix xw_997 ys_X7_kindOf ⟨rfl, rfl⟩ ⟨(Nat.le_of_ble_eq_true rfl), (Nat.le_of_ble_eq_true rfl)⟩ xKk_K (fun U hU hW => xK.warm hW hK) hP hD [] rfl rfl rfl hl.1 rfl (Nat.le_of_ble_eq_true rfl) dX7_plainest_69 ⟨Nat.zero_le _, Nat.zero_le _⟩) hP hD hS hA [] rfl rfl (fun H locs hP hD hS => ?_)
          obtain rfl := Option.some.inj hF
          exact hEnd _ _ _ _ _ dX7_plainest_72 hP hS rfl
        · replace hF := if_f c_8 hF
          by_cases c_9 : i2 = (1 : Int32)
          · replace hF := if_t c_9 hF
            refine lv_tableIn (off := 41) (tgt := 73) hx hb dX7_plainest_32 (by rw [c_9]; decide) (by rw [c_9]; decide) (by rw [c_9]; decide) (by decide) ?_
            refine lv_iload_n hx hb dX7_plainest_73 rfl (lv_at hl 0 rfl) ?_
            refine xri0 (xrunS (As := [.int r_5]) (rest := []) (c_X7_aOf l D cI cB cJ _ r_5 (f_X7_aOf r_5) rfl) hfix xw_1000 ys_X7_aOf ⟨rfl, rfl⟩ ⟨(Nat.le_of_ble_eq_true rfl), (Nat.le_of_ble_eq_true rfl)⟩ xKk_K (fun U hU hW => xK.warm hW hK) hP hD [] rfl rfl rfl hl.1 rfl (Nat.le_of_ble_eq_true rfl) dX7_plainest_74 ⟨Nat.zero_le _, Nat.zero_le _⟩) hP hD hS hA [] rfl rfl (fun H locs hP hD hS => ?_)
            obtain rfl := Option.some.inj hF
            exact hEnd _ _ _ _ _ dX7_plainest_77 hP hS rfl
          · replace hF := if_f c_9 hF
            by_cases c_10 : i2 = (2 : Int32)
            · replace hF := if_t c_10 hF
              refine lv_tableIn (off := 46) (tgt := 78) hx hb dX7_plainest_32 (by rw [c_10]; decide) (by rw [c_10]; decide) (by rw [c_10]; decide) (by decide) ?_
              refine lv_iload_n hx hb dX7_plainest_78 rfl (lv_at hl 0 rfl) ?_
              refine xri0 (xrunS (As := [.int r_5]) (rest := []) (c_X7_bOf l D cI cB cJ _ r_5 (f_X7_bOf r_5) rfl) hfix xw_1003 ys_X7_bOf ⟨rfl, rfl⟩ ⟨(Nat.le_of_ble_eq_true rfl), (Nat.le_of_ble_eq_true rfl)⟩ xKk_K (fun U hU hW => xK.warm hW hK) hP hD [] rfl rfl rfl hl.1 rfl (Nat.le_of_ble_eq_true rfl) dX7_plainest_79 ⟨Nat.zero_le _, Nat.zero_le _⟩) hP hD hS hA [] rfl rfl (fun H locs hP hD hS => ?_)
              obtain rfl := Option.some.inj hF
              exact hEnd _ _ _ _ _ dX7_plainest_82 hP hS rfl
            · replace hF := if_f c_10 hF
              by_cases c_11 : i2 = (3 : Int32)
              · replace hF := if_t c_11 hF
                refine lv_tableIn (off := 51) (tgt := 83) hx hb dX7_plainest_32 (by rw [c_11]; decide) (by rw [c_11]; decide) (by rw [c_11]; decide) (by decide) ?_
                refine lv_iload_n hx hb dX7_plainest_83 rfl (lv_at hl 0 rfl) ?_
                refine xri0 (xrunS (As := [.int r_5]) (rest := []) (c_X7_kOf l D cI cB cJ _ r_5 (f_X7_kOf r_5) rfl) hfix xw_1006 ys_X7_kOf ⟨rfl, rfl⟩ ⟨(Nat.le_of_ble_eq_true rfl), (Nat.le_of_ble_eq_true rfl)⟩ xKk_K (fun U hU hW => xK.warm hW hK) hP hD [] rfl rfl rfl hl.1 rfl (Nat.le_of_ble_eq_true rfl) dX7_plainest_84 ⟨Nat.zero_le _, Nat.zero_le _⟩) hP hD hS hA [] rfl rfl (fun H locs hP hD hS => ?_)
                obtain rfl := Option.some.inj hF
                exact hEnd _ _ _ _ _ dX7_plainest_87 hP hS rfl
              · replace hF := if_f c_11 hF
                by_cases c_12 : i2 = (4 : Int32)
                · replace hF := if_t c_12 hF
                  refine lv_tableIn (off := 56) (tgt := 88) hx hb dX7_plainest_32 (by rw [c_12]; decide) (by rw [c_12]; decide) (by rw [c_12]; decide) (by decide) ?_
                  refine lv_iload_n hx hb dX7_plainest_88 rfl (lv_at hl 0 rfl) ?_
                  refine xri0 (xrunS (As := [.int r_5]) (rest := []) (c_X7_allWords l D cI cB cJ _ r_5 (f_X7_allWords r_5) rfl) hfix xw_1017 ys_X7_allWords ⟨rfl, rfl⟩ ⟨(Nat.le_of_ble_eq_true rfl), (Nat.le_of_ble_eq_true rfl)⟩ xKk_K (fun U hU hW => xK.warm hW hK) hP hD [] rfl rfl rfl hl.1 rfl (Nat.le_of_ble_eq_true rfl) dX7_plainest_89 ⟨Nat.zero_le _, Nat.zero_le _⟩) hP hD hS hA [] rfl rfl (fun H locs hP hD hS => ?_)
                  obtain rfl := Option.some.inj hF
                  exact hEnd _ _ _ _ _ dX7_plainest_92 hP hS rfl
                · replace hF := if_f c_12 hF
                  have hsw : (i2).toInt < 0 ∨ 4 < (i2).toInt := by
                    have z0 := lv_neT c_8 (a := 0) (by decide)
                    have z1 := lv_neT c_9 (a := 1) (by decide)
                    have z2 := lv_neT c_10 (a := 2) (by decide)
                    have z3 := lv_neT c_11 (a := 3) (by decide)
                    have z4 := lv_neT c_12 (a := 4) (by decide)
                    omega
                  refine lv_tableOut (tgt := 93) hx hb dX7_plainest_32 hsw (by decide) ?_
                  refine lv_aload_n hx hb dX7_plainest_93 rfl (lv_at hl 1 rfl) ?_
                  refine lv_iload_n hx hb dX7_plainest_94 rfl (lv_at hl 0 rfl) ?_
                  obtain ⟨r_13, hq_14, hF⟩ := bd1_e hF
                  refine xri0 (xrunV (As := [.int r_5]) (rest := []) (c_X7_allMisses l D cI cB cJ a_t a_t_stand a_t_on a_t_marks a_t_rule a_t_tape a_t_freshStand a_t_freshMarks a_t_freshRule a_t_shares a_t_said a_t_rows a_t_must a_t_sorts a_t_sizes a_t_sheets a_t_holds a_t_heldNumber a_t_heldSize a_t_traced a_t_keptRow a_t_single _ s_t_villages s_t_held s_t_z s_t_tapeMany s_t_sort s_t_begins s_t_tokenEnds s_t_word s_t_value s_t_good s_t_freshVillages s_t_freshHeld s_t_rowMany s_t_mustMany s_t_kind s_t_number s_t_own s_t_bodies s_t_isParted s_t_isKept s_t_movedTo v_t_stand v_t_marks r_5 r_13 hq_14) hfix xw_993 yv_X7_allMisses ⟨rfl, rfl⟩ ⟨(Nat.le_of_ble_eq_true rfl), (Nat.le_of_ble_eq_true rfl)⟩ xKk_K (fun U hU hW => xK.warm hW hK) hK.1 hP hD [0, 1, 2] rfl rfl 0 7 rfl rfl rfl rfl hl.1 rfl (Nat.le_of_ble_eq_true rfl) dX7_plainest_95 ⟨Nat.zero_le _, Nat.zero_le _⟩) hP hD hS hA [0, 1, 2] rfl rfl (fun H locs hP hD hS => ?_)
                  obtain rfl := Option.some.inj hF
                  exact hEnd _ _ _ _ _ dX7_plainest_98 hP hS rfl
      · replace hF := if_f c_7 hF
        refine lv_bipush (v := (-3 : Int32)) hx hb dX7_plainest_28 (by decide) ?_
        obtain rfl := Option.some.inj hF
        exact hEnd _ _ _ _ _ dX7_plainest_30 hP hS rfl
    · replace hF := if_t c_4 hF
      refine lv_iconst (v := (-1 : Int32)) hx hb dX7_plainest_16 (by decide) ?_
      obtain rfl := Option.some.inj hF
      exact hEnd _ _ _ _ _ dX7_plainest_17 hP hS rfl
def f_X7_shareOf (i1 : Int32) : Int32 := (((1 : Int32) <<< (((2 : Int32) * ((4 : Int32) - (f_X7_allWords i1))) &&& 31)))
abbrev rmX7_shareOf : Room := { frames := 2, cells := 0, slots := 0, locals := 42 }
set_option maxHeartbeats 400000 in
set_option maxRecDepth 100000 in
theorem c_X7_shareOf (l : Launch) (D : va_G) (cI cB cJ : ClassId) (sz : Nat) (i1 : Int32) (r : Int32) (hF : f_X7_shareOf i1 = r) : xMi l yX7_shareOf (.code yX7_shareOf cX7_shareOf 1 (some .int) :: xU) rmX7_shareOf (xK D cI cB cJ) D sz [.int i1] [] [] r := by
  refine xMi.mk (own := "FairNextModel") (by decide +kernel) rfl (Nat.le_of_ble_eq_true rfl) ?_
  intro p e s m args below meth c A Q ls H hfix hK hP hD hA hS hl hEnd
  obtain ⟨hx, hb, hml, hown, hts⟩ := id hfix
  have hl : lv_has ls 1 [(0, .int i1)] := hl
  rw [f_X7_shareOf] at hF
  refine lv_iconst (v := (1 : Int32)) hx hb dX7_shareOf_0 (by decide) ?_
  refine lv_iconst (v := (2 : Int32)) hx hb dX7_shareOf_1 (by decide) ?_
  refine lv_iconst (v := (4 : Int32)) hx hb dX7_shareOf_2 (by decide) ?_
  refine lv_iload_n hx hb dX7_shareOf_3 rfl (lv_at hl 0 rfl) ?_
  refine xri0 (xrunS (As := [.int i1]) (rest := [.int (4 : Int32), .int (2 : Int32), .int (1 : Int32)]) (c_X7_allWords l D cI cB cJ _ i1 (f_X7_allWords i1) rfl) hfix xw_1017 ys_X7_allWords ⟨rfl, rfl⟩ ⟨(Nat.le_of_ble_eq_true rfl), (Nat.le_of_ble_eq_true rfl)⟩ xKk_K (fun U hU hW => xK.warm hW hK) hP hD [] rfl rfl rfl hl.1 rfl (Nat.le_of_ble_eq_true rfl) dX7_shareOf_4 ⟨Nat.zero_le _, Nat.zero_le _⟩) hP hD hS hA [] rfl rfl (fun H locs hP hD hS => ?_)
  refine lv_isub hx hb dX7_shareOf_7 ?_
  refine lv_imul hx hb dX7_shareOf_8 ?_
  refine lv_ishl hx hb dX7_shareOf_9 ?_
  subst hF
  exact hEnd _ _ _ _ _ dX7_shareOf_10 hP hS rfl
