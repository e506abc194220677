def f_X7_mayHold (i1 : Int32) (i2 : Int32) (s_t_held : Int32) : Int32 := (if i1 = (0 : Int32) then ((f_X7_isHeldRule i2 s_t_held)) else (if i1 = (1 : Int32) then ((f_X7_isShelf i2)) else (if i1 = (2 : Int32) then ((1 : Int32)) else ((0 : Int32)))))
abbrev rmX7_mayHold : Room := { frames := 2, cells := 0, slots := 0, locals := 43 }
set_option maxHeartbeats 400000 in
set_option maxRecDepth 100000 in
theorem c_X7_mayHold (l : Launch) (D : va_G) (cI cB cJ : ClassId) (a_t : Nat) (a_t_stand : Nat) (a_t_on : Nat) (a_t_marks : Nat) (a_t_rule : Nat) (a_t_tape : Nat) (a_t_freshStand : Nat) (a_t_freshMarks : Nat) (a_t_freshRule : Nat) (a_t_shares : Nat) (a_t_said : Nat) (a_t_rows : Nat) (a_t_must : Nat) (a_t_sorts : Nat) (a_t_sizes : Nat) (a_t_sheets : Nat) (a_t_holds : Nat) (a_t_heldNumber : Nat) (a_t_heldSize : Nat) (a_t_traced : Nat) (a_t_keptRow : Nat) (a_t_single : Nat) (sz : Nat) (s_t_villages : Int32) (s_t_held : Int32) (s_t_z : Int32) (s_t_tapeMany : Int32) (s_t_sort : Int32) (s_t_begins : Int32) (s_t_tokenEnds : Int32) (s_t_word : Int64) (s_t_value : Int32) (s_t_good : Int32) (s_t_freshVillages : Int32) (s_t_freshHeld : Int32) (s_t_rowMany : Int32) (s_t_mustMany : Int32) (s_t_kind : Int32) (s_t_number : Int32) (s_t_own : Int32) (s_t_bodies : Int32) (s_t_isParted : Int32) (s_t_isKept : Int32) (s_t_movedTo : Int32) (i1 : Int32) (i2 : Int32) (r : Int32) (hF : f_X7_mayHold i1 i2 s_t_held = r) : xMz l yX7_mayHold (.code yX7_mayHold cX7_mayHold 3 (some .boolean) :: xU) rmX7_mayHold (xK D cI cB cJ) D sz [.ref a_t, .int i1, .int i2] [(a_t, .inr (7, [.ref a_t_stand, .ref a_t_on, .ref a_t_marks, .int s_t_villages, .int s_t_held, .ref a_t_rule, .int s_t_z, .ref a_t_tape, .int s_t_tapeMany, .int s_t_sort, .int s_t_begins, .int s_t_tokenEnds, .long s_t_word, .int s_t_value, .int s_t_good, .int s_t_freshVillages, .int s_t_freshHeld, .ref a_t_freshStand, .ref a_t_freshMarks, .ref a_t_freshRule, .ref a_t_shares, .ref a_t_said, .ref a_t_rows, .ref a_t_must, .int s_t_rowMany, .int s_t_mustMany, .ref a_t_sorts, .ref a_t_sizes, .ref a_t_sheets, .ref a_t_holds, .ref a_t_heldNumber, .ref a_t_heldSize, .int s_t_kind, .int s_t_number, .int s_t_own, .ref a_t_traced, .int s_t_bodies, .int s_t_isParted, .int s_t_isKept, .ref a_t_keptRow, .int s_t_movedTo, .ref a_t_single]))] [(a_t, .inr (7, [.ref a_t_stand, .ref a_t_on, .ref a_t_marks, .int s_t_villages, .int s_t_held, .ref a_t_rule, .int s_t_z, .ref a_t_tape, .int s_t_tapeMany, .int s_t_sort, .int s_t_begins, .int s_t_tokenEnds, .long s_t_word, .int s_t_value, .int s_t_good, .int s_t_freshVillages, .int s_t_freshHeld, .ref a_t_freshStand, .ref a_t_freshMarks, .ref a_t_freshRule, .ref a_t_shares, .ref a_t_said, .ref a_t_rows, .ref a_t_must, .int s_t_rowMany, .int s_t_mustMany, .ref a_t_sorts, .ref a_t_sizes, .ref a_t_sheets, .ref a_t_holds, .ref a_t_heldNumber, .ref a_t_heldSize, .int s_t_kind, .int s_t_number, .int s_t_own, .ref a_t_traced, .int s_t_bodies, .int s_t_isParted, .int s_t_isKept, .ref a_t_keptRow, .int s_t_movedTo, .ref a_t_single]))] r := by
  refine xMz.mk (own := "FairNextModel") (by decide +kernel) rfl (Nat.le_of_ble_eq_true rfl) ?_
  intro p e s m args below meth c A Q ls H hfix hK hP hD hA hS hl hEnd
  obtain ⟨hx, hb, hml, hown, hts⟩ := id hfix
  have hl : lv_has ls 3 [(0, .ref a_t), (1, .int i1), (2, .int i2)] := hl
  rw [f_X7_mayHold] at hF
  refine lv_iload_n hx hb dX7_mayHold_0 rfl (lv_at hl 1 rfl) ?_
  refine lv_if_ne (tgt := 12) hx hb dX7_mayHold_1 (by decide) (fun c_1 => ?_) (fun c_1 => ?_)
  · replace hF := if_f c_1 hF
    refine lv_iload_n hx hb dX7_mayHold_12 rfl (lv_at hl 1 rfl) ?_
    refine lv_iconst (v := (1 : Int32)) hx hb dX7_mayHold_13 (by decide) ?_
    refine lv_icmp_ne (tgt := 24) hx hb dX7_mayHold_14 (by decide) (fun c_2 => ?_) (fun c_2 => ?_)
    · replace hF := if_f c_2 hF
      refine lv_iload_n hx hb dX7_mayHold_24 rfl (lv_at hl 1 rfl) ?_
      refine lv_iconst (v := (2 : Int32)) hx hb dX7_mayHold_25 (by decide) ?_
      refine lv_icmp_ne (tgt := 33) hx hb dX7_mayHold_26 (by decide) (fun c_3 => ?_) (fun c_3 => ?_)
      · replace hF := if_f c_3 hF
        refine lv_iconst (v := (0 : Int32)) hx hb dX7_mayHold_33 (by decide) ?_
        subst hF
        exact hEnd _ _ _ _ _ dX7_mayHold_34 hP hS x01_0 rfl
      · replace hF := if_t c_3 hF
        refine lv_iconst (v := (1 : Int32)) hx hb dX7_mayHold_29 (by decide) ?_
        refine lv_goto (tgt := 34) hx hb dX7_mayHold_30 (by decide) ?_
        subst hF
        exact hEnd _ _ _ _ _ dX7_mayHold_34 hP hS x01_1 rfl
    · replace hF := if_t c_2 hF
      refine lv_iload_n hx hb dX7_mayHold_17 rfl (lv_at hl 2 rfl) ?_
      refine xrz0 (xrunS (As := [.int i2]) (rest := []) (c_X7_isShelf l D cI cB cJ _ i2 (f_X7_isShelf i2) rfl) hfix xw_1099 ys_X7_isShelf ⟨rfl, rfl⟩ ⟨(Nat.le_of_ble_eq_true rfl), (Nat.le_of_ble_eq_true rfl)⟩ xKk_K (fun U hU hW => xK.warm hW hK) hP hD [] rfl rfl rfl hl.1 rfl (Nat.le_of_ble_eq_true rfl) dX7_mayHold_18 ⟨Nat.zero_le _, Nat.zero_le _⟩) hP hD hS hA [] rfl rfl (fun H locs hP hD hS hz_4 => ?_)
      refine lv_goto (tgt := 34) hx hb dX7_mayHold_21 (by decide) ?_
      subst hF
      exact hEnd _ _ _ _ _ dX7_mayHold_34 hP hS hz_4 rfl
  · replace hF := if_t c_1 hF
    refine lv_aload_n hx hb dX7_mayHold_4 rfl (lv_at hl 0 rfl) ?_
    refine lv_iload_n hx hb dX7_mayHold_5 rfl (lv_at hl 2 rfl) ?_
    refine xrz0 (xrunV (As := [.int i2]) (rest := []) (c_X7_isHeldRule l D cI cB cJ a_t a_t_stand a_t_on a_t_marks a_t_rule a_t_tape a_t_freshStand a_t_freshMarks a_t_freshRule a_t_shares a_t_said a_t_rows a_t_must a_t_sorts a_t_sizes a_t_sheets a_t_holds a_t_heldNumber a_t_heldSize a_t_traced a_t_keptRow a_t_single _ s_t_villages s_t_held s_t_z s_t_tapeMany s_t_sort s_t_begins s_t_tokenEnds s_t_word s_t_value s_t_good s_t_freshVillages s_t_freshHeld s_t_rowMany s_t_mustMany s_t_kind s_t_number s_t_own s_t_bodies s_t_isParted s_t_isKept s_t_movedTo i2 (f_X7_isHeldRule i2 s_t_held) rfl) hfix xw_921 yv_X7_isHeldRule ⟨rfl, rfl⟩ ⟨(Nat.le_of_ble_eq_true rfl), (Nat.le_of_ble_eq_true rfl)⟩ xKk_K (fun U hU hW => xK.warm hW hK) hK.1 hP hD [0] rfl rfl 0 7 rfl rfl rfl rfl hl.1 rfl (Nat.le_of_ble_eq_true rfl) dX7_mayHold_6 ⟨Nat.zero_le _, Nat.zero_le _⟩) hP hD hS hA [0] rfl rfl (fun H locs hP hD hS hz_5 => ?_)
    refine lv_goto (tgt := 34) hx hb dX7_mayHold_9 (by decide) ?_
    subst hF
    exact hEnd _ _ _ _ _ dX7_mayHold_34 hP hS hz_5 rfl
def f_X7_shelf (i1 : Int32) (i2 : Int32) (i3 : Int32) (s_t_held : Int32) (v_t_sorts : (Nat → Int32)) (v_t_holds : (Nat → Int32)) (v_t_heldNumber : (Nat → Int32)) (v_t_sizes : (Nat → Int32)) (v_t_heldSize : (Nat → Int32)) : Option (Int32 × (Nat → Int32) × (Nat → Int32) × (Nat → Int32)) := (if (f_X7_isShelf i1) = (0 : Int32) then some (((-1 : Int32), v_t_holds, v_t_heldNumber, v_t_heldSize)) else (if (f_X7_mayHold i2 i3 s_t_held) = (0 : Int32) then some (((-1 : Int32), v_t_holds, v_t_heldNumber, v_t_heldSize)) else bd1 ((if i2 = (2 : Int32) then some ((-1 : Int32)) else (if i2 = (1 : Int32) then gd i3 4 ((if (0 : Int32) ≤ (v_t_sorts i3.toNatClampNeg) then some (i2) else some ((-1 : Int32)))) else some (i2)))) (fun (j_5 : Int32) => gd i1 4 (bd1 ((if i2 = (1 : Int32) then gd i3 4 (some ((v_t_sorts i3.toNatClampNeg))) else some (i3))) (fun (j_7 : Int32) => gd i1 4 ((if i2 = (1 : Int32) then gd i3 4 (gd i1 4 (some (((1 : Int32), (upd v_t_holds i1.toNatClampNeg j_5), (upd v_t_heldNumber i1.toNatClampNeg j_7), (upd v_t_heldSize i1.toNatClampNeg (v_t_sizes i3.toNatClampNeg)))))) else gd i1 4 (some (((1 : Int32), (upd v_t_holds i1.toNatClampNeg j_5), (upd v_t_heldNumber i1.toNatClampNeg j_7), (upd v_t_heldSize i1.toNatClampNeg (0 : Int32))))))))))))
abbrev rmX7_shelf : Room := { frames := 3, cells := 0, slots := 0, locals := 65 }
set_option maxHeartbeats 400000 in
set_option maxRecDepth 100000 in
theorem c_X7_shelf (l : Launch) (D : va_G) (cI cB cJ : ClassId) (a_t : Nat) (a_t_stand : Nat) (a_t_on : Nat) (a_t_marks : Nat) (a_t_rule : Nat) (a_t_tape : Nat) (a_t_freshStand : Nat) (a_t_freshMarks : Nat) (a_t_freshRule : Nat) (a_t_shares : Nat) (a_t_said : Nat) (a_t_rows : Nat) (a_t_must : Nat) (a_t_sorts : Nat) (a_t_sizes : Nat) (a_t_sheets : Nat) (a_t_holds : Nat) (a_t_heldNumber : Nat) (a_t_heldSize : Nat) (a_t_traced : Nat) (a_t_keptRow : Nat) (a_t_single : Nat) (sz : Nat) (s_t_villages : Int32) (s_t_held : Int32) (s_t_z : Int32) (s_t_tapeMany : Int32) (s_t_sort : Int32) (s_t_begins : Int32) (s_t_tokenEnds : Int32) (s_t_word : Int64) (s_t_value : Int32) (s_t_good : Int32) (s_t_freshVillages : Int32) (s_t_freshHeld : Int32) (s_t_rowMany : Int32) (s_t_mustMany : Int32) (s_t_kind : Int32) (s_t_number : Int32) (s_t_own : Int32) (s_t_bodies : Int32) (s_t_isParted : Int32) (s_t_isKept : Int32) (s_t_movedTo : Int32) (v_t_sorts : (Nat → Int32)) (v_t_holds : (Nat → Int32)) (v_t_heldNumber : (Nat → Int32)) (v_t_sizes : (Nat → Int32)) (v_t_heldSize : (Nat → Int32)) (i1 : Int32) (i2 : Int32) (i3 : Int32) (r : Int32) (o_v_t_holds : (Nat → Int32)) (o_v_t_heldNumber : (Nat → Int32)) (o_v_t_heldSize : (Nat → Int32)) (hF : f_X7_shelf i1 i2 i3 s_t_held v_t_sorts v_t_holds v_t_heldNumber v_t_sizes v_t_heldSize = some (r, o_v_t_holds, o_v_t_heldNumber, o_v_t_heldSize)) : xMi l yX7_shelf (.code yX7_shelf cX7_shelf 4 (some .int) :: xU) rmX7_shelf (xK D cI cB cJ) D sz [.ref a_t, .int i1, .int i2, .int i3] [(a_t, .inr (7, [.ref a_t_stand, .ref a_t_on, .ref a_t_marks, .int s_t_villages, .int s_t_held, .ref a_t_rule, .int s_t_z, .ref a_t_tape, .int s_t_tapeMany, .int s_t_sort, .int s_t_begins, .int s_t_tokenEnds, .long s_t_word, .int s_t_value, .int s_t_good, .int s_t_freshVillages, .int s_t_freshHeld, .ref a_t_freshStand, .ref a_t_freshMarks, .ref a_t_freshRule, .ref a_t_shares, .ref a_t_said, .ref a_t_rows, .ref a_t_must, .int s_t_rowMany, .int s_t_mustMany, .ref a_t_sorts, .ref a_t_sizes, .ref a_t_sheets, .ref a_t_holds, .ref a_t_heldNumber, .ref a_t_heldSize, .int s_t_kind, .int s_t_number, .int s_t_own, .ref a_t_traced, .int s_t_bodies, .int s_t_isParted, .int s_t_isKept, .ref a_t_keptRow, .int s_t_movedTo, .ref a_t_single])), (a_t_sorts, .inl (cI, 4, .inl v_t_sorts)), (a_t_holds, .inl (cI, 4, .inl v_t_holds)), (a_t_heldNumber, .inl (cI, 4, .inl v_t_heldNumber)), (a_t_sizes, .inl (cI, 4, .inl v_t_sizes)), (a_t_heldSize, .inl (cI, 4, .inl v_t_heldSize))] [(a_t, .inr (7, [.ref a_t_stand, .ref a_t_on, .ref a_t_marks, .int s_t_villages, .int s_t_held, .ref a_t_rule, .int s_t_z, .ref a_t_tape, .int s_t_tapeMany, .int s_t_sort, .int s_t_begins, .int s_t_tokenEnds, .long s_t_word, .int s_t_value, .int s_t_good, .int s_t_freshVillages, .int s_t_freshHeld, .ref a_t_freshStand, .ref a_t_freshMarks, .ref a_t_freshRule, .ref a_t_shares, .ref a_t_said, .ref a_t_rows, .ref a_t_must, .int s_t_rowMany, .int s_t_mustMany, .ref a_t_sorts, .ref a_t_sizes, .ref a_t_sheets, .ref a_t_holds, .ref a_t_heldNumber, .ref a_t_heldSize, .int s_t_kind, .int s_t_number, .int s_t_own, .ref a_t_traced, .int s_t_bodies, .int s_t_isParted, .int s_t_isKept, .ref a_t_keptRow, .int s_t_movedTo, .ref a_t_single])), (a_t_sorts, .inl (cI, 4, .inl v_t_sorts)), (a_t_holds, .inl (cI, 4, .inl o_v_t_holds)), (a_t_heldNumber, .inl (cI, 4, .inl o_v_t_heldNumber)), (a_t_sizes, .inl (cI, 4, .inl v_t_sizes)), (a_t_heldSize, .inl (cI, 4, .inl o_v_t_heldSize))] r := by
  refine xMi.mk (own := "FairNextModel") (by decide +kernel) rfl (Nat.le_of_ble_eq_true rfl) ?_
  intro p e s m args below meth c A Q ls H hfix hK hP hD hA hS hl hEnd
  obtain ⟨hx, hb, hml, hown, hts⟩ := id hfix
  have hl : lv_has ls 4 [(0, .ref a_t), (1, .int i1), (2, .int i2), (3, .int i3)] := hl
  rw [f_X7_shelf] at hF
  refine lv_iload_n hx hb dX7_shelf_0 rfl (lv_at hl 1 rfl) ?_
  refine xrz0 (xrunS (As := [.int i1]) (rest := []) (c_X7_isShelf l D cI cB cJ _ i1 (f_X7_isShelf i1) rfl) hfix xw_1099 ys_X7_isShelf ⟨rfl, rfl⟩ ⟨(Nat.le_of_ble_eq_true rfl), (Nat.le_of_ble_eq_true rfl)⟩ xKk_K (fun U hU hW => xK.warm hW hK) hP hD [] rfl rfl rfl hl.1 rfl (Nat.le_of_ble_eq_true rfl) dX7_shelf_1 ⟨Nat.zero_le _, Nat.zero_le _⟩) hP hD hS hA [] rfl rfl (fun H locs hP hD hS hz_1 => ?_)
  refine lv_if_eq (tgt := 16) hx hb dX7_shelf_4 (by decide) (fun c_2 => ?_) (fun c_2 => ?_)
  · replace hF := if_t c_2 hF
    refine lv_iconst (v := (-1 : Int32)) hx hb dX7_shelf_16 (by decide) ?_
    obtain ⟨rfl, rfl, rfl, rfl⟩ := pj4 hF
    exact hEnd _ _ _ _ _ dX7_shelf_17 hP hS rfl
  · replace hF := if_f c_2 hF
    refine lv_aload_n hx hb dX7_shelf_7 rfl (lv_at hl 0 rfl) ?_
    refine lv_iload_n hx hb dX7_shelf_8 rfl (lv_at hl 2 rfl) ?_
    refine lv_iload_n hx hb dX7_shelf_9 rfl (lv_at hl 3 rfl) ?_
    refine xrz0 (xrunV (As := [.int i2, .int i3]) (rest := []) (c_X7_mayHold l D cI cB cJ a_t a_t_stand a_t_on a_t_marks a_t_rule a_t_tape a_t_freshStand a_t_freshMarks a_t_freshRule a_t_shares a_t_said a_t_rows a_t_must a_t_sorts a_t_sizes a_t_sheets a_t_holds a_t_heldNumber a_t_heldSize a_t_traced a_t_keptRow a_t_single _ s_t_villages s_t_held s_t_z s_t_tapeMany s_t_sort s_t_begins s_t_tokenEnds s_t_word s_t_value s_t_good s_t_freshVillages s_t_freshHeld s_t_rowMany s_t_mustMany s_t_kind s_t_number s_t_own s_t_bodies s_t_isParted s_t_isKept s_t_movedTo i2 i3 (f_X7_mayHold i2 i3 s_t_held) rfl) hfix xw_1123 yv_X7_mayHold ⟨rfl, rfl⟩ ⟨(Nat.le_of_ble_eq_true rfl), (Nat.le_of_ble_eq_true rfl)⟩ xKk_K (fun U hU hW => xK.warm hW hK) hK.1 hP hD [0] rfl rfl 0 7 rfl rfl rfl rfl hl.1 rfl (Nat.le_of_ble_eq_true rfl) dX7_shelf_10 ⟨Nat.zero_le _, Nat.zero_le _⟩) hP hD hS hA [0] rfl rfl (fun H locs hP hD hS hz_3 => ?_)
    refine lv_if_ne (tgt := 18) hx hb dX7_shelf_13 (by decide) (fun c_4 => ?_) (fun c_4 => ?_)
    · replace hF := if_f c_4 hF
      refine lv_aload_n hx hb dX7_shelf_18 rfl (lv_at hl 0 rfl) ?_
      refine xget (ci := 7) (C := RX7) (T := TX7) (N := 42) hfix xiX7 hK.1 hP 0 rfl rfl 29 (by decide) rfl xw_717 rfl dX7_shelf_19 ?_
      refine lv_iload_n hx hb dX7_shelf_22 rfl (lv_at hl 1 rfl) ?_
      refine lv_iload_n hx hb dX7_shelf_23 rfl (lv_at hl 2 rfl) ?_
      refine lv_iconst (v := (2 : Int32)) hx hb dX7_shelf_24 (by decide) ?_
      obtain ⟨j_5, hJ, hF⟩ := bd1_e hF
      have hN_47_5 : ∀ (H : Heap) (locs : List Loc) (ls : Array Slot), va_P D vwCl [(a_t, .inr (7, [.ref a_t_stand, .ref a_t_on, .ref a_t_marks, .int s_t_villages, .int s_t_held, .ref a_t_rule, .int s_t_z, .ref a_t_tape, .int s_t_tapeMany, .int s_t_sort, .int s_t_begins, .int s_t_tokenEnds, .long s_t_word, .int s_t_value, .int s_t_good, .int s_t_freshVillages, .int s_t_freshHeld, .ref a_t_freshStand, .ref a_t_freshMarks, .ref a_t_freshRule, .ref a_t_shares, .ref a_t_said, .ref a_t_rows, .ref a_t_must, .int s_t_rowMany, .int s_t_mustMany, .ref a_t_sorts, .ref a_t_sizes, .ref a_t_sheets, .ref a_t_holds, .ref a_t_heldNumber, .ref a_t_heldSize, .int s_t_kind, .int s_t_number, .int s_t_own, .ref a_t_traced, .int s_t_bodies, .int s_t_isParted, .int s_t_isKept, .ref a_t_keptRow, .int s_t_movedTo, .ref a_t_single])), (a_t_sorts, .inl (cI, 4, .inl v_t_sorts)), (a_t_holds, .inl (cI, 4, .inl v_t_holds)), (a_t_heldNumber, .inl (cI, 4, .inl v_t_heldNumber)), (a_t_sizes, .inl (cI, 4, .inl v_t_sizes)), (a_t_heldSize, .inl (cI, 4, .inl v_t_heldSize))] H → va_D A [(a_t, .inr (7, [.ref a_t_stand, .ref a_t_on, .ref a_t_marks, .int s_t_villages, .int s_t_held, .ref a_t_rule, .int s_t_z, .ref a_t_tape, .int s_t_tapeMany, .int s_t_sort, .int s_t_begins, .int s_t_tokenEnds, .long s_t_word, .int s_t_value, .int s_t_good, .int s_t_freshVillages, .int s_t_freshHeld, .ref a_t_freshStand, .ref a_t_freshMarks, .ref a_t_freshRule, .ref a_t_shares, .ref a_t_said, .ref a_t_rows, .ref a_t_must, .int s_t_rowMany, .int s_t_mustMany, .ref a_t_sorts, .ref a_t_sizes, .ref a_t_sheets, .ref a_t_holds, .ref a_t_heldNumber, .ref a_t_heldSize, .int s_t_kind, .int s_t_number, .int s_t_own, .ref a_t_traced, .int s_t_bodies, .int s_t_isParted, .int s_t_isKept, .ref a_t_keptRow, .int s_t_movedTo, .ref a_t_single])), (a_t_sorts, .inl (cI, 4, .inl v_t_sorts)), (a_t_holds, .inl (cI, 4, .inl v_t_holds)), (a_t_heldNumber, .inl (cI, 4, .inl v_t_heldNumber)), (a_t_sizes, .inl (cI, 4, .inl v_t_sizes)), (a_t_heldSize, .inl (cI, 4, .inl v_t_heldSize))] → va_S A s.heap H locs → lv_has ls 4 [(0, .ref a_t), (1, .int i1), (2, .int i2), (3, .int i3)] → W p l e rmX7_shelf s m args below meth c H locs 0 0 Q (F0 m 47 ls [.int j_5, .int i1, .ref a_t_holds]) := by
        intro H locs ls hP hD hS hl
        obtain ⟨c_6, hF⟩ := gd_e hF
        refine va_iast hx hb hK.1 hP hD hS 2 0 rfl rfl c_6 dX7_shelf_47 (fun H locs hP hD hS => ?_)
        have hP : va_P D vwCl [(a_t, .inr (7, [.ref a_t_stand, .ref a_t_on, .ref a_t_marks, .int s_t_villages, .int s_t_held, .ref a_t_rule, .int s_t_z, .ref a_t_tape, .int s_t_tapeMany, .int s_t_sort, .int s_t_begins, .int s_t_tokenEnds, .long s_t_word, .int s_t_value, .int s_t_good, .int s_t_freshVillages, .int s_t_freshHeld, .ref a_t_freshStand, .ref a_t_freshMarks, .ref a_t_freshRule, .ref a_t_shares, .ref a_t_said, .ref a_t_rows, .ref a_t_must, .int s_t_rowMany, .int s_t_mustMany, .ref a_t_sorts, .ref a_t_sizes, .ref a_t_sheets, .ref a_t_holds, .ref a_t_heldNumber, .ref a_t_heldSize, .int s_t_kind, .int s_t_number, .int s_t_own, .ref a_t_traced, .int s_t_bodies, .int s_t_isParted, .int s_t_isKept, .ref a_t_keptRow, .int s_t_movedTo, .ref a_t_single])), (a_t_sorts, .inl (cI, 4, .inl v_t_sorts)), (a_t_holds, .inl (cI, 4, .inl (upd v_t_holds i1.toNatClampNeg j_5))), (a_t_heldNumber, .inl (cI, 4, .inl v_t_heldNumber)), (a_t_sizes, .inl (cI, 4, .inl v_t_sizes)), (a_t_heldSize, .inl (cI, 4, .inl v_t_heldSize))] H := hP
        have hD : va_D A [(a_t, .inr (7, [.ref a_t_stand, .ref a_t_on, .ref a_t_marks, .int s_t_villages, .int s_t_held, .ref a_t_rule, .int s_t_z, .ref a_t_tape, .int s_t_tapeMany, .int s_t_sort, .int s_t_begins, .int s_t_tokenEnds, .long s_t_word, .int s_t_value, .int s_t_good, .int s_t_freshVillages, .int s_t_freshHeld, .ref a_t_freshStand, .ref a_t_freshMarks, .ref a_t_freshRule, .ref a_t_shares, .ref a_t_said, .ref a_t_rows, .ref a_t_must, .int s_t_rowMany, .int s_t_mustMany, .ref a_t_sorts, .ref a_t_sizes, .ref a_t_sheets, .ref a_t_holds, .ref a_t_heldNumber, .ref a_t_heldSize, .int s_t_kind, .int s_t_number, .int s_t_own, .ref a_t_traced, .int s_t_bodies, .int s_t_isParted, .int s_t_isKept, .ref a_t_keptRow, .int s_t_movedTo, .ref a_t_single])), (a_t_sorts, .inl (cI, 4, .inl v_t_sorts)), (a_t_holds, .inl (cI, 4, .inl (upd v_t_holds i1.toNatClampNeg j_5))), (a_t_heldNumber, .inl (cI, 4, .inl v_t_heldNumber)), (a_t_sizes, .inl (cI, 4, .inl v_t_sizes)), (a_t_heldSize, .inl (cI, 4, .inl v_t_heldSize))] := hD
        refine lv_aload_n hx hb dX7_shelf_48 rfl (lv_at hl 0 rfl) ?_
        refine xget (ci := 7) (C := RX7) (T := TX7) (N := 42) hfix xiX7 hK.1 hP 0 rfl rfl 30 (by decide) rfl xw_718 rfl dX7_shelf_49 ?_
        refine lv_iload_n hx hb dX7_shelf_52 rfl (lv_at hl 1 rfl) ?_
        refine lv_iload_n hx hb dX7_shelf_53 rfl (lv_at hl 2 rfl) ?_
        refine lv_iconst (v := (1 : Int32)) hx hb dX7_shelf_54 (by decide) ?_
        obtain ⟨j_7, hJ, hF⟩ := bd1_e hF
        have hN_68_7 : ∀ (H : Heap) (locs : List Loc) (ls : Array Slot), va_P D vwCl [(a_t, .inr (7, [.ref a_t_stand, .ref a_t_on, .ref a_t_marks, .int s_t_villages, .int s_t_held, .ref a_t_rule, .int s_t_z, .ref a_t_tape, .int s_t_tapeMany, .int s_t_sort, .int s_t_begins, .int s_t_tokenEnds, .long s_t_word, .int s_t_value, .int s_t_good, .int s_t_freshVillages, .int s_t_freshHeld, .ref a_t_freshStand, .ref a_t_freshMarks, .ref a_t_freshRule, .ref a_t_shares, .ref a_t_said, .ref a_t_rows, .ref a_t_must, .int s_t_rowMany, .int s_t_mustMany, .ref a_t_sorts, .ref a_t_sizes, .ref a_t_sheets, .ref a_t_holds, .ref a_t_heldNumber, .ref a_t_heldSize, .int s_t_kind, .int s_t_number, .int s_t_own, .ref a_t_traced, .int s_t_bodies, .int s_t_isParted, .int s_t_isKept, .ref a_t_keptRow, .int s_t_movedTo, .ref a_t_single])), (a_t_sorts, .inl (cI, 4, .inl v_t_sorts)), (a_t_holds, .inl (cI, 4, .inl (upd v_t_holds i1.toNatClampNeg j_5))), (a_t_heldNumber, .inl (cI, 4, .inl v_t_heldNumber)), (a_t_sizes, .inl (cI, 4, .inl v_t_sizes)), (a_t_heldSize, .inl (cI, 4, .inl v_t_heldSize))] H → va_D A [(a_t, .inr (7, [.ref a_t_stand, .ref a_t_on, .ref a_t_marks, .int s_t_villages, .int s_t_held, .ref a_t_rule, .int s_t_z, .ref a_t_tape, .int s_t_tapeMany, .int s_t_sort, .int s_t_begins, .int s_t_tokenEnds, .long s_t_word, .int s_t_value, .int s_t_good, .int s_t_freshVillages, .int s_t_freshHeld, .ref a_t_freshStand, .ref a_t_freshMarks, .ref a_t_freshRule, .ref a_t_shares, .ref a_t_said, .ref a_t_rows, .ref a_t_must, .int s_t_rowMany, .int s_t_mustMany, .ref a_t_sorts, .ref a_t_sizes, .ref a_t_sheets, .ref a_t_holds, .ref a_t_heldNumber, .ref a_t_heldSize, .int s_t_kind, .int s_t_number, .int s_t_own, .ref a_t_traced, .int s_t_bodies, .int s_t_isParted, .int s_t_isKept, .ref a_t_keptRow, .int s_t_movedTo, .ref a_t_single])), (a_t_sorts, .inl (cI, 4, .inl v_t_sorts)), (a_t_holds, .inl (cI, 4, .inl (upd v_t_holds i1.toNatClampNeg j_5))), (a_t_heldNumber, .inl (cI, 4, .inl v_t_heldNumber)), (a_t_sizes, .inl (cI, 4, .inl v_t_sizes)), (a_t_heldSize, .inl (cI, 4, .inl v_t_heldSize))] → va_S A s.heap H locs → lv_has ls 4 [(0, .ref a_t), (1, .int i1), (2, .int i2), (3, .int i3)] → W p l e rmX7_shelf s m args below meth c H locs 0 0 Q (F0 m 68 ls [.int j_7, .int i1, .ref a_t_heldNumber]) := by
          intro H locs ls hP hD hS hl
          obtain ⟨c_8, hF⟩ := gd_e hF
          refine va_iast hx hb hK.1 hP hD hS 3 0 rfl rfl c_8 dX7_shelf_68 (fun H locs hP hD hS => ?_)
          have hP : va_P D vwCl [(a_t, .inr (7, [.ref a_t_stand, .ref a_t_on, .ref a_t_marks, .int s_t_villages, .int s_t_held, .ref a_t_rule, .int s_t_z, .ref a_t_tape, .int s_t_tapeMany, .int s_t_sort, .int s_t_begins, .int s_t_tokenEnds, .long s_t_word, .int s_t_value, .int s_t_good, .int s_t_freshVillages, .int s_t_freshHeld, .ref a_t_freshStand, .ref a_t_freshMarks, .ref a_t_freshRule, .ref a_t_shares, .ref a_t_said, .ref a_t_rows, .ref a_t_must, .int s_t_rowMany, .int s_t_mustMany, .ref a_t_sorts, .ref a_t_sizes, .ref a_t_sheets, .ref a_t_holds, .ref a_t_heldNumber, .ref a_t_heldSize, .int s_t_kind, .int s_t_number, .int s_t_own, .ref a_t_traced, .int s_t_bodies, .int s_t_isParted, .int s_t_isKept, .ref a_t_keptRow, .int s_t_movedTo, .ref a_t_single])), (a_t_sorts, .inl (cI, 4, .inl v_t_sorts)), (a_t_holds, .inl (cI, 4, .inl (upd v_t_holds i1.toNatClampNeg j_5))), (a_t_heldNumber, .inl (cI, 4, .inl (upd v_t_heldNumber i1.toNatClampNeg j_7))), (a_t_sizes, .inl (cI, 4, .inl v_t_sizes)), (a_t_heldSize, .inl (cI, 4, .inl v_t_heldSize))] H := hP
          have hD : va_D A [(a_t, .inr (7, [.ref a_t_stand, .ref a_t_on, .ref a_t_marks, .int s_t_villages, .int s_t_held, .ref a_t_rule, .int s_t_z, .ref a_t_tape, .int s_t_tapeMany, .int s_t_sort, .int s_t_begins, .int s_t_tokenEnds, .long s_t_word, .int s_t_value, .int s_t_good, .int s_t_freshVillages, .int s_t_freshHeld, .ref a_t_freshStand, .ref a_t_freshMarks, .ref a_t_freshRule, .ref a_t_shares, .ref a_t_said, .ref a_t_rows, .ref a_t_must, .int s_t_rowMany, .int s_t_mustMany, .ref a_t_sorts, .ref a_t_sizes, .ref a_t_sheets, .ref a_t_holds, .ref a_t_heldNumber, .ref a_t_heldSize, .int s_t_kind, .int s_t_number, .int s_t_own, .ref a_t_traced, .int s_t_bodies, .int s_t_isParted, .int s_t_isKept, .ref a_t_keptRow, .int s_t_movedTo, .ref a_t_single])), (a_t_sorts, .inl (cI, 4, .inl v_t_sorts)), (a_t_holds, .inl (cI, 4, .inl (upd v_t_holds i1.toNatClampNeg j_5))), (a_t_heldNumber, .inl (cI, 4, .inl (upd v_t_heldNumber i1.toNatClampNeg j_7))), (a_t_sizes, .inl (cI, 4, .inl v_t_sizes)), (a_t_heldSize, .inl (cI, 4, .inl v_t_heldSize))] := hD
          refine lv_aload_n hx hb dX7_shelf_69 rfl (lv_at hl 0 rfl) ?_
          refine xget (ci := 7) (C := RX7) (T := TX7) (N := 42) hfix xiX7 hK.1 hP 0 rfl rfl 31 (by decide) rfl xw_719 rfl dX7_shelf_70 ?_
          refine lv_iload_n hx hb dX7_shelf_73 rfl (lv_at hl 1 rfl) ?_
          refine lv_iload_n hx hb dX7_shelf_74 rfl (lv_at hl 2 rfl) ?_
          refine lv_iconst (v := (1 : Int32)) hx hb dX7_shelf_75 (by decide) ?_
          refine lv_icmp_ne (tgt := 88) hx hb dX7_shelf_76 (by decide) (fun c_9 => ?_) (fun c_9 => ?_)
          · replace hF := if_f c_9 hF
            refine lv_iconst (v := (0 : Int32)) hx hb dX7_shelf_88 (by decide) ?_
            obtain ⟨c_10, hF⟩ := gd_e hF
            refine va_iast hx hb hK.1 hP hD hS 5 0 rfl rfl c_10 dX7_shelf_89 (fun H locs hP hD hS => ?_)
            have hP : va_P D vwCl [(a_t, .inr (7, [.ref a_t_stand, .ref a_t_on, .ref a_t_marks, .int s_t_villages, .int s_t_held, .ref a_t_rule, .int s_t_z, .ref a_t_tape, .int s_t_tapeMany, .int s_t_sort, .int s_t_begins, .int s_t_tokenEnds, .long s_t_word, .int s_t_value, .int s_t_good, .int s_t_freshVillages, .int s_t_freshHeld, .ref a_t_freshStand, .ref a_t_freshMarks, .ref a_t_freshRule, .ref a_t_shares, .ref a_t_said, .ref a_t_rows, .ref a_t_must, .int s_t_rowMany, .int s_t_mustMany, .ref a_t_sorts, .ref a_t_sizes, .ref a_t_sheets, .ref a_t_holds, .ref a_t_heldNumber, .ref a_t_heldSize, .int s_t_kind, .int s_t_number, .int s_t_own, .ref a_t_traced, .int s_t_bodies, .int s_t_isParted, .int s_t_isKept, .ref a_t_keptRow, .int s_t_movedTo, .ref a_t_single])), (a_t_sorts, .inl (cI, 4, .inl v_t_sorts)), (a_t_holds, .inl (cI, 4, .inl (upd v_t_holds i1.toNatClampNeg j_5))), (a_t_heldNumber, .inl (cI, 4, .inl (upd v_t_heldNumber i1.toNatClampNeg j_7))), (a_t_sizes, .inl (cI, 4, .inl v_t_sizes)), (a_t_heldSize, .inl (cI, 4, .inl (upd v_t_heldSize i1.toNatClampNeg (0 : Int32))))] H := hP
            have hD : va_D A [(a_t, .inr (7, [.ref a_t_stand, .ref a_t_on, .ref a_t_marks, .int s_t_villages, .int s_t_held, .ref a_t_rule, .int s_t_z, .ref a_t_tape, .int s_t_tapeMany, .int s_t_sort, .int s_t_begins, .int s_t_tokenEnds, .long s_t_word, .int s_t_value, .int s_t_good, .int s_t_freshVillages, .int s_t_freshHeld, .ref a_t_freshStand, .ref a_t_freshMarks, .ref a_t_freshRule, .ref a_t_shares, .ref a_t_said, .ref a_t_rows, .ref a_t_must, .int s_t_rowMany, .int s_t_mustMany, .ref a_t_sorts, .ref a_t_sizes, .ref a_t_sheets, .ref a_t_holds, .ref a_t_heldNumber, .ref a_t_heldSize, .int s_t_kind, .int s_t_number, .int s_t_own, .ref a_t_traced, .int s_t_bodies, .int s_t_isParted, .int s_t_isKept, .ref a_t_keptRow, .int s_t_movedTo, .ref a_t_single])), (a_t_sorts, .inl (cI, 4, .inl v_t_sorts)), (a_t_holds, .inl (cI, 4, .inl (upd v_t_holds i1.toNatClampNeg j_5))), (a_t_heldNumber, .inl (cI, 4, .inl (upd v_t_heldNumber i1.toNatClampNeg j_7))), (a_t_sizes, .inl (cI, 4, .inl v_t_sizes)), (a_t_heldSize, .inl (cI, 4, .inl (upd v_t_heldSize i1.toNatClampNeg (0 : Int32))))] := hD
            refine lv_iconst (v := (1 : Int32)) hx hb dX7_shelf_90 (by decide) ?_
            obtain ⟨rfl, rfl, rfl, rfl⟩ := pj4 hF
            exact hEnd _ _ _ _ _ dX7_shelf_91 hP hS rfl
          · replace hF := if_t c_9 hF
            refine lv_aload_n hx hb dX7_shelf_79 rfl (lv_at hl 0 rfl) ?_
            refine xget (ci := 7) (C := RX7) (T := TX7) (N := 42) hfix xiX7 hK.1 hP 0 rfl rfl 27 (by decide) rfl xw_715 rfl dX7_shelf_80 ?_
            refine lv_iload_n hx hb dX7_shelf_83 rfl (lv_at hl 3 rfl) ?_
            obtain ⟨c_11, hF⟩ := gd_e hF
            refine va_iald hx hb hK.1 hP 4 0 rfl rfl c_11 dX7_shelf_84 ?_
            refine lv_goto (tgt := 89) hx hb dX7_shelf_85 (by decide) ?_
            obtain ⟨c_12, hF⟩ := gd_e hF
            refine va_iast hx hb hK.1 hP hD hS 5 0 rfl rfl c_12 dX7_shelf_89 (fun H locs hP hD hS => ?_)
            have hP : va_P D vwCl [(a_t, .inr (7, [.ref a_t_stand, .ref a_t_on, .ref a_t_marks, .int s_t_villages, .int s_t_held, .ref a_t_rule, .int s_t_z, .ref a_t_tape, .int s_t_tapeMany, .int s_t_sort, .int s_t_begins, .int s_t_tokenEnds, .long s_t_word, .int s_t_value, .int s_t_good, .int s_t_freshVillages, .int s_t_freshHeld, .ref a_t_freshStand, .ref a_t_freshMarks, .ref a_t_freshRule, .ref a_t_shares, .ref a_t_said, .ref a_t_rows, .ref a_t_must, .int s_t_rowMany, .int s_t_mustMany, .ref a_t_sorts, .ref a_t_sizes, .ref a_t_sheets, .ref a_t_holds, .ref a_t_heldNumber, .ref a_t_heldSize, .int s_t_kind, .int s_t_number, .int s_t_own, .ref a_t_traced, .int s_t_bodies, .int s_t_isParted, .int s_t_isKept, .ref a_t_keptRow, .int s_t_movedTo, .ref a_t_single])), (a_t_sorts, .inl (cI, 4, .inl v_t_sorts)), (a_t_holds, .inl (cI, 4, .inl (upd v_t_holds i1.toNatClampNeg j_5))), (a_t_heldNumber, .inl (cI, 4, .inl (upd v_t_heldNumber i1.toNatClampNeg j_7))), (a_t_sizes, .inl (cI, 4, .inl v_t_sizes)), (a_t_heldSize, .inl (cI, 4, .inl (upd v_t_heldSize i1.toNatClampNeg (v_t_sizes i3.toNatClampNeg))))] H := hP
            have hD : va_D A [(a_t, .inr (7, [.ref a_t_stand, .ref a_t_on, .ref a_t_marks, .int s_t_villages, .int s_t_held, .ref a_t_rule, .int s_t_z, .ref a_t_tape, .int s_t_tapeMany, .int s_t_sort, .int s_t_begins, .int s_t_tokenEnds, .long s_t_word, .int s_t_value, .int s_t_good, .int s_t_freshVillages, .int s_t_freshHeld, .ref a_t_freshStand, .ref a_t_freshMarks, .ref a_t_freshRule, .ref a_t_shares, .ref a_t_said, .ref a_t_rows, .ref a_t_must, .int s_t_rowMany, .int s_t_mustMany, .ref a_t_sorts, .ref a_t_sizes, .ref a_t_sheets, .ref a_t_holds, .ref a_t_heldNumber, .ref a_t_heldSize, .int s_t_kind, .int s_t_number, .int s_t_own, .ref a_t_traced, .int s_t_bodies, .int s_t_isParted, .int s_t_isKept, .ref a_t_keptRow, .int s_t_movedTo, .ref a_t_single])), (a_t_sorts, .inl (cI, 4, .inl v_t_sorts)), (a_t_holds, .inl (cI, 4, .inl (upd v_t_holds i1.toNatClampNeg j_5))), (a_t_heldNumber, .inl (cI, 4, .inl (upd v_t_heldNumber i1.toNatClampNeg j_7))), (a_t_sizes, .inl (cI, 4, .inl v_t_sizes)), (a_t_heldSize, .inl (cI, 4, .inl (upd v_t_heldSize i1.toNatClampNeg (v_t_sizes i3.toNatClampNeg))))] := hD
            refine lv_iconst (v := (1 : Int32)) hx hb dX7_shelf_90 (by decide) ?_
            obtain ⟨rfl, rfl, rfl, rfl⟩ := pj4 hF
            exact hEnd _ _ _ _ _ dX7_shelf_91 hP hS rfl
        replace hF := hJ
        refine lv_icmp_ne (tgt := 67) hx hb dX7_shelf_55 (by decide) (fun c_13 => ?_) (fun c_13 => ?_)
        · replace hF := if_f c_13 hF
          refine lv_iload_n hx hb dX7_shelf_67 rfl (lv_at hl 3 rfl) ?_
          obtain rfl := Option.some.inj hF
          exact hN_68_7 _ _ _ hP hD hS (lv_sub hl [0, 1, 2, 3] rfl)
        · replace hF := if_t c_13 hF
          refine lv_aload_n hx hb dX7_shelf_58 rfl (lv_at hl 0 rfl) ?_
          refine xget (ci := 7) (C := RX7) (T := TX7) (N := 42) hfix xiX7 hK.1 hP 0 rfl rfl 26 (by decide) rfl xw_714 rfl dX7_shelf_59 ?_
          refine lv_iload_n hx hb dX7_shelf_62 rfl (lv_at hl 3 rfl) ?_
          obtain ⟨c_14, hF⟩ := gd_e hF
          refine va_iald hx hb hK.1 hP 1 0 rfl rfl c_14 dX7_shelf_63 ?_
          refine lv_goto (tgt := 68) hx hb dX7_shelf_64 (by decide) ?_
          obtain rfl := Option.some.inj hF
          exact hN_68_7 _ _ _ hP hD hS (lv_sub hl [0, 1, 2, 3] rfl)
      replace hF := hJ
      refine lv_icmp_eq (tgt := 42) hx hb dX7_shelf_25 (by decide) (fun c_15 => ?_) (fun c_15 => ?_)
      · replace hF := if_t c_15 hF
        refine lv_iconst (v := (-1 : Int32)) hx hb dX7_shelf_42 (by decide) ?_
        refine lv_goto (tgt := 47) hx hb dX7_shelf_43 (by decide) ?_
        obtain rfl := Option.some.inj hF
        exact hN_47_5 _ _ _ hP hD hS (lv_sub hl [0, 1, 2, 3] rfl)
      · replace hF := if_f c_15 hF
        refine lv_iload_n hx hb dX7_shelf_28 rfl (lv_at hl 2 rfl) ?_
        refine lv_iconst (v := (1 : Int32)) hx hb dX7_shelf_29 (by decide) ?_
        refine lv_icmp_ne (tgt := 46) hx hb dX7_shelf_30 (by decide) (fun c_16 => ?_) (fun c_16 => ?_)
        · replace hF := if_f c_16 hF
          refine lv_iload_n hx hb dX7_shelf_46 rfl (lv_at hl 2 rfl) ?_
          obtain rfl := Option.some.inj hF
          exact hN_47_5 _ _ _ hP hD hS (lv_sub hl [0, 1, 2, 3] rfl)
        · replace hF := if_t c_16 hF
          refine lv_aload_n hx hb dX7_shelf_33 rfl (lv_at hl 0 rfl) ?_
          refine xget (ci := 7) (C := RX7) (T := TX7) (N := 42) hfix xiX7 hK.1 hP 0 rfl rfl 26 (by decide) rfl xw_714 rfl dX7_shelf_34 ?_
          refine lv_iload_n hx hb dX7_shelf_37 rfl (lv_at hl 3 rfl) ?_
          obtain ⟨c_17, hF⟩ := gd_e hF
          refine va_iald hx hb hK.1 hP 1 0 rfl rfl c_17 dX7_shelf_38 ?_
          refine lv_if_ge (tgt := 46) hx hb dX7_shelf_39 (by decide) (fun c_18 => ?_) (fun c_18 => ?_)
          · replace hF := if_t c_18 hF
            refine lv_iload_n hx hb dX7_shelf_46 rfl (lv_at hl 2 rfl) ?_
            obtain rfl := Option.some.inj hF
            exact hN_47_5 _ _ _ hP hD hS (lv_sub hl [0, 1, 2, 3] rfl)
          · replace hF := if_f c_18 hF
            refine lv_iconst (v := (-1 : Int32)) hx hb dX7_shelf_42 (by decide) ?_
            refine lv_goto (tgt := 47) hx hb dX7_shelf_43 (by decide) ?_
            obtain rfl := Option.some.inj hF
            exact hN_47_5 _ _ _ hP hD hS (lv_sub hl [0, 1, 2, 3] rfl)
    · replace hF := if_t c_4 hF
      refine lv_iconst (v := (-1 : Int32)) hx hb dX7_shelf_16 (by decide) ?_
      obtain ⟨rfl, rfl, rfl, rfl⟩ := pj4 hF
      exact hEnd _ _ _ _ _ dX7_shelf_17 hP hS rfl
def f_X7_kindOn (i1 : Int32) (s_t_held : Int32) (v_t_holds : (Nat → Int32)) (v_t_heldNumber : (Nat → Int32)) (v_t_rule : (Nat → Int32)) : Option (Int32) := gd i1 4 ((if (v_t_holds i1.toNatClampNeg) = (0 : Int32) then gd i1 4 ((if (f_X7_isHeldRule (v_t_heldNumber i1.toNatClampNeg) s_t_held) = (0 : Int32) then some ((-1 : Int32)) else gd i1 4 (bd1 (f_X7_of (v_t_heldNumber i1.toNatClampNeg) (0 : Int32) v_t_rule) (fun (r_7 : Int32) => some (r_7))))) else gd i1 4 ((if (0 : Int32) ≤ (v_t_holds i1.toNatClampNeg) then some ((9 : Int32)) else some ((-1 : Int32))))))
abbrev rmX7_kindOn : Room := { frames := 2, cells := 0, slots := 0, locals := 43 }
set_option maxHeartbeats 400000 in
set_option maxRecDepth 100000 in
theorem c_X7_kindOn (l : Launch) (D : va_G) (cI cB cJ : ClassId) (a_t : Nat) (a_t_stand : Nat) (a_t_on : Nat) (a_t_marks : Nat) (a_t_rule : Nat) (a_t_tape : Nat) (a_t_freshStand : Nat) (a_t_freshMarks : Nat) (a_t_freshRule : Nat) (a_t_shares : Nat) (a_t_said : Nat) (a_t_rows : Nat) (a_t_must : Nat) (a_t_sorts : Nat) (a_t_sizes : Nat) (a_t_sheets : Nat) (a_t_holds : Nat) (a_t_heldNumber : Nat) (a_t_heldSize : Nat) (a_t_traced : Nat) (a_t_keptRow : Nat) (a_t_single : Nat) (sz : Nat) (s_t_villages : Int32) (s_t_held : Int32) (s_t_z : Int32) (s_t_tapeMany : Int32) (s_t_sort : Int32) (s_t_begins : Int32) (s_t_tokenEnds : Int32) (s_t_word : Int64) (s_t_value : Int32) (s_t_good : Int32) (s_t_freshVillages : Int32) (s_t_freshHeld : Int32) (s_t_rowMany : Int32) (s_t_mustMany : Int32) (s_t_kind : Int32) (s_t_number : Int32) (s_t_own : Int32) (s_t_bodies : Int32) (s_t_isParted : Int32) (s_t_isKept : Int32) (s_t_movedTo : Int32) (v_t_holds : (Nat → Int32)) (v_t_heldNumber : (Nat → Int32)) (v_t_rule : (Nat → Int32)) (i1 : Int32) (r : Int32) (hF : f_X7_kindOn i1 s_t_held v_t_holds v_t_heldNumber v_t_rule = some r) : xMi l yX7_kindOn (.code yX7_kindOn cX7_kindOn 2 (some .int) :: xU) rmX7_kindOn (xK D cI cB cJ) D sz [.ref a_t, .int i1] [(a_t, .inr (7, [.ref a_t_stand, .ref a_t_on, .ref a_t_marks, .int s_t_villages, .int s_t_held, .ref a_t_rule, .int s_t_z, .ref a_t_tape, .int s_t_tapeMany, .int s_t_sort, .int s_t_begins, .int s_t_tokenEnds, .long s_t_word, .int s_t_value, .int s_t_good, .int s_t_freshVillages, .int s_t_freshHeld, .ref a_t_freshStand, .ref a_t_freshMarks, .ref a_t_freshRule, .ref a_t_shares, .ref a_t_said, .ref a_t_rows, .ref a_t_must, .int s_t_rowMany, .int s_t_mustMany, .ref a_t_sorts, .ref a_t_sizes, .ref a_t_sheets, .ref a_t_holds, .ref a_t_heldNumber, .ref a_t_heldSize, .int s_t_kind, .int s_t_number, .int s_t_own, .ref a_t_traced, .int s_t_bodies, .int s_t_isParted, .int s_t_isKept, .ref a_t_keptRow, .int s_t_movedTo, .ref a_t_single])), (a_t_holds, .inl (cI, 4, .inl v_t_holds)), (a_t_heldNumber, .inl (cI, 4, .inl v_t_heldNumber)), (a_t_rule, .inl (cI, 24, .inl v_t_rule))] [(a_t, .inr (7, [.ref a_t_stand, .ref a_t_on, .ref a_t_marks, .int s_t_villages, .int s_t_held, .ref a_t_rule, .int s_t_z, .ref a_t_tape, .int s_t_tapeMany, .int s_t_sort, .int s_t_begins, .int s_t_tokenEnds, .long s_t_word, .int s_t_value, .int s_t_good, .int s_t_freshVillages, .int s_t_freshHeld, .ref a_t_freshStand, .ref a_t_freshMarks, .ref a_t_freshRule, .ref a_t_shares, .ref a_t_said, .ref a_t_rows, .ref a_t_must, .int s_t_rowMany, .int s_t_mustMany, .ref a_t_sorts, .ref a_t_sizes, .ref a_t_sheets, .ref a_t_holds, .ref a_t_heldNumber, .ref a_t_heldSize, .int s_t_kind, .int s_t_number, .int s_t_own, .ref a_t_traced, .int s_t_bodies, .int s_t_isParted, .int s_t_isKept, .ref a_t_keptRow, .int s_t_movedTo, .ref a_t_single])), (a_t_holds, .inl (cI, 4, .inl v_t_holds)), (a_t_heldNumber, .inl (cI, 4, .inl v_t_heldNumber)), (a_t_rule, .inl (cI, 24, .inl v_t_rule))] r := by
  refine xMi.mk (own := "FairNextModel") (by decide +kernel) rfl (Nat.le_of_ble_eq_true rfl) ?_
  intro p e s m args below meth c A Q ls H hfix hK hP hD hA hS hl hEnd
  obtain ⟨hx, hb, hml, hown, hts⟩ := id hfix
  have hl : lv_has ls 2 [(0, .ref a_t), (1, .int i1)] := hl
  rw [f_X7_kindOn] at hF
  refine lv_aload_n hx hb dX7_kindOn_0 rfl (lv_at hl 0 rfl) ?_
  refine xget (ci := 7) (C := RX7) (T := TX7) (N := 42) hfix xiX7 hK.1 hP 0 rfl rfl 29 (by decide) rfl xw_717 rfl dX7_kindOn_1 ?_
  refine lv_iload_n hx hb dX7_kindOn_4 rfl (lv_at hl 1 rfl) ?_
  obtain ⟨c_1, hF⟩ := gd_e hF
  refine va_iald hx hb hK.1 hP 1 0 rfl rfl c_1 dX7_kindOn_5 ?_
  refine lv_if_eq (tgt := 25) hx hb dX7_kindOn_6 (by decide) (fun c_2 => ?_) (fun c_2 => ?_)
  · replace hF := if_t c_2 hF
    refine lv_aload_n hx hb dX7_kindOn_25 rfl (lv_at hl 0 rfl) ?_
    refine lv_aload_n hx hb dX7_kindOn_26 rfl (lv_at hl 0 rfl) ?_
    refine xget (ci := 7) (C := RX7) (T := TX7) (N := 42) hfix xiX7 hK.1 hP 0 rfl rfl 30 (by decide) rfl xw_718 rfl dX7_kindOn_27 ?_
    refine lv_iload_n hx hb dX7_kindOn_30 rfl (lv_at hl 1 rfl) ?_
    obtain ⟨c_3, hF⟩ := gd_e hF
    refine va_iald hx hb hK.1 hP 2 0 rfl rfl c_3 dX7_kindOn_31 ?_
    refine xrz0 (xrunV (As := [.int (v_t_heldNumber i1.toNatClampNeg)]) (rest := []) (c_X7_isHeldRule l D cI cB cJ a_t a_t_stand a_t_on a_t_marks a_t_rule a_t_tape a_t_freshStand a_t_freshMarks a_t_freshRule a_t_shares a_t_said a_t_rows a_t_must a_t_sorts a_t_sizes a_t_sheets a_t_holds a_t_heldNumber a_t_heldSize a_t_traced a_t_keptRow a_t_single _ s_t_villages s_t_held s_t_z s_t_tapeMany s_t_sort s_t_begins s_t_tokenEnds s_t_word s_t_value s_t_good s_t_freshVillages s_t_freshHeld s_t_rowMany s_t_mustMany s_t_kind s_t_number s_t_own s_t_bodies s_t_isParted s_t_isKept s_t_movedTo (v_t_heldNumber i1.toNatClampNeg) (f_X7_isHeldRule (v_t_heldNumber i1.toNatClampNeg) s_t_held) rfl) hfix xw_921 yv_X7_isHeldRule ⟨rfl, rfl⟩ ⟨(Nat.le_of_ble_eq_true rfl), (Nat.le_of_ble_eq_true rfl)⟩ xKk_K (fun U hU hW => xK.warm hW hK) hK.1 hP hD [0] rfl rfl 0 7 rfl rfl rfl rfl hl.1 rfl (Nat.le_of_ble_eq_true rfl) dX7_kindOn_32 ⟨Nat.zero_le _, Nat.zero_le _⟩) hP hD hS hA [0] rfl rfl (fun H locs hP hD hS hz_4 => ?_)
    refine lv_if_eq (tgt := 52) hx hb dX7_kindOn_35 (by decide) (fun c_5 => ?_) (fun c_5 => ?_)
    · replace hF := if_t c_5 hF
      refine lv_iconst (v := (-1 : Int32)) hx hb dX7_kindOn_52 (by decide) ?_
      obtain rfl := Option.some.inj hF
      exact hEnd _ _ _ _ _ dX7_kindOn_53 hP hS rfl
    · replace hF := if_f c_5 hF
      refine lv_aload_n hx hb dX7_kindOn_38 rfl (lv_at hl 0 rfl) ?_
      refine lv_aload_n hx hb dX7_kindOn_39 rfl (lv_at hl 0 rfl) ?_
      refine xget (ci := 7) (C := RX7) (T := TX7) (N := 42) hfix xiX7 hK.1 hP 0 rfl rfl 30 (by decide) rfl xw_718 rfl dX7_kindOn_40 ?_
      refine lv_iload_n hx hb dX7_kindOn_43 rfl (lv_at hl 1 rfl) ?_
      obtain ⟨c_6, hF⟩ := gd_e hF
      refine va_iald hx hb hK.1 hP 2 0 rfl rfl c_6 dX7_kindOn_44 ?_
      refine lv_iconst (v := (0 : Int32)) hx hb dX7_kindOn_45 (by decide) ?_
      obtain ⟨r_7, hq_8, hF⟩ := bd1_e hF
      refine xri0 (xrunV (As := [.int (v_t_heldNumber i1.toNatClampNeg), .int (0 : Int32)]) (rest := []) (c_X7_of l D cI cB cJ a_t a_t_stand a_t_on a_t_marks a_t_rule a_t_tape a_t_freshStand a_t_freshMarks a_t_freshRule a_t_shares a_t_said a_t_rows a_t_must a_t_sorts a_t_sizes a_t_sheets a_t_holds a_t_heldNumber a_t_heldSize a_t_traced a_t_keptRow a_t_single _ s_t_villages s_t_held s_t_z s_t_tapeMany s_t_sort s_t_begins s_t_tokenEnds s_t_word s_t_value s_t_good s_t_freshVillages s_t_freshHeld s_t_rowMany s_t_mustMany s_t_kind s_t_number s_t_own s_t_bodies s_t_isParted s_t_isKept s_t_movedTo v_t_rule (v_t_heldNumber i1.toNatClampNeg) (0 : Int32) r_7 hq_8) hfix xw_925 yv_X7_of ⟨rfl, rfl⟩ ⟨(Nat.le_of_ble_eq_true rfl), (Nat.le_of_ble_eq_true rfl)⟩ xKk_K (fun U hU hW => xK.warm hW hK) hK.1 hP hD [0, 3] rfl rfl 0 7 rfl rfl rfl rfl hl.1 rfl (Nat.le_of_ble_eq_true rfl) dX7_kindOn_46 ⟨Nat.zero_le _, Nat.zero_le _⟩) hP hD hS hA [0, 3] rfl rfl (fun H locs hP hD hS => ?_)
      refine lv_goto (tgt := 53) hx hb dX7_kindOn_49 (by decide) ?_
      obtain rfl := Option.some.inj hF
      exact hEnd _ _ _ _ _ dX7_kindOn_53 hP hS rfl
  · replace hF := if_f c_2 hF
    refine lv_aload_n hx hb dX7_kindOn_9 rfl (lv_at hl 0 rfl) ?_
    refine xget (ci := 7) (C := RX7) (T := TX7) (N := 42) hfix xiX7 hK.1 hP 0 rfl rfl 29 (by decide) rfl xw_717 rfl dX7_kindOn_10 ?_
    refine lv_iload_n hx hb dX7_kindOn_13 rfl (lv_at hl 1 rfl) ?_
    obtain ⟨c_9, hF⟩ := gd_e hF
    refine va_iald hx hb hK.1 hP 1 0 rfl rfl c_9 dX7_kindOn_14 ?_
    refine lv_if_ge (tgt := 22) hx hb dX7_kindOn_15 (by decide) (fun c_10 => ?_) (fun c_10 => ?_)
    · replace hF := if_t c_10 hF
      refine lv_bipush (v := (9 : Int32)) hx hb dX7_kindOn_22 (by decide) ?_
      obtain rfl := Option.some.inj hF
      exact hEnd _ _ _ _ _ dX7_kindOn_24 hP hS rfl
    · replace hF := if_f c_10 hF
      refine lv_iconst (v := (-1 : Int32)) hx hb dX7_kindOn_18 (by decide) ?_
      refine lv_goto (tgt := 24) hx hb dX7_kindOn_19 (by decide) ?_
      obtain rfl := Option.some.inj hF
      exact hEnd _ _ _ _ _ dX7_kindOn_24 hP hS rfl
def f_X7_isUnder (i1 : Int32) (i2 : Int32) : Int32 := (if i2 = (0 : Int32) then ((1 : Int32)) else (if i2 = i1 then ((1 : Int32)) else (if i2 = (1 : Int32) then (if i1 = (4 : Int32) then ((1 : Int32)) else (if i1 = (2 : Int32) then ((1 : Int32)) else (if i1 = (5 : Int32) then ((1 : Int32)) else (if i2 = (2 : Int32) then (if i1 = (5 : Int32) then ((1 : Int32)) else ((0 : Int32))) else ((0 : Int32)))))) else (if i2 = (2 : Int32) then (if i1 = (5 : Int32) then ((1 : Int32)) else ((0 : Int32))) else ((0 : Int32))))))
abbrev rmX7_isUnder : Room := { frames := 0, cells := 0, slots := 0, locals := 0 }
set_option maxHeartbeats 400000 in
set_option maxRecDepth 100000 in
theorem c_X7_isUnder (l : Launch) (D : va_G) (cI cB cJ : ClassId) (sz : Nat) (i1 : Int32) (i2 : Int32) (r : Int32) (hF : f_X7_isUnder i1 i2 = r) : xMz l yX7_isUnder (.code yX7_isUnder cX7_isUnder 2 (some .boolean) :: xU) rmX7_isUnder (xK D cI cB cJ) D sz [.int i1, .int i2] [] [] r := by
  refine xMz.mk (own := "FairNextModel") (by decide +kernel) rfl (Nat.le_of_ble_eq_true rfl) ?_
  intro p e s m args below meth c A Q ls H hfix hK hP hD hA hS hl hEnd
  obtain ⟨hx, hb, hml, hown, hts⟩ := id hfix
  have hl : lv_has ls 2 [(0, .int i1), (1, .int i2)] := hl
  rw [f_X7_isUnder] at hF
  refine lv_iload_n hx hb dX7_isUnder_0 rfl (lv_at hl 1 rfl) ?_
  refine lv_if_eq (tgt := 39) hx hb dX7_isUnder_1 (by decide) (fun c_1 => ?_) (fun c_1 => ?_)
  · replace hF := if_t c_1 hF
    refine lv_iconst (v := (1 : Int32)) hx hb dX7_isUnder_39 (by decide) ?_
    refine lv_goto (tgt := 44) hx hb dX7_isUnder_40 (by decide) ?_
    subst hF
    exact hEnd _ _ _ _ _ dX7_isUnder_44 hP hS x01_1 rfl
  · replace hF := if_f c_1 hF
    refine lv_iload_n hx hb dX7_isUnder_4 rfl (lv_at hl 1 rfl) ?_
    refine lv_iload_n hx hb dX7_isUnder_5 rfl (lv_at hl 0 rfl) ?_
    refine lv_icmp_eq (tgt := 39) hx hb dX7_isUnder_6 (by decide) (fun c_2 => ?_) (fun c_2 => ?_)
    · replace hF := if_t c_2 hF
      refine lv_iconst (v := (1 : Int32)) hx hb dX7_isUnder_39 (by decide) ?_
      refine lv_goto (tgt := 44) hx hb dX7_isUnder_40 (by decide) ?_
      subst hF
      exact hEnd _ _ _ _ _ dX7_isUnder_44 hP hS x01_1 rfl
    · replace hF := if_f c_2 hF
      refine lv_iload_n hx hb dX7_isUnder_9 rfl (lv_at hl 1 rfl) ?_
      refine lv_iconst (v := (1 : Int32)) hx hb dX7_isUnder_10 (by decide) ?_
      refine lv_icmp_ne (tgt := 29) hx hb dX7_isUnder_11 (by decide) (fun c_3 => ?_) (fun c_3 => ?_)
      · replace hF := if_f c_3 hF
        refine lv_iload_n hx hb dX7_isUnder_29 rfl (lv_at hl 1 rfl) ?_
        refine lv_iconst (v := (2 : Int32)) hx hb dX7_isUnder_30 (by decide) ?_
        refine lv_icmp_ne (tgt := 43) hx hb dX7_isUnder_31 (by decide) (fun c_4 => ?_) (fun c_4 => ?_)
        · replace hF := if_f c_4 hF
          refine lv_iconst (v := (0 : Int32)) hx hb dX7_isUnder_43 (by decide) ?_
          subst hF
          exact hEnd _ _ _ _ _ dX7_isUnder_44 hP hS x01_0 rfl
        · replace hF := if_t c_4 hF
          refine lv_iload_n hx hb dX7_isUnder_34 rfl (lv_at hl 0 rfl) ?_
          refine lv_iconst (v := (5 : Int32)) hx hb dX7_isUnder_35 (by decide) ?_
          refine lv_icmp_ne (tgt := 43) hx hb dX7_isUnder_36 (by decide) (fun c_5 => ?_) (fun c_5 => ?_)
          · replace hF := if_f c_5 hF
            refine lv_iconst (v := (0 : Int32)) hx hb dX7_isUnder_43 (by decide) ?_
            subst hF
            exact hEnd _ _ _ _ _ dX7_isUnder_44 hP hS x01_0 rfl
          · replace hF := if_t c_5 hF
            refine lv_iconst (v := (1 : Int32)) hx hb dX7_isUnder_39 (by decide) ?_
            refine lv_goto (tgt := 44) hx hb dX7_isUnder_40 (by decide) ?_
            subst hF
            exact hEnd _ _ _ _ _ dX7_isUnder_44 hP hS x01_1 rfl
      · replace hF := if_t c_3 hF
        refine lv_iload_n hx hb dX7_isUnder_14 rfl (lv_at hl 0 rfl) ?_
        refine lv_iconst (v := (4 : Int32)) hx hb dX7_isUnder_15 (by decide) ?_
        refine lv_icmp_eq (tgt := 39) hx hb dX7_isUnder_16 (by decide) (fun c_6 => ?_) (fun c_6 => ?_)
        · replace hF := if_t c_6 hF
          refine lv_iconst (v := (1 : Int32)) hx hb dX7_isUnder_39 (by decide) ?_
          refine lv_goto (tgt := 44) hx hb dX7_isUnder_40 (by decide) ?_
          subst hF
          exact hEnd _ _ _ _ _ dX7_isUnder_44 hP hS x01_1 rfl
        · replace hF := if_f c_6 hF
          refine lv_iload_n hx hb dX7_isUnder_19 rfl (lv_at hl 0 rfl) ?_
          refine lv_iconst (v := (2 : Int32)) hx hb dX7_isUnder_20 (by decide) ?_
          refine lv_icmp_eq (tgt := 39) hx hb dX7_isUnder_21 (by decide) (fun c_7 => ?_) (fun c_7 => ?_)
          · replace hF := if_t c_7 hF
            refine lv_iconst (v := (1 : Int32)) hx hb dX7_isUnder_39 (by decide) ?_
            refine lv_goto (tgt := 44) hx hb dX7_isUnder_40 (by decide) ?_
            subst hF
            exact hEnd _ _ _ _ _ dX7_isUnder_44 hP hS x01_1 rfl
          · replace hF := if_f c_7 hF
            refine lv_iload_n hx hb dX7_isUnder_24 rfl (lv_at hl 0 rfl) ?_
            refine lv_iconst (v := (5 : Int32)) hx hb dX7_isUnder_25 (by decide) ?_
            refine lv_icmp_eq (tgt := 39) hx hb dX7_isUnder_26 (by decide) (fun c_8 => ?_) (fun c_8 => ?_)
            · replace hF := if_t c_8 hF
              refine lv_iconst (v := (1 : Int32)) hx hb dX7_isUnder_39 (by decide) ?_
              refine lv_goto (tgt := 44) hx hb dX7_isUnder_40 (by decide) ?_
              subst hF
              exact hEnd _ _ _ _ _ dX7_isUnder_44 hP hS x01_1 rfl
            · replace hF := if_f c_8 hF
              refine lv_iload_n hx hb dX7_isUnder_29 rfl (lv_at hl 1 rfl) ?_
              refine lv_iconst (v := (2 : Int32)) hx hb dX7_isUnder_30 (by decide) ?_
              refine lv_icmp_ne (tgt := 43) hx hb dX7_isUnder_31 (by decide) (fun c_9 => ?_) (fun c_9 => ?_)
              · replace hF := if_f c_9 hF
                refine lv_iconst (v := (0 : Int32)) hx hb dX7_isUnder_43 (by decide) ?_
                subst hF
                exact hEnd _ _ _ _ _ dX7_isUnder_44 hP hS x01_0 rfl
              · replace hF := if_t c_9 hF
                refine lv_iload_n hx hb dX7_isUnder_34 rfl (lv_at hl 0 rfl) ?_
                refine lv_iconst (v := (5 : Int32)) hx hb dX7_isUnder_35 (by decide) ?_
                refine lv_icmp_ne (tgt := 43) hx hb dX7_isUnder_36 (by decide) (fun c_10 => ?_) (fun c_10 => ?_)
                · replace hF := if_f c_10 hF
                  refine lv_iconst (v := (0 : Int32)) hx hb dX7_isUnder_43 (by decide) ?_
                  subst hF
                  exact hEnd _ _ _ _ _ dX7_isUnder_44 hP hS x01_0 rfl
                · replace hF := if_t c_10 hF
                  refine lv_iconst (v := (1 : Int32)) hx hb dX7_isUnder_39 (by decide) ?_
                  refine lv_goto (tgt := 44) hx hb dX7_isUnder_40 (by decide) ?_
                  subst hF
                  exact hEnd _ _ _ _ _ dX7_isUnder_44 hP hS x01_1 rfl
def f_X7_taken (i1 : Int32) (i2 : Int32) (s_t_held : Int32) (v_t_holds : (Nat → Int32)) (v_t_heldNumber : (Nat → Int32)) (v_t_rule : (Nat → Int32)) (v_t_heldSize : (Nat → Int32)) : Option (Int32) := (if (f_X7_isShelf i1) = (0 : Int32) then some ((-1 : Int32)) else (if (f_X7_in i2 (0 : Int32) (5 : Int32)) = (0 : Int32) then (if (f_X7_in i2 (10 : Int32) (13 : Int32)) = (0 : Int32) then some ((-1 : Int32)) else bd1 (f_X7_kindOn i1 s_t_held v_t_holds v_t_heldNumber v_t_rule) (fun (r_18 : Int32) => (if (0 : Int32) ≤ r_18 then (if r_18 = (9 : Int32) then gd i1 4 ((if i2 = ((10 : Int32) + (v_t_heldNumber i1.toNatClampNeg)) then gd i1 4 (some ((v_t_heldSize i1.toNatClampNeg))) else some ((-13 : Int32)))) else (if (10 : Int32) ≤ i2 then some ((-13 : Int32)) else (if (f_X7_isUnder r_18 i2) = (0 : Int32) then some ((-13 : Int32)) else gd i1 4 (some ((v_t_heldNumber i1.toNatClampNeg)))))) else some ((-11 : Int32))))) else bd1 (f_X7_kindOn i1 s_t_held v_t_holds v_t_heldNumber v_t_rule) (fun (r_5 : Int32) => (if (0 : Int32) ≤ r_5 then (if r_5 = (9 : Int32) then gd i1 4 ((if i2 = ((10 : Int32) + (v_t_heldNumber i1.toNatClampNeg)) then gd i1 4 (some ((v_t_heldSize i1.toNatClampNeg))) else some ((-13 : Int32)))) else (if (10 : Int32) ≤ i2 then some ((-13 : Int32)) else (if (f_X7_isUnder r_5 i2) = (0 : Int32) then some ((-13 : Int32)) else gd i1 4 (some ((v_t_heldNumber i1.toNatClampNeg)))))) else some ((-11 : Int32))))))
abbrev rmX7_taken : Room := { frames := 3, cells := 0, slots := 0, locals := 64 }
set_option maxHeartbeats 400000 in
set_option maxRecDepth 100000 in
theorem c_X7_taken (l : Launch) (D : va_G) (cI cB cJ : ClassId) (a_t : Nat) (a_t_stand : Nat) (a_t_on : Nat) (a_t_marks : Nat) (a_t_rule : Nat) (a_t_tape : Nat) (a_t_freshStand : Nat) (a_t_freshMarks : Nat) (a_t_freshRule : Nat) (a_t_shares : Nat) (a_t_said : Nat) (a_t_rows : Nat) (a_t_must : Nat) (a_t_sorts : Nat) (a_t_sizes : Nat) (a_t_sheets : Nat) (a_t_holds : Nat) (a_t_heldNumber : Nat) (a_t_heldSize : Nat) (a_t_traced : Nat) (a_t_keptRow : Nat) (a_t_single : Nat) (sz : Nat) (s_t_villages : Int32) (s_t_held : Int32) (s_t_z : Int32) (s_t_tapeMany : Int32) (s_t_sort : Int32) (s_t_begins : Int32) (s_t_tokenEnds : Int32) (s_t_word : Int64) (s_t_value : Int32) (s_t_good : Int32) (s_t_freshVillages : Int32) (s_t_freshHeld : Int32) (s_t_rowMany : Int32) (s_t_mustMany : Int32) (s_t_kind : Int32) (s_t_number : Int32) (s_t_own : Int32) (s_t_bodies : Int32) (s_t_isParted : Int32) (s_t_isKept : Int32) (s_t_movedTo : Int32) (v_t_holds : (Nat → Int32)) (v_t_heldNumber : (Nat → Int32)) (v_t_rule : (Nat → Int32)) (v_t_heldSize : (Nat → Int32)) (i1 : Int32) (i2 : Int32) (r : Int32) (hF : f_X7_taken i1 i2 s_t_held v_t_holds v_t_heldNumber v_t_rule v_t_heldSize = some r) : xMi l yX7_taken (.code yX7_taken cX7_taken 4 (some .int) :: xU) rmX7_taken (xK D cI cB cJ) D sz [.ref a_t, .int i1, .int i2] [(a_t, .inr (7, [.ref a_t_stand, .ref a_t_on, .ref a_t_marks, .int s_t_villages, .int s_t_held, .ref a_t_rule, .int s_t_z, .ref a_t_tape, .int s_t_tapeMany, .int s_t_sort, .int s_t_begins, .int s_t_tokenEnds, .long s_t_word, .int s_t_value, .int s_t_good, .int s_t_freshVillages, .int s_t_freshHeld, .ref a_t_freshStand, .ref a_t_freshMarks, .ref a_t_freshRule, .ref a_t_shares, .ref a_t_said, .ref a_t_rows, .ref a_t_must, .int s_t_rowMany, .int s_t_mustMany, .ref a_t_sorts, .ref a_t_sizes, .ref a_t_sheets, .ref a_t_holds, .ref a_t_heldNumber, .ref a_t_heldSize, .int s_t_kind, .int s_t_number, .int s_t_own, .ref a_t_traced, .int s_t_bodies, .int s_t_isParted, .int s_t_isKept, .ref a_t_keptRow, .int s_t_movedTo, .ref a_t_single])), (a_t_holds, .inl (cI, 4, .inl v_t_holds)), (a_t_heldNumber, .inl (cI, 4, .inl v_t_heldNumber)), (a_t_rule, .inl (cI, 24, .inl v_t_rule)), (a_t_heldSize, .inl (cI, 4, .inl v_t_heldSize))] [(a_t, .inr (7, [.ref a_t_stand, .ref a_t_on, .ref a_t_marks, .int s_t_villages, .int s_t_held, .ref a_t_rule, .int s_t_z, .ref a_t_tape, .int s_t_tapeMany, .int s_t_sort, .int s_t_begins, .int s_t_tokenEnds, .long s_t_word, .int s_t_value, .int s_t_good, .int s_t_freshVillages, .int s_t_freshHeld, .ref a_t_freshStand, .ref a_t_freshMarks, .ref a_t_freshRule, .ref a_t_shares, .ref a_t_said, .ref a_t_rows, .ref a_t_must, .int s_t_rowMany, .int s_t_mustMany, .ref a_t_sorts, .ref a_t_sizes, .ref a_t_sheets, .ref a_t_holds, .ref a_t_heldNumber, .ref a_t_heldSize, .int s_t_kind, .int s_t_number, .int s_t_own, .ref a_t_traced, .int s_t_bodies, .int s_t_isParted, .int s_t_isKept, .ref a_t_keptRow, .int s_t_movedTo, .ref a_t_single])), (a_t_holds, .inl (cI, 4, .inl v_t_holds)), (a_t_heldNumber, .inl (cI, 4, .inl v_t_heldNumber)), (a_t_rule, .inl (cI, 24, .inl v_t_rule)), (a_t_heldSize, .inl (cI, 4, .inl v_t_heldSize))] r := by
  refine xMi.mk (own := "FairNextModel") (by decide +kernel) rfl (Nat.le_of_ble_eq_true rfl) ?_
  intro p e s m args below meth c A Q ls H hfix hK hP hD hA hS hl hEnd
  obtain ⟨hx, hb, hml, hown, hts⟩ := id hfix
  have hl : lv_has ls 4 [(0, .ref a_t), (1, .int i1), (2, .int i2)] := hl
  rw [f_X7_taken] at hF
  refine lv_iload_n hx hb dX7_taken_0 rfl (lv_at hl 1 rfl) ?_
  refine xrz0 (xrunS (As := [.int i1]) (rest := []) (c_X7_isShelf l D cI cB cJ _ i1 (f_X7_isShelf i1) rfl) hfix xw_1099 ys_X7_isShelf ⟨rfl, rfl⟩ ⟨(Nat.le_of_ble_eq_true rfl), (Nat.le_of_ble_eq_true rfl)⟩ xKk_K (fun U hU hW => xK.warm hW hK) hP hD [] rfl rfl rfl hl.1 rfl (Nat.le_of_ble_eq_true rfl) dX7_taken_1 ⟨Nat.zero_le _, Nat.zero_le _⟩) hP hD hS hA [] rfl rfl (fun H locs hP hD hS hz_1 => ?_)
  refine lv_if_eq (tgt := 27) hx hb dX7_taken_4 (by decide) (fun c_2 => ?_) (fun c_2 => ?_)
  · replace hF := if_t c_2 hF
    refine lv_iconst (v := (-1 : Int32)) hx hb dX7_taken_27 (by decide) ?_
    obtain rfl := Option.some.inj hF
    exact hEnd _ _ _ _ _ dX7_taken_28 hP hS rfl
  · replace hF := if_f c_2 hF
    refine lv_iload_n hx hb dX7_taken_7 rfl (lv_at hl 2 rfl) ?_
    refine lv_iconst (v := (0 : Int32)) hx hb dX7_taken_8 (by decide) ?_
    refine lv_iconst (v := (5 : Int32)) hx hb dX7_taken_9 (by decide) ?_
    refine xrz0 (xrunS (As := [.int i2, .int (0 : Int32), .int (5 : Int32)]) (rest := []) (c_X7_in l D cI cB cJ _ i2 (0 : Int32) (5 : Int32) (f_X7_in i2 (0 : Int32) (5 : Int32)) rfl) hfix xw_819 ys_X7_in ⟨rfl, rfl⟩ ⟨(Nat.le_of_ble_eq_true rfl), (Nat.le_of_ble_eq_true rfl)⟩ xKk_K (fun U hU hW => xK.warm hW hK) hP hD [] rfl rfl rfl hl.1 rfl (Nat.le_of_ble_eq_true rfl) dX7_taken_10 ⟨Nat.zero_le _, Nat.zero_le _⟩) hP hD hS hA [] rfl rfl (fun H locs hP hD hS hz_3 => ?_)
    refine lv_if_ne (tgt := 29) hx hb dX7_taken_13 (by decide) (fun c_4 => ?_) (fun c_4 => ?_)
    · replace hF := if_f c_4 hF
      refine lv_aload_n hx hb dX7_taken_29 rfl (lv_at hl 0 rfl) ?_
      refine lv_iload_n hx hb dX7_taken_30 rfl (lv_at hl 1 rfl) ?_
      obtain ⟨r_5, hq_6, hF⟩ := bd1_e hF
      refine xri0 (xrunV (As := [.int i1]) (rest := []) (c_X7_kindOn l D cI cB cJ a_t a_t_stand a_t_on a_t_marks a_t_rule a_t_tape a_t_freshStand a_t_freshMarks a_t_freshRule a_t_shares a_t_said a_t_rows a_t_must a_t_sorts a_t_sizes a_t_sheets a_t_holds a_t_heldNumber a_t_heldSize a_t_traced a_t_keptRow a_t_single _ s_t_villages s_t_held s_t_z s_t_tapeMany s_t_sort s_t_begins s_t_tokenEnds s_t_word s_t_value s_t_good s_t_freshVillages s_t_freshHeld s_t_rowMany s_t_mustMany s_t_kind s_t_number s_t_own s_t_bodies s_t_isParted s_t_isKept s_t_movedTo v_t_holds v_t_heldNumber v_t_rule i1 r_5 hq_6) hfix xw_1131 yv_X7_kindOn ⟨rfl, rfl⟩ ⟨(Nat.le_of_ble_eq_true rfl), (Nat.le_of_ble_eq_true rfl)⟩ xKk_K (fun U hU hW => xK.warm hW hK) hK.1 hP hD [0, 1, 2, 3] rfl rfl 0 7 rfl rfl rfl rfl hl.1 rfl (Nat.le_of_ble_eq_true rfl) dX7_taken_31 ⟨Nat.zero_le _, Nat.zero_le _⟩) hP hD hS hA [0, 1, 2, 3] rfl rfl (fun H locs hP hD hS => ?_)
      refine lv_istore_n (lv' := [(3, .int r_5), (0, .ref a_t), (1, .int i1), (2, .int i2)]) hx hb dX7_taken_34 rfl hl (by decide) rfl (fun ls hl => ?_)
      refine lv_iload_n hx hb dX7_taken_35 rfl (lv_at hl 0 rfl) ?_
      refine lv_if_ge (tgt := 42) hx hb dX7_taken_36 (by decide) (fun c_7 => ?_) (fun c_7 => ?_)
      · replace hF := if_t c_7 hF
        refine lv_iload_n hx hb dX7_taken_42 rfl (lv_at hl 0 rfl) ?_
        refine lv_bipush (v := (9 : Int32)) hx hb dX7_taken_43 (by decide) ?_
        refine lv_icmp_ne (tgt := 73) hx hb dX7_taken_45 (by decide) (fun c_8 => ?_) (fun c_8 => ?_)
        · replace hF := if_f c_8 hF
          refine lv_iload_n hx hb dX7_taken_73 rfl (lv_at hl 3 rfl) ?_
          refine lv_bipush (v := (10 : Int32)) hx hb dX7_taken_74 (by decide) ?_
          refine lv_icmp_ge (tgt := 96) hx hb dX7_taken_76 (by decide) (fun c_9 => ?_) (fun c_9 => ?_)
          · replace hF := if_t c_9 hF
            refine lv_bipush (v := (-13 : Int32)) hx hb dX7_taken_96 (by decide) ?_
            obtain rfl := Option.some.inj hF
            exact hEnd _ _ _ _ _ dX7_taken_98 hP hS rfl
          · replace hF := if_f c_9 hF
            refine lv_iload_n hx hb dX7_taken_79 rfl (lv_at hl 0 rfl) ?_
            refine lv_iload_n hx hb dX7_taken_80 rfl (lv_at hl 3 rfl) ?_
            refine xrz0 (xrunS (As := [.int r_5, .int i2]) (rest := []) (c_X7_isUnder l D cI cB cJ _ r_5 i2 (f_X7_isUnder r_5 i2) rfl) hfix xw_1135 ys_X7_isUnder ⟨rfl, rfl⟩ ⟨(Nat.le_of_ble_eq_true rfl), (Nat.le_of_ble_eq_true rfl)⟩ xKk_K (fun U hU hW => xK.warm hW hK) hP hD [] rfl rfl rfl hl.1 rfl (Nat.le_of_ble_eq_true rfl) dX7_taken_81 ⟨Nat.zero_le _, Nat.zero_le _⟩) hP hD hS hA [] rfl rfl (fun H locs hP hD hS hz_10 => ?_)
            refine lv_if_eq (tgt := 96) hx hb dX7_taken_84 (by decide) (fun c_11 => ?_) (fun c_11 => ?_)
            · replace hF := if_t c_11 hF
              refine lv_bipush (v := (-13 : Int32)) hx hb dX7_taken_96 (by decide) ?_
              obtain rfl := Option.some.inj hF
              exact hEnd _ _ _ _ _ dX7_taken_98 hP hS rfl
            · replace hF := if_f c_11 hF
              refine lv_aload_n hx hb dX7_taken_87 rfl (lv_at hl 1 rfl) ?_
              refine xget (ci := 7) (C := RX7) (T := TX7) (N := 42) hfix xiX7 hK.1 hP 0 rfl rfl 30 (by decide) rfl xw_718 rfl dX7_taken_88 ?_
              refine lv_iload_n hx hb dX7_taken_91 rfl (lv_at hl 2 rfl) ?_
              obtain ⟨c_12, hF⟩ := gd_e hF
              refine va_iald hx hb hK.1 hP 2 0 rfl rfl c_12 dX7_taken_92 ?_
              refine lv_goto (tgt := 98) hx hb dX7_taken_93 (by decide) ?_
              obtain rfl := Option.some.inj hF
              exact hEnd _ _ _ _ _ dX7_taken_98 hP hS rfl
        · replace hF := if_t c_8 hF
          refine lv_iload_n hx hb dX7_taken_48 rfl (lv_at hl 3 rfl) ?_
          refine lv_bipush (v := (10 : Int32)) hx hb dX7_taken_49 (by decide) ?_
          refine lv_aload_n hx hb dX7_taken_51 rfl (lv_at hl 1 rfl) ?_
          refine xget (ci := 7) (C := RX7) (T := TX7) (N := 42) hfix xiX7 hK.1 hP 0 rfl rfl 30 (by decide) rfl xw_718 rfl dX7_taken_52 ?_
          refine lv_iload_n hx hb dX7_taken_55 rfl (lv_at hl 2 rfl) ?_
          obtain ⟨c_13, hF⟩ := gd_e hF
          refine va_iald hx hb hK.1 hP 2 0 rfl rfl c_13 dX7_taken_56 ?_
          refine lv_iadd hx hb dX7_taken_57 ?_
          refine lv_icmp_ne (tgt := 70) hx hb dX7_taken_58 (by decide) (fun c_14 => ?_) (fun c_14 => ?_)
          · replace hF := if_f c_14 hF
            refine lv_bipush (v := (-13 : Int32)) hx hb dX7_taken_70 (by decide) ?_
            obtain rfl := Option.some.inj hF
            exact hEnd _ _ _ _ _ dX7_taken_72 hP hS rfl
          · replace hF := if_t c_14 hF
            refine lv_aload_n hx hb dX7_taken_61 rfl (lv_at hl 1 rfl) ?_
            refine xget (ci := 7) (C := RX7) (T := TX7) (N := 42) hfix xiX7 hK.1 hP 0 rfl rfl 31 (by decide) rfl xw_719 rfl dX7_taken_62 ?_
            refine lv_iload_n hx hb dX7_taken_65 rfl (lv_at hl 2 rfl) ?_
            obtain ⟨c_15, hF⟩ := gd_e hF
            refine va_iald hx hb hK.1 hP 4 0 rfl rfl c_15 dX7_taken_66 ?_
            refine lv_goto (tgt := 72) hx hb dX7_taken_67 (by decide) ?_
            obtain rfl := Option.some.inj hF
            exact hEnd _ _ _ _ _ dX7_taken_72 hP hS rfl
      · replace hF := if_f c_7 hF
        refine lv_bipush (v := (-11 : Int32)) hx hb dX7_taken_39 (by decide) ?_
        obtain rfl := Option.some.inj hF
        exact hEnd _ _ _ _ _ dX7_taken_41 hP hS rfl
    · replace hF := if_t c_4 hF
      refine lv_iload_n hx hb dX7_taken_16 rfl (lv_at hl 2 rfl) ?_
      refine lv_bipush (v := (10 : Int32)) hx hb dX7_taken_17 (by decide) ?_
      refine lv_bipush (v := (13 : Int32)) hx hb dX7_taken_19 (by decide) ?_
      refine xrz0 (xrunS (As := [.int i2, .int (10 : Int32), .int (13 : Int32)]) (rest := []) (c_X7_in l D cI cB cJ _ i2 (10 : Int32) (13 : Int32) (f_X7_in i2 (10 : Int32) (13 : Int32)) rfl) hfix xw_819 ys_X7_in ⟨rfl, rfl⟩ ⟨(Nat.le_of_ble_eq_true rfl), (Nat.le_of_ble_eq_true rfl)⟩ xKk_K (fun U hU hW => xK.warm hW hK) hP hD [] rfl rfl rfl hl.1 rfl (Nat.le_of_ble_eq_true rfl) dX7_taken_21 ⟨Nat.zero_le _, Nat.zero_le _⟩) hP hD hS hA [] rfl rfl (fun H locs hP hD hS hz_16 => ?_)
      refine lv_if_ne (tgt := 29) hx hb dX7_taken_24 (by decide) (fun c_17 => ?_) (fun c_17 => ?_)
      · replace hF := if_f c_17 hF
        refine lv_aload_n hx hb dX7_taken_29 rfl (lv_at hl 0 rfl) ?_
        refine lv_iload_n hx hb dX7_taken_30 rfl (lv_at hl 1 rfl) ?_
        obtain ⟨r_18, hq_19, hF⟩ := bd1_e hF
        refine xri0 (xrunV (As := [.int i1]) (rest := []) (c_X7_kindOn l D cI cB cJ a_t a_t_stand a_t_on a_t_marks a_t_rule a_t_tape a_t_freshStand a_t_freshMarks a_t_freshRule a_t_shares a_t_said a_t_rows a_t_must a_t_sorts a_t_sizes a_t_sheets a_t_holds a_t_heldNumber a_t_heldSize a_t_traced a_t_keptRow a_t_single _ s_t_villages s_t_held s_t_z s_t_tapeMany s_t_sort s_t_begins s_t_tokenEnds s_t_word s_t_value s_t_good s_t_freshVillages s_t_freshHeld s_t_rowMany s_t_mustMany s_t_kind s_t_number s_t_own s_t_bodies s_t_isParted s_t_isKept s_t_movedTo v_t_holds v_t_heldNumber v_t_rule i1 r_18 hq_19) hfix xw_1131 yv_X7_kindOn ⟨rfl, rfl⟩ ⟨(Nat.le_of_ble_eq_true rfl), (Nat.le_of_ble_eq_true rfl)⟩ xKk_K (fun U hU hW => xK.warm hW hK) hK.1 hP hD [0, 1, 2, 3] rfl rfl 0 7 rfl rfl rfl rfl hl.1 rfl (Nat.le_of_ble_eq_true rfl) dX7_taken_31 ⟨Nat.zero_le _, Nat.zero_le _⟩) hP hD hS hA [0, 1, 2, 3] rfl rfl (fun H locs hP hD hS => ?_)
        refine lv_istore_n (lv' := [(3, .int r_18), (0, .ref a_t), (1, .int i1), (2, .int i2)]) hx hb dX7_taken_34 rfl hl (by decide) rfl (fun ls hl => ?_)
        refine lv_iload_n hx hb dX7_taken_35 rfl (lv_at hl 0 rfl) ?_
        refine lv_if_ge (tgt := 42) hx hb dX7_taken_36 (by decide) (fun c_20 => ?_) (fun c_20 => ?_)
        · replace hF := if_t c_20 hF
          refine lv_iload_n hx hb dX7_taken_42 rfl (lv_at hl 0 rfl) ?_
          refine lv_bipush (v := (9 : Int32)) hx hb dX7_taken_43 (by decide) ?_
          refine lv_icmp_ne (tgt := 73) hx hb dX7_taken_45 (by decide) (fun c_21 => ?_) (fun c_21 => ?_)
          · replace hF := if_f c_21 hF
            refine lv_iload_n hx hb dX7_taken_73 rfl (lv_at hl 3 rfl) ?_
            refine lv_bipush (v := (10 : Int32)) hx hb dX7_taken_74 (by decide) ?_
            refine lv_icmp_ge (tgt := 96) hx hb dX7_taken_76 (by decide) (fun c_22 => ?_) (fun c_22 => ?_)
            · replace hF := if_t c_22 hF
              refine lv_bipush (v := (-13 : Int32)) hx hb dX7_taken_96 (by decide) ?_
              obtain rfl := Option.some.inj hF
              exact hEnd _ _ _ _ _ dX7_taken_98 hP hS rfl
            · replace hF := if_f c_22 hF
              refine lv_iload_n hx hb dX7_taken_79 rfl (lv_at hl 0 rfl) ?_
              refine lv_iload_n hx hb dX7_taken_80 rfl (lv_at hl 3 rfl) ?_
              refine xrz0 (xrunS (As := [.int r_18, .int i2]) (rest := []) (c_X7_isUnder l D cI cB cJ _ r_18 i2 (f_X7_isUnder r_18 i2) rfl) hfix xw_1135 ys_X7_isUnder ⟨rfl, rfl⟩ ⟨(Nat.le_of_ble_eq_true rfl), (Nat.le_of_ble_eq_true rfl)⟩ xKk_K (fun U hU hW => xK.warm hW hK) hP hD [] rfl rfl rfl hl.1 rfl (Nat.le_of_ble_eq_true rfl) dX7_taken_81 ⟨Nat.zero_le _, Nat.zero_le _⟩) hP hD hS hA [] rfl rfl (fun H locs hP hD hS hz_23 => ?_)
              refine lv_if_eq (tgt := 96) hx hb dX7_taken_84 (by decide) (fun c_24 => ?_) (fun c_24 => ?_)
              · replace hF := if_t c_24 hF
                refine lv_bipush (v := (-13 : Int32)) hx hb dX7_taken_96 (by decide) ?_
                obtain rfl := Option.some.inj hF
                exact hEnd _ _ _ _ _ dX7_taken_98 hP hS rfl
              · replace hF := if_f c_24 hF
                refine lv_aload_n hx hb dX7_taken_87 rfl (lv_at hl 1 rfl) ?_
                refine xget (ci := 7) (C := RX7) (T := TX7) (N := 42) hfix xiX7 hK.1 hP 0 rfl rfl 30 (by decide) rfl xw_718 rfl dX7_taken_88 ?_
                refine lv_iload_n hx hb dX7_taken_91 rfl (lv_at hl 2 rfl) ?_
                obtain ⟨c_25, hF⟩ := gd_e hF
                refine va_iald hx hb hK.1 hP 2 0 rfl rfl c_25 dX7_taken_92 ?_
                refine lv_goto (tgt := 98) hx hb dX7_taken_93 (by decide) ?_
                obtain rfl := Option.some.inj hF
                exact hEnd _ _ _ _ _ dX7_taken_98 hP hS rfl
          · replace hF := if_t c_21 hF
            refine lv_iload_n hx hb dX7_taken_48 rfl (lv_at hl 3 rfl) ?_
            refine lv_bipush (v := (10 : Int32)) hx hb dX7_taken_49 (by decide) ?_
            refine lv_aload_n hx hb dX7_taken_51 rfl (lv_at hl 1 rfl) ?_
            refine xget (ci := 7) (C := RX7) (T := TX7) (N := 42) hfix xiX7 hK.1 hP 0 rfl rfl 30 (by decide) rfl xw_718 rfl dX7_taken_52 ?_
            refine lv_iload_n hx hb dX7_taken_55 rfl (lv_at hl 2 rfl) ?_
            obtain ⟨c_26, hF⟩ := gd_e hF
            refine va_iald hx hb hK.1 hP 2 0 rfl rfl c_26 dX7_taken_56 ?_
            refine lv_iadd hx hb dX7_taken_57 ?_
            refine lv_icmp_ne (tgt := 70) hx hb dX7_taken_58 (by decide) (fun c_27 => ?_) (fun c_27 => ?_)
            · replace hF := if_f c_27 hF
              refine lv_bipush (v := (-13 : Int32)) hx hb dX7_taken_70 (by decide) ?_
              obtain rfl := Option.some.inj hF
              exact hEnd _ _ _ _ _ dX7_taken_72 hP hS rfl
            · replace hF := if_t c_27 hF
              refine lv_aload_n hx hb dX7_taken_61 rfl (lv_at hl 1 rfl) ?_
              refine xget (ci := 7) (C := RX7) (T := TX7) (N := 42) hfix xiX7 hK.1 hP 0 rfl rfl 31 (by decide) rfl xw_719 rfl dX7_taken_62 ?_
              refine lv_iload_n hx hb dX7_taken_65 rfl (lv_at hl 2 rfl) ?_
              obtain ⟨c_28, hF⟩ := gd_e hF
              refine va_iald hx hb hK.1 hP 4 0 rfl rfl c_28 dX7_taken_66 ?_
              refine lv_goto (tgt := 72) hx hb dX7_taken_67 (by decide) ?_
              obtain rfl := Option.some.inj hF
              exact hEnd _ _ _ _ _ dX7_taken_72 hP hS rfl
        · replace hF := if_f c_20 hF
          refine lv_bipush (v := (-11 : Int32)) hx hb dX7_taken_39 (by decide) ?_
          obtain rfl := Option.some.inj hF
          exact hEnd _ _ _ _ _ dX7_taken_41 hP hS rfl
      · replace hF := if_t c_17 hF
        refine lv_iconst (v := (-1 : Int32)) hx hb dX7_taken_27 (by decide) ?_
        obtain rfl := Option.some.inj hF
        exact hEnd _ _ _ _ _ dX7_taken_28 hP hS rfl
def f_X7_ran (i1 : Int32) (s_t_bodies : Int32) (v_t_traced : (Nat → Int32)) : Option (Int32 × (Nat → Int32)) := (if (30 : Int32) ≤ s_t_bodies then some ((s_t_bodies, v_t_traced)) else gd s_t_bodies 30 (some (((s_t_bodies + (1 : Int32)), (upd v_t_traced s_t_bodies.toNatClampNeg i1)))))
abbrev rmX7_ran : Room := { frames := 0, cells := 0, slots := 0, locals := 0 }
set_option maxHeartbeats 400000 in
set_option maxRecDepth 100000 in
theorem c_X7_ran (l : Launch) (D : va_G) (cI cB cJ : ClassId) (a_t : Nat) (a_t_stand : Nat) (a_t_on : Nat) (a_t_marks : Nat) (a_t_rule : Nat) (a_t_tape : Nat) (a_t_freshStand : Nat) (a_t_freshMarks : Nat) (a_t_freshRule : Nat) (a_t_shares : Nat) (a_t_said : Nat) (a_t_rows : Nat) (a_t_must : Nat) (a_t_sorts : Nat) (a_t_sizes : Nat) (a_t_sheets : Nat) (a_t_holds : Nat) (a_t_heldNumber : Nat) (a_t_heldSize : Nat) (a_t_traced : Nat) (a_t_keptRow : Nat) (a_t_single : Nat) (sz : Nat) (s_t_villages : Int32) (s_t_held : Int32) (s_t_z : Int32) (s_t_tapeMany : Int32) (s_t_sort : Int32) (s_t_begins : Int32) (s_t_tokenEnds : Int32) (s_t_word : Int64) (s_t_value : Int32) (s_t_good : Int32) (s_t_freshVillages : Int32) (s_t_freshHeld : Int32) (s_t_rowMany : Int32) (s_t_mustMany : Int32) (s_t_kind : Int32) (s_t_number : Int32) (s_t_own : Int32) (s_t_bodies : Int32) (s_t_isParted : Int32) (s_t_isKept : Int32) (s_t_movedTo : Int32) (v_t_traced : (Nat → Int32)) (i1 : Int32) (o_s_t_bodies : Int32) (o_v_t_traced : (Nat → Int32)) (hF : f_X7_ran i1 s_t_bodies v_t_traced = some (o_s_t_bodies, o_v_t_traced)) : xMv l yX7_ran (.code yX7_ran cX7_ran 2 none :: xU) rmX7_ran (xK D cI cB cJ) D sz [.ref a_t, .int i1] [(a_t, .inr (7, [.ref a_t_stand, .ref a_t_on, .ref a_t_marks, .int s_t_villages, .int s_t_held, .ref a_t_rule, .int s_t_z, .ref a_t_tape, .int s_t_tapeMany, .int s_t_sort, .int s_t_begins, .int s_t_tokenEnds, .long s_t_word, .int s_t_value, .int s_t_good, .int s_t_freshVillages, .int s_t_freshHeld, .ref a_t_freshStand, .ref a_t_freshMarks, .ref a_t_freshRule, .ref a_t_shares, .ref a_t_said, .ref a_t_rows, .ref a_t_must, .int s_t_rowMany, .int s_t_mustMany, .ref a_t_sorts, .ref a_t_sizes, .ref a_t_sheets, .ref a_t_holds, .ref a_t_heldNumber, .ref a_t_heldSize, .int s_t_kind, .int s_t_number, .int s_t_own, .ref a_t_traced, .int s_t_bodies, .int s_t_isParted, .int s_t_isKept, .ref a_t_keptRow, .int s_t_movedTo, .ref a_t_single])), (a_t_traced, .inl (cI, 30, .inl v_t_traced))] [(a_t, .inr (7, [.ref a_t_stand, .ref a_t_on, .ref a_t_marks, .int s_t_villages, .int s_t_held, .ref a_t_rule, .int s_t_z, .ref a_t_tape, .int s_t_tapeMany, .int s_t_sort, .int s_t_begins, .int s_t_tokenEnds, .long s_t_word, .int s_t_value, .int s_t_good, .int s_t_freshVillages, .int s_t_freshHeld, .ref a_t_freshStand, .ref a_t_freshMarks, .ref a_t_freshRule, .ref a_t_shares, .ref a_t_said, .ref a_t_rows, .ref a_t_must, .int s_t_rowMany, .int s_t_mustMany, .ref a_t_sorts, .ref a_t_sizes, .ref a_t_sheets, .ref a_t_holds, .ref a_t_heldNumber, .ref a_t_heldSize, .int s_t_kind, .int s_t_number, .int s_t_own, .ref a_t_traced, .int o_s_t_bodies, .int s_t_isParted, .int s_t_isKept, .ref a_t_keptRow, .int s_t_movedTo, .ref a_t_single])), (a_t_traced, .inl (cI, 30, .inl o_v_t_traced))] := by
  refine xMv.mk (own := "FairNextModel") (by decide +kernel) rfl (Nat.le_of_ble_eq_true rfl) ?_
  intro p e s m args below meth c A Q ls H hfix hK hP hD hA hS hl hEnd
  obtain ⟨hx, hb, hml, hown, hts⟩ := id hfix
  have hl : lv_has ls 2 [(0, .ref a_t), (1, .int i1)] := hl
  rw [f_X7_ran] at hF
  refine lv_aload_n hx hb dX7_ran_0 rfl (lv_at hl 0 rfl) ?_
  refine xget (ci := 7) (C := RX7) (T := TX7) (N := 42) hfix xiX7 hK.1 hP 0 rfl rfl 36 (by decide) rfl xw_724 rfl dX7_ran_1 ?_
  refine lv_bipush (v := (30 : Int32)) hx hb dX7_ran_4 (by decide) ?_
  refine lv_icmp_ge (tgt := 29) hx hb dX7_ran_6 (by decide) (fun c_1 => ?_) (fun c_1 => ?_)
  · replace hF := if_t c_1 hF
    obtain ⟨rfl, rfl⟩ := pj2 hF
    exact hEnd _ _ _ _ dX7_ran_29 hP hS
  · replace hF := if_f c_1 hF
    refine lv_aload_n hx hb dX7_ran_9 rfl (lv_at hl 0 rfl) ?_
    refine xget (ci := 7) (C := RX7) (T := TX7) (N := 42) hfix xiX7 hK.1 hP 0 rfl rfl 35 (by decide) rfl xw_723 rfl dX7_ran_10 ?_
    refine lv_aload_n hx hb dX7_ran_13 rfl (lv_at hl 0 rfl) ?_
    refine xget (ci := 7) (C := RX7) (T := TX7) (N := 42) hfix xiX7 hK.1 hP 0 rfl rfl 36 (by decide) rfl xw_724 rfl dX7_ran_14 ?_
    refine lv_iload_n hx hb dX7_ran_17 rfl (lv_at hl 1 rfl) ?_
    obtain ⟨c_2, hF⟩ := gd_e hF
    refine va_iast hx hb hK.1 hP hD hS 1 0 rfl rfl c_2 dX7_ran_18 (fun H locs hP hD hS => ?_)
    have hP : va_P D vwCl [(a_t, .inr (7, [.ref a_t_stand, .ref a_t_on, .ref a_t_marks, .int s_t_villages, .int s_t_held, .ref a_t_rule, .int s_t_z, .ref a_t_tape, .int s_t_tapeMany, .int s_t_sort, .int s_t_begins, .int s_t_tokenEnds, .long s_t_word, .int s_t_value, .int s_t_good, .int s_t_freshVillages, .int s_t_freshHeld, .ref a_t_freshStand, .ref a_t_freshMarks, .ref a_t_freshRule, .ref a_t_shares, .ref a_t_said, .ref a_t_rows, .ref a_t_must, .int s_t_rowMany, .int s_t_mustMany, .ref a_t_sorts, .ref a_t_sizes, .ref a_t_sheets, .ref a_t_holds, .ref a_t_heldNumber, .ref a_t_heldSize, .int s_t_kind, .int s_t_number, .int s_t_own, .ref a_t_traced, .int s_t_bodies, .int s_t_isParted, .int s_t_isKept, .ref a_t_keptRow, .int s_t_movedTo, .ref a_t_single])), (a_t_traced, .inl (cI, 30, .inl (upd v_t_traced s_t_bodies.toNatClampNeg i1)))] H := hP
    have hD : va_D A [(a_t, .inr (7, [.ref a_t_stand, .ref a_t_on, .ref a_t_marks, .int s_t_villages, .int s_t_held, .ref a_t_rule, .int s_t_z, .ref a_t_tape, .int s_t_tapeMany, .int s_t_sort, .int s_t_begins, .int s_t_tokenEnds, .long s_t_word, .int s_t_value, .int s_t_good, .int s_t_freshVillages, .int s_t_freshHeld, .ref a_t_freshStand, .ref a_t_freshMarks, .ref a_t_freshRule, .ref a_t_shares, .ref a_t_said, .ref a_t_rows, .ref a_t_must, .int s_t_rowMany, .int s_t_mustMany, .ref a_t_sorts, .ref a_t_sizes, .ref a_t_sheets, .ref a_t_holds, .ref a_t_heldNumber, .ref a_t_heldSize, .int s_t_kind, .int s_t_number, .int s_t_own, .ref a_t_traced, .int s_t_bodies, .int s_t_isParted, .int s_t_isKept, .ref a_t_keptRow, .int s_t_movedTo, .ref a_t_single])), (a_t_traced, .inl (cI, 30, .inl (upd v_t_traced s_t_bodies.toNatClampNeg i1)))] := hD
    refine lv_aload_n hx hb dX7_ran_19 rfl (lv_at hl 0 rfl) ?_
    refine lv_dup hx hb dX7_ran_20 rfl ?_
    refine xget (ci := 7) (C := RX7) (T := TX7) (N := 42) hfix xiX7 hK.1 hP 0 rfl rfl 36 (by decide) rfl xw_724 rfl dX7_ran_21 ?_
    refine lv_iconst (v := (1 : Int32)) hx hb dX7_ran_24 (by decide) ?_
    refine lv_iadd hx hb dX7_ran_25 ?_
    refine xput (ci := 7) (C := RX7) (T := TX7) (N := 42) hfix xiX7 tyX7 tyX7_ok nmX7 hK.1 hP hD hS 0 rfl rfl 36 (by decide) rfl rfl xw_724 (ty := .int) rfl rfl rfl (Nat.le_of_ble_eq_true rfl) dX7_ran_26 (wn := [(a_t, .inr (7, [.ref a_t_stand, .ref a_t_on, .ref a_t_marks, .int s_t_villages, .int s_t_held, .ref a_t_rule, .int s_t_z, .ref a_t_tape, .int s_t_tapeMany, .int s_t_sort, .int s_t_begins, .int s_t_tokenEnds, .long s_t_word, .int s_t_value, .int s_t_good, .int s_t_freshVillages, .int s_t_freshHeld, .ref a_t_freshStand, .ref a_t_freshMarks, .ref a_t_freshRule, .ref a_t_shares, .ref a_t_said, .ref a_t_rows, .ref a_t_must, .int s_t_rowMany, .int s_t_mustMany, .ref a_t_sorts, .ref a_t_sizes, .ref a_t_sheets, .ref a_t_holds, .ref a_t_heldNumber, .ref a_t_heldSize, .int s_t_kind, .int s_t_number, .int s_t_own, .ref a_t_traced, .int (s_t_bodies + (1 : Int32)), .int s_t_isParted, .int s_t_isKept, .ref a_t_keptRow, .int s_t_movedTo, .ref a_t_single])), (a_t_traced, .inl (cI, 30, .inl (upd v_t_traced s_t_bodies.toNatClampNeg i1)))]) rfl (fun H locs hP hD hS => ?_)
    obtain ⟨rfl, rfl⟩ := pj2 hF
    exact hEnd _ _ _ _ dX7_ran_29 hP hS
def f_X7_plainCalls (i1 : Int32) (s_t_number : Int32) (s_t_bodies : Int32) (v_t_traced : (Nat → Int32)) : Option (Int32 × Int32 × (Nat → Int32)) := bd2 (f_X7_ran (10 : Int32) s_t_bodies v_t_traced) (fun (o_1 : Int32) (o_2 : (Nat → Int32)) => some (((i1 + s_t_number), o_1, o_2)))
abbrev rmX7_plainCalls : Room := { frames := 1, cells := 0, slots := 0, locals := 21 }
set_option maxHeartbeats 400000 in
set_option maxRecDepth 100000 in
theorem c_X7_plainCalls (l : Launch) (D : va_G) (cI cB cJ : ClassId) (a_t : Nat) (a_t_stand : Nat) (a_t_on : Nat) (a_t_marks : Nat) (a_t_rule : Nat) (a_t_tape : Nat) (a_t_freshStand : Nat) (a_t_freshMarks : Nat) (a_t_freshRule : Nat) (a_t_shares : Nat) (a_t_said : Nat) (a_t_rows : Nat) (a_t_must : Nat) (a_t_sorts : Nat) (a_t_sizes : Nat) (a_t_sheets : Nat) (a_t_holds : Nat) (a_t_heldNumber : Nat) (a_t_heldSize : Nat) (a_t_traced : Nat) (a_t_keptRow : Nat) (a_t_single : Nat) (sz : Nat) (s_t_villages : Int32) (s_t_held : Int32) (s_t_z : Int32) (s_t_tapeMany : Int32) (s_t_sort : Int32) (s_t_begins : Int32) (s_t_tokenEnds : Int32) (s_t_word : Int64) (s_t_value : Int32) (s_t_good : Int32) (s_t_freshVillages : Int32) (s_t_freshHeld : Int32) (s_t_rowMany : Int32) (s_t_mustMany : Int32) (s_t_kind : Int32) (s_t_number : Int32) (s_t_own : Int32) (s_t_bodies : Int32) (s_t_isParted : Int32) (s_t_isKept : Int32) (s_t_movedTo : Int32) (v_t_traced : (Nat → Int32)) (i1 : Int32) (r : Int32) (o_s_t_bodies : Int32) (o_v_t_traced : (Nat → Int32)) (hF : f_X7_plainCalls i1 s_t_number s_t_bodies v_t_traced = some (r, o_s_t_bodies, o_v_t_traced)) : xMi l yX7_plainCalls (.code yX7_plainCalls cX7_plainCalls 2 (some .int) :: xU) rmX7_plainCalls (xK D cI cB cJ) D sz [.ref a_t, .int i1] [(a_t, .inr (7, [.ref a_t_stand, .ref a_t_on, .ref a_t_marks, .int s_t_villages, .int s_t_held, .ref a_t_rule, .int s_t_z, .ref a_t_tape, .int s_t_tapeMany, .int s_t_sort, .int s_t_begins, .int s_t_tokenEnds, .long s_t_word, .int s_t_value, .int s_t_good, .int s_t_freshVillages, .int s_t_freshHeld, .ref a_t_freshStand, .ref a_t_freshMarks, .ref a_t_freshRule, .ref a_t_shares, .ref a_t_said, .ref a_t_rows, .ref a_t_must, .int s_t_rowMany, .int s_t_mustMany, .ref a_t_sorts, .ref a_t_sizes, .ref a_t_sheets, .ref a_t_holds, .ref a_t_heldNumber, .ref a_t_heldSize, .int s_t_kind, .int s_t_number, .int s_t_own, .ref a_t_traced, .int s_t_bodies, .int s_t_isParted, .int s_t_isKept, .ref a_t_keptRow, .int s_t_movedTo, .ref a_t_single])), (a_t_traced, .inl (cI, 30, .inl v_t_traced))] [(a_t, .inr (7, [.ref a_t_stand, .ref a_t_on, .ref a_t_marks, .int s_t_villages, .int s_t_held, .ref a_t_rule, .int s_t_z, .ref a_t_tape, .int s_t_tapeMany, .int s_t_sort, .int s_t_begins, .int s_t_tokenEnds, .long s_t_word, .int s_t_value, .int s_t_good, .int s_t_freshVillages, .int s_t_freshHeld, .ref a_t_freshStand, .ref a_t_freshMarks, .ref a_t_freshRule, .ref a_t_shares, .ref a_t_said, .ref a_t_rows, .ref a_t_must, .int s_t_rowMany, .int s_t_mustMany, .ref a_t_sorts, .ref a_t_sizes, .ref a_t_sheets, .ref a_t_holds, .ref a_t_heldNumber, .ref a_t_heldSize, .int s_t_kind, .int s_t_number, .int s_t_own, .ref a_t_traced, .int o_s_t_bodies, .int s_t_isParted, .int s_t_isKept, .ref a_t_keptRow, .int s_t_movedTo, .ref a_t_single])), (a_t_traced, .inl (cI, 30, .inl o_v_t_traced))] r := by
  refine xMi.mk (own := "FairNextModel") (by decide +kernel) rfl (Nat.le_of_ble_eq_true rfl) ?_
  intro p e s m args below meth c A Q ls H hfix hK hP hD hA hS hl hEnd
  obtain ⟨hx, hb, hml, hown, hts⟩ := id hfix
  have hl : lv_has ls 2 [(0, .ref a_t), (1, .int i1)] := hl
  rw [f_X7_plainCalls] at hF
  refine lv_aload_n hx hb dX7_plainCalls_0 rfl (lv_at hl 0 rfl) ?_
  refine lv_bipush (v := (10 : Int32)) hx hb dX7_plainCalls_1 (by decide) ?_
  obtain ⟨o_1, o_2, hq_3, hF⟩ := bd2_e hF
  refine xrv (xrunV (As := [.int (10 : Int32)]) (rest := []) (c_X7_ran l D cI cB cJ a_t a_t_stand a_t_on a_t_marks a_t_rule a_t_tape a_t_freshStand a_t_freshMarks a_t_freshRule a_t_shares a_t_said a_t_rows a_t_must a_t_sorts a_t_sizes a_t_sheets a_t_holds a_t_heldNumber a_t_heldSize a_t_traced a_t_keptRow a_t_single _ s_t_villages s_t_held s_t_z s_t_tapeMany s_t_sort s_t_begins s_t_tokenEnds s_t_word s_t_value s_t_good s_t_freshVillages s_t_freshHeld s_t_rowMany s_t_mustMany s_t_kind s_t_number s_t_own s_t_bodies s_t_isParted s_t_isKept s_t_movedTo v_t_traced (10 : Int32) o_1 o_2 hq_3) hfix xw_1146 yv_X7_ran ⟨rfl, rfl⟩ ⟨(Nat.le_of_ble_eq_true rfl), (Nat.le_of_ble_eq_true rfl)⟩ xKk_K (fun U hU hW => xK.warm hW hK) hK.1 hP hD [0, 1] rfl rfl 0 7 rfl rfl rfl rfl hl.1 rfl (Nat.le_of_ble_eq_true rfl) dX7_plainCalls_3 ⟨Nat.zero_le _, Nat.zero_le _⟩) hP hD hS hA [0, 1] rfl rfl rfl (wn := [(a_t, .inr (7, [.ref a_t_stand, .ref a_t_on, .ref a_t_marks, .int s_t_villages, .int s_t_held, .ref a_t_rule, .int s_t_z, .ref a_t_tape, .int s_t_tapeMany, .int s_t_sort, .int s_t_begins, .int s_t_tokenEnds, .long s_t_word, .int s_t_value, .int s_t_good, .int s_t_freshVillages, .int s_t_freshHeld, .ref a_t_freshStand, .ref a_t_freshMarks, .ref a_t_freshRule, .ref a_t_shares, .ref a_t_said, .ref a_t_rows, .ref a_t_must, .int s_t_rowMany, .int s_t_mustMany, .ref a_t_sorts, .ref a_t_sizes, .ref a_t_sheets, .ref a_t_holds, .ref a_t_heldNumber, .ref a_t_heldSize, .int s_t_kind, .int s_t_number, .int s_t_own, .ref a_t_traced, .int o_1, .int s_t_isParted, .int s_t_isKept, .ref a_t_keptRow, .int s_t_movedTo, .ref a_t_single])), (a_t_traced, .inl (cI, 30, .inl o_2))]) rfl (fun H locs hP hD hS => ?_)
  refine lv_iload_n hx hb dX7_plainCalls_6 rfl (lv_at hl 1 rfl) ?_
  refine lv_aload_n hx hb dX7_plainCalls_7 rfl (lv_at hl 0 rfl) ?_
  refine xget (ci := 7) (C := RX7) (T := TX7) (N := 42) hfix xiX7 hK.1 hP 0 rfl rfl 33 (by decide) rfl xw_721 rfl dX7_plainCalls_8 ?_
  refine lv_iadd hx hb dX7_plainCalls_11 ?_
  obtain ⟨rfl, rfl, rfl⟩ := pj3 hF
  exact hEnd _ _ _ _ _ dX7_plainCalls_12 hP hS rfl
def f_X7_callsIt (i1 : Int32) (s_t_kind : Int32) (s_t_number : Int32) (s_t_bodies : Int32) (v_t_traced : (Nat → Int32)) : Option (Int32 × Int32 × (Nat → Int32)) := (if s_t_kind = (2 : Int32) then bd2 (f_X7_ran (40 : Int32) s_t_bodies v_t_traced) (fun (o_2 : Int32) (o_3 : (Nat → Int32)) => bd3 (f_X7_plainCalls i1 s_t_number o_2 o_3) (fun (r_5 : Int32) (o_6 : Int32) (o_7 : (Nat → Int32)) => some ((((0 : Int32) - r_5), o_6, o_7)))) else (if s_t_kind = (3 : Int32) then bd2 (f_X7_ran (30 : Int32) s_t_bodies v_t_traced) (fun (o_10 : Int32) (o_11 : (Nat → Int32)) => bd3 (f_X7_plainCalls i1 s_t_number o_10 o_11) (fun (r_13 : Int32) (o_14 : Int32) (o_15 : (Nat → Int32)) => some (((r_13 * (3 : Int32)), o_14, o_15)))) else (if s_t_kind = (4 : Int32) then bd2 (f_X7_ran (51 : Int32) s_t_bodies v_t_traced) (fun (o_18 : Int32) (o_19 : (Nat → Int32)) => bd3 (f_X7_plainCalls i1 s_t_number o_18 o_19) (fun (r_21 : Int32) (o_22 : Int32) (o_23 : (Nat → Int32)) => some (((r_21 - s_t_number), o_22, o_23)))) else (if s_t_kind = (5 : Int32) then bd2 (f_X7_ran (40 : Int32) s_t_bodies v_t_traced) (fun (o_26 : Int32) (o_27 : (Nat → Int32)) => bd3 (f_X7_plainCalls i1 s_t_number o_26 o_27) (fun (r_29 : Int32) (o_30 : Int32) (o_31 : (Nat → Int32)) => some ((((0 : Int32) - r_29), o_30, o_31)))) else bd3 (f_X7_plainCalls i1 s_t_number s_t_bodies v_t_traced) (fun (r_33 : Int32) (o_34 : Int32) (o_35 : (Nat → Int32)) => some ((r_33, o_34, o_35)))))))
abbrev rmX7_callsIt : Room := { frames := 2, cells := 0, slots := 0, locals := 42 }
set_option maxHeartbeats 400000 in
set_option maxRecDepth 100000 in
theorem c_X7_callsIt (l : Launch) (D : va_G) (cI cB cJ : ClassId) (a_t : Nat) (a_t_stand : Nat) (a_t_on : Nat) (a_t_marks : Nat) (a_t_rule : Nat) (a_t_tape : Nat) (a_t_freshStand : Nat) (a_t_freshMarks : Nat) (a_t_freshRule : Nat) (a_t_shares : Nat) (a_t_said : Nat) (a_t_rows : Nat) (a_t_must : Nat) (a_t_sorts : Nat) (a_t_sizes : Nat) (a_t_sheets : Nat) (a_t_holds : Nat) (a_t_heldNumber : Nat) (a_t_heldSize : Nat) (a_t_traced : Nat) (a_t_keptRow : Nat) (a_t_single : Nat) (sz : Nat) (s_t_villages : Int32) (s_t_held : Int32) (s_t_z : Int32) (s_t_tapeMany : Int32) (s_t_sort : Int32) (s_t_begins : Int32) (s_t_tokenEnds : Int32) (s_t_word : Int64) (s_t_value : Int32) (s_t_good : Int32) (s_t_freshVillages : Int32) (s_t_freshHeld : Int32) (s_t_rowMany : Int32) (s_t_mustMany : Int32) (s_t_kind : Int32) (s_t_number : Int32) (s_t_own : Int32) (s_t_bodies : Int32) (s_t_isParted : Int32) (s_t_isKept : Int32) (s_t_movedTo : Int32) (v_t_traced : (Nat → Int32)) (i1 : Int32) (r : Int32) (o_s_t_bodies : Int32) (o_v_t_traced : (Nat → Int32)) (hF : f_X7_callsIt i1 s_t_kind s_t_number s_t_bodies v_t_traced = some (r, o_s_t_bodies, o_v_t_traced)) : xMi l yX7_callsIt (.code yX7_callsIt cX7_callsIt 2 (some .int) :: xU) rmX7_callsIt (xK D cI cB cJ) D sz [.ref a_t, .int i1] [(a_t, .inr (7, [.ref a_t_stand, .ref a_t_on, .ref a_t_marks, .int s_t_villages, .int s_t_held, .ref a_t_rule, .int s_t_z, .ref a_t_tape, .int s_t_tapeMany, .int s_t_sort, .int s_t_begins, .int s_t_tokenEnds, .long s_t_word, .int s_t_value, .int s_t_good, .int s_t_freshVillages, .int s_t_freshHeld, .ref a_t_freshStand, .ref a_t_freshMarks, .ref a_t_freshRule, .ref a_t_shares, .ref a_t_said, .ref a_t_rows, .ref a_t_must, .int s_t_rowMany, .int s_t_mustMany, .ref a_t_sorts, .ref a_t_sizes, .ref a_t_sheets, .ref a_t_holds, .ref a_t_heldNumber, .ref a_t_heldSize, .int s_t_kind, .int s_t_number, .int s_t_own, .ref a_t_traced, .int s_t_bodies, .int s_t_isParted, .int s_t_isKept, .ref a_t_keptRow, .int s_t_movedTo, .ref a_t_single])), (a_t_traced, .inl (cI, 30, .inl v_t_traced))] [(a_t, .inr (7, [.ref a_t_stand, .ref a_t_on, .ref a_t_marks, .int s_t_villages, .int s_t_held, .ref a_t_rule, .int s_t_z, .ref a_t_tape, .int s_t_tapeMany, .int s_t_sort, .int s_t_begins, .int s_t_tokenEnds, .long s_t_word, .int s_t_value, .int s_t_good, .int s_t_freshVillages, .int s_t_freshHeld, .ref a_t_freshStand, .ref a_t_freshMarks, .ref a_t_freshRule, .ref a_t_shares, .ref a_t_said, .ref a_t_rows, .ref a_t_must, .int s_t_rowMany, .int s_t_mustMany, .ref a_t_sorts, .ref a_t_sizes, .ref a_t_sheets, .ref a_t_holds, .ref a_t_heldNumber, .ref a_t_heldSize, .int s_t_kind, .int s_t_number, .int s_t_own, .ref a_t_traced, .int o_s_t_bodies, .int s_t_isParted, .int s_t_isKept, .ref a_t_keptRow, .int s_t_movedTo, .ref a_t_single])), (a_t_traced, .inl (cI, 30, .inl o_v_t_traced))] r := by
  refine xMi.mk (own := "FairNextModel") (by decide +kernel) rfl (Nat.le_of_ble_eq_true rfl) ?_
  intro p e s m args below meth c A Q ls H hfix hK hP hD hA hS hl hEnd
  obtain ⟨hx, hb, hml, hown, hts⟩ := id hfix
  have hl : lv_has ls 2 [(0, .ref a_t), (1, .int i1)] := hl
  rw [f_X7_callsIt] at hF
  refine lv_aload_n hx hb dX7_callsIt_0 rfl (lv_at hl 0 rfl) ?_
  refine xget (ci := 7) (C := RX7) (T := TX7) (N := 42) hfix xiX7 hK.1 hP 0 rfl rfl 32 (by decide) rfl xw_720 rfl dX7_callsIt_1 ?_
  by_cases c_1 : s_t_kind = (2 : Int32)
  · replace hF := if_t c_1 hF
    refine lv_tableIn (off := 46) (tgt := 50) hx hb dX7_callsIt_4 (by rw [c_1]; decide) (by rw [c_1]; decide) (by rw [c_1]; decide) (by decide) ?_
    refine lv_aload_n hx hb dX7_callsIt_50 rfl (lv_at hl 0 rfl) ?_
    refine lv_bipush (v := (40 : Int32)) hx hb dX7_callsIt_51 (by decide) ?_
    obtain ⟨o_2, o_3, hq_4, hF⟩ := bd2_e hF
    refine xrv (xrunV (As := [.int (40 : Int32)]) (rest := []) (c_X7_ran l D cI cB cJ a_t a_t_stand a_t_on a_t_marks a_t_rule a_t_tape a_t_freshStand a_t_freshMarks a_t_freshRule a_t_shares a_t_said a_t_rows a_t_must a_t_sorts a_t_sizes a_t_sheets a_t_holds a_t_heldNumber a_t_heldSize a_t_traced a_t_keptRow a_t_single _ s_t_villages s_t_held s_t_z s_t_tapeMany s_t_sort s_t_begins s_t_tokenEnds s_t_word s_t_value s_t_good s_t_freshVillages s_t_freshHeld s_t_rowMany s_t_mustMany s_t_kind s_t_number s_t_own s_t_bodies s_t_isParted s_t_isKept s_t_movedTo v_t_traced (40 : Int32) o_2 o_3 hq_4) hfix xw_1146 yv_X7_ran ⟨rfl, rfl⟩ ⟨(Nat.le_of_ble_eq_true rfl), (Nat.le_of_ble_eq_true rfl)⟩ xKk_K (fun U hU hW => xK.warm hW hK) hK.1 hP hD [0, 1] rfl rfl 0 7 rfl rfl rfl rfl hl.1 rfl (Nat.le_of_ble_eq_true rfl) dX7_callsIt_53 ⟨Nat.zero_le _, Nat.zero_le _⟩) hP hD hS hA [0, 1] rfl rfl rfl (wn := [(a_t, .inr (7, [.ref a_t_stand, .ref a_t_on, .ref a_t_marks, .int s_t_villages, .int s_t_held, .ref a_t_rule, .int s_t_z, .ref a_t_tape, .int s_t_tapeMany, .int s_t_sort, .int s_t_begins, .int s_t_tokenEnds, .long s_t_word, .int s_t_value, .int s_t_good, .int s_t_freshVillages, .int s_t_freshHeld, .ref a_t_freshStand, .ref a_t_freshMarks, .ref a_t_freshRule, .ref a_t_shares, .ref a_t_said, .ref a_t_rows, .ref a_t_must, .int s_t_rowMany, .int s_t_mustMany, .ref a_t_sorts, .ref a_t_sizes, .ref a_t_sheets, .ref a_t_holds, .ref a_t_heldNumber, .ref a_t_heldSize, .int s_t_kind, .int s_t_number, .int s_t_own, .ref a_t_traced, .int o_2, .int s_t_isParted, .int s_t_isKept, .ref a_t_keptRow, .int s_t_movedTo, .ref a_t_single])), (a_t_traced, .inl (cI, 30, .inl o_3))]) rfl (fun H locs hP hD hS => ?_)
    refine lv_iconst (v := (0 : Int32)) hx hb dX7_callsIt_56 (by decide) ?_
    refine lv_aload_n hx hb dX7_callsIt_57 rfl (lv_at hl 0 rfl) ?_
    refine lv_iload_n hx hb dX7_callsIt_58 rfl (lv_at hl 1 rfl) ?_
    obtain ⟨r_5, o_6, o_7, hq_8, hF⟩ := bd3_e hF
    refine xri (xrunV (As := [.int i1]) (rest := [.int (0 : Int32)]) (c_X7_plainCalls l D cI cB cJ a_t a_t_stand a_t_on a_t_marks a_t_rule a_t_tape a_t_freshStand a_t_freshMarks a_t_freshRule a_t_shares a_t_said a_t_rows a_t_must a_t_sorts a_t_sizes a_t_sheets a_t_holds a_t_heldNumber a_t_heldSize a_t_traced a_t_keptRow a_t_single _ s_t_villages s_t_held s_t_z s_t_tapeMany s_t_sort s_t_begins s_t_tokenEnds s_t_word s_t_value s_t_good s_t_freshVillages s_t_freshHeld s_t_rowMany s_t_mustMany s_t_kind s_t_number s_t_own o_2 s_t_isParted s_t_isKept s_t_movedTo o_3 i1 r_5 o_6 o_7 hq_8) hfix xw_1150 yv_X7_plainCalls ⟨rfl, rfl⟩ ⟨(Nat.le_of_ble_eq_true rfl), (Nat.le_of_ble_eq_true rfl)⟩ xKk_K (fun U hU hW => xK.warm hW hK) hK.1 hP hD [0, 1] rfl rfl 0 7 rfl rfl rfl rfl hl.1 rfl (Nat.le_of_ble_eq_true rfl) dX7_callsIt_59 ⟨Nat.zero_le _, Nat.zero_le _⟩) hP hD hS hA [0, 1] rfl rfl rfl (wn := [(a_t, .inr (7, [.ref a_t_stand, .ref a_t_on, .ref a_t_marks, .int s_t_villages, .int s_t_held, .ref a_t_rule, .int s_t_z, .ref a_t_tape, .int s_t_tapeMany, .int s_t_sort, .int s_t_begins, .int s_t_tokenEnds, .long s_t_word, .int s_t_value, .int s_t_good, .int s_t_freshVillages, .int s_t_freshHeld, .ref a_t_freshStand, .ref a_t_freshMarks, .ref a_t_freshRule, .ref a_t_shares, .ref a_t_said, .ref a_t_rows, .ref a_t_must, .int s_t_rowMany, .int s_t_mustMany, .ref a_t_sorts, .ref a_t_sizes, .ref a_t_sheets, .ref a_t_holds, .ref a_t_heldNumber, .ref a_t_heldSize, .int s_t_kind, .int s_t_number, .int s_t_own, .ref a_t_traced, .int o_6, .int s_t_isParted, .int s_t_isKept, .ref a_t_keptRow, .int s_t_movedTo, .ref a_t_single])), (a_t_traced, .inl (cI, 30, .inl o_7))]) rfl (fun H locs hP hD hS => ?_)
    refine lv_isub hx hb dX7_callsIt_62 ?_
    obtain ⟨rfl, rfl, rfl⟩ := pj3 hF
    exact hEnd _ _ _ _ _ dX7_callsIt_63 hP hS rfl
  · replace hF := if_f c_1 hF
    by_cases c_9 : s_t_kind = (3 : Int32)
    · replace hF := if_t c_9 hF
      refine lv_tableIn (off := 32) (tgt := 36) hx hb dX7_callsIt_4 (by rw [c_9]; decide) (by rw [c_9]; decide) (by rw [c_9]; decide) (by decide) ?_
      refine lv_aload_n hx hb dX7_callsIt_36 rfl (lv_at hl 0 rfl) ?_
      refine lv_bipush (v := (30 : Int32)) hx hb dX7_callsIt_37 (by decide) ?_
      obtain ⟨o_10, o_11, hq_12, hF⟩ := bd2_e hF
      refine xrv (xrunV (As := [.int (30 : Int32)]) (rest := []) (c_X7_ran l D cI cB cJ a_t a_t_stand a_t_on a_t_marks a_t_rule a_t_tape a_t_freshStand a_t_freshMarks a_t_freshRule a_t_shares a_t_said a_t_rows a_t_must a_t_sorts a_t_sizes a_t_sheets a_t_holds a_t_heldNumber a_t_heldSize a_t_traced a_t_keptRow a_t_single _ s_t_villages s_t_held s_t_z s_t_tapeMany s_t_sort s_t_begins s_t_tokenEnds s_t_word s_t_value s_t_good s_t_freshVillages s_t_freshHeld s_t_rowMany s_t_mustMany s_t_kind s_t_number s_t_own s_t_bodies s_t_isParted s_t_isKept s_t_movedTo v_t_traced (30 : Int32) o_10 o_11 hq_12) hfix xw_1146 yv_X7_ran ⟨rfl, rfl⟩ ⟨(Nat.le_of_ble_eq_true rfl), (Nat.le_of_ble_eq_true rfl)⟩ xKk_K (fun U hU hW => xK.warm hW hK) hK.1 hP hD [0, 1] rfl rfl 0 7 rfl rfl rfl rfl hl.1 rfl (Nat.le_of_ble_eq_true rfl) dX7_callsIt_39 ⟨Nat.zero_le _, Nat.zero_le _⟩) hP hD hS hA [0, 1] rfl rfl rfl (wn := [(a_t, .inr (7, [.ref a_t_stand, .ref a_t_on, .ref a_t_marks, .int s_t_villages, .int s_t_held, .ref a_t_rule, .int s_t_z, .ref a_t_tape, .int s_t_tapeMany, .int s_t_sort, .int s_t_begins, .int s_t_tokenEnds, .long s_t_word, .int s_t_value, .int s_t_good, .int s_t_freshVillages, .int s_t_freshHeld, .ref a_t_freshStand, .ref a_t_freshMarks, .ref a_t_freshRule, .ref a_t_shares, .ref a_t_said, .ref a_t_rows, .ref a_t_must, .int s_t_rowMany, .int s_t_mustMany, .ref a_t_sorts, .ref a_t_sizes, .ref a_t_sheets, .ref a_t_holds, .ref a_t_heldNumber, .ref a_t_heldSize, .int s_t_kind, .int s_t_number, .int s_t_own, .ref a_t_traced, .int o_10, .int s_t_isParted, .int s_t_isKept, .ref a_t_keptRow, .int s_t_movedTo, .ref a_t_single])), (a_t_traced, .inl (cI, 30, .inl o_11))]) rfl (fun H locs hP hD hS => ?_)
      refine lv_aload_n hx hb dX7_callsIt_42 rfl (lv_at hl 0 rfl) ?_
      refine lv_iload_n hx hb dX7_callsIt_43 rfl (lv_at hl 1 rfl) ?_
      obtain ⟨r_13, o_14, o_15, hq_16, hF⟩ := bd3_e hF
      refine xri (xrunV (As := [.int i1]) (rest := []) (c_X7_plainCalls l D cI cB cJ a_t a_t_stand a_t_on a_t_marks a_t_rule a_t_tape a_t_freshStand a_t_freshMarks a_t_freshRule a_t_shares a_t_said a_t_rows a_t_must a_t_sorts a_t_sizes a_t_sheets a_t_holds a_t_heldNumber a_t_heldSize a_t_traced a_t_keptRow a_t_single _ s_t_villages s_t_held s_t_z s_t_tapeMany s_t_sort s_t_begins s_t_tokenEnds s_t_word s_t_value s_t_good s_t_freshVillages s_t_freshHeld s_t_rowMany s_t_mustMany s_t_kind s_t_number s_t_own o_10 s_t_isParted s_t_isKept s_t_movedTo o_11 i1 r_13 o_14 o_15 hq_16) hfix xw_1150 yv_X7_plainCalls ⟨rfl, rfl⟩ ⟨(Nat.le_of_ble_eq_true rfl), (Nat.le_of_ble_eq_true rfl)⟩ xKk_K (fun U hU hW => xK.warm hW hK) hK.1 hP hD [0, 1] rfl rfl 0 7 rfl rfl rfl rfl hl.1 rfl (Nat.le_of_ble_eq_true rfl) dX7_callsIt_44 ⟨Nat.zero_le _, Nat.zero_le _⟩) hP hD hS hA [0, 1] rfl rfl rfl (wn := [(a_t, .inr (7, [.ref a_t_stand, .ref a_t_on, .ref a_t_marks, .int s_t_villages, .int s_t_held, .ref a_t_rule, .int s_t_z, .ref a_t_tape, .int s_t_tapeMany, .int s_t_sort, .int s_t_begins, .int s_t_tokenEnds, .long s_t_word, .int s_t_value, .int s_t_good, .int s_t_freshVillages, .int s_t_freshHeld, .ref a_t_freshStand, .ref a_t_freshMarks, .ref a_t_freshRule, .ref a_t_shares, .ref a_t_said, .ref a_t_rows, .ref a_t_must, .int s_t_rowMany, .int s_t_mustMany, .ref a_t_sorts, .ref a_t_sizes, .ref a_t_sheets, .ref a_t_holds, .ref a_t_heldNumber, .ref a_t_heldSize, .int s_t_kind, .int s_t_number, .int s_t_own, .ref a_t_traced, .int o_14, .int s_t_isParted, .int s_t_isKept, .ref a_t_keptRow, .int s_t_movedTo, .ref a_t_single])), (a_t_traced, .inl (cI, 30, .inl o_15))]) rfl (fun H locs hP hD hS => ?_)
      refine lv_iconst (v := (3 : Int32)) hx hb dX7_callsIt_47 (by decide) ?_
      refine lv_imul hx hb dX7_callsIt_48 ?_
      obtain ⟨rfl, rfl, rfl⟩ := pj3 hF
      exact hEnd _ _ _ _ _ dX7_callsIt_49 hP hS rfl
    · replace hF := if_f c_9 hF
      by_cases c_17 : s_t_kind = (4 : Int32)
      · replace hF := if_t c_17 hF
        refine lv_tableIn (off := 60) (tgt := 64) hx hb dX7_callsIt_4 (by rw [c_17]; decide) (by rw [c_17]; decide) (by rw [c_17]; decide) (by decide) ?_
        refine lv_aload_n hx hb dX7_callsIt_64 rfl (lv_at hl 0 rfl) ?_
        refine lv_bipush (v := (51 : Int32)) hx hb dX7_callsIt_65 (by decide) ?_
        obtain ⟨o_18, o_19, hq_20, hF⟩ := bd2_e hF
        refine xrv (xrunV (As := [.int (51 : Int32)]) (rest := []) (c_X7_ran l D cI cB cJ a_t a_t_stand a_t_on a_t_marks a_t_rule a_t_tape a_t_freshStand a_t_freshMarks a_t_freshRule a_t_shares a_t_said a_t_rows a_t_must a_t_sorts a_t_sizes a_t_sheets a_t_holds a_t_heldNumber a_t_heldSize a_t_traced a_t_keptRow a_t_single _ s_t_villages s_t_held s_t_z s_t_tapeMany s_t_sort s_t_begins s_t_tokenEnds s_t_word s_t_value s_t_good s_t_freshVillages s_t_freshHeld s_t_rowMany s_t_mustMany s_t_kind s_t_number s_t_own s_t_bodies s_t_isParted s_t_isKept s_t_movedTo v_t_traced (51 : Int32) o_18 o_19 hq_20) hfix xw_1146 yv_X7_ran ⟨rfl, rfl⟩ ⟨(Nat.le_of_ble_eq_true rfl), (Nat.le_of_ble_eq_true rfl)⟩ xKk_K (fun U hU hW => xK.warm hW hK) hK.1 hP hD [0, 1] rfl rfl 0 7 rfl rfl rfl rfl hl.1 rfl (Nat.le_of_ble_eq_true rfl) dX7_callsIt_67 ⟨Nat.zero_le _, Nat.zero_le _⟩) hP hD hS hA [0, 1] rfl rfl rfl (wn := [(a_t, .inr (7, [.ref a_t_stand, .ref a_t_on, .ref a_t_marks, .int s_t_villages, .int s_t_held, .ref a_t_rule, .int s_t_z, .ref a_t_tape, .int s_t_tapeMany, .int s_t_sort, .int s_t_begins, .int s_t_tokenEnds, .long s_t_word, .int s_t_value, .int s_t_good, .int s_t_freshVillages, .int s_t_freshHeld, .ref a_t_freshStand, .ref a_t_freshMarks, .ref a_t_freshRule, .ref a_t_shares, .ref a_t_said, .ref a_t_rows, .ref a_t_must, .int s_t_rowMany, .int s_t_mustMany, .ref a_t_sorts, .ref a_t_sizes, .ref a_t_sheets, .ref a_t_holds, .ref a_t_heldNumber, .ref a_t_heldSize, .int s_t_kind, .int s_t_number, .int s_t_own, .ref a_t_traced, .int o_18, .int s_t_isParted, .int s_t_isKept, .ref a_t_keptRow, .int s_t_movedTo, .ref a_t_single])), (a_t_traced, .inl (cI, 30, .inl o_19))]) rfl (fun H locs hP hD hS => ?_)
        refine lv_aload_n hx hb dX7_callsIt_70 rfl (lv_at hl 0 rfl) ?_
        refine lv_iload_n hx hb dX7_callsIt_71 rfl (lv_at hl 1 rfl) ?_
        obtain ⟨r_21, o_22, o_23, hq_24, hF⟩ := bd3_e hF
        refine xri (xrunV (As := [.int i1]) (rest := []) (c_X7_plainCalls l D cI cB cJ a_t a_t_stand a_t_on a_t_marks a_t_rule a_t_tape a_t_freshStand a_t_freshMarks a_t_freshRule a_t_shares a_t_said a_t_rows a_t_must a_t_sorts a_t_sizes a_t_sheets a_t_holds a_t_heldNumber a_t_heldSize a_t_traced a_t_keptRow a_t_single _ s_t_villages s_t_held s_t_z s_t_tapeMany s_t_sort s_t_begins s_t_tokenEnds s_t_word s_t_value s_t_good s_t_freshVillages s_t_freshHeld s_t_rowMany s_t_mustMany s_t_kind s_t_number s_t_own o_18 s_t_isParted s_t_isKept s_t_movedTo o_19 i1 r_21 o_22 o_23 hq_24) hfix xw_1150 yv_X7_plainCalls ⟨rfl, rfl⟩ ⟨(Nat.le_of_ble_eq_true rfl), (Nat.le_of_ble_eq_true rfl)⟩ xKk_K (fun U hU hW => xK.warm hW hK) hK.1 hP hD [0, 1] rfl rfl 0 7 rfl rfl rfl rfl hl.1 rfl (Nat.le_of_ble_eq_true rfl) dX7_callsIt_72 ⟨Nat.zero_le _, Nat.zero_le _⟩) hP hD hS hA [0, 1] rfl rfl rfl (wn := [(a_t, .inr (7, [.ref a_t_stand, .ref a_t_on, .ref a_t_marks, .int s_t_villages, .int s_t_held, .ref a_t_rule, .int s_t_z, .ref a_t_tape, .int s_t_tapeMany, .int s_t_sort, .int s_t_begins, .int s_t_tokenEnds, .long s_t_word, .int s_t_value, .int s_t_good, .int s_t_freshVillages, .int s_t_freshHeld, .ref a_t_freshStand, .ref a_t_freshMarks, .ref a_t_freshRule, .ref a_t_shares, .ref a_t_said, .ref a_t_rows, .ref a_t_must, .int s_t_rowMany, .int s_t_mustMany, .ref a_t_sorts, .ref a_t_sizes, .ref a_t_sheets, .ref a_t_holds, .ref a_t_heldNumber, .ref a_t_heldSize, .int s_t_kind, .int s_t_number, .int s_t_own, .ref a_t_traced, .int o_22, .int s_t_isParted, .int s_t_isKept, .ref a_t_keptRow, .int s_t_movedTo, .ref a_t_single])), (a_t_traced, .inl (cI, 30, .inl o_23))]) rfl (fun H locs hP hD hS => ?_)
        refine lv_aload_n hx hb dX7_callsIt_75 rfl (lv_at hl 0 rfl) ?_
        refine xget (ci := 7) (C := RX7) (T := TX7) (N := 42) hfix xiX7 hK.1 hP 0 rfl rfl 33 (by decide) rfl xw_721 rfl dX7_callsIt_76 ?_
        refine lv_isub hx hb dX7_callsIt_79 ?_
        obtain ⟨rfl, rfl, rfl⟩ := pj3 hF
        exact hEnd _ _ _ _ _ dX7_callsIt_80 hP hS rfl
      · replace hF := if_f c_17 hF
        by_cases c_25 : s_t_kind = (5 : Int32)
        · replace hF := if_t c_25 hF
          refine lv_tableIn (off := 46) (tgt := 50) hx hb dX7_callsIt_4 (by rw [c_25]; decide) (by rw [c_25]; decide) (by rw [c_25]; decide) (by decide) ?_
          refine lv_aload_n hx hb dX7_callsIt_50 rfl (lv_at hl 0 rfl) ?_
          refine lv_bipush (v := (40 : Int32)) hx hb dX7_callsIt_51 (by decide) ?_
          obtain ⟨o_26, o_27, hq_28, hF⟩ := bd2_e hF
          refine xrv (xrunV (As := [.int (40 : Int32)]) (rest := []) (c_X7_ran l D cI cB cJ a_t a_t_stand a_t_on a_t_marks a_t_rule a_t_tape a_t_freshStand a_t_freshMarks a_t_freshRule a_t_shares a_t_said a_t_rows a_t_must a_t_sorts a_t_sizes a_t_sheets a_t_holds a_t_heldNumber a_t_heldSize a_t_traced a_t_keptRow a_t_single _ s_t_villages s_t_held s_t_z s_t_tapeMany s_t_sort s_t_begins s_t_tokenEnds s_t_word s_t_value s_t_good s_t_freshVillages s_t_freshHeld s_t_rowMany s_t_mustMany s_t_kind s_t_number s_t_own s_t_bodies s_t_isParted s_t_isKept s_t_movedTo v_t_traced (40 : Int32) o_26 o_27 hq_28) hfix xw_1146 yv_X7_ran ⟨rfl, rfl⟩ ⟨(Nat.le_of_ble_eq_true rfl), (Nat.le_of_ble_eq_true rfl)⟩ xKk_K (fun U hU hW => xK.warm hW hK) hK.1 hP hD [0, 1] rfl rfl 0 7 rfl rfl rfl rfl hl.1 rfl (Nat.le_of_ble_eq_true rfl) dX7_callsIt_53 ⟨Nat.zero_le _, Nat.zero_le _⟩) hP hD hS hA [0, 1] rfl rfl rfl (wn := [(a_t, .inr (7, [.ref a_t_stand, .ref a_t_on, .ref a_t_marks, .int s_t_villages, .int s_t_held, .ref a_t_rule, .int s_t_z, .ref a_t_tape, .int s_t_tapeMany, .int s_t_sort, .int s_t_begins, .int s_t_tokenEnds, .long s_t_word, .int s_t_value, .int s_t_good, .int s_t_freshVillages, .int s_t_freshHeld, .ref a_t_freshStand, .ref a_t_freshMarks, .ref a_t_freshRule, .ref a_t_shares, .ref a_t_said, .ref a_t_rows, .ref a_t_must, .int s_t_rowMany, .int s_t_mustMany, .ref a_t_sorts, .ref a_t_sizes, .ref a_t_sheets, .ref a_t_holds, .ref a_t_heldNumber, .ref a_t_heldSize, .int s_t_kind, .int s_t_number, .int s_t_own, .ref a_t_traced, .int o_26, .int s_t_isParted, .int s_t_isKept, .ref a_t_keptRow, .int s_t_movedTo, .ref a_t_single])), (a_t_traced, .inl (cI, 30, .inl o_27))]) rfl (fun H locs hP hD hS => ?_)
          refine lv_iconst (v := (0 : Int32)) hx hb dX7_callsIt_56 (by decide) ?_
          refine lv_aload_n hx hb dX7_callsIt_57 rfl (lv_at hl 0 rfl) ?_
          refine lv_iload_n hx hb dX7_callsIt_58 rfl (lv_at hl 1 rfl) ?_
          obtain ⟨r_29, o_30, o_31, hq_32, hF⟩ := bd3_e hF
          refine xri (xrunV (As := [.int i1]) (rest := [.int (0 : Int32)]) (c_X7_plainCalls l D cI cB cJ a_t a_t_stand a_t_on a_t_marks a_t_rule a_t_tape a_t_freshStand a_t_freshMarks a_t_freshRule a_t_shares a_t_said a_t_rows a_t_must a_t_sorts a_t_sizes a_t_sheets a_t_holds a_t_heldNumber a_t_heldSize a_t_traced a_t_keptRow a_t_single _ s_t_villages s_t_held s_t_z s_t_tapeMany s_t_sort s_t_begins s_t_tokenEnds s_t_word s_t_value s_t_good s_t_freshVillages s_t_freshHeld s_t_rowMany s_t_mustMany s_t_kind s_t_number s_t_own o_26 s_t_isParted s_t_isKept s_t_movedTo o_27 i1 r_29 o_30 o_31 hq_32) hfix xw_1150 yv_X7_plainCalls ⟨rfl, rfl⟩ ⟨(Nat.le_of_ble_eq_true rfl), (Nat.le_of_ble_eq_true rfl)⟩ xKk_K (fun U hU hW => xK.warm hW hK) hK.1 hP hD [0, 1] rfl rfl 0 7 rfl rfl rfl rfl hl.1 rfl (Nat.le_of_ble_eq_true rfl) dX7_callsIt_59 ⟨Nat.zero_le _, Nat.zero_le _⟩) hP hD hS hA [0, 1] rfl rfl rfl (wn := [(a_t, .inr (7, [.ref a_t_stand, .ref a_t_on, .ref a_t_marks, .int s_t_villages, .int s_t_held, .ref a_t_rule, .int s_t_z, .ref a_t_tape, .int s_t_tapeMany, .int s_t_sort, .int s_t_begins, .int s_t_tokenEnds, .long s_t_word, .int s_t_value, .int s_t_good, .int s_t_freshVillages, .int s_t_freshHeld, .ref a_t_freshStand, .ref a_t_freshMarks, .ref a_t_freshRule, .ref a_t_shares, .ref a_t_said, .ref a_t_rows, .ref a_t_must, .int s_t_rowMany, .int s_t_mustMany, .ref a_t_sorts, .ref a_t_sizes, .ref a_t_sheets, .ref a_t_holds, .ref a_t_heldNumber, .ref a_t_heldSize, .int s_t_kind, .int s_t_number, .int s_t_own, .ref a_t_traced, .int o_30, .int s_t_isParted, .int s_t_isKept, .ref a_t_keptRow, .int s_t_movedTo, .ref a_t_single])), (a_t_traced, .inl (cI, 30, .inl o_31))]) rfl (fun H locs hP hD hS => ?_)
          refine lv_isub hx hb dX7_callsIt_62 ?_
          obtain ⟨rfl, rfl, rfl⟩ := pj3 hF
          exact hEnd _ _ _ _ _ dX7_callsIt_63 hP hS rfl
        · replace hF := if_f c_25 hF
          have hsw : (s_t_kind).toInt < 2 ∨ 5 < (s_t_kind).toInt := by
            have z0 := lv_neT c_1 (a := 2) (by decide)
            have z1 := lv_neT c_9 (a := 3) (by decide)
            have z2 := lv_neT c_17 (a := 4) (by decide)
            have z3 := lv_neT c_25 (a := 5) (by decide)
            omega
          refine lv_tableOut (tgt := 81) hx hb dX7_callsIt_4 hsw (by decide) ?_
          refine lv_aload_n hx hb dX7_callsIt_81 rfl (lv_at hl 0 rfl) ?_
          refine lv_iload_n hx hb dX7_callsIt_82 rfl (lv_at hl 1 rfl) ?_
          obtain ⟨r_33, o_34, o_35, hq_36, hF⟩ := bd3_e hF
          refine xri (xrunV (As := [.int i1]) (rest := []) (c_X7_plainCalls l D cI cB cJ a_t a_t_stand a_t_on a_t_marks a_t_rule a_t_tape a_t_freshStand a_t_freshMarks a_t_freshRule a_t_shares a_t_said a_t_rows a_t_must a_t_sorts a_t_sizes a_t_sheets a_t_holds a_t_heldNumber a_t_heldSize a_t_traced a_t_keptRow a_t_single _ s_t_villages s_t_held s_t_z s_t_tapeMany s_t_sort s_t_begins s_t_tokenEnds s_t_word s_t_value s_t_good s_t_freshVillages s_t_freshHeld s_t_rowMany s_t_mustMany s_t_kind s_t_number s_t_own s_t_bodies s_t_isParted s_t_isKept s_t_movedTo v_t_traced i1 r_33 o_34 o_35 hq_36) hfix xw_1150 yv_X7_plainCalls ⟨rfl, rfl⟩ ⟨(Nat.le_of_ble_eq_true rfl), (Nat.le_of_ble_eq_true rfl)⟩ xKk_K (fun U hU hW => xK.warm hW hK) hK.1 hP hD [0, 1] rfl rfl 0 7 rfl rfl rfl rfl hl.1 rfl (Nat.le_of_ble_eq_true rfl) dX7_callsIt_83 ⟨Nat.zero_le _, Nat.zero_le _⟩) hP hD hS hA [0, 1] rfl rfl rfl (wn := [(a_t, .inr (7, [.ref a_t_stand, .ref a_t_on, .ref a_t_marks, .int s_t_villages, .int s_t_held, .ref a_t_rule, .int s_t_z, .ref a_t_tape, .int s_t_tapeMany, .int s_t_sort, .int s_t_begins, .int s_t_tokenEnds, .long s_t_word, .int s_t_value, .int s_t_good, .int s_t_freshVillages, .int s_t_freshHeld, .ref a_t_freshStand, .ref a_t_freshMarks, .ref a_t_freshRule, .ref a_t_shares, .ref a_t_said, .ref a_t_rows, .ref a_t_must, .int s_t_rowMany, .int s_t_mustMany, .ref a_t_sorts, .ref a_t_sizes, .ref a_t_sheets, .ref a_t_holds, .ref a_t_heldNumber, .ref a_t_heldSize, .int s_t_kind, .int s_t_number, .int s_t_own, .ref a_t_traced, .int o_34, .int s_t_isParted, .int s_t_isKept, .ref a_t_keptRow, .int s_t_movedTo, .ref a_t_single])), (a_t_traced, .inl (cI, 30, .inl o_35))]) rfl (fun H locs hP hD hS => ?_)
          obtain ⟨rfl, rfl, rfl⟩ := pj3 hF
          exact hEnd _ _ _ _ _ dX7_callsIt_86 hP hS rfl
