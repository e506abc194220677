def f_X7_years_L78 (i4 : Int32) (i1 : Int32) (i2 : Int32) (v_t_sheets : (Nat → Int64)) (i3 : Int32) : Nat → Int32 → Int32 → (Nat → Int32) → Option (Int32 × (Nat → Int32))
  | 0, _, _, _ => none
  | n + 1, x6_14, x7_15, xv_t_stand_16 => (if i4 ≤ x7_15 then some ((x6_14, xv_t_stand_16)) else gd ((((40 : Int32) * i1) + i2) + x7_15) 160 (lt1 ((if (lg_cmp (v_t_sheets ((((40 : Int32) * i1) + i2) + x7_15).toNatClampNeg) (0 : Int64)) < (0 : Int32) then ((0 : Int32)) else (if (0 : Int32) < (lg_cmp (v_t_sheets ((((40 : Int32) * i1) + i2) + x7_15).toNatClampNeg) (9 : Int64)) then ((0 : Int32)) else ((1 : Int32))))) (fun (j_21 : Int32) => lt1 ((if j_21 = (0 : Int32) then ((-1 : Int32)) else (((v_t_sheets ((((40 : Int32) * i1) + i2) + x7_15).toNatClampNeg).toInt32)))) (fun (j_23 : Int32) => gd (i3 + x7_15) 100 ((if j_21 = (0 : Int32) then f_X7_years_L78 i4 i1 i2 v_t_sheets i3 n (x6_14 + (0 : Int32)) (x7_15 + (1 : Int32)) (upd xv_t_stand_16 (i3 + x7_15).toNatClampNeg j_23) else f_X7_years_L78 i4 i1 i2 v_t_sheets i3 n (x6_14 + (1 : Int32)) (x7_15 + (1 : Int32)) (upd xv_t_stand_16 (i3 + x7_15).toNatClampNeg j_23)))))))
def f_X7_years (i1 : Int32) (i2 : Int32) (i3 : Int32) (i4 : Int32) (v_t_sorts : (Nat → Int32)) (v_t_sizes : (Nat → Int32)) (v_t_sheets : (Nat → Int64)) (v_t_stand : (Nat → Int32)) : Option (Int32 × (Nat → Int32)) := (if (f_X7_isShelf i1) = (0 : Int32) then some (((-1 : Int32), v_t_stand)) else (if (f_X7_isYear i3) = (0 : Int32) then some (((-1 : Int32), v_t_stand)) else (if (f_X7_in i4 (0 : Int32) (24 : Int32)) = (0 : Int32) then some (((-1 : Int32), v_t_stand)) else (if (i3 + i4) ≤ (24 : Int32) then bd1 (f_X7_lacksSort i1 (0 : Int32) v_t_sorts) (fun (r_8 : Int32) => (if r_8 = (0 : Int32) then (if i2 < (0 : Int32) then some (((-12 : Int32), v_t_stand)) else gd i1 4 ((if i2 ≤ ((v_t_sizes i1.toNatClampNeg) - i4) then bd2 (f_X7_years_L78 i4 i1 i2 v_t_sheets i3 1000 (0 : Int32) (0 : Int32) v_t_stand) (fun (y6_17 : Int32) (yv_t_stand_18 : (Nat → Int32)) => some ((y6_17, yv_t_stand_18))) else some (((-12 : Int32), v_t_stand))))) else some ((r_8, v_t_stand)))) else some (((-1 : Int32), v_t_stand))))))
abbrev rmX7_years : Room := { frames := 2, cells := 0, slots := 0, locals := 42 }
set_option maxHeartbeats 400000 in
set_option maxRecDepth 100000 in
theorem c_X7_years (l : Launch) (D : va_G) (cI cB cJ : ClassId) (a_t : Nat) (a_t_stand : Nat) (a_t_on : Nat) (a_t_marks : Nat) (a_t_rule : Nat) (a_t_tape : Nat) (a_t_freshStand : Nat) (a_t_freshMarks : Nat) (a_t_freshRule : Nat) (a_t_shares : Nat) (a_t_said : Nat) (a_t_rows : Nat) (a_t_must : Nat) (a_t_sorts : Nat) (a_t_sizes : Nat) (a_t_sheets : Nat) (a_t_holds : Nat) (a_t_heldNumber : Nat) (a_t_heldSize : Nat) (a_t_traced : Nat) (a_t_keptRow : Nat) (a_t_single : Nat) (sz : Nat) (s_t_villages : Int32) (s_t_held : Int32) (s_t_z : Int32) (s_t_tapeMany : Int32) (s_t_sort : Int32) (s_t_begins : Int32) (s_t_tokenEnds : Int32) (s_t_word : Int64) (s_t_value : Int32) (s_t_good : Int32) (s_t_freshVillages : Int32) (s_t_freshHeld : Int32) (s_t_rowMany : Int32) (s_t_mustMany : Int32) (s_t_kind : Int32) (s_t_number : Int32) (s_t_own : Int32) (s_t_bodies : Int32) (s_t_isParted : Int32) (s_t_isKept : Int32) (s_t_movedTo : Int32) (v_t_sorts : (Nat → Int32)) (v_t_sizes : (Nat → Int32)) (v_t_sheets : (Nat → Int64)) (v_t_stand : (Nat → Int32)) (i1 : Int32) (i2 : Int32) (i3 : Int32) (i4 : Int32) (r : Int32) (o_v_t_stand : (Nat → Int32)) (hF : f_X7_years i1 i2 i3 i4 v_t_sorts v_t_sizes v_t_sheets v_t_stand = some (r, o_v_t_stand)) : xMi l yX7_years (.code yX7_years cX7_years 11 (some .int) :: xU) rmX7_years (xK D cI cB cJ) D sz [.ref a_t, .int i1, .int i2, .int i3, .int i4] [(a_t, .inr (7, [.ref a_t_stand, .ref a_t_on, .ref a_t_marks, .int s_t_villages, .int s_t_held, .ref a_t_rule, .int s_t_z, .ref a_t_tape, .int s_t_tapeMany, .int s_t_sort, .int s_t_begins, .int s_t_tokenEnds, .long s_t_word, .int s_t_value, .int s_t_good, .int s_t_freshVillages, .int s_t_freshHeld, .ref a_t_freshStand, .ref a_t_freshMarks, .ref a_t_freshRule, .ref a_t_shares, .ref a_t_said, .ref a_t_rows, .ref a_t_must, .int s_t_rowMany, .int s_t_mustMany, .ref a_t_sorts, .ref a_t_sizes, .ref a_t_sheets, .ref a_t_holds, .ref a_t_heldNumber, .ref a_t_heldSize, .int s_t_kind, .int s_t_number, .int s_t_own, .ref a_t_traced, .int s_t_bodies, .int s_t_isParted, .int s_t_isKept, .ref a_t_keptRow, .int s_t_movedTo, .ref a_t_single])), (a_t_sorts, .inl (cI, 4, .inl v_t_sorts)), (a_t_sizes, .inl (cI, 4, .inl v_t_sizes)), (a_t_sheets, .inl (cJ, 160, .inr (.inl v_t_sheets))), (a_t_stand, .inl (cI, 100, .inl v_t_stand))] [(a_t, .inr (7, [.ref a_t_stand, .ref a_t_on, .ref a_t_marks, .int s_t_villages, .int s_t_held, .ref a_t_rule, .int s_t_z, .ref a_t_tape, .int s_t_tapeMany, .int s_t_sort, .int s_t_begins, .int s_t_tokenEnds, .long s_t_word, .int s_t_value, .int s_t_good, .int s_t_freshVillages, .int s_t_freshHeld, .ref a_t_freshStand, .ref a_t_freshMarks, .ref a_t_freshRule, .ref a_t_shares, .ref a_t_said, .ref a_t_rows, .ref a_t_must, .int s_t_rowMany, .int s_t_mustMany, .ref a_t_sorts, .ref a_t_sizes, .ref a_t_sheets, .ref a_t_holds, .ref a_t_heldNumber, .ref a_t_heldSize, .int s_t_kind, .int s_t_number, .int s_t_own, .ref a_t_traced, .int s_t_bodies, .int s_t_isParted, .int s_t_isKept, .ref a_t_keptRow, .int s_t_movedTo, .ref a_t_single])), (a_t_sorts, .inl (cI, 4, .inl v_t_sorts)), (a_t_sizes, .inl (cI, 4, .inl v_t_sizes)), (a_t_sheets, .inl (cJ, 160, .inr (.inl v_t_sheets))), (a_t_stand, .inl (cI, 100, .inl o_v_t_stand))] r := by
  refine xMi.mk (own := "FairNextModel") (by decide +kernel) rfl (Nat.le_of_ble_eq_true rfl) ?_
  intro p e s m args below meth c A Q ls H hfix hK hP hD hA hS hl hEnd
  obtain ⟨hx, hb, hml, hown, hts⟩ := id hfix
  have hl : lv_has ls 11 [(0, .ref a_t), (1, .int i1), (2, .int i2), (3, .int i3), (4, .int i4)] := hl
  rw [f_X7_years] at hF
  refine lv_iload_n hx hb dX7_years_0 rfl (lv_at hl 1 rfl) ?_
  refine xrz0 (xrunS (As := [.int i1]) (rest := []) (c_X7_isShelf l D cI cB cJ _ i1 (f_X7_isShelf i1) rfl) hfix xw_1099 ys_X7_isShelf ⟨rfl, rfl⟩ ⟨(Nat.le_of_ble_eq_true rfl), (Nat.le_of_ble_eq_true rfl)⟩ xKk_K (fun U hU hW => xK.warm hW hK) hP hD [] rfl rfl rfl hl.1 rfl (Nat.le_of_ble_eq_true rfl) dX7_years_1 ⟨Nat.zero_le _, Nat.zero_le _⟩) hP hD hS hA [] rfl rfl (fun H locs hP hD hS hz_1 => ?_)
  refine lv_if_eq (tgt := 34) hx hb dX7_years_4 (by decide) (fun c_2 => ?_) (fun c_2 => ?_)
  · replace hF := if_t c_2 hF
    refine lv_iconst (v := (-1 : Int32)) hx hb dX7_years_34 (by decide) ?_
    obtain ⟨rfl, rfl⟩ := pj2 hF
    exact hEnd _ _ _ _ _ dX7_years_35 hP hS rfl
  · replace hF := if_f c_2 hF
    refine lv_iload_n hx hb dX7_years_7 rfl (lv_at hl 3 rfl) ?_
    refine xrz0 (xrunS (As := [.int i3]) (rest := []) (c_X7_isYear l D cI cB cJ _ i3 (f_X7_isYear i3) rfl) hfix xw_895 ys_X7_isYear ⟨rfl, rfl⟩ ⟨(Nat.le_of_ble_eq_true rfl), (Nat.le_of_ble_eq_true rfl)⟩ xKk_K (fun U hU hW => xK.warm hW hK) hP hD [] rfl rfl rfl hl.1 rfl (Nat.le_of_ble_eq_true rfl) dX7_years_8 ⟨Nat.zero_le _, Nat.zero_le _⟩) hP hD hS hA [] rfl rfl (fun H locs hP hD hS hz_3 => ?_)
    refine lv_if_eq (tgt := 34) hx hb dX7_years_11 (by decide) (fun c_4 => ?_) (fun c_4 => ?_)
    · replace hF := if_t c_4 hF
      refine lv_iconst (v := (-1 : Int32)) hx hb dX7_years_34 (by decide) ?_
      obtain ⟨rfl, rfl⟩ := pj2 hF
      exact hEnd _ _ _ _ _ dX7_years_35 hP hS rfl
    · replace hF := if_f c_4 hF
      refine lv_iload hx hb dX7_years_14 (lv_at hl 4 rfl) ?_
      refine lv_iconst (v := (0 : Int32)) hx hb dX7_years_16 (by decide) ?_
      refine lv_bipush (v := (24 : Int32)) hx hb dX7_years_17 (by decide) ?_
      refine xrz0 (xrunS (As := [.int i4, .int (0 : Int32), .int (24 : Int32)]) (rest := []) (c_X7_in l D cI cB cJ _ i4 (0 : Int32) (24 : Int32) (f_X7_in i4 (0 : Int32) (24 : Int32)) rfl) hfix xw_819 ys_X7_in ⟨rfl, rfl⟩ ⟨(Nat.le_of_ble_eq_true rfl), (Nat.le_of_ble_eq_true rfl)⟩ xKk_K (fun U hU hW => xK.warm hW hK) hP hD [] rfl rfl rfl hl.1 rfl (Nat.le_of_ble_eq_true rfl) dX7_years_19 ⟨Nat.zero_le _, Nat.zero_le _⟩) hP hD hS hA [] rfl rfl (fun H locs hP hD hS hz_5 => ?_)
      refine lv_if_eq (tgt := 34) hx hb dX7_years_22 (by decide) (fun c_6 => ?_) (fun c_6 => ?_)
      · replace hF := if_t c_6 hF
        refine lv_iconst (v := (-1 : Int32)) hx hb dX7_years_34 (by decide) ?_
        obtain ⟨rfl, rfl⟩ := pj2 hF
        exact hEnd _ _ _ _ _ dX7_years_35 hP hS rfl
      · replace hF := if_f c_6 hF
        refine lv_iload_n hx hb dX7_years_25 rfl (lv_at hl 3 rfl) ?_
        refine lv_iload hx hb dX7_years_26 (lv_at hl 4 rfl) ?_
        refine lv_iadd hx hb dX7_years_28 ?_
        refine lv_bipush (v := (24 : Int32)) hx hb dX7_years_29 (by decide) ?_
        refine lv_icmp_le (tgt := 36) hx hb dX7_years_31 (by decide) (fun c_7 => ?_) (fun c_7 => ?_)
        · replace hF := if_t c_7 hF
          refine lv_aload_n hx hb dX7_years_36 rfl (lv_at hl 0 rfl) ?_
          refine lv_iload_n hx hb dX7_years_37 rfl (lv_at hl 1 rfl) ?_
          refine lv_iconst (v := (0 : Int32)) hx hb dX7_years_38 (by decide) ?_
          obtain ⟨r_8, hq_9, hF⟩ := bd1_e hF
          refine xri0 (xrunV (As := [.int i1, .int (0 : Int32)]) (rest := []) (c_X7_lacksSort l D cI cB cJ a_t a_t_stand a_t_on a_t_marks a_t_rule a_t_tape a_t_freshStand a_t_freshMarks a_t_freshRule a_t_shares a_t_said a_t_rows a_t_must a_t_sorts a_t_sizes a_t_sheets a_t_holds a_t_heldNumber a_t_heldSize a_t_traced a_t_keptRow a_t_single _ s_t_villages s_t_held s_t_z s_t_tapeMany s_t_sort s_t_begins s_t_tokenEnds s_t_word s_t_value s_t_good s_t_freshVillages s_t_freshHeld s_t_rowMany s_t_mustMany s_t_kind s_t_number s_t_own s_t_bodies s_t_isParted s_t_isKept s_t_movedTo v_t_sorts i1 (0 : Int32) r_8 hq_9) hfix xw_1102 yv_X7_lacksSort ⟨rfl, rfl⟩ ⟨(Nat.le_of_ble_eq_true rfl), (Nat.le_of_ble_eq_true rfl)⟩ xKk_K (fun U hU hW => xK.warm hW hK) hK.1 hP hD [0, 1] rfl rfl 0 7 rfl rfl rfl rfl hl.1 rfl (Nat.le_of_ble_eq_true rfl) dX7_years_39 ⟨Nat.zero_le _, Nat.zero_le _⟩) hP hD hS hA [0, 1] rfl rfl (fun H locs hP hD hS => ?_)
          refine lv_istore (lv' := [(5, .int r_8), (0, .ref a_t), (1, .int i1), (2, .int i2), (3, .int i3), (4, .int i4)]) hx hb dX7_years_42 hl (by decide) rfl (fun ls hl => ?_)
          refine lv_iload hx hb dX7_years_44 (lv_at hl 0 rfl) ?_
          refine lv_if_eq (tgt := 52) hx hb dX7_years_46 (by decide) (fun c_10 => ?_) (fun c_10 => ?_)
          · replace hF := if_t c_10 hF
            refine lv_iload_n hx hb dX7_years_52 rfl (lv_at hl 3 rfl) ?_
            refine lv_if_lt (tgt := 69) hx hb dX7_years_53 (by decide) (fun c_11 => ?_) (fun c_11 => ?_)
            · replace hF := if_t c_11 hF
              refine lv_bipush (v := (-12 : Int32)) hx hb dX7_years_69 (by decide) ?_
              obtain ⟨rfl, rfl⟩ := pj2 hF
              exact hEnd _ _ _ _ _ dX7_years_71 hP hS rfl
            · replace hF := if_f c_11 hF
              refine lv_iload_n hx hb dX7_years_56 rfl (lv_at hl 3 rfl) ?_
              refine lv_aload_n hx hb dX7_years_57 rfl (lv_at hl 1 rfl) ?_
              refine xget (ci := 7) (C := RX7) (T := TX7) (N := 42) hfix xiX7 hK.1 hP 0 rfl rfl 27 (by decide) rfl xw_715 rfl dX7_years_58 ?_
              refine lv_iload_n hx hb dX7_years_61 rfl (lv_at hl 2 rfl) ?_
              obtain ⟨c_12, hF⟩ := gd_e hF
              refine va_iald hx hb hK.1 hP 2 0 rfl rfl c_12 dX7_years_62 ?_
              refine lv_iload hx hb dX7_years_63 (lv_at hl 5 rfl) ?_
              refine lv_isub hx hb dX7_years_65 ?_
              refine lv_icmp_le (tgt := 72) hx hb dX7_years_66 (by decide) (fun c_13 => ?_) (fun c_13 => ?_)
              · replace hF := if_t c_13 hF
                refine lv_iconst (v := (0 : Int32)) hx hb dX7_years_72 (by decide) ?_
                refine lv_istore (lv' := [(6, .int (0 : Int32)), (5, .int r_8), (0, .ref a_t), (1, .int i1), (2, .int i2), (3, .int i3), (4, .int i4)]) hx hb dX7_years_73 hl (by decide) rfl (fun ls hl => ?_)
                refine lv_iconst (v := (0 : Int32)) hx hb dX7_years_75 (by decide) ?_
                refine lv_istore (lv' := [(7, .int (0 : Int32)), (6, .int (0 : Int32)), (5, .int r_8), (0, .ref a_t), (1, .int i1), (2, .int i2), (3, .int i3), (4, .int i4)]) hx hb dX7_years_76 hl (by decide) rfl (fun ls hl => ?_)
                have hL_78 : ∀ (n : Nat) (x6_14 : Int32) (x7_15 : Int32) (xv_t_stand_16 : (Nat → Int32)) (y6_17 : Int32) (yv_t_stand_18 : (Nat → Int32)), f_X7_years_L78 i4 i1 i2 v_t_sheets i3 n x6_14 x7_15 xv_t_stand_16 = some (y6_17, yv_t_stand_18) → ∀ (H : Heap) (locs : List Loc) (ls : Array Slot), va_P D vwCl [(a_t, .inr (7, [.ref a_t_stand, .ref a_t_on, .ref a_t_marks, .int s_t_villages, .int s_t_held, .ref a_t_rule, .int s_t_z, .ref a_t_tape, .int s_t_tapeMany, .int s_t_sort, .int s_t_begins, .int s_t_tokenEnds, .long s_t_word, .int s_t_value, .int s_t_good, .int s_t_freshVillages, .int s_t_freshHeld, .ref a_t_freshStand, .ref a_t_freshMarks, .ref a_t_freshRule, .ref a_t_shares, .ref a_t_said, .ref a_t_rows, .ref a_t_must, .int s_t_rowMany, .int s_t_mustMany, .ref a_t_sorts, .ref a_t_sizes, .ref a_t_sheets, .ref a_t_holds, .ref a_t_heldNumber, .ref a_t_heldSize, .int s_t_kind, .int s_t_number, .int s_t_own, .ref a_t_traced, .int s_t_bodies, .int s_t_isParted, .int s_t_isKept, .ref a_t_keptRow, .int s_t_movedTo, .ref a_t_single])), (a_t_sorts, .inl (cI, 4, .inl v_t_sorts)), (a_t_sizes, .inl (cI, 4, .inl v_t_sizes)), (a_t_sheets, .inl (cJ, 160, .inr (.inl v_t_sheets))), (a_t_stand, .inl (cI, 100, .inl xv_t_stand_16))] H → va_D A [(a_t, .inr (7, [.ref a_t_stand, .ref a_t_on, .ref a_t_marks, .int s_t_villages, .int s_t_held, .ref a_t_rule, .int s_t_z, .ref a_t_tape, .int s_t_tapeMany, .int s_t_sort, .int s_t_begins, .int s_t_tokenEnds, .long s_t_word, .int s_t_value, .int s_t_good, .int s_t_freshVillages, .int s_t_freshHeld, .ref a_t_freshStand, .ref a_t_freshMarks, .ref a_t_freshRule, .ref a_t_shares, .ref a_t_said, .ref a_t_rows, .ref a_t_must, .int s_t_rowMany, .int s_t_mustMany, .ref a_t_sorts, .ref a_t_sizes, .ref a_t_sheets, .ref a_t_holds, .ref a_t_heldNumber, .ref a_t_heldSize, .int s_t_kind, .int s_t_number, .int s_t_own, .ref a_t_traced, .int s_t_bodies, .int s_t_isParted, .int s_t_isKept, .ref a_t_keptRow, .int s_t_movedTo, .ref a_t_single])), (a_t_sorts, .inl (cI, 4, .inl v_t_sorts)), (a_t_sizes, .inl (cI, 4, .inl v_t_sizes)), (a_t_sheets, .inl (cJ, 160, .inr (.inl v_t_sheets))), (a_t_stand, .inl (cI, 100, .inl xv_t_stand_16))] → va_S A s.heap H locs → lv_has ls 11 [(0, .ref a_t), (1, .int i1), (2, .int i2), (3, .int i3), (4, .int i4), (6, .int x6_14), (7, .int x7_15)] → (∀ (H : Heap) (locs : List Loc) (ls : Array Slot), va_P D vwCl [(a_t, .inr (7, [.ref a_t_stand, .ref a_t_on, .ref a_t_marks, .int s_t_villages, .int s_t_held, .ref a_t_rule, .int s_t_z, .ref a_t_tape, .int s_t_tapeMany, .int s_t_sort, .int s_t_begins, .int s_t_tokenEnds, .long s_t_word, .int s_t_value, .int s_t_good, .int s_t_freshVillages, .int s_t_freshHeld, .ref a_t_freshStand, .ref a_t_freshMarks, .ref a_t_freshRule, .ref a_t_shares, .ref a_t_said, .ref a_t_rows, .ref a_t_must, .int s_t_rowMany, .int s_t_mustMany, .ref a_t_sorts, .ref a_t_sizes, .ref a_t_sheets, .ref a_t_holds, .ref a_t_heldNumber, .ref a_t_heldSize, .int s_t_kind, .int s_t_number, .int s_t_own, .ref a_t_traced, .int s_t_bodies, .int s_t_isParted, .int s_t_isKept, .ref a_t_keptRow, .int s_t_movedTo, .ref a_t_single])), (a_t_sorts, .inl (cI, 4, .inl v_t_sorts)), (a_t_sizes, .inl (cI, 4, .inl v_t_sizes)), (a_t_sheets, .inl (cJ, 160, .inr (.inl v_t_sheets))), (a_t_stand, .inl (cI, 100, .inl yv_t_stand_18))] H → va_D A [(a_t, .inr (7, [.ref a_t_stand, .ref a_t_on, .ref a_t_marks, .int s_t_villages, .int s_t_held, .ref a_t_rule, .int s_t_z, .ref a_t_tape, .int s_t_tapeMany, .int s_t_sort, .int s_t_begins, .int s_t_tokenEnds, .long s_t_word, .int s_t_value, .int s_t_good, .int s_t_freshVillages, .int s_t_freshHeld, .ref a_t_freshStand, .ref a_t_freshMarks, .ref a_t_freshRule, .ref a_t_shares, .ref a_t_said, .ref a_t_rows, .ref a_t_must, .int s_t_rowMany, .int s_t_mustMany, .ref a_t_sorts, .ref a_t_sizes, .ref a_t_sheets, .ref a_t_holds, .ref a_t_heldNumber, .ref a_t_heldSize, .int s_t_kind, .int s_t_number, .int s_t_own, .ref a_t_traced, .int s_t_bodies, .int s_t_isParted, .int s_t_isKept, .ref a_t_keptRow, .int s_t_movedTo, .ref a_t_single])), (a_t_sorts, .inl (cI, 4, .inl v_t_sorts)), (a_t_sizes, .inl (cI, 4, .inl v_t_sizes)), (a_t_sheets, .inl (cJ, 160, .inr (.inl v_t_sheets))), (a_t_stand, .inl (cI, 100, .inl yv_t_stand_18))] → va_S A s.heap H locs → lv_has ls 11 [(6, .int y6_17)] → W p l e rmX7_years s m args below meth c H locs 0 0 Q (F0 m 166 ls [])) → W p l e rmX7_years s m args below meth c H locs 0 0 Q (F0 m 78 ls []) := by
                  intro n
                  induction n with
                  | zero => intro x6_14 x7_15 xv_t_stand_16 y6_17 yv_t_stand_18 hF; exact (no_some hF).elim
                  | succ n ih =>
                    intro x6_14 x7_15 xv_t_stand_16 y6_17 yv_t_stand_18 hF H locs ls hP hD hS hl kexit
                    rw [f_X7_years_L78] at hF
                    refine lv_iload hx hb dX7_years_78 (lv_at hl 6 rfl) ?_
                    refine lv_iload hx hb dX7_years_80 (lv_at hl 4 rfl) ?_
                    refine lv_icmp_ge (tgt := 166) hx hb dX7_years_82 (by decide) (fun c_19 => ?_) (fun c_19 => ?_)
                    · replace hF := if_t c_19 hF
                      obtain ⟨rfl, rfl⟩ := pj2 hF
                      exact kexit _ _ _ hP hD hS (lv_sub hl [5] rfl)
                    · replace hF := if_f c_19 hF
                      refine lv_aload_n hx hb dX7_years_85 rfl (lv_at hl 0 rfl) ?_
                      refine xget (ci := 7) (C := RX7) (T := TX7) (N := 42) hfix xiX7 hK.1 hP 0 rfl rfl 28 (by decide) rfl xw_716 rfl dX7_years_86 ?_
                      refine lv_bipush (v := (40 : Int32)) hx hb dX7_years_89 (by decide) ?_
                      refine lv_iload_n hx hb dX7_years_91 rfl (lv_at hl 1 rfl) ?_
                      refine lv_imul hx hb dX7_years_92 ?_
                      refine lv_iload_n hx hb dX7_years_93 rfl (lv_at hl 2 rfl) ?_
                      refine lv_iadd hx hb dX7_years_94 ?_
                      refine lv_iload hx hb dX7_years_95 (lv_at hl 6 rfl) ?_
                      refine lv_iadd hx hb dX7_years_97 ?_
                      obtain ⟨c_20, hF⟩ := gd_e hF
                      refine va_lald hx hb hK.1 hP 3 2 rfl rfl c_20 dX7_years_98 ?_
                      refine lv_lstore (lv' := [(8, .long (v_t_sheets ((((40 : Int32) * i1) + i2) + x7_15).toNatClampNeg)), (0, .ref a_t), (1, .int i1), (2, .int i2), (3, .int i3), (4, .int i4), (6, .int x6_14), (7, .int x7_15)]) hx hb dX7_years_99 hl (by decide) rfl (fun ls hl => ?_)
                      refine lv_lload hx hb dX7_years_101 (lv_at hl 0 rfl) ?_
                      refine lv_lconst (v := (0 : Int64)) hx hb dX7_years_103 (by decide) ?_
                      refine W.lcmp hx hb dX7_years_104 ?_
                      obtain ⟨j_21, hJ, hF⟩ := lt1_e hF
                      have hN_122_22 : x01 j_21 → ∀ (H : Heap) (locs : List Loc) (ls : Array Slot), va_P D vwCl [(a_t, .inr (7, [.ref a_t_stand, .ref a_t_on, .ref a_t_marks, .int s_t_villages, .int s_t_held, .ref a_t_rule, .int s_t_z, .ref a_t_tape, .int s_t_tapeMany, .int s_t_sort, .int s_t_begins, .int s_t_tokenEnds, .long s_t_word, .int s_t_value, .int s_t_good, .int s_t_freshVillages, .int s_t_freshHeld, .ref a_t_freshStand, .ref a_t_freshMarks, .ref a_t_freshRule, .ref a_t_shares, .ref a_t_said, .ref a_t_rows, .ref a_t_must, .int s_t_rowMany, .int s_t_mustMany, .ref a_t_sorts, .ref a_t_sizes, .ref a_t_sheets, .ref a_t_holds, .ref a_t_heldNumber, .ref a_t_heldSize, .int s_t_kind, .int s_t_number, .int s_t_own, .ref a_t_traced, .int s_t_bodies, .int s_t_isParted, .int s_t_isKept, .ref a_t_keptRow, .int s_t_movedTo, .ref a_t_single])), (a_t_sorts, .inl (cI, 4, .inl v_t_sorts)), (a_t_sizes, .inl (cI, 4, .inl v_t_sizes)), (a_t_sheets, .inl (cJ, 160, .inr (.inl v_t_sheets))), (a_t_stand, .inl (cI, 100, .inl xv_t_stand_16))] H → va_D A [(a_t, .inr (7, [.ref a_t_stand, .ref a_t_on, .ref a_t_marks, .int s_t_villages, .int s_t_held, .ref a_t_rule, .int s_t_z, .ref a_t_tape, .int s_t_tapeMany, .int s_t_sort, .int s_t_begins, .int s_t_tokenEnds, .long s_t_word, .int s_t_value, .int s_t_good, .int s_t_freshVillages, .int s_t_freshHeld, .ref a_t_freshStand, .ref a_t_freshMarks, .ref a_t_freshRule, .ref a_t_shares, .ref a_t_said, .ref a_t_rows, .ref a_t_must, .int s_t_rowMany, .int s_t_mustMany, .ref a_t_sorts, .ref a_t_sizes, .ref a_t_sheets, .ref a_t_holds, .ref a_t_heldNumber, .ref a_t_heldSize, .int s_t_kind, .int s_t_number, .int s_t_own, .ref a_t_traced, .int s_t_bodies, .int s_t_isParted, .int s_t_isKept, .ref a_t_keptRow, .int s_t_movedTo, .ref a_t_single])), (a_t_sorts, .inl (cI, 4, .inl v_t_sorts)), (a_t_sizes, .inl (cI, 4, .inl v_t_sizes)), (a_t_sheets, .inl (cJ, 160, .inr (.inl v_t_sheets))), (a_t_stand, .inl (cI, 100, .inl xv_t_stand_16))] → va_S A s.heap H locs → lv_has ls 11 [(0, .ref a_t), (1, .int i1), (2, .int i2), (3, .int i3), (4, .int i4), (6, .int x6_14), (7, .int x7_15), (8, .long (v_t_sheets ((((40 : Int32) * i1) + i2) + x7_15).toNatClampNeg))] → W p l e rmX7_years s m args below meth c H locs 0 0 Q (F0 m 122 ls [.int j_21]) := by
                        intro h01_22 H locs ls hP hD hS hl
                        refine lv_istore (lv' := [(10, .int j_21), (0, .ref a_t), (1, .int i1), (2, .int i2), (3, .int i3), (4, .int i4), (6, .int x6_14), (7, .int x7_15), (8, .long (v_t_sheets ((((40 : Int32) * i1) + i2) + x7_15).toNatClampNeg))]) hx hb dX7_years_122 hl (by decide) rfl (fun ls hl => ?_)
                        refine lv_aload_n hx hb dX7_years_124 rfl (lv_at hl 1 rfl) ?_
                        refine xget (ci := 7) (C := RX7) (T := TX7) (N := 42) hfix xiX7 hK.1 hP 0 rfl rfl 0 (by decide) rfl xw_688 rfl dX7_years_125 ?_
                        refine lv_iload_n hx hb dX7_years_128 rfl (lv_at hl 4 rfl) ?_
                        refine lv_iload hx hb dX7_years_129 (lv_at hl 7 rfl) ?_
                        refine lv_iadd hx hb dX7_years_131 ?_
                        refine lv_iload hx hb dX7_years_132 (lv_at hl 0 rfl) ?_
                        obtain ⟨j_23, hJ, hF⟩ := lt1_e hF
                        have hN_144_23 : ∀ (H : Heap) (locs : List Loc) (ls : Array Slot), va_P D vwCl [(a_t, .inr (7, [.ref a_t_stand, .ref a_t_on, .ref a_t_marks, .int s_t_villages, .int s_t_held, .ref a_t_rule, .int s_t_z, .ref a_t_tape, .int s_t_tapeMany, .int s_t_sort, .int s_t_begins, .int s_t_tokenEnds, .long s_t_word, .int s_t_value, .int s_t_good, .int s_t_freshVillages, .int s_t_freshHeld, .ref a_t_freshStand, .ref a_t_freshMarks, .ref a_t_freshRule, .ref a_t_shares, .ref a_t_said, .ref a_t_rows, .ref a_t_must, .int s_t_rowMany, .int s_t_mustMany, .ref a_t_sorts, .ref a_t_sizes, .ref a_t_sheets, .ref a_t_holds, .ref a_t_heldNumber, .ref a_t_heldSize, .int s_t_kind, .int s_t_number, .int s_t_own, .ref a_t_traced, .int s_t_bodies, .int s_t_isParted, .int s_t_isKept, .ref a_t_keptRow, .int s_t_movedTo, .ref a_t_single])), (a_t_sorts, .inl (cI, 4, .inl v_t_sorts)), (a_t_sizes, .inl (cI, 4, .inl v_t_sizes)), (a_t_sheets, .inl (cJ, 160, .inr (.inl v_t_sheets))), (a_t_stand, .inl (cI, 100, .inl xv_t_stand_16))] H → va_D A [(a_t, .inr (7, [.ref a_t_stand, .ref a_t_on, .ref a_t_marks, .int s_t_villages, .int s_t_held, .ref a_t_rule, .int s_t_z, .ref a_t_tape, .int s_t_tapeMany, .int s_t_sort, .int s_t_begins, .int s_t_tokenEnds, .long s_t_word, .int s_t_value, .int s_t_good, .int s_t_freshVillages, .int s_t_freshHeld, .ref a_t_freshStand, .ref a_t_freshMarks, .ref a_t_freshRule, .ref a_t_shares, .ref a_t_said, .ref a_t_rows, .ref a_t_must, .int s_t_rowMany, .int s_t_mustMany, .ref a_t_sorts, .ref a_t_sizes, .ref a_t_sheets, .ref a_t_holds, .ref a_t_heldNumber, .ref a_t_heldSize, .int s_t_kind, .int s_t_number, .int s_t_own, .ref a_t_traced, .int s_t_bodies, .int s_t_isParted, .int s_t_isKept, .ref a_t_keptRow, .int s_t_movedTo, .ref a_t_single])), (a_t_sorts, .inl (cI, 4, .inl v_t_sorts)), (a_t_sizes, .inl (cI, 4, .inl v_t_sizes)), (a_t_sheets, .inl (cJ, 160, .inr (.inl v_t_sheets))), (a_t_stand, .inl (cI, 100, .inl xv_t_stand_16))] → va_S A s.heap H locs → lv_has ls 11 [(0, .ref a_t), (1, .int i1), (2, .int i2), (3, .int i3), (4, .int i4), (6, .int x6_14), (7, .int x7_15), (10, .int j_21)] → W p l e rmX7_years s m args below meth c H locs 0 0 Q (F0 m 144 ls [.int j_23, .int (i3 + x7_15), .ref a_t_stand]) := by
                          intro H locs ls hP hD hS hl
                          obtain ⟨c_24, hF⟩ := gd_e hF
                          refine va_iast hx hb hK.1 hP hD hS 4 0 rfl rfl c_24 dX7_years_144 (fun H locs hP hD hS => ?_)
                          have hP : va_P D vwCl [(a_t, .inr (7, [.ref a_t_stand, .ref a_t_on, .ref a_t_marks, .int s_t_villages, .int s_t_held, .ref a_t_rule, .int s_t_z, .ref a_t_tape, .int s_t_tapeMany, .int s_t_sort, .int s_t_begins, .int s_t_tokenEnds, .long s_t_word, .int s_t_value, .int s_t_good, .int s_t_freshVillages, .int s_t_freshHeld, .ref a_t_freshStand, .ref a_t_freshMarks, .ref a_t_freshRule, .ref a_t_shares, .ref a_t_said, .ref a_t_rows, .ref a_t_must, .int s_t_rowMany, .int s_t_mustMany, .ref a_t_sorts, .ref a_t_sizes, .ref a_t_sheets, .ref a_t_holds, .ref a_t_heldNumber, .ref a_t_heldSize, .int s_t_kind, .int s_t_number, .int s_t_own, .ref a_t_traced, .int s_t_bodies, .int s_t_isParted, .int s_t_isKept, .ref a_t_keptRow, .int s_t_movedTo, .ref a_t_single])), (a_t_sorts, .inl (cI, 4, .inl v_t_sorts)), (a_t_sizes, .inl (cI, 4, .inl v_t_sizes)), (a_t_sheets, .inl (cJ, 160, .inr (.inl v_t_sheets))), (a_t_stand, .inl (cI, 100, .inl (upd xv_t_stand_16 (i3 + x7_15).toNatClampNeg j_23)))] H := hP
                          have hD : va_D A [(a_t, .inr (7, [.ref a_t_stand, .ref a_t_on, .ref a_t_marks, .int s_t_villages, .int s_t_held, .ref a_t_rule, .int s_t_z, .ref a_t_tape, .int s_t_tapeMany, .int s_t_sort, .int s_t_begins, .int s_t_tokenEnds, .long s_t_word, .int s_t_value, .int s_t_good, .int s_t_freshVillages, .int s_t_freshHeld, .ref a_t_freshStand, .ref a_t_freshMarks, .ref a_t_freshRule, .ref a_t_shares, .ref a_t_said, .ref a_t_rows, .ref a_t_must, .int s_t_rowMany, .int s_t_mustMany, .ref a_t_sorts, .ref a_t_sizes, .ref a_t_sheets, .ref a_t_holds, .ref a_t_heldNumber, .ref a_t_heldSize, .int s_t_kind, .int s_t_number, .int s_t_own, .ref a_t_traced, .int s_t_bodies, .int s_t_isParted, .int s_t_isKept, .ref a_t_keptRow, .int s_t_movedTo, .ref a_t_single])), (a_t_sorts, .inl (cI, 4, .inl v_t_sorts)), (a_t_sizes, .inl (cI, 4, .inl v_t_sizes)), (a_t_sheets, .inl (cJ, 160, .inr (.inl v_t_sheets))), (a_t_stand, .inl (cI, 100, .inl (upd xv_t_stand_16 (i3 + x7_15).toNatClampNeg j_23)))] := hD
                          refine lv_iload hx hb dX7_years_145 (lv_at hl 5 rfl) ?_
                          refine lv_iload hx hb dX7_years_147 (lv_at hl 7 rfl) ?_
                          refine lv_if_eq (tgt := 156) hx hb dX7_years_149 (by decide) (fun c_25 => ?_) (fun c_25 => ?_)
                          · replace hF := if_t c_25 hF
                            refine lv_iconst (v := (0 : Int32)) hx hb dX7_years_156 (by decide) ?_
                            refine lv_iadd hx hb dX7_years_157 ?_
                            refine lv_istore (lv' := [(6, .int (x6_14 + (0 : Int32))), (0, .ref a_t), (1, .int i1), (2, .int i2), (3, .int i3), (4, .int i4), (7, .int x7_15), (10, .int j_21)]) hx hb dX7_years_158 hl (by decide) rfl (fun ls hl => ?_)
                            refine lv_iinc (v := (x7_15 + (1 : Int32))) (lv' := [(7, .int (x7_15 + (1 : Int32))), (6, .int (x6_14 + (0 : Int32))), (0, .ref a_t), (1, .int i1), (2, .int i2), (3, .int i3), (4, .int i4), (10, .int j_21)]) hx hb dX7_years_160 hl (k := 6) rfl rfl (by decide) rfl (fun ls hl => ?_)
                            refine lv_goto (tgt := 78) hx hb dX7_years_163 (by decide) ?_
                            exact ih _ _ _ _ _ hF _ _ _ hP hD hS (lv_sub hl [2, 3, 4, 5, 6, 1, 0] rfl) kexit
                          · replace hF := if_f c_25 hF
                            refine lv_iconst (v := (1 : Int32)) hx hb dX7_years_152 (by decide) ?_
                            refine lv_goto (tgt := 157) hx hb dX7_years_153 (by decide) ?_
                            refine lv_iadd hx hb dX7_years_157 ?_
                            refine lv_istore (lv' := [(6, .int (x6_14 + (1 : Int32))), (0, .ref a_t), (1, .int i1), (2, .int i2), (3, .int i3), (4, .int i4), (7, .int x7_15), (10, .int j_21)]) hx hb dX7_years_158 hl (by decide) rfl (fun ls hl => ?_)
                            refine lv_iinc (v := (x7_15 + (1 : Int32))) (lv' := [(7, .int (x7_15 + (1 : Int32))), (6, .int (x6_14 + (1 : Int32))), (0, .ref a_t), (1, .int i1), (2, .int i2), (3, .int i3), (4, .int i4), (10, .int j_21)]) hx hb dX7_years_160 hl (k := 6) rfl rfl (by decide) rfl (fun ls hl => ?_)
                            refine lv_goto (tgt := 78) hx hb dX7_years_163 (by decide) ?_
                            exact ih _ _ _ _ _ hF _ _ _ hP hD hS (lv_sub hl [2, 3, 4, 5, 6, 1, 0] rfl) kexit
                        replace hF := hJ
                        refine lv_if_eq (tgt := 143) hx hb dX7_years_134 (by decide) (fun c_26 => ?_) (fun c_26 => ?_)
                        · replace hF := if_t c_26 hF
                          refine lv_iconst (v := (-1 : Int32)) hx hb dX7_years_143 (by decide) ?_
                          subst hF
                          exact hN_144_23 _ _ _ hP hD hS (lv_sub hl [1, 2, 3, 4, 5, 6, 7, 0] rfl)
                        · replace hF := if_f c_26 hF
                          refine lv_lload hx hb dX7_years_137 (lv_at hl 8 rfl) ?_
                          refine lv_l2i (v := ((v_t_sheets ((((40 : Int32) * i1) + i2) + x7_15).toNatClampNeg).toInt32)) hx hb dX7_years_139 rfl ?_
                          refine lv_goto (tgt := 144) hx hb dX7_years_140 (by decide) ?_
                          subst hF
                          exact hN_144_23 _ _ _ hP hD hS (lv_sub hl [1, 2, 3, 4, 5, 6, 7, 0] rfl)
                      replace hF := hJ
                      refine lv_if_lt (tgt := 121) hx hb dX7_years_105 (by decide) (fun c_27 => ?_) (fun c_27 => ?_)
                      · replace hF := if_t c_27 hF
                        refine lv_iconst (v := (0 : Int32)) hx hb dX7_years_121 (by decide) ?_
                        subst hF
                        exact hN_122_22 x01_0 _ _ _ hP hD hS (lv_sub hl [1, 2, 3, 4, 5, 6, 7, 0] rfl)
                      · replace hF := if_f c_27 hF
                        refine lv_lload hx hb dX7_years_108 (lv_at hl 0 rfl) ?_
                        refine lv_ldc2 (v := (9 : Int64)) hx hb hown (hts _ (List.mem_cons_of_mem _ xk_1106)) dX7_years_110 ?_
                        refine W.lcmp hx hb dX7_years_113 ?_
                        refine lv_if_gt (tgt := 121) hx hb dX7_years_114 (by decide) (fun c_28 => ?_) (fun c_28 => ?_)
                        · replace hF := if_t c_28 hF
                          refine lv_iconst (v := (0 : Int32)) hx hb dX7_years_121 (by decide) ?_
                          subst hF
                          exact hN_122_22 x01_0 _ _ _ hP hD hS (lv_sub hl [1, 2, 3, 4, 5, 6, 7, 0] rfl)
                        · replace hF := if_f c_28 hF
                          refine lv_iconst (v := (1 : Int32)) hx hb dX7_years_117 (by decide) ?_
                          refine lv_goto (tgt := 122) hx hb dX7_years_118 (by decide) ?_
                          subst hF
                          exact hN_122_22 x01_1 _ _ _ hP hD hS (lv_sub hl [1, 2, 3, 4, 5, 6, 7, 0] rfl)
                obtain ⟨y6_17, yv_t_stand_18, hq, hF⟩ := bd2_e hF
                refine hL_78 _ _ _ _ _ _ hq _ _ _ hP hD hS (lv_sub hl [3, 4, 5, 6, 7, 1, 0] rfl) (fun H locs ls hP hD hS hl => ?_)
                refine lv_iload hx hb dX7_years_166 (lv_at hl 0 rfl) ?_
                obtain ⟨rfl, rfl⟩ := pj2 hF
                exact hEnd _ _ _ _ _ dX7_years_168 hP hS rfl
              · replace hF := if_f c_13 hF
                refine lv_bipush (v := (-12 : Int32)) hx hb dX7_years_69 (by decide) ?_
                obtain ⟨rfl, rfl⟩ := pj2 hF
                exact hEnd _ _ _ _ _ dX7_years_71 hP hS rfl
          · replace hF := if_f c_10 hF
            refine lv_iload hx hb dX7_years_49 (lv_at hl 0 rfl) ?_
            obtain ⟨rfl, rfl⟩ := pj2 hF
            exact hEnd _ _ _ _ _ dX7_years_51 hP hS rfl
        · replace hF := if_f c_7 hF
          refine lv_iconst (v := (-1 : Int32)) hx hb dX7_years_34 (by decide) ?_
          obtain ⟨rfl, rfl⟩ := pj2 hF
          exact hEnd _ _ _ _ _ dX7_years_35 hP hS rfl
