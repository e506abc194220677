def f_X6_feed (i1 : Int64) (i2 : Int32) (s_t_tape_count : Int32) (v_t_tape_bytes : (Nat → Int32)) : Option (Int32 × Int32 × (Nat → Int32)) := (if (f_X6_outside i2 (1 : Int32) (8 : Int32)) = (0 : Int32) then bd3 (f_X4_take i1 i2 s_t_tape_count v_t_tape_bytes) (fun (r_3 : Int32) (o_4 : Int32) (o_5 : (Nat → Int32)) => (if r_3 = (0 : Int32) then some (((-2 : Int32), o_4, o_5)) else some ((o_4, o_4, o_5)))) else some (((-1 : Int32), s_t_tape_count, v_t_tape_bytes)))
abbrev rmX6_feed : Room := { frames := 1, cells := 0, slots := 0, locals := 24 }
set_option maxHeartbeats 400000 in
set_option maxRecDepth 100000 in
theorem c_X6_feed (l : Launch) (D : va_G) (cI cB cJ : ClassId) (a_t : Nat) (a_t_book : Nat) (a_t_kept : Nat) (a_t_told : Nat) (a_t_tape : Nat) (a_t_rows : Nat) (a_t_sheets : Nat) (a_t_shelves : Nat) (a_t_thing : Nat) (a_t_shares : Nat) (a_t_ahead : Nat) (a_t_tape_bytes : Nat) (sz : Nat) (s_t_isKept : Int32) (s_t_z : Int32) (s_t_keptZ : Int32) (s_t_tape_count : Int32) (s_t_tape_place : Int32) (s_t_tape_fault : Int32) (v_t_tape_bytes : (Nat → Int32)) (i1 : Int64) (i2 : Int32) (r : Int32) (o_s_t_tape_count : Int32) (o_v_t_tape_bytes : (Nat → Int32)) (hF : f_X6_feed i1 i2 s_t_tape_count v_t_tape_bytes = some (r, o_s_t_tape_count, o_v_t_tape_bytes)) : xMi l yX6_feed (.code yX6_feed cX6_feed 4 (some .int) :: xU) rmX6_feed (xK D cI cB cJ) D sz [.ref a_t, .long i1, .int i2] [(a_t, .inr (6, [.ref a_t_book, .ref a_t_kept, .ref a_t_told, .ref a_t_tape, .ref a_t_rows, .ref a_t_sheets, .ref a_t_shelves, .ref a_t_thing, .ref a_t_shares, .ref a_t_ahead, .int s_t_isKept, .int s_t_z, .int s_t_keptZ])), (a_t_tape, .inr (4, [.ref a_t_tape_bytes, .int s_t_tape_count, .int s_t_tape_place, .int s_t_tape_fault])), (a_t_tape_bytes, .inl (cB, 200, .inl v_t_tape_bytes))] [(a_t, .inr (6, [.ref a_t_book, .ref a_t_kept, .ref a_t_told, .ref a_t_tape, .ref a_t_rows, .ref a_t_sheets, .ref a_t_shelves, .ref a_t_thing, .ref a_t_shares, .ref a_t_ahead, .int s_t_isKept, .int s_t_z, .int s_t_keptZ])), (a_t_tape, .inr (4, [.ref a_t_tape_bytes, .int o_s_t_tape_count, .int s_t_tape_place, .int s_t_tape_fault])), (a_t_tape_bytes, .inl (cB, 200, .inl o_v_t_tape_bytes))] r := by
  refine xMi.mk (own := "FairNext") (by decide +kernel) rfl (Nat.le_of_ble_eq_true rfl) ?_
  intro p e s m args below meth c A Q ls H hfix hK hP hD hA hS hl hEnd
  obtain ⟨hx, hb, hml, hown, hts⟩ := id hfix
  have hl : lv_has ls 4 [(0, .ref a_t), (1, .long i1), (3, .int i2)] := hl
  rw [f_X6_feed] at hF
  refine lv_iload_n hx hb dX6_feed_0 rfl (lv_at hl 2 rfl) ?_
  refine lv_iconst (v := (1 : Int32)) hx hb dX6_feed_1 (by decide) ?_
  refine lv_bipush (v := (8 : Int32)) hx hb dX6_feed_2 (by decide) ?_
  refine xrz0 (xrunS (As := [.int i2, .int (1 : Int32), .int (8 : Int32)]) (rest := []) (c_X6_outside l D cI cB cJ _ i2 (1 : Int32) (8 : Int32) (f_X6_outside i2 (1 : Int32) (8 : Int32)) rfl) hfix xw_205 ys_X6_outside ⟨rfl, rfl⟩ ⟨(Nat.le_of_ble_eq_true rfl), (Nat.le_of_ble_eq_true rfl)⟩ xKk_K (fun U hU hW => xK.warm hW hK) hP hD [] rfl rfl rfl hl.1 rfl (Nat.le_of_ble_eq_true rfl) dX6_feed_4 ⟨Nat.zero_le _, Nat.zero_le _⟩) hP hD hS hA [] rfl rfl (fun H locs hP hD hS hz_1 => ?_)
  refine lv_if_eq (tgt := 12) hx hb dX6_feed_7 (by decide) (fun c_2 => ?_) (fun c_2 => ?_)
  · replace hF := if_t c_2 hF
    refine lv_aload_n hx hb dX6_feed_12 rfl (lv_at hl 0 rfl) ?_
    refine xget (ci := 6) (C := RX6) (T := TX6) (N := 13) hfix xiX6 hK.1 hP 0 rfl rfl 3 (by decide) rfl xw_164 rfl dX6_feed_13 ?_
    refine lv_lload_n hx hb dX6_feed_16 rfl (lv_at hl 1 rfl) ?_
    refine lv_iload_n hx hb dX6_feed_17 rfl (lv_at hl 2 rfl) ?_
    obtain ⟨r_3, o_4, o_5, hq_6, hF⟩ := bd3_e hF
    refine xrz (xrunV (As := [.long i1, .int i2]) (rest := []) (c_X4_take l D cI cB cJ a_t_tape a_t_tape_bytes _ s_t_tape_count s_t_tape_place s_t_tape_fault v_t_tape_bytes i1 i2 r_3 o_4 o_5 hq_6) hfix xw_208 yv_X4_take ⟨rfl, rfl⟩ ⟨(Nat.le_of_ble_eq_true rfl), (Nat.le_of_ble_eq_true rfl)⟩ xKk_K (fun U hU hW => xK.warm hW hK) hK.1 hP hD [1, 2] rfl rfl 1 4 rfl rfl rfl rfl hl.1 rfl (Nat.le_of_ble_eq_true rfl) dX6_feed_18 ⟨Nat.zero_le _, Nat.zero_le _⟩) hP hD hS hA [1, 2] rfl rfl rfl (wn := [(a_t, .inr (6, [.ref a_t_book, .ref a_t_kept, .ref a_t_told, .ref a_t_tape, .ref a_t_rows, .ref a_t_sheets, .ref a_t_shelves, .ref a_t_thing, .ref a_t_shares, .ref a_t_ahead, .int s_t_isKept, .int s_t_z, .int s_t_keptZ])), (a_t_tape, .inr (4, [.ref a_t_tape_bytes, .int o_4, .int s_t_tape_place, .int s_t_tape_fault])), (a_t_tape_bytes, .inl (cB, 200, .inl o_5))]) rfl (fun H locs hP hD hS hz_7 => ?_)
    refine lv_if_eq (tgt := 34) hx hb dX6_feed_21 (by decide) (fun c_8 => ?_) (fun c_8 => ?_)
    · replace hF := if_t c_8 hF
      refine lv_bipush (v := (-2 : Int32)) hx hb dX6_feed_34 (by decide) ?_
      obtain ⟨rfl, rfl, rfl⟩ := pj3 hF
      exact hEnd _ _ _ _ _ dX6_feed_36 hP hS rfl
    · replace hF := if_f c_8 hF
      refine lv_aload_n hx hb dX6_feed_24 rfl (lv_at hl 0 rfl) ?_
      refine xget (ci := 6) (C := RX6) (T := TX6) (N := 13) hfix xiX6 hK.1 hP 0 rfl rfl 3 (by decide) rfl xw_164 rfl dX6_feed_25 ?_
      refine xget (ci := 4) (C := RX4) (T := TX4) (N := 4) hfix xiX4 hK.1 hP 1 rfl rfl 1 (by decide) rfl xw_67 rfl dX6_feed_28 ?_
      refine lv_goto (tgt := 36) hx hb dX6_feed_31 (by decide) ?_
      obtain ⟨rfl, rfl, rfl⟩ := pj3 hF
      exact hEnd _ _ _ _ _ dX6_feed_36 hP hS rfl
  · replace hF := if_f c_2 hF
    refine lv_iconst (v := (-1 : Int32)) hx hb dX6_feed_10 (by decide) ?_
    obtain ⟨rfl, rfl, rfl⟩ := pj3 hF
    exact hEnd _ _ _ _ _ dX6_feed_11 hP hS rfl
def f_X6_year (i1 : Int32) (i2 : Int32) (v_t_book_village : (Nat → Int32)) : Option (Int32 × (Nat → Int32)) := (if (f_X6_outside i1 (0 : Int32) (23 : Int32)) = (0 : Int32) then (if (f_X6_outside i2 (-1 : Int32) (9 : Int32)) = (0 : Int32) then gd i1 24 ((if (0 : Int32) ≤ i2 then gd i1 24 (some (((v_t_book_village i1.toNatClampNeg), (upd v_t_book_village i1.toNatClampNeg i2)))) else gd i1 24 (some (((v_t_book_village i1.toNatClampNeg), (upd v_t_book_village i1.toNatClampNeg (-9 : Int32))))))) else some (((-1 : Int32), v_t_book_village))) else some (((-1 : Int32), v_t_book_village)))
abbrev rmX6_year : Room := { frames := 1, cells := 0, slots := 0, locals := 22 }
set_option maxHeartbeats 400000 in
set_option maxRecDepth 100000 in
theorem c_X6_year (l : Launch) (D : va_G) (cI cB cJ : ClassId) (a_t : Nat) (a_t_book : Nat) (a_t_kept : Nat) (a_t_told : Nat) (a_t_tape : Nat) (a_t_rows : Nat) (a_t_sheets : Nat) (a_t_shelves : Nat) (a_t_thing : Nat) (a_t_shares : Nat) (a_t_ahead : Nat) (a_t_book_village : Nat) (a_t_book_mark : Nat) (a_t_book_held : Nat) (sz : Nat) (s_t_isKept : Int32) (s_t_z : Int32) (s_t_keptZ : Int32) (s_t_book_heldCount : Int32) (s_t_book_villages : Int32) (v_t_book_village : (Nat → Int32)) (i1 : Int32) (i2 : Int32) (r : Int32) (o_v_t_book_village : (Nat → Int32)) (hF : f_X6_year i1 i2 v_t_book_village = some (r, o_v_t_book_village)) : xMi l yX6_year (.code yX6_year cX6_year 4 (some .int) :: xU) rmX6_year (xK D cI cB cJ) D sz [.ref a_t, .int i1, .int i2] [(a_t, .inr (6, [.ref a_t_book, .ref a_t_kept, .ref a_t_told, .ref a_t_tape, .ref a_t_rows, .ref a_t_sheets, .ref a_t_shelves, .ref a_t_thing, .ref a_t_shares, .ref a_t_ahead, .int s_t_isKept, .int s_t_z, .int s_t_keptZ])), (a_t_book, .inr (0, [.ref a_t_book_village, .ref a_t_book_mark, .ref a_t_book_held, .int s_t_book_heldCount, .int s_t_book_villages])), (a_t_book_village, .inl (cI, 24, .inl v_t_book_village))] [(a_t, .inr (6, [.ref a_t_book, .ref a_t_kept, .ref a_t_told, .ref a_t_tape, .ref a_t_rows, .ref a_t_sheets, .ref a_t_shelves, .ref a_t_thing, .ref a_t_shares, .ref a_t_ahead, .int s_t_isKept, .int s_t_z, .int s_t_keptZ])), (a_t_book, .inr (0, [.ref a_t_book_village, .ref a_t_book_mark, .ref a_t_book_held, .int s_t_book_heldCount, .int s_t_book_villages])), (a_t_book_village, .inl (cI, 24, .inl o_v_t_book_village))] r := by
  refine xMi.mk (own := "FairNext") (by decide +kernel) rfl (Nat.le_of_ble_eq_true rfl) ?_
  intro p e s m args below meth c A Q ls H hfix hK hP hD hA hS hl hEnd
  obtain ⟨hx, hb, hml, hown, hts⟩ := id hfix
  have hl : lv_has ls 4 [(0, .ref a_t), (1, .int i1), (2, .int i2)] := hl
  rw [f_X6_year] at hF
  refine lv_iload_n hx hb dX6_year_0 rfl (lv_at hl 1 rfl) ?_
  refine lv_iconst (v := (0 : Int32)) hx hb dX6_year_1 (by decide) ?_
  refine lv_bipush (v := (23 : Int32)) hx hb dX6_year_2 (by decide) ?_
  refine xrz0 (xrunS (As := [.int i1, .int (0 : Int32), .int (23 : Int32)]) (rest := []) (c_X6_outside l D cI cB cJ _ i1 (0 : Int32) (23 : Int32) (f_X6_outside i1 (0 : Int32) (23 : Int32)) rfl) hfix xw_205 ys_X6_outside ⟨rfl, rfl⟩ ⟨(Nat.le_of_ble_eq_true rfl), (Nat.le_of_ble_eq_true rfl)⟩ xKk_K (fun U hU hW => xK.warm hW hK) hP hD [] rfl rfl rfl hl.1 rfl (Nat.le_of_ble_eq_true rfl) dX6_year_4 ⟨Nat.zero_le _, Nat.zero_le _⟩) hP hD hS hA [] rfl rfl (fun H locs hP hD hS hz_1 => ?_)
  refine lv_if_ne (tgt := 20) hx hb dX6_year_7 (by decide) (fun c_2 => ?_) (fun c_2 => ?_)
  · replace hF := if_f c_2 hF
    refine lv_iconst (v := (-1 : Int32)) hx hb dX6_year_20 (by decide) ?_
    obtain ⟨rfl, rfl⟩ := pj2 hF
    exact hEnd _ _ _ _ _ dX6_year_21 hP hS rfl
  · replace hF := if_t c_2 hF
    refine lv_iload_n hx hb dX6_year_10 rfl (lv_at hl 2 rfl) ?_
    refine lv_iconst (v := (-1 : Int32)) hx hb dX6_year_11 (by decide) ?_
    refine lv_bipush (v := (9 : Int32)) hx hb dX6_year_12 (by decide) ?_
    refine xrz0 (xrunS (As := [.int i2, .int (-1 : Int32), .int (9 : Int32)]) (rest := []) (c_X6_outside l D cI cB cJ _ i2 (-1 : Int32) (9 : Int32) (f_X6_outside i2 (-1 : Int32) (9 : Int32)) rfl) hfix xw_205 ys_X6_outside ⟨rfl, rfl⟩ ⟨(Nat.le_of_ble_eq_true rfl), (Nat.le_of_ble_eq_true rfl)⟩ xKk_K (fun U hU hW => xK.warm hW hK) hP hD [] rfl rfl rfl hl.1 rfl (Nat.le_of_ble_eq_true rfl) dX6_year_14 ⟨Nat.zero_le _, Nat.zero_le _⟩) hP hD hS hA [] rfl rfl (fun H locs hP hD hS hz_3 => ?_)
    refine lv_if_eq (tgt := 22) hx hb dX6_year_17 (by decide) (fun c_4 => ?_) (fun c_4 => ?_)
    · replace hF := if_t c_4 hF
      refine lv_aload_n hx hb dX6_year_22 rfl (lv_at hl 0 rfl) ?_
      refine xget (ci := 6) (C := RX6) (T := TX6) (N := 13) hfix xiX6 hK.1 hP 0 rfl rfl 0 (by decide) rfl xw_161 rfl dX6_year_23 ?_
      refine xget (ci := 0) (C := RX0) (T := TX0) (N := 5) hfix xiX0 hK.1 hP 1 rfl rfl 0 (by decide) rfl xw_34 rfl dX6_year_26 ?_
      refine lv_iload_n hx hb dX6_year_29 rfl (lv_at hl 1 rfl) ?_
      obtain ⟨c_5, hF⟩ := gd_e hF
      refine va_iald hx hb hK.1 hP 2 0 rfl rfl c_5 dX6_year_30 ?_
      refine lv_istore_n (lv' := [(3, .int (v_t_book_village i1.toNatClampNeg)), (0, .ref a_t), (1, .int i1), (2, .int i2)]) hx hb dX6_year_31 rfl hl (by decide) rfl (fun ls hl => ?_)
      refine lv_aload_n hx hb dX6_year_32 rfl (lv_at hl 1 rfl) ?_
      refine xget (ci := 6) (C := RX6) (T := TX6) (N := 13) hfix xiX6 hK.1 hP 0 rfl rfl 0 (by decide) rfl xw_161 rfl dX6_year_33 ?_
      refine xget (ci := 0) (C := RX0) (T := TX0) (N := 5) hfix xiX0 hK.1 hP 1 rfl rfl 0 (by decide) rfl xw_34 rfl dX6_year_36 ?_
      refine lv_iload_n hx hb dX6_year_39 rfl (lv_at hl 2 rfl) ?_
      refine lv_iload_n hx hb dX6_year_40 rfl (lv_at hl 3 rfl) ?_
      refine lv_if_ge (tgt := 49) hx hb dX6_year_41 (by decide) (fun c_6 => ?_) (fun c_6 => ?_)
      · replace hF := if_t c_6 hF
        refine lv_iload_n hx hb dX6_year_49 rfl (lv_at hl 3 rfl) ?_
        obtain ⟨c_7, hF⟩ := gd_e hF
        refine va_iast hx hb hK.1 hP hD hS 2 0 rfl rfl c_7 dX6_year_50 (fun H locs hP hD hS => ?_)
        have hP : va_P D vwCl [(a_t, .inr (6, [.ref a_t_book, .ref a_t_kept, .ref a_t_told, .ref a_t_tape, .ref a_t_rows, .ref a_t_sheets, .ref a_t_shelves, .ref a_t_thing, .ref a_t_shares, .ref a_t_ahead, .int s_t_isKept, .int s_t_z, .int s_t_keptZ])), (a_t_book, .inr (0, [.ref a_t_book_village, .ref a_t_book_mark, .ref a_t_book_held, .int s_t_book_heldCount, .int s_t_book_villages])), (a_t_book_village, .inl (cI, 24, .inl (upd v_t_book_village i1.toNatClampNeg i2)))] H := hP
        have hD : va_D A [(a_t, .inr (6, [.ref a_t_book, .ref a_t_kept, .ref a_t_told, .ref a_t_tape, .ref a_t_rows, .ref a_t_sheets, .ref a_t_shelves, .ref a_t_thing, .ref a_t_shares, .ref a_t_ahead, .int s_t_isKept, .int s_t_z, .int s_t_keptZ])), (a_t_book, .inr (0, [.ref a_t_book_village, .ref a_t_book_mark, .ref a_t_book_held, .int s_t_book_heldCount, .int s_t_book_villages])), (a_t_book_village, .inl (cI, 24, .inl (upd v_t_book_village i1.toNatClampNeg i2)))] := hD
        refine lv_iload_n hx hb dX6_year_51 rfl (lv_at hl 0 rfl) ?_
        obtain ⟨rfl, rfl⟩ := pj2 hF
        exact hEnd _ _ _ _ _ dX6_year_52 hP hS rfl
      · replace hF := if_f c_6 hF
        refine lv_bipush (v := (-9 : Int32)) hx hb dX6_year_44 (by decide) ?_
        refine lv_goto (tgt := 50) hx hb dX6_year_46 (by decide) ?_
        obtain ⟨c_8, hF⟩ := gd_e hF
        refine va_iast hx hb hK.1 hP hD hS 2 0 rfl rfl c_8 dX6_year_50 (fun H locs hP hD hS => ?_)
        have hP : va_P D vwCl [(a_t, .inr (6, [.ref a_t_book, .ref a_t_kept, .ref a_t_told, .ref a_t_tape, .ref a_t_rows, .ref a_t_sheets, .ref a_t_shelves, .ref a_t_thing, .ref a_t_shares, .ref a_t_ahead, .int s_t_isKept, .int s_t_z, .int s_t_keptZ])), (a_t_book, .inr (0, [.ref a_t_book_village, .ref a_t_book_mark, .ref a_t_book_held, .int s_t_book_heldCount, .int s_t_book_villages])), (a_t_book_village, .inl (cI, 24, .inl (upd v_t_book_village i1.toNatClampNeg (-9 : Int32))))] H := hP
        have hD : va_D A [(a_t, .inr (6, [.ref a_t_book, .ref a_t_kept, .ref a_t_told, .ref a_t_tape, .ref a_t_rows, .ref a_t_sheets, .ref a_t_shelves, .ref a_t_thing, .ref a_t_shares, .ref a_t_ahead, .int s_t_isKept, .int s_t_z, .int s_t_keptZ])), (a_t_book, .inr (0, [.ref a_t_book_village, .ref a_t_book_mark, .ref a_t_book_held, .int s_t_book_heldCount, .int s_t_book_villages])), (a_t_book_village, .inl (cI, 24, .inl (upd v_t_book_village i1.toNatClampNeg (-9 : Int32))))] := hD
        refine lv_iload_n hx hb dX6_year_51 rfl (lv_at hl 0 rfl) ?_
        obtain ⟨rfl, rfl⟩ := pj2 hF
        exact hEnd _ _ _ _ _ dX6_year_52 hP hS rfl
    · replace hF := if_f c_4 hF
      refine lv_iconst (v := (-1 : Int32)) hx hb dX6_year_20 (by decide) ?_
      obtain ⟨rfl, rfl⟩ := pj2 hF
      exact hEnd _ _ _ _ _ dX6_year_21 hP hS rfl
def f_X6_mark (i1 : Int32) (i2 : Int32) (v_t_book_mark : (Nat → Int32)) : Option (Int32 × (Nat → Int32)) := (if (f_X6_outside i1 (0 : Int32) (23 : Int32)) = (0 : Int32) then (if (f_X6_outside i2 (0 : Int32) (9 : Int32)) = (0 : Int32) then gd i1 24 (gd i1 24 (some (((v_t_book_mark i1.toNatClampNeg), (upd v_t_book_mark i1.toNatClampNeg i2))))) else some (((-1 : Int32), v_t_book_mark))) else some (((-1 : Int32), v_t_book_mark)))
abbrev rmX6_mark : Room := { frames := 1, cells := 0, slots := 0, locals := 22 }
set_option maxHeartbeats 400000 in
set_option maxRecDepth 100000 in
theorem c_X6_mark (l : Launch) (D : va_G) (cI cB cJ : ClassId) (a_t : Nat) (a_t_book : Nat) (a_t_kept : Nat) (a_t_told : Nat) (a_t_tape : Nat) (a_t_rows : Nat) (a_t_sheets : Nat) (a_t_shelves : Nat) (a_t_thing : Nat) (a_t_shares : Nat) (a_t_ahead : Nat) (a_t_book_village : Nat) (a_t_book_mark : Nat) (a_t_book_held : Nat) (sz : Nat) (s_t_isKept : Int32) (s_t_z : Int32) (s_t_keptZ : Int32) (s_t_book_heldCount : Int32) (s_t_book_villages : Int32) (v_t_book_mark : (Nat → Int32)) (i1 : Int32) (i2 : Int32) (r : Int32) (o_v_t_book_mark : (Nat → Int32)) (hF : f_X6_mark i1 i2 v_t_book_mark = some (r, o_v_t_book_mark)) : xMi l yX6_mark (.code yX6_mark cX6_mark 4 (some .int) :: xU) rmX6_mark (xK D cI cB cJ) D sz [.ref a_t, .int i1, .int i2] [(a_t, .inr (6, [.ref a_t_book, .ref a_t_kept, .ref a_t_told, .ref a_t_tape, .ref a_t_rows, .ref a_t_sheets, .ref a_t_shelves, .ref a_t_thing, .ref a_t_shares, .ref a_t_ahead, .int s_t_isKept, .int s_t_z, .int s_t_keptZ])), (a_t_book, .inr (0, [.ref a_t_book_village, .ref a_t_book_mark, .ref a_t_book_held, .int s_t_book_heldCount, .int s_t_book_villages])), (a_t_book_mark, .inl (cI, 24, .inl v_t_book_mark))] [(a_t, .inr (6, [.ref a_t_book, .ref a_t_kept, .ref a_t_told, .ref a_t_tape, .ref a_t_rows, .ref a_t_sheets, .ref a_t_shelves, .ref a_t_thing, .ref a_t_shares, .ref a_t_ahead, .int s_t_isKept, .int s_t_z, .int s_t_keptZ])), (a_t_book, .inr (0, [.ref a_t_book_village, .ref a_t_book_mark, .ref a_t_book_held, .int s_t_book_heldCount, .int s_t_book_villages])), (a_t_book_mark, .inl (cI, 24, .inl o_v_t_book_mark))] r := by
  refine xMi.mk (own := "FairNext") (by decide +kernel) rfl (Nat.le_of_ble_eq_true rfl) ?_
  intro p e s m args below meth c A Q ls H hfix hK hP hD hA hS hl hEnd
  obtain ⟨hx, hb, hml, hown, hts⟩ := id hfix
  have hl : lv_has ls 4 [(0, .ref a_t), (1, .int i1), (2, .int i2)] := hl
  rw [f_X6_mark] at hF
  refine lv_iload_n hx hb dX6_mark_0 rfl (lv_at hl 1 rfl) ?_
  refine lv_iconst (v := (0 : Int32)) hx hb dX6_mark_1 (by decide) ?_
  refine lv_bipush (v := (23 : Int32)) hx hb dX6_mark_2 (by decide) ?_
  refine xrz0 (xrunS (As := [.int i1, .int (0 : Int32), .int (23 : Int32)]) (rest := []) (c_X6_outside l D cI cB cJ _ i1 (0 : Int32) (23 : Int32) (f_X6_outside i1 (0 : Int32) (23 : Int32)) rfl) hfix xw_205 ys_X6_outside ⟨rfl, rfl⟩ ⟨(Nat.le_of_ble_eq_true rfl), (Nat.le_of_ble_eq_true rfl)⟩ xKk_K (fun U hU hW => xK.warm hW hK) hP hD [] rfl rfl rfl hl.1 rfl (Nat.le_of_ble_eq_true rfl) dX6_mark_4 ⟨Nat.zero_le _, Nat.zero_le _⟩) hP hD hS hA [] rfl rfl (fun H locs hP hD hS hz_1 => ?_)
  refine lv_if_ne (tgt := 20) hx hb dX6_mark_7 (by decide) (fun c_2 => ?_) (fun c_2 => ?_)
  · replace hF := if_f c_2 hF
    refine lv_iconst (v := (-1 : Int32)) hx hb dX6_mark_20 (by decide) ?_
    obtain ⟨rfl, rfl⟩ := pj2 hF
    exact hEnd _ _ _ _ _ dX6_mark_21 hP hS rfl
  · replace hF := if_t c_2 hF
    refine lv_iload_n hx hb dX6_mark_10 rfl (lv_at hl 2 rfl) ?_
    refine lv_iconst (v := (0 : Int32)) hx hb dX6_mark_11 (by decide) ?_
    refine lv_bipush (v := (9 : Int32)) hx hb dX6_mark_12 (by decide) ?_
    refine xrz0 (xrunS (As := [.int i2, .int (0 : Int32), .int (9 : Int32)]) (rest := []) (c_X6_outside l D cI cB cJ _ i2 (0 : Int32) (9 : Int32) (f_X6_outside i2 (0 : Int32) (9 : Int32)) rfl) hfix xw_205 ys_X6_outside ⟨rfl, rfl⟩ ⟨(Nat.le_of_ble_eq_true rfl), (Nat.le_of_ble_eq_true rfl)⟩ xKk_K (fun U hU hW => xK.warm hW hK) hP hD [] rfl rfl rfl hl.1 rfl (Nat.le_of_ble_eq_true rfl) dX6_mark_14 ⟨Nat.zero_le _, Nat.zero_le _⟩) hP hD hS hA [] rfl rfl (fun H locs hP hD hS hz_3 => ?_)
    refine lv_if_eq (tgt := 22) hx hb dX6_mark_17 (by decide) (fun c_4 => ?_) (fun c_4 => ?_)
    · replace hF := if_t c_4 hF
      refine lv_aload_n hx hb dX6_mark_22 rfl (lv_at hl 0 rfl) ?_
      refine xget (ci := 6) (C := RX6) (T := TX6) (N := 13) hfix xiX6 hK.1 hP 0 rfl rfl 0 (by decide) rfl xw_161 rfl dX6_mark_23 ?_
      refine xget (ci := 0) (C := RX0) (T := TX0) (N := 5) hfix xiX0 hK.1 hP 1 rfl rfl 1 (by decide) rfl xw_37 rfl dX6_mark_26 ?_
      refine lv_iload_n hx hb dX6_mark_29 rfl (lv_at hl 1 rfl) ?_
      obtain ⟨c_5, hF⟩ := gd_e hF
      refine va_iald hx hb hK.1 hP 2 0 rfl rfl c_5 dX6_mark_30 ?_
      refine lv_istore_n (lv' := [(3, .int (v_t_book_mark i1.toNatClampNeg)), (0, .ref a_t), (1, .int i1), (2, .int i2)]) hx hb dX6_mark_31 rfl hl (by decide) rfl (fun ls hl => ?_)
      refine lv_aload_n hx hb dX6_mark_32 rfl (lv_at hl 1 rfl) ?_
      refine xget (ci := 6) (C := RX6) (T := TX6) (N := 13) hfix xiX6 hK.1 hP 0 rfl rfl 0 (by decide) rfl xw_161 rfl dX6_mark_33 ?_
      refine xget (ci := 0) (C := RX0) (T := TX0) (N := 5) hfix xiX0 hK.1 hP 1 rfl rfl 1 (by decide) rfl xw_37 rfl dX6_mark_36 ?_
      refine lv_iload_n hx hb dX6_mark_39 rfl (lv_at hl 2 rfl) ?_
      refine lv_iload_n hx hb dX6_mark_40 rfl (lv_at hl 3 rfl) ?_
      obtain ⟨c_6, hF⟩ := gd_e hF
      refine va_iast hx hb hK.1 hP hD hS 2 0 rfl rfl c_6 dX6_mark_41 (fun H locs hP hD hS => ?_)
      have hP : va_P D vwCl [(a_t, .inr (6, [.ref a_t_book, .ref a_t_kept, .ref a_t_told, .ref a_t_tape, .ref a_t_rows, .ref a_t_sheets, .ref a_t_shelves, .ref a_t_thing, .ref a_t_shares, .ref a_t_ahead, .int s_t_isKept, .int s_t_z, .int s_t_keptZ])), (a_t_book, .inr (0, [.ref a_t_book_village, .ref a_t_book_mark, .ref a_t_book_held, .int s_t_book_heldCount, .int s_t_book_villages])), (a_t_book_mark, .inl (cI, 24, .inl (upd v_t_book_mark i1.toNatClampNeg i2)))] H := hP
      have hD : va_D A [(a_t, .inr (6, [.ref a_t_book, .ref a_t_kept, .ref a_t_told, .ref a_t_tape, .ref a_t_rows, .ref a_t_sheets, .ref a_t_shelves, .ref a_t_thing, .ref a_t_shares, .ref a_t_ahead, .int s_t_isKept, .int s_t_z, .int s_t_keptZ])), (a_t_book, .inr (0, [.ref a_t_book_village, .ref a_t_book_mark, .ref a_t_book_held, .int s_t_book_heldCount, .int s_t_book_villages])), (a_t_book_mark, .inl (cI, 24, .inl (upd v_t_book_mark i1.toNatClampNeg i2)))] := hD
      refine lv_iload_n hx hb dX6_mark_42 rfl (lv_at hl 0 rfl) ?_
      obtain ⟨rfl, rfl⟩ := pj2 hF
      exact hEnd _ _ _ _ _ dX6_mark_43 hP hS rfl
    · replace hF := if_f c_4 hF
      refine lv_iconst (v := (-1 : Int32)) hx hb dX6_mark_20 (by decide) ?_
      obtain ⟨rfl, rfl⟩ := pj2 hF
      exact hEnd _ _ _ _ _ dX6_mark_21 hP hS rfl
def f_X6_yearOf (i1 : Int32) (i2 : Int32) (v_t_book_village : (Nat → Int32)) (v_t_book_mark : (Nat → Int32)) : Option (Int32) := (if (f_X6_outside i1 (0 : Int32) (23 : Int32)) = (0 : Int32) then (if (f_X6_outside i2 (0 : Int32) (1 : Int32)) = (0 : Int32) then (if i2 = (0 : Int32) then gd i1 24 (some ((v_t_book_village i1.toNatClampNeg))) else gd i1 24 (some ((v_t_book_mark i1.toNatClampNeg)))) else some ((-1 : Int32))) else some ((-1 : Int32)))
abbrev rmX6_yearOf : Room := { frames := 1, cells := 0, slots := 0, locals := 22 }
set_option maxHeartbeats 400000 in
set_option maxRecDepth 100000 in
theorem c_X6_yearOf (l : Launch) (D : va_G) (cI cB cJ : ClassId) (a_t : Nat) (a_t_book : Nat) (a_t_kept : Nat) (a_t_told : Nat) (a_t_tape : Nat) (a_t_rows : Nat) (a_t_sheets : Nat) (a_t_shelves : Nat) (a_t_thing : Nat) (a_t_shares : Nat) (a_t_ahead : Nat) (a_t_book_village : Nat) (a_t_book_mark : Nat) (a_t_book_held : Nat) (sz : Nat) (s_t_isKept : Int32) (s_t_z : Int32) (s_t_keptZ : Int32) (s_t_book_heldCount : Int32) (s_t_book_villages : Int32) (v_t_book_village : (Nat → Int32)) (v_t_book_mark : (Nat → Int32)) (i1 : Int32) (i2 : Int32) (r : Int32) (hF : f_X6_yearOf i1 i2 v_t_book_village v_t_book_mark = some r) : xMi l yX6_yearOf (.code yX6_yearOf cX6_yearOf 3 (some .int) :: xU) rmX6_yearOf (xK D cI cB cJ) D sz [.ref a_t, .int i1, .int i2] [(a_t, .inr (6, [.ref a_t_book, .ref a_t_kept, .ref a_t_told, .ref a_t_tape, .ref a_t_rows, .ref a_t_sheets, .ref a_t_shelves, .ref a_t_thing, .ref a_t_shares, .ref a_t_ahead, .int s_t_isKept, .int s_t_z, .int s_t_keptZ])), (a_t_book, .inr (0, [.ref a_t_book_village, .ref a_t_book_mark, .ref a_t_book_held, .int s_t_book_heldCount, .int s_t_book_villages])), (a_t_book_village, .inl (cI, 24, .inl v_t_book_village)), (a_t_book_mark, .inl (cI, 24, .inl v_t_book_mark))] [(a_t, .inr (6, [.ref a_t_book, .ref a_t_kept, .ref a_t_told, .ref a_t_tape, .ref a_t_rows, .ref a_t_sheets, .ref a_t_shelves, .ref a_t_thing, .ref a_t_shares, .ref a_t_ahead, .int s_t_isKept, .int s_t_z, .int s_t_keptZ])), (a_t_book, .inr (0, [.ref a_t_book_village, .ref a_t_book_mark, .ref a_t_book_held, .int s_t_book_heldCount, .int s_t_book_villages])), (a_t_book_village, .inl (cI, 24, .inl v_t_book_village)), (a_t_book_mark, .inl (cI, 24, .inl v_t_book_mark))] r := by
  refine xMi.mk (own := "FairNext") (by decide +kernel) rfl (Nat.le_of_ble_eq_true rfl) ?_
  intro p e s m args below meth c A Q ls H hfix hK hP hD hA hS hl hEnd
  obtain ⟨hx, hb, hml, hown, hts⟩ := id hfix
  have hl : lv_has ls 3 [(0, .ref a_t), (1, .int i1), (2, .int i2)] := hl
  rw [f_X6_yearOf] at hF
  refine lv_iload_n hx hb dX6_yearOf_0 rfl (lv_at hl 1 rfl) ?_
  refine lv_iconst (v := (0 : Int32)) hx hb dX6_yearOf_1 (by decide) ?_
  refine lv_bipush (v := (23 : Int32)) hx hb dX6_yearOf_2 (by decide) ?_
  refine xrz0 (xrunS (As := [.int i1, .int (0 : Int32), .int (23 : Int32)]) (rest := []) (c_X6_outside l D cI cB cJ _ i1 (0 : Int32) (23 : Int32) (f_X6_outside i1 (0 : Int32) (23 : Int32)) rfl) hfix xw_205 ys_X6_outside ⟨rfl, rfl⟩ ⟨(Nat.le_of_ble_eq_true rfl), (Nat.le_of_ble_eq_true rfl)⟩ xKk_K (fun U hU hW => xK.warm hW hK) hP hD [] rfl rfl rfl hl.1 rfl (Nat.le_of_ble_eq_true rfl) dX6_yearOf_4 ⟨Nat.zero_le _, Nat.zero_le _⟩) hP hD hS hA [] rfl rfl (fun H locs hP hD hS hz_1 => ?_)
  refine lv_if_ne (tgt := 19) hx hb dX6_yearOf_7 (by decide) (fun c_2 => ?_) (fun c_2 => ?_)
  · replace hF := if_f c_2 hF
    refine lv_iconst (v := (-1 : Int32)) hx hb dX6_yearOf_19 (by decide) ?_
    obtain rfl := Option.some.inj hF
    exact hEnd _ _ _ _ _ dX6_yearOf_20 hP hS rfl
  · replace hF := if_t c_2 hF
    refine lv_iload_n hx hb dX6_yearOf_10 rfl (lv_at hl 2 rfl) ?_
    refine lv_iconst (v := (0 : Int32)) hx hb dX6_yearOf_11 (by decide) ?_
    refine lv_iconst (v := (1 : Int32)) hx hb dX6_yearOf_12 (by decide) ?_
    refine xrz0 (xrunS (As := [.int i2, .int (0 : Int32), .int (1 : Int32)]) (rest := []) (c_X6_outside l D cI cB cJ _ i2 (0 : Int32) (1 : Int32) (f_X6_outside i2 (0 : Int32) (1 : Int32)) rfl) hfix xw_205 ys_X6_outside ⟨rfl, rfl⟩ ⟨(Nat.le_of_ble_eq_true rfl), (Nat.le_of_ble_eq_true rfl)⟩ xKk_K (fun U hU hW => xK.warm hW hK) hP hD [] rfl rfl rfl hl.1 rfl (Nat.le_of_ble_eq_true rfl) dX6_yearOf_13 ⟨Nat.zero_le _, Nat.zero_le _⟩) hP hD hS hA [] rfl rfl (fun H locs hP hD hS hz_3 => ?_)
    refine lv_if_eq (tgt := 21) hx hb dX6_yearOf_16 (by decide) (fun c_4 => ?_) (fun c_4 => ?_)
    · replace hF := if_t c_4 hF
      refine lv_iload_n hx hb dX6_yearOf_21 rfl (lv_at hl 2 rfl) ?_
      refine lv_if_ne (tgt := 37) hx hb dX6_yearOf_22 (by decide) (fun c_5 => ?_) (fun c_5 => ?_)
      · replace hF := if_f c_5 hF
        refine lv_aload_n hx hb dX6_yearOf_37 rfl (lv_at hl 0 rfl) ?_
        refine xget (ci := 6) (C := RX6) (T := TX6) (N := 13) hfix xiX6 hK.1 hP 0 rfl rfl 0 (by decide) rfl xw_161 rfl dX6_yearOf_38 ?_
        refine xget (ci := 0) (C := RX0) (T := TX0) (N := 5) hfix xiX0 hK.1 hP 1 rfl rfl 1 (by decide) rfl xw_37 rfl dX6_yearOf_41 ?_
        refine lv_iload_n hx hb dX6_yearOf_44 rfl (lv_at hl 1 rfl) ?_
        obtain ⟨c_6, hF⟩ := gd_e hF
        refine va_iald hx hb hK.1 hP 3 0 rfl rfl c_6 dX6_yearOf_45 ?_
        obtain rfl := Option.some.inj hF
        exact hEnd _ _ _ _ _ dX6_yearOf_46 hP hS rfl
      · replace hF := if_t c_5 hF
        refine lv_aload_n hx hb dX6_yearOf_25 rfl (lv_at hl 0 rfl) ?_
        refine xget (ci := 6) (C := RX6) (T := TX6) (N := 13) hfix xiX6 hK.1 hP 0 rfl rfl 0 (by decide) rfl xw_161 rfl dX6_yearOf_26 ?_
        refine xget (ci := 0) (C := RX0) (T := TX0) (N := 5) hfix xiX0 hK.1 hP 1 rfl rfl 0 (by decide) rfl xw_34 rfl dX6_yearOf_29 ?_
        refine lv_iload_n hx hb dX6_yearOf_32 rfl (lv_at hl 1 rfl) ?_
        obtain ⟨c_7, hF⟩ := gd_e hF
        refine va_iald hx hb hK.1 hP 2 0 rfl rfl c_7 dX6_yearOf_33 ?_
        refine lv_goto (tgt := 46) hx hb dX6_yearOf_34 (by decide) ?_
        obtain rfl := Option.some.inj hF
        exact hEnd _ _ _ _ _ dX6_yearOf_46 hP hS rfl
    · replace hF := if_f c_4 hF
      refine lv_iconst (v := (-1 : Int32)) hx hb dX6_yearOf_19 (by decide) ?_
      obtain rfl := Option.some.inj hF
      exact hEnd _ _ _ _ _ dX6_yearOf_20 hP hS rfl
def f_X6_villages (i1 : Int32) (s_t_book_villages : Int32) : Option (Int32 × Int32) := (if (f_X6_outside i1 (2 : Int32) (10 : Int32)) = (0 : Int32) then some ((s_t_book_villages, i1)) else some (((-1 : Int32), s_t_book_villages)))
abbrev rmX6_villages : Room := { frames := 1, cells := 0, slots := 0, locals := 22 }
set_option maxHeartbeats 400000 in
set_option maxRecDepth 100000 in
theorem c_X6_villages (l : Launch) (D : va_G) (cI cB cJ : ClassId) (a_t : Nat) (a_t_book : Nat) (a_t_kept : Nat) (a_t_told : Nat) (a_t_tape : Nat) (a_t_rows : Nat) (a_t_sheets : Nat) (a_t_shelves : Nat) (a_t_thing : Nat) (a_t_shares : Nat) (a_t_ahead : Nat) (a_t_book_village : Nat) (a_t_book_mark : Nat) (a_t_book_held : Nat) (sz : Nat) (s_t_isKept : Int32) (s_t_z : Int32) (s_t_keptZ : Int32) (s_t_book_heldCount : Int32) (s_t_book_villages : Int32) (i1 : Int32) (r : Int32) (o_s_t_book_villages : Int32) (hF : f_X6_villages i1 s_t_book_villages = some (r, o_s_t_book_villages)) : xMi l yX6_villages (.code yX6_villages cX6_villages 3 (some .int) :: xU) rmX6_villages (xK D cI cB cJ) D sz [.ref a_t, .int i1] [(a_t, .inr (6, [.ref a_t_book, .ref a_t_kept, .ref a_t_told, .ref a_t_tape, .ref a_t_rows, .ref a_t_sheets, .ref a_t_shelves, .ref a_t_thing, .ref a_t_shares, .ref a_t_ahead, .int s_t_isKept, .int s_t_z, .int s_t_keptZ])), (a_t_book, .inr (0, [.ref a_t_book_village, .ref a_t_book_mark, .ref a_t_book_held, .int s_t_book_heldCount, .int s_t_book_villages]))] [(a_t, .inr (6, [.ref a_t_book, .ref a_t_kept, .ref a_t_told, .ref a_t_tape, .ref a_t_rows, .ref a_t_sheets, .ref a_t_shelves, .ref a_t_thing, .ref a_t_shares, .ref a_t_ahead, .int s_t_isKept, .int s_t_z, .int s_t_keptZ])), (a_t_book, .inr (0, [.ref a_t_book_village, .ref a_t_book_mark, .ref a_t_book_held, .int s_t_book_heldCount, .int o_s_t_book_villages]))] r := by
  refine xMi.mk (own := "FairNext") (by decide +kernel) rfl (Nat.le_of_ble_eq_true rfl) ?_
  intro p e s m args below meth c A Q ls H hfix hK hP hD hA hS hl hEnd
  obtain ⟨hx, hb, hml, hown, hts⟩ := id hfix
  have hl : lv_has ls 3 [(0, .ref a_t), (1, .int i1)] := hl
  rw [f_X6_villages] at hF
  refine lv_iload_n hx hb dX6_villages_0 rfl (lv_at hl 1 rfl) ?_
  refine lv_iconst (v := (2 : Int32)) hx hb dX6_villages_1 (by decide) ?_
  refine lv_bipush (v := (10 : Int32)) hx hb dX6_villages_2 (by decide) ?_
  refine xrz0 (xrunS (As := [.int i1, .int (2 : Int32), .int (10 : Int32)]) (rest := []) (c_X6_outside l D cI cB cJ _ i1 (2 : Int32) (10 : Int32) (f_X6_outside i1 (2 : Int32) (10 : Int32)) rfl) hfix xw_205 ys_X6_outside ⟨rfl, rfl⟩ ⟨(Nat.le_of_ble_eq_true rfl), (Nat.le_of_ble_eq_true rfl)⟩ xKk_K (fun U hU hW => xK.warm hW hK) hP hD [] rfl rfl rfl hl.1 rfl (Nat.le_of_ble_eq_true rfl) dX6_villages_4 ⟨Nat.zero_le _, Nat.zero_le _⟩) hP hD hS hA [] rfl rfl (fun H locs hP hD hS hz_1 => ?_)
  refine lv_if_eq (tgt := 12) hx hb dX6_villages_7 (by decide) (fun c_2 => ?_) (fun c_2 => ?_)
  · replace hF := if_t c_2 hF
    refine lv_aload_n hx hb dX6_villages_12 rfl (lv_at hl 0 rfl) ?_
    refine xget (ci := 6) (C := RX6) (T := TX6) (N := 13) hfix xiX6 hK.1 hP 0 rfl rfl 0 (by decide) rfl xw_161 rfl dX6_villages_13 ?_
    refine xget (ci := 0) (C := RX0) (T := TX0) (N := 5) hfix xiX0 hK.1 hP 1 rfl rfl 4 (by decide) rfl xw_46 rfl dX6_villages_16 ?_
    refine lv_istore_n (lv' := [(2, .int s_t_book_villages), (0, .ref a_t), (1, .int i1)]) hx hb dX6_villages_19 rfl hl (by decide) rfl (fun ls hl => ?_)
    refine lv_aload_n hx hb dX6_villages_20 rfl (lv_at hl 1 rfl) ?_
    refine xget (ci := 6) (C := RX6) (T := TX6) (N := 13) hfix xiX6 hK.1 hP 0 rfl rfl 0 (by decide) rfl xw_161 rfl dX6_villages_21 ?_
    refine lv_iload_n hx hb dX6_villages_24 rfl (lv_at hl 2 rfl) ?_
    refine xput (ci := 0) (C := RX0) (T := TX0) (N := 5) hfix xiX0 tyX0 tyX0_ok nmX0 hK.1 hP hD hS 1 rfl rfl 4 (by decide) rfl rfl xw_46 (ty := .int) rfl rfl rfl (Nat.le_of_ble_eq_true rfl) dX6_villages_25 (wn := [(a_t, .inr (6, [.ref a_t_book, .ref a_t_kept, .ref a_t_told, .ref a_t_tape, .ref a_t_rows, .ref a_t_sheets, .ref a_t_shelves, .ref a_t_thing, .ref a_t_shares, .ref a_t_ahead, .int s_t_isKept, .int s_t_z, .int s_t_keptZ])), (a_t_book, .inr (0, [.ref a_t_book_village, .ref a_t_book_mark, .ref a_t_book_held, .int s_t_book_heldCount, .int i1]))]) rfl (fun H locs hP hD hS => ?_)
    refine lv_iload_n hx hb dX6_villages_28 rfl (lv_at hl 0 rfl) ?_
    obtain ⟨rfl, rfl⟩ := pj2 hF
    exact hEnd _ _ _ _ _ dX6_villages_29 hP hS rfl
  · replace hF := if_f c_2 hF
    refine lv_iconst (v := (-1 : Int32)) hx hb dX6_villages_10 (by decide) ?_
    obtain ⟨rfl, rfl⟩ := pj2 hF
    exact hEnd _ _ _ _ _ dX6_villages_11 hP hS rfl
def f_X6_hold (i1 : Int32) (i2 : Int32) (i3 : Int32) (i4 : Int32) (s_t_book_heldCount : Int32) (v_t_book_held : (Nat → Int32)) : Option (Int32 × Int32 × (Nat → Int32)) := (if (f_X6_outside i1 (0 : Int32) (5 : Int32)) = (0 : Int32) then (if (f_X6_outside i2 (0 : Int32) (4 : Int32)) = (0 : Int32) then (if (f_X6_outside i3 (0 : Int32) (4 : Int32)) = (0 : Int32) then (if (f_X6_outside i4 (1 : Int32) (4 : Int32)) = (0 : Int32) then (if s_t_book_heldCount < (6 : Int32) then bd2 (f_X0_holdRule (f_X6_codeOf i1 i2 i3 i4) s_t_book_heldCount v_t_book_held) (fun (o_10 : Int32) (o_11 : (Nat → Int32)) => some (((o_10 - (1 : Int32)), o_10, o_11))) else some (((-2 : Int32), s_t_book_heldCount, v_t_book_held))) else some (((-1 : Int32), s_t_book_heldCount, v_t_book_held))) else some (((-1 : Int32), s_t_book_heldCount, v_t_book_held))) else some (((-1 : Int32), s_t_book_heldCount, v_t_book_held))) else some (((-1 : Int32), s_t_book_heldCount, v_t_book_held)))
abbrev rmX6_hold : Room := { frames := 1, cells := 0, slots := 0, locals := 23 }
set_option maxHeartbeats 400000 in
set_option maxRecDepth 100000 in
theorem c_X6_hold (l : Launch) (D : va_G) (cI cB cJ : ClassId) (a_t : Nat) (a_t_book : Nat) (a_t_kept : Nat) (a_t_told : Nat) (a_t_tape : Nat) (a_t_rows : Nat) (a_t_sheets : Nat) (a_t_shelves : Nat) (a_t_thing : Nat) (a_t_shares : Nat) (a_t_ahead : Nat) (a_t_book_village : Nat) (a_t_book_mark : Nat) (a_t_book_held : Nat) (sz : Nat) (s_t_isKept : Int32) (s_t_z : Int32) (s_t_keptZ : Int32) (s_t_book_heldCount : Int32) (s_t_book_villages : Int32) (v_t_book_held : (Nat → Int32)) (i1 : Int32) (i2 : Int32) (i3 : Int32) (i4 : Int32) (r : Int32) (o_s_t_book_heldCount : Int32) (o_v_t_book_held : (Nat → Int32)) (hF : f_X6_hold i1 i2 i3 i4 s_t_book_heldCount v_t_book_held = some (r, o_s_t_book_heldCount, o_v_t_book_held)) : xMi l yX6_hold (.code yX6_hold cX6_hold 5 (some .int) :: xU) rmX6_hold (xK D cI cB cJ) D sz [.ref a_t, .int i1, .int i2, .int i3, .int i4] [(a_t, .inr (6, [.ref a_t_book, .ref a_t_kept, .ref a_t_told, .ref a_t_tape, .ref a_t_rows, .ref a_t_sheets, .ref a_t_shelves, .ref a_t_thing, .ref a_t_shares, .ref a_t_ahead, .int s_t_isKept, .int s_t_z, .int s_t_keptZ])), (a_t_book, .inr (0, [.ref a_t_book_village, .ref a_t_book_mark, .ref a_t_book_held, .int s_t_book_heldCount, .int s_t_book_villages])), (a_t_book_held, .inl (cI, 6, .inl v_t_book_held))] [(a_t, .inr (6, [.ref a_t_book, .ref a_t_kept, .ref a_t_told, .ref a_t_tape, .ref a_t_rows, .ref a_t_sheets, .ref a_t_shelves, .ref a_t_thing, .ref a_t_shares, .ref a_t_ahead, .int s_t_isKept, .int s_t_z, .int s_t_keptZ])), (a_t_book, .inr (0, [.ref a_t_book_village, .ref a_t_book_mark, .ref a_t_book_held, .int o_s_t_book_heldCount, .int s_t_book_villages])), (a_t_book_held, .inl (cI, 6, .inl o_v_t_book_held))] r := by
  refine xMi.mk (own := "FairNext") (by decide +kernel) rfl (Nat.le_of_ble_eq_true rfl) ?_
  intro p e s m args below meth c A Q ls H hfix hK hP hD hA hS hl hEnd
  obtain ⟨hx, hb, hml, hown, hts⟩ := id hfix
  have hl : lv_has ls 5 [(0, .ref a_t), (1, .int i1), (2, .int i2), (3, .int i3), (4, .int i4)] := hl
  rw [f_X6_hold] at hF
  refine lv_iload_n hx hb dX6_hold_0 rfl (lv_at hl 1 rfl) ?_
  refine lv_iconst (v := (0 : Int32)) hx hb dX6_hold_1 (by decide) ?_
  refine lv_iconst (v := (5 : Int32)) hx hb dX6_hold_2 (by decide) ?_
  refine xrz0 (xrunS (As := [.int i1, .int (0 : Int32), .int (5 : Int32)]) (rest := []) (c_X6_outside l D cI cB cJ _ i1 (0 : Int32) (5 : Int32) (f_X6_outside i1 (0 : Int32) (5 : Int32)) rfl) hfix xw_205 ys_X6_outside ⟨rfl, rfl⟩ ⟨(Nat.le_of_ble_eq_true rfl), (Nat.le_of_ble_eq_true rfl)⟩ xKk_K (fun U hU hW => xK.warm hW hK) hP hD [] rfl rfl rfl hl.1 rfl (Nat.le_of_ble_eq_true rfl) dX6_hold_3 ⟨Nat.zero_le _, Nat.zero_le _⟩) hP hD hS hA [] rfl rfl (fun H locs hP hD hS hz_1 => ?_)
  refine lv_if_ne (tgt := 37) hx hb dX6_hold_6 (by decide) (fun c_2 => ?_) (fun c_2 => ?_)
  · replace hF := if_f c_2 hF
    refine lv_iconst (v := (-1 : Int32)) hx hb dX6_hold_37 (by decide) ?_
    obtain ⟨rfl, rfl, rfl⟩ := pj3 hF
    exact hEnd _ _ _ _ _ dX6_hold_38 hP hS rfl
  · replace hF := if_t c_2 hF
    refine lv_iload_n hx hb dX6_hold_9 rfl (lv_at hl 2 rfl) ?_
    refine lv_iconst (v := (0 : Int32)) hx hb dX6_hold_10 (by decide) ?_
    refine lv_iconst (v := (4 : Int32)) hx hb dX6_hold_11 (by decide) ?_
    refine xrz0 (xrunS (As := [.int i2, .int (0 : Int32), .int (4 : Int32)]) (rest := []) (c_X6_outside l D cI cB cJ _ i2 (0 : Int32) (4 : Int32) (f_X6_outside i2 (0 : Int32) (4 : Int32)) rfl) hfix xw_205 ys_X6_outside ⟨rfl, rfl⟩ ⟨(Nat.le_of_ble_eq_true rfl), (Nat.le_of_ble_eq_true rfl)⟩ xKk_K (fun U hU hW => xK.warm hW hK) hP hD [] rfl rfl rfl hl.1 rfl (Nat.le_of_ble_eq_true rfl) dX6_hold_12 ⟨Nat.zero_le _, Nat.zero_le _⟩) hP hD hS hA [] rfl rfl (fun H locs hP hD hS hz_3 => ?_)
    refine lv_if_ne (tgt := 37) hx hb dX6_hold_15 (by decide) (fun c_4 => ?_) (fun c_4 => ?_)
    · replace hF := if_f c_4 hF
      refine lv_iconst (v := (-1 : Int32)) hx hb dX6_hold_37 (by decide) ?_
      obtain ⟨rfl, rfl, rfl⟩ := pj3 hF
      exact hEnd _ _ _ _ _ dX6_hold_38 hP hS rfl
    · replace hF := if_t c_4 hF
      refine lv_iload_n hx hb dX6_hold_18 rfl (lv_at hl 3 rfl) ?_
      refine lv_iconst (v := (0 : Int32)) hx hb dX6_hold_19 (by decide) ?_
      refine lv_iconst (v := (4 : Int32)) hx hb dX6_hold_20 (by decide) ?_
      refine xrz0 (xrunS (As := [.int i3, .int (0 : Int32), .int (4 : Int32)]) (rest := []) (c_X6_outside l D cI cB cJ _ i3 (0 : Int32) (4 : Int32) (f_X6_outside i3 (0 : Int32) (4 : Int32)) rfl) hfix xw_205 ys_X6_outside ⟨rfl, rfl⟩ ⟨(Nat.le_of_ble_eq_true rfl), (Nat.le_of_ble_eq_true rfl)⟩ xKk_K (fun U hU hW => xK.warm hW hK) hP hD [] rfl rfl rfl hl.1 rfl (Nat.le_of_ble_eq_true rfl) dX6_hold_21 ⟨Nat.zero_le _, Nat.zero_le _⟩) hP hD hS hA [] rfl rfl (fun H locs hP hD hS hz_5 => ?_)
      refine lv_if_ne (tgt := 37) hx hb dX6_hold_24 (by decide) (fun c_6 => ?_) (fun c_6 => ?_)
      · replace hF := if_f c_6 hF
        refine lv_iconst (v := (-1 : Int32)) hx hb dX6_hold_37 (by decide) ?_
        obtain ⟨rfl, rfl, rfl⟩ := pj3 hF
        exact hEnd _ _ _ _ _ dX6_hold_38 hP hS rfl
      · replace hF := if_t c_6 hF
        refine lv_iload hx hb dX6_hold_27 (lv_at hl 4 rfl) ?_
        refine lv_iconst (v := (1 : Int32)) hx hb dX6_hold_29 (by decide) ?_
        refine lv_iconst (v := (4 : Int32)) hx hb dX6_hold_30 (by decide) ?_
        refine xrz0 (xrunS (As := [.int i4, .int (1 : Int32), .int (4 : Int32)]) (rest := []) (c_X6_outside l D cI cB cJ _ i4 (1 : Int32) (4 : Int32) (f_X6_outside i4 (1 : Int32) (4 : Int32)) rfl) hfix xw_205 ys_X6_outside ⟨rfl, rfl⟩ ⟨(Nat.le_of_ble_eq_true rfl), (Nat.le_of_ble_eq_true rfl)⟩ xKk_K (fun U hU hW => xK.warm hW hK) hP hD [] rfl rfl rfl hl.1 rfl (Nat.le_of_ble_eq_true rfl) dX6_hold_31 ⟨Nat.zero_le _, Nat.zero_le _⟩) hP hD hS hA [] rfl rfl (fun H locs hP hD hS hz_7 => ?_)
        refine lv_if_eq (tgt := 39) hx hb dX6_hold_34 (by decide) (fun c_8 => ?_) (fun c_8 => ?_)
        · replace hF := if_t c_8 hF
          refine lv_aload_n hx hb dX6_hold_39 rfl (lv_at hl 0 rfl) ?_
          refine xget (ci := 6) (C := RX6) (T := TX6) (N := 13) hfix xiX6 hK.1 hP 0 rfl rfl 0 (by decide) rfl xw_161 rfl dX6_hold_40 ?_
          refine xget (ci := 0) (C := RX0) (T := TX0) (N := 5) hfix xiX0 hK.1 hP 1 rfl rfl 3 (by decide) rfl xw_43 rfl dX6_hold_43 ?_
          refine lv_bipush (v := (6 : Int32)) hx hb dX6_hold_46 (by decide) ?_
          refine lv_icmp_lt (tgt := 54) hx hb dX6_hold_48 (by decide) (fun c_9 => ?_) (fun c_9 => ?_)
          · replace hF := if_t c_9 hF
            refine lv_aload_n hx hb dX6_hold_54 rfl (lv_at hl 0 rfl) ?_
            refine xget (ci := 6) (C := RX6) (T := TX6) (N := 13) hfix xiX6 hK.1 hP 0 rfl rfl 0 (by decide) rfl xw_161 rfl dX6_hold_55 ?_
            refine lv_iload_n hx hb dX6_hold_58 rfl (lv_at hl 1 rfl) ?_
            refine lv_iload_n hx hb dX6_hold_59 rfl (lv_at hl 2 rfl) ?_
            refine lv_iload_n hx hb dX6_hold_60 rfl (lv_at hl 3 rfl) ?_
            refine lv_iload hx hb dX6_hold_61 (lv_at hl 4 rfl) ?_
            refine xri0 (xrunS (As := [.int i1, .int i2, .int i3, .int i4]) (rest := [.ref a_t_book]) (c_X6_codeOf l D cI cB cJ _ i1 i2 i3 i4 (f_X6_codeOf i1 i2 i3 i4) rfl) hfix xw_371 ys_X6_codeOf ⟨rfl, rfl⟩ ⟨(Nat.le_of_ble_eq_true rfl), (Nat.le_of_ble_eq_true rfl)⟩ xKk_K (fun U hU hW => xK.warm hW hK) hP hD [] rfl rfl rfl hl.1 rfl (Nat.le_of_ble_eq_true rfl) dX6_hold_63 ⟨Nat.zero_le _, Nat.zero_le _⟩) hP hD hS hA [] rfl rfl (fun H locs hP hD hS => ?_)
            obtain ⟨o_10, o_11, hq_12, hF⟩ := bd2_e hF
            refine xrv (xrunV (As := [.int (f_X6_codeOf i1 i2 i3 i4)]) (rest := []) (c_X0_holdRule l D cI cB cJ a_t_book a_t_book_village a_t_book_mark a_t_book_held _ s_t_book_heldCount s_t_book_villages v_t_book_held (f_X6_codeOf i1 i2 i3 i4) o_10 o_11 hq_12) hfix xw_372 yv_X0_holdRule ⟨rfl, rfl⟩ ⟨(Nat.le_of_ble_eq_true rfl), (Nat.le_of_ble_eq_true rfl)⟩ xKk_K (fun U hU hW => xK.warm hW hK) hK.1 hP hD [1, 2] rfl rfl 1 0 rfl rfl rfl rfl hl.1 rfl (Nat.le_of_ble_eq_true rfl) dX6_hold_66 ⟨Nat.zero_le _, Nat.zero_le _⟩) hP hD hS hA [1, 2] rfl rfl rfl (wn := [(a_t, .inr (6, [.ref a_t_book, .ref a_t_kept, .ref a_t_told, .ref a_t_tape, .ref a_t_rows, .ref a_t_sheets, .ref a_t_shelves, .ref a_t_thing, .ref a_t_shares, .ref a_t_ahead, .int s_t_isKept, .int s_t_z, .int s_t_keptZ])), (a_t_book, .inr (0, [.ref a_t_book_village, .ref a_t_book_mark, .ref a_t_book_held, .int o_10, .int s_t_book_villages])), (a_t_book_held, .inl (cI, 6, .inl o_11))]) rfl (fun H locs hP hD hS => ?_)
            refine lv_aload_n hx hb dX6_hold_69 rfl (lv_at hl 0 rfl) ?_
            refine xget (ci := 6) (C := RX6) (T := TX6) (N := 13) hfix xiX6 hK.1 hP 0 rfl rfl 0 (by decide) rfl xw_161 rfl dX6_hold_70 ?_
            refine xget (ci := 0) (C := RX0) (T := TX0) (N := 5) hfix xiX0 hK.1 hP 1 rfl rfl 3 (by decide) rfl xw_43 rfl dX6_hold_73 ?_
            refine lv_iconst (v := (1 : Int32)) hx hb dX6_hold_76 (by decide) ?_
            refine lv_isub hx hb dX6_hold_77 ?_
            obtain ⟨rfl, rfl, rfl⟩ := pj3 hF
            exact hEnd _ _ _ _ _ dX6_hold_78 hP hS rfl
          · replace hF := if_f c_9 hF
            refine lv_bipush (v := (-2 : Int32)) hx hb dX6_hold_51 (by decide) ?_
            obtain ⟨rfl, rfl, rfl⟩ := pj3 hF
            exact hEnd _ _ _ _ _ dX6_hold_53 hP hS rfl
        · replace hF := if_f c_8 hF
          refine lv_iconst (v := (-1 : Int32)) hx hb dX6_hold_37 (by decide) ?_
          obtain ⟨rfl, rfl, rfl⟩ := pj3 hF
          exact hEnd _ _ _ _ _ dX6_hold_38 hP hS rfl
def f_X6_partOf (i1 : Int32) (i2 : Int32) (s_t_book_villages : Int32) (v_t_book_village : (Nat → Int32)) (v_t_book_mark : (Nat → Int32)) : Option (Int32) := (if i2 = (0 : Int32) then some ((f_X6_kindOf i1)) else (if i2 = (1 : Int32) then some ((f_X6_aOf i1)) else (if i2 = (2 : Int32) then some ((f_X6_bOf i1)) else (if i2 = (3 : Int32) then some ((f_X6_kOf i1)) else (if i2 = (4 : Int32) then some ((f_X6_wordsOf i1)) else bd1 (f_X0_misses i1 (24 : Int32) s_t_book_villages v_t_book_village v_t_book_mark) (fun (r_6 : Int32) => some (r_6)))))))
abbrev rmX6_partOf : Room := { frames := 4, cells := 0, slots := 0, locals := 94 }
set_option maxHeartbeats 400000 in
set_option maxRecDepth 100000 in
theorem c_X6_partOf (l : Launch) (D : va_G) (cI cB cJ : ClassId) (a_t : Nat) (a_t_book : Nat) (a_t_kept : Nat) (a_t_told : Nat) (a_t_tape : Nat) (a_t_rows : Nat) (a_t_sheets : Nat) (a_t_shelves : Nat) (a_t_thing : Nat) (a_t_shares : Nat) (a_t_ahead : Nat) (a_t_book_village : Nat) (a_t_book_mark : Nat) (a_t_book_held : Nat) (sz : Nat) (s_t_isKept : Int32) (s_t_z : Int32) (s_t_keptZ : Int32) (s_t_book_heldCount : Int32) (s_t_book_villages : Int32) (v_t_book_village : (Nat → Int32)) (v_t_book_mark : (Nat → Int32)) (i1 : Int32) (i2 : Int32) (r : Int32) (hF : f_X6_partOf i1 i2 s_t_book_villages v_t_book_village v_t_book_mark = some r) : xMi l yX6_partOf (.code yX6_partOf cX6_partOf 3 (some .int) :: xU) rmX6_partOf (xK D cI cB cJ) D sz [.ref a_t, .int i1, .int i2] [(a_t, .inr (6, [.ref a_t_book, .ref a_t_kept, .ref a_t_told, .ref a_t_tape, .ref a_t_rows, .ref a_t_sheets, .ref a_t_shelves, .ref a_t_thing, .ref a_t_shares, .ref a_t_ahead, .int s_t_isKept, .int s_t_z, .int s_t_keptZ])), (a_t_book, .inr (0, [.ref a_t_book_village, .ref a_t_book_mark, .ref a_t_book_held, .int s_t_book_heldCount, .int s_t_book_villages])), (a_t_book_village, .inl (cI, 24, .inl v_t_book_village)), (a_t_book_mark, .inl (cI, 24, .inl v_t_book_mark))] [(a_t, .inr (6, [.ref a_t_book, .ref a_t_kept, .ref a_t_told, .ref a_t_tape, .ref a_t_rows, .ref a_t_sheets, .ref a_t_shelves, .ref a_t_thing, .ref a_t_shares, .ref a_t_ahead, .int s_t_isKept, .int s_t_z, .int s_t_keptZ])), (a_t_book, .inr (0, [.ref a_t_book_village, .ref a_t_book_mark, .ref a_t_book_held, .int s_t_book_heldCount, .int s_t_book_villages])), (a_t_book_village, .inl (cI, 24, .inl v_t_book_village)), (a_t_book_mark, .inl (cI, 24, .inl v_t_book_mark))] r := by
  refine xMi.mk (own := "FairNext") (by decide +kernel) rfl (Nat.le_of_ble_eq_true rfl) ?_
  intro p e s m args below meth c A Q ls H hfix hK hP hD hA hS hl hEnd
  obtain ⟨hx, hb, hml, hown, hts⟩ := id hfix
  have hl : lv_has ls 3 [(0, .ref a_t), (1, .int i1), (2, .int i2)] := hl
  rw [f_X6_partOf] at hF
  refine lv_iload_n hx hb dX6_partOf_0 rfl (lv_at hl 2 rfl) ?_
  by_cases c_1 : i2 = (0 : Int32)
  · replace hF := if_t c_1 hF
    refine lv_tableIn (off := 35) (tgt := 36) hx hb dX6_partOf_1 (by rw [c_1]; decide) (by rw [c_1]; decide) (by rw [c_1]; decide) (by decide) ?_
    refine lv_iload_n hx hb dX6_partOf_36 rfl (lv_at hl 1 rfl) ?_
    refine xri0 (xrunS (As := [.int i1]) (rest := []) (c_X6_kindOf l D cI cB cJ _ i1 (f_X6_kindOf i1) rfl) hfix xw_385 ys_X6_kindOf ⟨rfl, rfl⟩ ⟨(Nat.le_of_ble_eq_true rfl), (Nat.le_of_ble_eq_true rfl)⟩ xKk_K (fun U hU hW => xK.warm hW hK) hP hD [] rfl rfl rfl hl.1 rfl (Nat.le_of_ble_eq_true rfl) dX6_partOf_37 ⟨Nat.zero_le _, Nat.zero_le _⟩) hP hD hS hA [] rfl rfl (fun H locs hP hD hS => ?_)
    obtain rfl := Option.some.inj hF
    exact hEnd _ _ _ _ _ dX6_partOf_40 hP hS rfl
  · replace hF := if_f c_1 hF
    by_cases c_2 : i2 = (1 : Int32)
    · replace hF := if_t c_2 hF
      refine lv_tableIn (off := 40) (tgt := 41) hx hb dX6_partOf_1 (by rw [c_2]; decide) (by rw [c_2]; decide) (by rw [c_2]; decide) (by decide) ?_
      refine lv_iload_n hx hb dX6_partOf_41 rfl (lv_at hl 1 rfl) ?_
      refine xri0 (xrunS (As := [.int i1]) (rest := []) (c_X6_aOf l D cI cB cJ _ i1 (f_X6_aOf i1) rfl) hfix xw_388 ys_X6_aOf ⟨rfl, rfl⟩ ⟨(Nat.le_of_ble_eq_true rfl), (Nat.le_of_ble_eq_true rfl)⟩ xKk_K (fun U hU hW => xK.warm hW hK) hP hD [] rfl rfl rfl hl.1 rfl (Nat.le_of_ble_eq_true rfl) dX6_partOf_42 ⟨Nat.zero_le _, Nat.zero_le _⟩) hP hD hS hA [] rfl rfl (fun H locs hP hD hS => ?_)
      obtain rfl := Option.some.inj hF
      exact hEnd _ _ _ _ _ dX6_partOf_45 hP hS rfl
    · replace hF := if_f c_2 hF
      by_cases c_3 : i2 = (2 : Int32)
      · replace hF := if_t c_3 hF
        refine lv_tableIn (off := 45) (tgt := 46) hx hb dX6_partOf_1 (by rw [c_3]; decide) (by rw [c_3]; decide) (by rw [c_3]; decide) (by decide) ?_
        refine lv_iload_n hx hb dX6_partOf_46 rfl (lv_at hl 1 rfl) ?_
        refine xri0 (xrunS (As := [.int i1]) (rest := []) (c_X6_bOf l D cI cB cJ _ i1 (f_X6_bOf i1) rfl) hfix xw_391 ys_X6_bOf ⟨rfl, rfl⟩ ⟨(Nat.le_of_ble_eq_true rfl), (Nat.le_of_ble_eq_true rfl)⟩ xKk_K (fun U hU hW => xK.warm hW hK) hP hD [] rfl rfl rfl hl.1 rfl (Nat.le_of_ble_eq_true rfl) dX6_partOf_47 ⟨Nat.zero_le _, Nat.zero_le _⟩) hP hD hS hA [] rfl rfl (fun H locs hP hD hS => ?_)
        obtain rfl := Option.some.inj hF
        exact hEnd _ _ _ _ _ dX6_partOf_50 hP hS rfl
      · replace hF := if_f c_3 hF
        by_cases c_4 : i2 = (3 : Int32)
        · replace hF := if_t c_4 hF
          refine lv_tableIn (off := 50) (tgt := 51) hx hb dX6_partOf_1 (by rw [c_4]; decide) (by rw [c_4]; decide) (by rw [c_4]; decide) (by decide) ?_
          refine lv_iload_n hx hb dX6_partOf_51 rfl (lv_at hl 1 rfl) ?_
          refine xri0 (xrunS (As := [.int i1]) (rest := []) (c_X6_kOf l D cI cB cJ _ i1 (f_X6_kOf i1) rfl) hfix xw_394 ys_X6_kOf ⟨rfl, rfl⟩ ⟨(Nat.le_of_ble_eq_true rfl), (Nat.le_of_ble_eq_true rfl)⟩ xKk_K (fun U hU hW => xK.warm hW hK) hP hD [] rfl rfl rfl hl.1 rfl (Nat.le_of_ble_eq_true rfl) dX6_partOf_52 ⟨Nat.zero_le _, Nat.zero_le _⟩) hP hD hS hA [] rfl rfl (fun H locs hP hD hS => ?_)
          obtain rfl := Option.some.inj hF
          exact hEnd _ _ _ _ _ dX6_partOf_55 hP hS rfl
        · replace hF := if_f c_4 hF
          by_cases c_5 : i2 = (4 : Int32)
          · replace hF := if_t c_5 hF
            refine lv_tableIn (off := 55) (tgt := 56) hx hb dX6_partOf_1 (by rw [c_5]; decide) (by rw [c_5]; decide) (by rw [c_5]; decide) (by decide) ?_
            refine lv_iload_n hx hb dX6_partOf_56 rfl (lv_at hl 1 rfl) ?_
            refine xri0 (xrunS (As := [.int i1]) (rest := []) (c_X6_wordsOf l D cI cB cJ _ i1 (f_X6_wordsOf i1) rfl) hfix xw_397 ys_X6_wordsOf ⟨rfl, rfl⟩ ⟨(Nat.le_of_ble_eq_true rfl), (Nat.le_of_ble_eq_true rfl)⟩ xKk_K (fun U hU hW => xK.warm hW hK) hP hD [] rfl rfl rfl hl.1 rfl (Nat.le_of_ble_eq_true rfl) dX6_partOf_57 ⟨Nat.zero_le _, Nat.zero_le _⟩) hP hD hS hA [] rfl rfl (fun H locs hP hD hS => ?_)
            obtain rfl := Option.some.inj hF
            exact hEnd _ _ _ _ _ dX6_partOf_60 hP hS rfl
          · replace hF := if_f c_5 hF
            have hsw : (i2).toInt < 0 ∨ 4 < (i2).toInt := by
              have z0 := lv_neT c_1 (a := 0) (by decide)
              have z1 := lv_neT c_2 (a := 1) (by decide)
              have z2 := lv_neT c_3 (a := 2) (by decide)
              have z3 := lv_neT c_4 (a := 3) (by decide)
              have z4 := lv_neT c_5 (a := 4) (by decide)
              omega
            refine lv_tableOut (tgt := 61) hx hb dX6_partOf_1 hsw (by decide) ?_
            refine lv_aload_n hx hb dX6_partOf_61 rfl (lv_at hl 0 rfl) ?_
            refine xget (ci := 6) (C := RX6) (T := TX6) (N := 13) hfix xiX6 hK.1 hP 0 rfl rfl 0 (by decide) rfl xw_161 rfl dX6_partOf_62 ?_
            refine lv_iload_n hx hb dX6_partOf_65 rfl (lv_at hl 1 rfl) ?_
            refine lv_bipush (v := (24 : Int32)) hx hb dX6_partOf_66 (by decide) ?_
            obtain ⟨r_6, hq_7, hF⟩ := bd1_e hF
            refine xri0 (xrunV (As := [.int i1, .int (24 : Int32)]) (rest := []) (c_X0_misses l D cI cB cJ a_t_book a_t_book_village a_t_book_mark a_t_book_held _ s_t_book_heldCount s_t_book_villages v_t_book_village v_t_book_mark i1 (24 : Int32) r_6 hq_7) hfix xw_400 yv_X0_misses ⟨rfl, rfl⟩ ⟨(Nat.le_of_ble_eq_true rfl), (Nat.le_of_ble_eq_true rfl)⟩ xKk_K (fun U hU hW => xK.warm hW hK) hK.1 hP hD [1, 2, 3] rfl rfl 1 0 rfl rfl rfl rfl hl.1 rfl (Nat.le_of_ble_eq_true rfl) dX6_partOf_68 ⟨Nat.zero_le _, Nat.zero_le _⟩) hP hD hS hA [1, 2, 3] rfl rfl (fun H locs hP hD hS => ?_)
            obtain rfl := Option.some.inj hF
            exact hEnd _ _ _ _ _ dX6_partOf_71 hP hS rfl
def f_X6_ruleOf (i1 : Int32) (i2 : Int32) (s_t_book_heldCount : Int32) (s_t_book_villages : Int32) (v_t_book_held : (Nat → Int32)) (v_t_book_village : (Nat → Int32)) (v_t_book_mark : (Nat → Int32)) : Option (Int32) := (if (f_X0_holds i1 s_t_book_heldCount) = (0 : Int32) then some ((-1 : Int32)) else (if (f_X6_outside i2 (0 : Int32) (5 : Int32)) = (0 : Int32) then gd i1 6 (bd1 (f_X6_partOf (v_t_book_held i1.toNatClampNeg) i2 s_t_book_villages v_t_book_village v_t_book_mark) (fun (r_6 : Int32) => some (r_6))) else some ((-1 : Int32))))
abbrev rmX6_ruleOf : Room := { frames := 5, cells := 0, slots := 0, locals := 116 }
set_option maxHeartbeats 400000 in
set_option maxRecDepth 100000 in
theorem c_X6_ruleOf (l : Launch) (D : va_G) (cI cB cJ : ClassId) (a_t : Nat) (a_t_book : Nat) (a_t_kept : Nat) (a_t_told : Nat) (a_t_tape : Nat) (a_t_rows : Nat) (a_t_sheets : Nat) (a_t_shelves : Nat) (a_t_thing : Nat) (a_t_shares : Nat) (a_t_ahead : Nat) (a_t_book_village : Nat) (a_t_book_mark : Nat) (a_t_book_held : Nat) (sz : Nat) (s_t_isKept : Int32) (s_t_z : Int32) (s_t_keptZ : Int32) (s_t_book_heldCount : Int32) (s_t_book_villages : Int32) (v_t_book_held : (Nat → Int32)) (v_t_book_village : (Nat → Int32)) (v_t_book_mark : (Nat → Int32)) (i1 : Int32) (i2 : Int32) (r : Int32) (hF : f_X6_ruleOf i1 i2 s_t_book_heldCount s_t_book_villages v_t_book_held v_t_book_village v_t_book_mark = some r) : xMi l yX6_ruleOf (.code yX6_ruleOf cX6_ruleOf 3 (some .int) :: xU) rmX6_ruleOf (xK D cI cB cJ) D sz [.ref a_t, .int i1, .int i2] [(a_t, .inr (6, [.ref a_t_book, .ref a_t_kept, .ref a_t_told, .ref a_t_tape, .ref a_t_rows, .ref a_t_sheets, .ref a_t_shelves, .ref a_t_thing, .ref a_t_shares, .ref a_t_ahead, .int s_t_isKept, .int s_t_z, .int s_t_keptZ])), (a_t_book, .inr (0, [.ref a_t_book_village, .ref a_t_book_mark, .ref a_t_book_held, .int s_t_book_heldCount, .int s_t_book_villages])), (a_t_book_held, .inl (cI, 6, .inl v_t_book_held)), (a_t_book_village, .inl (cI, 24, .inl v_t_book_village)), (a_t_book_mark, .inl (cI, 24, .inl v_t_book_mark))] [(a_t, .inr (6, [.ref a_t_book, .ref a_t_kept, .ref a_t_told, .ref a_t_tape, .ref a_t_rows, .ref a_t_sheets, .ref a_t_shelves, .ref a_t_thing, .ref a_t_shares, .ref a_t_ahead, .int s_t_isKept, .int s_t_z, .int s_t_keptZ])), (a_t_book, .inr (0, [.ref a_t_book_village, .ref a_t_book_mark, .ref a_t_book_held, .int s_t_book_heldCount, .int s_t_book_villages])), (a_t_book_held, .inl (cI, 6, .inl v_t_book_held)), (a_t_book_village, .inl (cI, 24, .inl v_t_book_village)), (a_t_book_mark, .inl (cI, 24, .inl v_t_book_mark))] r := by
  refine xMi.mk (own := "FairNext") (by decide +kernel) rfl (Nat.le_of_ble_eq_true rfl) ?_
  intro p e s m args below meth c A Q ls H hfix hK hP hD hA hS hl hEnd
  obtain ⟨hx, hb, hml, hown, hts⟩ := id hfix
  have hl : lv_has ls 3 [(0, .ref a_t), (1, .int i1), (2, .int i2)] := hl
  rw [f_X6_ruleOf] at hF
  refine lv_aload_n hx hb dX6_ruleOf_0 rfl (lv_at hl 0 rfl) ?_
  refine xget (ci := 6) (C := RX6) (T := TX6) (N := 13) hfix xiX6 hK.1 hP 0 rfl rfl 0 (by decide) rfl xw_161 rfl dX6_ruleOf_1 ?_
  refine lv_iload_n hx hb dX6_ruleOf_4 rfl (lv_at hl 1 rfl) ?_
  refine xrz0 (xrunV (As := [.int i1]) (rest := []) (c_X0_holds l D cI cB cJ a_t_book a_t_book_village a_t_book_mark a_t_book_held _ s_t_book_heldCount s_t_book_villages i1 (f_X0_holds i1 s_t_book_heldCount) rfl) hfix xw_377 yv_X0_holds ⟨rfl, rfl⟩ ⟨(Nat.le_of_ble_eq_true rfl), (Nat.le_of_ble_eq_true rfl)⟩ xKk_K (fun U hU hW => xK.warm hW hK) hK.1 hP hD [1] rfl rfl 1 0 rfl rfl rfl rfl hl.1 rfl (Nat.le_of_ble_eq_true rfl) dX6_ruleOf_5 ⟨Nat.zero_le _, Nat.zero_le _⟩) hP hD hS hA [1] rfl rfl (fun H locs hP hD hS hz_1 => ?_)
  refine lv_if_eq (tgt := 20) hx hb dX6_ruleOf_8 (by decide) (fun c_2 => ?_) (fun c_2 => ?_)
  · replace hF := if_t c_2 hF
    refine lv_iconst (v := (-1 : Int32)) hx hb dX6_ruleOf_20 (by decide) ?_
    obtain rfl := Option.some.inj hF
    exact hEnd _ _ _ _ _ dX6_ruleOf_21 hP hS rfl
  · replace hF := if_f c_2 hF
    refine lv_iload_n hx hb dX6_ruleOf_11 rfl (lv_at hl 2 rfl) ?_
    refine lv_iconst (v := (0 : Int32)) hx hb dX6_ruleOf_12 (by decide) ?_
    refine lv_iconst (v := (5 : Int32)) hx hb dX6_ruleOf_13 (by decide) ?_
    refine xrz0 (xrunS (As := [.int i2, .int (0 : Int32), .int (5 : Int32)]) (rest := []) (c_X6_outside l D cI cB cJ _ i2 (0 : Int32) (5 : Int32) (f_X6_outside i2 (0 : Int32) (5 : Int32)) rfl) hfix xw_205 ys_X6_outside ⟨rfl, rfl⟩ ⟨(Nat.le_of_ble_eq_true rfl), (Nat.le_of_ble_eq_true rfl)⟩ xKk_K (fun U hU hW => xK.warm hW hK) hP hD [] rfl rfl rfl hl.1 rfl (Nat.le_of_ble_eq_true rfl) dX6_ruleOf_14 ⟨Nat.zero_le _, Nat.zero_le _⟩) hP hD hS hA [] rfl rfl (fun H locs hP hD hS hz_3 => ?_)
    refine lv_if_eq (tgt := 22) hx hb dX6_ruleOf_17 (by decide) (fun c_4 => ?_) (fun c_4 => ?_)
    · replace hF := if_t c_4 hF
      refine lv_aload_n hx hb dX6_ruleOf_22 rfl (lv_at hl 0 rfl) ?_
      refine lv_aload_n hx hb dX6_ruleOf_23 rfl (lv_at hl 0 rfl) ?_
      refine xget (ci := 6) (C := RX6) (T := TX6) (N := 13) hfix xiX6 hK.1 hP 0 rfl rfl 0 (by decide) rfl xw_161 rfl dX6_ruleOf_24 ?_
      refine xget (ci := 0) (C := RX0) (T := TX0) (N := 5) hfix xiX0 hK.1 hP 1 rfl rfl 2 (by decide) rfl xw_40 rfl dX6_ruleOf_27 ?_
      refine lv_iload_n hx hb dX6_ruleOf_30 rfl (lv_at hl 1 rfl) ?_
      obtain ⟨c_5, hF⟩ := gd_e hF
      refine va_iald hx hb hK.1 hP 2 0 rfl rfl c_5 dX6_ruleOf_31 ?_
      refine lv_iload_n hx hb dX6_ruleOf_32 rfl (lv_at hl 2 rfl) ?_
      obtain ⟨r_6, hq_7, hF⟩ := bd1_e hF
      refine xri0 (xrunV (As := [.int (v_t_book_held i1.toNatClampNeg), .int i2]) (rest := []) (c_X6_partOf l D cI cB cJ a_t a_t_book a_t_kept a_t_told a_t_tape a_t_rows a_t_sheets a_t_shelves a_t_thing a_t_shares a_t_ahead a_t_book_village a_t_book_mark a_t_book_held _ s_t_isKept s_t_z s_t_keptZ s_t_book_heldCount s_t_book_villages v_t_book_village v_t_book_mark (v_t_book_held i1.toNatClampNeg) i2 r_6 hq_7) hfix xw_381 yv_X6_partOf ⟨rfl, rfl⟩ ⟨(Nat.le_of_ble_eq_true rfl), (Nat.le_of_ble_eq_true rfl)⟩ xKk_K (fun U hU hW => xK.warm hW hK) hK.1 hP hD [0, 1, 3, 4] rfl rfl 0 6 rfl rfl rfl rfl hl.1 rfl (Nat.le_of_ble_eq_true rfl) dX6_ruleOf_33 ⟨Nat.zero_le _, Nat.zero_le _⟩) hP hD hS hA [0, 1, 3, 4] rfl rfl (fun H locs hP hD hS => ?_)
      obtain rfl := Option.some.inj hF
      exact hEnd _ _ _ _ _ dX6_ruleOf_36 hP hS rfl
    · replace hF := if_f c_4 hF
      refine lv_iconst (v := (-1 : Int32)) hx hb dX6_ruleOf_20 (by decide) ?_
      obtain rfl := Option.some.inj hF
      exact hEnd _ _ _ _ _ dX6_ruleOf_21 hP hS rfl
def f_X6_drop (i1 : Int32) (s_t_book_heldCount : Int32) (v_t_book_held : (Nat → Int32)) : Option (Int32 × Int32 × (Nat → Int32)) := (if (f_X0_holds i1 s_t_book_heldCount) = (0 : Int32) then some (((-1 : Int32), s_t_book_heldCount, v_t_book_held)) else bd2 (f_X0_dropRule i1 s_t_book_heldCount v_t_book_held) (fun (o_3 : Int32) (o_4 : (Nat → Int32)) => some ((o_3, o_3, o_4))))
abbrev rmX6_drop : Room := { frames := 1, cells := 0, slots := 0, locals := 22 }
set_option maxHeartbeats 400000 in
set_option maxRecDepth 100000 in
theorem c_X6_drop (l : Launch) (D : va_G) (cI cB cJ : ClassId) (a_t : Nat) (a_t_book : Nat) (a_t_kept : Nat) (a_t_told : Nat) (a_t_tape : Nat) (a_t_rows : Nat) (a_t_sheets : Nat) (a_t_shelves : Nat) (a_t_thing : Nat) (a_t_shares : Nat) (a_t_ahead : Nat) (a_t_book_village : Nat) (a_t_book_mark : Nat) (a_t_book_held : Nat) (sz : Nat) (s_t_isKept : Int32) (s_t_z : Int32) (s_t_keptZ : Int32) (s_t_book_heldCount : Int32) (s_t_book_villages : Int32) (v_t_book_held : (Nat → Int32)) (i1 : Int32) (r : Int32) (o_s_t_book_heldCount : Int32) (o_v_t_book_held : (Nat → Int32)) (hF : f_X6_drop i1 s_t_book_heldCount v_t_book_held = some (r, o_s_t_book_heldCount, o_v_t_book_held)) : xMi l yX6_drop (.code yX6_drop cX6_drop 2 (some .int) :: xU) rmX6_drop (xK D cI cB cJ) D sz [.ref a_t, .int i1] [(a_t, .inr (6, [.ref a_t_book, .ref a_t_kept, .ref a_t_told, .ref a_t_tape, .ref a_t_rows, .ref a_t_sheets, .ref a_t_shelves, .ref a_t_thing, .ref a_t_shares, .ref a_t_ahead, .int s_t_isKept, .int s_t_z, .int s_t_keptZ])), (a_t_book, .inr (0, [.ref a_t_book_village, .ref a_t_book_mark, .ref a_t_book_held, .int s_t_book_heldCount, .int s_t_book_villages])), (a_t_book_held, .inl (cI, 6, .inl v_t_book_held))] [(a_t, .inr (6, [.ref a_t_book, .ref a_t_kept, .ref a_t_told, .ref a_t_tape, .ref a_t_rows, .ref a_t_sheets, .ref a_t_shelves, .ref a_t_thing, .ref a_t_shares, .ref a_t_ahead, .int s_t_isKept, .int s_t_z, .int s_t_keptZ])), (a_t_book, .inr (0, [.ref a_t_book_village, .ref a_t_book_mark, .ref a_t_book_held, .int o_s_t_book_heldCount, .int s_t_book_villages])), (a_t_book_held, .inl (cI, 6, .inl o_v_t_book_held))] r := by
  refine xMi.mk (own := "FairNext") (by decide +kernel) rfl (Nat.le_of_ble_eq_true rfl) ?_
  intro p e s m args below meth c A Q ls H hfix hK hP hD hA hS hl hEnd
  obtain ⟨hx, hb, hml, hown, hts⟩ := id hfix
  have hl : lv_has ls 2 [(0, .ref a_t), (1, .int i1)] := hl
  rw [f_X6_drop] at hF
  refine lv_aload_n hx hb dX6_drop_0 rfl (lv_at hl 0 rfl) ?_
  refine xget (ci := 6) (C := RX6) (T := TX6) (N := 13) hfix xiX6 hK.1 hP 0 rfl rfl 0 (by decide) rfl xw_161 rfl dX6_drop_1 ?_
  refine lv_iload_n hx hb dX6_drop_4 rfl (lv_at hl 1 rfl) ?_
  refine xrz0 (xrunV (As := [.int i1]) (rest := []) (c_X0_holds l D cI cB cJ a_t_book a_t_book_village a_t_book_mark a_t_book_held _ s_t_book_heldCount s_t_book_villages i1 (f_X0_holds i1 s_t_book_heldCount) rfl) hfix xw_377 yv_X0_holds ⟨rfl, rfl⟩ ⟨(Nat.le_of_ble_eq_true rfl), (Nat.le_of_ble_eq_true rfl)⟩ xKk_K (fun U hU hW => xK.warm hW hK) hK.1 hP hD [1] rfl rfl 1 0 rfl rfl rfl rfl hl.1 rfl (Nat.le_of_ble_eq_true rfl) dX6_drop_5 ⟨Nat.zero_le _, Nat.zero_le _⟩) hP hD hS hA [1] rfl rfl (fun H locs hP hD hS hz_1 => ?_)
  refine lv_if_ne (tgt := 13) hx hb dX6_drop_8 (by decide) (fun c_2 => ?_) (fun c_2 => ?_)
  · replace hF := if_f c_2 hF
    refine lv_aload_n hx hb dX6_drop_13 rfl (lv_at hl 0 rfl) ?_
    refine xget (ci := 6) (C := RX6) (T := TX6) (N := 13) hfix xiX6 hK.1 hP 0 rfl rfl 0 (by decide) rfl xw_161 rfl dX6_drop_14 ?_
    refine lv_iload_n hx hb dX6_drop_17 rfl (lv_at hl 1 rfl) ?_
    obtain ⟨o_3, o_4, hq_5, hF⟩ := bd2_e hF
    refine xrv (xrunV (As := [.int i1]) (rest := []) (c_X0_dropRule l D cI cB cJ a_t_book a_t_book_village a_t_book_mark a_t_book_held _ s_t_book_heldCount s_t_book_villages v_t_book_held i1 o_3 o_4 hq_5) hfix xw_430 yv_X0_dropRule ⟨rfl, rfl⟩ ⟨(Nat.le_of_ble_eq_true rfl), (Nat.le_of_ble_eq_true rfl)⟩ xKk_K (fun U hU hW => xK.warm hW hK) hK.1 hP hD [1, 2] rfl rfl 1 0 rfl rfl rfl rfl hl.1 rfl (Nat.le_of_ble_eq_true rfl) dX6_drop_18 ⟨Nat.zero_le _, Nat.zero_le _⟩) hP hD hS hA [1, 2] rfl rfl rfl (wn := [(a_t, .inr (6, [.ref a_t_book, .ref a_t_kept, .ref a_t_told, .ref a_t_tape, .ref a_t_rows, .ref a_t_sheets, .ref a_t_shelves, .ref a_t_thing, .ref a_t_shares, .ref a_t_ahead, .int s_t_isKept, .int s_t_z, .int s_t_keptZ])), (a_t_book, .inr (0, [.ref a_t_book_village, .ref a_t_book_mark, .ref a_t_book_held, .int o_3, .int s_t_book_villages])), (a_t_book_held, .inl (cI, 6, .inl o_4))]) rfl (fun H locs hP hD hS => ?_)
    refine lv_aload_n hx hb dX6_drop_21 rfl (lv_at hl 0 rfl) ?_
    refine xget (ci := 6) (C := RX6) (T := TX6) (N := 13) hfix xiX6 hK.1 hP 0 rfl rfl 0 (by decide) rfl xw_161 rfl dX6_drop_22 ?_
    refine xget (ci := 0) (C := RX0) (T := TX0) (N := 5) hfix xiX0 hK.1 hP 1 rfl rfl 3 (by decide) rfl xw_43 rfl dX6_drop_25 ?_
    obtain ⟨rfl, rfl, rfl⟩ := pj3 hF
    exact hEnd _ _ _ _ _ dX6_drop_28 hP hS rfl
  · replace hF := if_t c_2 hF
    refine lv_iconst (v := (-1 : Int32)) hx hb dX6_drop_11 (by decide) ?_
    obtain ⟨rfl, rfl, rfl⟩ := pj3 hF
    exact hEnd _ _ _ _ _ dX6_drop_12 hP hS rfl
def f_X6_says (i1 : Int32) (i2 : Int32) (s_t_book_heldCount : Int32) (s_t_book_villages : Int32) (v_t_book_held : (Nat → Int32)) (v_t_book_village : (Nat → Int32)) (v_t_book_mark : (Nat → Int32)) : Option (Int32) := (if (f_X0_holds i1 s_t_book_heldCount) = (0 : Int32) then some ((-1 : Int32)) else (if (f_X6_outside i2 (0 : Int32) (99 : Int32)) = (0 : Int32) then gd i1 6 (bd1 (f_X0_saying (v_t_book_held i1.toNatClampNeg) i2 24 s_t_book_villages v_t_book_village v_t_book_mark) (fun (r_6 : Int32) => some (r_6))) else some ((-1 : Int32))))
abbrev rmX6_says : Room := { frames := 3, cells := 0, slots := 0, locals := 70 }
set_option maxHeartbeats 400000 in
set_option maxRecDepth 100000 in
theorem c_X6_says (l : Launch) (D : va_G) (cI cB cJ : ClassId) (a_t : Nat) (a_t_book : Nat) (a_t_kept : Nat) (a_t_told : Nat) (a_t_tape : Nat) (a_t_rows : Nat) (a_t_sheets : Nat) (a_t_shelves : Nat) (a_t_thing : Nat) (a_t_shares : Nat) (a_t_ahead : Nat) (a_t_book_village : Nat) (a_t_book_mark : Nat) (a_t_book_held : Nat) (sz : Nat) (s_t_isKept : Int32) (s_t_z : Int32) (s_t_keptZ : Int32) (s_t_book_heldCount : Int32) (s_t_book_villages : Int32) (v_t_book_held : (Nat → Int32)) (v_t_book_village : (Nat → Int32)) (v_t_book_mark : (Nat → Int32)) (i1 : Int32) (i2 : Int32) (r : Int32) (hF : f_X6_says i1 i2 s_t_book_heldCount s_t_book_villages v_t_book_held v_t_book_village v_t_book_mark = some r) : xMi l yX6_says (.code yX6_says cX6_says 3 (some .int) :: xU) rmX6_says (xK D cI cB cJ) D sz [.ref a_t, .int i1, .int i2] [(a_t, .inr (6, [.ref a_t_book, .ref a_t_kept, .ref a_t_told, .ref a_t_tape, .ref a_t_rows, .ref a_t_sheets, .ref a_t_shelves, .ref a_t_thing, .ref a_t_shares, .ref a_t_ahead, .int s_t_isKept, .int s_t_z, .int s_t_keptZ])), (a_t_book, .inr (0, [.ref a_t_book_village, .ref a_t_book_mark, .ref a_t_book_held, .int s_t_book_heldCount, .int s_t_book_villages])), (a_t_book_held, .inl (cI, 6, .inl v_t_book_held)), (a_t_book_village, .inl (cI, 24, .inl v_t_book_village)), (a_t_book_mark, .inl (cI, 24, .inl v_t_book_mark))] [(a_t, .inr (6, [.ref a_t_book, .ref a_t_kept, .ref a_t_told, .ref a_t_tape, .ref a_t_rows, .ref a_t_sheets, .ref a_t_shelves, .ref a_t_thing, .ref a_t_shares, .ref a_t_ahead, .int s_t_isKept, .int s_t_z, .int s_t_keptZ])), (a_t_book, .inr (0, [.ref a_t_book_village, .ref a_t_book_mark, .ref a_t_book_held, .int s_t_book_heldCount, .int s_t_book_villages])), (a_t_book_held, .inl (cI, 6, .inl v_t_book_held)), (a_t_book_village, .inl (cI, 24, .inl v_t_book_village)), (a_t_book_mark, .inl (cI, 24, .inl v_t_book_mark))] r := by
  refine xMi.mk (own := "FairNext") (by decide +kernel) rfl (Nat.le_of_ble_eq_true rfl) ?_
  intro p e s m args below meth c A Q ls H hfix hK hP hD hA hS hl hEnd
  obtain ⟨hx, hb, hml, hown, hts⟩ := id hfix
  have hl : lv_has ls 3 [(0, .ref a_t), (1, .int i1), (2, .int i2)] := hl
  rw [f_X6_says] at hF
  refine lv_aload_n hx hb dX6_says_0 rfl (lv_at hl 0 rfl) ?_
  refine xget (ci := 6) (C := RX6) (T := TX6) (N := 13) hfix xiX6 hK.1 hP 0 rfl rfl 0 (by decide) rfl xw_161 rfl dX6_says_1 ?_
  refine lv_iload_n hx hb dX6_says_4 rfl (lv_at hl 1 rfl) ?_
  refine xrz0 (xrunV (As := [.int i1]) (rest := []) (c_X0_holds l D cI cB cJ a_t_book a_t_book_village a_t_book_mark a_t_book_held _ s_t_book_heldCount s_t_book_villages i1 (f_X0_holds i1 s_t_book_heldCount) rfl) hfix xw_377 yv_X0_holds ⟨rfl, rfl⟩ ⟨(Nat.le_of_ble_eq_true rfl), (Nat.le_of_ble_eq_true rfl)⟩ xKk_K (fun U hU hW => xK.warm hW hK) hK.1 hP hD [1] rfl rfl 1 0 rfl rfl rfl rfl hl.1 rfl (Nat.le_of_ble_eq_true rfl) dX6_says_5 ⟨Nat.zero_le _, Nat.zero_le _⟩) hP hD hS hA [1] rfl rfl (fun H locs hP hD hS hz_1 => ?_)
  refine lv_if_eq (tgt := 21) hx hb dX6_says_8 (by decide) (fun c_2 => ?_) (fun c_2 => ?_)
  · replace hF := if_t c_2 hF
    refine lv_iconst (v := (-1 : Int32)) hx hb dX6_says_21 (by decide) ?_
    obtain rfl := Option.some.inj hF
    exact hEnd _ _ _ _ _ dX6_says_22 hP hS rfl
  · replace hF := if_f c_2 hF
    refine lv_iload_n hx hb dX6_says_11 rfl (lv_at hl 2 rfl) ?_
    refine lv_iconst (v := (0 : Int32)) hx hb dX6_says_12 (by decide) ?_
    refine lv_bipush (v := (99 : Int32)) hx hb dX6_says_13 (by decide) ?_
    refine xrz0 (xrunS (As := [.int i2, .int (0 : Int32), .int (99 : Int32)]) (rest := []) (c_X6_outside l D cI cB cJ _ i2 (0 : Int32) (99 : Int32) (f_X6_outside i2 (0 : Int32) (99 : Int32)) rfl) hfix xw_205 ys_X6_outside ⟨rfl, rfl⟩ ⟨(Nat.le_of_ble_eq_true rfl), (Nat.le_of_ble_eq_true rfl)⟩ xKk_K (fun U hU hW => xK.warm hW hK) hP hD [] rfl rfl rfl hl.1 rfl (Nat.le_of_ble_eq_true rfl) dX6_says_15 ⟨Nat.zero_le _, Nat.zero_le _⟩) hP hD hS hA [] rfl rfl (fun H locs hP hD hS hz_3 => ?_)
    refine lv_if_eq (tgt := 23) hx hb dX6_says_18 (by decide) (fun c_4 => ?_) (fun c_4 => ?_)
    · replace hF := if_t c_4 hF
      refine lv_aload_n hx hb dX6_says_23 rfl (lv_at hl 0 rfl) ?_
      refine xget (ci := 6) (C := RX6) (T := TX6) (N := 13) hfix xiX6 hK.1 hP 0 rfl rfl 0 (by decide) rfl xw_161 rfl dX6_says_24 ?_
      refine lv_aload_n hx hb dX6_says_27 rfl (lv_at hl 0 rfl) ?_
      refine xget (ci := 6) (C := RX6) (T := TX6) (N := 13) hfix xiX6 hK.1 hP 0 rfl rfl 0 (by decide) rfl xw_161 rfl dX6_says_28 ?_
      refine xget (ci := 0) (C := RX0) (T := TX0) (N := 5) hfix xiX0 hK.1 hP 1 rfl rfl 2 (by decide) rfl xw_40 rfl dX6_says_31 ?_
      refine lv_iload_n hx hb dX6_says_34 rfl (lv_at hl 1 rfl) ?_
      obtain ⟨c_5, hF⟩ := gd_e hF
      refine va_iald hx hb hK.1 hP 2 0 rfl rfl c_5 dX6_says_35 ?_
      refine lv_iload_n hx hb dX6_says_36 rfl (lv_at hl 2 rfl) ?_
      refine lv_aload_n hx hb dX6_says_37 rfl (lv_at hl 0 rfl) ?_
      refine xget (ci := 6) (C := RX6) (T := TX6) (N := 13) hfix xiX6 hK.1 hP 0 rfl rfl 0 (by decide) rfl xw_161 rfl dX6_says_38 ?_
      refine xget (ci := 0) (C := RX0) (T := TX0) (N := 5) hfix xiX0 hK.1 hP 1 rfl rfl 0 (by decide) rfl xw_34 rfl dX6_says_41 ?_
      obtain ⟨r_6, hq_7, hF⟩ := bd1_e hF
      refine xri0 (xrunV (As := [.int (v_t_book_held i1.toNatClampNeg), .int i2, .ref a_t_book_village]) (rest := []) (c_X0_saying l D cI cB cJ a_t_book a_t_book_village a_t_book_mark a_t_book_held a_t_book_village _ 24 s_t_book_heldCount s_t_book_villages v_t_book_village v_t_book_mark (v_t_book_held i1.toNatClampNeg) i2 r_6 hq_7) hfix xw_438 yv_X0_saying ⟨rfl, rfl⟩ ⟨(Nat.le_of_ble_eq_true rfl), (Nat.le_of_ble_eq_true rfl)⟩ xKk_K (fun U hU hW => xK.warm hW hK) hK.1 hP hD [1, 3, 4] rfl rfl 1 0 rfl rfl rfl rfl hl.1 rfl (Nat.le_of_ble_eq_true rfl) dX6_says_44 ⟨Nat.zero_le _, Nat.zero_le _⟩) hP hD hS hA [1, 3, 4] rfl rfl (fun H locs hP hD hS => ?_)
      obtain rfl := Option.some.inj hF
      exact hEnd _ _ _ _ _ dX6_says_47 hP hS rfl
    · replace hF := if_f c_4 hF
      refine lv_iconst (v := (-1 : Int32)) hx hb dX6_says_21 (by decide) ?_
      obtain rfl := Option.some.inj hF
      exact hEnd _ _ _ _ _ dX6_says_22 hP hS rfl
def f_X6_run (i1 : Int32) (s_t_book_heldCount : Int32) (s_t_book_villages : Int32) (v_t_book_held : (Nat → Int32)) (v_t_book_village : (Nat → Int32)) (v_t_book_mark : (Nat → Int32)) : Option (Int32) := (if (f_X0_holds i1 s_t_book_heldCount) = (0 : Int32) then some ((-1 : Int32)) else gd i1 6 (bd1 (f_X0_longestRun (v_t_book_held i1.toNatClampNeg) s_t_book_villages v_t_book_village v_t_book_mark) (fun (r_4 : Int32) => some (r_4))))
abbrev rmX6_run : Room := { frames := 4, cells := 0, slots := 0, locals := 94 }
set_option maxHeartbeats 400000 in
set_option maxRecDepth 100000 in
theorem c_X6_run (l : Launch) (D : va_G) (cI cB cJ : ClassId) (a_t : Nat) (a_t_book : Nat) (a_t_kept : Nat) (a_t_told : Nat) (a_t_tape : Nat) (a_t_rows : Nat) (a_t_sheets : Nat) (a_t_shelves : Nat) (a_t_thing : Nat) (a_t_shares : Nat) (a_t_ahead : Nat) (a_t_book_village : Nat) (a_t_book_mark : Nat) (a_t_book_held : Nat) (sz : Nat) (s_t_isKept : Int32) (s_t_z : Int32) (s_t_keptZ : Int32) (s_t_book_heldCount : Int32) (s_t_book_villages : Int32) (v_t_book_held : (Nat → Int32)) (v_t_book_village : (Nat → Int32)) (v_t_book_mark : (Nat → Int32)) (i1 : Int32) (r : Int32) (hF : f_X6_run i1 s_t_book_heldCount s_t_book_villages v_t_book_held v_t_book_village v_t_book_mark = some r) : xMi l yX6_run (.code yX6_run cX6_run 2 (some .int) :: xU) rmX6_run (xK D cI cB cJ) D sz [.ref a_t, .int i1] [(a_t, .inr (6, [.ref a_t_book, .ref a_t_kept, .ref a_t_told, .ref a_t_tape, .ref a_t_rows, .ref a_t_sheets, .ref a_t_shelves, .ref a_t_thing, .ref a_t_shares, .ref a_t_ahead, .int s_t_isKept, .int s_t_z, .int s_t_keptZ])), (a_t_book, .inr (0, [.ref a_t_book_village, .ref a_t_book_mark, .ref a_t_book_held, .int s_t_book_heldCount, .int s_t_book_villages])), (a_t_book_held, .inl (cI, 6, .inl v_t_book_held)), (a_t_book_village, .inl (cI, 24, .inl v_t_book_village)), (a_t_book_mark, .inl (cI, 24, .inl v_t_book_mark))] [(a_t, .inr (6, [.ref a_t_book, .ref a_t_kept, .ref a_t_told, .ref a_t_tape, .ref a_t_rows, .ref a_t_sheets, .ref a_t_shelves, .ref a_t_thing, .ref a_t_shares, .ref a_t_ahead, .int s_t_isKept, .int s_t_z, .int s_t_keptZ])), (a_t_book, .inr (0, [.ref a_t_book_village, .ref a_t_book_mark, .ref a_t_book_held, .int s_t_book_heldCount, .int s_t_book_villages])), (a_t_book_held, .inl (cI, 6, .inl v_t_book_held)), (a_t_book_village, .inl (cI, 24, .inl v_t_book_village)), (a_t_book_mark, .inl (cI, 24, .inl v_t_book_mark))] r := by
  refine xMi.mk (own := "FairNext") (by decide +kernel) rfl (Nat.le_of_ble_eq_true rfl) ?_
  intro p e s m args below meth c A Q ls H hfix hK hP hD hA hS hl hEnd
  obtain ⟨hx, hb, hml, hown, hts⟩ := id hfix
  have hl : lv_has ls 2 [(0, .ref a_t), (1, .int i1)] := hl
  rw [f_X6_run] at hF
  refine lv_aload_n hx hb dX6_run_0 rfl (lv_at hl 0 rfl) ?_
  refine xget (ci := 6) (C := RX6) (T := TX6) (N := 13) hfix xiX6 hK.1 hP 0 rfl rfl 0 (by decide) rfl xw_161 rfl dX6_run_1 ?_
  refine lv_iload_n hx hb dX6_run_4 rfl (lv_at hl 1 rfl) ?_
  refine xrz0 (xrunV (As := [.int i1]) (rest := []) (c_X0_holds l D cI cB cJ a_t_book a_t_book_village a_t_book_mark a_t_book_held _ s_t_book_heldCount s_t_book_villages i1 (f_X0_holds i1 s_t_book_heldCount) rfl) hfix xw_377 yv_X0_holds ⟨rfl, rfl⟩ ⟨(Nat.le_of_ble_eq_true rfl), (Nat.le_of_ble_eq_true rfl)⟩ xKk_K (fun U hU hW => xK.warm hW hK) hK.1 hP hD [1] rfl rfl 1 0 rfl rfl rfl rfl hl.1 rfl (Nat.le_of_ble_eq_true rfl) dX6_run_5 ⟨Nat.zero_le _, Nat.zero_le _⟩) hP hD hS hA [1] rfl rfl (fun H locs hP hD hS hz_1 => ?_)
  refine lv_if_ne (tgt := 13) hx hb dX6_run_8 (by decide) (fun c_2 => ?_) (fun c_2 => ?_)
  · replace hF := if_f c_2 hF
    refine lv_aload_n hx hb dX6_run_13 rfl (lv_at hl 0 rfl) ?_
    refine xget (ci := 6) (C := RX6) (T := TX6) (N := 13) hfix xiX6 hK.1 hP 0 rfl rfl 0 (by decide) rfl xw_161 rfl dX6_run_14 ?_
    refine lv_aload_n hx hb dX6_run_17 rfl (lv_at hl 0 rfl) ?_
    refine xget (ci := 6) (C := RX6) (T := TX6) (N := 13) hfix xiX6 hK.1 hP 0 rfl rfl 0 (by decide) rfl xw_161 rfl dX6_run_18 ?_
    refine xget (ci := 0) (C := RX0) (T := TX0) (N := 5) hfix xiX0 hK.1 hP 1 rfl rfl 2 (by decide) rfl xw_40 rfl dX6_run_21 ?_
    refine lv_iload_n hx hb dX6_run_24 rfl (lv_at hl 1 rfl) ?_
    obtain ⟨c_3, hF⟩ := gd_e hF
    refine va_iald hx hb hK.1 hP 2 0 rfl rfl c_3 dX6_run_25 ?_
    obtain ⟨r_4, hq_5, hF⟩ := bd1_e hF
    refine xri0 (xrunV (As := [.int (v_t_book_held i1.toNatClampNeg)]) (rest := []) (c_X0_longestRun l D cI cB cJ a_t_book a_t_book_village a_t_book_mark a_t_book_held _ s_t_book_heldCount s_t_book_villages v_t_book_village v_t_book_mark (v_t_book_held i1.toNatClampNeg) r_4 hq_5) hfix xw_443 yv_X0_longestRun ⟨rfl, rfl⟩ ⟨(Nat.le_of_ble_eq_true rfl), (Nat.le_of_ble_eq_true rfl)⟩ xKk_K (fun U hU hW => xK.warm hW hK) hK.1 hP hD [1, 3, 4] rfl rfl 1 0 rfl rfl rfl rfl hl.1 rfl (Nat.le_of_ble_eq_true rfl) dX6_run_26 ⟨Nat.zero_le _, Nat.zero_le _⟩) hP hD hS hA [1, 3, 4] rfl rfl (fun H locs hP hD hS => ?_)
    obtain rfl := Option.some.inj hF
    exact hEnd _ _ _ _ _ dX6_run_29 hP hS rfl
  · replace hF := if_t c_2 hF
    refine lv_iconst (v := (-1 : Int32)) hx hb dX6_run_11 (by decide) ?_
    obtain rfl := Option.some.inj hF
    exact hEnd _ _ _ _ _ dX6_run_12 hP hS rfl
def f_X6_believed (i1 : Int32) (i2 : Int32) (s_t_book_heldCount : Int32) (s_t_book_villages : Int32) (v_t_book_held : (Nat → Int32)) (v_t_book_village : (Nat → Int32)) (v_t_book_mark : (Nat → Int32)) : Option (Int32) := (if (f_X0_holds i1 s_t_book_heldCount) = (0 : Int32) then some ((-1 : Int32)) else (if (f_X6_outside i2 (1 : Int32) (9 : Int32)) = (0 : Int32) then gd i1 6 (bd1 (f_X0_yearOfRun (v_t_book_held i1.toNatClampNeg) i2 s_t_book_villages v_t_book_village v_t_book_mark) (fun (r_6 : Int32) => some (r_6))) else some ((-1 : Int32))))
abbrev rmX6_believed : Room := { frames := 4, cells := 0, slots := 0, locals := 94 }
set_option maxHeartbeats 400000 in
set_option maxRecDepth 100000 in
theorem c_X6_believed (l : Launch) (D : va_G) (cI cB cJ : ClassId) (a_t : Nat) (a_t_book : Nat) (a_t_kept : Nat) (a_t_told : Nat) (a_t_tape : Nat) (a_t_rows : Nat) (a_t_sheets : Nat) (a_t_shelves : Nat) (a_t_thing : Nat) (a_t_shares : Nat) (a_t_ahead : Nat) (a_t_book_village : Nat) (a_t_book_mark : Nat) (a_t_book_held : Nat) (sz : Nat) (s_t_isKept : Int32) (s_t_z : Int32) (s_t_keptZ : Int32) (s_t_book_heldCount : Int32) (s_t_book_villages : Int32) (v_t_book_held : (Nat → Int32)) (v_t_book_village : (Nat → Int32)) (v_t_book_mark : (Nat → Int32)) (i1 : Int32) (i2 : Int32) (r : Int32) (hF : f_X6_believed i1 i2 s_t_book_heldCount s_t_book_villages v_t_book_held v_t_book_village v_t_book_mark = some r) : xMi l yX6_believed (.code yX6_believed cX6_believed 3 (some .int) :: xU) rmX6_believed (xK D cI cB cJ) D sz [.ref a_t, .int i1, .int i2] [(a_t, .inr (6, [.ref a_t_book, .ref a_t_kept, .ref a_t_told, .ref a_t_tape, .ref a_t_rows, .ref a_t_sheets, .ref a_t_shelves, .ref a_t_thing, .ref a_t_shares, .ref a_t_ahead, .int s_t_isKept, .int s_t_z, .int s_t_keptZ])), (a_t_book, .inr (0, [.ref a_t_book_village, .ref a_t_book_mark, .ref a_t_book_held, .int s_t_book_heldCount, .int s_t_book_villages])), (a_t_book_held, .inl (cI, 6, .inl v_t_book_held)), (a_t_book_village, .inl (cI, 24, .inl v_t_book_village)), (a_t_book_mark, .inl (cI, 24, .inl v_t_book_mark))] [(a_t, .inr (6, [.ref a_t_book, .ref a_t_kept, .ref a_t_told, .ref a_t_tape, .ref a_t_rows, .ref a_t_sheets, .ref a_t_shelves, .ref a_t_thing, .ref a_t_shares, .ref a_t_ahead, .int s_t_isKept, .int s_t_z, .int s_t_keptZ])), (a_t_book, .inr (0, [.ref a_t_book_village, .ref a_t_book_mark, .ref a_t_book_held, .int s_t_book_heldCount, .int s_t_book_villages])), (a_t_book_held, .inl (cI, 6, .inl v_t_book_held)), (a_t_book_village, .inl (cI, 24, .inl v_t_book_village)), (a_t_book_mark, .inl (cI, 24, .inl v_t_book_mark))] r := by
  refine xMi.mk (own := "FairNext") (by decide +kernel) rfl (Nat.le_of_ble_eq_true rfl) ?_
  intro p e s m args below meth c A Q ls H hfix hK hP hD hA hS hl hEnd
  obtain ⟨hx, hb, hml, hown, hts⟩ := id hfix
  have hl : lv_has ls 3 [(0, .ref a_t), (1, .int i1), (2, .int i2)] := hl
  rw [f_X6_believed] at hF
  refine lv_aload_n hx hb dX6_believed_0 rfl (lv_at hl 0 rfl) ?_
  refine xget (ci := 6) (C := RX6) (T := TX6) (N := 13) hfix xiX6 hK.1 hP 0 rfl rfl 0 (by decide) rfl xw_161 rfl dX6_believed_1 ?_
  refine lv_iload_n hx hb dX6_believed_4 rfl (lv_at hl 1 rfl) ?_
  refine xrz0 (xrunV (As := [.int i1]) (rest := []) (c_X0_holds l D cI cB cJ a_t_book a_t_book_village a_t_book_mark a_t_book_held _ s_t_book_heldCount s_t_book_villages i1 (f_X0_holds i1 s_t_book_heldCount) rfl) hfix xw_377 yv_X0_holds ⟨rfl, rfl⟩ ⟨(Nat.le_of_ble_eq_true rfl), (Nat.le_of_ble_eq_true rfl)⟩ xKk_K (fun U hU hW => xK.warm hW hK) hK.1 hP hD [1] rfl rfl 1 0 rfl rfl rfl rfl hl.1 rfl (Nat.le_of_ble_eq_true rfl) dX6_believed_5 ⟨Nat.zero_le _, Nat.zero_le _⟩) hP hD hS hA [1] rfl rfl (fun H locs hP hD hS hz_1 => ?_)
  refine lv_if_eq (tgt := 21) hx hb dX6_believed_8 (by decide) (fun c_2 => ?_) (fun c_2 => ?_)
  · replace hF := if_t c_2 hF
    refine lv_iconst (v := (-1 : Int32)) hx hb dX6_believed_21 (by decide) ?_
    obtain rfl := Option.some.inj hF
    exact hEnd _ _ _ _ _ dX6_believed_22 hP hS rfl
  · replace hF := if_f c_2 hF
    refine lv_iload_n hx hb dX6_believed_11 rfl (lv_at hl 2 rfl) ?_
    refine lv_iconst (v := (1 : Int32)) hx hb dX6_believed_12 (by decide) ?_
    refine lv_bipush (v := (9 : Int32)) hx hb dX6_believed_13 (by decide) ?_
    refine xrz0 (xrunS (As := [.int i2, .int (1 : Int32), .int (9 : Int32)]) (rest := []) (c_X6_outside l D cI cB cJ _ i2 (1 : Int32) (9 : Int32) (f_X6_outside i2 (1 : Int32) (9 : Int32)) rfl) hfix xw_205 ys_X6_outside ⟨rfl, rfl⟩ ⟨(Nat.le_of_ble_eq_true rfl), (Nat.le_of_ble_eq_true rfl)⟩ xKk_K (fun U hU hW => xK.warm hW hK) hP hD [] rfl rfl rfl hl.1 rfl (Nat.le_of_ble_eq_true rfl) dX6_believed_15 ⟨Nat.zero_le _, Nat.zero_le _⟩) hP hD hS hA [] rfl rfl (fun H locs hP hD hS hz_3 => ?_)
    refine lv_if_eq (tgt := 23) hx hb dX6_believed_18 (by decide) (fun c_4 => ?_) (fun c_4 => ?_)
    · replace hF := if_t c_4 hF
      refine lv_aload_n hx hb dX6_believed_23 rfl (lv_at hl 0 rfl) ?_
      refine xget (ci := 6) (C := RX6) (T := TX6) (N := 13) hfix xiX6 hK.1 hP 0 rfl rfl 0 (by decide) rfl xw_161 rfl dX6_believed_24 ?_
      refine lv_aload_n hx hb dX6_believed_27 rfl (lv_at hl 0 rfl) ?_
      refine xget (ci := 6) (C := RX6) (T := TX6) (N := 13) hfix xiX6 hK.1 hP 0 rfl rfl 0 (by decide) rfl xw_161 rfl dX6_believed_28 ?_
      refine xget (ci := 0) (C := RX0) (T := TX0) (N := 5) hfix xiX0 hK.1 hP 1 rfl rfl 2 (by decide) rfl xw_40 rfl dX6_believed_31 ?_
      refine lv_iload_n hx hb dX6_believed_34 rfl (lv_at hl 1 rfl) ?_
      obtain ⟨c_5, hF⟩ := gd_e hF
      refine va_iald hx hb hK.1 hP 2 0 rfl rfl c_5 dX6_believed_35 ?_
      refine lv_iload_n hx hb dX6_believed_36 rfl (lv_at hl 2 rfl) ?_
      obtain ⟨r_6, hq_7, hF⟩ := bd1_e hF
      refine xri0 (xrunV (As := [.int (v_t_book_held i1.toNatClampNeg), .int i2]) (rest := []) (c_X0_yearOfRun l D cI cB cJ a_t_book a_t_book_village a_t_book_mark a_t_book_held _ s_t_book_heldCount s_t_book_villages v_t_book_village v_t_book_mark (v_t_book_held i1.toNatClampNeg) i2 r_6 hq_7) hfix xw_454 yv_X0_yearOfRun ⟨rfl, rfl⟩ ⟨(Nat.le_of_ble_eq_true rfl), (Nat.le_of_ble_eq_true rfl)⟩ xKk_K (fun U hU hW => xK.warm hW hK) hK.1 hP hD [1, 3, 4] rfl rfl 1 0 rfl rfl rfl rfl hl.1 rfl (Nat.le_of_ble_eq_true rfl) dX6_believed_37 ⟨Nat.zero_le _, Nat.zero_le _⟩) hP hD hS hA [1, 3, 4] rfl rfl (fun H locs hP hD hS => ?_)
      obtain rfl := Option.some.inj hF
      exact hEnd _ _ _ _ _ dX6_believed_40 hP hS rfl
    · replace hF := if_f c_4 hF
      refine lv_iconst (v := (-1 : Int32)) hx hb dX6_believed_21 (by decide) ?_
      obtain rfl := Option.some.inj hF
      exact hEnd _ _ _ _ _ dX6_believed_22 hP hS rfl
def f_X6_goOn_L10 (r_1 : Int32) (i1 : Int32) (s_t_book_villages : Int32) (v_t_book_mark : (Nat → Int32)) (v_t_book_village : (Nat → Int32)) : Nat → Int32 → (Nat → Int32) → Option ((Nat → Int32))
  | 0, _, _ => none
  | n + 1, x3_3, xv_t_ahead_4 => (if (100 : Int32) ≤ x3_3 then some (xv_t_ahead_4) else (if r_1 ≤ x3_3 then bd1 (f_X0_saying i1 x3_3 100 s_t_book_villages xv_t_ahead_4 v_t_book_mark) (fun (r_8 : Int32) => gd x3_3 100 (f_X6_goOn_L10 r_1 i1 s_t_book_villages v_t_book_mark v_t_book_village n (x3_3 + (1 : Int32)) (upd xv_t_ahead_4 x3_3.toNatClampNeg r_8))) else (if (24 : Int32) ≤ x3_3 then bd1 (f_X0_saying i1 x3_3 100 s_t_book_villages xv_t_ahead_4 v_t_book_mark) (fun (r_12 : Int32) => gd x3_3 100 (f_X6_goOn_L10 r_1 i1 s_t_book_villages v_t_book_mark v_t_book_village n (x3_3 + (1 : Int32)) (upd xv_t_ahead_4 x3_3.toNatClampNeg r_12))) else gd x3_3 24 (gd x3_3 100 (f_X6_goOn_L10 r_1 i1 s_t_book_villages v_t_book_mark v_t_book_village n (x3_3 + (1 : Int32)) (upd xv_t_ahead_4 x3_3.toNatClampNeg (v_t_book_village x3_3.toNatClampNeg)))))))
def f_X6_goOn (i1 : Int32) (s_t_book_villages : Int32) (v_t_book_village : (Nat → Int32)) (v_t_ahead : (Nat → Int32)) (v_t_book_mark : (Nat → Int32)) : Option ((Nat → Int32)) := bd1 (f_X0_last v_t_book_village) (fun (r_1 : Int32) => bd1 (f_X6_goOn_L10 r_1 i1 s_t_book_villages v_t_book_mark v_t_book_village 1000 (0 : Int32) v_t_ahead) (fun (yv_t_ahead_5 : (Nat → Int32)) => some (yv_t_ahead_5)))
abbrev rmX6_goOn : Room := { frames := 3, cells := 0, slots := 0, locals := 70 }
set_option maxHeartbeats 400000 in
set_option maxRecDepth 100000 in
theorem c_X6_goOn (l : Launch) (D : va_G) (cI cB cJ : ClassId) (a_t : Nat) (a_t_book : Nat) (a_t_kept : Nat) (a_t_told : Nat) (a_t_tape : Nat) (a_t_rows : Nat) (a_t_sheets : Nat) (a_t_shelves : Nat) (a_t_thing : Nat) (a_t_shares : Nat) (a_t_ahead : Nat) (a_t_book_village : Nat) (a_t_book_mark : Nat) (a_t_book_held : Nat) (sz : Nat) (s_t_isKept : Int32) (s_t_z : Int32) (s_t_keptZ : Int32) (s_t_book_heldCount : Int32) (s_t_book_villages : Int32) (v_t_book_village : (Nat → Int32)) (v_t_ahead : (Nat → Int32)) (v_t_book_mark : (Nat → Int32)) (i1 : Int32) (o_v_t_ahead : (Nat → Int32)) (hF : f_X6_goOn i1 s_t_book_villages v_t_book_village v_t_ahead v_t_book_mark = some o_v_t_ahead) : xMv l yX6_goOn (.code yX6_goOn cX6_goOn 4 none :: xU) rmX6_goOn (xK D cI cB cJ) D sz [.ref a_t, .int i1] [(a_t, .inr (6, [.ref a_t_book, .ref a_t_kept, .ref a_t_told, .ref a_t_tape, .ref a_t_rows, .ref a_t_sheets, .ref a_t_shelves, .ref a_t_thing, .ref a_t_shares, .ref a_t_ahead, .int s_t_isKept, .int s_t_z, .int s_t_keptZ])), (a_t_book, .inr (0, [.ref a_t_book_village, .ref a_t_book_mark, .ref a_t_book_held, .int s_t_book_heldCount, .int s_t_book_villages])), (a_t_book_village, .inl (cI, 24, .inl v_t_book_village)), (a_t_ahead, .inl (cI, 100, .inl v_t_ahead)), (a_t_book_mark, .inl (cI, 24, .inl v_t_book_mark))] [(a_t, .inr (6, [.ref a_t_book, .ref a_t_kept, .ref a_t_told, .ref a_t_tape, .ref a_t_rows, .ref a_t_sheets, .ref a_t_shelves, .ref a_t_thing, .ref a_t_shares, .ref a_t_ahead, .int s_t_isKept, .int s_t_z, .int s_t_keptZ])), (a_t_book, .inr (0, [.ref a_t_book_village, .ref a_t_book_mark, .ref a_t_book_held, .int s_t_book_heldCount, .int s_t_book_villages])), (a_t_book_village, .inl (cI, 24, .inl v_t_book_village)), (a_t_ahead, .inl (cI, 100, .inl o_v_t_ahead)), (a_t_book_mark, .inl (cI, 24, .inl v_t_book_mark))] := by
  refine xMv.mk (own := "FairNext") (by decide +kernel) rfl (Nat.le_of_ble_eq_true rfl) ?_
  intro p e s m args below meth c A Q ls H hfix hK hP hD hA hS hl hEnd
  obtain ⟨hx, hb, hml, hown, hts⟩ := id hfix
  have hl : lv_has ls 4 [(0, .ref a_t), (1, .int i1)] := hl
  rw [f_X6_goOn] at hF
  refine lv_aload_n hx hb dX6_goOn_0 rfl (lv_at hl 0 rfl) ?_
  refine xget (ci := 6) (C := RX6) (T := TX6) (N := 13) hfix xiX6 hK.1 hP 0 rfl rfl 0 (by decide) rfl xw_161 rfl dX6_goOn_1 ?_
  obtain ⟨r_1, hq_2, hF⟩ := bd1_e hF
  refine xri0 (xrunV (As := []) (rest := []) (c_X0_last l D cI cB cJ a_t_book a_t_book_village a_t_book_mark a_t_book_held _ s_t_book_heldCount s_t_book_villages v_t_book_village r_1 hq_2) hfix xw_462 yv_X0_last ⟨rfl, rfl⟩ ⟨(Nat.le_of_ble_eq_true rfl), (Nat.le_of_ble_eq_true rfl)⟩ xKk_K (fun U hU hW => xK.warm hW hK) hK.1 hP hD [1, 2] rfl rfl 1 0 rfl rfl rfl rfl hl.1 rfl (Nat.le_of_ble_eq_true rfl) dX6_goOn_4 ⟨Nat.zero_le _, Nat.zero_le _⟩) hP hD hS hA [1, 2] rfl rfl (fun H locs hP hD hS => ?_)
  refine lv_istore_n (lv' := [(2, .int r_1), (0, .ref a_t), (1, .int i1)]) hx hb dX6_goOn_7 rfl hl (by decide) rfl (fun ls hl => ?_)
  refine lv_iconst (v := (0 : Int32)) hx hb dX6_goOn_8 (by decide) ?_
  refine lv_istore_n (lv' := [(3, .int (0 : Int32)), (2, .int r_1), (0, .ref a_t), (1, .int i1)]) hx hb dX6_goOn_9 rfl hl (by decide) rfl (fun ls hl => ?_)
  have hL_10 : ∀ (n : Nat) (x3_3 : Int32) (xv_t_ahead_4 : (Nat → Int32)) (yv_t_ahead_5 : (Nat → Int32)), f_X6_goOn_L10 r_1 i1 s_t_book_villages v_t_book_mark v_t_book_village n x3_3 xv_t_ahead_4 = some yv_t_ahead_5 → ∀ (H : Heap) (locs : List Loc) (ls : Array Slot), va_P D vwCl [(a_t, .inr (6, [.ref a_t_book, .ref a_t_kept, .ref a_t_told, .ref a_t_tape, .ref a_t_rows, .ref a_t_sheets, .ref a_t_shelves, .ref a_t_thing, .ref a_t_shares, .ref a_t_ahead, .int s_t_isKept, .int s_t_z, .int s_t_keptZ])), (a_t_book, .inr (0, [.ref a_t_book_village, .ref a_t_book_mark, .ref a_t_book_held, .int s_t_book_heldCount, .int s_t_book_villages])), (a_t_book_village, .inl (cI, 24, .inl v_t_book_village)), (a_t_ahead, .inl (cI, 100, .inl xv_t_ahead_4)), (a_t_book_mark, .inl (cI, 24, .inl v_t_book_mark))] H → va_D A [(a_t, .inr (6, [.ref a_t_book, .ref a_t_kept, .ref a_t_told, .ref a_t_tape, .ref a_t_rows, .ref a_t_sheets, .ref a_t_shelves, .ref a_t_thing, .ref a_t_shares, .ref a_t_ahead, .int s_t_isKept, .int s_t_z, .int s_t_keptZ])), (a_t_book, .inr (0, [.ref a_t_book_village, .ref a_t_book_mark, .ref a_t_book_held, .int s_t_book_heldCount, .int s_t_book_villages])), (a_t_book_village, .inl (cI, 24, .inl v_t_book_village)), (a_t_ahead, .inl (cI, 100, .inl xv_t_ahead_4)), (a_t_book_mark, .inl (cI, 24, .inl v_t_book_mark))] → va_S A s.heap H locs → lv_has ls 4 [(0, .ref a_t), (1, .int i1), (2, .int r_1), (3, .int x3_3)] → (∀ (H : Heap) (locs : List Loc) (ls : Array Slot), va_P D vwCl [(a_t, .inr (6, [.ref a_t_book, .ref a_t_kept, .ref a_t_told, .ref a_t_tape, .ref a_t_rows, .ref a_t_sheets, .ref a_t_shelves, .ref a_t_thing, .ref a_t_shares, .ref a_t_ahead, .int s_t_isKept, .int s_t_z, .int s_t_keptZ])), (a_t_book, .inr (0, [.ref a_t_book_village, .ref a_t_book_mark, .ref a_t_book_held, .int s_t_book_heldCount, .int s_t_book_villages])), (a_t_book_village, .inl (cI, 24, .inl v_t_book_village)), (a_t_ahead, .inl (cI, 100, .inl yv_t_ahead_5)), (a_t_book_mark, .inl (cI, 24, .inl v_t_book_mark))] H → va_D A [(a_t, .inr (6, [.ref a_t_book, .ref a_t_kept, .ref a_t_told, .ref a_t_tape, .ref a_t_rows, .ref a_t_sheets, .ref a_t_shelves, .ref a_t_thing, .ref a_t_shares, .ref a_t_ahead, .int s_t_isKept, .int s_t_z, .int s_t_keptZ])), (a_t_book, .inr (0, [.ref a_t_book_village, .ref a_t_book_mark, .ref a_t_book_held, .int s_t_book_heldCount, .int s_t_book_villages])), (a_t_book_village, .inl (cI, 24, .inl v_t_book_village)), (a_t_ahead, .inl (cI, 100, .inl yv_t_ahead_5)), (a_t_book_mark, .inl (cI, 24, .inl v_t_book_mark))] → va_S A s.heap H locs → lv_has ls 4 [] → W p l e rmX6_goOn s m args below meth c H locs 0 0 Q (F0 m 64 ls [])) → W p l e rmX6_goOn s m args below meth c H locs 0 0 Q (F0 m 10 ls []) := by
    intro n
    induction n with
    | zero => intro x3_3 xv_t_ahead_4 yv_t_ahead_5 hF; exact (no_some hF).elim
    | succ n ih =>
      intro x3_3 xv_t_ahead_4 yv_t_ahead_5 hF H locs ls hP hD hS hl kexit
      rw [f_X6_goOn_L10] at hF
      refine lv_iload_n hx hb dX6_goOn_10 rfl (lv_at hl 3 rfl) ?_
      refine lv_bipush (v := (100 : Int32)) hx hb dX6_goOn_11 (by decide) ?_
      refine lv_icmp_ge (tgt := 64) hx hb dX6_goOn_13 (by decide) (fun c_6 => ?_) (fun c_6 => ?_)
      · replace hF := if_t c_6 hF
        obtain rfl := Option.some.inj hF
        exact kexit _ _ _ hP hD hS (lv_sub hl [] rfl)
      · replace hF := if_f c_6 hF
        refine lv_aload_n hx hb dX6_goOn_16 rfl (lv_at hl 0 rfl) ?_
        refine xget (ci := 6) (C := RX6) (T := TX6) (N := 13) hfix xiX6 hK.1 hP 0 rfl rfl 9 (by decide) rfl xw_170 rfl dX6_goOn_17 ?_
        refine lv_iload_n hx hb dX6_goOn_20 rfl (lv_at hl 3 rfl) ?_
        refine lv_iload_n hx hb dX6_goOn_21 rfl (lv_at hl 3 rfl) ?_
        refine lv_iload_n hx hb dX6_goOn_22 rfl (lv_at hl 2 rfl) ?_
        refine lv_icmp_ge (tgt := 44) hx hb dX6_goOn_23 (by decide) (fun c_7 => ?_) (fun c_7 => ?_)
        · replace hF := if_t c_7 hF
          refine lv_aload_n hx hb dX6_goOn_44 rfl (lv_at hl 0 rfl) ?_
          refine xget (ci := 6) (C := RX6) (T := TX6) (N := 13) hfix xiX6 hK.1 hP 0 rfl rfl 0 (by decide) rfl xw_161 rfl dX6_goOn_45 ?_
          refine lv_iload_n hx hb dX6_goOn_48 rfl (lv_at hl 1 rfl) ?_
          refine lv_iload_n hx hb dX6_goOn_49 rfl (lv_at hl 3 rfl) ?_
          refine lv_aload_n hx hb dX6_goOn_50 rfl (lv_at hl 0 rfl) ?_
          refine xget (ci := 6) (C := RX6) (T := TX6) (N := 13) hfix xiX6 hK.1 hP 0 rfl rfl 9 (by decide) rfl xw_170 rfl dX6_goOn_51 ?_
          obtain ⟨r_8, hq_9, hF⟩ := bd1_e hF
          refine xri0 (xrunV (As := [.int i1, .int x3_3, .ref a_t_ahead]) (rest := [.int x3_3, .ref a_t_ahead]) (c_X0_saying l D cI cB cJ a_t_book a_t_book_village a_t_book_mark a_t_book_held a_t_ahead _ 100 s_t_book_heldCount s_t_book_villages xv_t_ahead_4 v_t_book_mark i1 x3_3 r_8 hq_9) hfix xw_438 yv_X0_saying ⟨rfl, rfl⟩ ⟨(Nat.le_of_ble_eq_true rfl), (Nat.le_of_ble_eq_true rfl)⟩ xKk_K (fun U hU hW => xK.warm hW hK) hK.1 hP hD [1, 3, 4] rfl rfl 1 0 rfl rfl rfl rfl hl.1 rfl (Nat.le_of_ble_eq_true rfl) dX6_goOn_54 ⟨Nat.zero_le _, Nat.zero_le _⟩) hP hD hS hA [1, 3, 4] rfl rfl (fun H locs hP hD hS => ?_)
          obtain ⟨c_10, hF⟩ := gd_e hF
          refine va_iast hx hb hK.1 hP hD hS 3 0 rfl rfl c_10 dX6_goOn_57 (fun H locs hP hD hS => ?_)
          have hP : va_P D vwCl [(a_t, .inr (6, [.ref a_t_book, .ref a_t_kept, .ref a_t_told, .ref a_t_tape, .ref a_t_rows, .ref a_t_sheets, .ref a_t_shelves, .ref a_t_thing, .ref a_t_shares, .ref a_t_ahead, .int s_t_isKept, .int s_t_z, .int s_t_keptZ])), (a_t_book, .inr (0, [.ref a_t_book_village, .ref a_t_book_mark, .ref a_t_book_held, .int s_t_book_heldCount, .int s_t_book_villages])), (a_t_book_village, .inl (cI, 24, .inl v_t_book_village)), (a_t_ahead, .inl (cI, 100, .inl (upd xv_t_ahead_4 x3_3.toNatClampNeg r_8))), (a_t_book_mark, .inl (cI, 24, .inl v_t_book_mark))] H := hP
          have hD : va_D A [(a_t, .inr (6, [.ref a_t_book, .ref a_t_kept, .ref a_t_told, .ref a_t_tape, .ref a_t_rows, .ref a_t_sheets, .ref a_t_shelves, .ref a_t_thing, .ref a_t_shares, .ref a_t_ahead, .int s_t_isKept, .int s_t_z, .int s_t_keptZ])), (a_t_book, .inr (0, [.ref a_t_book_village, .ref a_t_book_mark, .ref a_t_book_held, .int s_t_book_heldCount, .int s_t_book_villages])), (a_t_book_village, .inl (cI, 24, .inl v_t_book_village)), (a_t_ahead, .inl (cI, 100, .inl (upd xv_t_ahead_4 x3_3.toNatClampNeg r_8))), (a_t_book_mark, .inl (cI, 24, .inl v_t_book_mark))] := hD
          refine lv_iinc (v := (x3_3 + (1 : Int32))) (lv' := [(3, .int (x3_3 + (1 : Int32))), (0, .ref a_t), (1, .int i1), (2, .int r_1)]) hx hb dX6_goOn_58 hl (k := 3) rfl rfl (by decide) rfl (fun ls hl => ?_)
          refine lv_goto (tgt := 10) hx hb dX6_goOn_61 (by decide) ?_
          exact ih _ _ _ hF _ _ _ hP hD hS (lv_sub hl [1, 2, 3, 0] rfl) kexit
        · replace hF := if_f c_7 hF
          refine lv_iload_n hx hb dX6_goOn_26 rfl (lv_at hl 3 rfl) ?_
          refine lv_bipush (v := (24 : Int32)) hx hb dX6_goOn_27 (by decide) ?_
          refine lv_icmp_ge (tgt := 44) hx hb dX6_goOn_29 (by decide) (fun c_11 => ?_) (fun c_11 => ?_)
          · replace hF := if_t c_11 hF
            refine lv_aload_n hx hb dX6_goOn_44 rfl (lv_at hl 0 rfl) ?_
            refine xget (ci := 6) (C := RX6) (T := TX6) (N := 13) hfix xiX6 hK.1 hP 0 rfl rfl 0 (by decide) rfl xw_161 rfl dX6_goOn_45 ?_
            refine lv_iload_n hx hb dX6_goOn_48 rfl (lv_at hl 1 rfl) ?_
            refine lv_iload_n hx hb dX6_goOn_49 rfl (lv_at hl 3 rfl) ?_
            refine lv_aload_n hx hb dX6_goOn_50 rfl (lv_at hl 0 rfl) ?_
            refine xget (ci := 6) (C := RX6) (T := TX6) (N := 13) hfix xiX6 hK.1 hP 0 rfl rfl 9 (by decide) rfl xw_170 rfl dX6_goOn_51 ?_
            obtain ⟨r_12, hq_13, hF⟩ := bd1_e hF
            refine xri0 (xrunV (As := [.int i1, .int x3_3, .ref a_t_ahead]) (rest := [.int x3_3, .ref a_t_ahead]) (c_X0_saying l D cI cB cJ a_t_book a_t_book_village a_t_book_mark a_t_book_held a_t_ahead _ 100 s_t_book_heldCount s_t_book_villages xv_t_ahead_4 v_t_book_mark i1 x3_3 r_12 hq_13) hfix xw_438 yv_X0_saying ⟨rfl, rfl⟩ ⟨(Nat.le_of_ble_eq_true rfl), (Nat.le_of_ble_eq_true rfl)⟩ xKk_K (fun U hU hW => xK.warm hW hK) hK.1 hP hD [1, 3, 4] rfl rfl 1 0 rfl rfl rfl rfl hl.1 rfl (Nat.le_of_ble_eq_true rfl) dX6_goOn_54 ⟨Nat.zero_le _, Nat.zero_le _⟩) hP hD hS hA [1, 3, 4] rfl rfl (fun H locs hP hD hS => ?_)
            obtain ⟨c_14, hF⟩ := gd_e hF
            refine va_iast hx hb hK.1 hP hD hS 3 0 rfl rfl c_14 dX6_goOn_57 (fun H locs hP hD hS => ?_)
            have hP : va_P D vwCl [(a_t, .inr (6, [.ref a_t_book, .ref a_t_kept, .ref a_t_told, .ref a_t_tape, .ref a_t_rows, .ref a_t_sheets, .ref a_t_shelves, .ref a_t_thing, .ref a_t_shares, .ref a_t_ahead, .int s_t_isKept, .int s_t_z, .int s_t_keptZ])), (a_t_book, .inr (0, [.ref a_t_book_village, .ref a_t_book_mark, .ref a_t_book_held, .int s_t_book_heldCount, .int s_t_book_villages])), (a_t_book_village, .inl (cI, 24, .inl v_t_book_village)), (a_t_ahead, .inl (cI, 100, .inl (upd xv_t_ahead_4 x3_3.toNatClampNeg r_12))), (a_t_book_mark, .inl (cI, 24, .inl v_t_book_mark))] H := hP
            have hD : va_D A [(a_t, .inr (6, [.ref a_t_book, .ref a_t_kept, .ref a_t_told, .ref a_t_tape, .ref a_t_rows, .ref a_t_sheets, .ref a_t_shelves, .ref a_t_thing, .ref a_t_shares, .ref a_t_ahead, .int s_t_isKept, .int s_t_z, .int s_t_keptZ])), (a_t_book, .inr (0, [.ref a_t_book_village, .ref a_t_book_mark, .ref a_t_book_held, .int s_t_book_heldCount, .int s_t_book_villages])), (a_t_book_village, .inl (cI, 24, .inl v_t_book_village)), (a_t_ahead, .inl (cI, 100, .inl (upd xv_t_ahead_4 x3_3.toNatClampNeg r_12))), (a_t_book_mark, .inl (cI, 24, .inl v_t_book_mark))] := hD
            refine lv_iinc (v := (x3_3 + (1 : Int32))) (lv' := [(3, .int (x3_3 + (1 : Int32))), (0, .ref a_t), (1, .int i1), (2, .int r_1)]) hx hb dX6_goOn_58 hl (k := 3) rfl rfl (by decide) rfl (fun ls hl => ?_)
            refine lv_goto (tgt := 10) hx hb dX6_goOn_61 (by decide) ?_
            exact ih _ _ _ hF _ _ _ hP hD hS (lv_sub hl [1, 2, 3, 0] rfl) kexit
          · replace hF := if_f c_11 hF
            refine lv_aload_n hx hb dX6_goOn_32 rfl (lv_at hl 0 rfl) ?_
            refine xget (ci := 6) (C := RX6) (T := TX6) (N := 13) hfix xiX6 hK.1 hP 0 rfl rfl 0 (by decide) rfl xw_161 rfl dX6_goOn_33 ?_
            refine xget (ci := 0) (C := RX0) (T := TX0) (N := 5) hfix xiX0 hK.1 hP 1 rfl rfl 0 (by decide) rfl xw_34 rfl dX6_goOn_36 ?_
            refine lv_iload_n hx hb dX6_goOn_39 rfl (lv_at hl 3 rfl) ?_
            obtain ⟨c_15, hF⟩ := gd_e hF
            refine va_iald hx hb hK.1 hP 2 0 rfl rfl c_15 dX6_goOn_40 ?_
            refine lv_goto (tgt := 57) hx hb dX6_goOn_41 (by decide) ?_
            obtain ⟨c_16, hF⟩ := gd_e hF
            refine va_iast hx hb hK.1 hP hD hS 3 0 rfl rfl c_16 dX6_goOn_57 (fun H locs hP hD hS => ?_)
            have hP : va_P D vwCl [(a_t, .inr (6, [.ref a_t_book, .ref a_t_kept, .ref a_t_told, .ref a_t_tape, .ref a_t_rows, .ref a_t_sheets, .ref a_t_shelves, .ref a_t_thing, .ref a_t_shares, .ref a_t_ahead, .int s_t_isKept, .int s_t_z, .int s_t_keptZ])), (a_t_book, .inr (0, [.ref a_t_book_village, .ref a_t_book_mark, .ref a_t_book_held, .int s_t_book_heldCount, .int s_t_book_villages])), (a_t_book_village, .inl (cI, 24, .inl v_t_book_village)), (a_t_ahead, .inl (cI, 100, .inl (upd xv_t_ahead_4 x3_3.toNatClampNeg (v_t_book_village x3_3.toNatClampNeg)))), (a_t_book_mark, .inl (cI, 24, .inl v_t_book_mark))] H := hP
            have hD : va_D A [(a_t, .inr (6, [.ref a_t_book, .ref a_t_kept, .ref a_t_told, .ref a_t_tape, .ref a_t_rows, .ref a_t_sheets, .ref a_t_shelves, .ref a_t_thing, .ref a_t_shares, .ref a_t_ahead, .int s_t_isKept, .int s_t_z, .int s_t_keptZ])), (a_t_book, .inr (0, [.ref a_t_book_village, .ref a_t_book_mark, .ref a_t_book_held, .int s_t_book_heldCount, .int s_t_book_villages])), (a_t_book_village, .inl (cI, 24, .inl v_t_book_village)), (a_t_ahead, .inl (cI, 100, .inl (upd xv_t_ahead_4 x3_3.toNatClampNeg (v_t_book_village x3_3.toNatClampNeg)))), (a_t_book_mark, .inl (cI, 24, .inl v_t_book_mark))] := hD
            refine lv_iinc (v := (x3_3 + (1 : Int32))) (lv' := [(3, .int (x3_3 + (1 : Int32))), (0, .ref a_t), (1, .int i1), (2, .int r_1)]) hx hb dX6_goOn_58 hl (k := 3) rfl rfl (by decide) rfl (fun ls hl => ?_)
            refine lv_goto (tgt := 10) hx hb dX6_goOn_61 (by decide) ?_
            exact ih _ _ _ hF _ _ _ hP hD hS (lv_sub hl [1, 2, 3, 0] rfl) kexit
  obtain ⟨yv_t_ahead_5, hq, hF⟩ := bd1_e hF
  refine hL_10 _ _ _ _ hq _ _ _ hP hD hS (lv_sub hl [2, 3, 1, 0] rfl) (fun H locs ls hP hD hS hl => ?_)
  obtain rfl := Option.some.inj hF
  exact hEnd _ _ _ _ dX6_goOn_64 hP hS
def f_X6_on (i1 : Int32) (i2 : Int32) (s_t_book_heldCount : Int32) (s_t_book_villages : Int32) (v_t_book_village : (Nat → Int32)) (v_t_book_held : (Nat → Int32)) (v_t_ahead : (Nat → Int32)) (v_t_book_mark : (Nat → Int32)) : Option (Int32 × (Nat → Int32)) := (if (f_X0_holds i1 s_t_book_heldCount) = (0 : Int32) then some (((-1 : Int32), v_t_ahead)) else bd1 (f_X0_last v_t_book_village) (fun (r_3 : Int32) => (if (f_X6_outside i2 r_3 (99 : Int32)) = (0 : Int32) then gd i1 6 (bd1 (f_X6_goOn (v_t_book_held i1.toNatClampNeg) s_t_book_villages v_t_book_village v_t_ahead v_t_book_mark) (fun (o_8 : (Nat → Int32)) => gd i2 100 (some (((o_8 i2.toNatClampNeg), o_8))))) else some (((-1 : Int32), v_t_ahead)))))
abbrev rmX6_on : Room := { frames := 4, cells := 0, slots := 0, locals := 93 }
set_option maxHeartbeats 400000 in
set_option maxRecDepth 100000 in
theorem c_X6_on (l : Launch) (D : va_G) (cI cB cJ : ClassId) (a_t : Nat) (a_t_book : Nat) (a_t_kept : Nat) (a_t_told : Nat) (a_t_tape : Nat) (a_t_rows : Nat) (a_t_sheets : Nat) (a_t_shelves : Nat) (a_t_thing : Nat) (a_t_shares : Nat) (a_t_ahead : Nat) (a_t_book_village : Nat) (a_t_book_mark : Nat) (a_t_book_held : Nat) (sz : Nat) (s_t_isKept : Int32) (s_t_z : Int32) (s_t_keptZ : Int32) (s_t_book_heldCount : Int32) (s_t_book_villages : Int32) (v_t_book_village : (Nat → Int32)) (v_t_book_held : (Nat → Int32)) (v_t_ahead : (Nat → Int32)) (v_t_book_mark : (Nat → Int32)) (i1 : Int32) (i2 : Int32) (r : Int32) (o_v_t_ahead : (Nat → Int32)) (hF : f_X6_on i1 i2 s_t_book_heldCount s_t_book_villages v_t_book_village v_t_book_held v_t_ahead v_t_book_mark = some (r, o_v_t_ahead)) : xMi l yX6_on (.code yX6_on cX6_on 3 (some .int) :: xU) rmX6_on (xK D cI cB cJ) D sz [.ref a_t, .int i1, .int i2] [(a_t, .inr (6, [.ref a_t_book, .ref a_t_kept, .ref a_t_told, .ref a_t_tape, .ref a_t_rows, .ref a_t_sheets, .ref a_t_shelves, .ref a_t_thing, .ref a_t_shares, .ref a_t_ahead, .int s_t_isKept, .int s_t_z, .int s_t_keptZ])), (a_t_book, .inr (0, [.ref a_t_book_village, .ref a_t_book_mark, .ref a_t_book_held, .int s_t_book_heldCount, .int s_t_book_villages])), (a_t_book_village, .inl (cI, 24, .inl v_t_book_village)), (a_t_book_held, .inl (cI, 6, .inl v_t_book_held)), (a_t_ahead, .inl (cI, 100, .inl v_t_ahead)), (a_t_book_mark, .inl (cI, 24, .inl v_t_book_mark))] [(a_t, .inr (6, [.ref a_t_book, .ref a_t_kept, .ref a_t_told, .ref a_t_tape, .ref a_t_rows, .ref a_t_sheets, .ref a_t_shelves, .ref a_t_thing, .ref a_t_shares, .ref a_t_ahead, .int s_t_isKept, .int s_t_z, .int s_t_keptZ])), (a_t_book, .inr (0, [.ref a_t_book_village, .ref a_t_book_mark, .ref a_t_book_held, .int s_t_book_heldCount, .int s_t_book_villages])), (a_t_book_village, .inl (cI, 24, .inl v_t_book_village)), (a_t_book_held, .inl (cI, 6, .inl v_t_book_held)), (a_t_ahead, .inl (cI, 100, .inl o_v_t_ahead)), (a_t_book_mark, .inl (cI, 24, .inl v_t_book_mark))] r := by
  refine xMi.mk (own := "FairNext") (by decide +kernel) rfl (Nat.le_of_ble_eq_true rfl) ?_
  intro p e s m args below meth c A Q ls H hfix hK hP hD hA hS hl hEnd
  obtain ⟨hx, hb, hml, hown, hts⟩ := id hfix
  have hl : lv_has ls 3 [(0, .ref a_t), (1, .int i1), (2, .int i2)] := hl
  rw [f_X6_on] at hF
  refine lv_aload_n hx hb dX6_on_0 rfl (lv_at hl 0 rfl) ?_
  refine xget (ci := 6) (C := RX6) (T := TX6) (N := 13) hfix xiX6 hK.1 hP 0 rfl rfl 0 (by decide) rfl xw_161 rfl dX6_on_1 ?_
  refine lv_iload_n hx hb dX6_on_4 rfl (lv_at hl 1 rfl) ?_
  refine xrz0 (xrunV (As := [.int i1]) (rest := []) (c_X0_holds l D cI cB cJ a_t_book a_t_book_village a_t_book_mark a_t_book_held _ s_t_book_heldCount s_t_book_villages i1 (f_X0_holds i1 s_t_book_heldCount) rfl) hfix xw_377 yv_X0_holds ⟨rfl, rfl⟩ ⟨(Nat.le_of_ble_eq_true rfl), (Nat.le_of_ble_eq_true rfl)⟩ xKk_K (fun U hU hW => xK.warm hW hK) hK.1 hP hD [1] rfl rfl 1 0 rfl rfl rfl rfl hl.1 rfl (Nat.le_of_ble_eq_true rfl) dX6_on_5 ⟨Nat.zero_le _, Nat.zero_le _⟩) hP hD hS hA [1] rfl rfl (fun H locs hP hD hS hz_1 => ?_)
  refine lv_if_eq (tgt := 27) hx hb dX6_on_8 (by decide) (fun c_2 => ?_) (fun c_2 => ?_)
  · replace hF := if_t c_2 hF
    refine lv_iconst (v := (-1 : Int32)) hx hb dX6_on_27 (by decide) ?_
    obtain ⟨rfl, rfl⟩ := pj2 hF
    exact hEnd _ _ _ _ _ dX6_on_28 hP hS rfl
  · replace hF := if_f c_2 hF
    refine lv_iload_n hx hb dX6_on_11 rfl (lv_at hl 2 rfl) ?_
    refine lv_aload_n hx hb dX6_on_12 rfl (lv_at hl 0 rfl) ?_
    refine xget (ci := 6) (C := RX6) (T := TX6) (N := 13) hfix xiX6 hK.1 hP 0 rfl rfl 0 (by decide) rfl xw_161 rfl dX6_on_13 ?_
    obtain ⟨r_3, hq_4, hF⟩ := bd1_e hF
    refine xri0 (xrunV (As := []) (rest := [.int i2]) (c_X0_last l D cI cB cJ a_t_book a_t_book_village a_t_book_mark a_t_book_held _ s_t_book_heldCount s_t_book_villages v_t_book_village r_3 hq_4) hfix xw_462 yv_X0_last ⟨rfl, rfl⟩ ⟨(Nat.le_of_ble_eq_true rfl), (Nat.le_of_ble_eq_true rfl)⟩ xKk_K (fun U hU hW => xK.warm hW hK) hK.1 hP hD [1, 2] rfl rfl 1 0 rfl rfl rfl rfl hl.1 rfl (Nat.le_of_ble_eq_true rfl) dX6_on_16 ⟨Nat.zero_le _, Nat.zero_le _⟩) hP hD hS hA [1, 2] rfl rfl (fun H locs hP hD hS => ?_)
    refine lv_bipush (v := (99 : Int32)) hx hb dX6_on_19 (by decide) ?_
    refine xrz0 (xrunS (As := [.int i2, .int r_3, .int (99 : Int32)]) (rest := []) (c_X6_outside l D cI cB cJ _ i2 r_3 (99 : Int32) (f_X6_outside i2 r_3 (99 : Int32)) rfl) hfix xw_205 ys_X6_outside ⟨rfl, rfl⟩ ⟨(Nat.le_of_ble_eq_true rfl), (Nat.le_of_ble_eq_true rfl)⟩ xKk_K (fun U hU hW => xK.warm hW hK) hP hD [] rfl rfl rfl hl.1 rfl (Nat.le_of_ble_eq_true rfl) dX6_on_21 ⟨Nat.zero_le _, Nat.zero_le _⟩) hP hD hS hA [] rfl rfl (fun H locs hP hD hS hz_5 => ?_)
    refine lv_if_eq (tgt := 29) hx hb dX6_on_24 (by decide) (fun c_6 => ?_) (fun c_6 => ?_)
    · replace hF := if_t c_6 hF
      refine lv_aload_n hx hb dX6_on_29 rfl (lv_at hl 0 rfl) ?_
      refine lv_aload_n hx hb dX6_on_30 rfl (lv_at hl 0 rfl) ?_
      refine xget (ci := 6) (C := RX6) (T := TX6) (N := 13) hfix xiX6 hK.1 hP 0 rfl rfl 0 (by decide) rfl xw_161 rfl dX6_on_31 ?_
      refine xget (ci := 0) (C := RX0) (T := TX0) (N := 5) hfix xiX0 hK.1 hP 1 rfl rfl 2 (by decide) rfl xw_40 rfl dX6_on_34 ?_
      refine lv_iload_n hx hb dX6_on_37 rfl (lv_at hl 1 rfl) ?_
      obtain ⟨c_7, hF⟩ := gd_e hF
      refine va_iald hx hb hK.1 hP 3 0 rfl rfl c_7 dX6_on_38 ?_
      obtain ⟨o_8, hq_9, hF⟩ := bd1_e hF
      refine xrv (xrunV (As := [.int (v_t_book_held i1.toNatClampNeg)]) (rest := []) (c_X6_goOn l D cI cB cJ a_t a_t_book a_t_kept a_t_told a_t_tape a_t_rows a_t_sheets a_t_shelves a_t_thing a_t_shares a_t_ahead a_t_book_village a_t_book_mark a_t_book_held _ s_t_isKept s_t_z s_t_keptZ s_t_book_heldCount s_t_book_villages v_t_book_village v_t_ahead v_t_book_mark (v_t_book_held i1.toNatClampNeg) o_8 hq_9) hfix xw_466 yv_X6_goOn ⟨rfl, rfl⟩ ⟨(Nat.le_of_ble_eq_true rfl), (Nat.le_of_ble_eq_true rfl)⟩ xKk_K (fun U hU hW => xK.warm hW hK) hK.1 hP hD [0, 1, 2, 4, 5] rfl rfl 0 6 rfl rfl rfl rfl hl.1 rfl (Nat.le_of_ble_eq_true rfl) dX6_on_39 ⟨Nat.zero_le _, Nat.zero_le _⟩) hP hD hS hA [0, 1, 2, 4, 5] rfl rfl rfl (wn := [(a_t, .inr (6, [.ref a_t_book, .ref a_t_kept, .ref a_t_told, .ref a_t_tape, .ref a_t_rows, .ref a_t_sheets, .ref a_t_shelves, .ref a_t_thing, .ref a_t_shares, .ref a_t_ahead, .int s_t_isKept, .int s_t_z, .int s_t_keptZ])), (a_t_book, .inr (0, [.ref a_t_book_village, .ref a_t_book_mark, .ref a_t_book_held, .int s_t_book_heldCount, .int s_t_book_villages])), (a_t_book_village, .inl (cI, 24, .inl v_t_book_village)), (a_t_book_held, .inl (cI, 6, .inl v_t_book_held)), (a_t_ahead, .inl (cI, 100, .inl o_8)), (a_t_book_mark, .inl (cI, 24, .inl v_t_book_mark))]) rfl (fun H locs hP hD hS => ?_)
      refine lv_aload_n hx hb dX6_on_42 rfl (lv_at hl 0 rfl) ?_
      refine xget (ci := 6) (C := RX6) (T := TX6) (N := 13) hfix xiX6 hK.1 hP 0 rfl rfl 9 (by decide) rfl xw_170 rfl dX6_on_43 ?_
      refine lv_iload_n hx hb dX6_on_46 rfl (lv_at hl 2 rfl) ?_
      obtain ⟨c_10, hF⟩ := gd_e hF
      refine va_iald hx hb hK.1 hP 4 0 rfl rfl c_10 dX6_on_47 ?_
      obtain ⟨rfl, rfl⟩ := pj2 hF
      exact hEnd _ _ _ _ _ dX6_on_48 hP hS rfl
    · replace hF := if_f c_6 hF
      refine lv_iconst (v := (-1 : Int32)) hx hb dX6_on_27 (by decide) ?_
      obtain ⟨rfl, rfl⟩ := pj2 hF
      exact hEnd _ _ _ _ _ dX6_on_28 hP hS rfl
def f_X6_here_L59 (o_8 : (Nat → Int32)) (i2 : Int32) : Nat → Int32 → Option ((Unit) ⊕ (Int32 × (Nat → Int32)))
  | 0, _ => none
  | n + 1, x4_12 => (if (100 : Int32) ≤ x4_12 then some (.inl ()) else gd x4_12 100 ((if (o_8 x4_12.toNatClampNeg) = i2 then some (.inr (x4_12, o_8)) else f_X6_here_L59 o_8 i2 n (x4_12 + (1 : Int32)))))
def f_X6_here (i1 : Int32) (i2 : Int32) (i3 : Int32) (s_t_book_heldCount : Int32) (s_t_book_villages : Int32) (v_t_book_held : (Nat → Int32)) (v_t_book_village : (Nat → Int32)) (v_t_ahead : (Nat → Int32)) (v_t_book_mark : (Nat → Int32)) : Option (Int32 × (Nat → Int32)) := (if (f_X0_holds i1 s_t_book_heldCount) = (0 : Int32) then some (((-1 : Int32), v_t_ahead)) else (if (f_X6_outside i2 (0 : Int32) (9 : Int32)) = (0 : Int32) then (if (f_X6_outside i3 (0 : Int32) (99 : Int32)) = (0 : Int32) then gd i1 6 (bd1 (f_X6_goOn (v_t_book_held i1.toNatClampNeg) s_t_book_villages v_t_book_village v_t_ahead v_t_book_mark) (fun (o_8 : (Nat → Int32)) => bd1 (f_X0_last v_t_book_village) (fun (r_10 : Int32) => bs0 (f_X6_here_L59 o_8 i2 1000 (if i3 < r_10 then r_10 else i3)) (some (((-3 : Int32), o_8))) (fun q => some (q))))) else some (((-1 : Int32), v_t_ahead))) else some (((-1 : Int32), v_t_ahead))))
abbrev rmX6_here : Room := { frames := 4, cells := 0, slots := 0, locals := 93 }
set_option maxHeartbeats 400000 in
set_option maxRecDepth 100000 in
theorem c_X6_here (l : Launch) (D : va_G) (cI cB cJ : ClassId) (a_t : Nat) (a_t_book : Nat) (a_t_kept : Nat) (a_t_told : Nat) (a_t_tape : Nat) (a_t_rows : Nat) (a_t_sheets : Nat) (a_t_shelves : Nat) (a_t_thing : Nat) (a_t_shares : Nat) (a_t_ahead : Nat) (a_t_book_village : Nat) (a_t_book_mark : Nat) (a_t_book_held : Nat) (sz : Nat) (s_t_isKept : Int32) (s_t_z : Int32) (s_t_keptZ : Int32) (s_t_book_heldCount : Int32) (s_t_book_villages : Int32) (v_t_book_held : (Nat → Int32)) (v_t_book_village : (Nat → Int32)) (v_t_ahead : (Nat → Int32)) (v_t_book_mark : (Nat → Int32)) (i1 : Int32) (i2 : Int32) (i3 : Int32) (r : Int32) (o_v_t_ahead : (Nat → Int32)) (hF : f_X6_here i1 i2 i3 s_t_book_heldCount s_t_book_villages v_t_book_held v_t_book_village v_t_ahead v_t_book_mark = some (r, o_v_t_ahead)) : xMi l yX6_here (.code yX6_here cX6_here 5 (some .int) :: xU) rmX6_here (xK D cI cB cJ) D sz [.ref a_t, .int i1, .int i2, .int i3] [(a_t, .inr (6, [.ref a_t_book, .ref a_t_kept, .ref a_t_told, .ref a_t_tape, .ref a_t_rows, .ref a_t_sheets, .ref a_t_shelves, .ref a_t_thing, .ref a_t_shares, .ref a_t_ahead, .int s_t_isKept, .int s_t_z, .int s_t_keptZ])), (a_t_book, .inr (0, [.ref a_t_book_village, .ref a_t_book_mark, .ref a_t_book_held, .int s_t_book_heldCount, .int s_t_book_villages])), (a_t_book_held, .inl (cI, 6, .inl v_t_book_held)), (a_t_book_village, .inl (cI, 24, .inl v_t_book_village)), (a_t_ahead, .inl (cI, 100, .inl v_t_ahead)), (a_t_book_mark, .inl (cI, 24, .inl v_t_book_mark))] [(a_t, .inr (6, [.ref a_t_book, .ref a_t_kept, .ref a_t_told, .ref a_t_tape, .ref a_t_rows, .ref a_t_sheets, .ref a_t_shelves, .ref a_t_thing, .ref a_t_shares, .ref a_t_ahead, .int s_t_isKept, .int s_t_z, .int s_t_keptZ])), (a_t_book, .inr (0, [.ref a_t_book_village, .ref a_t_book_mark, .ref a_t_book_held, .int s_t_book_heldCount, .int s_t_book_villages])), (a_t_book_held, .inl (cI, 6, .inl v_t_book_held)), (a_t_book_village, .inl (cI, 24, .inl v_t_book_village)), (a_t_ahead, .inl (cI, 100, .inl o_v_t_ahead)), (a_t_book_mark, .inl (cI, 24, .inl v_t_book_mark))] r := by
  refine xMi.mk (own := "FairNext") (by decide +kernel) rfl (Nat.le_of_ble_eq_true rfl) ?_
  intro p e s m args below meth c A Q ls H hfix hK hP hD hA hS hl hEnd
  obtain ⟨hx, hb, hml, hown, hts⟩ := id hfix
  have hl : lv_has ls 5 [(0, .ref a_t), (1, .int i1), (2, .int i2), (3, .int i3)] := hl
  rw [f_X6_here] at hF
  refine lv_aload_n hx hb dX6_here_0 rfl (lv_at hl 0 rfl) ?_
  refine xget (ci := 6) (C := RX6) (T := TX6) (N := 13) hfix xiX6 hK.1 hP 0 rfl rfl 0 (by decide) rfl xw_161 rfl dX6_here_1 ?_
  refine lv_iload_n hx hb dX6_here_4 rfl (lv_at hl 1 rfl) ?_
  refine xrz0 (xrunV (As := [.int i1]) (rest := []) (c_X0_holds l D cI cB cJ a_t_book a_t_book_village a_t_book_mark a_t_book_held _ s_t_book_heldCount s_t_book_villages i1 (f_X0_holds i1 s_t_book_heldCount) rfl) hfix xw_377 yv_X0_holds ⟨rfl, rfl⟩ ⟨(Nat.le_of_ble_eq_true rfl), (Nat.le_of_ble_eq_true rfl)⟩ xKk_K (fun U hU hW => xK.warm hW hK) hK.1 hP hD [1] rfl rfl 1 0 rfl rfl rfl rfl hl.1 rfl (Nat.le_of_ble_eq_true rfl) dX6_here_5 ⟨Nat.zero_le _, Nat.zero_le _⟩) hP hD hS hA [1] rfl rfl (fun H locs hP hD hS hz_1 => ?_)
  refine lv_if_eq (tgt := 31) hx hb dX6_here_8 (by decide) (fun c_2 => ?_) (fun c_2 => ?_)
  · replace hF := if_t c_2 hF
    refine lv_iconst (v := (-1 : Int32)) hx hb dX6_here_31 (by decide) ?_
    obtain ⟨rfl, rfl⟩ := pj2 hF
    exact hEnd _ _ _ _ _ dX6_here_32 hP hS rfl
  · replace hF := if_f c_2 hF
    refine lv_iload_n hx hb dX6_here_11 rfl (lv_at hl 2 rfl) ?_
    refine lv_iconst (v := (0 : Int32)) hx hb dX6_here_12 (by decide) ?_
    refine lv_bipush (v := (9 : Int32)) hx hb dX6_here_13 (by decide) ?_
    refine xrz0 (xrunS (As := [.int i2, .int (0 : Int32), .int (9 : Int32)]) (rest := []) (c_X6_outside l D cI cB cJ _ i2 (0 : Int32) (9 : Int32) (f_X6_outside i2 (0 : Int32) (9 : Int32)) rfl) hfix xw_205 ys_X6_outside ⟨rfl, rfl⟩ ⟨(Nat.le_of_ble_eq_true rfl), (Nat.le_of_ble_eq_true rfl)⟩ xKk_K (fun U hU hW => xK.warm hW hK) hP hD [] rfl rfl rfl hl.1 rfl (Nat.le_of_ble_eq_true rfl) dX6_here_15 ⟨Nat.zero_le _, Nat.zero_le _⟩) hP hD hS hA [] rfl rfl (fun H locs hP hD hS hz_3 => ?_)
    refine lv_if_ne (tgt := 31) hx hb dX6_here_18 (by decide) (fun c_4 => ?_) (fun c_4 => ?_)
    · replace hF := if_f c_4 hF
      refine lv_iconst (v := (-1 : Int32)) hx hb dX6_here_31 (by decide) ?_
      obtain ⟨rfl, rfl⟩ := pj2 hF
      exact hEnd _ _ _ _ _ dX6_here_32 hP hS rfl
    · replace hF := if_t c_4 hF
      refine lv_iload_n hx hb dX6_here_21 rfl (lv_at hl 3 rfl) ?_
      refine lv_iconst (v := (0 : Int32)) hx hb dX6_here_22 (by decide) ?_
      refine lv_bipush (v := (99 : Int32)) hx hb dX6_here_23 (by decide) ?_
      refine xrz0 (xrunS (As := [.int i3, .int (0 : Int32), .int (99 : Int32)]) (rest := []) (c_X6_outside l D cI cB cJ _ i3 (0 : Int32) (99 : Int32) (f_X6_outside i3 (0 : Int32) (99 : Int32)) rfl) hfix xw_205 ys_X6_outside ⟨rfl, rfl⟩ ⟨(Nat.le_of_ble_eq_true rfl), (Nat.le_of_ble_eq_true rfl)⟩ xKk_K (fun U hU hW => xK.warm hW hK) hP hD [] rfl rfl rfl hl.1 rfl (Nat.le_of_ble_eq_true rfl) dX6_here_25 ⟨Nat.zero_le _, Nat.zero_le _⟩) hP hD hS hA [] rfl rfl (fun H locs hP hD hS hz_5 => ?_)
      refine lv_if_eq (tgt := 33) hx hb dX6_here_28 (by decide) (fun c_6 => ?_) (fun c_6 => ?_)
      · replace hF := if_t c_6 hF
        refine lv_aload_n hx hb dX6_here_33 rfl (lv_at hl 0 rfl) ?_
        refine lv_aload_n hx hb dX6_here_34 rfl (lv_at hl 0 rfl) ?_
        refine xget (ci := 6) (C := RX6) (T := TX6) (N := 13) hfix xiX6 hK.1 hP 0 rfl rfl 0 (by decide) rfl xw_161 rfl dX6_here_35 ?_
        refine xget (ci := 0) (C := RX0) (T := TX0) (N := 5) hfix xiX0 hK.1 hP 1 rfl rfl 2 (by decide) rfl xw_40 rfl dX6_here_38 ?_
        refine lv_iload_n hx hb dX6_here_41 rfl (lv_at hl 1 rfl) ?_
        obtain ⟨c_7, hF⟩ := gd_e hF
        refine va_iald hx hb hK.1 hP 2 0 rfl rfl c_7 dX6_here_42 ?_
        obtain ⟨o_8, hq_9, hF⟩ := bd1_e hF
        refine xrv (xrunV (As := [.int (v_t_book_held i1.toNatClampNeg)]) (rest := []) (c_X6_goOn l D cI cB cJ a_t a_t_book a_t_kept a_t_told a_t_tape a_t_rows a_t_sheets a_t_shelves a_t_thing a_t_shares a_t_ahead a_t_book_village a_t_book_mark a_t_book_held _ s_t_isKept s_t_z s_t_keptZ s_t_book_heldCount s_t_book_villages v_t_book_village v_t_ahead v_t_book_mark (v_t_book_held i1.toNatClampNeg) o_8 hq_9) hfix xw_466 yv_X6_goOn ⟨rfl, rfl⟩ ⟨(Nat.le_of_ble_eq_true rfl), (Nat.le_of_ble_eq_true rfl)⟩ xKk_K (fun U hU hW => xK.warm hW hK) hK.1 hP hD [0, 1, 3, 4, 5] rfl rfl 0 6 rfl rfl rfl rfl hl.1 rfl (Nat.le_of_ble_eq_true rfl) dX6_here_43 ⟨Nat.zero_le _, Nat.zero_le _⟩) hP hD hS hA [0, 1, 3, 4, 5] rfl rfl rfl (wn := [(a_t, .inr (6, [.ref a_t_book, .ref a_t_kept, .ref a_t_told, .ref a_t_tape, .ref a_t_rows, .ref a_t_sheets, .ref a_t_shelves, .ref a_t_thing, .ref a_t_shares, .ref a_t_ahead, .int s_t_isKept, .int s_t_z, .int s_t_keptZ])), (a_t_book, .inr (0, [.ref a_t_book_village, .ref a_t_book_mark, .ref a_t_book_held, .int s_t_book_heldCount, .int s_t_book_villages])), (a_t_book_held, .inl (cI, 6, .inl v_t_book_held)), (a_t_book_village, .inl (cI, 24, .inl v_t_book_village)), (a_t_ahead, .inl (cI, 100, .inl o_8)), (a_t_book_mark, .inl (cI, 24, .inl v_t_book_mark))]) rfl (fun H locs hP hD hS => ?_)
        refine lv_iload_n hx hb dX6_here_46 rfl (lv_at hl 3 rfl) ?_
        refine lv_aload_n hx hb dX6_here_47 rfl (lv_at hl 0 rfl) ?_
        refine xget (ci := 6) (C := RX6) (T := TX6) (N := 13) hfix xiX6 hK.1 hP 0 rfl rfl 0 (by decide) rfl xw_161 rfl dX6_here_48 ?_
        obtain ⟨r_10, hq_11, hF⟩ := bd1_e hF
        refine xri0 (xrunV (As := []) (rest := [.int i3]) (c_X0_last l D cI cB cJ a_t_book a_t_book_village a_t_book_mark a_t_book_held _ s_t_book_heldCount s_t_book_villages v_t_book_village r_10 hq_11) hfix xw_462 yv_X0_last ⟨rfl, rfl⟩ ⟨(Nat.le_of_ble_eq_true rfl), (Nat.le_of_ble_eq_true rfl)⟩ xKk_K (fun U hU hW => xK.warm hW hK) hK.1 hP hD [1, 3] rfl rfl 1 0 rfl rfl rfl rfl hl.1 rfl (Nat.le_of_ble_eq_true rfl) dX6_here_51 ⟨Nat.zero_le _, Nat.zero_le _⟩) hP hD hS hA [1, 3] rfl rfl (fun H locs hP hD hS => ?_)
        refine va_mmax hx hb (hml.trans hl.1.symm) hown (hts _ (List.mem_cons_of_mem _ xw_474)) (hts _ (List.mem_cons_of_mem _ xw_448)) (hts _ (List.mem_cons_of_mem _ xw_14)) (hts _ (List.mem_cons_of_mem _ xw_449)) (Nat.le_of_ble_eq_true rfl) (Nat.le_of_ble_eq_true rfl) (Nat.zero_le _) (Nat.zero_le _) dX6_here_54 ?_
        refine lv_istore (lv' := [(4, .int (if i3 < r_10 then r_10 else i3)), (0, .ref a_t), (1, .int i1), (2, .int i2), (3, .int i3)]) hx hb dX6_here_57 hl (by decide) rfl (fun ls hl => ?_)
        have hL_59 : ∀ (n : Nat) (x4_12 : Int32) (_res : (Unit) ⊕ (Int32 × (Nat → Int32))), f_X6_here_L59 o_8 i2 n x4_12 = some _res → ∀ (H : Heap) (locs : List Loc) (ls : Array Slot), va_P D vwCl [(a_t, .inr (6, [.ref a_t_book, .ref a_t_kept, .ref a_t_told, .ref a_t_tape, .ref a_t_rows, .ref a_t_sheets, .ref a_t_shelves, .ref a_t_thing, .ref a_t_shares, .ref a_t_ahead, .int s_t_isKept, .int s_t_z, .int s_t_keptZ])), (a_t_book, .inr (0, [.ref a_t_book_village, .ref a_t_book_mark, .ref a_t_book_held, .int s_t_book_heldCount, .int s_t_book_villages])), (a_t_book_held, .inl (cI, 6, .inl v_t_book_held)), (a_t_book_village, .inl (cI, 24, .inl v_t_book_village)), (a_t_ahead, .inl (cI, 100, .inl o_8)), (a_t_book_mark, .inl (cI, 24, .inl v_t_book_mark))] H → va_D A [(a_t, .inr (6, [.ref a_t_book, .ref a_t_kept, .ref a_t_told, .ref a_t_tape, .ref a_t_rows, .ref a_t_sheets, .ref a_t_shelves, .ref a_t_thing, .ref a_t_shares, .ref a_t_ahead, .int s_t_isKept, .int s_t_z, .int s_t_keptZ])), (a_t_book, .inr (0, [.ref a_t_book_village, .ref a_t_book_mark, .ref a_t_book_held, .int s_t_book_heldCount, .int s_t_book_villages])), (a_t_book_held, .inl (cI, 6, .inl v_t_book_held)), (a_t_book_village, .inl (cI, 24, .inl v_t_book_village)), (a_t_ahead, .inl (cI, 100, .inl o_8)), (a_t_book_mark, .inl (cI, 24, .inl v_t_book_mark))] → va_S A s.heap H locs → lv_has ls 5 [(0, .ref a_t), (2, .int i2), (4, .int x4_12)] → (_res = .inl () → ∀ (H : Heap) (locs : List Loc) (ls : Array Slot), va_P D vwCl [(a_t, .inr (6, [.ref a_t_book, .ref a_t_kept, .ref a_t_told, .ref a_t_tape, .ref a_t_rows, .ref a_t_sheets, .ref a_t_shelves, .ref a_t_thing, .ref a_t_shares, .ref a_t_ahead, .int s_t_isKept, .int s_t_z, .int s_t_keptZ])), (a_t_book, .inr (0, [.ref a_t_book_village, .ref a_t_book_mark, .ref a_t_book_held, .int s_t_book_heldCount, .int s_t_book_villages])), (a_t_book_held, .inl (cI, 6, .inl v_t_book_held)), (a_t_book_village, .inl (cI, 24, .inl v_t_book_village)), (a_t_ahead, .inl (cI, 100, .inl o_8)), (a_t_book_mark, .inl (cI, 24, .inl v_t_book_mark))] H → va_D A [(a_t, .inr (6, [.ref a_t_book, .ref a_t_kept, .ref a_t_told, .ref a_t_tape, .ref a_t_rows, .ref a_t_sheets, .ref a_t_shelves, .ref a_t_thing, .ref a_t_shares, .ref a_t_ahead, .int s_t_isKept, .int s_t_z, .int s_t_keptZ])), (a_t_book, .inr (0, [.ref a_t_book_village, .ref a_t_book_mark, .ref a_t_book_held, .int s_t_book_heldCount, .int s_t_book_villages])), (a_t_book_held, .inl (cI, 6, .inl v_t_book_held)), (a_t_book_village, .inl (cI, 24, .inl v_t_book_village)), (a_t_ahead, .inl (cI, 100, .inl o_8)), (a_t_book_mark, .inl (cI, 24, .inl v_t_book_mark))] → va_S A s.heap H locs → lv_has ls 5 [] → W p l e rmX6_here s m args below meth c H locs 0 0 Q (F0 m 86 ls [])) → (∀ q : Int32 × (Nat → Int32), _res = .inr q → q = (r, o_v_t_ahead)) → W p l e rmX6_here s m args below meth c H locs 0 0 Q (F0 m 59 ls []) := by
          intro n
          induction n with
          | zero => intro x4_12 _res hF; exact (no_some hF).elim
          | succ n ih =>
            intro x4_12 _res hF H locs ls hP hD hS hl kexit hret
            rw [f_X6_here_L59] at hF
            refine lv_iload hx hb dX6_here_59 (lv_at hl 2 rfl) ?_
            refine lv_bipush (v := (100 : Int32)) hx hb dX6_here_61 (by decide) ?_
            refine lv_icmp_ge (tgt := 86) hx hb dX6_here_63 (by decide) (fun c_13 => ?_) (fun c_13 => ?_)
            · replace hF := if_t c_13 hF
              obtain rfl := Option.some.inj hF
              exact kexit rfl _ _ _ hP hD hS (lv_sub hl [] rfl)
            · replace hF := if_f c_13 hF
              refine lv_aload_n hx hb dX6_here_66 rfl (lv_at hl 0 rfl) ?_
              refine xget (ci := 6) (C := RX6) (T := TX6) (N := 13) hfix xiX6 hK.1 hP 0 rfl rfl 9 (by decide) rfl xw_170 rfl dX6_here_67 ?_
              refine lv_iload hx hb dX6_here_70 (lv_at hl 2 rfl) ?_
              obtain ⟨c_14, hF⟩ := gd_e hF
              refine va_iald hx hb hK.1 hP 4 0 rfl rfl c_14 dX6_here_72 ?_
              refine lv_iload_n hx hb dX6_here_73 rfl (lv_at hl 1 rfl) ?_
              refine lv_icmp_ne (tgt := 80) hx hb dX6_here_74 (by decide) (fun c_15 => ?_) (fun c_15 => ?_)
              · replace hF := if_f c_15 hF
                refine lv_iinc (v := (x4_12 + (1 : Int32))) (lv' := [(4, .int (x4_12 + (1 : Int32))), (0, .ref a_t), (2, .int i2)]) hx hb dX6_here_80 hl (k := 2) rfl rfl (by decide) rfl (fun ls hl => ?_)
                refine lv_goto (tgt := 59) hx hb dX6_here_83 (by decide) ?_
                exact ih _ _ hF _ _ _ hP hD hS (lv_sub hl [1, 2, 0] rfl) kexit hret
              · replace hF := if_t c_15 hF
                refine lv_iload hx hb dX6_here_77 (lv_at hl 2 rfl) ?_
                obtain rfl := Option.some.inj hF
                have hF := hret _ rfl
                obtain ⟨rfl, rfl⟩ := tj2 hF
                exact hEnd _ _ _ _ _ dX6_here_79 hP hS rfl
        rcases bs0_e hF with ⟨hq, hF⟩ | ⟨q, hq, hF⟩
        · refine hL_59 _ _ _ hq _ _ _ hP hD hS (lv_sub hl [1, 3, 0] rfl) (fun e H locs ls hP hD hS hl => ?_) (fun q e => nomatch e)
          cases e
          refine lv_bipush (v := (-3 : Int32)) hx hb dX6_here_86 (by decide) ?_
          obtain ⟨rfl, rfl⟩ := pj2 hF
          exact hEnd _ _ _ _ _ dX6_here_88 hP hS rfl
        · exact hL_59 _ _ _ hq _ _ _ hP hD hS (lv_sub hl [1, 3, 0] rfl) (fun e => nomatch e) (fun q e => by cases e; cases hF; rfl)
      · replace hF := if_f c_6 hF
        refine lv_iconst (v := (-1 : Int32)) hx hb dX6_here_31 (by decide) ?_
        obtain ⟨rfl, rfl⟩ := pj2 hF
        exact hEnd _ _ _ _ _ dX6_here_32 hP hS rfl
def f_X6_never_L46 (o_4 : (Nat → Int32)) : Nat → Int32 → Int32 → Option (Int32)
  | 0, _, _ => none
  | n + 1, x2_8, x3_9 => (if (100 : Int32) ≤ x3_9 then some (x2_8) else gd x3_9 100 ((if (o_4 x3_9.toNatClampNeg) < (0 : Int32) then f_X6_never_L46 o_4 n x2_8 (x3_9 + (1 : Int32)) else gd x3_9 100 (f_X6_never_L46 o_4 n (x2_8 &&& (((1 : Int32) <<< ((o_4 x3_9.toNatClampNeg) &&& 31)) ^^^ (-1 : Int32))) (x3_9 + (1 : Int32))))))
def f_X6_never (i1 : Int32) (s_t_book_heldCount : Int32) (s_t_book_villages : Int32) (v_t_book_held : (Nat → Int32)) (v_t_book_village : (Nat → Int32)) (v_t_ahead : (Nat → Int32)) (v_t_book_mark : (Nat → Int32)) : Option (Int32 × (Nat → Int32)) := (if (f_X0_holds i1 s_t_book_heldCount) = (0 : Int32) then some (((-1 : Int32), v_t_ahead)) else gd i1 6 (bd1 (f_X6_goOn (v_t_book_held i1.toNatClampNeg) s_t_book_villages v_t_book_village v_t_ahead v_t_book_mark) (fun (o_4 : (Nat → Int32)) => bd1 (f_X0_last v_t_book_village) (fun (r_6 : Int32) => bd1 (f_X6_never_L46 o_4 1000 (((1 : Int32) <<< (s_t_book_villages &&& 31)) - (1 : Int32)) r_6) (fun (y2_10 : Int32) => some ((y2_10, o_4)))))))
abbrev rmX6_never : Room := { frames := 4, cells := 0, slots := 0, locals := 93 }
set_option maxHeartbeats 400000 in
set_option maxRecDepth 100000 in
theorem c_X6_never (l : Launch) (D : va_G) (cI cB cJ : ClassId) (a_t : Nat) (a_t_book : Nat) (a_t_kept : Nat) (a_t_told : Nat) (a_t_tape : Nat) (a_t_rows : Nat) (a_t_sheets : Nat) (a_t_shelves : Nat) (a_t_thing : Nat) (a_t_shares : Nat) (a_t_ahead : Nat) (a_t_book_village : Nat) (a_t_book_mark : Nat) (a_t_book_held : Nat) (sz : Nat) (s_t_isKept : Int32) (s_t_z : Int32) (s_t_keptZ : Int32) (s_t_book_heldCount : Int32) (s_t_book_villages : Int32) (v_t_book_held : (Nat → Int32)) (v_t_book_village : (Nat → Int32)) (v_t_ahead : (Nat → Int32)) (v_t_book_mark : (Nat → Int32)) (i1 : Int32) (r : Int32) (o_v_t_ahead : (Nat → Int32)) (hF : f_X6_never i1 s_t_book_heldCount s_t_book_villages v_t_book_held v_t_book_village v_t_ahead v_t_book_mark = some (r, o_v_t_ahead)) : xMi l yX6_never (.code yX6_never cX6_never 4 (some .int) :: xU) rmX6_never (xK D cI cB cJ) D sz [.ref a_t, .int i1] [(a_t, .inr (6, [.ref a_t_book, .ref a_t_kept, .ref a_t_told, .ref a_t_tape, .ref a_t_rows, .ref a_t_sheets, .ref a_t_shelves, .ref a_t_thing, .ref a_t_shares, .ref a_t_ahead, .int s_t_isKept, .int s_t_z, .int s_t_keptZ])), (a_t_book, .inr (0, [.ref a_t_book_village, .ref a_t_book_mark, .ref a_t_book_held, .int s_t_book_heldCount, .int s_t_book_villages])), (a_t_book_held, .inl (cI, 6, .inl v_t_book_held)), (a_t_book_village, .inl (cI, 24, .inl v_t_book_village)), (a_t_ahead, .inl (cI, 100, .inl v_t_ahead)), (a_t_book_mark, .inl (cI, 24, .inl v_t_book_mark))] [(a_t, .inr (6, [.ref a_t_book, .ref a_t_kept, .ref a_t_told, .ref a_t_tape, .ref a_t_rows, .ref a_t_sheets, .ref a_t_shelves, .ref a_t_thing, .ref a_t_shares, .ref a_t_ahead, .int s_t_isKept, .int s_t_z, .int s_t_keptZ])), (a_t_book, .inr (0, [.ref a_t_book_village, .ref a_t_book_mark, .ref a_t_book_held, .int s_t_book_heldCount, .int s_t_book_villages])), (a_t_book_held, .inl (cI, 6, .inl v_t_book_held)), (a_t_book_village, .inl (cI, 24, .inl v_t_book_village)), (a_t_ahead, .inl (cI, 100, .inl o_v_t_ahead)), (a_t_book_mark, .inl (cI, 24, .inl v_t_book_mark))] r := by
  refine xMi.mk (own := "FairNext") (by decide +kernel) rfl (Nat.le_of_ble_eq_true rfl) ?_
  intro p e s m args below meth c A Q ls H hfix hK hP hD hA hS hl hEnd
  obtain ⟨hx, hb, hml, hown, hts⟩ := id hfix
  have hl : lv_has ls 4 [(0, .ref a_t), (1, .int i1)] := hl
  rw [f_X6_never] at hF
  refine lv_aload_n hx hb dX6_never_0 rfl (lv_at hl 0 rfl) ?_
  refine xget (ci := 6) (C := RX6) (T := TX6) (N := 13) hfix xiX6 hK.1 hP 0 rfl rfl 0 (by decide) rfl xw_161 rfl dX6_never_1 ?_
  refine lv_iload_n hx hb dX6_never_4 rfl (lv_at hl 1 rfl) ?_
  refine xrz0 (xrunV (As := [.int i1]) (rest := []) (c_X0_holds l D cI cB cJ a_t_book a_t_book_village a_t_book_mark a_t_book_held _ s_t_book_heldCount s_t_book_villages i1 (f_X0_holds i1 s_t_book_heldCount) rfl) hfix xw_377 yv_X0_holds ⟨rfl, rfl⟩ ⟨(Nat.le_of_ble_eq_true rfl), (Nat.le_of_ble_eq_true rfl)⟩ xKk_K (fun U hU hW => xK.warm hW hK) hK.1 hP hD [1] rfl rfl 1 0 rfl rfl rfl rfl hl.1 rfl (Nat.le_of_ble_eq_true rfl) dX6_never_5 ⟨Nat.zero_le _, Nat.zero_le _⟩) hP hD hS hA [1] rfl rfl (fun H locs hP hD hS hz_1 => ?_)
  refine lv_if_ne (tgt := 13) hx hb dX6_never_8 (by decide) (fun c_2 => ?_) (fun c_2 => ?_)
  · replace hF := if_f c_2 hF
    refine lv_aload_n hx hb dX6_never_13 rfl (lv_at hl 0 rfl) ?_
    refine lv_aload_n hx hb dX6_never_14 rfl (lv_at hl 0 rfl) ?_
    refine xget (ci := 6) (C := RX6) (T := TX6) (N := 13) hfix xiX6 hK.1 hP 0 rfl rfl 0 (by decide) rfl xw_161 rfl dX6_never_15 ?_
    refine xget (ci := 0) (C := RX0) (T := TX0) (N := 5) hfix xiX0 hK.1 hP 1 rfl rfl 2 (by decide) rfl xw_40 rfl dX6_never_18 ?_
    refine lv_iload_n hx hb dX6_never_21 rfl (lv_at hl 1 rfl) ?_
    obtain ⟨c_3, hF⟩ := gd_e hF
    refine va_iald hx hb hK.1 hP 2 0 rfl rfl c_3 dX6_never_22 ?_
    obtain ⟨o_4, hq_5, hF⟩ := bd1_e hF
    refine xrv (xrunV (As := [.int (v_t_book_held i1.toNatClampNeg)]) (rest := []) (c_X6_goOn l D cI cB cJ a_t a_t_book a_t_kept a_t_told a_t_tape a_t_rows a_t_sheets a_t_shelves a_t_thing a_t_shares a_t_ahead a_t_book_village a_t_book_mark a_t_book_held _ s_t_isKept s_t_z s_t_keptZ s_t_book_heldCount s_t_book_villages v_t_book_village v_t_ahead v_t_book_mark (v_t_book_held i1.toNatClampNeg) o_4 hq_5) hfix xw_466 yv_X6_goOn ⟨rfl, rfl⟩ ⟨(Nat.le_of_ble_eq_true rfl), (Nat.le_of_ble_eq_true rfl)⟩ xKk_K (fun U hU hW => xK.warm hW hK) hK.1 hP hD [0, 1, 3, 4, 5] rfl rfl 0 6 rfl rfl rfl rfl hl.1 rfl (Nat.le_of_ble_eq_true rfl) dX6_never_23 ⟨Nat.zero_le _, Nat.zero_le _⟩) hP hD hS hA [0, 1, 3, 4, 5] rfl rfl rfl (wn := [(a_t, .inr (6, [.ref a_t_book, .ref a_t_kept, .ref a_t_told, .ref a_t_tape, .ref a_t_rows, .ref a_t_sheets, .ref a_t_shelves, .ref a_t_thing, .ref a_t_shares, .ref a_t_ahead, .int s_t_isKept, .int s_t_z, .int s_t_keptZ])), (a_t_book, .inr (0, [.ref a_t_book_village, .ref a_t_book_mark, .ref a_t_book_held, .int s_t_book_heldCount, .int s_t_book_villages])), (a_t_book_held, .inl (cI, 6, .inl v_t_book_held)), (a_t_book_village, .inl (cI, 24, .inl v_t_book_village)), (a_t_ahead, .inl (cI, 100, .inl o_4)), (a_t_book_mark, .inl (cI, 24, .inl v_t_book_mark))]) rfl (fun H locs hP hD hS => ?_)
    refine lv_iconst (v := (1 : Int32)) hx hb dX6_never_26 (by decide) ?_
    refine lv_aload_n hx hb dX6_never_27 rfl (lv_at hl 0 rfl) ?_
    refine xget (ci := 6) (C := RX6) (T := TX6) (N := 13) hfix xiX6 hK.1 hP 0 rfl rfl 0 (by decide) rfl xw_161 rfl dX6_never_28 ?_
    refine xget (ci := 0) (C := RX0) (T := TX0) (N := 5) hfix xiX0 hK.1 hP 1 rfl rfl 4 (by decide) rfl xw_46 rfl dX6_never_31 ?_
    refine lv_ishl hx hb dX6_never_34 ?_
    refine lv_iconst (v := (1 : Int32)) hx hb dX6_never_35 (by decide) ?_
    refine lv_isub hx hb dX6_never_36 ?_
    refine lv_istore_n (lv' := [(2, .int (((1 : Int32) <<< (s_t_book_villages &&& 31)) - (1 : Int32))), (0, .ref a_t), (1, .int i1)]) hx hb dX6_never_37 rfl hl (by decide) rfl (fun ls hl => ?_)
    refine lv_aload_n hx hb dX6_never_38 rfl (lv_at hl 1 rfl) ?_
    refine xget (ci := 6) (C := RX6) (T := TX6) (N := 13) hfix xiX6 hK.1 hP 0 rfl rfl 0 (by decide) rfl xw_161 rfl dX6_never_39 ?_
    obtain ⟨r_6, hq_7, hF⟩ := bd1_e hF
    refine xri0 (xrunV (As := []) (rest := []) (c_X0_last l D cI cB cJ a_t_book a_t_book_village a_t_book_mark a_t_book_held _ s_t_book_heldCount s_t_book_villages v_t_book_village r_6 hq_7) hfix xw_462 yv_X0_last ⟨rfl, rfl⟩ ⟨(Nat.le_of_ble_eq_true rfl), (Nat.le_of_ble_eq_true rfl)⟩ xKk_K (fun U hU hW => xK.warm hW hK) hK.1 hP hD [1, 3] rfl rfl 1 0 rfl rfl rfl rfl hl.1 rfl (Nat.le_of_ble_eq_true rfl) dX6_never_42 ⟨Nat.zero_le _, Nat.zero_le _⟩) hP hD hS hA [1, 3] rfl rfl (fun H locs hP hD hS => ?_)
    refine lv_istore_n (lv' := [(3, .int r_6), (2, .int (((1 : Int32) <<< (s_t_book_villages &&& 31)) - (1 : Int32))), (0, .ref a_t), (1, .int i1)]) hx hb dX6_never_45 rfl hl (by decide) rfl (fun ls hl => ?_)
    have hL_46 : ∀ (n : Nat) (x2_8 : Int32) (x3_9 : Int32) (y2_10 : Int32), f_X6_never_L46 o_4 n x2_8 x3_9 = some y2_10 → ∀ (H : Heap) (locs : List Loc) (ls : Array Slot), va_P D vwCl [(a_t, .inr (6, [.ref a_t_book, .ref a_t_kept, .ref a_t_told, .ref a_t_tape, .ref a_t_rows, .ref a_t_sheets, .ref a_t_shelves, .ref a_t_thing, .ref a_t_shares, .ref a_t_ahead, .int s_t_isKept, .int s_t_z, .int s_t_keptZ])), (a_t_book, .inr (0, [.ref a_t_book_village, .ref a_t_book_mark, .ref a_t_book_held, .int s_t_book_heldCount, .int s_t_book_villages])), (a_t_book_held, .inl (cI, 6, .inl v_t_book_held)), (a_t_book_village, .inl (cI, 24, .inl v_t_book_village)), (a_t_ahead, .inl (cI, 100, .inl o_4)), (a_t_book_mark, .inl (cI, 24, .inl v_t_book_mark))] H → va_D A [(a_t, .inr (6, [.ref a_t_book, .ref a_t_kept, .ref a_t_told, .ref a_t_tape, .ref a_t_rows, .ref a_t_sheets, .ref a_t_shelves, .ref a_t_thing, .ref a_t_shares, .ref a_t_ahead, .int s_t_isKept, .int s_t_z, .int s_t_keptZ])), (a_t_book, .inr (0, [.ref a_t_book_village, .ref a_t_book_mark, .ref a_t_book_held, .int s_t_book_heldCount, .int s_t_book_villages])), (a_t_book_held, .inl (cI, 6, .inl v_t_book_held)), (a_t_book_village, .inl (cI, 24, .inl v_t_book_village)), (a_t_ahead, .inl (cI, 100, .inl o_4)), (a_t_book_mark, .inl (cI, 24, .inl v_t_book_mark))] → va_S A s.heap H locs → lv_has ls 4 [(0, .ref a_t), (2, .int x2_8), (3, .int x3_9)] → (∀ (H : Heap) (locs : List Loc) (ls : Array Slot), va_P D vwCl [(a_t, .inr (6, [.ref a_t_book, .ref a_t_kept, .ref a_t_told, .ref a_t_tape, .ref a_t_rows, .ref a_t_sheets, .ref a_t_shelves, .ref a_t_thing, .ref a_t_shares, .ref a_t_ahead, .int s_t_isKept, .int s_t_z, .int s_t_keptZ])), (a_t_book, .inr (0, [.ref a_t_book_village, .ref a_t_book_mark, .ref a_t_book_held, .int s_t_book_heldCount, .int s_t_book_villages])), (a_t_book_held, .inl (cI, 6, .inl v_t_book_held)), (a_t_book_village, .inl (cI, 24, .inl v_t_book_village)), (a_t_ahead, .inl (cI, 100, .inl o_4)), (a_t_book_mark, .inl (cI, 24, .inl v_t_book_mark))] H → va_D A [(a_t, .inr (6, [.ref a_t_book, .ref a_t_kept, .ref a_t_told, .ref a_t_tape, .ref a_t_rows, .ref a_t_sheets, .ref a_t_shelves, .ref a_t_thing, .ref a_t_shares, .ref a_t_ahead, .int s_t_isKept, .int s_t_z, .int s_t_keptZ])), (a_t_book, .inr (0, [.ref a_t_book_village, .ref a_t_book_mark, .ref a_t_book_held, .int s_t_book_heldCount, .int s_t_book_villages])), (a_t_book_held, .inl (cI, 6, .inl v_t_book_held)), (a_t_book_village, .inl (cI, 24, .inl v_t_book_village)), (a_t_ahead, .inl (cI, 100, .inl o_4)), (a_t_book_mark, .inl (cI, 24, .inl v_t_book_mark))] → va_S A s.heap H locs → lv_has ls 4 [(2, .int y2_10)] → W p l e rmX6_never s m args below meth c H locs 0 0 Q (F0 m 80 ls [])) → W p l e rmX6_never s m args below meth c H locs 0 0 Q (F0 m 46 ls []) := by
      intro n
      induction n with
      | zero => intro x2_8 x3_9 y2_10 hF; exact (no_some hF).elim
      | succ n ih =>
        intro x2_8 x3_9 y2_10 hF H locs ls hP hD hS hl kexit
        rw [f_X6_never_L46] at hF
        refine lv_iload_n hx hb dX6_never_46 rfl (lv_at hl 2 rfl) ?_
        refine lv_bipush (v := (100 : Int32)) hx hb dX6_never_47 (by decide) ?_
        refine lv_icmp_ge (tgt := 80) hx hb dX6_never_49 (by decide) (fun c_11 => ?_) (fun c_11 => ?_)
        · replace hF := if_t c_11 hF
          obtain rfl := Option.some.inj hF
          exact kexit _ _ _ hP hD hS (lv_sub hl [1] rfl)
        · replace hF := if_f c_11 hF
          refine lv_aload_n hx hb dX6_never_52 rfl (lv_at hl 0 rfl) ?_
          refine xget (ci := 6) (C := RX6) (T := TX6) (N := 13) hfix xiX6 hK.1 hP 0 rfl rfl 9 (by decide) rfl xw_170 rfl dX6_never_53 ?_
          refine lv_iload_n hx hb dX6_never_56 rfl (lv_at hl 2 rfl) ?_
          obtain ⟨c_12, hF⟩ := gd_e hF
          refine va_iald hx hb hK.1 hP 4 0 rfl rfl c_12 dX6_never_57 ?_
          refine lv_if_lt (tgt := 74) hx hb dX6_never_58 (by decide) (fun c_13 => ?_) (fun c_13 => ?_)
          · replace hF := if_t c_13 hF
            refine lv_iinc (v := (x3_9 + (1 : Int32))) (lv' := [(3, .int (x3_9 + (1 : Int32))), (0, .ref a_t), (2, .int x2_8)]) hx hb dX6_never_74 hl (k := 2) rfl rfl (by decide) rfl (fun ls hl => ?_)
            refine lv_goto (tgt := 46) hx hb dX6_never_77 (by decide) ?_
            exact ih _ _ _ hF _ _ _ hP hD hS (lv_sub hl [1, 2, 0] rfl) kexit
          · replace hF := if_f c_13 hF
            refine lv_iload_n hx hb dX6_never_61 rfl (lv_at hl 1 rfl) ?_
            refine lv_iconst (v := (1 : Int32)) hx hb dX6_never_62 (by decide) ?_
            refine lv_aload_n hx hb dX6_never_63 rfl (lv_at hl 0 rfl) ?_
            refine xget (ci := 6) (C := RX6) (T := TX6) (N := 13) hfix xiX6 hK.1 hP 0 rfl rfl 9 (by decide) rfl xw_170 rfl dX6_never_64 ?_
            refine lv_iload_n hx hb dX6_never_67 rfl (lv_at hl 2 rfl) ?_
            obtain ⟨c_14, hF⟩ := gd_e hF
            refine va_iald hx hb hK.1 hP 4 0 rfl rfl c_14 dX6_never_68 ?_
            refine lv_ishl hx hb dX6_never_69 ?_
            refine lv_iconst (v := (-1 : Int32)) hx hb dX6_never_70 (by decide) ?_
            refine lv_ixor hx hb dX6_never_71 ?_
            refine lv_iand hx hb dX6_never_72 ?_
            refine lv_istore_n (lv' := [(2, .int (x2_8 &&& (((1 : Int32) <<< ((o_4 x3_9.toNatClampNeg) &&& 31)) ^^^ (-1 : Int32)))), (0, .ref a_t), (3, .int x3_9)]) hx hb dX6_never_73 rfl hl (by decide) rfl (fun ls hl => ?_)
            refine lv_iinc (v := (x3_9 + (1 : Int32))) (lv' := [(3, .int (x3_9 + (1 : Int32))), (2, .int (x2_8 &&& (((1 : Int32) <<< ((o_4 x3_9.toNatClampNeg) &&& 31)) ^^^ (-1 : Int32)))), (0, .ref a_t)]) hx hb dX6_never_74 hl (k := 2) rfl rfl (by decide) rfl (fun ls hl => ?_)
            refine lv_goto (tgt := 46) hx hb dX6_never_77 (by decide) ?_
            exact ih _ _ _ hF _ _ _ hP hD hS (lv_sub hl [2, 1, 0] rfl) kexit
    obtain ⟨y2_10, hq, hF⟩ := bd1_e hF
    refine hL_46 _ _ _ _ hq _ _ _ hP hD hS (lv_sub hl [2, 1, 0] rfl) (fun H locs ls hP hD hS hl => ?_)
    refine lv_iload_n hx hb dX6_never_80 rfl (lv_at hl 0 rfl) ?_
    obtain ⟨rfl, rfl⟩ := pj2 hF
    exact hEnd _ _ _ _ _ dX6_never_81 hP hS rfl
  · replace hF := if_t c_2 hF
    refine lv_iconst (v := (-1 : Int32)) hx hb dX6_never_11 (by decide) ?_
    obtain ⟨rfl, rfl⟩ := pj2 hF
    exact hEnd _ _ _ _ _ dX6_never_12 hP hS rfl
def f_X6_fits_L16 (i1 : Int32) (s_t_book_villages : Int32) (v_t_book_village : (Nat → Int32)) (v_t_book_mark : (Nat → Int32)) : Nat → Int32 → Int32 → Option (Int32)
  | 0, _, _ => none
  | n + 1, x2_3, x3_4 => (if (600 : Int32) ≤ x3_4 then some (x2_3) else bd1 (f_X0_fitting x3_4 i1 s_t_book_villages v_t_book_village v_t_book_mark) (fun (r_7 : Int32) => (if r_7 = (0 : Int32) then f_X6_fits_L16 i1 s_t_book_villages v_t_book_village v_t_book_mark n x2_3 (x3_4 + (1 : Int32)) else f_X6_fits_L16 i1 s_t_book_villages v_t_book_village v_t_book_mark n (x2_3 + (1 : Int32)) (x3_4 + (1 : Int32)))))
def f_X6_fits (i1 : Int32) (s_t_book_villages : Int32) (v_t_book_village : (Nat → Int32)) (v_t_book_mark : (Nat → Int32)) : Option (Int32) := (if (f_X6_outside i1 (0 : Int32) (9 : Int32)) = (0 : Int32) then bd1 (f_X6_fits_L16 i1 s_t_book_villages v_t_book_village v_t_book_mark 1000 (0 : Int32) (0 : Int32)) (fun (y2_5 : Int32) => some (y2_5)) else some ((-1 : Int32)))
abbrev rmX6_fits : Room := { frames := 5, cells := 0, slots := 0, locals := 116 }
set_option maxHeartbeats 400000 in
set_option maxRecDepth 100000 in
theorem c_X6_fits (l : Launch) (D : va_G) (cI cB cJ : ClassId) (a_t : Nat) (a_t_book : Nat) (a_t_kept : Nat) (a_t_told : Nat) (a_t_tape : Nat) (a_t_rows : Nat) (a_t_sheets : Nat) (a_t_shelves : Nat) (a_t_thing : Nat) (a_t_shares : Nat) (a_t_ahead : Nat) (a_t_book_village : Nat) (a_t_book_mark : Nat) (a_t_book_held : Nat) (sz : Nat) (s_t_isKept : Int32) (s_t_z : Int32) (s_t_keptZ : Int32) (s_t_book_heldCount : Int32) (s_t_book_villages : Int32) (v_t_book_village : (Nat → Int32)) (v_t_book_mark : (Nat → Int32)) (i1 : Int32) (r : Int32) (hF : f_X6_fits i1 s_t_book_villages v_t_book_village v_t_book_mark = some r) : xMi l yX6_fits (.code yX6_fits cX6_fits 4 (some .int) :: xU) rmX6_fits (xK D cI cB cJ) D sz [.ref a_t, .int i1] [(a_t, .inr (6, [.ref a_t_book, .ref a_t_kept, .ref a_t_told, .ref a_t_tape, .ref a_t_rows, .ref a_t_sheets, .ref a_t_shelves, .ref a_t_thing, .ref a_t_shares, .ref a_t_ahead, .int s_t_isKept, .int s_t_z, .int s_t_keptZ])), (a_t_book, .inr (0, [.ref a_t_book_village, .ref a_t_book_mark, .ref a_t_book_held, .int s_t_book_heldCount, .int s_t_book_villages])), (a_t_book_village, .inl (cI, 24, .inl v_t_book_village)), (a_t_book_mark, .inl (cI, 24, .inl v_t_book_mark))] [(a_t, .inr (6, [.ref a_t_book, .ref a_t_kept, .ref a_t_told, .ref a_t_tape, .ref a_t_rows, .ref a_t_sheets, .ref a_t_shelves, .ref a_t_thing, .ref a_t_shares, .ref a_t_ahead, .int s_t_isKept, .int s_t_z, .int s_t_keptZ])), (a_t_book, .inr (0, [.ref a_t_book_village, .ref a_t_book_mark, .ref a_t_book_held, .int s_t_book_heldCount, .int s_t_book_villages])), (a_t_book_village, .inl (cI, 24, .inl v_t_book_village)), (a_t_book_mark, .inl (cI, 24, .inl v_t_book_mark))] r := by
  refine xMi.mk (own := "FairNext") (by decide +kernel) rfl (Nat.le_of_ble_eq_true rfl) ?_
  intro p e s m args below meth c A Q ls H hfix hK hP hD hA hS hl hEnd
  obtain ⟨hx, hb, hml, hown, hts⟩ := id hfix
  have hl : lv_has ls 4 [(0, .ref a_t), (1, .int i1)] := hl
  rw [f_X6_fits] at hF
  refine lv_iload_n hx hb dX6_fits_0 rfl (lv_at hl 1 rfl) ?_
  refine lv_iconst (v := (0 : Int32)) hx hb dX6_fits_1 (by decide) ?_
  refine lv_bipush (v := (9 : Int32)) hx hb dX6_fits_2 (by decide) ?_
  refine xrz0 (xrunS (As := [.int i1, .int (0 : Int32), .int (9 : Int32)]) (rest := []) (c_X6_outside l D cI cB cJ _ i1 (0 : Int32) (9 : Int32) (f_X6_outside i1 (0 : Int32) (9 : Int32)) rfl) hfix xw_205 ys_X6_outside ⟨rfl, rfl⟩ ⟨(Nat.le_of_ble_eq_true rfl), (Nat.le_of_ble_eq_true rfl)⟩ xKk_K (fun U hU hW => xK.warm hW hK) hP hD [] rfl rfl rfl hl.1 rfl (Nat.le_of_ble_eq_true rfl) dX6_fits_4 ⟨Nat.zero_le _, Nat.zero_le _⟩) hP hD hS hA [] rfl rfl (fun H locs hP hD hS hz_1 => ?_)
  refine lv_if_eq (tgt := 12) hx hb dX6_fits_7 (by decide) (fun c_2 => ?_) (fun c_2 => ?_)
  · replace hF := if_t c_2 hF
    refine lv_iconst (v := (0 : Int32)) hx hb dX6_fits_12 (by decide) ?_
    refine lv_istore_n (lv' := [(2, .int (0 : Int32)), (0, .ref a_t), (1, .int i1)]) hx hb dX6_fits_13 rfl hl (by decide) rfl (fun ls hl => ?_)
    refine lv_iconst (v := (0 : Int32)) hx hb dX6_fits_14 (by decide) ?_
    refine lv_istore_n (lv' := [(3, .int (0 : Int32)), (2, .int (0 : Int32)), (0, .ref a_t), (1, .int i1)]) hx hb dX6_fits_15 rfl hl (by decide) rfl (fun ls hl => ?_)
    have hL_16 : ∀ (n : Nat) (x2_3 : Int32) (x3_4 : Int32) (y2_5 : Int32), f_X6_fits_L16 i1 s_t_book_villages v_t_book_village v_t_book_mark n x2_3 x3_4 = some y2_5 → ∀ (H : Heap) (locs : List Loc) (ls : Array Slot), va_P D vwCl [(a_t, .inr (6, [.ref a_t_book, .ref a_t_kept, .ref a_t_told, .ref a_t_tape, .ref a_t_rows, .ref a_t_sheets, .ref a_t_shelves, .ref a_t_thing, .ref a_t_shares, .ref a_t_ahead, .int s_t_isKept, .int s_t_z, .int s_t_keptZ])), (a_t_book, .inr (0, [.ref a_t_book_village, .ref a_t_book_mark, .ref a_t_book_held, .int s_t_book_heldCount, .int s_t_book_villages])), (a_t_book_village, .inl (cI, 24, .inl v_t_book_village)), (a_t_book_mark, .inl (cI, 24, .inl v_t_book_mark))] H → va_D A [(a_t, .inr (6, [.ref a_t_book, .ref a_t_kept, .ref a_t_told, .ref a_t_tape, .ref a_t_rows, .ref a_t_sheets, .ref a_t_shelves, .ref a_t_thing, .ref a_t_shares, .ref a_t_ahead, .int s_t_isKept, .int s_t_z, .int s_t_keptZ])), (a_t_book, .inr (0, [.ref a_t_book_village, .ref a_t_book_mark, .ref a_t_book_held, .int s_t_book_heldCount, .int s_t_book_villages])), (a_t_book_village, .inl (cI, 24, .inl v_t_book_village)), (a_t_book_mark, .inl (cI, 24, .inl v_t_book_mark))] → va_S A s.heap H locs → lv_has ls 4 [(0, .ref a_t), (1, .int i1), (2, .int x2_3), (3, .int x3_4)] → (∀ (H : Heap) (locs : List Loc) (ls : Array Slot), va_P D vwCl [(a_t, .inr (6, [.ref a_t_book, .ref a_t_kept, .ref a_t_told, .ref a_t_tape, .ref a_t_rows, .ref a_t_sheets, .ref a_t_shelves, .ref a_t_thing, .ref a_t_shares, .ref a_t_ahead, .int s_t_isKept, .int s_t_z, .int s_t_keptZ])), (a_t_book, .inr (0, [.ref a_t_book_village, .ref a_t_book_mark, .ref a_t_book_held, .int s_t_book_heldCount, .int s_t_book_villages])), (a_t_book_village, .inl (cI, 24, .inl v_t_book_village)), (a_t_book_mark, .inl (cI, 24, .inl v_t_book_mark))] H → va_D A [(a_t, .inr (6, [.ref a_t_book, .ref a_t_kept, .ref a_t_told, .ref a_t_tape, .ref a_t_rows, .ref a_t_sheets, .ref a_t_shelves, .ref a_t_thing, .ref a_t_shares, .ref a_t_ahead, .int s_t_isKept, .int s_t_z, .int s_t_keptZ])), (a_t_book, .inr (0, [.ref a_t_book_village, .ref a_t_book_mark, .ref a_t_book_held, .int s_t_book_heldCount, .int s_t_book_villages])), (a_t_book_village, .inl (cI, 24, .inl v_t_book_village)), (a_t_book_mark, .inl (cI, 24, .inl v_t_book_mark))] → va_S A s.heap H locs → lv_has ls 4 [(2, .int y2_5)] → W p l e rmX6_fits s m args below meth c H locs 0 0 Q (F0 m 44 ls [])) → W p l e rmX6_fits s m args below meth c H locs 0 0 Q (F0 m 16 ls []) := by
      intro n
      induction n with
      | zero => intro x2_3 x3_4 y2_5 hF; exact (no_some hF).elim
      | succ n ih =>
        intro x2_3 x3_4 y2_5 hF H locs ls hP hD hS hl kexit
        rw [f_X6_fits_L16] at hF
        refine lv_iload_n hx hb dX6_fits_16 rfl (lv_at hl 3 rfl) ?_
        refine lv_sipush (v := (600 : Int32)) hx hb dX6_fits_17 (by decide) ?_
        refine lv_icmp_ge (tgt := 44) hx hb dX6_fits_20 (by decide) (fun c_6 => ?_) (fun c_6 => ?_)
        · replace hF := if_t c_6 hF
          obtain rfl := Option.some.inj hF
          exact kexit _ _ _ hP hD hS (lv_sub hl [2] rfl)
        · replace hF := if_f c_6 hF
          refine lv_aload_n hx hb dX6_fits_23 rfl (lv_at hl 0 rfl) ?_
          refine xget (ci := 6) (C := RX6) (T := TX6) (N := 13) hfix xiX6 hK.1 hP 0 rfl rfl 0 (by decide) rfl xw_161 rfl dX6_fits_24 ?_
          refine lv_iload_n hx hb dX6_fits_27 rfl (lv_at hl 3 rfl) ?_
          refine lv_iload_n hx hb dX6_fits_28 rfl (lv_at hl 1 rfl) ?_
          obtain ⟨r_7, hq_8, hF⟩ := bd1_e hF
          refine xrz0 (xrunV (As := [.int x3_4, .int i1]) (rest := []) (c_X0_fitting l D cI cB cJ a_t_book a_t_book_village a_t_book_mark a_t_book_held _ s_t_book_heldCount s_t_book_villages v_t_book_village v_t_book_mark x3_4 i1 r_7 hq_8) hfix xw_483 yv_X0_fitting ⟨rfl, rfl⟩ ⟨(Nat.le_of_ble_eq_true rfl), (Nat.le_of_ble_eq_true rfl)⟩ xKk_K (fun U hU hW => xK.warm hW hK) hK.1 hP hD [1, 2, 3] rfl rfl 1 0 rfl rfl rfl rfl hl.1 rfl (Nat.le_of_ble_eq_true rfl) dX6_fits_29 ⟨Nat.zero_le _, Nat.zero_le _⟩) hP hD hS hA [1, 2, 3] rfl rfl (fun H locs hP hD hS hz_9 => ?_)
          refine lv_if_eq (tgt := 38) hx hb dX6_fits_32 (by decide) (fun c_10 => ?_) (fun c_10 => ?_)
          · replace hF := if_t c_10 hF
            refine lv_iinc (v := (x3_4 + (1 : Int32))) (lv' := [(3, .int (x3_4 + (1 : Int32))), (0, .ref a_t), (1, .int i1), (2, .int x2_3)]) hx hb dX6_fits_38 hl (k := 3) rfl rfl (by decide) rfl (fun ls hl => ?_)
            refine lv_goto (tgt := 16) hx hb dX6_fits_41 (by decide) ?_
            exact ih _ _ _ hF _ _ _ hP hD hS (lv_sub hl [1, 2, 3, 0] rfl) kexit
          · replace hF := if_f c_10 hF
            refine lv_iinc (v := (x2_3 + (1 : Int32))) (lv' := [(2, .int (x2_3 + (1 : Int32))), (0, .ref a_t), (1, .int i1), (3, .int x3_4)]) hx hb dX6_fits_35 hl (k := 2) rfl rfl (by decide) rfl (fun ls hl => ?_)
            refine lv_iinc (v := (x3_4 + (1 : Int32))) (lv' := [(3, .int (x3_4 + (1 : Int32))), (2, .int (x2_3 + (1 : Int32))), (0, .ref a_t), (1, .int i1)]) hx hb dX6_fits_38 hl (k := 3) rfl rfl (by decide) rfl (fun ls hl => ?_)
            refine lv_goto (tgt := 16) hx hb dX6_fits_41 (by decide) ?_
            exact ih _ _ _ hF _ _ _ hP hD hS (lv_sub hl [2, 3, 1, 0] rfl) kexit
    obtain ⟨y2_5, hq, hF⟩ := bd1_e hF
    refine hL_16 _ _ _ _ hq _ _ _ hP hD hS (lv_sub hl [2, 3, 1, 0] rfl) (fun H locs ls hP hD hS hl => ?_)
    refine lv_iload_n hx hb dX6_fits_44 rfl (lv_at hl 0 rfl) ?_
    obtain rfl := Option.some.inj hF
    exact hEnd _ _ _ _ _ dX6_fits_45 hP hS rfl
  · replace hF := if_f c_2 hF
    refine lv_iconst (v := (-1 : Int32)) hx hb dX6_fits_10 (by decide) ?_
    obtain rfl := Option.some.inj hF
    exact hEnd _ _ _ _ _ dX6_fits_11 hP hS rfl
def f_X6_plainest (i1 : Int32) (i2 : Int32) (s_t_book_villages : Int32) (v_t_book_village : (Nat → Int32)) (v_t_book_mark : (Nat → Int32)) : Option (Int32) := (if (f_X6_outside i1 (0 : Int32) (9 : Int32)) = (0 : Int32) then (if (f_X6_outside i2 (0 : Int32) (5 : Int32)) = (0 : Int32) then bd1 (f_X0_plainestRule i1 (5 : Int32) s_t_book_villages v_t_book_village v_t_book_mark) (fun (r_5 : Int32) => (if (0 : Int32) ≤ r_5 then bd1 (f_X6_partOf r_5 i2 s_t_book_villages v_t_book_village v_t_book_mark) (fun (r_8 : Int32) => some (r_8)) else some ((-3 : Int32)))) else some ((-1 : Int32))) else some ((-1 : Int32)))
abbrev rmX6_plainest : Room := { frames := 6, cells := 0, slots := 0, locals := 141 }
set_option maxHeartbeats 400000 in
set_option maxRecDepth 100000 in
theorem c_X6_plainest (l : Launch) (D : va_G) (cI cB cJ : ClassId) (a_t : Nat) (a_t_book : Nat) (a_t_kept : Nat) (a_t_told : Nat) (a_t_tape : Nat) (a_t_rows : Nat) (a_t_sheets : Nat) (a_t_shelves : Nat) (a_t_thing : Nat) (a_t_shares : Nat) (a_t_ahead : Nat) (a_t_book_village : Nat) (a_t_book_mark : Nat) (a_t_book_held : Nat) (sz : Nat) (s_t_isKept : Int32) (s_t_z : Int32) (s_t_keptZ : Int32) (s_t_book_heldCount : Int32) (s_t_book_villages : Int32) (v_t_book_village : (Nat → Int32)) (v_t_book_mark : (Nat → Int32)) (i1 : Int32) (i2 : Int32) (r : Int32) (hF : f_X6_plainest i1 i2 s_t_book_villages v_t_book_village v_t_book_mark = some r) : xMi l yX6_plainest (.code yX6_plainest cX6_plainest 4 (some .int) :: xU) rmX6_plainest (xK D cI cB cJ) D sz [.ref a_t, .int i1, .int i2] [(a_t, .inr (6, [.ref a_t_book, .ref a_t_kept, .ref a_t_told, .ref a_t_tape, .ref a_t_rows, .ref a_t_sheets, .ref a_t_shelves, .ref a_t_thing, .ref a_t_shares, .ref a_t_ahead, .int s_t_isKept, .int s_t_z, .int s_t_keptZ])), (a_t_book, .inr (0, [.ref a_t_book_village, .ref a_t_book_mark, .ref a_t_book_held, .int s_t_book_heldCount, .int s_t_book_villages])), (a_t_book_village, .inl (cI, 24, .inl v_t_book_village)), (a_t_book_mark, .inl (cI, 24, .inl v_t_book_mark))] [(a_t, .inr (6, [.ref a_t_book, .ref a_t_kept, .ref a_t_told, .ref a_t_tape, .ref a_t_rows, .ref a_t_sheets, .ref a_t_shelves, .ref a_t_thing, .ref a_t_shares, .ref a_t_ahead, .int s_t_isKept, .int s_t_z, .int s_t_keptZ])), (a_t_book, .inr (0, [.ref a_t_book_village, .ref a_t_book_mark, .ref a_t_book_held, .int s_t_book_heldCount, .int s_t_book_villages])), (a_t_book_village, .inl (cI, 24, .inl v_t_book_village)), (a_t_book_mark, .inl (cI, 24, .inl v_t_book_mark))] r := by
  refine xMi.mk (own := "FairNext") (by decide +kernel) rfl (Nat.le_of_ble_eq_true rfl) ?_
  intro p e s m args below meth c A Q ls H hfix hK hP hD hA hS hl hEnd
  obtain ⟨hx, hb, hml, hown, hts⟩ := id hfix
  have hl : lv_has ls 4 [(0, .ref a_t), (1, .int i1), (2, .int i2)] := hl
  rw [f_X6_plainest] at hF
  refine lv_iload_n hx hb dX6_plainest_0 rfl (lv_at hl 1 rfl) ?_
  refine lv_iconst (v := (0 : Int32)) hx hb dX6_plainest_1 (by decide) ?_
  refine lv_bipush (v := (9 : Int32)) hx hb dX6_plainest_2 (by decide) ?_
  refine xrz0 (xrunS (As := [.int i1, .int (0 : Int32), .int (9 : Int32)]) (rest := []) (c_X6_outside l D cI cB cJ _ i1 (0 : Int32) (9 : Int32) (f_X6_outside i1 (0 : Int32) (9 : Int32)) rfl) hfix xw_205 ys_X6_outside ⟨rfl, rfl⟩ ⟨(Nat.le_of_ble_eq_true rfl), (Nat.le_of_ble_eq_true rfl)⟩ xKk_K (fun U hU hW => xK.warm hW hK) hP hD [] rfl rfl rfl hl.1 rfl (Nat.le_of_ble_eq_true rfl) dX6_plainest_4 ⟨Nat.zero_le _, Nat.zero_le _⟩) hP hD hS hA [] rfl rfl (fun H locs hP hD hS hz_1 => ?_)
  refine lv_if_ne (tgt := 19) hx hb dX6_plainest_7 (by decide) (fun c_2 => ?_) (fun c_2 => ?_)
  · replace hF := if_f c_2 hF
    refine lv_iconst (v := (-1 : Int32)) hx hb dX6_plainest_19 (by decide) ?_
    obtain rfl := Option.some.inj hF
    exact hEnd _ _ _ _ _ dX6_plainest_20 hP hS rfl
  · replace hF := if_t c_2 hF
    refine lv_iload_n hx hb dX6_plainest_10 rfl (lv_at hl 2 rfl) ?_
    refine lv_iconst (v := (0 : Int32)) hx hb dX6_plainest_11 (by decide) ?_
    refine lv_iconst (v := (5 : Int32)) hx hb dX6_plainest_12 (by decide) ?_
    refine xrz0 (xrunS (As := [.int i2, .int (0 : Int32), .int (5 : Int32)]) (rest := []) (c_X6_outside l D cI cB cJ _ i2 (0 : Int32) (5 : Int32) (f_X6_outside i2 (0 : Int32) (5 : Int32)) rfl) hfix xw_205 ys_X6_outside ⟨rfl, rfl⟩ ⟨(Nat.le_of_ble_eq_true rfl), (Nat.le_of_ble_eq_true rfl)⟩ xKk_K (fun U hU hW => xK.warm hW hK) hP hD [] rfl rfl rfl hl.1 rfl (Nat.le_of_ble_eq_true rfl) dX6_plainest_13 ⟨Nat.zero_le _, Nat.zero_le _⟩) hP hD hS hA [] rfl rfl (fun H locs hP hD hS hz_3 => ?_)
    refine lv_if_eq (tgt := 21) hx hb dX6_plainest_16 (by decide) (fun c_4 => ?_) (fun c_4 => ?_)
    · replace hF := if_t c_4 hF
      refine lv_aload_n hx hb dX6_plainest_21 rfl (lv_at hl 0 rfl) ?_
      refine xget (ci := 6) (C := RX6) (T := TX6) (N := 13) hfix xiX6 hK.1 hP 0 rfl rfl 0 (by decide) rfl xw_161 rfl dX6_plainest_22 ?_
      refine lv_iload_n hx hb dX6_plainest_25 rfl (lv_at hl 1 rfl) ?_
      refine lv_iconst (v := (5 : Int32)) hx hb dX6_plainest_26 (by decide) ?_
      obtain ⟨r_5, hq_6, hF⟩ := bd1_e hF
      refine xri0 (xrunV (As := [.int i1, .int (5 : Int32)]) (rest := []) (c_X0_plainestRule l D cI cB cJ a_t_book a_t_book_village a_t_book_mark a_t_book_held _ s_t_book_heldCount s_t_book_villages v_t_book_village v_t_book_mark i1 (5 : Int32) r_5 hq_6) hfix xw_492 yv_X0_plainestRule ⟨rfl, rfl⟩ ⟨(Nat.le_of_ble_eq_true rfl), (Nat.le_of_ble_eq_true rfl)⟩ xKk_K (fun U hU hW => xK.warm hW hK) hK.1 hP hD [1, 2, 3] rfl rfl 1 0 rfl rfl rfl rfl hl.1 rfl (Nat.le_of_ble_eq_true rfl) dX6_plainest_27 ⟨Nat.zero_le _, Nat.zero_le _⟩) hP hD hS hA [1, 2, 3] rfl rfl (fun H locs hP hD hS => ?_)
      refine lv_istore_n (lv' := [(3, .int r_5), (0, .ref a_t), (1, .int i1), (2, .int i2)]) hx hb dX6_plainest_30 rfl hl (by decide) rfl (fun ls hl => ?_)
      refine lv_iload_n hx hb dX6_plainest_31 rfl (lv_at hl 0 rfl) ?_
      refine lv_if_ge (tgt := 40) hx hb dX6_plainest_32 (by decide) (fun c_7 => ?_) (fun c_7 => ?_)
      · replace hF := if_t c_7 hF
        refine lv_aload_n hx hb dX6_plainest_40 rfl (lv_at hl 1 rfl) ?_
        refine lv_iload_n hx hb dX6_plainest_41 rfl (lv_at hl 0 rfl) ?_
        refine lv_iload_n hx hb dX6_plainest_42 rfl (lv_at hl 3 rfl) ?_
        obtain ⟨r_8, hq_9, hF⟩ := bd1_e hF
        refine xri0 (xrunV (As := [.int r_5, .int i2]) (rest := []) (c_X6_partOf l D cI cB cJ a_t a_t_book a_t_kept a_t_told a_t_tape a_t_rows a_t_sheets a_t_shelves a_t_thing a_t_shares a_t_ahead a_t_book_village a_t_book_mark a_t_book_held _ s_t_isKept s_t_z s_t_keptZ s_t_book_heldCount s_t_book_villages v_t_book_village v_t_book_mark r_5 i2 r_8 hq_9) hfix xw_381 yv_X6_partOf ⟨rfl, rfl⟩ ⟨(Nat.le_of_ble_eq_true rfl), (Nat.le_of_ble_eq_true rfl)⟩ xKk_K (fun U hU hW => xK.warm hW hK) hK.1 hP hD [0, 1, 2, 3] rfl rfl 0 6 rfl rfl rfl rfl hl.1 rfl (Nat.le_of_ble_eq_true rfl) dX6_plainest_43 ⟨Nat.zero_le _, Nat.zero_le _⟩) hP hD hS hA [0, 1, 2, 3] rfl rfl (fun H locs hP hD hS => ?_)
        obtain rfl := Option.some.inj hF
        exact hEnd _ _ _ _ _ dX6_plainest_46 hP hS rfl
      · replace hF := if_f c_7 hF
        refine lv_bipush (v := (-3 : Int32)) hx hb dX6_plainest_35 (by decide) ?_
        refine lv_goto (tgt := 46) hx hb dX6_plainest_37 (by decide) ?_
        obtain rfl := Option.some.inj hF
        exact hEnd _ _ _ _ _ dX6_plainest_46 hP hS rfl
    · replace hF := if_f c_4 hF
      refine lv_iconst (v := (-1 : Int32)) hx hb dX6_plainest_19 (by decide) ?_
      obtain rfl := Option.some.inj hF
      exact hEnd _ _ _ _ _ dX6_plainest_20 hP hS rfl
def f_X6_weigh_L2 : Nat → Int32 → (Nat → Int32) → Option ((Nat → Int32))
  | 0, _, _ => none
  | n + 1, x3_1, xv_t_shares_2 => (if (10 : Int32) ≤ x3_1 then some (xv_t_shares_2) else gd x3_1 10 (f_X6_weigh_L2 n (x3_1 + (1 : Int32)) (upd xv_t_shares_2 x3_1.toNatClampNeg (0 : Int32))))
def f_X6_weigh_L26 (i1 : Int32) (s_t_book_villages : Int32) (v_t_book_village : (Nat → Int32)) (v_t_book_mark : (Nat → Int32)) (i2 : Int32) : Nat → Int32 → Int32 → (Nat → Int32) → Option (Int32 × (Nat → Int32))
  | 0, _, _, _ => none
  | n + 1, x3_6, x4_7, xv_t_shares_8 => (if (600 : Int32) ≤ x4_7 then some ((x3_6, xv_t_shares_8)) else bd1 (f_X0_saying x4_7 i1 24 s_t_book_villages v_t_book_village v_t_book_mark) (fun (r_12 : Int32) => (if (f_X6_outside r_12 (0 : Int32) (9 : Int32)) = (0 : Int32) then bd1 (f_X0_fitting x4_7 i2 s_t_book_villages v_t_book_village v_t_book_mark) (fun (r_16 : Int32) => (if r_16 = (0 : Int32) then f_X6_weigh_L26 i1 s_t_book_villages v_t_book_village v_t_book_mark i2 n x3_6 (x4_7 + (1 : Int32)) xv_t_shares_8 else gd r_12 10 (gd r_12 10 (f_X6_weigh_L26 i1 s_t_book_villages v_t_book_village v_t_book_mark i2 n (x3_6 + (f_X6_shareOf x4_7)) (x4_7 + (1 : Int32)) (upd xv_t_shares_8 r_12.toNatClampNeg ((xv_t_shares_8 r_12.toNatClampNeg) + (f_X6_shareOf x4_7))))))) else f_X6_weigh_L26 i1 s_t_book_villages v_t_book_village v_t_book_mark i2 n x3_6 (x4_7 + (1 : Int32)) xv_t_shares_8)))
def f_X6_weigh (i1 : Int32) (i2 : Int32) (v_t_shares : (Nat → Int32)) (s_t_book_villages : Int32) (v_t_book_village : (Nat → Int32)) (v_t_book_mark : (Nat → Int32)) : Option (Int32 × (Nat → Int32)) := bd1 (f_X6_weigh_L2 1000 (0 : Int32) v_t_shares) (fun (yv_t_shares_3 : (Nat → Int32)) => bd2 (f_X6_weigh_L26 i1 s_t_book_villages v_t_book_village v_t_book_mark i2 1000 (0 : Int32) (0 : Int32) yv_t_shares_3) (fun (y3_9 : Int32) (yv_t_shares_10 : (Nat → Int32)) => some ((y3_9, yv_t_shares_10))))
abbrev rmX6_weigh : Room := { frames := 5, cells := 0, slots := 0, locals := 116 }
set_option maxHeartbeats 400000 in
set_option maxRecDepth 100000 in
theorem c_X6_weigh (l : Launch) (D : va_G) (cI cB cJ : ClassId) (a_t : Nat) (a_t_book : Nat) (a_t_kept : Nat) (a_t_told : Nat) (a_t_tape : Nat) (a_t_rows : Nat) (a_t_sheets : Nat) (a_t_shelves : Nat) (a_t_thing : Nat) (a_t_shares : Nat) (a_t_ahead : Nat) (a_t_book_village : Nat) (a_t_book_mark : Nat) (a_t_book_held : Nat) (sz : Nat) (s_t_isKept : Int32) (s_t_z : Int32) (s_t_keptZ : Int32) (s_t_book_heldCount : Int32) (s_t_book_villages : Int32) (v_t_shares : (Nat → Int32)) (v_t_book_village : (Nat → Int32)) (v_t_book_mark : (Nat → Int32)) (i1 : Int32) (i2 : Int32) (r : Int32) (o_v_t_shares : (Nat → Int32)) (hF : f_X6_weigh i1 i2 v_t_shares s_t_book_villages v_t_book_village v_t_book_mark = some (r, o_v_t_shares)) : xMi l yX6_weigh (.code yX6_weigh cX6_weigh 6 (some .int) :: xU) rmX6_weigh (xK D cI cB cJ) D sz [.ref a_t, .int i1, .int i2] [(a_t, .inr (6, [.ref a_t_book, .ref a_t_kept, .ref a_t_told, .ref a_t_tape, .ref a_t_rows, .ref a_t_sheets, .ref a_t_shelves, .ref a_t_thing, .ref a_t_shares, .ref a_t_ahead, .int s_t_isKept, .int s_t_z, .int s_t_keptZ])), (a_t_shares, .inl (cI, 10, .inl v_t_shares)), (a_t_book, .inr (0, [.ref a_t_book_village, .ref a_t_book_mark, .ref a_t_book_held, .int s_t_book_heldCount, .int s_t_book_villages])), (a_t_book_village, .inl (cI, 24, .inl v_t_book_village)), (a_t_book_mark, .inl (cI, 24, .inl v_t_book_mark))] [(a_t, .inr (6, [.ref a_t_book, .ref a_t_kept, .ref a_t_told, .ref a_t_tape, .ref a_t_rows, .ref a_t_sheets, .ref a_t_shelves, .ref a_t_thing, .ref a_t_shares, .ref a_t_ahead, .int s_t_isKept, .int s_t_z, .int s_t_keptZ])), (a_t_shares, .inl (cI, 10, .inl o_v_t_shares)), (a_t_book, .inr (0, [.ref a_t_book_village, .ref a_t_book_mark, .ref a_t_book_held, .int s_t_book_heldCount, .int s_t_book_villages])), (a_t_book_village, .inl (cI, 24, .inl v_t_book_village)), (a_t_book_mark, .inl (cI, 24, .inl v_t_book_mark))] r := by
  refine xMi.mk (own := "FairNext") (by decide +kernel) rfl (Nat.le_of_ble_eq_true rfl) ?_
  intro p e s m args below meth c A Q ls H hfix hK hP hD hA hS hl hEnd
  obtain ⟨hx, hb, hml, hown, hts⟩ := id hfix
  have hl : lv_has ls 6 [(0, .ref a_t), (1, .int i1), (2, .int i2)] := hl
  rw [f_X6_weigh] at hF
  refine lv_iconst (v := (0 : Int32)) hx hb dX6_weigh_0 (by decide) ?_
  refine lv_istore_n (lv' := [(3, .int (0 : Int32)), (0, .ref a_t), (1, .int i1), (2, .int i2)]) hx hb dX6_weigh_1 rfl hl (by decide) rfl (fun ls hl => ?_)
  have hL_2 : ∀ (n : Nat) (x3_1 : Int32) (xv_t_shares_2 : (Nat → Int32)) (yv_t_shares_3 : (Nat → Int32)), f_X6_weigh_L2 n x3_1 xv_t_shares_2 = some yv_t_shares_3 → ∀ (H : Heap) (locs : List Loc) (ls : Array Slot), va_P D vwCl [(a_t, .inr (6, [.ref a_t_book, .ref a_t_kept, .ref a_t_told, .ref a_t_tape, .ref a_t_rows, .ref a_t_sheets, .ref a_t_shelves, .ref a_t_thing, .ref a_t_shares, .ref a_t_ahead, .int s_t_isKept, .int s_t_z, .int s_t_keptZ])), (a_t_shares, .inl (cI, 10, .inl xv_t_shares_2)), (a_t_book, .inr (0, [.ref a_t_book_village, .ref a_t_book_mark, .ref a_t_book_held, .int s_t_book_heldCount, .int s_t_book_villages])), (a_t_book_village, .inl (cI, 24, .inl v_t_book_village)), (a_t_book_mark, .inl (cI, 24, .inl v_t_book_mark))] H → va_D A [(a_t, .inr (6, [.ref a_t_book, .ref a_t_kept, .ref a_t_told, .ref a_t_tape, .ref a_t_rows, .ref a_t_sheets, .ref a_t_shelves, .ref a_t_thing, .ref a_t_shares, .ref a_t_ahead, .int s_t_isKept, .int s_t_z, .int s_t_keptZ])), (a_t_shares, .inl (cI, 10, .inl xv_t_shares_2)), (a_t_book, .inr (0, [.ref a_t_book_village, .ref a_t_book_mark, .ref a_t_book_held, .int s_t_book_heldCount, .int s_t_book_villages])), (a_t_book_village, .inl (cI, 24, .inl v_t_book_village)), (a_t_book_mark, .inl (cI, 24, .inl v_t_book_mark))] → va_S A s.heap H locs → lv_has ls 6 [(0, .ref a_t), (1, .int i1), (2, .int i2), (3, .int x3_1)] → (∀ (H : Heap) (locs : List Loc) (ls : Array Slot), va_P D vwCl [(a_t, .inr (6, [.ref a_t_book, .ref a_t_kept, .ref a_t_told, .ref a_t_tape, .ref a_t_rows, .ref a_t_sheets, .ref a_t_shelves, .ref a_t_thing, .ref a_t_shares, .ref a_t_ahead, .int s_t_isKept, .int s_t_z, .int s_t_keptZ])), (a_t_shares, .inl (cI, 10, .inl yv_t_shares_3)), (a_t_book, .inr (0, [.ref a_t_book_village, .ref a_t_book_mark, .ref a_t_book_held, .int s_t_book_heldCount, .int s_t_book_villages])), (a_t_book_village, .inl (cI, 24, .inl v_t_book_village)), (a_t_book_mark, .inl (cI, 24, .inl v_t_book_mark))] H → va_D A [(a_t, .inr (6, [.ref a_t_book, .ref a_t_kept, .ref a_t_told, .ref a_t_tape, .ref a_t_rows, .ref a_t_sheets, .ref a_t_shelves, .ref a_t_thing, .ref a_t_shares, .ref a_t_ahead, .int s_t_isKept, .int s_t_z, .int s_t_keptZ])), (a_t_shares, .inl (cI, 10, .inl yv_t_shares_3)), (a_t_book, .inr (0, [.ref a_t_book_village, .ref a_t_book_mark, .ref a_t_book_held, .int s_t_book_heldCount, .int s_t_book_villages])), (a_t_book_village, .inl (cI, 24, .inl v_t_book_village)), (a_t_book_mark, .inl (cI, 24, .inl v_t_book_mark))] → va_S A s.heap H locs → lv_has ls 6 [(0, .ref a_t), (1, .int i1), (2, .int i2)] → W p l e rmX6_weigh s m args below meth c H locs 0 0 Q (F0 m 21 ls [])) → W p l e rmX6_weigh s m args below meth c H locs 0 0 Q (F0 m 2 ls []) := by
    intro n
    induction n with
    | zero => intro x3_1 xv_t_shares_2 yv_t_shares_3 hF; exact (no_some hF).elim
    | succ n ih =>
      intro x3_1 xv_t_shares_2 yv_t_shares_3 hF H locs ls hP hD hS hl kexit
      rw [f_X6_weigh_L2] at hF
      refine lv_iload_n hx hb dX6_weigh_2 rfl (lv_at hl 3 rfl) ?_
      refine lv_bipush (v := (10 : Int32)) hx hb dX6_weigh_3 (by decide) ?_
      refine lv_icmp_ge (tgt := 21) hx hb dX6_weigh_5 (by decide) (fun c_4 => ?_) (fun c_4 => ?_)
      · replace hF := if_t c_4 hF
        obtain rfl := Option.some.inj hF
        exact kexit _ _ _ hP hD hS (lv_sub hl [0, 1, 2] rfl)
      · replace hF := if_f c_4 hF
        refine lv_aload_n hx hb dX6_weigh_8 rfl (lv_at hl 0 rfl) ?_
        refine xget (ci := 6) (C := RX6) (T := TX6) (N := 13) hfix xiX6 hK.1 hP 0 rfl rfl 8 (by decide) rfl xw_169 rfl dX6_weigh_9 ?_
        refine lv_iload_n hx hb dX6_weigh_12 rfl (lv_at hl 3 rfl) ?_
        refine lv_iconst (v := (0 : Int32)) hx hb dX6_weigh_13 (by decide) ?_
        obtain ⟨c_5, hF⟩ := gd_e hF
        refine va_iast hx hb hK.1 hP hD hS 1 0 rfl rfl c_5 dX6_weigh_14 (fun H locs hP hD hS => ?_)
        have hP : va_P D vwCl [(a_t, .inr (6, [.ref a_t_book, .ref a_t_kept, .ref a_t_told, .ref a_t_tape, .ref a_t_rows, .ref a_t_sheets, .ref a_t_shelves, .ref a_t_thing, .ref a_t_shares, .ref a_t_ahead, .int s_t_isKept, .int s_t_z, .int s_t_keptZ])), (a_t_shares, .inl (cI, 10, .inl (upd xv_t_shares_2 x3_1.toNatClampNeg (0 : Int32)))), (a_t_book, .inr (0, [.ref a_t_book_village, .ref a_t_book_mark, .ref a_t_book_held, .int s_t_book_heldCount, .int s_t_book_villages])), (a_t_book_village, .inl (cI, 24, .inl v_t_book_village)), (a_t_book_mark, .inl (cI, 24, .inl v_t_book_mark))] H := hP
        have hD : va_D A [(a_t, .inr (6, [.ref a_t_book, .ref a_t_kept, .ref a_t_told, .ref a_t_tape, .ref a_t_rows, .ref a_t_sheets, .ref a_t_shelves, .ref a_t_thing, .ref a_t_shares, .ref a_t_ahead, .int s_t_isKept, .int s_t_z, .int s_t_keptZ])), (a_t_shares, .inl (cI, 10, .inl (upd xv_t_shares_2 x3_1.toNatClampNeg (0 : Int32)))), (a_t_book, .inr (0, [.ref a_t_book_village, .ref a_t_book_mark, .ref a_t_book_held, .int s_t_book_heldCount, .int s_t_book_villages])), (a_t_book_village, .inl (cI, 24, .inl v_t_book_village)), (a_t_book_mark, .inl (cI, 24, .inl v_t_book_mark))] := hD
        refine lv_iinc (v := (x3_1 + (1 : Int32))) (lv' := [(3, .int (x3_1 + (1 : Int32))), (0, .ref a_t), (1, .int i1), (2, .int i2)]) hx hb dX6_weigh_15 hl (k := 3) rfl rfl (by decide) rfl (fun ls hl => ?_)
        refine lv_goto (tgt := 2) hx hb dX6_weigh_18 (by decide) ?_
        exact ih _ _ _ hF _ _ _ hP hD hS (lv_sub hl [1, 2, 3, 0] rfl) kexit
  obtain ⟨yv_t_shares_3, hq, hF⟩ := bd1_e hF
  refine hL_2 _ _ _ _ hq _ _ _ hP hD hS (lv_sub hl [1, 2, 3, 0] rfl) (fun H locs ls hP hD hS hl => ?_)
  refine lv_iconst (v := (0 : Int32)) hx hb dX6_weigh_21 (by decide) ?_
  refine lv_istore_n (lv' := [(3, .int (0 : Int32)), (0, .ref a_t), (1, .int i1), (2, .int i2)]) hx hb dX6_weigh_22 rfl hl (by decide) rfl (fun ls hl => ?_)
  refine lv_iconst (v := (0 : Int32)) hx hb dX6_weigh_23 (by decide) ?_
  refine lv_istore (lv' := [(4, .int (0 : Int32)), (3, .int (0 : Int32)), (0, .ref a_t), (1, .int i1), (2, .int i2)]) hx hb dX6_weigh_24 hl (by decide) rfl (fun ls hl => ?_)
  have hL_26 : ∀ (n : Nat) (x3_6 : Int32) (x4_7 : Int32) (xv_t_shares_8 : (Nat → Int32)) (y3_9 : Int32) (yv_t_shares_10 : (Nat → Int32)), f_X6_weigh_L26 i1 s_t_book_villages v_t_book_village v_t_book_mark i2 n x3_6 x4_7 xv_t_shares_8 = some (y3_9, yv_t_shares_10) → ∀ (H : Heap) (locs : List Loc) (ls : Array Slot), va_P D vwCl [(a_t, .inr (6, [.ref a_t_book, .ref a_t_kept, .ref a_t_told, .ref a_t_tape, .ref a_t_rows, .ref a_t_sheets, .ref a_t_shelves, .ref a_t_thing, .ref a_t_shares, .ref a_t_ahead, .int s_t_isKept, .int s_t_z, .int s_t_keptZ])), (a_t_shares, .inl (cI, 10, .inl xv_t_shares_8)), (a_t_book, .inr (0, [.ref a_t_book_village, .ref a_t_book_mark, .ref a_t_book_held, .int s_t_book_heldCount, .int s_t_book_villages])), (a_t_book_village, .inl (cI, 24, .inl v_t_book_village)), (a_t_book_mark, .inl (cI, 24, .inl v_t_book_mark))] H → va_D A [(a_t, .inr (6, [.ref a_t_book, .ref a_t_kept, .ref a_t_told, .ref a_t_tape, .ref a_t_rows, .ref a_t_sheets, .ref a_t_shelves, .ref a_t_thing, .ref a_t_shares, .ref a_t_ahead, .int s_t_isKept, .int s_t_z, .int s_t_keptZ])), (a_t_shares, .inl (cI, 10, .inl xv_t_shares_8)), (a_t_book, .inr (0, [.ref a_t_book_village, .ref a_t_book_mark, .ref a_t_book_held, .int s_t_book_heldCount, .int s_t_book_villages])), (a_t_book_village, .inl (cI, 24, .inl v_t_book_village)), (a_t_book_mark, .inl (cI, 24, .inl v_t_book_mark))] → va_S A s.heap H locs → lv_has ls 6 [(0, .ref a_t), (1, .int i1), (2, .int i2), (3, .int x3_6), (4, .int x4_7)] → (∀ (H : Heap) (locs : List Loc) (ls : Array Slot), va_P D vwCl [(a_t, .inr (6, [.ref a_t_book, .ref a_t_kept, .ref a_t_told, .ref a_t_tape, .ref a_t_rows, .ref a_t_sheets, .ref a_t_shelves, .ref a_t_thing, .ref a_t_shares, .ref a_t_ahead, .int s_t_isKept, .int s_t_z, .int s_t_keptZ])), (a_t_shares, .inl (cI, 10, .inl yv_t_shares_10)), (a_t_book, .inr (0, [.ref a_t_book_village, .ref a_t_book_mark, .ref a_t_book_held, .int s_t_book_heldCount, .int s_t_book_villages])), (a_t_book_village, .inl (cI, 24, .inl v_t_book_village)), (a_t_book_mark, .inl (cI, 24, .inl v_t_book_mark))] H → va_D A [(a_t, .inr (6, [.ref a_t_book, .ref a_t_kept, .ref a_t_told, .ref a_t_tape, .ref a_t_rows, .ref a_t_sheets, .ref a_t_shelves, .ref a_t_thing, .ref a_t_shares, .ref a_t_ahead, .int s_t_isKept, .int s_t_z, .int s_t_keptZ])), (a_t_shares, .inl (cI, 10, .inl yv_t_shares_10)), (a_t_book, .inr (0, [.ref a_t_book_village, .ref a_t_book_mark, .ref a_t_book_held, .int s_t_book_heldCount, .int s_t_book_villages])), (a_t_book_village, .inl (cI, 24, .inl v_t_book_village)), (a_t_book_mark, .inl (cI, 24, .inl v_t_book_mark))] → va_S A s.heap H locs → lv_has ls 6 [(3, .int y3_9)] → W p l e rmX6_weigh s m args below meth c H locs 0 0 Q (F0 m 106 ls [])) → W p l e rmX6_weigh s m args below meth c H locs 0 0 Q (F0 m 26 ls []) := by
    intro n
    induction n with
    | zero => intro x3_6 x4_7 xv_t_shares_8 y3_9 yv_t_shares_10 hF; exact (no_some hF).elim
    | succ n ih =>
      intro x3_6 x4_7 xv_t_shares_8 y3_9 yv_t_shares_10 hF H locs ls hP hD hS hl kexit
      rw [f_X6_weigh_L26] at hF
      refine lv_iload hx hb dX6_weigh_26 (lv_at hl 4 rfl) ?_
      refine lv_sipush (v := (600 : Int32)) hx hb dX6_weigh_28 (by decide) ?_
      refine lv_icmp_ge (tgt := 106) hx hb dX6_weigh_31 (by decide) (fun c_11 => ?_) (fun c_11 => ?_)
      · replace hF := if_t c_11 hF
        obtain ⟨rfl, rfl⟩ := pj2 hF
        exact kexit _ _ _ hP hD hS (lv_sub hl [3] rfl)
      · replace hF := if_f c_11 hF
        refine lv_aload_n hx hb dX6_weigh_34 rfl (lv_at hl 0 rfl) ?_
        refine xget (ci := 6) (C := RX6) (T := TX6) (N := 13) hfix xiX6 hK.1 hP 0 rfl rfl 0 (by decide) rfl xw_161 rfl dX6_weigh_35 ?_
        refine lv_iload hx hb dX6_weigh_38 (lv_at hl 4 rfl) ?_
        refine lv_iload_n hx hb dX6_weigh_40 rfl (lv_at hl 1 rfl) ?_
        refine lv_aload_n hx hb dX6_weigh_41 rfl (lv_at hl 0 rfl) ?_
        refine xget (ci := 6) (C := RX6) (T := TX6) (N := 13) hfix xiX6 hK.1 hP 0 rfl rfl 0 (by decide) rfl xw_161 rfl dX6_weigh_42 ?_
        refine xget (ci := 0) (C := RX0) (T := TX0) (N := 5) hfix xiX0 hK.1 hP 2 rfl rfl 0 (by decide) rfl xw_34 rfl dX6_weigh_45 ?_
        obtain ⟨r_12, hq_13, hF⟩ := bd1_e hF
        refine xri0 (xrunV (As := [.int x4_7, .int i1, .ref a_t_book_village]) (rest := []) (c_X0_saying l D cI cB cJ a_t_book a_t_book_village a_t_book_mark a_t_book_held a_t_book_village _ 24 s_t_book_heldCount s_t_book_villages v_t_book_village v_t_book_mark x4_7 i1 r_12 hq_13) hfix xw_438 yv_X0_saying ⟨rfl, rfl⟩ ⟨(Nat.le_of_ble_eq_true rfl), (Nat.le_of_ble_eq_true rfl)⟩ xKk_K (fun U hU hW => xK.warm hW hK) hK.1 hP hD [2, 3, 4] rfl rfl 2 0 rfl rfl rfl rfl hl.1 rfl (Nat.le_of_ble_eq_true rfl) dX6_weigh_48 ⟨Nat.zero_le _, Nat.zero_le _⟩) hP hD hS hA [2, 3, 4] rfl rfl (fun H locs hP hD hS => ?_)
        refine lv_istore (lv' := [(5, .int r_12), (0, .ref a_t), (1, .int i1), (2, .int i2), (3, .int x3_6), (4, .int x4_7)]) hx hb dX6_weigh_51 hl (by decide) rfl (fun ls hl => ?_)
        refine lv_iload hx hb dX6_weigh_53 (lv_at hl 0 rfl) ?_
        refine lv_iconst (v := (0 : Int32)) hx hb dX6_weigh_55 (by decide) ?_
        refine lv_bipush (v := (9 : Int32)) hx hb dX6_weigh_56 (by decide) ?_
        refine xrz0 (xrunS (As := [.int r_12, .int (0 : Int32), .int (9 : Int32)]) (rest := []) (c_X6_outside l D cI cB cJ _ r_12 (0 : Int32) (9 : Int32) (f_X6_outside r_12 (0 : Int32) (9 : Int32)) rfl) hfix xw_205 ys_X6_outside ⟨rfl, rfl⟩ ⟨(Nat.le_of_ble_eq_true rfl), (Nat.le_of_ble_eq_true rfl)⟩ xKk_K (fun U hU hW => xK.warm hW hK) hP hD [] rfl rfl rfl hl.1 rfl (Nat.le_of_ble_eq_true rfl) dX6_weigh_58 ⟨Nat.zero_le _, Nat.zero_le _⟩) hP hD hS hA [] rfl rfl (fun H locs hP hD hS hz_14 => ?_)
        refine lv_if_ne (tgt := 100) hx hb dX6_weigh_61 (by decide) (fun c_15 => ?_) (fun c_15 => ?_)
        · replace hF := if_f c_15 hF
          refine lv_iinc (v := (x4_7 + (1 : Int32))) (lv' := [(4, .int (x4_7 + (1 : Int32))), (5, .int r_12), (0, .ref a_t), (1, .int i1), (2, .int i2), (3, .int x3_6)]) hx hb dX6_weigh_100 hl (k := 5) rfl rfl (by decide) rfl (fun ls hl => ?_)
          refine lv_goto (tgt := 26) hx hb dX6_weigh_103 (by decide) ?_
          exact ih _ _ _ _ _ hF _ _ _ hP hD hS (lv_sub hl [2, 3, 4, 5, 0] rfl) kexit
        · replace hF := if_t c_15 hF
          refine lv_aload_n hx hb dX6_weigh_64 rfl (lv_at hl 1 rfl) ?_
          refine xget (ci := 6) (C := RX6) (T := TX6) (N := 13) hfix xiX6 hK.1 hP 0 rfl rfl 0 (by decide) rfl xw_161 rfl dX6_weigh_65 ?_
          refine lv_iload hx hb dX6_weigh_68 (lv_at hl 5 rfl) ?_
          refine lv_iload_n hx hb dX6_weigh_70 rfl (lv_at hl 3 rfl) ?_
          obtain ⟨r_16, hq_17, hF⟩ := bd1_e hF
          refine xrz0 (xrunV (As := [.int x4_7, .int i2]) (rest := []) (c_X0_fitting l D cI cB cJ a_t_book a_t_book_village a_t_book_mark a_t_book_held _ s_t_book_heldCount s_t_book_villages v_t_book_village v_t_book_mark x4_7 i2 r_16 hq_17) hfix xw_483 yv_X0_fitting ⟨rfl, rfl⟩ ⟨(Nat.le_of_ble_eq_true rfl), (Nat.le_of_ble_eq_true rfl)⟩ xKk_K (fun U hU hW => xK.warm hW hK) hK.1 hP hD [2, 3, 4] rfl rfl 2 0 rfl rfl rfl rfl hl.1 rfl (Nat.le_of_ble_eq_true rfl) dX6_weigh_71 ⟨Nat.zero_le _, Nat.zero_le _⟩) hP hD hS hA [2, 3, 4] rfl rfl (fun H locs hP hD hS hz_18 => ?_)
          refine lv_if_eq (tgt := 100) hx hb dX6_weigh_74 (by decide) (fun c_19 => ?_) (fun c_19 => ?_)
          · replace hF := if_t c_19 hF
            refine lv_iinc (v := (x4_7 + (1 : Int32))) (lv' := [(4, .int (x4_7 + (1 : Int32))), (5, .int r_12), (0, .ref a_t), (1, .int i1), (2, .int i2), (3, .int x3_6)]) hx hb dX6_weigh_100 hl (k := 5) rfl rfl (by decide) rfl (fun ls hl => ?_)
            refine lv_goto (tgt := 26) hx hb dX6_weigh_103 (by decide) ?_
            exact ih _ _ _ _ _ hF _ _ _ hP hD hS (lv_sub hl [2, 3, 4, 5, 0] rfl) kexit
          · replace hF := if_f c_19 hF
            refine lv_aload_n hx hb dX6_weigh_77 rfl (lv_at hl 1 rfl) ?_
            refine xget (ci := 6) (C := RX6) (T := TX6) (N := 13) hfix xiX6 hK.1 hP 0 rfl rfl 8 (by decide) rfl xw_169 rfl dX6_weigh_78 ?_
            refine lv_iload hx hb dX6_weigh_81 (lv_at hl 0 rfl) ?_
            refine lv_dup2_11 hx hb dX6_weigh_83 rfl rfl ?_
            obtain ⟨c_20, hF⟩ := gd_e hF
            refine va_iald hx hb hK.1 hP 1 0 rfl rfl c_20 dX6_weigh_84 ?_
            refine lv_iload hx hb dX6_weigh_85 (lv_at hl 5 rfl) ?_
            refine xri0 (xrunS (As := [.int x4_7]) (rest := [.int (xv_t_shares_8 r_12.toNatClampNeg), .int r_12, .ref a_t_shares]) (c_X6_shareOf l D cI cB cJ _ x4_7 (f_X6_shareOf x4_7) rfl) hfix xw_509 ys_X6_shareOf ⟨rfl, rfl⟩ ⟨(Nat.le_of_ble_eq_true rfl), (Nat.le_of_ble_eq_true rfl)⟩ xKk_K (fun U hU hW => xK.warm hW hK) hP hD [] rfl rfl rfl hl.1 rfl (Nat.le_of_ble_eq_true rfl) dX6_weigh_87 ⟨Nat.zero_le _, Nat.zero_le _⟩) hP hD hS hA [] rfl rfl (fun H locs hP hD hS => ?_)
            refine lv_iadd hx hb dX6_weigh_90 ?_
            obtain ⟨c_21, hF⟩ := gd_e hF
            refine va_iast hx hb hK.1 hP hD hS 1 0 rfl rfl c_21 dX6_weigh_91 (fun H locs hP hD hS => ?_)
            have hP : va_P D vwCl [(a_t, .inr (6, [.ref a_t_book, .ref a_t_kept, .ref a_t_told, .ref a_t_tape, .ref a_t_rows, .ref a_t_sheets, .ref a_t_shelves, .ref a_t_thing, .ref a_t_shares, .ref a_t_ahead, .int s_t_isKept, .int s_t_z, .int s_t_keptZ])), (a_t_shares, .inl (cI, 10, .inl (upd xv_t_shares_8 r_12.toNatClampNeg ((xv_t_shares_8 r_12.toNatClampNeg) + (f_X6_shareOf x4_7))))), (a_t_book, .inr (0, [.ref a_t_book_village, .ref a_t_book_mark, .ref a_t_book_held, .int s_t_book_heldCount, .int s_t_book_villages])), (a_t_book_village, .inl (cI, 24, .inl v_t_book_village)), (a_t_book_mark, .inl (cI, 24, .inl v_t_book_mark))] H := hP
            have hD : va_D A [(a_t, .inr (6, [.ref a_t_book, .ref a_t_kept, .ref a_t_told, .ref a_t_tape, .ref a_t_rows, .ref a_t_sheets, .ref a_t_shelves, .ref a_t_thing, .ref a_t_shares, .ref a_t_ahead, .int s_t_isKept, .int s_t_z, .int s_t_keptZ])), (a_t_shares, .inl (cI, 10, .inl (upd xv_t_shares_8 r_12.toNatClampNeg ((xv_t_shares_8 r_12.toNatClampNeg) + (f_X6_shareOf x4_7))))), (a_t_book, .inr (0, [.ref a_t_book_village, .ref a_t_book_mark, .ref a_t_book_held, .int s_t_book_heldCount, .int s_t_book_villages])), (a_t_book_village, .inl (cI, 24, .inl v_t_book_village)), (a_t_book_mark, .inl (cI, 24, .inl v_t_book_mark))] := hD
            refine lv_iload_n hx hb dX6_weigh_92 rfl (lv_at hl 4 rfl) ?_
            refine lv_iload hx hb dX6_weigh_93 (lv_at hl 5 rfl) ?_
            refine xri0 (xrunS (As := [.int x4_7]) (rest := [.int x3_6]) (c_X6_shareOf l D cI cB cJ _ x4_7 (f_X6_shareOf x4_7) rfl) hfix xw_509 ys_X6_shareOf ⟨rfl, rfl⟩ ⟨(Nat.le_of_ble_eq_true rfl), (Nat.le_of_ble_eq_true rfl)⟩ xKk_K (fun U hU hW => xK.warm hW hK) hP hD [] rfl rfl rfl hl.1 rfl (Nat.le_of_ble_eq_true rfl) dX6_weigh_95 ⟨Nat.zero_le _, Nat.zero_le _⟩) hP hD hS hA [] rfl rfl (fun H locs hP hD hS => ?_)
            refine lv_iadd hx hb dX6_weigh_98 ?_
            refine lv_istore_n (lv' := [(3, .int (x3_6 + (f_X6_shareOf x4_7))), (5, .int r_12), (0, .ref a_t), (1, .int i1), (2, .int i2), (4, .int x4_7)]) hx hb dX6_weigh_99 rfl hl (by decide) rfl (fun ls hl => ?_)
            refine lv_iinc (v := (x4_7 + (1 : Int32))) (lv' := [(4, .int (x4_7 + (1 : Int32))), (3, .int (x3_6 + (f_X6_shareOf x4_7))), (5, .int r_12), (0, .ref a_t), (1, .int i1), (2, .int i2)]) hx hb dX6_weigh_100 hl (k := 5) rfl rfl (by decide) rfl (fun ls hl => ?_)
            refine lv_goto (tgt := 26) hx hb dX6_weigh_103 (by decide) ?_
            exact ih _ _ _ _ _ hF _ _ _ hP hD hS (lv_sub hl [3, 4, 5, 1, 0] rfl) kexit
  obtain ⟨y3_9, yv_t_shares_10, hq, hF⟩ := bd2_e hF
  refine hL_26 _ _ _ _ _ _ hq _ _ _ hP hD hS (lv_sub hl [2, 3, 4, 1, 0] rfl) (fun H locs ls hP hD hS hl => ?_)
  refine lv_iload_n hx hb dX6_weigh_106 rfl (lv_at hl 0 rfl) ?_
  obtain ⟨rfl, rfl⟩ := pj2 hF
  exact hEnd _ _ _ _ _ dX6_weigh_107 hP hS rfl
def f_X6_odds (i1 : Int32) (i2 : Int32) (i3 : Int32) (i4 : Int32) (v_t_shares : (Nat → Int32)) (s_t_book_villages : Int32) (v_t_book_village : (Nat → Int32)) (v_t_book_mark : (Nat → Int32)) : Option (Int32 × (Nat → Int32)) := (if (f_X6_badWhen i1 i3) = (0 : Int32) then (if (f_X6_outside i2 (0 : Int32) (9 : Int32)) = (0 : Int32) then (if (f_X6_outside i4 (0 : Int32) (1 : Int32)) = (0 : Int32) then bd2 (f_X6_weigh i1 i3 v_t_shares s_t_book_villages v_t_book_village v_t_book_mark) (fun (r_7 : Int32) (o_8 : (Nat → Int32)) => (if r_7 = (0 : Int32) then some (((-3 : Int32), o_8)) else gd i2 10 (bd1 (f_X6_commonDivisor (o_8 i2.toNatClampNeg) r_7) (fun (r_12 : Int32) => (if (1 : Int32) ≤ r_12 then (if i4 = (0 : Int32) then gd i2 10 (gz r_12 (some ((((o_8 i2.toNatClampNeg) / r_12), o_8)))) else gz r_12 (some (((r_7 / r_12), o_8)))) else some (((-3 : Int32), o_8))))))) else some (((-1 : Int32), v_t_shares))) else some (((-1 : Int32), v_t_shares))) else some (((-1 : Int32), v_t_shares)))
abbrev rmX6_odds : Room := { frames := 6, cells := 0, slots := 0, locals := 141 }
set_option maxHeartbeats 400000 in
set_option maxRecDepth 100000 in
theorem c_X6_odds (l : Launch) (D : va_G) (cI cB cJ : ClassId) (a_t : Nat) (a_t_book : Nat) (a_t_kept : Nat) (a_t_told : Nat) (a_t_tape : Nat) (a_t_rows : Nat) (a_t_sheets : Nat) (a_t_shelves : Nat) (a_t_thing : Nat) (a_t_shares : Nat) (a_t_ahead : Nat) (a_t_book_village : Nat) (a_t_book_mark : Nat) (a_t_book_held : Nat) (sz : Nat) (s_t_isKept : Int32) (s_t_z : Int32) (s_t_keptZ : Int32) (s_t_book_heldCount : Int32) (s_t_book_villages : Int32) (v_t_shares : (Nat → Int32)) (v_t_book_village : (Nat → Int32)) (v_t_book_mark : (Nat → Int32)) (i1 : Int32) (i2 : Int32) (i3 : Int32) (i4 : Int32) (r : Int32) (o_v_t_shares : (Nat → Int32)) (hF : f_X6_odds i1 i2 i3 i4 v_t_shares s_t_book_villages v_t_book_village v_t_book_mark = some (r, o_v_t_shares)) : xMi l yX6_odds (.code yX6_odds cX6_odds 7 (some .int) :: xU) rmX6_odds (xK D cI cB cJ) D sz [.ref a_t, .int i1, .int i2, .int i3, .int i4] [(a_t, .inr (6, [.ref a_t_book, .ref a_t_kept, .ref a_t_told, .ref a_t_tape, .ref a_t_rows, .ref a_t_sheets, .ref a_t_shelves, .ref a_t_thing, .ref a_t_shares, .ref a_t_ahead, .int s_t_isKept, .int s_t_z, .int s_t_keptZ])), (a_t_shares, .inl (cI, 10, .inl v_t_shares)), (a_t_book, .inr (0, [.ref a_t_book_village, .ref a_t_book_mark, .ref a_t_book_held, .int s_t_book_heldCount, .int s_t_book_villages])), (a_t_book_village, .inl (cI, 24, .inl v_t_book_village)), (a_t_book_mark, .inl (cI, 24, .inl v_t_book_mark))] [(a_t, .inr (6, [.ref a_t_book, .ref a_t_kept, .ref a_t_told, .ref a_t_tape, .ref a_t_rows, .ref a_t_sheets, .ref a_t_shelves, .ref a_t_thing, .ref a_t_shares, .ref a_t_ahead, .int s_t_isKept, .int s_t_z, .int s_t_keptZ])), (a_t_shares, .inl (cI, 10, .inl o_v_t_shares)), (a_t_book, .inr (0, [.ref a_t_book_village, .ref a_t_book_mark, .ref a_t_book_held, .int s_t_book_heldCount, .int s_t_book_villages])), (a_t_book_village, .inl (cI, 24, .inl v_t_book_village)), (a_t_book_mark, .inl (cI, 24, .inl v_t_book_mark))] r := by
  refine xMi.mk (own := "FairNext") (by decide +kernel) rfl (Nat.le_of_ble_eq_true rfl) ?_
  intro p e s m args below meth c A Q ls H hfix hK hP hD hA hS hl hEnd
  obtain ⟨hx, hb, hml, hown, hts⟩ := id hfix
  have hl : lv_has ls 7 [(0, .ref a_t), (1, .int i1), (2, .int i2), (3, .int i3), (4, .int i4)] := hl
  rw [f_X6_odds] at hF
  refine lv_iload_n hx hb dX6_odds_0 rfl (lv_at hl 1 rfl) ?_
  refine lv_iload_n hx hb dX6_odds_1 rfl (lv_at hl 3 rfl) ?_
  refine xrz0 (xrunS (As := [.int i1, .int i3]) (rest := []) (c_X6_badWhen l D cI cB cJ _ i1 i3 (f_X6_badWhen i1 i3) rfl) hfix xw_502 ys_X6_badWhen ⟨rfl, rfl⟩ ⟨(Nat.le_of_ble_eq_true rfl), (Nat.le_of_ble_eq_true rfl)⟩ xKk_K (fun U hU hW => xK.warm hW hK) hP hD [] rfl rfl rfl hl.1 rfl (Nat.le_of_ble_eq_true rfl) dX6_odds_2 ⟨Nat.zero_le _, Nat.zero_le _⟩) hP hD hS hA [] rfl rfl (fun H locs hP hD hS hz_1 => ?_)
  refine lv_if_ne (tgt := 28) hx hb dX6_odds_5 (by decide) (fun c_2 => ?_) (fun c_2 => ?_)
  · replace hF := if_f c_2 hF
    refine lv_iconst (v := (-1 : Int32)) hx hb dX6_odds_28 (by decide) ?_
    obtain ⟨rfl, rfl⟩ := pj2 hF
    exact hEnd _ _ _ _ _ dX6_odds_29 hP hS rfl
  · replace hF := if_t c_2 hF
    refine lv_iload_n hx hb dX6_odds_8 rfl (lv_at hl 2 rfl) ?_
    refine lv_iconst (v := (0 : Int32)) hx hb dX6_odds_9 (by decide) ?_
    refine lv_bipush (v := (9 : Int32)) hx hb dX6_odds_10 (by decide) ?_
    refine xrz0 (xrunS (As := [.int i2, .int (0 : Int32), .int (9 : Int32)]) (rest := []) (c_X6_outside l D cI cB cJ _ i2 (0 : Int32) (9 : Int32) (f_X6_outside i2 (0 : Int32) (9 : Int32)) rfl) hfix xw_205 ys_X6_outside ⟨rfl, rfl⟩ ⟨(Nat.le_of_ble_eq_true rfl), (Nat.le_of_ble_eq_true rfl)⟩ xKk_K (fun U hU hW => xK.warm hW hK) hP hD [] rfl rfl rfl hl.1 rfl (Nat.le_of_ble_eq_true rfl) dX6_odds_12 ⟨Nat.zero_le _, Nat.zero_le _⟩) hP hD hS hA [] rfl rfl (fun H locs hP hD hS hz_3 => ?_)
    refine lv_if_ne (tgt := 28) hx hb dX6_odds_15 (by decide) (fun c_4 => ?_) (fun c_4 => ?_)
    · replace hF := if_f c_4 hF
      refine lv_iconst (v := (-1 : Int32)) hx hb dX6_odds_28 (by decide) ?_
      obtain ⟨rfl, rfl⟩ := pj2 hF
      exact hEnd _ _ _ _ _ dX6_odds_29 hP hS rfl
    · replace hF := if_t c_4 hF
      refine lv_iload hx hb dX6_odds_18 (lv_at hl 4 rfl) ?_
      refine lv_iconst (v := (0 : Int32)) hx hb dX6_odds_20 (by decide) ?_
      refine lv_iconst (v := (1 : Int32)) hx hb dX6_odds_21 (by decide) ?_
      refine xrz0 (xrunS (As := [.int i4, .int (0 : Int32), .int (1 : Int32)]) (rest := []) (c_X6_outside l D cI cB cJ _ i4 (0 : Int32) (1 : Int32) (f_X6_outside i4 (0 : Int32) (1 : Int32)) rfl) hfix xw_205 ys_X6_outside ⟨rfl, rfl⟩ ⟨(Nat.le_of_ble_eq_true rfl), (Nat.le_of_ble_eq_true rfl)⟩ xKk_K (fun U hU hW => xK.warm hW hK) hP hD [] rfl rfl rfl hl.1 rfl (Nat.le_of_ble_eq_true rfl) dX6_odds_22 ⟨Nat.zero_le _, Nat.zero_le _⟩) hP hD hS hA [] rfl rfl (fun H locs hP hD hS hz_5 => ?_)
      refine lv_if_eq (tgt := 30) hx hb dX6_odds_25 (by decide) (fun c_6 => ?_) (fun c_6 => ?_)
      · replace hF := if_t c_6 hF
        refine lv_aload_n hx hb dX6_odds_30 rfl (lv_at hl 0 rfl) ?_
        refine lv_iload_n hx hb dX6_odds_31 rfl (lv_at hl 1 rfl) ?_
        refine lv_iload_n hx hb dX6_odds_32 rfl (lv_at hl 3 rfl) ?_
        obtain ⟨r_7, o_8, hq_9, hF⟩ := bd2_e hF
        refine xri (xrunV (As := [.int i1, .int i3]) (rest := []) (c_X6_weigh l D cI cB cJ a_t a_t_book a_t_kept a_t_told a_t_tape a_t_rows a_t_sheets a_t_shelves a_t_thing a_t_shares a_t_ahead a_t_book_village a_t_book_mark a_t_book_held _ s_t_isKept s_t_z s_t_keptZ s_t_book_heldCount s_t_book_villages v_t_shares v_t_book_village v_t_book_mark i1 i3 r_7 o_8 hq_9) hfix xw_505 yv_X6_weigh ⟨rfl, rfl⟩ ⟨(Nat.le_of_ble_eq_true rfl), (Nat.le_of_ble_eq_true rfl)⟩ xKk_K (fun U hU hW => xK.warm hW hK) hK.1 hP hD [0, 1, 2, 3, 4] rfl rfl 0 6 rfl rfl rfl rfl hl.1 rfl (Nat.le_of_ble_eq_true rfl) dX6_odds_33 ⟨Nat.zero_le _, Nat.zero_le _⟩) hP hD hS hA [0, 1, 2, 3, 4] rfl rfl rfl (wn := [(a_t, .inr (6, [.ref a_t_book, .ref a_t_kept, .ref a_t_told, .ref a_t_tape, .ref a_t_rows, .ref a_t_sheets, .ref a_t_shelves, .ref a_t_thing, .ref a_t_shares, .ref a_t_ahead, .int s_t_isKept, .int s_t_z, .int s_t_keptZ])), (a_t_shares, .inl (cI, 10, .inl o_8)), (a_t_book, .inr (0, [.ref a_t_book_village, .ref a_t_book_mark, .ref a_t_book_held, .int s_t_book_heldCount, .int s_t_book_villages])), (a_t_book_village, .inl (cI, 24, .inl v_t_book_village)), (a_t_book_mark, .inl (cI, 24, .inl v_t_book_mark))]) rfl (fun H locs hP hD hS => ?_)
        refine lv_istore (lv' := [(5, .int r_7), (0, .ref a_t), (1, .int i1), (2, .int i2), (3, .int i3), (4, .int i4)]) hx hb dX6_odds_36 hl (by decide) rfl (fun ls hl => ?_)
        refine lv_iload hx hb dX6_odds_38 (lv_at hl 0 rfl) ?_
        refine lv_if_ne (tgt := 46) hx hb dX6_odds_40 (by decide) (fun c_10 => ?_) (fun c_10 => ?_)
        · replace hF := if_f c_10 hF
          refine lv_aload_n hx hb dX6_odds_46 rfl (lv_at hl 1 rfl) ?_
          refine xget (ci := 6) (C := RX6) (T := TX6) (N := 13) hfix xiX6 hK.1 hP 0 rfl rfl 8 (by decide) rfl xw_169 rfl dX6_odds_47 ?_
          refine lv_iload_n hx hb dX6_odds_50 rfl (lv_at hl 3 rfl) ?_
          obtain ⟨c_11, hF⟩ := gd_e hF
          refine va_iald hx hb hK.1 hP 1 0 rfl rfl c_11 dX6_odds_51 ?_
          refine lv_iload hx hb dX6_odds_52 (lv_at hl 0 rfl) ?_
          obtain ⟨r_12, hq_13, hF⟩ := bd1_e hF
          refine xri0 (xrunS (As := [.int (o_8 i2.toNatClampNeg), .int r_7]) (rest := []) (c_X6_commonDivisor l D cI cB cJ _ (o_8 i2.toNatClampNeg) r_7 r_12 hq_13) hfix xw_512 ys_X6_commonDivisor ⟨rfl, rfl⟩ ⟨(Nat.le_of_ble_eq_true rfl), (Nat.le_of_ble_eq_true rfl)⟩ xKk_K (fun U hU hW => xK.warm hW hK) hP hD [] rfl rfl rfl hl.1 rfl (Nat.le_of_ble_eq_true rfl) dX6_odds_54 ⟨Nat.zero_le _, Nat.zero_le _⟩) hP hD hS hA [] rfl rfl (fun H locs hP hD hS => ?_)
          refine lv_istore (lv' := [(6, .int r_12), (5, .int r_7), (0, .ref a_t), (1, .int i1), (2, .int i2), (3, .int i3), (4, .int i4)]) hx hb dX6_odds_57 hl (by decide) rfl (fun ls hl => ?_)
          refine lv_iload hx hb dX6_odds_59 (lv_at hl 0 rfl) ?_
          refine lv_iconst (v := (1 : Int32)) hx hb dX6_odds_61 (by decide) ?_
          refine lv_icmp_ge (tgt := 68) hx hb dX6_odds_62 (by decide) (fun c_14 => ?_) (fun c_14 => ?_)
          · replace hF := if_t c_14 hF
            refine lv_iload hx hb dX6_odds_68 (lv_at hl 6 rfl) ?_
            refine lv_if_ne (tgt := 82) hx hb dX6_odds_70 (by decide) (fun c_15 => ?_) (fun c_15 => ?_)
            · replace hF := if_f c_15 hF
              refine lv_iload hx hb dX6_odds_82 (lv_at hl 1 rfl) ?_
              refine lv_iload hx hb dX6_odds_84 (lv_at hl 0 rfl) ?_
              obtain ⟨c_16, hF⟩ := gz_e hF
              refine lv_idiv hx hb dX6_odds_86 c_16 ?_
              obtain ⟨rfl, rfl⟩ := pj2 hF
              exact hEnd _ _ _ _ _ dX6_odds_87 hP hS rfl
            · replace hF := if_t c_15 hF
              refine lv_aload_n hx hb dX6_odds_73 rfl (lv_at hl 2 rfl) ?_
              refine xget (ci := 6) (C := RX6) (T := TX6) (N := 13) hfix xiX6 hK.1 hP 0 rfl rfl 8 (by decide) rfl xw_169 rfl dX6_odds_74 ?_
              refine lv_iload_n hx hb dX6_odds_77 rfl (lv_at hl 4 rfl) ?_
              obtain ⟨c_17, hF⟩ := gd_e hF
              refine va_iald hx hb hK.1 hP 1 0 rfl rfl c_17 dX6_odds_78 ?_
              refine lv_goto (tgt := 84) hx hb dX6_odds_79 (by decide) ?_
              refine lv_iload hx hb dX6_odds_84 (lv_at hl 0 rfl) ?_
              obtain ⟨c_18, hF⟩ := gz_e hF
              refine lv_idiv hx hb dX6_odds_86 c_18 ?_
              obtain ⟨rfl, rfl⟩ := pj2 hF
              exact hEnd _ _ _ _ _ dX6_odds_87 hP hS rfl
          · replace hF := if_f c_14 hF
            refine lv_bipush (v := (-3 : Int32)) hx hb dX6_odds_65 (by decide) ?_
            obtain ⟨rfl, rfl⟩ := pj2 hF
            exact hEnd _ _ _ _ _ dX6_odds_67 hP hS rfl
        · replace hF := if_t c_10 hF
          refine lv_bipush (v := (-3 : Int32)) hx hb dX6_odds_43 (by decide) ?_
          obtain ⟨rfl, rfl⟩ := pj2 hF
          exact hEnd _ _ _ _ _ dX6_odds_45 hP hS rfl
      · replace hF := if_f c_6 hF
        refine lv_iconst (v := (-1 : Int32)) hx hb dX6_odds_28 (by decide) ?_
        obtain ⟨rfl, rfl⟩ := pj2 hF
        exact hEnd _ _ _ _ _ dX6_odds_29 hP hS rfl
def f_X6_bet_L27 (o_4 : (Nat → Int32)) : Nat → Int32 → Int32 → Option (Int32)
  | 0, _, _ => none
  | n + 1, x3_7, x4_8 => (if (10 : Int32) ≤ x4_8 then some (x3_7) else gd x4_8 10 (gd x3_7 10 ((if (o_4 x4_8.toNatClampNeg) ≤ (o_4 x3_7.toNatClampNeg) then f_X6_bet_L27 o_4 n x3_7 (x4_8 + (1 : Int32)) else f_X6_bet_L27 o_4 n x4_8 (x4_8 + (1 : Int32))))))
def f_X6_bet (i1 : Int32) (i2 : Int32) (v_t_shares : (Nat → Int32)) (s_t_book_villages : Int32) (v_t_book_village : (Nat → Int32)) (v_t_book_mark : (Nat → Int32)) : Option (Int32 × (Nat → Int32)) := (if (f_X6_badWhen i1 i2) = (0 : Int32) then bd2 (f_X6_weigh i1 i2 v_t_shares s_t_book_villages v_t_book_village v_t_book_mark) (fun (r_3 : Int32) (o_4 : (Nat → Int32)) => (if r_3 = (0 : Int32) then some (((-3 : Int32), o_4)) else bd1 (f_X6_bet_L27 o_4 1000 (0 : Int32) (1 : Int32)) (fun (y3_9 : Int32) => some ((y3_9, o_4))))) else some (((-1 : Int32), v_t_shares)))
abbrev rmX6_bet : Room := { frames := 6, cells := 0, slots := 0, locals := 141 }
set_option maxHeartbeats 400000 in
set_option maxRecDepth 100000 in
theorem c_X6_bet (l : Launch) (D : va_G) (cI cB cJ : ClassId) (a_t : Nat) (a_t_book : Nat) (a_t_kept : Nat) (a_t_told : Nat) (a_t_tape : Nat) (a_t_rows : Nat) (a_t_sheets : Nat) (a_t_shelves : Nat) (a_t_thing : Nat) (a_t_shares : Nat) (a_t_ahead : Nat) (a_t_book_village : Nat) (a_t_book_mark : Nat) (a_t_book_held : Nat) (sz : Nat) (s_t_isKept : Int32) (s_t_z : Int32) (s_t_keptZ : Int32) (s_t_book_heldCount : Int32) (s_t_book_villages : Int32) (v_t_shares : (Nat → Int32)) (v_t_book_village : (Nat → Int32)) (v_t_book_mark : (Nat → Int32)) (i1 : Int32) (i2 : Int32) (r : Int32) (o_v_t_shares : (Nat → Int32)) (hF : f_X6_bet i1 i2 v_t_shares s_t_book_villages v_t_book_village v_t_book_mark = some (r, o_v_t_shares)) : xMi l yX6_bet (.code yX6_bet cX6_bet 5 (some .int) :: xU) rmX6_bet (xK D cI cB cJ) D sz [.ref a_t, .int i1, .int i2] [(a_t, .inr (6, [.ref a_t_book, .ref a_t_kept, .ref a_t_told, .ref a_t_tape, .ref a_t_rows, .ref a_t_sheets, .ref a_t_shelves, .ref a_t_thing, .ref a_t_shares, .ref a_t_ahead, .int s_t_isKept, .int s_t_z, .int s_t_keptZ])), (a_t_shares, .inl (cI, 10, .inl v_t_shares)), (a_t_book, .inr (0, [.ref a_t_book_village, .ref a_t_book_mark, .ref a_t_book_held, .int s_t_book_heldCount, .int s_t_book_villages])), (a_t_book_village, .inl (cI, 24, .inl v_t_book_village)), (a_t_book_mark, .inl (cI, 24, .inl v_t_book_mark))] [(a_t, .inr (6, [.ref a_t_book, .ref a_t_kept, .ref a_t_told, .ref a_t_tape, .ref a_t_rows, .ref a_t_sheets, .ref a_t_shelves, .ref a_t_thing, .ref a_t_shares, .ref a_t_ahead, .int s_t_isKept, .int s_t_z, .int s_t_keptZ])), (a_t_shares, .inl (cI, 10, .inl o_v_t_shares)), (a_t_book, .inr (0, [.ref a_t_book_village, .ref a_t_book_mark, .ref a_t_book_held, .int s_t_book_heldCount, .int s_t_book_villages])), (a_t_book_village, .inl (cI, 24, .inl v_t_book_village)), (a_t_book_mark, .inl (cI, 24, .inl v_t_book_mark))] r := by
  refine xMi.mk (own := "FairNext") (by decide +kernel) rfl (Nat.le_of_ble_eq_true rfl) ?_
  intro p e s m args below meth c A Q ls H hfix hK hP hD hA hS hl hEnd
  obtain ⟨hx, hb, hml, hown, hts⟩ := id hfix
  have hl : lv_has ls 5 [(0, .ref a_t), (1, .int i1), (2, .int i2)] := hl
  rw [f_X6_bet] at hF
  refine lv_iload_n hx hb dX6_bet_0 rfl (lv_at hl 1 rfl) ?_
  refine lv_iload_n hx hb dX6_bet_1 rfl (lv_at hl 2 rfl) ?_
  refine xrz0 (xrunS (As := [.int i1, .int i2]) (rest := []) (c_X6_badWhen l D cI cB cJ _ i1 i2 (f_X6_badWhen i1 i2) rfl) hfix xw_502 ys_X6_badWhen ⟨rfl, rfl⟩ ⟨(Nat.le_of_ble_eq_true rfl), (Nat.le_of_ble_eq_true rfl)⟩ xKk_K (fun U hU hW => xK.warm hW hK) hP hD [] rfl rfl rfl hl.1 rfl (Nat.le_of_ble_eq_true rfl) dX6_bet_2 ⟨Nat.zero_le _, Nat.zero_le _⟩) hP hD hS hA [] rfl rfl (fun H locs hP hD hS hz_1 => ?_)
  refine lv_if_eq (tgt := 10) hx hb dX6_bet_5 (by decide) (fun c_2 => ?_) (fun c_2 => ?_)
  · replace hF := if_t c_2 hF
    refine lv_aload_n hx hb dX6_bet_10 rfl (lv_at hl 0 rfl) ?_
    refine lv_iload_n hx hb dX6_bet_11 rfl (lv_at hl 1 rfl) ?_
    refine lv_iload_n hx hb dX6_bet_12 rfl (lv_at hl 2 rfl) ?_
    obtain ⟨r_3, o_4, hq_5, hF⟩ := bd2_e hF
    refine xri (xrunV (As := [.int i1, .int i2]) (rest := []) (c_X6_weigh l D cI cB cJ a_t a_t_book a_t_kept a_t_told a_t_tape a_t_rows a_t_sheets a_t_shelves a_t_thing a_t_shares a_t_ahead a_t_book_village a_t_book_mark a_t_book_held _ s_t_isKept s_t_z s_t_keptZ s_t_book_heldCount s_t_book_villages v_t_shares v_t_book_village v_t_book_mark i1 i2 r_3 o_4 hq_5) hfix xw_505 yv_X6_weigh ⟨rfl, rfl⟩ ⟨(Nat.le_of_ble_eq_true rfl), (Nat.le_of_ble_eq_true rfl)⟩ xKk_K (fun U hU hW => xK.warm hW hK) hK.1 hP hD [0, 1, 2, 3, 4] rfl rfl 0 6 rfl rfl rfl rfl hl.1 rfl (Nat.le_of_ble_eq_true rfl) dX6_bet_13 ⟨Nat.zero_le _, Nat.zero_le _⟩) hP hD hS hA [0, 1, 2, 3, 4] rfl rfl rfl (wn := [(a_t, .inr (6, [.ref a_t_book, .ref a_t_kept, .ref a_t_told, .ref a_t_tape, .ref a_t_rows, .ref a_t_sheets, .ref a_t_shelves, .ref a_t_thing, .ref a_t_shares, .ref a_t_ahead, .int s_t_isKept, .int s_t_z, .int s_t_keptZ])), (a_t_shares, .inl (cI, 10, .inl o_4)), (a_t_book, .inr (0, [.ref a_t_book_village, .ref a_t_book_mark, .ref a_t_book_held, .int s_t_book_heldCount, .int s_t_book_villages])), (a_t_book_village, .inl (cI, 24, .inl v_t_book_village)), (a_t_book_mark, .inl (cI, 24, .inl v_t_book_mark))]) rfl (fun H locs hP hD hS => ?_)
    refine lv_if_ne (tgt := 22) hx hb dX6_bet_16 (by decide) (fun c_6 => ?_) (fun c_6 => ?_)
    · replace hF := if_f c_6 hF
      refine lv_iconst (v := (0 : Int32)) hx hb dX6_bet_22 (by decide) ?_
      refine lv_istore_n (lv' := [(3, .int (0 : Int32)), (0, .ref a_t), (1, .int i1), (2, .int i2)]) hx hb dX6_bet_23 rfl hl (by decide) rfl (fun ls hl => ?_)
      refine lv_iconst (v := (1 : Int32)) hx hb dX6_bet_24 (by decide) ?_
      refine lv_istore (lv' := [(4, .int (1 : Int32)), (3, .int (0 : Int32)), (0, .ref a_t), (1, .int i1), (2, .int i2)]) hx hb dX6_bet_25 hl (by decide) rfl (fun ls hl => ?_)
      have hL_27 : ∀ (n : Nat) (x3_7 : Int32) (x4_8 : Int32) (y3_9 : Int32), f_X6_bet_L27 o_4 n x3_7 x4_8 = some y3_9 → ∀ (H : Heap) (locs : List Loc) (ls : Array Slot), va_P D vwCl [(a_t, .inr (6, [.ref a_t_book, .ref a_t_kept, .ref a_t_told, .ref a_t_tape, .ref a_t_rows, .ref a_t_sheets, .ref a_t_shelves, .ref a_t_thing, .ref a_t_shares, .ref a_t_ahead, .int s_t_isKept, .int s_t_z, .int s_t_keptZ])), (a_t_shares, .inl (cI, 10, .inl o_4)), (a_t_book, .inr (0, [.ref a_t_book_village, .ref a_t_book_mark, .ref a_t_book_held, .int s_t_book_heldCount, .int s_t_book_villages])), (a_t_book_village, .inl (cI, 24, .inl v_t_book_village)), (a_t_book_mark, .inl (cI, 24, .inl v_t_book_mark))] H → va_D A [(a_t, .inr (6, [.ref a_t_book, .ref a_t_kept, .ref a_t_told, .ref a_t_tape, .ref a_t_rows, .ref a_t_sheets, .ref a_t_shelves, .ref a_t_thing, .ref a_t_shares, .ref a_t_ahead, .int s_t_isKept, .int s_t_z, .int s_t_keptZ])), (a_t_shares, .inl (cI, 10, .inl o_4)), (a_t_book, .inr (0, [.ref a_t_book_village, .ref a_t_book_mark, .ref a_t_book_held, .int s_t_book_heldCount, .int s_t_book_villages])), (a_t_book_village, .inl (cI, 24, .inl v_t_book_village)), (a_t_book_mark, .inl (cI, 24, .inl v_t_book_mark))] → va_S A s.heap H locs → lv_has ls 5 [(0, .ref a_t), (3, .int x3_7), (4, .int x4_8)] → (∀ (H : Heap) (locs : List Loc) (ls : Array Slot), va_P D vwCl [(a_t, .inr (6, [.ref a_t_book, .ref a_t_kept, .ref a_t_told, .ref a_t_tape, .ref a_t_rows, .ref a_t_sheets, .ref a_t_shelves, .ref a_t_thing, .ref a_t_shares, .ref a_t_ahead, .int s_t_isKept, .int s_t_z, .int s_t_keptZ])), (a_t_shares, .inl (cI, 10, .inl o_4)), (a_t_book, .inr (0, [.ref a_t_book_village, .ref a_t_book_mark, .ref a_t_book_held, .int s_t_book_heldCount, .int s_t_book_villages])), (a_t_book_village, .inl (cI, 24, .inl v_t_book_village)), (a_t_book_mark, .inl (cI, 24, .inl v_t_book_mark))] H → va_D A [(a_t, .inr (6, [.ref a_t_book, .ref a_t_kept, .ref a_t_told, .ref a_t_tape, .ref a_t_rows, .ref a_t_sheets, .ref a_t_shelves, .ref a_t_thing, .ref a_t_shares, .ref a_t_ahead, .int s_t_isKept, .int s_t_z, .int s_t_keptZ])), (a_t_shares, .inl (cI, 10, .inl o_4)), (a_t_book, .inr (0, [.ref a_t_book_village, .ref a_t_book_mark, .ref a_t_book_held, .int s_t_book_heldCount, .int s_t_book_villages])), (a_t_book_village, .inl (cI, 24, .inl v_t_book_village)), (a_t_book_mark, .inl (cI, 24, .inl v_t_book_mark))] → va_S A s.heap H locs → lv_has ls 5 [(3, .int y3_9)] → W p l e rmX6_bet s m args below meth c H locs 0 0 Q (F0 m 59 ls [])) → W p l e rmX6_bet s m args below meth c H locs 0 0 Q (F0 m 27 ls []) := by
        intro n
        induction n with
        | zero => intro x3_7 x4_8 y3_9 hF; exact (no_some hF).elim
        | succ n ih =>
          intro x3_7 x4_8 y3_9 hF H locs ls hP hD hS hl kexit
          rw [f_X6_bet_L27] at hF
          refine lv_iload hx hb dX6_bet_27 (lv_at hl 2 rfl) ?_
          refine lv_bipush (v := (10 : Int32)) hx hb dX6_bet_29 (by decide) ?_
          refine lv_icmp_ge (tgt := 59) hx hb dX6_bet_31 (by decide) (fun c_10 => ?_) (fun c_10 => ?_)
          · replace hF := if_t c_10 hF
            obtain rfl := Option.some.inj hF
            exact kexit _ _ _ hP hD hS (lv_sub hl [1] rfl)
          · replace hF := if_f c_10 hF
            refine lv_aload_n hx hb dX6_bet_34 rfl (lv_at hl 0 rfl) ?_
            refine xget (ci := 6) (C := RX6) (T := TX6) (N := 13) hfix xiX6 hK.1 hP 0 rfl rfl 8 (by decide) rfl xw_169 rfl dX6_bet_35 ?_
            refine lv_iload hx hb dX6_bet_38 (lv_at hl 2 rfl) ?_
            obtain ⟨c_11, hF⟩ := gd_e hF
            refine va_iald hx hb hK.1 hP 1 0 rfl rfl c_11 dX6_bet_40 ?_
            refine lv_aload_n hx hb dX6_bet_41 rfl (lv_at hl 0 rfl) ?_
            refine xget (ci := 6) (C := RX6) (T := TX6) (N := 13) hfix xiX6 hK.1 hP 0 rfl rfl 8 (by decide) rfl xw_169 rfl dX6_bet_42 ?_
            refine lv_iload_n hx hb dX6_bet_45 rfl (lv_at hl 1 rfl) ?_
            obtain ⟨c_12, hF⟩ := gd_e hF
            refine va_iald hx hb hK.1 hP 1 0 rfl rfl c_12 dX6_bet_46 ?_
            refine lv_icmp_le (tgt := 53) hx hb dX6_bet_47 (by decide) (fun c_13 => ?_) (fun c_13 => ?_)
            · replace hF := if_t c_13 hF
              refine lv_iinc (v := (x4_8 + (1 : Int32))) (lv' := [(4, .int (x4_8 + (1 : Int32))), (0, .ref a_t), (3, .int x3_7)]) hx hb dX6_bet_53 hl (k := 2) rfl rfl (by decide) rfl (fun ls hl => ?_)
              refine lv_goto (tgt := 27) hx hb dX6_bet_56 (by decide) ?_
              exact ih _ _ _ hF _ _ _ hP hD hS (lv_sub hl [1, 2, 0] rfl) kexit
            · replace hF := if_f c_13 hF
              refine lv_iload hx hb dX6_bet_50 (lv_at hl 2 rfl) ?_
              refine lv_istore_n (lv' := [(3, .int x4_8), (0, .ref a_t), (4, .int x4_8)]) hx hb dX6_bet_52 rfl hl (by decide) rfl (fun ls hl => ?_)
              refine lv_iinc (v := (x4_8 + (1 : Int32))) (lv' := [(4, .int (x4_8 + (1 : Int32))), (3, .int x4_8), (0, .ref a_t)]) hx hb dX6_bet_53 hl (k := 2) rfl rfl (by decide) rfl (fun ls hl => ?_)
              refine lv_goto (tgt := 27) hx hb dX6_bet_56 (by decide) ?_
              exact ih _ _ _ hF _ _ _ hP hD hS (lv_sub hl [2, 1, 0] rfl) kexit
      obtain ⟨y3_9, hq, hF⟩ := bd1_e hF
      refine hL_27 _ _ _ _ hq _ _ _ hP hD hS (lv_sub hl [2, 1, 0] rfl) (fun H locs ls hP hD hS hl => ?_)
      refine lv_iload_n hx hb dX6_bet_59 rfl (lv_at hl 0 rfl) ?_
      obtain ⟨rfl, rfl⟩ := pj2 hF
      exact hEnd _ _ _ _ _ dX6_bet_60 hP hS rfl
    · replace hF := if_t c_6 hF
      refine lv_bipush (v := (-3 : Int32)) hx hb dX6_bet_19 (by decide) ?_
      obtain ⟨rfl, rfl⟩ := pj2 hF
      exact hEnd _ _ _ _ _ dX6_bet_21 hP hS rfl
  · replace hF := if_f c_2 hF
    refine lv_iconst (v := (-1 : Int32)) hx hb dX6_bet_8 (by decide) ?_
    obtain ⟨rfl, rfl⟩ := pj2 hF
    exact hEnd _ _ _ _ _ dX6_bet_9 hP hS rfl
def f_X6_hard_L27 (s_t_book_villages : Int32) (o_4 : (Nat → Int32)) : Nat → Int32 → Int32 → Option (Int32)
  | 0, _, _ => none
  | n + 1, x3_7, x4_8 => (if (10 : Int32) ≤ x4_8 then some (x3_7) else (if s_t_book_villages ≤ x4_8 then some (x3_7) else gd x4_8 10 (gd x3_7 10 ((if (o_4 x3_7.toNatClampNeg) ≤ (o_4 x4_8.toNatClampNeg) then f_X6_hard_L27 s_t_book_villages o_4 n x3_7 (x4_8 + (1 : Int32)) else f_X6_hard_L27 s_t_book_villages o_4 n x4_8 (x4_8 + (1 : Int32)))))))
def f_X6_hard (i1 : Int32) (i2 : Int32) (v_t_shares : (Nat → Int32)) (s_t_book_villages : Int32) (v_t_book_village : (Nat → Int32)) (v_t_book_mark : (Nat → Int32)) : Option (Int32 × (Nat → Int32)) := (if (f_X6_badWhen i1 i2) = (0 : Int32) then bd2 (f_X6_weigh i1 i2 v_t_shares s_t_book_villages v_t_book_village v_t_book_mark) (fun (r_3 : Int32) (o_4 : (Nat → Int32)) => (if r_3 = (0 : Int32) then some (((-3 : Int32), o_4)) else bd1 (f_X6_hard_L27 s_t_book_villages o_4 1000 (0 : Int32) (1 : Int32)) (fun (y3_9 : Int32) => some ((y3_9, o_4))))) else some (((-1 : Int32), v_t_shares)))
abbrev rmX6_hard : Room := { frames := 6, cells := 0, slots := 0, locals := 141 }
set_option maxHeartbeats 400000 in
set_option maxRecDepth 100000 in
theorem c_X6_hard (l : Launch) (D : va_G) (cI cB cJ : ClassId) (a_t : Nat) (a_t_book : Nat) (a_t_kept : Nat) (a_t_told : Nat) (a_t_tape : Nat) (a_t_rows : Nat) (a_t_sheets : Nat) (a_t_shelves : Nat) (a_t_thing : Nat) (a_t_shares : Nat) (a_t_ahead : Nat) (a_t_book_village : Nat) (a_t_book_mark : Nat) (a_t_book_held : Nat) (sz : Nat) (s_t_isKept : Int32) (s_t_z : Int32) (s_t_keptZ : Int32) (s_t_book_heldCount : Int32) (s_t_book_villages : Int32) (v_t_shares : (Nat → Int32)) (v_t_book_village : (Nat → Int32)) (v_t_book_mark : (Nat → Int32)) (i1 : Int32) (i2 : Int32) (r : Int32) (o_v_t_shares : (Nat → Int32)) (hF : f_X6_hard i1 i2 v_t_shares s_t_book_villages v_t_book_village v_t_book_mark = some (r, o_v_t_shares)) : xMi l yX6_hard (.code yX6_hard cX6_hard 5 (some .int) :: xU) rmX6_hard (xK D cI cB cJ) D sz [.ref a_t, .int i1, .int i2] [(a_t, .inr (6, [.ref a_t_book, .ref a_t_kept, .ref a_t_told, .ref a_t_tape, .ref a_t_rows, .ref a_t_sheets, .ref a_t_shelves, .ref a_t_thing, .ref a_t_shares, .ref a_t_ahead, .int s_t_isKept, .int s_t_z, .int s_t_keptZ])), (a_t_shares, .inl (cI, 10, .inl v_t_shares)), (a_t_book, .inr (0, [.ref a_t_book_village, .ref a_t_book_mark, .ref a_t_book_held, .int s_t_book_heldCount, .int s_t_book_villages])), (a_t_book_village, .inl (cI, 24, .inl v_t_book_village)), (a_t_book_mark, .inl (cI, 24, .inl v_t_book_mark))] [(a_t, .inr (6, [.ref a_t_book, .ref a_t_kept, .ref a_t_told, .ref a_t_tape, .ref a_t_rows, .ref a_t_sheets, .ref a_t_shelves, .ref a_t_thing, .ref a_t_shares, .ref a_t_ahead, .int s_t_isKept, .int s_t_z, .int s_t_keptZ])), (a_t_shares, .inl (cI, 10, .inl o_v_t_shares)), (a_t_book, .inr (0, [.ref a_t_book_village, .ref a_t_book_mark, .ref a_t_book_held, .int s_t_book_heldCount, .int s_t_book_villages])), (a_t_book_village, .inl (cI, 24, .inl v_t_book_village)), (a_t_book_mark, .inl (cI, 24, .inl v_t_book_mark))] r := by
  refine xMi.mk (own := "FairNext") (by decide +kernel) rfl (Nat.le_of_ble_eq_true rfl) ?_
  intro p e s m args below meth c A Q ls H hfix hK hP hD hA hS hl hEnd
  obtain ⟨hx, hb, hml, hown, hts⟩ := id hfix
  have hl : lv_has ls 5 [(0, .ref a_t), (1, .int i1), (2, .int i2)] := hl
  rw [f_X6_hard] at hF
  refine lv_iload_n hx hb dX6_hard_0 rfl (lv_at hl 1 rfl) ?_
  refine lv_iload_n hx hb dX6_hard_1 rfl (lv_at hl 2 rfl) ?_
  refine xrz0 (xrunS (As := [.int i1, .int i2]) (rest := []) (c_X6_badWhen l D cI cB cJ _ i1 i2 (f_X6_badWhen i1 i2) rfl) hfix xw_502 ys_X6_badWhen ⟨rfl, rfl⟩ ⟨(Nat.le_of_ble_eq_true rfl), (Nat.le_of_ble_eq_true rfl)⟩ xKk_K (fun U hU hW => xK.warm hW hK) hP hD [] rfl rfl rfl hl.1 rfl (Nat.le_of_ble_eq_true rfl) dX6_hard_2 ⟨Nat.zero_le _, Nat.zero_le _⟩) hP hD hS hA [] rfl rfl (fun H locs hP hD hS hz_1 => ?_)
  refine lv_if_eq (tgt := 10) hx hb dX6_hard_5 (by decide) (fun c_2 => ?_) (fun c_2 => ?_)
  · replace hF := if_t c_2 hF
    refine lv_aload_n hx hb dX6_hard_10 rfl (lv_at hl 0 rfl) ?_
    refine lv_iload_n hx hb dX6_hard_11 rfl (lv_at hl 1 rfl) ?_
    refine lv_iload_n hx hb dX6_hard_12 rfl (lv_at hl 2 rfl) ?_
    obtain ⟨r_3, o_4, hq_5, hF⟩ := bd2_e hF
    refine xri (xrunV (As := [.int i1, .int i2]) (rest := []) (c_X6_weigh l D cI cB cJ a_t a_t_book a_t_kept a_t_told a_t_tape a_t_rows a_t_sheets a_t_shelves a_t_thing a_t_shares a_t_ahead a_t_book_village a_t_book_mark a_t_book_held _ s_t_isKept s_t_z s_t_keptZ s_t_book_heldCount s_t_book_villages v_t_shares v_t_book_village v_t_book_mark i1 i2 r_3 o_4 hq_5) hfix xw_505 yv_X6_weigh ⟨rfl, rfl⟩ ⟨(Nat.le_of_ble_eq_true rfl), (Nat.le_of_ble_eq_true rfl)⟩ xKk_K (fun U hU hW => xK.warm hW hK) hK.1 hP hD [0, 1, 2, 3, 4] rfl rfl 0 6 rfl rfl rfl rfl hl.1 rfl (Nat.le_of_ble_eq_true rfl) dX6_hard_13 ⟨Nat.zero_le _, Nat.zero_le _⟩) hP hD hS hA [0, 1, 2, 3, 4] rfl rfl rfl (wn := [(a_t, .inr (6, [.ref a_t_book, .ref a_t_kept, .ref a_t_told, .ref a_t_tape, .ref a_t_rows, .ref a_t_sheets, .ref a_t_shelves, .ref a_t_thing, .ref a_t_shares, .ref a_t_ahead, .int s_t_isKept, .int s_t_z, .int s_t_keptZ])), (a_t_shares, .inl (cI, 10, .inl o_4)), (a_t_book, .inr (0, [.ref a_t_book_village, .ref a_t_book_mark, .ref a_t_book_held, .int s_t_book_heldCount, .int s_t_book_villages])), (a_t_book_village, .inl (cI, 24, .inl v_t_book_village)), (a_t_book_mark, .inl (cI, 24, .inl v_t_book_mark))]) rfl (fun H locs hP hD hS => ?_)
    refine lv_if_ne (tgt := 22) hx hb dX6_hard_16 (by decide) (fun c_6 => ?_) (fun c_6 => ?_)
    · replace hF := if_f c_6 hF
      refine lv_iconst (v := (0 : Int32)) hx hb dX6_hard_22 (by decide) ?_
      refine lv_istore_n (lv' := [(3, .int (0 : Int32)), (0, .ref a_t), (1, .int i1), (2, .int i2)]) hx hb dX6_hard_23 rfl hl (by decide) rfl (fun ls hl => ?_)
      refine lv_iconst (v := (1 : Int32)) hx hb dX6_hard_24 (by decide) ?_
      refine lv_istore (lv' := [(4, .int (1 : Int32)), (3, .int (0 : Int32)), (0, .ref a_t), (1, .int i1), (2, .int i2)]) hx hb dX6_hard_25 hl (by decide) rfl (fun ls hl => ?_)
      have hL_27 : ∀ (n : Nat) (x3_7 : Int32) (x4_8 : Int32) (y3_9 : Int32), f_X6_hard_L27 s_t_book_villages o_4 n x3_7 x4_8 = some y3_9 → ∀ (H : Heap) (locs : List Loc) (ls : Array Slot), va_P D vwCl [(a_t, .inr (6, [.ref a_t_book, .ref a_t_kept, .ref a_t_told, .ref a_t_tape, .ref a_t_rows, .ref a_t_sheets, .ref a_t_shelves, .ref a_t_thing, .ref a_t_shares, .ref a_t_ahead, .int s_t_isKept, .int s_t_z, .int s_t_keptZ])), (a_t_shares, .inl (cI, 10, .inl o_4)), (a_t_book, .inr (0, [.ref a_t_book_village, .ref a_t_book_mark, .ref a_t_book_held, .int s_t_book_heldCount, .int s_t_book_villages])), (a_t_book_village, .inl (cI, 24, .inl v_t_book_village)), (a_t_book_mark, .inl (cI, 24, .inl v_t_book_mark))] H → va_D A [(a_t, .inr (6, [.ref a_t_book, .ref a_t_kept, .ref a_t_told, .ref a_t_tape, .ref a_t_rows, .ref a_t_sheets, .ref a_t_shelves, .ref a_t_thing, .ref a_t_shares, .ref a_t_ahead, .int s_t_isKept, .int s_t_z, .int s_t_keptZ])), (a_t_shares, .inl (cI, 10, .inl o_4)), (a_t_book, .inr (0, [.ref a_t_book_village, .ref a_t_book_mark, .ref a_t_book_held, .int s_t_book_heldCount, .int s_t_book_villages])), (a_t_book_village, .inl (cI, 24, .inl v_t_book_village)), (a_t_book_mark, .inl (cI, 24, .inl v_t_book_mark))] → va_S A s.heap H locs → lv_has ls 5 [(0, .ref a_t), (3, .int x3_7), (4, .int x4_8)] → (∀ (H : Heap) (locs : List Loc) (ls : Array Slot), va_P D vwCl [(a_t, .inr (6, [.ref a_t_book, .ref a_t_kept, .ref a_t_told, .ref a_t_tape, .ref a_t_rows, .ref a_t_sheets, .ref a_t_shelves, .ref a_t_thing, .ref a_t_shares, .ref a_t_ahead, .int s_t_isKept, .int s_t_z, .int s_t_keptZ])), (a_t_shares, .inl (cI, 10, .inl o_4)), (a_t_book, .inr (0, [.ref a_t_book_village, .ref a_t_book_mark, .ref a_t_book_held, .int s_t_book_heldCount, .int s_t_book_villages])), (a_t_book_village, .inl (cI, 24, .inl v_t_book_village)), (a_t_book_mark, .inl (cI, 24, .inl v_t_book_mark))] H → va_D A [(a_t, .inr (6, [.ref a_t_book, .ref a_t_kept, .ref a_t_told, .ref a_t_tape, .ref a_t_rows, .ref a_t_sheets, .ref a_t_shelves, .ref a_t_thing, .ref a_t_shares, .ref a_t_ahead, .int s_t_isKept, .int s_t_z, .int s_t_keptZ])), (a_t_shares, .inl (cI, 10, .inl o_4)), (a_t_book, .inr (0, [.ref a_t_book_village, .ref a_t_book_mark, .ref a_t_book_held, .int s_t_book_heldCount, .int s_t_book_villages])), (a_t_book_village, .inl (cI, 24, .inl v_t_book_village)), (a_t_book_mark, .inl (cI, 24, .inl v_t_book_mark))] → va_S A s.heap H locs → lv_has ls 5 [(3, .int y3_9)] → W p l e rmX6_hard s m args below meth c H locs 0 0 Q (F0 m 71 ls [])) → W p l e rmX6_hard s m args below meth c H locs 0 0 Q (F0 m 27 ls []) := by
        intro n
        induction n with
        | zero => intro x3_7 x4_8 y3_9 hF; exact (no_some hF).elim
        | succ n ih =>
          intro x3_7 x4_8 y3_9 hF H locs ls hP hD hS hl kexit
          rw [f_X6_hard_L27] at hF
          refine lv_iload hx hb dX6_hard_27 (lv_at hl 2 rfl) ?_
          refine lv_bipush (v := (10 : Int32)) hx hb dX6_hard_29 (by decide) ?_
          refine lv_icmp_ge (tgt := 71) hx hb dX6_hard_31 (by decide) (fun c_10 => ?_) (fun c_10 => ?_)
          · replace hF := if_t c_10 hF
            obtain rfl := Option.some.inj hF
            exact kexit _ _ _ hP hD hS (lv_sub hl [1] rfl)
          · replace hF := if_f c_10 hF
            refine lv_iload hx hb dX6_hard_34 (lv_at hl 2 rfl) ?_
            refine lv_aload_n hx hb dX6_hard_36 rfl (lv_at hl 0 rfl) ?_
            refine xget (ci := 6) (C := RX6) (T := TX6) (N := 13) hfix xiX6 hK.1 hP 0 rfl rfl 0 (by decide) rfl xw_161 rfl dX6_hard_37 ?_
            refine xget (ci := 0) (C := RX0) (T := TX0) (N := 5) hfix xiX0 hK.1 hP 2 rfl rfl 4 (by decide) rfl xw_46 rfl dX6_hard_40 ?_
            refine lv_icmp_ge (tgt := 71) hx hb dX6_hard_43 (by decide) (fun c_11 => ?_) (fun c_11 => ?_)
            · replace hF := if_t c_11 hF
              obtain rfl := Option.some.inj hF
              exact kexit _ _ _ hP hD hS (lv_sub hl [1] rfl)
            · replace hF := if_f c_11 hF
              refine lv_aload_n hx hb dX6_hard_46 rfl (lv_at hl 0 rfl) ?_
              refine xget (ci := 6) (C := RX6) (T := TX6) (N := 13) hfix xiX6 hK.1 hP 0 rfl rfl 8 (by decide) rfl xw_169 rfl dX6_hard_47 ?_
              refine lv_iload hx hb dX6_hard_50 (lv_at hl 2 rfl) ?_
              obtain ⟨c_12, hF⟩ := gd_e hF
              refine va_iald hx hb hK.1 hP 1 0 rfl rfl c_12 dX6_hard_52 ?_
              refine lv_aload_n hx hb dX6_hard_53 rfl (lv_at hl 0 rfl) ?_
              refine xget (ci := 6) (C := RX6) (T := TX6) (N := 13) hfix xiX6 hK.1 hP 0 rfl rfl 8 (by decide) rfl xw_169 rfl dX6_hard_54 ?_
              refine lv_iload_n hx hb dX6_hard_57 rfl (lv_at hl 1 rfl) ?_
              obtain ⟨c_13, hF⟩ := gd_e hF
              refine va_iald hx hb hK.1 hP 1 0 rfl rfl c_13 dX6_hard_58 ?_
              refine lv_icmp_ge (tgt := 65) hx hb dX6_hard_59 (by decide) (fun c_14 => ?_) (fun c_14 => ?_)
              · replace hF := if_t c_14 hF
                refine lv_iinc (v := (x4_8 + (1 : Int32))) (lv' := [(4, .int (x4_8 + (1 : Int32))), (0, .ref a_t), (3, .int x3_7)]) hx hb dX6_hard_65 hl (k := 2) rfl rfl (by decide) rfl (fun ls hl => ?_)
                refine lv_goto (tgt := 27) hx hb dX6_hard_68 (by decide) ?_
                exact ih _ _ _ hF _ _ _ hP hD hS (lv_sub hl [1, 2, 0] rfl) kexit
              · replace hF := if_f c_14 hF
                refine lv_iload hx hb dX6_hard_62 (lv_at hl 2 rfl) ?_
                refine lv_istore_n (lv' := [(3, .int x4_8), (0, .ref a_t), (4, .int x4_8)]) hx hb dX6_hard_64 rfl hl (by decide) rfl (fun ls hl => ?_)
                refine lv_iinc (v := (x4_8 + (1 : Int32))) (lv' := [(4, .int (x4_8 + (1 : Int32))), (3, .int x4_8), (0, .ref a_t)]) hx hb dX6_hard_65 hl (k := 2) rfl rfl (by decide) rfl (fun ls hl => ?_)
                refine lv_goto (tgt := 27) hx hb dX6_hard_68 (by decide) ?_
                exact ih _ _ _ hF _ _ _ hP hD hS (lv_sub hl [2, 1, 0] rfl) kexit
      obtain ⟨y3_9, hq, hF⟩ := bd1_e hF
      refine hL_27 _ _ _ _ hq _ _ _ hP hD hS (lv_sub hl [2, 1, 0] rfl) (fun H locs ls hP hD hS hl => ?_)
      refine lv_iload_n hx hb dX6_hard_71 rfl (lv_at hl 0 rfl) ?_
      obtain ⟨rfl, rfl⟩ := pj2 hF
      exact hEnd _ _ _ _ _ dX6_hard_72 hP hS rfl
    · replace hF := if_t c_6 hF
      refine lv_bipush (v := (-3 : Int32)) hx hb dX6_hard_19 (by decide) ?_
      obtain ⟨rfl, rfl⟩ := pj2 hF
      exact hEnd _ _ _ _ _ dX6_hard_21 hP hS rfl
  · replace hF := if_f c_2 hF
    refine lv_iconst (v := (-1 : Int32)) hx hb dX6_hard_8 (by decide) ?_
    obtain ⟨rfl, rfl⟩ := pj2 hF
    exact hEnd _ _ _ _ _ dX6_hard_9 hP hS rfl
def f_X6_sure_L27 (o_4 : (Nat → Int32)) (r_3 : Int32) : Nat → Int32 → Option ((Unit) ⊕ (Int32 × (Nat → Int32)))
  | 0, _ => none
  | n + 1, x4_7 => (if (10 : Int32) ≤ x4_7 then some (.inl ()) else gd x4_7 10 ((if (o_4 x4_7.toNatClampNeg) = r_3 then some (.inr (x4_7, o_4)) else f_X6_sure_L27 o_4 r_3 n (x4_7 + (1 : Int32)))))
def f_X6_sure (i1 : Int32) (i2 : Int32) (v_t_shares : (Nat → Int32)) (s_t_book_villages : Int32) (v_t_book_village : (Nat → Int32)) (v_t_book_mark : (Nat → Int32)) : Option (Int32 × (Nat → Int32)) := (if (f_X6_badWhen i1 i2) = (0 : Int32) then bd2 (f_X6_weigh i1 i2 v_t_shares s_t_book_villages v_t_book_village v_t_book_mark) (fun (r_3 : Int32) (o_4 : (Nat → Int32)) => (if r_3 = (0 : Int32) then some (((-3 : Int32), o_4)) else bs0 (f_X6_sure_L27 o_4 r_3 1000 (0 : Int32)) (some (((-3 : Int32), o_4))) (fun q => some (q)))) else some (((-1 : Int32), v_t_shares)))
abbrev rmX6_sure : Room := { frames := 6, cells := 0, slots := 0, locals := 141 }
set_option maxHeartbeats 400000 in
set_option maxRecDepth 100000 in
theorem c_X6_sure (l : Launch) (D : va_G) (cI cB cJ : ClassId) (a_t : Nat) (a_t_book : Nat) (a_t_kept : Nat) (a_t_told : Nat) (a_t_tape : Nat) (a_t_rows : Nat) (a_t_sheets : Nat) (a_t_shelves : Nat) (a_t_thing : Nat) (a_t_shares : Nat) (a_t_ahead : Nat) (a_t_book_village : Nat) (a_t_book_mark : Nat) (a_t_book_held : Nat) (sz : Nat) (s_t_isKept : Int32) (s_t_z : Int32) (s_t_keptZ : Int32) (s_t_book_heldCount : Int32) (s_t_book_villages : Int32) (v_t_shares : (Nat → Int32)) (v_t_book_village : (Nat → Int32)) (v_t_book_mark : (Nat → Int32)) (i1 : Int32) (i2 : Int32) (r : Int32) (o_v_t_shares : (Nat → Int32)) (hF : f_X6_sure i1 i2 v_t_shares s_t_book_villages v_t_book_village v_t_book_mark = some (r, o_v_t_shares)) : xMi l yX6_sure (.code yX6_sure cX6_sure 5 (some .int) :: xU) rmX6_sure (xK D cI cB cJ) D sz [.ref a_t, .int i1, .int i2] [(a_t, .inr (6, [.ref a_t_book, .ref a_t_kept, .ref a_t_told, .ref a_t_tape, .ref a_t_rows, .ref a_t_sheets, .ref a_t_shelves, .ref a_t_thing, .ref a_t_shares, .ref a_t_ahead, .int s_t_isKept, .int s_t_z, .int s_t_keptZ])), (a_t_shares, .inl (cI, 10, .inl v_t_shares)), (a_t_book, .inr (0, [.ref a_t_book_village, .ref a_t_book_mark, .ref a_t_book_held, .int s_t_book_heldCount, .int s_t_book_villages])), (a_t_book_village, .inl (cI, 24, .inl v_t_book_village)), (a_t_book_mark, .inl (cI, 24, .inl v_t_book_mark))] [(a_t, .inr (6, [.ref a_t_book, .ref a_t_kept, .ref a_t_told, .ref a_t_tape, .ref a_t_rows, .ref a_t_sheets, .ref a_t_shelves, .ref a_t_thing, .ref a_t_shares, .ref a_t_ahead, .int s_t_isKept, .int s_t_z, .int s_t_keptZ])), (a_t_shares, .inl (cI, 10, .inl o_v_t_shares)), (a_t_book, .inr (0, [.ref a_t_book_village, .ref a_t_book_mark, .ref a_t_book_held, .int s_t_book_heldCount, .int s_t_book_villages])), (a_t_book_village, .inl (cI, 24, .inl v_t_book_village)), (a_t_book_mark, .inl (cI, 24, .inl v_t_book_mark))] r := by
  refine xMi.mk (own := "FairNext") (by decide +kernel) rfl (Nat.le_of_ble_eq_true rfl) ?_
  intro p e s m args below meth c A Q ls H hfix hK hP hD hA hS hl hEnd
  obtain ⟨hx, hb, hml, hown, hts⟩ := id hfix
  have hl : lv_has ls 5 [(0, .ref a_t), (1, .int i1), (2, .int i2)] := hl
  rw [f_X6_sure] at hF
  refine lv_iload_n hx hb dX6_sure_0 rfl (lv_at hl 1 rfl) ?_
  refine lv_iload_n hx hb dX6_sure_1 rfl (lv_at hl 2 rfl) ?_
  refine xrz0 (xrunS (As := [.int i1, .int i2]) (rest := []) (c_X6_badWhen l D cI cB cJ _ i1 i2 (f_X6_badWhen i1 i2) rfl) hfix xw_502 ys_X6_badWhen ⟨rfl, rfl⟩ ⟨(Nat.le_of_ble_eq_true rfl), (Nat.le_of_ble_eq_true rfl)⟩ xKk_K (fun U hU hW => xK.warm hW hK) hP hD [] rfl rfl rfl hl.1 rfl (Nat.le_of_ble_eq_true rfl) dX6_sure_2 ⟨Nat.zero_le _, Nat.zero_le _⟩) hP hD hS hA [] rfl rfl (fun H locs hP hD hS hz_1 => ?_)
  refine lv_if_eq (tgt := 10) hx hb dX6_sure_5 (by decide) (fun c_2 => ?_) (fun c_2 => ?_)
  · replace hF := if_t c_2 hF
    refine lv_aload_n hx hb dX6_sure_10 rfl (lv_at hl 0 rfl) ?_
    refine lv_iload_n hx hb dX6_sure_11 rfl (lv_at hl 1 rfl) ?_
    refine lv_iload_n hx hb dX6_sure_12 rfl (lv_at hl 2 rfl) ?_
    obtain ⟨r_3, o_4, hq_5, hF⟩ := bd2_e hF
    refine xri (xrunV (As := [.int i1, .int i2]) (rest := []) (c_X6_weigh l D cI cB cJ a_t a_t_book a_t_kept a_t_told a_t_tape a_t_rows a_t_sheets a_t_shelves a_t_thing a_t_shares a_t_ahead a_t_book_village a_t_book_mark a_t_book_held _ s_t_isKept s_t_z s_t_keptZ s_t_book_heldCount s_t_book_villages v_t_shares v_t_book_village v_t_book_mark i1 i2 r_3 o_4 hq_5) hfix xw_505 yv_X6_weigh ⟨rfl, rfl⟩ ⟨(Nat.le_of_ble_eq_true rfl), (Nat.le_of_ble_eq_true rfl)⟩ xKk_K (fun U hU hW => xK.warm hW hK) hK.1 hP hD [0, 1, 2, 3, 4] rfl rfl 0 6 rfl rfl rfl rfl hl.1 rfl (Nat.le_of_ble_eq_true rfl) dX6_sure_13 ⟨Nat.zero_le _, Nat.zero_le _⟩) hP hD hS hA [0, 1, 2, 3, 4] rfl rfl rfl (wn := [(a_t, .inr (6, [.ref a_t_book, .ref a_t_kept, .ref a_t_told, .ref a_t_tape, .ref a_t_rows, .ref a_t_sheets, .ref a_t_shelves, .ref a_t_thing, .ref a_t_shares, .ref a_t_ahead, .int s_t_isKept, .int s_t_z, .int s_t_keptZ])), (a_t_shares, .inl (cI, 10, .inl o_4)), (a_t_book, .inr (0, [.ref a_t_book_village, .ref a_t_book_mark, .ref a_t_book_held, .int s_t_book_heldCount, .int s_t_book_villages])), (a_t_book_village, .inl (cI, 24, .inl v_t_book_village)), (a_t_book_mark, .inl (cI, 24, .inl v_t_book_mark))]) rfl (fun H locs hP hD hS => ?_)
    refine lv_istore_n (lv' := [(3, .int r_3), (0, .ref a_t), (1, .int i1), (2, .int i2)]) hx hb dX6_sure_16 rfl hl (by decide) rfl (fun ls hl => ?_)
    refine lv_iload_n hx hb dX6_sure_17 rfl (lv_at hl 0 rfl) ?_
    refine lv_if_ne (tgt := 24) hx hb dX6_sure_18 (by decide) (fun c_6 => ?_) (fun c_6 => ?_)
    · replace hF := if_f c_6 hF
      refine lv_iconst (v := (0 : Int32)) hx hb dX6_sure_24 (by decide) ?_
      refine lv_istore (lv' := [(4, .int (0 : Int32)), (3, .int r_3), (0, .ref a_t), (1, .int i1), (2, .int i2)]) hx hb dX6_sure_25 hl (by decide) rfl (fun ls hl => ?_)
      have hL_27 : ∀ (n : Nat) (x4_7 : Int32) (_res : (Unit) ⊕ (Int32 × (Nat → Int32))), f_X6_sure_L27 o_4 r_3 n x4_7 = some _res → ∀ (H : Heap) (locs : List Loc) (ls : Array Slot), va_P D vwCl [(a_t, .inr (6, [.ref a_t_book, .ref a_t_kept, .ref a_t_told, .ref a_t_tape, .ref a_t_rows, .ref a_t_sheets, .ref a_t_shelves, .ref a_t_thing, .ref a_t_shares, .ref a_t_ahead, .int s_t_isKept, .int s_t_z, .int s_t_keptZ])), (a_t_shares, .inl (cI, 10, .inl o_4)), (a_t_book, .inr (0, [.ref a_t_book_village, .ref a_t_book_mark, .ref a_t_book_held, .int s_t_book_heldCount, .int s_t_book_villages])), (a_t_book_village, .inl (cI, 24, .inl v_t_book_village)), (a_t_book_mark, .inl (cI, 24, .inl v_t_book_mark))] H → va_D A [(a_t, .inr (6, [.ref a_t_book, .ref a_t_kept, .ref a_t_told, .ref a_t_tape, .ref a_t_rows, .ref a_t_sheets, .ref a_t_shelves, .ref a_t_thing, .ref a_t_shares, .ref a_t_ahead, .int s_t_isKept, .int s_t_z, .int s_t_keptZ])), (a_t_shares, .inl (cI, 10, .inl o_4)), (a_t_book, .inr (0, [.ref a_t_book_village, .ref a_t_book_mark, .ref a_t_book_held, .int s_t_book_heldCount, .int s_t_book_villages])), (a_t_book_village, .inl (cI, 24, .inl v_t_book_village)), (a_t_book_mark, .inl (cI, 24, .inl v_t_book_mark))] → va_S A s.heap H locs → lv_has ls 5 [(0, .ref a_t), (3, .int r_3), (4, .int x4_7)] → (_res = .inl () → ∀ (H : Heap) (locs : List Loc) (ls : Array Slot), va_P D vwCl [(a_t, .inr (6, [.ref a_t_book, .ref a_t_kept, .ref a_t_told, .ref a_t_tape, .ref a_t_rows, .ref a_t_sheets, .ref a_t_shelves, .ref a_t_thing, .ref a_t_shares, .ref a_t_ahead, .int s_t_isKept, .int s_t_z, .int s_t_keptZ])), (a_t_shares, .inl (cI, 10, .inl o_4)), (a_t_book, .inr (0, [.ref a_t_book_village, .ref a_t_book_mark, .ref a_t_book_held, .int s_t_book_heldCount, .int s_t_book_villages])), (a_t_book_village, .inl (cI, 24, .inl v_t_book_village)), (a_t_book_mark, .inl (cI, 24, .inl v_t_book_mark))] H → va_D A [(a_t, .inr (6, [.ref a_t_book, .ref a_t_kept, .ref a_t_told, .ref a_t_tape, .ref a_t_rows, .ref a_t_sheets, .ref a_t_shelves, .ref a_t_thing, .ref a_t_shares, .ref a_t_ahead, .int s_t_isKept, .int s_t_z, .int s_t_keptZ])), (a_t_shares, .inl (cI, 10, .inl o_4)), (a_t_book, .inr (0, [.ref a_t_book_village, .ref a_t_book_mark, .ref a_t_book_held, .int s_t_book_heldCount, .int s_t_book_villages])), (a_t_book_village, .inl (cI, 24, .inl v_t_book_village)), (a_t_book_mark, .inl (cI, 24, .inl v_t_book_mark))] → va_S A s.heap H locs → lv_has ls 5 [] → W p l e rmX6_sure s m args below meth c H locs 0 0 Q (F0 m 54 ls [])) → (∀ q : Int32 × (Nat → Int32), _res = .inr q → q = (r, o_v_t_shares)) → W p l e rmX6_sure s m args below meth c H locs 0 0 Q (F0 m 27 ls []) := by
        intro n
        induction n with
        | zero => intro x4_7 _res hF; exact (no_some hF).elim
        | succ n ih =>
          intro x4_7 _res hF H locs ls hP hD hS hl kexit hret
          rw [f_X6_sure_L27] at hF
          refine lv_iload hx hb dX6_sure_27 (lv_at hl 2 rfl) ?_
          refine lv_bipush (v := (10 : Int32)) hx hb dX6_sure_29 (by decide) ?_
          refine lv_icmp_ge (tgt := 54) hx hb dX6_sure_31 (by decide) (fun c_8 => ?_) (fun c_8 => ?_)
          · replace hF := if_t c_8 hF
            obtain rfl := Option.some.inj hF
            exact kexit rfl _ _ _ hP hD hS (lv_sub hl [] rfl)
          · replace hF := if_f c_8 hF
            refine lv_aload_n hx hb dX6_sure_34 rfl (lv_at hl 0 rfl) ?_
            refine xget (ci := 6) (C := RX6) (T := TX6) (N := 13) hfix xiX6 hK.1 hP 0 rfl rfl 8 (by decide) rfl xw_169 rfl dX6_sure_35 ?_
            refine lv_iload hx hb dX6_sure_38 (lv_at hl 2 rfl) ?_
            obtain ⟨c_9, hF⟩ := gd_e hF
            refine va_iald hx hb hK.1 hP 1 0 rfl rfl c_9 dX6_sure_40 ?_
            refine lv_iload_n hx hb dX6_sure_41 rfl (lv_at hl 1 rfl) ?_
            refine lv_icmp_ne (tgt := 48) hx hb dX6_sure_42 (by decide) (fun c_10 => ?_) (fun c_10 => ?_)
            · replace hF := if_f c_10 hF
              refine lv_iinc (v := (x4_7 + (1 : Int32))) (lv' := [(4, .int (x4_7 + (1 : Int32))), (0, .ref a_t), (3, .int r_3)]) hx hb dX6_sure_48 hl (k := 2) rfl rfl (by decide) rfl (fun ls hl => ?_)
              refine lv_goto (tgt := 27) hx hb dX6_sure_51 (by decide) ?_
              exact ih _ _ hF _ _ _ hP hD hS (lv_sub hl [1, 2, 0] rfl) kexit hret
            · replace hF := if_t c_10 hF
              refine lv_iload hx hb dX6_sure_45 (lv_at hl 2 rfl) ?_
              obtain rfl := Option.some.inj hF
              have hF := hret _ rfl
              obtain ⟨rfl, rfl⟩ := tj2 hF
              exact hEnd _ _ _ _ _ dX6_sure_47 hP hS rfl
      rcases bs0_e hF with ⟨hq, hF⟩ | ⟨q, hq, hF⟩
      · refine hL_27 _ _ _ hq _ _ _ hP hD hS (lv_sub hl [2, 1, 0] rfl) (fun e H locs ls hP hD hS hl => ?_) (fun q e => nomatch e)
        cases e
        refine lv_bipush (v := (-3 : Int32)) hx hb dX6_sure_54 (by decide) ?_
        obtain ⟨rfl, rfl⟩ := pj2 hF
        exact hEnd _ _ _ _ _ dX6_sure_56 hP hS rfl
      · exact hL_27 _ _ _ hq _ _ _ hP hD hS (lv_sub hl [2, 1, 0] rfl) (fun e => nomatch e) (fun q e => by cases e; cases hF; rfl)
    · replace hF := if_t c_6 hF
      refine lv_bipush (v := (-3 : Int32)) hx hb dX6_sure_21 (by decide) ?_
      obtain ⟨rfl, rfl⟩ := pj2 hF
      exact hEnd _ _ _ _ _ dX6_sure_23 hP hS rfl
  · replace hF := if_f c_2 hF
    refine lv_iconst (v := (-1 : Int32)) hx hb dX6_sure_8 (by decide) ?_
    obtain ⟨rfl, rfl⟩ := pj2 hF
    exact hEnd _ _ _ _ _ dX6_sure_9 hP hS rfl
def f_X6_leave_L42 (i1 : Int32) (s_t_book_villages : Int32) (v_t_book_mark : (Nat → Int32)) : Nat → Int32 → Int32 → Int32 → (Nat → Int32) → Option (Int32 × (Nat → Int32))
  | 0, _, _, _, _ => none
  | n + 1, x3_6, x4_7, x5_8, xv_t_book_village_9 => (if (24 : Int32) ≤ x5_8 then some ((x4_7, xv_t_book_village_9)) else gd x5_8 24 ((if (xv_t_book_village_9 x5_8.toNatClampNeg) = (-9 : Int32) then f_X6_leave_L42 i1 s_t_book_villages v_t_book_mark n x3_6 x4_7 (x5_8 + (1 : Int32)) xv_t_book_village_9 else gd x5_8 24 (bd1 (f_X0_plainestRule i1 x3_6 s_t_book_villages (upd xv_t_book_village_9 x5_8.toNatClampNeg (-9 : Int32)) v_t_book_mark) (fun (r_16 : Int32) => gd x5_8 24 ((if r_16 < (0 : Int32) then f_X6_leave_L42 i1 s_t_book_villages v_t_book_mark n x3_6 x4_7 (x5_8 + (1 : Int32)) (upd (upd xv_t_book_village_9 x5_8.toNatClampNeg (-9 : Int32)) x5_8.toNatClampNeg (xv_t_book_village_9 x5_8.toNatClampNeg)) else f_X6_leave_L42 i1 s_t_book_villages v_t_book_mark n (f_X6_wordsOf r_16) x5_8 (x5_8 + (1 : Int32)) (upd (upd xv_t_book_village_9 x5_8.toNatClampNeg (-9 : Int32)) x5_8.toNatClampNeg (xv_t_book_village_9 x5_8.toNatClampNeg)))))))))
def f_X6_leave (i1 : Int32) (s_t_book_villages : Int32) (v_t_book_village : (Nat → Int32)) (v_t_book_mark : (Nat → Int32)) : Option (Int32 × (Nat → Int32)) := (if (f_X6_outside i1 (0 : Int32) (9 : Int32)) = (0 : Int32) then bd1 (f_X0_plainestRule i1 (5 : Int32) s_t_book_villages v_t_book_village v_t_book_mark) (fun (r_3 : Int32) => lt1 ((if (0 : Int32) ≤ r_3 then ((f_X6_wordsOf r_3)) else ((5 : Int32)))) (fun (j_5 : Int32) => bd2 (f_X6_leave_L42 i1 s_t_book_villages v_t_book_mark 1000 j_5 (-3 : Int32) (0 : Int32) v_t_book_village) (fun (y4_10 : Int32) (yv_t_book_village_11 : (Nat → Int32)) => some ((y4_10, yv_t_book_village_11))))) else some (((-1 : Int32), v_t_book_village)))
abbrev rmX6_leave : Room := { frames := 6, cells := 0, slots := 0, locals := 141 }
set_option maxHeartbeats 400000 in
set_option maxRecDepth 100000 in
theorem c_X6_leave (l : Launch) (D : va_G) (cI cB cJ : ClassId) (a_t : Nat) (a_t_book : Nat) (a_t_kept : Nat) (a_t_told : Nat) (a_t_tape : Nat) (a_t_rows : Nat) (a_t_sheets : Nat) (a_t_shelves : Nat) (a_t_thing : Nat) (a_t_shares : Nat) (a_t_ahead : Nat) (a_t_book_village : Nat) (a_t_book_mark : Nat) (a_t_book_held : Nat) (sz : Nat) (s_t_isKept : Int32) (s_t_z : Int32) (s_t_keptZ : Int32) (s_t_book_heldCount : Int32) (s_t_book_villages : Int32) (v_t_book_village : (Nat → Int32)) (v_t_book_mark : (Nat → Int32)) (i1 : Int32) (r : Int32) (o_v_t_book_village : (Nat → Int32)) (hF : f_X6_leave i1 s_t_book_villages v_t_book_village v_t_book_mark = some (r, o_v_t_book_village)) : xMi l yX6_leave (.code yX6_leave cX6_leave 8 (some .int) :: xU) rmX6_leave (xK D cI cB cJ) D sz [.ref a_t, .int i1] [(a_t, .inr (6, [.ref a_t_book, .ref a_t_kept, .ref a_t_told, .ref a_t_tape, .ref a_t_rows, .ref a_t_sheets, .ref a_t_shelves, .ref a_t_thing, .ref a_t_shares, .ref a_t_ahead, .int s_t_isKept, .int s_t_z, .int s_t_keptZ])), (a_t_book, .inr (0, [.ref a_t_book_village, .ref a_t_book_mark, .ref a_t_book_held, .int s_t_book_heldCount, .int s_t_book_villages])), (a_t_book_village, .inl (cI, 24, .inl v_t_book_village)), (a_t_book_mark, .inl (cI, 24, .inl v_t_book_mark))] [(a_t, .inr (6, [.ref a_t_book, .ref a_t_kept, .ref a_t_told, .ref a_t_tape, .ref a_t_rows, .ref a_t_sheets, .ref a_t_shelves, .ref a_t_thing, .ref a_t_shares, .ref a_t_ahead, .int s_t_isKept, .int s_t_z, .int s_t_keptZ])), (a_t_book, .inr (0, [.ref a_t_book_village, .ref a_t_book_mark, .ref a_t_book_held, .int s_t_book_heldCount, .int s_t_book_villages])), (a_t_book_village, .inl (cI, 24, .inl o_v_t_book_village)), (a_t_book_mark, .inl (cI, 24, .inl v_t_book_mark))] r := by
  refine xMi.mk (own := "FairNext") (by decide +kernel) rfl (Nat.le_of_ble_eq_true rfl) ?_
  intro p e s m args below meth c A Q ls H hfix hK hP hD hA hS hl hEnd
  obtain ⟨hx, hb, hml, hown, hts⟩ := id hfix
  have hl : lv_has ls 8 [(0, .ref a_t), (1, .int i1)] := hl
  rw [f_X6_leave] at hF
  refine lv_iload_n hx hb dX6_leave_0 rfl (lv_at hl 1 rfl) ?_
  refine lv_iconst (v := (0 : Int32)) hx hb dX6_leave_1 (by decide) ?_
  refine lv_bipush (v := (9 : Int32)) hx hb dX6_leave_2 (by decide) ?_
  refine xrz0 (xrunS (As := [.int i1, .int (0 : Int32), .int (9 : Int32)]) (rest := []) (c_X6_outside l D cI cB cJ _ i1 (0 : Int32) (9 : Int32) (f_X6_outside i1 (0 : Int32) (9 : Int32)) rfl) hfix xw_205 ys_X6_outside ⟨rfl, rfl⟩ ⟨(Nat.le_of_ble_eq_true rfl), (Nat.le_of_ble_eq_true rfl)⟩ xKk_K (fun U hU hW => xK.warm hW hK) hP hD [] rfl rfl rfl hl.1 rfl (Nat.le_of_ble_eq_true rfl) dX6_leave_4 ⟨Nat.zero_le _, Nat.zero_le _⟩) hP hD hS hA [] rfl rfl (fun H locs hP hD hS hz_1 => ?_)
  refine lv_if_eq (tgt := 12) hx hb dX6_leave_7 (by decide) (fun c_2 => ?_) (fun c_2 => ?_)
  · replace hF := if_t c_2 hF
    refine lv_aload_n hx hb dX6_leave_12 rfl (lv_at hl 0 rfl) ?_
    refine xget (ci := 6) (C := RX6) (T := TX6) (N := 13) hfix xiX6 hK.1 hP 0 rfl rfl 0 (by decide) rfl xw_161 rfl dX6_leave_13 ?_
    refine lv_iload_n hx hb dX6_leave_16 rfl (lv_at hl 1 rfl) ?_
    refine lv_iconst (v := (5 : Int32)) hx hb dX6_leave_17 (by decide) ?_
    obtain ⟨r_3, hq_4, hF⟩ := bd1_e hF
    refine xri0 (xrunV (As := [.int i1, .int (5 : Int32)]) (rest := []) (c_X0_plainestRule l D cI cB cJ a_t_book a_t_book_village a_t_book_mark a_t_book_held _ s_t_book_heldCount s_t_book_villages v_t_book_village v_t_book_mark i1 (5 : Int32) r_3 hq_4) hfix xw_492 yv_X0_plainestRule ⟨rfl, rfl⟩ ⟨(Nat.le_of_ble_eq_true rfl), (Nat.le_of_ble_eq_true rfl)⟩ xKk_K (fun U hU hW => xK.warm hW hK) hK.1 hP hD [1, 2, 3] rfl rfl 1 0 rfl rfl rfl rfl hl.1 rfl (Nat.le_of_ble_eq_true rfl) dX6_leave_18 ⟨Nat.zero_le _, Nat.zero_le _⟩) hP hD hS hA [1, 2, 3] rfl rfl (fun H locs hP hD hS => ?_)
    refine lv_istore_n (lv' := [(2, .int r_3), (0, .ref a_t), (1, .int i1)]) hx hb dX6_leave_21 rfl hl (by decide) rfl (fun ls hl => ?_)
    refine lv_iload_n hx hb dX6_leave_22 rfl (lv_at hl 0 rfl) ?_
    obtain ⟨j_5, hJ, hF⟩ := lt1_e hF
    have hN_34_5 : ∀ (H : Heap) (locs : List Loc) (ls : Array Slot), va_P D vwCl [(a_t, .inr (6, [.ref a_t_book, .ref a_t_kept, .ref a_t_told, .ref a_t_tape, .ref a_t_rows, .ref a_t_sheets, .ref a_t_shelves, .ref a_t_thing, .ref a_t_shares, .ref a_t_ahead, .int s_t_isKept, .int s_t_z, .int s_t_keptZ])), (a_t_book, .inr (0, [.ref a_t_book_village, .ref a_t_book_mark, .ref a_t_book_held, .int s_t_book_heldCount, .int s_t_book_villages])), (a_t_book_village, .inl (cI, 24, .inl v_t_book_village)), (a_t_book_mark, .inl (cI, 24, .inl v_t_book_mark))] H → va_D A [(a_t, .inr (6, [.ref a_t_book, .ref a_t_kept, .ref a_t_told, .ref a_t_tape, .ref a_t_rows, .ref a_t_sheets, .ref a_t_shelves, .ref a_t_thing, .ref a_t_shares, .ref a_t_ahead, .int s_t_isKept, .int s_t_z, .int s_t_keptZ])), (a_t_book, .inr (0, [.ref a_t_book_village, .ref a_t_book_mark, .ref a_t_book_held, .int s_t_book_heldCount, .int s_t_book_villages])), (a_t_book_village, .inl (cI, 24, .inl v_t_book_village)), (a_t_book_mark, .inl (cI, 24, .inl v_t_book_mark))] → va_S A s.heap H locs → lv_has ls 8 [(0, .ref a_t), (1, .int i1)] → W p l e rmX6_leave s m args below meth c H locs 0 0 Q (F0 m 34 ls [.int j_5]) := by
      intro H locs ls hP hD hS hl
      refine lv_istore_n (lv' := [(3, .int j_5), (0, .ref a_t), (1, .int i1)]) hx hb dX6_leave_34 rfl hl (by decide) rfl (fun ls hl => ?_)
      refine lv_bipush (v := (-3 : Int32)) hx hb dX6_leave_35 (by decide) ?_
      refine lv_istore (lv' := [(4, .int (-3 : Int32)), (3, .int j_5), (0, .ref a_t), (1, .int i1)]) hx hb dX6_leave_37 hl (by decide) rfl (fun ls hl => ?_)
      refine lv_iconst (v := (0 : Int32)) hx hb dX6_leave_39 (by decide) ?_
      refine lv_istore (lv' := [(5, .int (0 : Int32)), (4, .int (-3 : Int32)), (3, .int j_5), (0, .ref a_t), (1, .int i1)]) hx hb dX6_leave_40 hl (by decide) rfl (fun ls hl => ?_)
      have hL_42 : ∀ (n : Nat) (x3_6 : Int32) (x4_7 : Int32) (x5_8 : Int32) (xv_t_book_village_9 : (Nat → Int32)) (y4_10 : Int32) (yv_t_book_village_11 : (Nat → Int32)), f_X6_leave_L42 i1 s_t_book_villages v_t_book_mark n x3_6 x4_7 x5_8 xv_t_book_village_9 = some (y4_10, yv_t_book_village_11) → ∀ (H : Heap) (locs : List Loc) (ls : Array Slot), va_P D vwCl [(a_t, .inr (6, [.ref a_t_book, .ref a_t_kept, .ref a_t_told, .ref a_t_tape, .ref a_t_rows, .ref a_t_sheets, .ref a_t_shelves, .ref a_t_thing, .ref a_t_shares, .ref a_t_ahead, .int s_t_isKept, .int s_t_z, .int s_t_keptZ])), (a_t_book, .inr (0, [.ref a_t_book_village, .ref a_t_book_mark, .ref a_t_book_held, .int s_t_book_heldCount, .int s_t_book_villages])), (a_t_book_village, .inl (cI, 24, .inl xv_t_book_village_9)), (a_t_book_mark, .inl (cI, 24, .inl v_t_book_mark))] H → va_D A [(a_t, .inr (6, [.ref a_t_book, .ref a_t_kept, .ref a_t_told, .ref a_t_tape, .ref a_t_rows, .ref a_t_sheets, .ref a_t_shelves, .ref a_t_thing, .ref a_t_shares, .ref a_t_ahead, .int s_t_isKept, .int s_t_z, .int s_t_keptZ])), (a_t_book, .inr (0, [.ref a_t_book_village, .ref a_t_book_mark, .ref a_t_book_held, .int s_t_book_heldCount, .int s_t_book_villages])), (a_t_book_village, .inl (cI, 24, .inl xv_t_book_village_9)), (a_t_book_mark, .inl (cI, 24, .inl v_t_book_mark))] → va_S A s.heap H locs → lv_has ls 8 [(0, .ref a_t), (1, .int i1), (3, .int x3_6), (4, .int x4_7), (5, .int x5_8)] → (∀ (H : Heap) (locs : List Loc) (ls : Array Slot), va_P D vwCl [(a_t, .inr (6, [.ref a_t_book, .ref a_t_kept, .ref a_t_told, .ref a_t_tape, .ref a_t_rows, .ref a_t_sheets, .ref a_t_shelves, .ref a_t_thing, .ref a_t_shares, .ref a_t_ahead, .int s_t_isKept, .int s_t_z, .int s_t_keptZ])), (a_t_book, .inr (0, [.ref a_t_book_village, .ref a_t_book_mark, .ref a_t_book_held, .int s_t_book_heldCount, .int s_t_book_villages])), (a_t_book_village, .inl (cI, 24, .inl yv_t_book_village_11)), (a_t_book_mark, .inl (cI, 24, .inl v_t_book_mark))] H → va_D A [(a_t, .inr (6, [.ref a_t_book, .ref a_t_kept, .ref a_t_told, .ref a_t_tape, .ref a_t_rows, .ref a_t_sheets, .ref a_t_shelves, .ref a_t_thing, .ref a_t_shares, .ref a_t_ahead, .int s_t_isKept, .int s_t_z, .int s_t_keptZ])), (a_t_book, .inr (0, [.ref a_t_book_village, .ref a_t_book_mark, .ref a_t_book_held, .int s_t_book_heldCount, .int s_t_book_villages])), (a_t_book_village, .inl (cI, 24, .inl yv_t_book_village_11)), (a_t_book_mark, .inl (cI, 24, .inl v_t_book_mark))] → va_S A s.heap H locs → lv_has ls 8 [(4, .int y4_10)] → W p l e rmX6_leave s m args below meth c H locs 0 0 Q (F0 m 124 ls [])) → W p l e rmX6_leave s m args below meth c H locs 0 0 Q (F0 m 42 ls []) := by
        intro n
        induction n with
        | zero => intro x3_6 x4_7 x5_8 xv_t_book_village_9 y4_10 yv_t_book_village_11 hF; exact (no_some hF).elim
        | succ n ih =>
          intro x3_6 x4_7 x5_8 xv_t_book_village_9 y4_10 yv_t_book_village_11 hF H locs ls hP hD hS hl kexit
          rw [f_X6_leave_L42] at hF
          refine lv_iload hx hb dX6_leave_42 (lv_at hl 4 rfl) ?_
          refine lv_bipush (v := (24 : Int32)) hx hb dX6_leave_44 (by decide) ?_
          refine lv_icmp_ge (tgt := 124) hx hb dX6_leave_46 (by decide) (fun c_12 => ?_) (fun c_12 => ?_)
          · replace hF := if_t c_12 hF
            obtain ⟨rfl, rfl⟩ := pj2 hF
            exact kexit _ _ _ hP hD hS (lv_sub hl [3] rfl)
          · replace hF := if_f c_12 hF
            refine lv_aload_n hx hb dX6_leave_49 rfl (lv_at hl 0 rfl) ?_
            refine xget (ci := 6) (C := RX6) (T := TX6) (N := 13) hfix xiX6 hK.1 hP 0 rfl rfl 0 (by decide) rfl xw_161 rfl dX6_leave_50 ?_
            refine xget (ci := 0) (C := RX0) (T := TX0) (N := 5) hfix xiX0 hK.1 hP 1 rfl rfl 0 (by decide) rfl xw_34 rfl dX6_leave_53 ?_
            refine lv_iload hx hb dX6_leave_56 (lv_at hl 4 rfl) ?_
            obtain ⟨c_13, hF⟩ := gd_e hF
            refine va_iald hx hb hK.1 hP 2 0 rfl rfl c_13 dX6_leave_58 ?_
            refine lv_istore (lv' := [(6, .int (xv_t_book_village_9 x5_8.toNatClampNeg)), (0, .ref a_t), (1, .int i1), (3, .int x3_6), (4, .int x4_7), (5, .int x5_8)]) hx hb dX6_leave_59 hl (by decide) rfl (fun ls hl => ?_)
            refine lv_iload hx hb dX6_leave_61 (lv_at hl 0 rfl) ?_
            refine lv_bipush (v := (-9 : Int32)) hx hb dX6_leave_63 (by decide) ?_
            refine lv_icmp_eq (tgt := 118) hx hb dX6_leave_65 (by decide) (fun c_14 => ?_) (fun c_14 => ?_)
            · replace hF := if_t c_14 hF
              refine lv_iinc (v := (x5_8 + (1 : Int32))) (lv' := [(5, .int (x5_8 + (1 : Int32))), (6, .int (xv_t_book_village_9 x5_8.toNatClampNeg)), (0, .ref a_t), (1, .int i1), (3, .int x3_6), (4, .int x4_7)]) hx hb dX6_leave_118 hl (k := 5) rfl rfl (by decide) rfl (fun ls hl => ?_)
              refine lv_goto (tgt := 42) hx hb dX6_leave_121 (by decide) ?_
              exact ih _ _ _ _ _ _ hF _ _ _ hP hD hS (lv_sub hl [2, 3, 4, 5, 0] rfl) kexit
            · replace hF := if_f c_14 hF
              refine lv_aload_n hx hb dX6_leave_68 rfl (lv_at hl 1 rfl) ?_
              refine xget (ci := 6) (C := RX6) (T := TX6) (N := 13) hfix xiX6 hK.1 hP 0 rfl rfl 0 (by decide) rfl xw_161 rfl dX6_leave_69 ?_
              refine xget (ci := 0) (C := RX0) (T := TX0) (N := 5) hfix xiX0 hK.1 hP 1 rfl rfl 0 (by decide) rfl xw_34 rfl dX6_leave_72 ?_
              refine lv_iload hx hb dX6_leave_75 (lv_at hl 5 rfl) ?_
              refine lv_bipush (v := (-9 : Int32)) hx hb dX6_leave_77 (by decide) ?_
              obtain ⟨c_15, hF⟩ := gd_e hF
              refine va_iast hx hb hK.1 hP hD hS 2 0 rfl rfl c_15 dX6_leave_79 (fun H locs hP hD hS => ?_)
              have hP : va_P D vwCl [(a_t, .inr (6, [.ref a_t_book, .ref a_t_kept, .ref a_t_told, .ref a_t_tape, .ref a_t_rows, .ref a_t_sheets, .ref a_t_shelves, .ref a_t_thing, .ref a_t_shares, .ref a_t_ahead, .int s_t_isKept, .int s_t_z, .int s_t_keptZ])), (a_t_book, .inr (0, [.ref a_t_book_village, .ref a_t_book_mark, .ref a_t_book_held, .int s_t_book_heldCount, .int s_t_book_villages])), (a_t_book_village, .inl (cI, 24, .inl (upd xv_t_book_village_9 x5_8.toNatClampNeg (-9 : Int32)))), (a_t_book_mark, .inl (cI, 24, .inl v_t_book_mark))] H := hP
              have hD : va_D A [(a_t, .inr (6, [.ref a_t_book, .ref a_t_kept, .ref a_t_told, .ref a_t_tape, .ref a_t_rows, .ref a_t_sheets, .ref a_t_shelves, .ref a_t_thing, .ref a_t_shares, .ref a_t_ahead, .int s_t_isKept, .int s_t_z, .int s_t_keptZ])), (a_t_book, .inr (0, [.ref a_t_book_village, .ref a_t_book_mark, .ref a_t_book_held, .int s_t_book_heldCount, .int s_t_book_villages])), (a_t_book_village, .inl (cI, 24, .inl (upd xv_t_book_village_9 x5_8.toNatClampNeg (-9 : Int32)))), (a_t_book_mark, .inl (cI, 24, .inl v_t_book_mark))] := hD
              refine lv_aload_n hx hb dX6_leave_80 rfl (lv_at hl 1 rfl) ?_
              refine xget (ci := 6) (C := RX6) (T := TX6) (N := 13) hfix xiX6 hK.1 hP 0 rfl rfl 0 (by decide) rfl xw_161 rfl dX6_leave_81 ?_
              refine lv_iload_n hx hb dX6_leave_84 rfl (lv_at hl 2 rfl) ?_
              refine lv_iload_n hx hb dX6_leave_85 rfl (lv_at hl 3 rfl) ?_
              obtain ⟨r_16, hq_17, hF⟩ := bd1_e hF
              refine xri0 (xrunV (As := [.int i1, .int x3_6]) (rest := []) (c_X0_plainestRule l D cI cB cJ a_t_book a_t_book_village a_t_book_mark a_t_book_held _ s_t_book_heldCount s_t_book_villages (upd xv_t_book_village_9 x5_8.toNatClampNeg (-9 : Int32)) v_t_book_mark i1 x3_6 r_16 hq_17) hfix xw_492 yv_X0_plainestRule ⟨rfl, rfl⟩ ⟨(Nat.le_of_ble_eq_true rfl), (Nat.le_of_ble_eq_true rfl)⟩ xKk_K (fun U hU hW => xK.warm hW hK) hK.1 hP hD [1, 2, 3] rfl rfl 1 0 rfl rfl rfl rfl hl.1 rfl (Nat.le_of_ble_eq_true rfl) dX6_leave_86 ⟨Nat.zero_le _, Nat.zero_le _⟩) hP hD hS hA [1, 2, 3] rfl rfl (fun H locs hP hD hS => ?_)
              refine lv_istore (lv' := [(7, .int r_16), (6, .int (xv_t_book_village_9 x5_8.toNatClampNeg)), (0, .ref a_t), (1, .int i1), (3, .int x3_6), (4, .int x4_7), (5, .int x5_8)]) hx hb dX6_leave_89 hl (by decide) rfl (fun ls hl => ?_)
              refine lv_aload_n hx hb dX6_leave_91 rfl (lv_at hl 2 rfl) ?_
              refine xget (ci := 6) (C := RX6) (T := TX6) (N := 13) hfix xiX6 hK.1 hP 0 rfl rfl 0 (by decide) rfl xw_161 rfl dX6_leave_92 ?_
              refine xget (ci := 0) (C := RX0) (T := TX0) (N := 5) hfix xiX0 hK.1 hP 1 rfl rfl 0 (by decide) rfl xw_34 rfl dX6_leave_95 ?_
              refine lv_iload hx hb dX6_leave_98 (lv_at hl 6 rfl) ?_
              refine lv_iload hx hb dX6_leave_100 (lv_at hl 1 rfl) ?_
              obtain ⟨c_18, hF⟩ := gd_e hF
              refine va_iast hx hb hK.1 hP hD hS 2 0 rfl rfl c_18 dX6_leave_102 (fun H locs hP hD hS => ?_)
              have hP : va_P D vwCl [(a_t, .inr (6, [.ref a_t_book, .ref a_t_kept, .ref a_t_told, .ref a_t_tape, .ref a_t_rows, .ref a_t_sheets, .ref a_t_shelves, .ref a_t_thing, .ref a_t_shares, .ref a_t_ahead, .int s_t_isKept, .int s_t_z, .int s_t_keptZ])), (a_t_book, .inr (0, [.ref a_t_book_village, .ref a_t_book_mark, .ref a_t_book_held, .int s_t_book_heldCount, .int s_t_book_villages])), (a_t_book_village, .inl (cI, 24, .inl (upd (upd xv_t_book_village_9 x5_8.toNatClampNeg (-9 : Int32)) x5_8.toNatClampNeg (xv_t_book_village_9 x5_8.toNatClampNeg)))), (a_t_book_mark, .inl (cI, 24, .inl v_t_book_mark))] H := hP
              have hD : va_D A [(a_t, .inr (6, [.ref a_t_book, .ref a_t_kept, .ref a_t_told, .ref a_t_tape, .ref a_t_rows, .ref a_t_sheets, .ref a_t_shelves, .ref a_t_thing, .ref a_t_shares, .ref a_t_ahead, .int s_t_isKept, .int s_t_z, .int s_t_keptZ])), (a_t_book, .inr (0, [.ref a_t_book_village, .ref a_t_book_mark, .ref a_t_book_held, .int s_t_book_heldCount, .int s_t_book_villages])), (a_t_book_village, .inl (cI, 24, .inl (upd (upd xv_t_book_village_9 x5_8.toNatClampNeg (-9 : Int32)) x5_8.toNatClampNeg (xv_t_book_village_9 x5_8.toNatClampNeg)))), (a_t_book_mark, .inl (cI, 24, .inl v_t_book_mark))] := hD
              refine lv_iload hx hb dX6_leave_103 (lv_at hl 0 rfl) ?_
              refine lv_if_lt (tgt := 118) hx hb dX6_leave_105 (by decide) (fun c_19 => ?_) (fun c_19 => ?_)
              · replace hF := if_t c_19 hF
                refine lv_iinc (v := (x5_8 + (1 : Int32))) (lv' := [(5, .int (x5_8 + (1 : Int32))), (7, .int r_16), (6, .int (xv_t_book_village_9 x5_8.toNatClampNeg)), (0, .ref a_t), (1, .int i1), (3, .int x3_6), (4, .int x4_7)]) hx hb dX6_leave_118 hl (k := 6) rfl rfl (by decide) rfl (fun ls hl => ?_)
                refine lv_goto (tgt := 42) hx hb dX6_leave_121 (by decide) ?_
                exact ih _ _ _ _ _ _ hF _ _ _ hP hD hS (lv_sub hl [3, 4, 5, 6, 0] rfl) kexit
              · replace hF := if_f c_19 hF
                refine lv_iload hx hb dX6_leave_108 (lv_at hl 0 rfl) ?_
                refine xri0 (xrunS (As := [.int r_16]) (rest := []) (c_X6_wordsOf l D cI cB cJ _ r_16 (f_X6_wordsOf r_16) rfl) hfix xw_397 ys_X6_wordsOf ⟨rfl, rfl⟩ ⟨(Nat.le_of_ble_eq_true rfl), (Nat.le_of_ble_eq_true rfl)⟩ xKk_K (fun U hU hW => xK.warm hW hK) hP hD [] rfl rfl rfl hl.1 rfl (Nat.le_of_ble_eq_true rfl) dX6_leave_110 ⟨Nat.zero_le _, Nat.zero_le _⟩) hP hD hS hA [] rfl rfl (fun H locs hP hD hS => ?_)
                refine lv_istore_n (lv' := [(3, .int (f_X6_wordsOf r_16)), (7, .int r_16), (6, .int (xv_t_book_village_9 x5_8.toNatClampNeg)), (0, .ref a_t), (1, .int i1), (4, .int x4_7), (5, .int x5_8)]) hx hb dX6_leave_113 rfl hl (by decide) rfl (fun ls hl => ?_)
                refine lv_iload hx hb dX6_leave_114 (lv_at hl 6 rfl) ?_
                refine lv_istore (lv' := [(4, .int x5_8), (3, .int (f_X6_wordsOf r_16)), (7, .int r_16), (6, .int (xv_t_book_village_9 x5_8.toNatClampNeg)), (0, .ref a_t), (1, .int i1), (5, .int x5_8)]) hx hb dX6_leave_116 hl (by decide) rfl (fun ls hl => ?_)
                refine lv_iinc (v := (x5_8 + (1 : Int32))) (lv' := [(5, .int (x5_8 + (1 : Int32))), (4, .int x5_8), (3, .int (f_X6_wordsOf r_16)), (7, .int r_16), (6, .int (xv_t_book_village_9 x5_8.toNatClampNeg)), (0, .ref a_t), (1, .int i1)]) hx hb dX6_leave_118 hl (k := 6) rfl rfl (by decide) rfl (fun ls hl => ?_)
                refine lv_goto (tgt := 42) hx hb dX6_leave_121 (by decide) ?_
                exact ih _ _ _ _ _ _ hF _ _ _ hP hD hS (lv_sub hl [5, 6, 2, 1, 0] rfl) kexit
      obtain ⟨y4_10, yv_t_book_village_11, hq, hF⟩ := bd2_e hF
      refine hL_42 _ _ _ _ _ _ _ hq _ _ _ hP hD hS (lv_sub hl [3, 4, 2, 1, 0] rfl) (fun H locs ls hP hD hS hl => ?_)
      refine lv_iload hx hb dX6_leave_124 (lv_at hl 0 rfl) ?_
      obtain ⟨rfl, rfl⟩ := pj2 hF
      exact hEnd _ _ _ _ _ dX6_leave_126 hP hS rfl
    replace hF := hJ
    refine lv_if_ge (tgt := 30) hx hb dX6_leave_23 (by decide) (fun c_20 => ?_) (fun c_20 => ?_)
    · replace hF := if_t c_20 hF
      refine lv_iload_n hx hb dX6_leave_30 rfl (lv_at hl 0 rfl) ?_
      refine xri0 (xrunS (As := [.int r_3]) (rest := []) (c_X6_wordsOf l D cI cB cJ _ r_3 (f_X6_wordsOf r_3) rfl) hfix xw_397 ys_X6_wordsOf ⟨rfl, rfl⟩ ⟨(Nat.le_of_ble_eq_true rfl), (Nat.le_of_ble_eq_true rfl)⟩ xKk_K (fun U hU hW => xK.warm hW hK) hP hD [] rfl rfl rfl hl.1 rfl (Nat.le_of_ble_eq_true rfl) dX6_leave_31 ⟨Nat.zero_le _, Nat.zero_le _⟩) hP hD hS hA [] rfl rfl (fun H locs hP hD hS => ?_)
      subst hF
      exact hN_34_5 _ _ _ hP hD hS (lv_sub hl [1, 2] rfl)
    · replace hF := if_f c_20 hF
      refine lv_iconst (v := (5 : Int32)) hx hb dX6_leave_26 (by decide) ?_
      refine lv_goto (tgt := 34) hx hb dX6_leave_27 (by decide) ?_
      subst hF
      exact hN_34_5 _ _ _ hP hD hS (lv_sub hl [1, 2] rfl)
  · replace hF := if_f c_2 hF
    refine lv_iconst (v := (-1 : Int32)) hx hb dX6_leave_10 (by decide) ?_
    obtain ⟨rfl, rfl⟩ := pj2 hF
    exact hEnd _ _ _ _ _ dX6_leave_11 hP hS rfl
def f_X6_farFrom_L4 (v_t_shares : (Nat → Int32)) (s_t_book_villages : Int32) (i1 : Int32) : Nat → Int32 → Int32 → Option (Int32)
  | 0, _, _ => none
  | n + 1, x2_1, x3_2 => (if (10 : Int32) ≤ x3_2 then some (x2_1) else gd x3_2 10 (f_X6_farFrom_L4 v_t_shares s_t_book_villages i1 n (x2_1 + ((v_t_shares x3_2.toNatClampNeg) * (if (s_t_book_villages - (if 0 ≤ (i1 - x3_2) then (i1 - x3_2) else 0 - (i1 - x3_2))) < (if 0 ≤ (i1 - x3_2) then (i1 - x3_2) else 0 - (i1 - x3_2)) then (s_t_book_villages - (if 0 ≤ (i1 - x3_2) then (i1 - x3_2) else 0 - (i1 - x3_2))) else (if 0 ≤ (i1 - x3_2) then (i1 - x3_2) else 0 - (i1 - x3_2))))) (x3_2 + (1 : Int32))))
def f_X6_farFrom (i1 : Int32) (v_t_shares : (Nat → Int32)) (s_t_book_villages : Int32) : Option (Int32) := bd1 (f_X6_farFrom_L4 v_t_shares s_t_book_villages i1 1000 (0 : Int32) (0 : Int32)) (fun (y2_3 : Int32) => some (y2_3))
abbrev rmX6_farFrom : Room := { frames := 1, cells := 0, slots := 0, locals := 15 }
set_option maxHeartbeats 400000 in
set_option maxRecDepth 100000 in
theorem c_X6_farFrom (l : Launch) (D : va_G) (cI cB cJ : ClassId) (a_t : Nat) (a_t_book : Nat) (a_t_kept : Nat) (a_t_told : Nat) (a_t_tape : Nat) (a_t_rows : Nat) (a_t_sheets : Nat) (a_t_shelves : Nat) (a_t_thing : Nat) (a_t_shares : Nat) (a_t_ahead : Nat) (a_t_book_village : Nat) (a_t_book_mark : Nat) (a_t_book_held : Nat) (sz : Nat) (s_t_isKept : Int32) (s_t_z : Int32) (s_t_keptZ : Int32) (s_t_book_heldCount : Int32) (s_t_book_villages : Int32) (v_t_shares : (Nat → Int32)) (i1 : Int32) (r : Int32) (hF : f_X6_farFrom i1 v_t_shares s_t_book_villages = some r) : xMi l yX6_farFrom (.code yX6_farFrom cX6_farFrom 5 (some .int) :: xU) rmX6_farFrom (xK D cI cB cJ) D sz [.ref a_t, .int i1] [(a_t, .inr (6, [.ref a_t_book, .ref a_t_kept, .ref a_t_told, .ref a_t_tape, .ref a_t_rows, .ref a_t_sheets, .ref a_t_shelves, .ref a_t_thing, .ref a_t_shares, .ref a_t_ahead, .int s_t_isKept, .int s_t_z, .int s_t_keptZ])), (a_t_shares, .inl (cI, 10, .inl v_t_shares)), (a_t_book, .inr (0, [.ref a_t_book_village, .ref a_t_book_mark, .ref a_t_book_held, .int s_t_book_heldCount, .int s_t_book_villages]))] [(a_t, .inr (6, [.ref a_t_book, .ref a_t_kept, .ref a_t_told, .ref a_t_tape, .ref a_t_rows, .ref a_t_sheets, .ref a_t_shelves, .ref a_t_thing, .ref a_t_shares, .ref a_t_ahead, .int s_t_isKept, .int s_t_z, .int s_t_keptZ])), (a_t_shares, .inl (cI, 10, .inl v_t_shares)), (a_t_book, .inr (0, [.ref a_t_book_village, .ref a_t_book_mark, .ref a_t_book_held, .int s_t_book_heldCount, .int s_t_book_villages]))] r := by
  refine xMi.mk (own := "FairNext") (by decide +kernel) rfl (Nat.le_of_ble_eq_true rfl) ?_
  intro p e s m args below meth c A Q ls H hfix hK hP hD hA hS hl hEnd
  obtain ⟨hx, hb, hml, hown, hts⟩ := id hfix
  have hl : lv_has ls 5 [(0, .ref a_t), (1, .int i1)] := hl
  rw [f_X6_farFrom] at hF
  refine lv_iconst (v := (0 : Int32)) hx hb dX6_farFrom_0 (by decide) ?_
  refine lv_istore_n (lv' := [(2, .int (0 : Int32)), (0, .ref a_t), (1, .int i1)]) hx hb dX6_farFrom_1 rfl hl (by decide) rfl (fun ls hl => ?_)
  refine lv_iconst (v := (0 : Int32)) hx hb dX6_farFrom_2 (by decide) ?_
  refine lv_istore_n (lv' := [(3, .int (0 : Int32)), (2, .int (0 : Int32)), (0, .ref a_t), (1, .int i1)]) hx hb dX6_farFrom_3 rfl hl (by decide) rfl (fun ls hl => ?_)
  have hL_4 : ∀ (n : Nat) (x2_1 : Int32) (x3_2 : Int32) (y2_3 : Int32), f_X6_farFrom_L4 v_t_shares s_t_book_villages i1 n x2_1 x3_2 = some y2_3 → ∀ (H : Heap) (locs : List Loc) (ls : Array Slot), va_P D vwCl [(a_t, .inr (6, [.ref a_t_book, .ref a_t_kept, .ref a_t_told, .ref a_t_tape, .ref a_t_rows, .ref a_t_sheets, .ref a_t_shelves, .ref a_t_thing, .ref a_t_shares, .ref a_t_ahead, .int s_t_isKept, .int s_t_z, .int s_t_keptZ])), (a_t_shares, .inl (cI, 10, .inl v_t_shares)), (a_t_book, .inr (0, [.ref a_t_book_village, .ref a_t_book_mark, .ref a_t_book_held, .int s_t_book_heldCount, .int s_t_book_villages]))] H → va_D A [(a_t, .inr (6, [.ref a_t_book, .ref a_t_kept, .ref a_t_told, .ref a_t_tape, .ref a_t_rows, .ref a_t_sheets, .ref a_t_shelves, .ref a_t_thing, .ref a_t_shares, .ref a_t_ahead, .int s_t_isKept, .int s_t_z, .int s_t_keptZ])), (a_t_shares, .inl (cI, 10, .inl v_t_shares)), (a_t_book, .inr (0, [.ref a_t_book_village, .ref a_t_book_mark, .ref a_t_book_held, .int s_t_book_heldCount, .int s_t_book_villages]))] → va_S A s.heap H locs → lv_has ls 5 [(0, .ref a_t), (1, .int i1), (2, .int x2_1), (3, .int x3_2)] → (∀ (H : Heap) (locs : List Loc) (ls : Array Slot), va_P D vwCl [(a_t, .inr (6, [.ref a_t_book, .ref a_t_kept, .ref a_t_told, .ref a_t_tape, .ref a_t_rows, .ref a_t_sheets, .ref a_t_shelves, .ref a_t_thing, .ref a_t_shares, .ref a_t_ahead, .int s_t_isKept, .int s_t_z, .int s_t_keptZ])), (a_t_shares, .inl (cI, 10, .inl v_t_shares)), (a_t_book, .inr (0, [.ref a_t_book_village, .ref a_t_book_mark, .ref a_t_book_held, .int s_t_book_heldCount, .int s_t_book_villages]))] H → va_D A [(a_t, .inr (6, [.ref a_t_book, .ref a_t_kept, .ref a_t_told, .ref a_t_tape, .ref a_t_rows, .ref a_t_sheets, .ref a_t_shelves, .ref a_t_thing, .ref a_t_shares, .ref a_t_ahead, .int s_t_isKept, .int s_t_z, .int s_t_keptZ])), (a_t_shares, .inl (cI, 10, .inl v_t_shares)), (a_t_book, .inr (0, [.ref a_t_book_village, .ref a_t_book_mark, .ref a_t_book_held, .int s_t_book_heldCount, .int s_t_book_villages]))] → va_S A s.heap H locs → lv_has ls 5 [(2, .int y2_3)] → W p l e rmX6_farFrom s m args below meth c H locs 0 0 Q (F0 m 49 ls [])) → W p l e rmX6_farFrom s m args below meth c H locs 0 0 Q (F0 m 4 ls []) := by
    intro n
    induction n with
    | zero => intro x2_1 x3_2 y2_3 hF; exact (no_some hF).elim
    | succ n ih =>
      intro x2_1 x3_2 y2_3 hF H locs ls hP hD hS hl kexit
      rw [f_X6_farFrom_L4] at hF
      refine lv_iload_n hx hb dX6_farFrom_4 rfl (lv_at hl 3 rfl) ?_
      refine lv_bipush (v := (10 : Int32)) hx hb dX6_farFrom_5 (by decide) ?_
      refine lv_icmp_ge (tgt := 49) hx hb dX6_farFrom_7 (by decide) (fun c_4 => ?_) (fun c_4 => ?_)
      · replace hF := if_t c_4 hF
        obtain rfl := Option.some.inj hF
        exact kexit _ _ _ hP hD hS (lv_sub hl [2] rfl)
      · replace hF := if_f c_4 hF
        refine lv_iload_n hx hb dX6_farFrom_10 rfl (lv_at hl 1 rfl) ?_
        refine lv_iload_n hx hb dX6_farFrom_11 rfl (lv_at hl 3 rfl) ?_
        refine lv_isub hx hb dX6_farFrom_12 ?_
        refine va_mabs hx hb (hml.trans hl.1.symm) hown (hts _ (List.mem_cons_of_mem _ xw_539)) (hts _ (List.mem_cons_of_mem _ xw_540)) (hts _ (List.mem_cons_of_mem _ xw_14)) (hts _ (List.mem_cons_of_mem _ xw_541)) (Nat.le_of_ble_eq_true rfl) (Nat.le_of_ble_eq_true rfl) (Nat.zero_le _) (Nat.zero_le _) dX6_farFrom_13 ?_
        refine lv_istore (lv' := [(4, .int (if 0 ≤ (i1 - x3_2) then (i1 - x3_2) else 0 - (i1 - x3_2))), (0, .ref a_t), (1, .int i1), (2, .int x2_1), (3, .int x3_2)]) hx hb dX6_farFrom_16 hl (by decide) rfl (fun ls hl => ?_)
        refine lv_iload_n hx hb dX6_farFrom_18 rfl (lv_at hl 3 rfl) ?_
        refine lv_aload_n hx hb dX6_farFrom_19 rfl (lv_at hl 1 rfl) ?_
        refine xget (ci := 6) (C := RX6) (T := TX6) (N := 13) hfix xiX6 hK.1 hP 0 rfl rfl 8 (by decide) rfl xw_169 rfl dX6_farFrom_20 ?_
        refine lv_iload_n hx hb dX6_farFrom_23 rfl (lv_at hl 4 rfl) ?_
        obtain ⟨c_5, hF⟩ := gd_e hF
        refine va_iald hx hb hK.1 hP 1 0 rfl rfl c_5 dX6_farFrom_24 ?_
        refine lv_iload hx hb dX6_farFrom_25 (lv_at hl 0 rfl) ?_
        refine lv_aload_n hx hb dX6_farFrom_27 rfl (lv_at hl 1 rfl) ?_
        refine xget (ci := 6) (C := RX6) (T := TX6) (N := 13) hfix xiX6 hK.1 hP 0 rfl rfl 0 (by decide) rfl xw_161 rfl dX6_farFrom_28 ?_
        refine xget (ci := 0) (C := RX0) (T := TX0) (N := 5) hfix xiX0 hK.1 hP 2 rfl rfl 4 (by decide) rfl xw_46 rfl dX6_farFrom_31 ?_
        refine lv_iload hx hb dX6_farFrom_34 (lv_at hl 0 rfl) ?_
        refine lv_isub hx hb dX6_farFrom_36 ?_
        refine va_mmin hx hb (hml.trans hl.1.symm) hown (hts _ (List.mem_cons_of_mem _ xw_542)) (hts _ (List.mem_cons_of_mem _ xw_543)) (hts _ (List.mem_cons_of_mem _ xw_14)) (hts _ (List.mem_cons_of_mem _ xw_544)) (Nat.le_of_ble_eq_true rfl) (Nat.le_of_ble_eq_true rfl) (Nat.zero_le _) (Nat.zero_le _) dX6_farFrom_37 ?_
        refine lv_imul hx hb dX6_farFrom_40 ?_
        refine lv_iadd hx hb dX6_farFrom_41 ?_
        refine lv_istore_n (lv' := [(2, .int (x2_1 + ((v_t_shares x3_2.toNatClampNeg) * (if (s_t_book_villages - (if 0 ≤ (i1 - x3_2) then (i1 - x3_2) else 0 - (i1 - x3_2))) < (if 0 ≤ (i1 - x3_2) then (i1 - x3_2) else 0 - (i1 - x3_2)) then (s_t_book_villages - (if 0 ≤ (i1 - x3_2) then (i1 - x3_2) else 0 - (i1 - x3_2))) else (if 0 ≤ (i1 - x3_2) then (i1 - x3_2) else 0 - (i1 - x3_2)))))), (4, .int (if 0 ≤ (i1 - x3_2) then (i1 - x3_2) else 0 - (i1 - x3_2))), (0, .ref a_t), (1, .int i1), (3, .int x3_2)]) hx hb dX6_farFrom_42 rfl hl (by decide) rfl (fun ls hl => ?_)
        refine lv_iinc (v := (x3_2 + (1 : Int32))) (lv' := [(3, .int (x3_2 + (1 : Int32))), (2, .int (x2_1 + ((v_t_shares x3_2.toNatClampNeg) * (if (s_t_book_villages - (if 0 ≤ (i1 - x3_2) then (i1 - x3_2) else 0 - (i1 - x3_2))) < (if 0 ≤ (i1 - x3_2) then (i1 - x3_2) else 0 - (i1 - x3_2)) then (s_t_book_villages - (if 0 ≤ (i1 - x3_2) then (i1 - x3_2) else 0 - (i1 - x3_2))) else (if 0 ≤ (i1 - x3_2) then (i1 - x3_2) else 0 - (i1 - x3_2)))))), (4, .int (if 0 ≤ (i1 - x3_2) then (i1 - x3_2) else 0 - (i1 - x3_2))), (0, .ref a_t), (1, .int i1)]) hx hb dX6_farFrom_43 hl (k := 4) rfl rfl (by decide) rfl (fun ls hl => ?_)
        refine lv_goto (tgt := 4) hx hb dX6_farFrom_46 (by decide) ?_
        exact ih _ _ _ hF _ _ _ hP hD hS (lv_sub hl [3, 4, 1, 0] rfl) kexit
  obtain ⟨y2_3, hq, hF⟩ := bd1_e hF
  refine hL_4 _ _ _ _ hq _ _ _ hP hD hS (lv_sub hl [2, 3, 1, 0] rfl) (fun H locs ls hP hD hS hl => ?_)
  refine lv_iload_n hx hb dX6_farFrom_49 rfl (lv_at hl 0 rfl) ?_
  obtain rfl := Option.some.inj hF
  exact hEnd _ _ _ _ _ dX6_farFrom_50 hP hS rfl
def f_X6_camp_L27 (s_t_book_villages : Int32) (o_4 : (Nat → Int32)) : Nat → Int32 → Int32 → Option (Int32)
  | 0, _, _ => none
  | n + 1, x3_7, x4_8 => (if s_t_book_villages ≤ x4_8 then some (x3_7) else bd1 (f_X6_farFrom x4_8 o_4 s_t_book_villages) (fun (r_11 : Int32) => bd1 (f_X6_farFrom x3_7 o_4 s_t_book_villages) (fun (r_13 : Int32) => (if r_13 ≤ r_11 then f_X6_camp_L27 s_t_book_villages o_4 n x3_7 (x4_8 + (1 : Int32)) else f_X6_camp_L27 s_t_book_villages o_4 n x4_8 (x4_8 + (1 : Int32))))))
def f_X6_camp (i1 : Int32) (i2 : Int32) (v_t_shares : (Nat → Int32)) (s_t_book_villages : Int32) (v_t_book_village : (Nat → Int32)) (v_t_book_mark : (Nat → Int32)) : Option (Int32 × (Nat → Int32)) := (if (f_X6_badWhen i1 i2) = (0 : Int32) then bd2 (f_X6_weigh i1 i2 v_t_shares s_t_book_villages v_t_book_village v_t_book_mark) (fun (r_3 : Int32) (o_4 : (Nat → Int32)) => (if r_3 = (0 : Int32) then some (((-3 : Int32), o_4)) else bd1 (f_X6_camp_L27 s_t_book_villages o_4 1000 (0 : Int32) (1 : Int32)) (fun (y3_9 : Int32) => some ((y3_9, o_4))))) else some (((-1 : Int32), v_t_shares)))
abbrev rmX6_camp : Room := { frames := 6, cells := 0, slots := 0, locals := 141 }
set_option maxHeartbeats 400000 in
set_option maxRecDepth 100000 in
theorem c_X6_camp (l : Launch) (D : va_G) (cI cB cJ : ClassId) (a_t : Nat) (a_t_book : Nat) (a_t_kept : Nat) (a_t_told : Nat) (a_t_tape : Nat) (a_t_rows : Nat) (a_t_sheets : Nat) (a_t_shelves : Nat) (a_t_thing : Nat) (a_t_shares : Nat) (a_t_ahead : Nat) (a_t_book_village : Nat) (a_t_book_mark : Nat) (a_t_book_held : Nat) (sz : Nat) (s_t_isKept : Int32) (s_t_z : Int32) (s_t_keptZ : Int32) (s_t_book_heldCount : Int32) (s_t_book_villages : Int32) (v_t_shares : (Nat → Int32)) (v_t_book_village : (Nat → Int32)) (v_t_book_mark : (Nat → Int32)) (i1 : Int32) (i2 : Int32) (r : Int32) (o_v_t_shares : (Nat → Int32)) (hF : f_X6_camp i1 i2 v_t_shares s_t_book_villages v_t_book_village v_t_book_mark = some (r, o_v_t_shares)) : xMi l yX6_camp (.code yX6_camp cX6_camp 5 (some .int) :: xU) rmX6_camp (xK D cI cB cJ) D sz [.ref a_t, .int i1, .int i2] [(a_t, .inr (6, [.ref a_t_book, .ref a_t_kept, .ref a_t_told, .ref a_t_tape, .ref a_t_rows, .ref a_t_sheets, .ref a_t_shelves, .ref a_t_thing, .ref a_t_shares, .ref a_t_ahead, .int s_t_isKept, .int s_t_z, .int s_t_keptZ])), (a_t_shares, .inl (cI, 10, .inl v_t_shares)), (a_t_book, .inr (0, [.ref a_t_book_village, .ref a_t_book_mark, .ref a_t_book_held, .int s_t_book_heldCount, .int s_t_book_villages])), (a_t_book_village, .inl (cI, 24, .inl v_t_book_village)), (a_t_book_mark, .inl (cI, 24, .inl v_t_book_mark))] [(a_t, .inr (6, [.ref a_t_book, .ref a_t_kept, .ref a_t_told, .ref a_t_tape, .ref a_t_rows, .ref a_t_sheets, .ref a_t_shelves, .ref a_t_thing, .ref a_t_shares, .ref a_t_ahead, .int s_t_isKept, .int s_t_z, .int s_t_keptZ])), (a_t_shares, .inl (cI, 10, .inl o_v_t_shares)), (a_t_book, .inr (0, [.ref a_t_book_village, .ref a_t_book_mark, .ref a_t_book_held, .int s_t_book_heldCount, .int s_t_book_villages])), (a_t_book_village, .inl (cI, 24, .inl v_t_book_village)), (a_t_book_mark, .inl (cI, 24, .inl v_t_book_mark))] r := by
  refine xMi.mk (own := "FairNext") (by decide +kernel) rfl (Nat.le_of_ble_eq_true rfl) ?_
  intro p e s m args below meth c A Q ls H hfix hK hP hD hA hS hl hEnd
  obtain ⟨hx, hb, hml, hown, hts⟩ := id hfix
  have hl : lv_has ls 5 [(0, .ref a_t), (1, .int i1), (2, .int i2)] := hl
  rw [f_X6_camp] at hF
  refine lv_iload_n hx hb dX6_camp_0 rfl (lv_at hl 1 rfl) ?_
  refine lv_iload_n hx hb dX6_camp_1 rfl (lv_at hl 2 rfl) ?_
  refine xrz0 (xrunS (As := [.int i1, .int i2]) (rest := []) (c_X6_badWhen l D cI cB cJ _ i1 i2 (f_X6_badWhen i1 i2) rfl) hfix xw_502 ys_X6_badWhen ⟨rfl, rfl⟩ ⟨(Nat.le_of_ble_eq_true rfl), (Nat.le_of_ble_eq_true rfl)⟩ xKk_K (fun U hU hW => xK.warm hW hK) hP hD [] rfl rfl rfl hl.1 rfl (Nat.le_of_ble_eq_true rfl) dX6_camp_2 ⟨Nat.zero_le _, Nat.zero_le _⟩) hP hD hS hA [] rfl rfl (fun H locs hP hD hS hz_1 => ?_)
  refine lv_if_eq (tgt := 10) hx hb dX6_camp_5 (by decide) (fun c_2 => ?_) (fun c_2 => ?_)
  · replace hF := if_t c_2 hF
    refine lv_aload_n hx hb dX6_camp_10 rfl (lv_at hl 0 rfl) ?_
    refine lv_iload_n hx hb dX6_camp_11 rfl (lv_at hl 1 rfl) ?_
    refine lv_iload_n hx hb dX6_camp_12 rfl (lv_at hl 2 rfl) ?_
    obtain ⟨r_3, o_4, hq_5, hF⟩ := bd2_e hF
    refine xri (xrunV (As := [.int i1, .int i2]) (rest := []) (c_X6_weigh l D cI cB cJ a_t a_t_book a_t_kept a_t_told a_t_tape a_t_rows a_t_sheets a_t_shelves a_t_thing a_t_shares a_t_ahead a_t_book_village a_t_book_mark a_t_book_held _ s_t_isKept s_t_z s_t_keptZ s_t_book_heldCount s_t_book_villages v_t_shares v_t_book_village v_t_book_mark i1 i2 r_3 o_4 hq_5) hfix xw_505 yv_X6_weigh ⟨rfl, rfl⟩ ⟨(Nat.le_of_ble_eq_true rfl), (Nat.le_of_ble_eq_true rfl)⟩ xKk_K (fun U hU hW => xK.warm hW hK) hK.1 hP hD [0, 1, 2, 3, 4] rfl rfl 0 6 rfl rfl rfl rfl hl.1 rfl (Nat.le_of_ble_eq_true rfl) dX6_camp_13 ⟨Nat.zero_le _, Nat.zero_le _⟩) hP hD hS hA [0, 1, 2, 3, 4] rfl rfl rfl (wn := [(a_t, .inr (6, [.ref a_t_book, .ref a_t_kept, .ref a_t_told, .ref a_t_tape, .ref a_t_rows, .ref a_t_sheets, .ref a_t_shelves, .ref a_t_thing, .ref a_t_shares, .ref a_t_ahead, .int s_t_isKept, .int s_t_z, .int s_t_keptZ])), (a_t_shares, .inl (cI, 10, .inl o_4)), (a_t_book, .inr (0, [.ref a_t_book_village, .ref a_t_book_mark, .ref a_t_book_held, .int s_t_book_heldCount, .int s_t_book_villages])), (a_t_book_village, .inl (cI, 24, .inl v_t_book_village)), (a_t_book_mark, .inl (cI, 24, .inl v_t_book_mark))]) rfl (fun H locs hP hD hS => ?_)
    refine lv_if_ne (tgt := 22) hx hb dX6_camp_16 (by decide) (fun c_6 => ?_) (fun c_6 => ?_)
    · replace hF := if_f c_6 hF
      refine lv_iconst (v := (0 : Int32)) hx hb dX6_camp_22 (by decide) ?_
      refine lv_istore_n (lv' := [(3, .int (0 : Int32)), (0, .ref a_t), (1, .int i1), (2, .int i2)]) hx hb dX6_camp_23 rfl hl (by decide) rfl (fun ls hl => ?_)
      refine lv_iconst (v := (1 : Int32)) hx hb dX6_camp_24 (by decide) ?_
      refine lv_istore (lv' := [(4, .int (1 : Int32)), (3, .int (0 : Int32)), (0, .ref a_t), (1, .int i1), (2, .int i2)]) hx hb dX6_camp_25 hl (by decide) rfl (fun ls hl => ?_)
      have hL_27 : ∀ (n : Nat) (x3_7 : Int32) (x4_8 : Int32) (y3_9 : Int32), f_X6_camp_L27 s_t_book_villages o_4 n x3_7 x4_8 = some y3_9 → ∀ (H : Heap) (locs : List Loc) (ls : Array Slot), va_P D vwCl [(a_t, .inr (6, [.ref a_t_book, .ref a_t_kept, .ref a_t_told, .ref a_t_tape, .ref a_t_rows, .ref a_t_sheets, .ref a_t_shelves, .ref a_t_thing, .ref a_t_shares, .ref a_t_ahead, .int s_t_isKept, .int s_t_z, .int s_t_keptZ])), (a_t_shares, .inl (cI, 10, .inl o_4)), (a_t_book, .inr (0, [.ref a_t_book_village, .ref a_t_book_mark, .ref a_t_book_held, .int s_t_book_heldCount, .int s_t_book_villages])), (a_t_book_village, .inl (cI, 24, .inl v_t_book_village)), (a_t_book_mark, .inl (cI, 24, .inl v_t_book_mark))] H → va_D A [(a_t, .inr (6, [.ref a_t_book, .ref a_t_kept, .ref a_t_told, .ref a_t_tape, .ref a_t_rows, .ref a_t_sheets, .ref a_t_shelves, .ref a_t_thing, .ref a_t_shares, .ref a_t_ahead, .int s_t_isKept, .int s_t_z, .int s_t_keptZ])), (a_t_shares, .inl (cI, 10, .inl o_4)), (a_t_book, .inr (0, [.ref a_t_book_village, .ref a_t_book_mark, .ref a_t_book_held, .int s_t_book_heldCount, .int s_t_book_villages])), (a_t_book_village, .inl (cI, 24, .inl v_t_book_village)), (a_t_book_mark, .inl (cI, 24, .inl v_t_book_mark))] → va_S A s.heap H locs → lv_has ls 5 [(0, .ref a_t), (3, .int x3_7), (4, .int x4_8)] → (∀ (H : Heap) (locs : List Loc) (ls : Array Slot), va_P D vwCl [(a_t, .inr (6, [.ref a_t_book, .ref a_t_kept, .ref a_t_told, .ref a_t_tape, .ref a_t_rows, .ref a_t_sheets, .ref a_t_shelves, .ref a_t_thing, .ref a_t_shares, .ref a_t_ahead, .int s_t_isKept, .int s_t_z, .int s_t_keptZ])), (a_t_shares, .inl (cI, 10, .inl o_4)), (a_t_book, .inr (0, [.ref a_t_book_village, .ref a_t_book_mark, .ref a_t_book_held, .int s_t_book_heldCount, .int s_t_book_villages])), (a_t_book_village, .inl (cI, 24, .inl v_t_book_village)), (a_t_book_mark, .inl (cI, 24, .inl v_t_book_mark))] H → va_D A [(a_t, .inr (6, [.ref a_t_book, .ref a_t_kept, .ref a_t_told, .ref a_t_tape, .ref a_t_rows, .ref a_t_sheets, .ref a_t_shelves, .ref a_t_thing, .ref a_t_shares, .ref a_t_ahead, .int s_t_isKept, .int s_t_z, .int s_t_keptZ])), (a_t_shares, .inl (cI, 10, .inl o_4)), (a_t_book, .inr (0, [.ref a_t_book_village, .ref a_t_book_mark, .ref a_t_book_held, .int s_t_book_heldCount, .int s_t_book_villages])), (a_t_book_village, .inl (cI, 24, .inl v_t_book_village)), (a_t_book_mark, .inl (cI, 24, .inl v_t_book_mark))] → va_S A s.heap H locs → lv_has ls 5 [(3, .int y3_9)] → W p l e rmX6_camp s m args below meth c H locs 0 0 Q (F0 m 62 ls [])) → W p l e rmX6_camp s m args below meth c H locs 0 0 Q (F0 m 27 ls []) := by
        intro n
        induction n with
        | zero => intro x3_7 x4_8 y3_9 hF; exact (no_some hF).elim
        | succ n ih =>
          intro x3_7 x4_8 y3_9 hF H locs ls hP hD hS hl kexit
          rw [f_X6_camp_L27] at hF
          refine lv_iload hx hb dX6_camp_27 (lv_at hl 2 rfl) ?_
          refine lv_aload_n hx hb dX6_camp_29 rfl (lv_at hl 0 rfl) ?_
          refine xget (ci := 6) (C := RX6) (T := TX6) (N := 13) hfix xiX6 hK.1 hP 0 rfl rfl 0 (by decide) rfl xw_161 rfl dX6_camp_30 ?_
          refine xget (ci := 0) (C := RX0) (T := TX0) (N := 5) hfix xiX0 hK.1 hP 2 rfl rfl 4 (by decide) rfl xw_46 rfl dX6_camp_33 ?_
          refine lv_icmp_ge (tgt := 62) hx hb dX6_camp_36 (by decide) (fun c_10 => ?_) (fun c_10 => ?_)
          · replace hF := if_t c_10 hF
            obtain rfl := Option.some.inj hF
            exact kexit _ _ _ hP hD hS (lv_sub hl [1] rfl)
          · replace hF := if_f c_10 hF
            refine lv_aload_n hx hb dX6_camp_39 rfl (lv_at hl 0 rfl) ?_
            refine lv_iload hx hb dX6_camp_40 (lv_at hl 2 rfl) ?_
            obtain ⟨r_11, hq_12, hF⟩ := bd1_e hF
            refine xri0 (xrunV (As := [.int x4_8]) (rest := []) (c_X6_farFrom l D cI cB cJ a_t a_t_book a_t_kept a_t_told a_t_tape a_t_rows a_t_sheets a_t_shelves a_t_thing a_t_shares a_t_ahead a_t_book_village a_t_book_mark a_t_book_held _ s_t_isKept s_t_z s_t_keptZ s_t_book_heldCount s_t_book_villages o_4 x4_8 r_11 hq_12) hfix xw_535 yv_X6_farFrom ⟨rfl, rfl⟩ ⟨(Nat.le_of_ble_eq_true rfl), (Nat.le_of_ble_eq_true rfl)⟩ xKk_K (fun U hU hW => xK.warm hW hK) hK.1 hP hD [0, 1, 2] rfl rfl 0 6 rfl rfl rfl rfl hl.1 rfl (Nat.le_of_ble_eq_true rfl) dX6_camp_42 ⟨Nat.zero_le _, Nat.zero_le _⟩) hP hD hS hA [0, 1, 2] rfl rfl (fun H locs hP hD hS => ?_)
            refine lv_aload_n hx hb dX6_camp_45 rfl (lv_at hl 0 rfl) ?_
            refine lv_iload_n hx hb dX6_camp_46 rfl (lv_at hl 1 rfl) ?_
            obtain ⟨r_13, hq_14, hF⟩ := bd1_e hF
            refine xri0 (xrunV (As := [.int x3_7]) (rest := [.int r_11]) (c_X6_farFrom l D cI cB cJ a_t a_t_book a_t_kept a_t_told a_t_tape a_t_rows a_t_sheets a_t_shelves a_t_thing a_t_shares a_t_ahead a_t_book_village a_t_book_mark a_t_book_held _ s_t_isKept s_t_z s_t_keptZ s_t_book_heldCount s_t_book_villages o_4 x3_7 r_13 hq_14) hfix xw_535 yv_X6_farFrom ⟨rfl, rfl⟩ ⟨(Nat.le_of_ble_eq_true rfl), (Nat.le_of_ble_eq_true rfl)⟩ xKk_K (fun U hU hW => xK.warm hW hK) hK.1 hP hD [0, 1, 2] rfl rfl 0 6 rfl rfl rfl rfl hl.1 rfl (Nat.le_of_ble_eq_true rfl) dX6_camp_47 ⟨Nat.zero_le _, Nat.zero_le _⟩) hP hD hS hA [0, 1, 2] rfl rfl (fun H locs hP hD hS => ?_)
            refine lv_icmp_ge (tgt := 56) hx hb dX6_camp_50 (by decide) (fun c_15 => ?_) (fun c_15 => ?_)
            · replace hF := if_t c_15 hF
              refine lv_iinc (v := (x4_8 + (1 : Int32))) (lv' := [(4, .int (x4_8 + (1 : Int32))), (0, .ref a_t), (3, .int x3_7)]) hx hb dX6_camp_56 hl (k := 2) rfl rfl (by decide) rfl (fun ls hl => ?_)
              refine lv_goto (tgt := 27) hx hb dX6_camp_59 (by decide) ?_
              exact ih _ _ _ hF _ _ _ hP hD hS (lv_sub hl [1, 2, 0] rfl) kexit
            · replace hF := if_f c_15 hF
              refine lv_iload hx hb dX6_camp_53 (lv_at hl 2 rfl) ?_
              refine lv_istore_n (lv' := [(3, .int x4_8), (0, .ref a_t), (4, .int x4_8)]) hx hb dX6_camp_55 rfl hl (by decide) rfl (fun ls hl => ?_)
              refine lv_iinc (v := (x4_8 + (1 : Int32))) (lv' := [(4, .int (x4_8 + (1 : Int32))), (3, .int x4_8), (0, .ref a_t)]) hx hb dX6_camp_56 hl (k := 2) rfl rfl (by decide) rfl (fun ls hl => ?_)
              refine lv_goto (tgt := 27) hx hb dX6_camp_59 (by decide) ?_
              exact ih _ _ _ hF _ _ _ hP hD hS (lv_sub hl [2, 1, 0] rfl) kexit
      obtain ⟨y3_9, hq, hF⟩ := bd1_e hF
      refine hL_27 _ _ _ _ hq _ _ _ hP hD hS (lv_sub hl [2, 1, 0] rfl) (fun H locs ls hP hD hS hl => ?_)
      refine lv_iload_n hx hb dX6_camp_62 rfl (lv_at hl 0 rfl) ?_
      obtain ⟨rfl, rfl⟩ := pj2 hF
      exact hEnd _ _ _ _ _ dX6_camp_63 hP hS rfl
    · replace hF := if_t c_6 hF
      refine lv_bipush (v := (-3 : Int32)) hx hb dX6_camp_19 (by decide) ?_
      obtain ⟨rfl, rfl⟩ := pj2 hF
      exact hEnd _ _ _ _ _ dX6_camp_21 hP hS rfl
  · replace hF := if_f c_2 hF
    refine lv_iconst (v := (-1 : Int32)) hx hb dX6_camp_8 (by decide) ?_
    obtain ⟨rfl, rfl⟩ := pj2 hF
    exact hEnd _ _ _ _ _ dX6_camp_9 hP hS rfl
def f_X6_seed (i1 : Int32) (s_t_z : Int32) : Option (Int32 × Int32) := some ((s_t_z, i1))
abbrev rmX6_seed : Room := { frames := 0, cells := 0, slots := 0, locals := 0 }
set_option maxHeartbeats 400000 in
set_option maxRecDepth 100000 in
theorem c_X6_seed (l : Launch) (D : va_G) (cI cB cJ : ClassId) (a_t : Nat) (a_t_book : Nat) (a_t_kept : Nat) (a_t_told : Nat) (a_t_tape : Nat) (a_t_rows : Nat) (a_t_sheets : Nat) (a_t_shelves : Nat) (a_t_thing : Nat) (a_t_shares : Nat) (a_t_ahead : Nat) (sz : Nat) (s_t_isKept : Int32) (s_t_z : Int32) (s_t_keptZ : Int32) (i1 : Int32) (r : Int32) (o_s_t_z : Int32) (hF : f_X6_seed i1 s_t_z = some (r, o_s_t_z)) : xMi l yX6_seed (.code yX6_seed cX6_seed 3 (some .int) :: xU) rmX6_seed (xK D cI cB cJ) D sz [.ref a_t, .int i1] [(a_t, .inr (6, [.ref a_t_book, .ref a_t_kept, .ref a_t_told, .ref a_t_tape, .ref a_t_rows, .ref a_t_sheets, .ref a_t_shelves, .ref a_t_thing, .ref a_t_shares, .ref a_t_ahead, .int s_t_isKept, .int s_t_z, .int s_t_keptZ]))] [(a_t, .inr (6, [.ref a_t_book, .ref a_t_kept, .ref a_t_told, .ref a_t_tape, .ref a_t_rows, .ref a_t_sheets, .ref a_t_shelves, .ref a_t_thing, .ref a_t_shares, .ref a_t_ahead, .int s_t_isKept, .int o_s_t_z, .int s_t_keptZ]))] r := by
  refine xMi.mk (own := "FairNext") (by decide +kernel) rfl (Nat.le_of_ble_eq_true rfl) ?_
  intro p e s m args below meth c A Q ls H hfix hK hP hD hA hS hl hEnd
  obtain ⟨hx, hb, hml, hown, hts⟩ := id hfix
  have hl : lv_has ls 3 [(0, .ref a_t), (1, .int i1)] := hl
  rw [f_X6_seed] at hF
  refine lv_aload_n hx hb dX6_seed_0 rfl (lv_at hl 0 rfl) ?_
  refine xget (ci := 6) (C := RX6) (T := TX6) (N := 13) hfix xiX6 hK.1 hP 0 rfl rfl 11 (by decide) rfl xw_172 rfl dX6_seed_1 ?_
  refine lv_istore_n (lv' := [(2, .int s_t_z), (0, .ref a_t), (1, .int i1)]) hx hb dX6_seed_4 rfl hl (by decide) rfl (fun ls hl => ?_)
  refine lv_aload_n hx hb dX6_seed_5 rfl (lv_at hl 1 rfl) ?_
  refine lv_iload_n hx hb dX6_seed_6 rfl (lv_at hl 2 rfl) ?_
  refine xput (ci := 6) (C := RX6) (T := TX6) (N := 13) hfix xiX6 tyX6 tyX6_ok nmX6 hK.1 hP hD hS 0 rfl rfl 11 (by decide) rfl rfl xw_172 (ty := .int) rfl rfl rfl (Nat.le_of_ble_eq_true rfl) dX6_seed_7 (wn := [(a_t, .inr (6, [.ref a_t_book, .ref a_t_kept, .ref a_t_told, .ref a_t_tape, .ref a_t_rows, .ref a_t_sheets, .ref a_t_shelves, .ref a_t_thing, .ref a_t_shares, .ref a_t_ahead, .int s_t_isKept, .int i1, .int s_t_keptZ]))]) rfl (fun H locs hP hD hS => ?_)
  refine lv_iload_n hx hb dX6_seed_10 rfl (lv_at hl 0 rfl) ?_
  obtain ⟨rfl, rfl⟩ := pj2 hF
  exact hEnd _ _ _ _ _ dX6_seed_11 hP hS rfl
def f_X6_drawn_L6 (i1 : Int32) (s_t_book_villages : Int32) (v_t_book_village : (Nat → Int32)) (v_t_book_mark : (Nat → Int32)) (i2 : Int32) (i3 : Int32) : Nat → Int32 → Int32 → Option ((Unit) ⊕ (Int32))
  | 0, _, _ => none
  | n + 1, x4_1, x5_2 => (if (600 : Int32) ≤ x5_2 then some (.inl ()) else bd1 (f_X0_saying x5_2 i1 24 s_t_book_villages v_t_book_village v_t_book_mark) (fun (r_4 : Int32) => (if r_4 = (-9 : Int32) then f_X6_drawn_L6 i1 s_t_book_villages v_t_book_village v_t_book_mark i2 i3 n x4_1 (x5_2 + (1 : Int32)) else bd1 (f_X0_fitting x5_2 i2 s_t_book_villages v_t_book_village v_t_book_mark) (fun (r_7 : Int32) => (if r_7 = (0 : Int32) then f_X6_drawn_L6 i1 s_t_book_villages v_t_book_village v_t_book_mark i2 i3 n x4_1 (x5_2 + (1 : Int32)) else (if (x4_1 + (f_X6_shareOf x5_2)) ≤ i3 then f_X6_drawn_L6 i1 s_t_book_villages v_t_book_village v_t_book_mark i2 i3 n (x4_1 + (f_X6_shareOf x5_2)) (x5_2 + (1 : Int32)) else some (.inr (r_4))))))))
def f_X6_drawn (i1 : Int32) (i2 : Int32) (i3 : Int32) (s_t_book_villages : Int32) (v_t_book_village : (Nat → Int32)) (v_t_book_mark : (Nat → Int32)) : Option (Int32) := bs0 (f_X6_drawn_L6 i1 s_t_book_villages v_t_book_village v_t_book_mark i2 i3 1000 (0 : Int32) (0 : Int32)) (some ((-3 : Int32))) (fun q => some (q))
abbrev rmX6_drawn : Room := { frames := 5, cells := 0, slots := 0, locals := 116 }
set_option maxHeartbeats 400000 in
set_option maxRecDepth 100000 in
theorem c_X6_drawn (l : Launch) (D : va_G) (cI cB cJ : ClassId) (a_t : Nat) (a_t_book : Nat) (a_t_kept : Nat) (a_t_told : Nat) (a_t_tape : Nat) (a_t_rows : Nat) (a_t_sheets : Nat) (a_t_shelves : Nat) (a_t_thing : Nat) (a_t_shares : Nat) (a_t_ahead : Nat) (a_t_book_village : Nat) (a_t_book_mark : Nat) (a_t_book_held : Nat) (sz : Nat) (s_t_isKept : Int32) (s_t_z : Int32) (s_t_keptZ : Int32) (s_t_book_heldCount : Int32) (s_t_book_villages : Int32) (v_t_book_village : (Nat → Int32)) (v_t_book_mark : (Nat → Int32)) (i1 : Int32) (i2 : Int32) (i3 : Int32) (r : Int32) (hF : f_X6_drawn i1 i2 i3 s_t_book_villages v_t_book_village v_t_book_mark = some r) : xMi l yX6_drawn (.code yX6_drawn cX6_drawn 7 (some .int) :: xU) rmX6_drawn (xK D cI cB cJ) D sz [.ref a_t, .int i1, .int i2, .int i3] [(a_t, .inr (6, [.ref a_t_book, .ref a_t_kept, .ref a_t_told, .ref a_t_tape, .ref a_t_rows, .ref a_t_sheets, .ref a_t_shelves, .ref a_t_thing, .ref a_t_shares, .ref a_t_ahead, .int s_t_isKept, .int s_t_z, .int s_t_keptZ])), (a_t_book, .inr (0, [.ref a_t_book_village, .ref a_t_book_mark, .ref a_t_book_held, .int s_t_book_heldCount, .int s_t_book_villages])), (a_t_book_village, .inl (cI, 24, .inl v_t_book_village)), (a_t_book_mark, .inl (cI, 24, .inl v_t_book_mark))] [(a_t, .inr (6, [.ref a_t_book, .ref a_t_kept, .ref a_t_told, .ref a_t_tape, .ref a_t_rows, .ref a_t_sheets, .ref a_t_shelves, .ref a_t_thing, .ref a_t_shares, .ref a_t_ahead, .int s_t_isKept, .int s_t_z, .int s_t_keptZ])), (a_t_book, .inr (0, [.ref a_t_book_village, .ref a_t_book_mark, .ref a_t_book_held, .int s_t_book_heldCount, .int s_t_book_villages])), (a_t_book_village, .inl (cI, 24, .inl v_t_book_village)), (a_t_book_mark, .inl (cI, 24, .inl v_t_book_mark))] r := by
  refine xMi.mk (own := "FairNext") (by decide +kernel) rfl (Nat.le_of_ble_eq_true rfl) ?_
  intro p e s m args below meth c A Q ls H hfix hK hP hD hA hS hl hEnd
  obtain ⟨hx, hb, hml, hown, hts⟩ := id hfix
  have hl : lv_has ls 7 [(0, .ref a_t), (1, .int i1), (2, .int i2), (3, .int i3)] := hl
  rw [f_X6_drawn] at hF
  refine lv_iconst (v := (0 : Int32)) hx hb dX6_drawn_0 (by decide) ?_
  refine lv_istore (lv' := [(4, .int (0 : Int32)), (0, .ref a_t), (1, .int i1), (2, .int i2), (3, .int i3)]) hx hb dX6_drawn_1 hl (by decide) rfl (fun ls hl => ?_)
  refine lv_iconst (v := (0 : Int32)) hx hb dX6_drawn_3 (by decide) ?_
  refine lv_istore (lv' := [(5, .int (0 : Int32)), (4, .int (0 : Int32)), (0, .ref a_t), (1, .int i1), (2, .int i2), (3, .int i3)]) hx hb dX6_drawn_4 hl (by decide) rfl (fun ls hl => ?_)
  have hL_6 : ∀ (n : Nat) (x4_1 : Int32) (x5_2 : Int32) (_res : (Unit) ⊕ (Int32)), f_X6_drawn_L6 i1 s_t_book_villages v_t_book_village v_t_book_mark i2 i3 n x4_1 x5_2 = some _res → ∀ (H : Heap) (locs : List Loc) (ls : Array Slot), va_P D vwCl [(a_t, .inr (6, [.ref a_t_book, .ref a_t_kept, .ref a_t_told, .ref a_t_tape, .ref a_t_rows, .ref a_t_sheets, .ref a_t_shelves, .ref a_t_thing, .ref a_t_shares, .ref a_t_ahead, .int s_t_isKept, .int s_t_z, .int s_t_keptZ])), (a_t_book, .inr (0, [.ref a_t_book_village, .ref a_t_book_mark, .ref a_t_book_held, .int s_t_book_heldCount, .int s_t_book_villages])), (a_t_book_village, .inl (cI, 24, .inl v_t_book_village)), (a_t_book_mark, .inl (cI, 24, .inl v_t_book_mark))] H → va_D A [(a_t, .inr (6, [.ref a_t_book, .ref a_t_kept, .ref a_t_told, .ref a_t_tape, .ref a_t_rows, .ref a_t_sheets, .ref a_t_shelves, .ref a_t_thing, .ref a_t_shares, .ref a_t_ahead, .int s_t_isKept, .int s_t_z, .int s_t_keptZ])), (a_t_book, .inr (0, [.ref a_t_book_village, .ref a_t_book_mark, .ref a_t_book_held, .int s_t_book_heldCount, .int s_t_book_villages])), (a_t_book_village, .inl (cI, 24, .inl v_t_book_village)), (a_t_book_mark, .inl (cI, 24, .inl v_t_book_mark))] → va_S A s.heap H locs → lv_has ls 7 [(0, .ref a_t), (1, .int i1), (2, .int i2), (3, .int i3), (4, .int x4_1), (5, .int x5_2)] → (_res = .inl () → ∀ (H : Heap) (locs : List Loc) (ls : Array Slot), va_P D vwCl [(a_t, .inr (6, [.ref a_t_book, .ref a_t_kept, .ref a_t_told, .ref a_t_tape, .ref a_t_rows, .ref a_t_sheets, .ref a_t_shelves, .ref a_t_thing, .ref a_t_shares, .ref a_t_ahead, .int s_t_isKept, .int s_t_z, .int s_t_keptZ])), (a_t_book, .inr (0, [.ref a_t_book_village, .ref a_t_book_mark, .ref a_t_book_held, .int s_t_book_heldCount, .int s_t_book_villages])), (a_t_book_village, .inl (cI, 24, .inl v_t_book_village)), (a_t_book_mark, .inl (cI, 24, .inl v_t_book_mark))] H → va_D A [(a_t, .inr (6, [.ref a_t_book, .ref a_t_kept, .ref a_t_told, .ref a_t_tape, .ref a_t_rows, .ref a_t_sheets, .ref a_t_shelves, .ref a_t_thing, .ref a_t_shares, .ref a_t_ahead, .int s_t_isKept, .int s_t_z, .int s_t_keptZ])), (a_t_book, .inr (0, [.ref a_t_book_village, .ref a_t_book_mark, .ref a_t_book_held, .int s_t_book_heldCount, .int s_t_book_villages])), (a_t_book_village, .inl (cI, 24, .inl v_t_book_village)), (a_t_book_mark, .inl (cI, 24, .inl v_t_book_mark))] → va_S A s.heap H locs → lv_has ls 7 [] → W p l e rmX6_drawn s m args below meth c H locs 0 0 Q (F0 m 78 ls [])) → (∀ q : Int32, _res = .inr q → q = r) → W p l e rmX6_drawn s m args below meth c H locs 0 0 Q (F0 m 6 ls []) := by
    intro n
    induction n with
    | zero => intro x4_1 x5_2 _res hF; exact (no_some hF).elim
    | succ n ih =>
      intro x4_1 x5_2 _res hF H locs ls hP hD hS hl kexit hret
      rw [f_X6_drawn_L6] at hF
      refine lv_iload hx hb dX6_drawn_6 (lv_at hl 5 rfl) ?_
      refine lv_sipush (v := (600 : Int32)) hx hb dX6_drawn_8 (by decide) ?_
      refine lv_icmp_ge (tgt := 78) hx hb dX6_drawn_11 (by decide) (fun c_3 => ?_) (fun c_3 => ?_)
      · replace hF := if_t c_3 hF
        obtain rfl := Option.some.inj hF
        exact kexit rfl _ _ _ hP hD hS (lv_sub hl [] rfl)
      · replace hF := if_f c_3 hF
        refine lv_aload_n hx hb dX6_drawn_14 rfl (lv_at hl 0 rfl) ?_
        refine xget (ci := 6) (C := RX6) (T := TX6) (N := 13) hfix xiX6 hK.1 hP 0 rfl rfl 0 (by decide) rfl xw_161 rfl dX6_drawn_15 ?_
        refine lv_iload hx hb dX6_drawn_18 (lv_at hl 5 rfl) ?_
        refine lv_iload_n hx hb dX6_drawn_20 rfl (lv_at hl 1 rfl) ?_
        refine lv_aload_n hx hb dX6_drawn_21 rfl (lv_at hl 0 rfl) ?_
        refine xget (ci := 6) (C := RX6) (T := TX6) (N := 13) hfix xiX6 hK.1 hP 0 rfl rfl 0 (by decide) rfl xw_161 rfl dX6_drawn_22 ?_
        refine xget (ci := 0) (C := RX0) (T := TX0) (N := 5) hfix xiX0 hK.1 hP 1 rfl rfl 0 (by decide) rfl xw_34 rfl dX6_drawn_25 ?_
        obtain ⟨r_4, hq_5, hF⟩ := bd1_e hF
        refine xri0 (xrunV (As := [.int x5_2, .int i1, .ref a_t_book_village]) (rest := []) (c_X0_saying l D cI cB cJ a_t_book a_t_book_village a_t_book_mark a_t_book_held a_t_book_village _ 24 s_t_book_heldCount s_t_book_villages v_t_book_village v_t_book_mark x5_2 i1 r_4 hq_5) hfix xw_438 yv_X0_saying ⟨rfl, rfl⟩ ⟨(Nat.le_of_ble_eq_true rfl), (Nat.le_of_ble_eq_true rfl)⟩ xKk_K (fun U hU hW => xK.warm hW hK) hK.1 hP hD [1, 2, 3] rfl rfl 1 0 rfl rfl rfl rfl hl.1 rfl (Nat.le_of_ble_eq_true rfl) dX6_drawn_28 ⟨Nat.zero_le _, Nat.zero_le _⟩) hP hD hS hA [1, 2, 3] rfl rfl (fun H locs hP hD hS => ?_)
        refine lv_istore (lv' := [(6, .int r_4), (0, .ref a_t), (1, .int i1), (2, .int i2), (3, .int i3), (4, .int x4_1), (5, .int x5_2)]) hx hb dX6_drawn_31 hl (by decide) rfl (fun ls hl => ?_)
        refine lv_iload hx hb dX6_drawn_33 (lv_at hl 0 rfl) ?_
        refine lv_bipush (v := (-9 : Int32)) hx hb dX6_drawn_35 (by decide) ?_
        refine lv_icmp_eq (tgt := 72) hx hb dX6_drawn_37 (by decide) (fun c_6 => ?_) (fun c_6 => ?_)
        · replace hF := if_t c_6 hF
          refine lv_iinc (v := (x5_2 + (1 : Int32))) (lv' := [(5, .int (x5_2 + (1 : Int32))), (6, .int r_4), (0, .ref a_t), (1, .int i1), (2, .int i2), (3, .int i3), (4, .int x4_1)]) hx hb dX6_drawn_72 hl (k := 6) rfl rfl (by decide) rfl (fun ls hl => ?_)
          refine lv_goto (tgt := 6) hx hb dX6_drawn_75 (by decide) ?_
          exact ih _ _ _ hF _ _ _ hP hD hS (lv_sub hl [2, 3, 4, 5, 6, 0] rfl) kexit hret
        · replace hF := if_f c_6 hF
          refine lv_aload_n hx hb dX6_drawn_40 rfl (lv_at hl 1 rfl) ?_
          refine xget (ci := 6) (C := RX6) (T := TX6) (N := 13) hfix xiX6 hK.1 hP 0 rfl rfl 0 (by decide) rfl xw_161 rfl dX6_drawn_41 ?_
          refine lv_iload hx hb dX6_drawn_44 (lv_at hl 6 rfl) ?_
          refine lv_iload_n hx hb dX6_drawn_46 rfl (lv_at hl 3 rfl) ?_
          obtain ⟨r_7, hq_8, hF⟩ := bd1_e hF
          refine xrz0 (xrunV (As := [.int x5_2, .int i2]) (rest := []) (c_X0_fitting l D cI cB cJ a_t_book a_t_book_village a_t_book_mark a_t_book_held _ s_t_book_heldCount s_t_book_villages v_t_book_village v_t_book_mark x5_2 i2 r_7 hq_8) hfix xw_483 yv_X0_fitting ⟨rfl, rfl⟩ ⟨(Nat.le_of_ble_eq_true rfl), (Nat.le_of_ble_eq_true rfl)⟩ xKk_K (fun U hU hW => xK.warm hW hK) hK.1 hP hD [1, 2, 3] rfl rfl 1 0 rfl rfl rfl rfl hl.1 rfl (Nat.le_of_ble_eq_true rfl) dX6_drawn_47 ⟨Nat.zero_le _, Nat.zero_le _⟩) hP hD hS hA [1, 2, 3] rfl rfl (fun H locs hP hD hS hz_9 => ?_)
          refine lv_if_eq (tgt := 72) hx hb dX6_drawn_50 (by decide) (fun c_10 => ?_) (fun c_10 => ?_)
          · replace hF := if_t c_10 hF
            refine lv_iinc (v := (x5_2 + (1 : Int32))) (lv' := [(5, .int (x5_2 + (1 : Int32))), (6, .int r_4), (0, .ref a_t), (1, .int i1), (2, .int i2), (3, .int i3), (4, .int x4_1)]) hx hb dX6_drawn_72 hl (k := 6) rfl rfl (by decide) rfl (fun ls hl => ?_)
            refine lv_goto (tgt := 6) hx hb dX6_drawn_75 (by decide) ?_
            exact ih _ _ _ hF _ _ _ hP hD hS (lv_sub hl [2, 3, 4, 5, 6, 0] rfl) kexit hret
          · replace hF := if_f c_10 hF
            refine lv_iload hx hb dX6_drawn_53 (lv_at hl 5 rfl) ?_
            refine lv_iload hx hb dX6_drawn_55 (lv_at hl 6 rfl) ?_
            refine xri0 (xrunS (As := [.int x5_2]) (rest := [.int x4_1]) (c_X6_shareOf l D cI cB cJ _ x5_2 (f_X6_shareOf x5_2) rfl) hfix xw_509 ys_X6_shareOf ⟨rfl, rfl⟩ ⟨(Nat.le_of_ble_eq_true rfl), (Nat.le_of_ble_eq_true rfl)⟩ xKk_K (fun U hU hW => xK.warm hW hK) hP hD [] rfl rfl rfl hl.1 rfl (Nat.le_of_ble_eq_true rfl) dX6_drawn_57 ⟨Nat.zero_le _, Nat.zero_le _⟩) hP hD hS hA [] rfl rfl (fun H locs hP hD hS => ?_)
            refine lv_iadd hx hb dX6_drawn_60 ?_
            refine lv_istore (lv' := [(4, .int (x4_1 + (f_X6_shareOf x5_2))), (6, .int r_4), (0, .ref a_t), (1, .int i1), (2, .int i2), (3, .int i3), (5, .int x5_2)]) hx hb dX6_drawn_61 hl (by decide) rfl (fun ls hl => ?_)
            refine lv_iload hx hb dX6_drawn_63 (lv_at hl 0 rfl) ?_
            refine lv_iload_n hx hb dX6_drawn_65 rfl (lv_at hl 5 rfl) ?_
            refine lv_icmp_le (tgt := 72) hx hb dX6_drawn_66 (by decide) (fun c_11 => ?_) (fun c_11 => ?_)
            · replace hF := if_t c_11 hF
              refine lv_iinc (v := (x5_2 + (1 : Int32))) (lv' := [(5, .int (x5_2 + (1 : Int32))), (4, .int (x4_1 + (f_X6_shareOf x5_2))), (6, .int r_4), (0, .ref a_t), (1, .int i1), (2, .int i2), (3, .int i3)]) hx hb dX6_drawn_72 hl (k := 6) rfl rfl (by decide) rfl (fun ls hl => ?_)
              refine lv_goto (tgt := 6) hx hb dX6_drawn_75 (by decide) ?_
              exact ih _ _ _ hF _ _ _ hP hD hS (lv_sub hl [3, 4, 5, 6, 1, 0] rfl) kexit hret
            · replace hF := if_f c_11 hF
              refine lv_iload hx hb dX6_drawn_69 (lv_at hl 1 rfl) ?_
              obtain rfl := Option.some.inj hF
              have hF := hret _ rfl
              subst hF
              exact hEnd _ _ _ _ _ dX6_drawn_71 hP hS rfl
  rcases bs0_e hF with ⟨hq, hF⟩ | ⟨q, hq, hF⟩
  · refine hL_6 _ _ _ _ hq _ _ _ hP hD hS (lv_sub hl [2, 3, 4, 5, 1, 0] rfl) (fun e H locs ls hP hD hS hl => ?_) (fun q e => nomatch e)
    cases e
    refine lv_bipush (v := (-3 : Int32)) hx hb dX6_drawn_78 (by decide) ?_
    obtain rfl := Option.some.inj hF
    exact hEnd _ _ _ _ _ dX6_drawn_80 hP hS rfl
  · exact hL_6 _ _ _ _ hq _ _ _ hP hD hS (lv_sub hl [2, 3, 4, 5, 1, 0] rfl) (fun e => nomatch e) (fun q e => by cases e; cases hF; rfl)
def f_X6_draw (i1 : Int32) (i2 : Int32) (s_t_z : Int32) (v_t_shares : (Nat → Int32)) (s_t_book_villages : Int32) (v_t_book_village : (Nat → Int32)) (v_t_book_mark : (Nat → Int32)) : Option (Int32 × Int32 × (Nat → Int32)) := (if (f_X6_badWhen i1 i2) = (0 : Int32) then bd2 (f_X6_weigh i1 i2 v_t_shares s_t_book_villages v_t_book_village v_t_book_mark) (fun (r_3 : Int32) (o_4 : (Nat → Int32)) => (if r_3 = (0 : Int32) then some (((-3 : Int32), s_t_z, o_4)) else gz r_3 (bd1 (f_X6_drawn i1 i2 (xrem (((((s_t_z * (1103515245 : Int32)) + (12345 : Int32))).toUInt32 >>> (((16 : Int32)).toUInt32 &&& Int32.toUInt32 31)).toInt32) r_3) s_t_book_villages v_t_book_village v_t_book_mark) (fun (r_8 : Int32) => some ((r_8, ((s_t_z * (1103515245 : Int32)) + (12345 : Int32)), o_4)))))) else some (((-1 : Int32), s_t_z, v_t_shares)))
abbrev rmX6_draw : Room := { frames := 6, cells := 0, slots := 0, locals := 142 }
set_option maxHeartbeats 400000 in
set_option maxRecDepth 100000 in
theorem c_X6_draw (l : Launch) (D : va_G) (cI cB cJ : ClassId) (a_t : Nat) (a_t_book : Nat) (a_t_kept : Nat) (a_t_told : Nat) (a_t_tape : Nat) (a_t_rows : Nat) (a_t_sheets : Nat) (a_t_shelves : Nat) (a_t_thing : Nat) (a_t_shares : Nat) (a_t_ahead : Nat) (a_t_book_village : Nat) (a_t_book_mark : Nat) (a_t_book_held : Nat) (sz : Nat) (s_t_isKept : Int32) (s_t_z : Int32) (s_t_keptZ : Int32) (s_t_book_heldCount : Int32) (s_t_book_villages : Int32) (v_t_shares : (Nat → Int32)) (v_t_book_village : (Nat → Int32)) (v_t_book_mark : (Nat → Int32)) (i1 : Int32) (i2 : Int32) (r : Int32) (o_s_t_z : Int32) (o_v_t_shares : (Nat → Int32)) (hF : f_X6_draw i1 i2 s_t_z v_t_shares s_t_book_villages v_t_book_village v_t_book_mark = some (r, o_s_t_z, o_v_t_shares)) : xMi l yX6_draw (.code yX6_draw cX6_draw 4 (some .int) :: xU) rmX6_draw (xK D cI cB cJ) D sz [.ref a_t, .int i1, .int i2] [(a_t, .inr (6, [.ref a_t_book, .ref a_t_kept, .ref a_t_told, .ref a_t_tape, .ref a_t_rows, .ref a_t_sheets, .ref a_t_shelves, .ref a_t_thing, .ref a_t_shares, .ref a_t_ahead, .int s_t_isKept, .int s_t_z, .int s_t_keptZ])), (a_t_shares, .inl (cI, 10, .inl v_t_shares)), (a_t_book, .inr (0, [.ref a_t_book_village, .ref a_t_book_mark, .ref a_t_book_held, .int s_t_book_heldCount, .int s_t_book_villages])), (a_t_book_village, .inl (cI, 24, .inl v_t_book_village)), (a_t_book_mark, .inl (cI, 24, .inl v_t_book_mark))] [(a_t, .inr (6, [.ref a_t_book, .ref a_t_kept, .ref a_t_told, .ref a_t_tape, .ref a_t_rows, .ref a_t_sheets, .ref a_t_shelves, .ref a_t_thing, .ref a_t_shares, .ref a_t_ahead, .int s_t_isKept, .int o_s_t_z, .int s_t_keptZ])), (a_t_shares, .inl (cI, 10, .inl o_v_t_shares)), (a_t_book, .inr (0, [.ref a_t_book_village, .ref a_t_book_mark, .ref a_t_book_held, .int s_t_book_heldCount, .int s_t_book_villages])), (a_t_book_village, .inl (cI, 24, .inl v_t_book_village)), (a_t_book_mark, .inl (cI, 24, .inl v_t_book_mark))] r := by
  refine xMi.mk (own := "FairNext") (by decide +kernel) rfl (Nat.le_of_ble_eq_true rfl) ?_
  intro p e s m args below meth c A Q ls H hfix hK hP hD hA hS hl hEnd
  obtain ⟨hx, hb, hml, hown, hts⟩ := id hfix
  have hl : lv_has ls 4 [(0, .ref a_t), (1, .int i1), (2, .int i2)] := hl
  rw [f_X6_draw] at hF
  refine lv_iload_n hx hb dX6_draw_0 rfl (lv_at hl 1 rfl) ?_
  refine lv_iload_n hx hb dX6_draw_1 rfl (lv_at hl 2 rfl) ?_
  refine xrz0 (xrunS (As := [.int i1, .int i2]) (rest := []) (c_X6_badWhen l D cI cB cJ _ i1 i2 (f_X6_badWhen i1 i2) rfl) hfix xw_502 ys_X6_badWhen ⟨rfl, rfl⟩ ⟨(Nat.le_of_ble_eq_true rfl), (Nat.le_of_ble_eq_true rfl)⟩ xKk_K (fun U hU hW => xK.warm hW hK) hP hD [] rfl rfl rfl hl.1 rfl (Nat.le_of_ble_eq_true rfl) dX6_draw_2 ⟨Nat.zero_le _, Nat.zero_le _⟩) hP hD hS hA [] rfl rfl (fun H locs hP hD hS hz_1 => ?_)
  refine lv_if_eq (tgt := 10) hx hb dX6_draw_5 (by decide) (fun c_2 => ?_) (fun c_2 => ?_)
  · replace hF := if_t c_2 hF
    refine lv_aload_n hx hb dX6_draw_10 rfl (lv_at hl 0 rfl) ?_
    refine lv_iload_n hx hb dX6_draw_11 rfl (lv_at hl 1 rfl) ?_
    refine lv_iload_n hx hb dX6_draw_12 rfl (lv_at hl 2 rfl) ?_
    obtain ⟨r_3, o_4, hq_5, hF⟩ := bd2_e hF
    refine xri (xrunV (As := [.int i1, .int i2]) (rest := []) (c_X6_weigh l D cI cB cJ a_t a_t_book a_t_kept a_t_told a_t_tape a_t_rows a_t_sheets a_t_shelves a_t_thing a_t_shares a_t_ahead a_t_book_village a_t_book_mark a_t_book_held _ s_t_isKept s_t_z s_t_keptZ s_t_book_heldCount s_t_book_villages v_t_shares v_t_book_village v_t_book_mark i1 i2 r_3 o_4 hq_5) hfix xw_505 yv_X6_weigh ⟨rfl, rfl⟩ ⟨(Nat.le_of_ble_eq_true rfl), (Nat.le_of_ble_eq_true rfl)⟩ xKk_K (fun U hU hW => xK.warm hW hK) hK.1 hP hD [0, 1, 2, 3, 4] rfl rfl 0 6 rfl rfl rfl rfl hl.1 rfl (Nat.le_of_ble_eq_true rfl) dX6_draw_13 ⟨Nat.zero_le _, Nat.zero_le _⟩) hP hD hS hA [0, 1, 2, 3, 4] rfl rfl rfl (wn := [(a_t, .inr (6, [.ref a_t_book, .ref a_t_kept, .ref a_t_told, .ref a_t_tape, .ref a_t_rows, .ref a_t_sheets, .ref a_t_shelves, .ref a_t_thing, .ref a_t_shares, .ref a_t_ahead, .int s_t_isKept, .int s_t_z, .int s_t_keptZ])), (a_t_shares, .inl (cI, 10, .inl o_4)), (a_t_book, .inr (0, [.ref a_t_book_village, .ref a_t_book_mark, .ref a_t_book_held, .int s_t_book_heldCount, .int s_t_book_villages])), (a_t_book_village, .inl (cI, 24, .inl v_t_book_village)), (a_t_book_mark, .inl (cI, 24, .inl v_t_book_mark))]) rfl (fun H locs hP hD hS => ?_)
    refine lv_istore_n (lv' := [(3, .int r_3), (0, .ref a_t), (1, .int i1), (2, .int i2)]) hx hb dX6_draw_16 rfl hl (by decide) rfl (fun ls hl => ?_)
    refine lv_iload_n hx hb dX6_draw_17 rfl (lv_at hl 0 rfl) ?_
    refine lv_if_ne (tgt := 24) hx hb dX6_draw_18 (by decide) (fun c_6 => ?_) (fun c_6 => ?_)
    · replace hF := if_f c_6 hF
      refine lv_aload_n hx hb dX6_draw_24 rfl (lv_at hl 1 rfl) ?_
      refine lv_aload_n hx hb dX6_draw_25 rfl (lv_at hl 1 rfl) ?_
      refine xget (ci := 6) (C := RX6) (T := TX6) (N := 13) hfix xiX6 hK.1 hP 0 rfl rfl 11 (by decide) rfl xw_172 rfl dX6_draw_26 ?_
      refine lv_ldc (v := (1103515245 : Int32)) hx hb hown (hts _ (List.mem_cons_of_mem _ xk_553)) dX6_draw_29 ?_
      refine lv_imul hx hb dX6_draw_31 ?_
      refine lv_sipush (v := (12345 : Int32)) hx hb dX6_draw_32 (by decide) ?_
      refine lv_iadd hx hb dX6_draw_35 ?_
      refine xput (ci := 6) (C := RX6) (T := TX6) (N := 13) hfix xiX6 tyX6 tyX6_ok nmX6 hK.1 hP hD hS 0 rfl rfl 11 (by decide) rfl rfl xw_172 (ty := .int) rfl rfl rfl (Nat.le_of_ble_eq_true rfl) dX6_draw_36 (wn := [(a_t, .inr (6, [.ref a_t_book, .ref a_t_kept, .ref a_t_told, .ref a_t_tape, .ref a_t_rows, .ref a_t_sheets, .ref a_t_shelves, .ref a_t_thing, .ref a_t_shares, .ref a_t_ahead, .int s_t_isKept, .int ((s_t_z * (1103515245 : Int32)) + (12345 : Int32)), .int s_t_keptZ])), (a_t_shares, .inl (cI, 10, .inl o_4)), (a_t_book, .inr (0, [.ref a_t_book_village, .ref a_t_book_mark, .ref a_t_book_held, .int s_t_book_heldCount, .int s_t_book_villages])), (a_t_book_village, .inl (cI, 24, .inl v_t_book_village)), (a_t_book_mark, .inl (cI, 24, .inl v_t_book_mark))]) rfl (fun H locs hP hD hS => ?_)
      refine lv_aload_n hx hb dX6_draw_39 rfl (lv_at hl 1 rfl) ?_
      refine lv_iload_n hx hb dX6_draw_40 rfl (lv_at hl 2 rfl) ?_
      refine lv_iload_n hx hb dX6_draw_41 rfl (lv_at hl 3 rfl) ?_
      refine lv_aload_n hx hb dX6_draw_42 rfl (lv_at hl 1 rfl) ?_
      refine xget (ci := 6) (C := RX6) (T := TX6) (N := 13) hfix xiX6 hK.1 hP 0 rfl rfl 11 (by decide) rfl xw_172 rfl dX6_draw_43 ?_
      refine lv_bipush (v := (16 : Int32)) hx hb dX6_draw_46 (by decide) ?_
      refine lv_iushr (v := (((((s_t_z * (1103515245 : Int32)) + (12345 : Int32))).toUInt32 >>> (((16 : Int32)).toUInt32 &&& Int32.toUInt32 31)).toInt32)) hx hb dX6_draw_48 rfl ?_
      refine lv_iload_n hx hb dX6_draw_49 rfl (lv_at hl 0 rfl) ?_
      obtain ⟨c_7, hF⟩ := gz_e hF
      refine lv_irem hx hb dX6_draw_50 c_7 ?_
      obtain ⟨r_8, hq_9, hF⟩ := bd1_e hF
      refine xri0 (xrunV (As := [.int i1, .int i2, .int (xrem (((((s_t_z * (1103515245 : Int32)) + (12345 : Int32))).toUInt32 >>> (((16 : Int32)).toUInt32 &&& Int32.toUInt32 31)).toInt32) r_3)]) (rest := []) (c_X6_drawn l D cI cB cJ a_t a_t_book a_t_kept a_t_told a_t_tape a_t_rows a_t_sheets a_t_shelves a_t_thing a_t_shares a_t_ahead a_t_book_village a_t_book_mark a_t_book_held _ s_t_isKept ((s_t_z * (1103515245 : Int32)) + (12345 : Int32)) s_t_keptZ s_t_book_heldCount s_t_book_villages v_t_book_village v_t_book_mark i1 i2 (xrem (((((s_t_z * (1103515245 : Int32)) + (12345 : Int32))).toUInt32 >>> (((16 : Int32)).toUInt32 &&& Int32.toUInt32 31)).toInt32) r_3) r_8 hq_9) hfix xw_554 yv_X6_drawn ⟨rfl, rfl⟩ ⟨(Nat.le_of_ble_eq_true rfl), (Nat.le_of_ble_eq_true rfl)⟩ xKk_K (fun U hU hW => xK.warm hW hK) hK.1 hP hD [0, 2, 3, 4] rfl rfl 0 6 rfl rfl rfl rfl hl.1 rfl (Nat.le_of_ble_eq_true rfl) dX6_draw_51 ⟨Nat.zero_le _, Nat.zero_le _⟩) hP hD hS hA [0, 2, 3, 4] rfl rfl (fun H locs hP hD hS => ?_)
      obtain ⟨rfl, rfl, rfl⟩ := pj3 hF
      exact hEnd _ _ _ _ _ dX6_draw_54 hP hS rfl
    · replace hF := if_t c_6 hF
      refine lv_bipush (v := (-3 : Int32)) hx hb dX6_draw_21 (by decide) ?_
      obtain ⟨rfl, rfl, rfl⟩ := pj3 hF
      exact hEnd _ _ _ _ _ dX6_draw_23 hP hS rfl
  · replace hF := if_f c_2 hF
    refine lv_iconst (v := (-1 : Int32)) hx hb dX6_draw_8 (by decide) ?_
    obtain ⟨rfl, rfl, rfl⟩ := pj3 hF
    exact hEnd _ _ _ _ _ dX6_draw_9 hP hS rfl
def f_X6_prove_L23 (v_t_book_village : (Nat → Int32)) (i1 : Int32) (v_t_book_held : (Nat → Int32)) (s_t_book_villages : Int32) (v_t_book_mark : (Nat → Int32)) : Nat → Int32 → Int32 → (Nat → Int32) → Option (Int32 × (Nat → Int32))
  | 0, _, _, _ => none
  | n + 1, x2_3, xs_t_rows_count_4, xv_t_rows_cells_5 => (if (24 : Int32) ≤ x2_3 then some ((xs_t_rows_count_4, xv_t_rows_cells_5)) else gd x2_3 24 ((if (v_t_book_village x2_3.toNatClampNeg) = (-9 : Int32) then f_X6_prove_L23 v_t_book_village i1 v_t_book_held s_t_book_villages v_t_book_mark n (x2_3 + (1 : Int32)) xs_t_rows_count_4 xv_t_rows_cells_5 else gd i1 6 (bd1 (f_X0_saying (v_t_book_held i1.toNatClampNeg) x2_3 24 s_t_book_villages v_t_book_village v_t_book_mark) (fun (r_12 : Int32) => gd x2_3 24 ((if r_12 = (v_t_book_village x2_3.toNatClampNeg) then bd2 (f_X1_add x2_3 r_12 (1 : Int32) xs_t_rows_count_4 xv_t_rows_cells_5) (fun (o_19 : Int32) (o_20 : (Nat → Int32)) => f_X6_prove_L23 v_t_book_village i1 v_t_book_held s_t_book_villages v_t_book_mark n (x2_3 + (1 : Int32)) o_19 o_20) else bd2 (f_X1_add x2_3 r_12 (0 : Int32) xs_t_rows_count_4 xv_t_rows_cells_5) (fun (o_16 : Int32) (o_17 : (Nat → Int32)) => f_X6_prove_L23 v_t_book_village i1 v_t_book_held s_t_book_villages v_t_book_mark n (x2_3 + (1 : Int32)) o_16 o_17))))))))
def f_X6_prove (i1 : Int32) (s_t_book_heldCount : Int32) (s_t_book_villages : Int32) (s_t_rows_count : Int32) (v_t_book_village : (Nat → Int32)) (v_t_book_held : (Nat → Int32)) (v_t_book_mark : (Nat → Int32)) (v_t_rows_cells : (Nat → Int32)) : Option (Int32 × Int32 × (Nat → Int32)) := (if (f_X0_holds i1 s_t_book_heldCount) = (0 : Int32) then some (((-1 : Int32), s_t_rows_count, v_t_rows_cells)) else bd2 (f_X6_prove_L23 v_t_book_village i1 v_t_book_held s_t_book_villages v_t_book_mark 1000 (0 : Int32) (0 : Int32) v_t_rows_cells) (fun (ys_t_rows_count_6 : Int32) (yv_t_rows_cells_7 : (Nat → Int32)) => some ((ys_t_rows_count_6, ys_t_rows_count_6, yv_t_rows_cells_7))))
abbrev rmX6_prove : Room := { frames := 3, cells := 0, slots := 0, locals := 70 }
set_option maxHeartbeats 400000 in
set_option maxRecDepth 100000 in
theorem c_X6_prove (l : Launch) (D : va_G) (cI cB cJ : ClassId) (a_t : Nat) (a_t_book : Nat) (a_t_kept : Nat) (a_t_told : Nat) (a_t_tape : Nat) (a_t_rows : Nat) (a_t_sheets : Nat) (a_t_shelves : Nat) (a_t_thing : Nat) (a_t_shares : Nat) (a_t_ahead : Nat) (a_t_book_village : Nat) (a_t_book_mark : Nat) (a_t_book_held : Nat) (a_t_rows_cells : Nat) (sz : Nat) (s_t_isKept : Int32) (s_t_z : Int32) (s_t_keptZ : Int32) (s_t_book_heldCount : Int32) (s_t_book_villages : Int32) (s_t_rows_count : Int32) (v_t_book_village : (Nat → Int32)) (v_t_book_held : (Nat → Int32)) (v_t_book_mark : (Nat → Int32)) (v_t_rows_cells : (Nat → Int32)) (i1 : Int32) (r : Int32) (o_s_t_rows_count : Int32) (o_v_t_rows_cells : (Nat → Int32)) (hF : f_X6_prove i1 s_t_book_heldCount s_t_book_villages s_t_rows_count v_t_book_village v_t_book_held v_t_book_mark v_t_rows_cells = some (r, o_s_t_rows_count, o_v_t_rows_cells)) : xMi l yX6_prove (.code yX6_prove cX6_prove 4 (some .int) :: xU) rmX6_prove (xK D cI cB cJ) D sz [.ref a_t, .int i1] [(a_t, .inr (6, [.ref a_t_book, .ref a_t_kept, .ref a_t_told, .ref a_t_tape, .ref a_t_rows, .ref a_t_sheets, .ref a_t_shelves, .ref a_t_thing, .ref a_t_shares, .ref a_t_ahead, .int s_t_isKept, .int s_t_z, .int s_t_keptZ])), (a_t_book, .inr (0, [.ref a_t_book_village, .ref a_t_book_mark, .ref a_t_book_held, .int s_t_book_heldCount, .int s_t_book_villages])), (a_t_rows, .inr (1, [.ref a_t_rows_cells, .int s_t_rows_count])), (a_t_book_village, .inl (cI, 24, .inl v_t_book_village)), (a_t_book_held, .inl (cI, 6, .inl v_t_book_held)), (a_t_book_mark, .inl (cI, 24, .inl v_t_book_mark)), (a_t_rows_cells, .inl (cI, 72, .inl v_t_rows_cells))] [(a_t, .inr (6, [.ref a_t_book, .ref a_t_kept, .ref a_t_told, .ref a_t_tape, .ref a_t_rows, .ref a_t_sheets, .ref a_t_shelves, .ref a_t_thing, .ref a_t_shares, .ref a_t_ahead, .int s_t_isKept, .int s_t_z, .int s_t_keptZ])), (a_t_book, .inr (0, [.ref a_t_book_village, .ref a_t_book_mark, .ref a_t_book_held, .int s_t_book_heldCount, .int s_t_book_villages])), (a_t_rows, .inr (1, [.ref a_t_rows_cells, .int o_s_t_rows_count])), (a_t_book_village, .inl (cI, 24, .inl v_t_book_village)), (a_t_book_held, .inl (cI, 6, .inl v_t_book_held)), (a_t_book_mark, .inl (cI, 24, .inl v_t_book_mark)), (a_t_rows_cells, .inl (cI, 72, .inl o_v_t_rows_cells))] r := by
  refine xMi.mk (own := "FairNext") (by decide +kernel) rfl (Nat.le_of_ble_eq_true rfl) ?_
  intro p e s m args below meth c A Q ls H hfix hK hP hD hA hS hl hEnd
  obtain ⟨hx, hb, hml, hown, hts⟩ := id hfix
  have hl : lv_has ls 4 [(0, .ref a_t), (1, .int i1)] := hl
  rw [f_X6_prove] at hF
  refine lv_aload_n hx hb dX6_prove_0 rfl (lv_at hl 0 rfl) ?_
  refine xget (ci := 6) (C := RX6) (T := TX6) (N := 13) hfix xiX6 hK.1 hP 0 rfl rfl 0 (by decide) rfl xw_161 rfl dX6_prove_1 ?_
  refine lv_iload_n hx hb dX6_prove_4 rfl (lv_at hl 1 rfl) ?_
  refine xrz0 (xrunV (As := [.int i1]) (rest := []) (c_X0_holds l D cI cB cJ a_t_book a_t_book_village a_t_book_mark a_t_book_held _ s_t_book_heldCount s_t_book_villages i1 (f_X0_holds i1 s_t_book_heldCount) rfl) hfix xw_377 yv_X0_holds ⟨rfl, rfl⟩ ⟨(Nat.le_of_ble_eq_true rfl), (Nat.le_of_ble_eq_true rfl)⟩ xKk_K (fun U hU hW => xK.warm hW hK) hK.1 hP hD [1] rfl rfl 1 0 rfl rfl rfl rfl hl.1 rfl (Nat.le_of_ble_eq_true rfl) dX6_prove_5 ⟨Nat.zero_le _, Nat.zero_le _⟩) hP hD hS hA [1] rfl rfl (fun H locs hP hD hS hz_1 => ?_)
  refine lv_if_ne (tgt := 13) hx hb dX6_prove_8 (by decide) (fun c_2 => ?_) (fun c_2 => ?_)
  · replace hF := if_f c_2 hF
    refine lv_aload_n hx hb dX6_prove_13 rfl (lv_at hl 0 rfl) ?_
    refine xget (ci := 6) (C := RX6) (T := TX6) (N := 13) hfix xiX6 hK.1 hP 0 rfl rfl 4 (by decide) rfl xw_165 rfl dX6_prove_14 ?_
    refine lv_iconst (v := (0 : Int32)) hx hb dX6_prove_17 (by decide) ?_
    refine xput (ci := 1) (C := RX1) (T := TX1) (N := 2) hfix xiX1 tyX1 tyX1_ok nmX1 hK.1 hP hD hS 2 rfl rfl 1 (by decide) rfl rfl xw_89 (ty := .int) rfl rfl rfl (Nat.le_of_ble_eq_true rfl) dX6_prove_18 (wn := [(a_t, .inr (6, [.ref a_t_book, .ref a_t_kept, .ref a_t_told, .ref a_t_tape, .ref a_t_rows, .ref a_t_sheets, .ref a_t_shelves, .ref a_t_thing, .ref a_t_shares, .ref a_t_ahead, .int s_t_isKept, .int s_t_z, .int s_t_keptZ])), (a_t_book, .inr (0, [.ref a_t_book_village, .ref a_t_book_mark, .ref a_t_book_held, .int s_t_book_heldCount, .int s_t_book_villages])), (a_t_rows, .inr (1, [.ref a_t_rows_cells, .int (0 : Int32)])), (a_t_book_village, .inl (cI, 24, .inl v_t_book_village)), (a_t_book_held, .inl (cI, 6, .inl v_t_book_held)), (a_t_book_mark, .inl (cI, 24, .inl v_t_book_mark)), (a_t_rows_cells, .inl (cI, 72, .inl v_t_rows_cells))]) rfl (fun H locs hP hD hS => ?_)
    refine lv_iconst (v := (0 : Int32)) hx hb dX6_prove_21 (by decide) ?_
    refine lv_istore_n (lv' := [(2, .int (0 : Int32)), (0, .ref a_t), (1, .int i1)]) hx hb dX6_prove_22 rfl hl (by decide) rfl (fun ls hl => ?_)
    have hL_23 : ∀ (n : Nat) (x2_3 : Int32) (xs_t_rows_count_4 : Int32) (xv_t_rows_cells_5 : (Nat → Int32)) (ys_t_rows_count_6 : Int32) (yv_t_rows_cells_7 : (Nat → Int32)), f_X6_prove_L23 v_t_book_village i1 v_t_book_held s_t_book_villages v_t_book_mark n x2_3 xs_t_rows_count_4 xv_t_rows_cells_5 = some (ys_t_rows_count_6, yv_t_rows_cells_7) → ∀ (H : Heap) (locs : List Loc) (ls : Array Slot), va_P D vwCl [(a_t, .inr (6, [.ref a_t_book, .ref a_t_kept, .ref a_t_told, .ref a_t_tape, .ref a_t_rows, .ref a_t_sheets, .ref a_t_shelves, .ref a_t_thing, .ref a_t_shares, .ref a_t_ahead, .int s_t_isKept, .int s_t_z, .int s_t_keptZ])), (a_t_book, .inr (0, [.ref a_t_book_village, .ref a_t_book_mark, .ref a_t_book_held, .int s_t_book_heldCount, .int s_t_book_villages])), (a_t_rows, .inr (1, [.ref a_t_rows_cells, .int xs_t_rows_count_4])), (a_t_book_village, .inl (cI, 24, .inl v_t_book_village)), (a_t_book_held, .inl (cI, 6, .inl v_t_book_held)), (a_t_book_mark, .inl (cI, 24, .inl v_t_book_mark)), (a_t_rows_cells, .inl (cI, 72, .inl xv_t_rows_cells_5))] H → va_D A [(a_t, .inr (6, [.ref a_t_book, .ref a_t_kept, .ref a_t_told, .ref a_t_tape, .ref a_t_rows, .ref a_t_sheets, .ref a_t_shelves, .ref a_t_thing, .ref a_t_shares, .ref a_t_ahead, .int s_t_isKept, .int s_t_z, .int s_t_keptZ])), (a_t_book, .inr (0, [.ref a_t_book_village, .ref a_t_book_mark, .ref a_t_book_held, .int s_t_book_heldCount, .int s_t_book_villages])), (a_t_rows, .inr (1, [.ref a_t_rows_cells, .int xs_t_rows_count_4])), (a_t_book_village, .inl (cI, 24, .inl v_t_book_village)), (a_t_book_held, .inl (cI, 6, .inl v_t_book_held)), (a_t_book_mark, .inl (cI, 24, .inl v_t_book_mark)), (a_t_rows_cells, .inl (cI, 72, .inl xv_t_rows_cells_5))] → va_S A s.heap H locs → lv_has ls 4 [(0, .ref a_t), (1, .int i1), (2, .int x2_3)] → (∀ (H : Heap) (locs : List Loc) (ls : Array Slot), va_P D vwCl [(a_t, .inr (6, [.ref a_t_book, .ref a_t_kept, .ref a_t_told, .ref a_t_tape, .ref a_t_rows, .ref a_t_sheets, .ref a_t_shelves, .ref a_t_thing, .ref a_t_shares, .ref a_t_ahead, .int s_t_isKept, .int s_t_z, .int s_t_keptZ])), (a_t_book, .inr (0, [.ref a_t_book_village, .ref a_t_book_mark, .ref a_t_book_held, .int s_t_book_heldCount, .int s_t_book_villages])), (a_t_rows, .inr (1, [.ref a_t_rows_cells, .int ys_t_rows_count_6])), (a_t_book_village, .inl (cI, 24, .inl v_t_book_village)), (a_t_book_held, .inl (cI, 6, .inl v_t_book_held)), (a_t_book_mark, .inl (cI, 24, .inl v_t_book_mark)), (a_t_rows_cells, .inl (cI, 72, .inl yv_t_rows_cells_7))] H → va_D A [(a_t, .inr (6, [.ref a_t_book, .ref a_t_kept, .ref a_t_told, .ref a_t_tape, .ref a_t_rows, .ref a_t_sheets, .ref a_t_shelves, .ref a_t_thing, .ref a_t_shares, .ref a_t_ahead, .int s_t_isKept, .int s_t_z, .int s_t_keptZ])), (a_t_book, .inr (0, [.ref a_t_book_village, .ref a_t_book_mark, .ref a_t_book_held, .int s_t_book_heldCount, .int s_t_book_villages])), (a_t_rows, .inr (1, [.ref a_t_rows_cells, .int ys_t_rows_count_6])), (a_t_book_village, .inl (cI, 24, .inl v_t_book_village)), (a_t_book_held, .inl (cI, 6, .inl v_t_book_held)), (a_t_book_mark, .inl (cI, 24, .inl v_t_book_mark)), (a_t_rows_cells, .inl (cI, 72, .inl yv_t_rows_cells_7))] → va_S A s.heap H locs → lv_has ls 4 [(0, .ref a_t)] → W p l e rmX6_prove s m args below meth c H locs 0 0 Q (F0 m 101 ls [])) → W p l e rmX6_prove s m args below meth c H locs 0 0 Q (F0 m 23 ls []) := by
      intro n
      induction n with
      | zero => intro x2_3 xs_t_rows_count_4 xv_t_rows_cells_5 ys_t_rows_count_6 yv_t_rows_cells_7 hF; exact (no_some hF).elim
      | succ n ih =>
        intro x2_3 xs_t_rows_count_4 xv_t_rows_cells_5 ys_t_rows_count_6 yv_t_rows_cells_7 hF H locs ls hP hD hS hl kexit
        rw [f_X6_prove_L23] at hF
        refine lv_iload_n hx hb dX6_prove_23 rfl (lv_at hl 2 rfl) ?_
        refine lv_bipush (v := (24 : Int32)) hx hb dX6_prove_24 (by decide) ?_
        refine lv_icmp_ge (tgt := 101) hx hb dX6_prove_26 (by decide) (fun c_8 => ?_) (fun c_8 => ?_)
        · replace hF := if_t c_8 hF
          obtain ⟨rfl, rfl⟩ := pj2 hF
          exact kexit _ _ _ hP hD hS (lv_sub hl [0] rfl)
        · replace hF := if_f c_8 hF
          refine lv_aload_n hx hb dX6_prove_29 rfl (lv_at hl 0 rfl) ?_
          refine xget (ci := 6) (C := RX6) (T := TX6) (N := 13) hfix xiX6 hK.1 hP 0 rfl rfl 0 (by decide) rfl xw_161 rfl dX6_prove_30 ?_
          refine xget (ci := 0) (C := RX0) (T := TX0) (N := 5) hfix xiX0 hK.1 hP 1 rfl rfl 0 (by decide) rfl xw_34 rfl dX6_prove_33 ?_
          refine lv_iload_n hx hb dX6_prove_36 rfl (lv_at hl 2 rfl) ?_
          obtain ⟨c_9, hF⟩ := gd_e hF
          refine va_iald hx hb hK.1 hP 3 0 rfl rfl c_9 dX6_prove_37 ?_
          refine lv_bipush (v := (-9 : Int32)) hx hb dX6_prove_38 (by decide) ?_
          refine lv_icmp_eq (tgt := 95) hx hb dX6_prove_40 (by decide) (fun c_10 => ?_) (fun c_10 => ?_)
          · replace hF := if_t c_10 hF
            refine lv_iinc (v := (x2_3 + (1 : Int32))) (lv' := [(2, .int (x2_3 + (1 : Int32))), (0, .ref a_t), (1, .int i1)]) hx hb dX6_prove_95 hl (k := 2) rfl rfl (by decide) rfl (fun ls hl => ?_)
            refine lv_goto (tgt := 23) hx hb dX6_prove_98 (by decide) ?_
            exact ih _ _ _ _ _ hF _ _ _ hP hD hS (lv_sub hl [1, 2, 0] rfl) kexit
          · replace hF := if_f c_10 hF
            refine lv_aload_n hx hb dX6_prove_43 rfl (lv_at hl 0 rfl) ?_
            refine xget (ci := 6) (C := RX6) (T := TX6) (N := 13) hfix xiX6 hK.1 hP 0 rfl rfl 0 (by decide) rfl xw_161 rfl dX6_prove_44 ?_
            refine lv_aload_n hx hb dX6_prove_47 rfl (lv_at hl 0 rfl) ?_
            refine xget (ci := 6) (C := RX6) (T := TX6) (N := 13) hfix xiX6 hK.1 hP 0 rfl rfl 0 (by decide) rfl xw_161 rfl dX6_prove_48 ?_
            refine xget (ci := 0) (C := RX0) (T := TX0) (N := 5) hfix xiX0 hK.1 hP 1 rfl rfl 2 (by decide) rfl xw_40 rfl dX6_prove_51 ?_
            refine lv_iload_n hx hb dX6_prove_54 rfl (lv_at hl 1 rfl) ?_
            obtain ⟨c_11, hF⟩ := gd_e hF
            refine va_iald hx hb hK.1 hP 4 0 rfl rfl c_11 dX6_prove_55 ?_
            refine lv_iload_n hx hb dX6_prove_56 rfl (lv_at hl 2 rfl) ?_
            refine lv_aload_n hx hb dX6_prove_57 rfl (lv_at hl 0 rfl) ?_
            refine xget (ci := 6) (C := RX6) (T := TX6) (N := 13) hfix xiX6 hK.1 hP 0 rfl rfl 0 (by decide) rfl xw_161 rfl dX6_prove_58 ?_
            refine xget (ci := 0) (C := RX0) (T := TX0) (N := 5) hfix xiX0 hK.1 hP 1 rfl rfl 0 (by decide) rfl xw_34 rfl dX6_prove_61 ?_
            obtain ⟨r_12, hq_13, hF⟩ := bd1_e hF
            refine xri0 (xrunV (As := [.int (v_t_book_held i1.toNatClampNeg), .int x2_3, .ref a_t_book_village]) (rest := []) (c_X0_saying l D cI cB cJ a_t_book a_t_book_village a_t_book_mark a_t_book_held a_t_book_village _ 24 s_t_book_heldCount s_t_book_villages v_t_book_village v_t_book_mark (v_t_book_held i1.toNatClampNeg) x2_3 r_12 hq_13) hfix xw_438 yv_X0_saying ⟨rfl, rfl⟩ ⟨(Nat.le_of_ble_eq_true rfl), (Nat.le_of_ble_eq_true rfl)⟩ xKk_K (fun U hU hW => xK.warm hW hK) hK.1 hP hD [1, 3, 5] rfl rfl 1 0 rfl rfl rfl rfl hl.1 rfl (Nat.le_of_ble_eq_true rfl) dX6_prove_64 ⟨Nat.zero_le _, Nat.zero_le _⟩) hP hD hS hA [1, 3, 5] rfl rfl (fun H locs hP hD hS => ?_)
            refine lv_istore_n (lv' := [(3, .int r_12), (0, .ref a_t), (1, .int i1), (2, .int x2_3)]) hx hb dX6_prove_67 rfl hl (by decide) rfl (fun ls hl => ?_)
            refine lv_aload_n hx hb dX6_prove_68 rfl (lv_at hl 1 rfl) ?_
            refine xget (ci := 6) (C := RX6) (T := TX6) (N := 13) hfix xiX6 hK.1 hP 0 rfl rfl 4 (by decide) rfl xw_165 rfl dX6_prove_69 ?_
            refine lv_iload_n hx hb dX6_prove_72 rfl (lv_at hl 3 rfl) ?_
            refine lv_iload_n hx hb dX6_prove_73 rfl (lv_at hl 0 rfl) ?_
            refine lv_iload_n hx hb dX6_prove_74 rfl (lv_at hl 0 rfl) ?_
            refine lv_aload_n hx hb dX6_prove_75 rfl (lv_at hl 1 rfl) ?_
            refine xget (ci := 6) (C := RX6) (T := TX6) (N := 13) hfix xiX6 hK.1 hP 0 rfl rfl 0 (by decide) rfl xw_161 rfl dX6_prove_76 ?_
            refine xget (ci := 0) (C := RX0) (T := TX0) (N := 5) hfix xiX0 hK.1 hP 1 rfl rfl 0 (by decide) rfl xw_34 rfl dX6_prove_79 ?_
            refine lv_iload_n hx hb dX6_prove_82 rfl (lv_at hl 3 rfl) ?_
            obtain ⟨c_14, hF⟩ := gd_e hF
            refine va_iald hx hb hK.1 hP 3 0 rfl rfl c_14 dX6_prove_83 ?_
            refine lv_icmp_ne (tgt := 91) hx hb dX6_prove_84 (by decide) (fun c_15 => ?_) (fun c_15 => ?_)
            · replace hF := if_f c_15 hF
              refine lv_iconst (v := (0 : Int32)) hx hb dX6_prove_91 (by decide) ?_
              obtain ⟨o_16, o_17, hq_18, hF⟩ := bd2_e hF
              refine xrv (xrunV (As := [.int x2_3, .int r_12, .int (0 : Int32)]) (rest := []) (c_X1_add l D cI cB cJ a_t_rows a_t_rows_cells _ xs_t_rows_count_4 xv_t_rows_cells_5 x2_3 r_12 (0 : Int32) o_16 o_17 hq_18) hfix xw_562 yv_X1_add ⟨rfl, rfl⟩ ⟨(Nat.le_of_ble_eq_true rfl), (Nat.le_of_ble_eq_true rfl)⟩ xKk_K (fun U hU hW => xK.warm hW hK) hK.1 hP hD [2, 6] rfl rfl 2 1 rfl rfl rfl rfl hl.1 rfl (Nat.le_of_ble_eq_true rfl) dX6_prove_92 ⟨Nat.zero_le _, Nat.zero_le _⟩) hP hD hS hA [2, 6] rfl rfl rfl (wn := [(a_t, .inr (6, [.ref a_t_book, .ref a_t_kept, .ref a_t_told, .ref a_t_tape, .ref a_t_rows, .ref a_t_sheets, .ref a_t_shelves, .ref a_t_thing, .ref a_t_shares, .ref a_t_ahead, .int s_t_isKept, .int s_t_z, .int s_t_keptZ])), (a_t_book, .inr (0, [.ref a_t_book_village, .ref a_t_book_mark, .ref a_t_book_held, .int s_t_book_heldCount, .int s_t_book_villages])), (a_t_rows, .inr (1, [.ref a_t_rows_cells, .int o_16])), (a_t_book_village, .inl (cI, 24, .inl v_t_book_village)), (a_t_book_held, .inl (cI, 6, .inl v_t_book_held)), (a_t_book_mark, .inl (cI, 24, .inl v_t_book_mark)), (a_t_rows_cells, .inl (cI, 72, .inl o_17))]) rfl (fun H locs hP hD hS => ?_)
              refine lv_iinc (v := (x2_3 + (1 : Int32))) (lv' := [(2, .int (x2_3 + (1 : Int32))), (3, .int r_12), (0, .ref a_t), (1, .int i1)]) hx hb dX6_prove_95 hl (k := 3) rfl rfl (by decide) rfl (fun ls hl => ?_)
              refine lv_goto (tgt := 23) hx hb dX6_prove_98 (by decide) ?_
              exact ih _ _ _ _ _ hF _ _ _ hP hD hS (lv_sub hl [2, 3, 0] rfl) kexit
            · replace hF := if_t c_15 hF
              refine lv_iconst (v := (1 : Int32)) hx hb dX6_prove_87 (by decide) ?_
              refine lv_goto (tgt := 92) hx hb dX6_prove_88 (by decide) ?_
              obtain ⟨o_19, o_20, hq_21, hF⟩ := bd2_e hF
              refine xrv (xrunV (As := [.int x2_3, .int r_12, .int (1 : Int32)]) (rest := []) (c_X1_add l D cI cB cJ a_t_rows a_t_rows_cells _ xs_t_rows_count_4 xv_t_rows_cells_5 x2_3 r_12 (1 : Int32) o_19 o_20 hq_21) hfix xw_562 yv_X1_add ⟨rfl, rfl⟩ ⟨(Nat.le_of_ble_eq_true rfl), (Nat.le_of_ble_eq_true rfl)⟩ xKk_K (fun U hU hW => xK.warm hW hK) hK.1 hP hD [2, 6] rfl rfl 2 1 rfl rfl rfl rfl hl.1 rfl (Nat.le_of_ble_eq_true rfl) dX6_prove_92 ⟨Nat.zero_le _, Nat.zero_le _⟩) hP hD hS hA [2, 6] rfl rfl rfl (wn := [(a_t, .inr (6, [.ref a_t_book, .ref a_t_kept, .ref a_t_told, .ref a_t_tape, .ref a_t_rows, .ref a_t_sheets, .ref a_t_shelves, .ref a_t_thing, .ref a_t_shares, .ref a_t_ahead, .int s_t_isKept, .int s_t_z, .int s_t_keptZ])), (a_t_book, .inr (0, [.ref a_t_book_village, .ref a_t_book_mark, .ref a_t_book_held, .int s_t_book_heldCount, .int s_t_book_villages])), (a_t_rows, .inr (1, [.ref a_t_rows_cells, .int o_19])), (a_t_book_village, .inl (cI, 24, .inl v_t_book_village)), (a_t_book_held, .inl (cI, 6, .inl v_t_book_held)), (a_t_book_mark, .inl (cI, 24, .inl v_t_book_mark)), (a_t_rows_cells, .inl (cI, 72, .inl o_20))]) rfl (fun H locs hP hD hS => ?_)
              refine lv_iinc (v := (x2_3 + (1 : Int32))) (lv' := [(2, .int (x2_3 + (1 : Int32))), (3, .int r_12), (0, .ref a_t), (1, .int i1)]) hx hb dX6_prove_95 hl (k := 3) rfl rfl (by decide) rfl (fun ls hl => ?_)
              refine lv_goto (tgt := 23) hx hb dX6_prove_98 (by decide) ?_
              exact ih _ _ _ _ _ hF _ _ _ hP hD hS (lv_sub hl [2, 3, 0] rfl) kexit
    obtain ⟨ys_t_rows_count_6, yv_t_rows_cells_7, hq, hF⟩ := bd2_e hF
    refine hL_23 _ _ _ _ _ _ hq _ _ _ hP hD hS (lv_sub hl [1, 2, 0] rfl) (fun H locs ls hP hD hS hl => ?_)
    refine lv_aload_n hx hb dX6_prove_101 rfl (lv_at hl 0 rfl) ?_
    refine xget (ci := 6) (C := RX6) (T := TX6) (N := 13) hfix xiX6 hK.1 hP 0 rfl rfl 4 (by decide) rfl xw_165 rfl dX6_prove_102 ?_
    refine xget (ci := 1) (C := RX1) (T := TX1) (N := 2) hfix xiX1 hK.1 hP 2 rfl rfl 1 (by decide) rfl xw_89 rfl dX6_prove_105 ?_
    obtain ⟨rfl, rfl, rfl⟩ := pj3 hF
    exact hEnd _ _ _ _ _ dX6_prove_108 hP hS rfl
  · replace hF := if_t c_2 hF
    refine lv_iconst (v := (-1 : Int32)) hx hb dX6_prove_11 (by decide) ?_
    obtain ⟨rfl, rfl, rfl⟩ := pj3 hF
    exact hEnd _ _ _ _ _ dX6_prove_12 hP hS rfl
def f_X6_row (i1 : Int32) (i2 : Int32) (s_t_rows_count : Int32) (v_t_rows_cells : (Nat → Int32)) : Option (Int32) := (if (f_X1_isCell i1 i2 s_t_rows_count) = (0 : Int32) then some ((-99 : Int32)) else gd ((i1 * (3 : Int32)) + i2) 72 (some ((v_t_rows_cells ((i1 * (3 : Int32)) + i2).toNatClampNeg))))
abbrev rmX6_row : Room := { frames := 1, cells := 0, slots := 0, locals := 22 }
set_option maxHeartbeats 400000 in
set_option maxRecDepth 100000 in
theorem c_X6_row (l : Launch) (D : va_G) (cI cB cJ : ClassId) (a_t : Nat) (a_t_book : Nat) (a_t_kept : Nat) (a_t_told : Nat) (a_t_tape : Nat) (a_t_rows : Nat) (a_t_sheets : Nat) (a_t_shelves : Nat) (a_t_thing : Nat) (a_t_shares : Nat) (a_t_ahead : Nat) (a_t_rows_cells : Nat) (sz : Nat) (s_t_isKept : Int32) (s_t_z : Int32) (s_t_keptZ : Int32) (s_t_rows_count : Int32) (v_t_rows_cells : (Nat → Int32)) (i1 : Int32) (i2 : Int32) (r : Int32) (hF : f_X6_row i1 i2 s_t_rows_count v_t_rows_cells = some r) : xMi l yX6_row (.code yX6_row cX6_row 3 (some .int) :: xU) rmX6_row (xK D cI cB cJ) D sz [.ref a_t, .int i1, .int i2] [(a_t, .inr (6, [.ref a_t_book, .ref a_t_kept, .ref a_t_told, .ref a_t_tape, .ref a_t_rows, .ref a_t_sheets, .ref a_t_shelves, .ref a_t_thing, .ref a_t_shares, .ref a_t_ahead, .int s_t_isKept, .int s_t_z, .int s_t_keptZ])), (a_t_rows, .inr (1, [.ref a_t_rows_cells, .int s_t_rows_count])), (a_t_rows_cells, .inl (cI, 72, .inl v_t_rows_cells))] [(a_t, .inr (6, [.ref a_t_book, .ref a_t_kept, .ref a_t_told, .ref a_t_tape, .ref a_t_rows, .ref a_t_sheets, .ref a_t_shelves, .ref a_t_thing, .ref a_t_shares, .ref a_t_ahead, .int s_t_isKept, .int s_t_z, .int s_t_keptZ])), (a_t_rows, .inr (1, [.ref a_t_rows_cells, .int s_t_rows_count])), (a_t_rows_cells, .inl (cI, 72, .inl v_t_rows_cells))] r := by
  refine xMi.mk (own := "FairNext") (by decide +kernel) rfl (Nat.le_of_ble_eq_true rfl) ?_
  intro p e s m args below meth c A Q ls H hfix hK hP hD hA hS hl hEnd
  obtain ⟨hx, hb, hml, hown, hts⟩ := id hfix
  have hl : lv_has ls 3 [(0, .ref a_t), (1, .int i1), (2, .int i2)] := hl
  rw [f_X6_row] at hF
  refine lv_aload_n hx hb dX6_row_0 rfl (lv_at hl 0 rfl) ?_
  refine xget (ci := 6) (C := RX6) (T := TX6) (N := 13) hfix xiX6 hK.1 hP 0 rfl rfl 4 (by decide) rfl xw_165 rfl dX6_row_1 ?_
  refine lv_iload_n hx hb dX6_row_4 rfl (lv_at hl 1 rfl) ?_
  refine lv_iload_n hx hb dX6_row_5 rfl (lv_at hl 2 rfl) ?_
  refine xrz0 (xrunV (As := [.int i1, .int i2]) (rest := []) (c_X1_isCell l D cI cB cJ a_t_rows a_t_rows_cells _ s_t_rows_count i1 i2 (f_X1_isCell i1 i2 s_t_rows_count) rfl) hfix xw_570 yv_X1_isCell ⟨rfl, rfl⟩ ⟨(Nat.le_of_ble_eq_true rfl), (Nat.le_of_ble_eq_true rfl)⟩ xKk_K (fun U hU hW => xK.warm hW hK) hK.1 hP hD [1] rfl rfl 1 1 rfl rfl rfl rfl hl.1 rfl (Nat.le_of_ble_eq_true rfl) dX6_row_6 ⟨Nat.zero_le _, Nat.zero_le _⟩) hP hD hS hA [1] rfl rfl (fun H locs hP hD hS hz_1 => ?_)
  refine lv_if_eq (tgt := 28) hx hb dX6_row_9 (by decide) (fun c_2 => ?_) (fun c_2 => ?_)
  · replace hF := if_t c_2 hF
    refine lv_bipush (v := (-99 : Int32)) hx hb dX6_row_28 (by decide) ?_
    obtain rfl := Option.some.inj hF
    exact hEnd _ _ _ _ _ dX6_row_30 hP hS rfl
  · replace hF := if_f c_2 hF
    refine lv_aload_n hx hb dX6_row_12 rfl (lv_at hl 0 rfl) ?_
    refine xget (ci := 6) (C := RX6) (T := TX6) (N := 13) hfix xiX6 hK.1 hP 0 rfl rfl 4 (by decide) rfl xw_165 rfl dX6_row_13 ?_
    refine xget (ci := 1) (C := RX1) (T := TX1) (N := 2) hfix xiX1 hK.1 hP 1 rfl rfl 0 (by decide) rfl xw_87 rfl dX6_row_16 ?_
    refine lv_iload_n hx hb dX6_row_19 rfl (lv_at hl 1 rfl) ?_
    refine lv_iconst (v := (3 : Int32)) hx hb dX6_row_20 (by decide) ?_
    refine lv_imul hx hb dX6_row_21 ?_
    refine lv_iload_n hx hb dX6_row_22 rfl (lv_at hl 2 rfl) ?_
    refine lv_iadd hx hb dX6_row_23 ?_
    obtain ⟨c_3, hF⟩ := gd_e hF
    refine va_iald hx hb hK.1 hP 2 0 rfl rfl c_3 dX6_row_24 ?_
    refine lv_goto (tgt := 30) hx hb dX6_row_25 (by decide) ?_
    obtain rfl := Option.some.inj hF
    exact hEnd _ _ _ _ _ dX6_row_30 hP hS rfl
def f_X6_alterRow (i1 : Int32) (i2 : Int32) (i3 : Int32) (s_t_rows_count : Int32) (v_t_rows_cells : (Nat → Int32)) : Option (Int32 × (Nat → Int32)) := (if (f_X1_isCell i1 i2 s_t_rows_count) = (0 : Int32) then some (((-99 : Int32), v_t_rows_cells)) else gd ((i1 * (3 : Int32)) + i2) 72 (gd ((i1 * (3 : Int32)) + i2) 72 (some (((v_t_rows_cells ((i1 * (3 : Int32)) + i2).toNatClampNeg), (upd v_t_rows_cells ((i1 * (3 : Int32)) + i2).toNatClampNeg i3))))))
abbrev rmX6_alterRow : Room := { frames := 1, cells := 0, slots := 0, locals := 22 }
set_option maxHeartbeats 400000 in
set_option maxRecDepth 100000 in
theorem c_X6_alterRow (l : Launch) (D : va_G) (cI cB cJ : ClassId) (a_t : Nat) (a_t_book : Nat) (a_t_kept : Nat) (a_t_told : Nat) (a_t_tape : Nat) (a_t_rows : Nat) (a_t_sheets : Nat) (a_t_shelves : Nat) (a_t_thing : Nat) (a_t_shares : Nat) (a_t_ahead : Nat) (a_t_rows_cells : Nat) (sz : Nat) (s_t_isKept : Int32) (s_t_z : Int32) (s_t_keptZ : Int32) (s_t_rows_count : Int32) (v_t_rows_cells : (Nat → Int32)) (i1 : Int32) (i2 : Int32) (i3 : Int32) (r : Int32) (o_v_t_rows_cells : (Nat → Int32)) (hF : f_X6_alterRow i1 i2 i3 s_t_rows_count v_t_rows_cells = some (r, o_v_t_rows_cells)) : xMi l yX6_alterRow (.code yX6_alterRow cX6_alterRow 5 (some .int) :: xU) rmX6_alterRow (xK D cI cB cJ) D sz [.ref a_t, .int i1, .int i2, .int i3] [(a_t, .inr (6, [.ref a_t_book, .ref a_t_kept, .ref a_t_told, .ref a_t_tape, .ref a_t_rows, .ref a_t_sheets, .ref a_t_shelves, .ref a_t_thing, .ref a_t_shares, .ref a_t_ahead, .int s_t_isKept, .int s_t_z, .int s_t_keptZ])), (a_t_rows, .inr (1, [.ref a_t_rows_cells, .int s_t_rows_count])), (a_t_rows_cells, .inl (cI, 72, .inl v_t_rows_cells))] [(a_t, .inr (6, [.ref a_t_book, .ref a_t_kept, .ref a_t_told, .ref a_t_tape, .ref a_t_rows, .ref a_t_sheets, .ref a_t_shelves, .ref a_t_thing, .ref a_t_shares, .ref a_t_ahead, .int s_t_isKept, .int s_t_z, .int s_t_keptZ])), (a_t_rows, .inr (1, [.ref a_t_rows_cells, .int s_t_rows_count])), (a_t_rows_cells, .inl (cI, 72, .inl o_v_t_rows_cells))] r := by
  refine xMi.mk (own := "FairNext") (by decide +kernel) rfl (Nat.le_of_ble_eq_true rfl) ?_
  intro p e s m args below meth c A Q ls H hfix hK hP hD hA hS hl hEnd
  obtain ⟨hx, hb, hml, hown, hts⟩ := id hfix
  have hl : lv_has ls 5 [(0, .ref a_t), (1, .int i1), (2, .int i2), (3, .int i3)] := hl
  rw [f_X6_alterRow] at hF
  refine lv_aload_n hx hb dX6_alterRow_0 rfl (lv_at hl 0 rfl) ?_
  refine xget (ci := 6) (C := RX6) (T := TX6) (N := 13) hfix xiX6 hK.1 hP 0 rfl rfl 4 (by decide) rfl xw_165 rfl dX6_alterRow_1 ?_
  refine lv_iload_n hx hb dX6_alterRow_4 rfl (lv_at hl 1 rfl) ?_
  refine lv_iload_n hx hb dX6_alterRow_5 rfl (lv_at hl 2 rfl) ?_
  refine xrz0 (xrunV (As := [.int i1, .int i2]) (rest := []) (c_X1_isCell l D cI cB cJ a_t_rows a_t_rows_cells _ s_t_rows_count i1 i2 (f_X1_isCell i1 i2 s_t_rows_count) rfl) hfix xw_570 yv_X1_isCell ⟨rfl, rfl⟩ ⟨(Nat.le_of_ble_eq_true rfl), (Nat.le_of_ble_eq_true rfl)⟩ xKk_K (fun U hU hW => xK.warm hW hK) hK.1 hP hD [1] rfl rfl 1 1 rfl rfl rfl rfl hl.1 rfl (Nat.le_of_ble_eq_true rfl) dX6_alterRow_6 ⟨Nat.zero_le _, Nat.zero_le _⟩) hP hD hS hA [1] rfl rfl (fun H locs hP hD hS hz_1 => ?_)
  refine lv_if_ne (tgt := 15) hx hb dX6_alterRow_9 (by decide) (fun c_2 => ?_) (fun c_2 => ?_)
  · replace hF := if_f c_2 hF
    refine lv_aload_n hx hb dX6_alterRow_15 rfl (lv_at hl 0 rfl) ?_
    refine xget (ci := 6) (C := RX6) (T := TX6) (N := 13) hfix xiX6 hK.1 hP 0 rfl rfl 4 (by decide) rfl xw_165 rfl dX6_alterRow_16 ?_
    refine xget (ci := 1) (C := RX1) (T := TX1) (N := 2) hfix xiX1 hK.1 hP 1 rfl rfl 0 (by decide) rfl xw_87 rfl dX6_alterRow_19 ?_
    refine lv_iload_n hx hb dX6_alterRow_22 rfl (lv_at hl 1 rfl) ?_
    refine lv_iconst (v := (3 : Int32)) hx hb dX6_alterRow_23 (by decide) ?_
    refine lv_imul hx hb dX6_alterRow_24 ?_
    refine lv_iload_n hx hb dX6_alterRow_25 rfl (lv_at hl 2 rfl) ?_
    refine lv_iadd hx hb dX6_alterRow_26 ?_
    obtain ⟨c_3, hF⟩ := gd_e hF
    refine va_iald hx hb hK.1 hP 2 0 rfl rfl c_3 dX6_alterRow_27 ?_
    refine lv_istore (lv' := [(4, .int (v_t_rows_cells ((i1 * (3 : Int32)) + i2).toNatClampNeg)), (0, .ref a_t), (1, .int i1), (2, .int i2), (3, .int i3)]) hx hb dX6_alterRow_28 hl (by decide) rfl (fun ls hl => ?_)
    refine lv_aload_n hx hb dX6_alterRow_30 rfl (lv_at hl 1 rfl) ?_
    refine xget (ci := 6) (C := RX6) (T := TX6) (N := 13) hfix xiX6 hK.1 hP 0 rfl rfl 4 (by decide) rfl xw_165 rfl dX6_alterRow_31 ?_
    refine xget (ci := 1) (C := RX1) (T := TX1) (N := 2) hfix xiX1 hK.1 hP 1 rfl rfl 0 (by decide) rfl xw_87 rfl dX6_alterRow_34 ?_
    refine lv_iload_n hx hb dX6_alterRow_37 rfl (lv_at hl 2 rfl) ?_
    refine lv_iconst (v := (3 : Int32)) hx hb dX6_alterRow_38 (by decide) ?_
    refine lv_imul hx hb dX6_alterRow_39 ?_
    refine lv_iload_n hx hb dX6_alterRow_40 rfl (lv_at hl 3 rfl) ?_
    refine lv_iadd hx hb dX6_alterRow_41 ?_
    refine lv_iload_n hx hb dX6_alterRow_42 rfl (lv_at hl 4 rfl) ?_
    obtain ⟨c_4, hF⟩ := gd_e hF
    refine va_iast hx hb hK.1 hP hD hS 2 0 rfl rfl c_4 dX6_alterRow_43 (fun H locs hP hD hS => ?_)
    have hP : va_P D vwCl [(a_t, .inr (6, [.ref a_t_book, .ref a_t_kept, .ref a_t_told, .ref a_t_tape, .ref a_t_rows, .ref a_t_sheets, .ref a_t_shelves, .ref a_t_thing, .ref a_t_shares, .ref a_t_ahead, .int s_t_isKept, .int s_t_z, .int s_t_keptZ])), (a_t_rows, .inr (1, [.ref a_t_rows_cells, .int s_t_rows_count])), (a_t_rows_cells, .inl (cI, 72, .inl (upd v_t_rows_cells ((i1 * (3 : Int32)) + i2).toNatClampNeg i3)))] H := hP
    have hD : va_D A [(a_t, .inr (6, [.ref a_t_book, .ref a_t_kept, .ref a_t_told, .ref a_t_tape, .ref a_t_rows, .ref a_t_sheets, .ref a_t_shelves, .ref a_t_thing, .ref a_t_shares, .ref a_t_ahead, .int s_t_isKept, .int s_t_z, .int s_t_keptZ])), (a_t_rows, .inr (1, [.ref a_t_rows_cells, .int s_t_rows_count])), (a_t_rows_cells, .inl (cI, 72, .inl (upd v_t_rows_cells ((i1 * (3 : Int32)) + i2).toNatClampNeg i3)))] := hD
    refine lv_iload hx hb dX6_alterRow_44 (lv_at hl 0 rfl) ?_
    obtain ⟨rfl, rfl⟩ := pj2 hF
    exact hEnd _ _ _ _ _ dX6_alterRow_46 hP hS rfl
  · replace hF := if_t c_2 hF
    refine lv_bipush (v := (-99 : Int32)) hx hb dX6_alterRow_12 (by decide) ?_
    obtain ⟨rfl, rfl⟩ := pj2 hF
    exact hEnd _ _ _ _ _ dX6_alterRow_14 hP hS rfl
def f_X6_judge_L17 (v_t_book_village : (Nat → Int32)) (i1 : Int32) (v_t_book_held : (Nat → Int32)) (s_t_book_villages : Int32) (v_t_book_mark : (Nat → Int32)) (s_t_rows_count : Int32) (v_t_rows_cells : (Nat → Int32)) : Nat → Int32 → Int32 → Option ((Int32) ⊕ (Int32))
  | 0, _, _ => none
  | n + 1, x2_3, x3_4 => (if (24 : Int32) ≤ x3_4 then some (.inl (x2_3)) else gd x3_4 24 ((if (v_t_book_village x3_4.toNatClampNeg) = (-9 : Int32) then f_X6_judge_L17 v_t_book_village i1 v_t_book_held s_t_book_villages v_t_book_mark s_t_rows_count v_t_rows_cells n x2_3 (x3_4 + (1 : Int32)) else gd i1 6 (bd1 (f_X0_saying (v_t_book_held i1.toNatClampNeg) x3_4 24 s_t_book_villages v_t_book_village v_t_book_mark) (fun (r_10 : Int32) => (if s_t_rows_count ≤ x2_3 then f_X6_judge_L17 v_t_book_village i1 v_t_book_held s_t_book_villages v_t_book_mark s_t_rows_count v_t_rows_cells n (x2_3 + (1 : Int32)) (x3_4 + (1 : Int32)) else gd x3_4 24 (lt1 ((if r_10 = (v_t_book_village x3_4.toNatClampNeg) then ((1 : Int32)) else ((0 : Int32)))) (fun (j_14 : Int32) => bd1 (f_X1_is x2_3 x3_4 r_10 j_14 s_t_rows_count v_t_rows_cells) (fun (r_16 : Int32) => (if r_16 = (0 : Int32) then some (.inr ((x2_3 + (1 : Int32)))) else f_X6_judge_L17 v_t_book_village i1 v_t_book_held s_t_book_villages v_t_book_mark s_t_rows_count v_t_rows_cells n (x2_3 + (1 : Int32)) (x3_4 + (1 : Int32))))))))))))
def f_X6_judge (i1 : Int32) (s_t_book_heldCount : Int32) (s_t_book_villages : Int32) (v_t_book_village : (Nat → Int32)) (v_t_book_held : (Nat → Int32)) (v_t_book_mark : (Nat → Int32)) (s_t_rows_count : Int32) (v_t_rows_cells : (Nat → Int32)) : Option (Int32) := (if (f_X0_holds i1 s_t_book_heldCount) = (0 : Int32) then some ((-1 : Int32)) else bs1 (f_X6_judge_L17 v_t_book_village i1 v_t_book_held s_t_book_villages v_t_book_mark s_t_rows_count v_t_rows_cells 1000 (0 : Int32) (0 : Int32)) (fun (y2_5 : Int32) => (if s_t_rows_count ≤ y2_5 then (if y2_5 ≤ s_t_rows_count then some ((0 : Int32)) else some ((222 : Int32))) else some ((y2_5 + (1 : Int32))))) (fun q => some (q)))
abbrev rmX6_judge : Room := { frames := 3, cells := 0, slots := 0, locals := 70 }
set_option maxHeartbeats 400000 in
set_option maxRecDepth 100000 in
theorem c_X6_judge (l : Launch) (D : va_G) (cI cB cJ : ClassId) (a_t : Nat) (a_t_book : Nat) (a_t_kept : Nat) (a_t_told : Nat) (a_t_tape : Nat) (a_t_rows : Nat) (a_t_sheets : Nat) (a_t_shelves : Nat) (a_t_thing : Nat) (a_t_shares : Nat) (a_t_ahead : Nat) (a_t_book_village : Nat) (a_t_book_mark : Nat) (a_t_book_held : Nat) (a_t_rows_cells : Nat) (sz : Nat) (s_t_isKept : Int32) (s_t_z : Int32) (s_t_keptZ : Int32) (s_t_book_heldCount : Int32) (s_t_book_villages : Int32) (s_t_rows_count : Int32) (v_t_book_village : (Nat → Int32)) (v_t_book_held : (Nat → Int32)) (v_t_book_mark : (Nat → Int32)) (v_t_rows_cells : (Nat → Int32)) (i1 : Int32) (r : Int32) (hF : f_X6_judge i1 s_t_book_heldCount s_t_book_villages v_t_book_village v_t_book_held v_t_book_mark s_t_rows_count v_t_rows_cells = some r) : xMi l yX6_judge (.code yX6_judge cX6_judge 5 (some .int) :: xU) rmX6_judge (xK D cI cB cJ) D sz [.ref a_t, .int i1] [(a_t, .inr (6, [.ref a_t_book, .ref a_t_kept, .ref a_t_told, .ref a_t_tape, .ref a_t_rows, .ref a_t_sheets, .ref a_t_shelves, .ref a_t_thing, .ref a_t_shares, .ref a_t_ahead, .int s_t_isKept, .int s_t_z, .int s_t_keptZ])), (a_t_book, .inr (0, [.ref a_t_book_village, .ref a_t_book_mark, .ref a_t_book_held, .int s_t_book_heldCount, .int s_t_book_villages])), (a_t_book_village, .inl (cI, 24, .inl v_t_book_village)), (a_t_book_held, .inl (cI, 6, .inl v_t_book_held)), (a_t_book_mark, .inl (cI, 24, .inl v_t_book_mark)), (a_t_rows, .inr (1, [.ref a_t_rows_cells, .int s_t_rows_count])), (a_t_rows_cells, .inl (cI, 72, .inl v_t_rows_cells))] [(a_t, .inr (6, [.ref a_t_book, .ref a_t_kept, .ref a_t_told, .ref a_t_tape, .ref a_t_rows, .ref a_t_sheets, .ref a_t_shelves, .ref a_t_thing, .ref a_t_shares, .ref a_t_ahead, .int s_t_isKept, .int s_t_z, .int s_t_keptZ])), (a_t_book, .inr (0, [.ref a_t_book_village, .ref a_t_book_mark, .ref a_t_book_held, .int s_t_book_heldCount, .int s_t_book_villages])), (a_t_book_village, .inl (cI, 24, .inl v_t_book_village)), (a_t_book_held, .inl (cI, 6, .inl v_t_book_held)), (a_t_book_mark, .inl (cI, 24, .inl v_t_book_mark)), (a_t_rows, .inr (1, [.ref a_t_rows_cells, .int s_t_rows_count])), (a_t_rows_cells, .inl (cI, 72, .inl v_t_rows_cells))] r := by
  refine xMi.mk (own := "FairNext") (by decide +kernel) rfl (Nat.le_of_ble_eq_true rfl) ?_
  intro p e s m args below meth c A Q ls H hfix hK hP hD hA hS hl hEnd
  obtain ⟨hx, hb, hml, hown, hts⟩ := id hfix
  have hl : lv_has ls 5 [(0, .ref a_t), (1, .int i1)] := hl
  rw [f_X6_judge] at hF
  refine lv_aload_n hx hb dX6_judge_0 rfl (lv_at hl 0 rfl) ?_
  refine xget (ci := 6) (C := RX6) (T := TX6) (N := 13) hfix xiX6 hK.1 hP 0 rfl rfl 0 (by decide) rfl xw_161 rfl dX6_judge_1 ?_
  refine lv_iload_n hx hb dX6_judge_4 rfl (lv_at hl 1 rfl) ?_
  refine xrz0 (xrunV (As := [.int i1]) (rest := []) (c_X0_holds l D cI cB cJ a_t_book a_t_book_village a_t_book_mark a_t_book_held _ s_t_book_heldCount s_t_book_villages i1 (f_X0_holds i1 s_t_book_heldCount) rfl) hfix xw_377 yv_X0_holds ⟨rfl, rfl⟩ ⟨(Nat.le_of_ble_eq_true rfl), (Nat.le_of_ble_eq_true rfl)⟩ xKk_K (fun U hU hW => xK.warm hW hK) hK.1 hP hD [1] rfl rfl 1 0 rfl rfl rfl rfl hl.1 rfl (Nat.le_of_ble_eq_true rfl) dX6_judge_5 ⟨Nat.zero_le _, Nat.zero_le _⟩) hP hD hS hA [1] rfl rfl (fun H locs hP hD hS hz_1 => ?_)
  refine lv_if_ne (tgt := 13) hx hb dX6_judge_8 (by decide) (fun c_2 => ?_) (fun c_2 => ?_)
  · replace hF := if_f c_2 hF
    refine lv_iconst (v := (0 : Int32)) hx hb dX6_judge_13 (by decide) ?_
    refine lv_istore_n (lv' := [(2, .int (0 : Int32)), (0, .ref a_t), (1, .int i1)]) hx hb dX6_judge_14 rfl hl (by decide) rfl (fun ls hl => ?_)
    refine lv_iconst (v := (0 : Int32)) hx hb dX6_judge_15 (by decide) ?_
    refine lv_istore_n (lv' := [(3, .int (0 : Int32)), (2, .int (0 : Int32)), (0, .ref a_t), (1, .int i1)]) hx hb dX6_judge_16 rfl hl (by decide) rfl (fun ls hl => ?_)
    have hL_17 : ∀ (n : Nat) (x2_3 : Int32) (x3_4 : Int32) (_res : (Int32) ⊕ (Int32)), f_X6_judge_L17 v_t_book_village i1 v_t_book_held s_t_book_villages v_t_book_mark s_t_rows_count v_t_rows_cells n x2_3 x3_4 = some _res → ∀ (H : Heap) (locs : List Loc) (ls : Array Slot), va_P D vwCl [(a_t, .inr (6, [.ref a_t_book, .ref a_t_kept, .ref a_t_told, .ref a_t_tape, .ref a_t_rows, .ref a_t_sheets, .ref a_t_shelves, .ref a_t_thing, .ref a_t_shares, .ref a_t_ahead, .int s_t_isKept, .int s_t_z, .int s_t_keptZ])), (a_t_book, .inr (0, [.ref a_t_book_village, .ref a_t_book_mark, .ref a_t_book_held, .int s_t_book_heldCount, .int s_t_book_villages])), (a_t_book_village, .inl (cI, 24, .inl v_t_book_village)), (a_t_book_held, .inl (cI, 6, .inl v_t_book_held)), (a_t_book_mark, .inl (cI, 24, .inl v_t_book_mark)), (a_t_rows, .inr (1, [.ref a_t_rows_cells, .int s_t_rows_count])), (a_t_rows_cells, .inl (cI, 72, .inl v_t_rows_cells))] H → va_D A [(a_t, .inr (6, [.ref a_t_book, .ref a_t_kept, .ref a_t_told, .ref a_t_tape, .ref a_t_rows, .ref a_t_sheets, .ref a_t_shelves, .ref a_t_thing, .ref a_t_shares, .ref a_t_ahead, .int s_t_isKept, .int s_t_z, .int s_t_keptZ])), (a_t_book, .inr (0, [.ref a_t_book_village, .ref a_t_book_mark, .ref a_t_book_held, .int s_t_book_heldCount, .int s_t_book_villages])), (a_t_book_village, .inl (cI, 24, .inl v_t_book_village)), (a_t_book_held, .inl (cI, 6, .inl v_t_book_held)), (a_t_book_mark, .inl (cI, 24, .inl v_t_book_mark)), (a_t_rows, .inr (1, [.ref a_t_rows_cells, .int s_t_rows_count])), (a_t_rows_cells, .inl (cI, 72, .inl v_t_rows_cells))] → va_S A s.heap H locs → lv_has ls 5 [(0, .ref a_t), (1, .int i1), (2, .int x2_3), (3, .int x3_4)] → (∀ (y2_5 : Int32), _res = .inl y2_5 → ∀ (H : Heap) (locs : List Loc) (ls : Array Slot), va_P D vwCl [(a_t, .inr (6, [.ref a_t_book, .ref a_t_kept, .ref a_t_told, .ref a_t_tape, .ref a_t_rows, .ref a_t_sheets, .ref a_t_shelves, .ref a_t_thing, .ref a_t_shares, .ref a_t_ahead, .int s_t_isKept, .int s_t_z, .int s_t_keptZ])), (a_t_book, .inr (0, [.ref a_t_book_village, .ref a_t_book_mark, .ref a_t_book_held, .int s_t_book_heldCount, .int s_t_book_villages])), (a_t_book_village, .inl (cI, 24, .inl v_t_book_village)), (a_t_book_held, .inl (cI, 6, .inl v_t_book_held)), (a_t_book_mark, .inl (cI, 24, .inl v_t_book_mark)), (a_t_rows, .inr (1, [.ref a_t_rows_cells, .int s_t_rows_count])), (a_t_rows_cells, .inl (cI, 72, .inl v_t_rows_cells))] H → va_D A [(a_t, .inr (6, [.ref a_t_book, .ref a_t_kept, .ref a_t_told, .ref a_t_tape, .ref a_t_rows, .ref a_t_sheets, .ref a_t_shelves, .ref a_t_thing, .ref a_t_shares, .ref a_t_ahead, .int s_t_isKept, .int s_t_z, .int s_t_keptZ])), (a_t_book, .inr (0, [.ref a_t_book_village, .ref a_t_book_mark, .ref a_t_book_held, .int s_t_book_heldCount, .int s_t_book_villages])), (a_t_book_village, .inl (cI, 24, .inl v_t_book_village)), (a_t_book_held, .inl (cI, 6, .inl v_t_book_held)), (a_t_book_mark, .inl (cI, 24, .inl v_t_book_mark)), (a_t_rows, .inr (1, [.ref a_t_rows_cells, .int s_t_rows_count])), (a_t_rows_cells, .inl (cI, 72, .inl v_t_rows_cells))] → va_S A s.heap H locs → lv_has ls 5 [(0, .ref a_t), (2, .int y2_5)] → W p l e rmX6_judge s m args below meth c H locs 0 0 Q (F0 m 120 ls [])) → (∀ q : Int32, _res = .inr q → q = r) → W p l e rmX6_judge s m args below meth c H locs 0 0 Q (F0 m 17 ls []) := by
      intro n
      induction n with
      | zero => intro x2_3 x3_4 _res hF; exact (no_some hF).elim
      | succ n ih =>
        intro x2_3 x3_4 _res hF H locs ls hP hD hS hl kexit hret
        rw [f_X6_judge_L17] at hF
        refine lv_iload_n hx hb dX6_judge_17 rfl (lv_at hl 3 rfl) ?_
        refine lv_bipush (v := (24 : Int32)) hx hb dX6_judge_18 (by decide) ?_
        refine lv_icmp_ge (tgt := 120) hx hb dX6_judge_20 (by decide) (fun c_6 => ?_) (fun c_6 => ?_)
        · replace hF := if_t c_6 hF
          obtain rfl := Option.some.inj hF
          exact kexit _ rfl _ _ _ hP hD hS (lv_sub hl [0, 2] rfl)
        · replace hF := if_f c_6 hF
          refine lv_aload_n hx hb dX6_judge_23 rfl (lv_at hl 0 rfl) ?_
          refine xget (ci := 6) (C := RX6) (T := TX6) (N := 13) hfix xiX6 hK.1 hP 0 rfl rfl 0 (by decide) rfl xw_161 rfl dX6_judge_24 ?_
          refine xget (ci := 0) (C := RX0) (T := TX0) (N := 5) hfix xiX0 hK.1 hP 1 rfl rfl 0 (by decide) rfl xw_34 rfl dX6_judge_27 ?_
          refine lv_iload_n hx hb dX6_judge_30 rfl (lv_at hl 3 rfl) ?_
          obtain ⟨c_7, hF⟩ := gd_e hF
          refine va_iald hx hb hK.1 hP 2 0 rfl rfl c_7 dX6_judge_31 ?_
          refine lv_bipush (v := (-9 : Int32)) hx hb dX6_judge_32 (by decide) ?_
          refine lv_icmp_eq (tgt := 114) hx hb dX6_judge_34 (by decide) (fun c_8 => ?_) (fun c_8 => ?_)
          · replace hF := if_t c_8 hF
            refine lv_iinc (v := (x3_4 + (1 : Int32))) (lv' := [(3, .int (x3_4 + (1 : Int32))), (0, .ref a_t), (1, .int i1), (2, .int x2_3)]) hx hb dX6_judge_114 hl (k := 3) rfl rfl (by decide) rfl (fun ls hl => ?_)
            refine lv_goto (tgt := 17) hx hb dX6_judge_117 (by decide) ?_
            exact ih _ _ _ hF _ _ _ hP hD hS (lv_sub hl [1, 2, 3, 0] rfl) kexit hret
          · replace hF := if_f c_8 hF
            refine lv_aload_n hx hb dX6_judge_37 rfl (lv_at hl 0 rfl) ?_
            refine xget (ci := 6) (C := RX6) (T := TX6) (N := 13) hfix xiX6 hK.1 hP 0 rfl rfl 0 (by decide) rfl xw_161 rfl dX6_judge_38 ?_
            refine lv_aload_n hx hb dX6_judge_41 rfl (lv_at hl 0 rfl) ?_
            refine xget (ci := 6) (C := RX6) (T := TX6) (N := 13) hfix xiX6 hK.1 hP 0 rfl rfl 0 (by decide) rfl xw_161 rfl dX6_judge_42 ?_
            refine xget (ci := 0) (C := RX0) (T := TX0) (N := 5) hfix xiX0 hK.1 hP 1 rfl rfl 2 (by decide) rfl xw_40 rfl dX6_judge_45 ?_
            refine lv_iload_n hx hb dX6_judge_48 rfl (lv_at hl 1 rfl) ?_
            obtain ⟨c_9, hF⟩ := gd_e hF
            refine va_iald hx hb hK.1 hP 3 0 rfl rfl c_9 dX6_judge_49 ?_
            refine lv_iload_n hx hb dX6_judge_50 rfl (lv_at hl 3 rfl) ?_
            refine lv_aload_n hx hb dX6_judge_51 rfl (lv_at hl 0 rfl) ?_
            refine xget (ci := 6) (C := RX6) (T := TX6) (N := 13) hfix xiX6 hK.1 hP 0 rfl rfl 0 (by decide) rfl xw_161 rfl dX6_judge_52 ?_
            refine xget (ci := 0) (C := RX0) (T := TX0) (N := 5) hfix xiX0 hK.1 hP 1 rfl rfl 0 (by decide) rfl xw_34 rfl dX6_judge_55 ?_
            obtain ⟨r_10, hq_11, hF⟩ := bd1_e hF
            refine xri0 (xrunV (As := [.int (v_t_book_held i1.toNatClampNeg), .int x3_4, .ref a_t_book_village]) (rest := []) (c_X0_saying l D cI cB cJ a_t_book a_t_book_village a_t_book_mark a_t_book_held a_t_book_village _ 24 s_t_book_heldCount s_t_book_villages v_t_book_village v_t_book_mark (v_t_book_held i1.toNatClampNeg) x3_4 r_10 hq_11) hfix xw_438 yv_X0_saying ⟨rfl, rfl⟩ ⟨(Nat.le_of_ble_eq_true rfl), (Nat.le_of_ble_eq_true rfl)⟩ xKk_K (fun U hU hW => xK.warm hW hK) hK.1 hP hD [1, 2, 4] rfl rfl 1 0 rfl rfl rfl rfl hl.1 rfl (Nat.le_of_ble_eq_true rfl) dX6_judge_58 ⟨Nat.zero_le _, Nat.zero_le _⟩) hP hD hS hA [1, 2, 4] rfl rfl (fun H locs hP hD hS => ?_)
            refine lv_istore (lv' := [(4, .int r_10), (0, .ref a_t), (1, .int i1), (2, .int x2_3), (3, .int x3_4)]) hx hb dX6_judge_61 hl (by decide) rfl (fun ls hl => ?_)
            refine lv_iload_n hx hb dX6_judge_63 rfl (lv_at hl 3 rfl) ?_
            refine lv_aload_n hx hb dX6_judge_64 rfl (lv_at hl 1 rfl) ?_
            refine xget (ci := 6) (C := RX6) (T := TX6) (N := 13) hfix xiX6 hK.1 hP 0 rfl rfl 4 (by decide) rfl xw_165 rfl dX6_judge_65 ?_
            refine xget (ci := 1) (C := RX1) (T := TX1) (N := 2) hfix xiX1 hK.1 hP 5 rfl rfl 1 (by decide) rfl xw_89 rfl dX6_judge_68 ?_
            refine lv_icmp_ge (tgt := 111) hx hb dX6_judge_71 (by decide) (fun c_12 => ?_) (fun c_12 => ?_)
            · replace hF := if_t c_12 hF
              refine lv_iinc (v := (x2_3 + (1 : Int32))) (lv' := [(2, .int (x2_3 + (1 : Int32))), (4, .int r_10), (0, .ref a_t), (1, .int i1), (3, .int x3_4)]) hx hb dX6_judge_111 hl (k := 3) rfl rfl (by decide) rfl (fun ls hl => ?_)
              refine lv_iinc (v := (x3_4 + (1 : Int32))) (lv' := [(3, .int (x3_4 + (1 : Int32))), (2, .int (x2_3 + (1 : Int32))), (4, .int r_10), (0, .ref a_t), (1, .int i1)]) hx hb dX6_judge_114 hl (k := 4) rfl rfl (by decide) rfl (fun ls hl => ?_)
              refine lv_goto (tgt := 17) hx hb dX6_judge_117 (by decide) ?_
              exact ih _ _ _ hF _ _ _ hP hD hS (lv_sub hl [3, 4, 1, 0] rfl) kexit hret
            · replace hF := if_f c_12 hF
              refine lv_aload_n hx hb dX6_judge_74 rfl (lv_at hl 1 rfl) ?_
              refine xget (ci := 6) (C := RX6) (T := TX6) (N := 13) hfix xiX6 hK.1 hP 0 rfl rfl 4 (by decide) rfl xw_165 rfl dX6_judge_75 ?_
              refine lv_iload_n hx hb dX6_judge_78 rfl (lv_at hl 3 rfl) ?_
              refine lv_iload_n hx hb dX6_judge_79 rfl (lv_at hl 4 rfl) ?_
              refine lv_iload hx hb dX6_judge_80 (lv_at hl 0 rfl) ?_
              refine lv_iload hx hb dX6_judge_82 (lv_at hl 0 rfl) ?_
              refine lv_aload_n hx hb dX6_judge_84 rfl (lv_at hl 1 rfl) ?_
              refine xget (ci := 6) (C := RX6) (T := TX6) (N := 13) hfix xiX6 hK.1 hP 0 rfl rfl 0 (by decide) rfl xw_161 rfl dX6_judge_85 ?_
              refine xget (ci := 0) (C := RX0) (T := TX0) (N := 5) hfix xiX0 hK.1 hP 1 rfl rfl 0 (by decide) rfl xw_34 rfl dX6_judge_88 ?_
              refine lv_iload_n hx hb dX6_judge_91 rfl (lv_at hl 4 rfl) ?_
              obtain ⟨c_13, hF⟩ := gd_e hF
              refine va_iald hx hb hK.1 hP 2 0 rfl rfl c_13 dX6_judge_92 ?_
              obtain ⟨j_14, hJ, hF⟩ := lt1_e hF
              have hN_101_15 : x01 j_14 → ∀ (H : Heap) (locs : List Loc) (ls : Array Slot), va_P D vwCl [(a_t, .inr (6, [.ref a_t_book, .ref a_t_kept, .ref a_t_told, .ref a_t_tape, .ref a_t_rows, .ref a_t_sheets, .ref a_t_shelves, .ref a_t_thing, .ref a_t_shares, .ref a_t_ahead, .int s_t_isKept, .int s_t_z, .int s_t_keptZ])), (a_t_book, .inr (0, [.ref a_t_book_village, .ref a_t_book_mark, .ref a_t_book_held, .int s_t_book_heldCount, .int s_t_book_villages])), (a_t_book_village, .inl (cI, 24, .inl v_t_book_village)), (a_t_book_held, .inl (cI, 6, .inl v_t_book_held)), (a_t_book_mark, .inl (cI, 24, .inl v_t_book_mark)), (a_t_rows, .inr (1, [.ref a_t_rows_cells, .int s_t_rows_count])), (a_t_rows_cells, .inl (cI, 72, .inl v_t_rows_cells))] H → va_D A [(a_t, .inr (6, [.ref a_t_book, .ref a_t_kept, .ref a_t_told, .ref a_t_tape, .ref a_t_rows, .ref a_t_sheets, .ref a_t_shelves, .ref a_t_thing, .ref a_t_shares, .ref a_t_ahead, .int s_t_isKept, .int s_t_z, .int s_t_keptZ])), (a_t_book, .inr (0, [.ref a_t_book_village, .ref a_t_book_mark, .ref a_t_book_held, .int s_t_book_heldCount, .int s_t_book_villages])), (a_t_book_village, .inl (cI, 24, .inl v_t_book_village)), (a_t_book_held, .inl (cI, 6, .inl v_t_book_held)), (a_t_book_mark, .inl (cI, 24, .inl v_t_book_mark)), (a_t_rows, .inr (1, [.ref a_t_rows_cells, .int s_t_rows_count])), (a_t_rows_cells, .inl (cI, 72, .inl v_t_rows_cells))] → va_S A s.heap H locs → lv_has ls 5 [(0, .ref a_t), (1, .int i1), (2, .int x2_3), (3, .int x3_4)] → W p l e rmX6_judge s m args below meth c H locs 0 0 Q (F0 m 101 ls [.int j_14, .int r_10, .int x3_4, .int x2_3, .ref a_t_rows]) := by
                intro h01_15 H locs ls hP hD hS hl
                obtain ⟨r_16, hq_17, hF⟩ := bd1_e hF
                refine xrz0 (xrunV (As := [.int x2_3, .int x3_4, .int r_10, .int j_14]) (rest := []) (c_X1_is l D cI cB cJ a_t_rows a_t_rows_cells _ s_t_rows_count v_t_rows_cells x2_3 x3_4 r_10 j_14 r_16 hq_17) hfix xw_582 yv_X1_is ⟨rfl, rfl⟩ ⟨(Nat.le_of_ble_eq_true rfl), (Nat.le_of_ble_eq_true rfl)⟩ xKk_K (fun U hU hW => xK.warm hW hK) hK.1 hP hD [5, 6] rfl rfl 5 1 rfl rfl rfl rfl hl.1 rfl (Nat.le_of_ble_eq_true rfl) dX6_judge_101 ⟨Nat.zero_le _, Nat.zero_le _⟩) hP hD hS hA [5, 6] rfl rfl (fun H locs hP hD hS hz_18 => ?_)
                refine lv_if_ne (tgt := 111) hx hb dX6_judge_104 (by decide) (fun c_19 => ?_) (fun c_19 => ?_)
                · replace hF := if_f c_19 hF
                  refine lv_iinc (v := (x2_3 + (1 : Int32))) (lv' := [(2, .int (x2_3 + (1 : Int32))), (0, .ref a_t), (1, .int i1), (3, .int x3_4)]) hx hb dX6_judge_111 hl (k := 2) rfl rfl (by decide) rfl (fun ls hl => ?_)
                  refine lv_iinc (v := (x3_4 + (1 : Int32))) (lv' := [(3, .int (x3_4 + (1 : Int32))), (2, .int (x2_3 + (1 : Int32))), (0, .ref a_t), (1, .int i1)]) hx hb dX6_judge_114 hl (k := 3) rfl rfl (by decide) rfl (fun ls hl => ?_)
                  refine lv_goto (tgt := 17) hx hb dX6_judge_117 (by decide) ?_
                  exact ih _ _ _ hF _ _ _ hP hD hS (lv_sub hl [2, 3, 1, 0] rfl) kexit hret
                · replace hF := if_t c_19 hF
                  refine lv_iload_n hx hb dX6_judge_107 rfl (lv_at hl 2 rfl) ?_
                  refine lv_iconst (v := (1 : Int32)) hx hb dX6_judge_108 (by decide) ?_
                  refine lv_iadd hx hb dX6_judge_109 ?_
                  obtain rfl := Option.some.inj hF
                  have hF := hret _ rfl
                  subst hF
                  exact hEnd _ _ _ _ _ dX6_judge_110 hP hS rfl
              replace hF := hJ
              refine lv_icmp_ne (tgt := 100) hx hb dX6_judge_93 (by decide) (fun c_20 => ?_) (fun c_20 => ?_)
              · replace hF := if_f c_20 hF
                refine lv_iconst (v := (0 : Int32)) hx hb dX6_judge_100 (by decide) ?_
                subst hF
                exact hN_101_15 x01_0 _ _ _ hP hD hS (lv_sub hl [1, 2, 3, 4] rfl)
              · replace hF := if_t c_20 hF
                refine lv_iconst (v := (1 : Int32)) hx hb dX6_judge_96 (by decide) ?_
                refine lv_goto (tgt := 101) hx hb dX6_judge_97 (by decide) ?_
                subst hF
                exact hN_101_15 x01_1 _ _ _ hP hD hS (lv_sub hl [1, 2, 3, 4] rfl)
    rcases bs1_e hF with ⟨y2_5, hq, hF⟩ | ⟨q, hq, hF⟩
    · refine hL_17 _ _ _ _ hq _ _ _ hP hD hS (lv_sub hl [2, 3, 1, 0] rfl) (fun y2_5' e H locs ls hP hD hS hl => ?_) (fun q e => nomatch e)
      cases e
      refine lv_aload_n hx hb dX6_judge_120 rfl (lv_at hl 0 rfl) ?_
      refine xget (ci := 6) (C := RX6) (T := TX6) (N := 13) hfix xiX6 hK.1 hP 0 rfl rfl 4 (by decide) rfl xw_165 rfl dX6_judge_121 ?_
      refine xget (ci := 1) (C := RX1) (T := TX1) (N := 2) hfix xiX1 hK.1 hP 5 rfl rfl 1 (by decide) rfl xw_89 rfl dX6_judge_124 ?_
      refine lv_iload_n hx hb dX6_judge_127 rfl (lv_at hl 1 rfl) ?_
      refine lv_icmp_le (tgt := 135) hx hb dX6_judge_128 (by decide) (fun c_21 => ?_) (fun c_21 => ?_)
      · replace hF := if_t c_21 hF
        refine lv_aload_n hx hb dX6_judge_135 rfl (lv_at hl 0 rfl) ?_
        refine xget (ci := 6) (C := RX6) (T := TX6) (N := 13) hfix xiX6 hK.1 hP 0 rfl rfl 4 (by decide) rfl xw_165 rfl dX6_judge_136 ?_
        refine xget (ci := 1) (C := RX1) (T := TX1) (N := 2) hfix xiX1 hK.1 hP 5 rfl rfl 1 (by decide) rfl xw_89 rfl dX6_judge_139 ?_
        refine lv_iload_n hx hb dX6_judge_142 rfl (lv_at hl 1 rfl) ?_
        refine lv_icmp_ge (tgt := 152) hx hb dX6_judge_143 (by decide) (fun c_22 => ?_) (fun c_22 => ?_)
        · replace hF := if_t c_22 hF
          refine lv_iconst (v := (0 : Int32)) hx hb dX6_judge_152 (by decide) ?_
          obtain rfl := Option.some.inj hF
          exact hEnd _ _ _ _ _ dX6_judge_153 hP hS rfl
        · replace hF := if_f c_22 hF
          refine lv_sipush (v := (222 : Int32)) hx hb dX6_judge_146 (by decide) ?_
          refine lv_goto (tgt := 153) hx hb dX6_judge_149 (by decide) ?_
          obtain rfl := Option.some.inj hF
          exact hEnd _ _ _ _ _ dX6_judge_153 hP hS rfl
      · replace hF := if_f c_21 hF
        refine lv_iload_n hx hb dX6_judge_131 rfl (lv_at hl 1 rfl) ?_
        refine lv_iconst (v := (1 : Int32)) hx hb dX6_judge_132 (by decide) ?_
        refine lv_iadd hx hb dX6_judge_133 ?_
        obtain rfl := Option.some.inj hF
        exact hEnd _ _ _ _ _ dX6_judge_134 hP hS rfl
    · exact hL_17 _ _ _ _ hq _ _ _ hP hD hS (lv_sub hl [2, 3, 1, 0] rfl) (fun _ e => nomatch e) (fun q e => by cases e; cases hF; rfl)
  · replace hF := if_t c_2 hF
    refine lv_iconst (v := (-1 : Int32)) hx hb dX6_judge_11 (by decide) ?_
    obtain rfl := Option.some.inj hF
    exact hEnd _ _ _ _ _ dX6_judge_12 hP hS rfl
def f_X6_years_L93 (i4 : Int32) (i1 : Int32) (i2 : Int32) (v_t_sheets_items : (Nat → Int64)) (i3 : Int32) : Nat → Int32 → Int32 → (Nat → Int32) → Option (Int32 × (Nat → Int32))
  | 0, _, _, _ => none
  | n + 1, x5_14, x6_15, xv_t_book_village_16 => (if i4 ≤ x6_15 then some ((x5_14, xv_t_book_village_16)) else gd (((i1 * (40 : Int32)) + i2) + x6_15) 160 (lt1 ((if (f_X6_outside ((v_t_sheets_items (((i1 * (40 : Int32)) + i2) + x6_15).toNatClampNeg).toInt32) (0 : Int32) (9 : Int32)) = (0 : Int32) then (((v_t_sheets_items (((i1 * (40 : Int32)) + i2) + x6_15).toNatClampNeg).toInt32)) else ((-9 : Int32)))) (fun (j_22 : Int32) => gd (i3 + x6_15) 24 ((if (f_X6_outside ((v_t_sheets_items (((i1 * (40 : Int32)) + i2) + x6_15).toNatClampNeg).toInt32) (0 : Int32) (9 : Int32)) = (0 : Int32) then f_X6_years_L93 i4 i1 i2 v_t_sheets_items i3 n (x5_14 + (1 : Int32)) (x6_15 + (1 : Int32)) (upd xv_t_book_village_16 (i3 + x6_15).toNatClampNeg j_22) else f_X6_years_L93 i4 i1 i2 v_t_sheets_items i3 n (x5_14 + (0 : Int32)) (x6_15 + (1 : Int32)) (upd xv_t_book_village_16 (i3 + x6_15).toNatClampNeg j_22))))))
def f_X6_years (i1 : Int32) (i2 : Int32) (i3 : Int32) (i4 : Int32) (v_t_sheets_sort : (Nat → Int32)) (v_t_sheets_size : (Nat → Int32)) (v_t_sheets_items : (Nat → Int64)) (v_t_book_village : (Nat → Int32)) : Option (Int32 × (Nat → Int32)) := (if (f_X6_outside i1 (0 : Int32) (3 : Int32)) = (0 : Int32) then (if (f_X6_outside i3 (0 : Int32) (23 : Int32)) = (0 : Int32) then (if (f_X6_outside i4 (0 : Int32) ((24 : Int32) - i3)) = (0 : Int32) then gd i1 4 ((if (0 : Int32) ≤ (v_t_sheets_sort i1.toNatClampNeg) then gd i1 4 ((if (v_t_sheets_sort i1.toNatClampNeg) = (0 : Int32) then gd i1 4 ((if (f_X6_outside i2 (0 : Int32) ((v_t_sheets_size i1.toNatClampNeg) - i4)) = (0 : Int32) then bd2 (f_X6_years_L93 i4 i1 i2 v_t_sheets_items i3 1000 (0 : Int32) (0 : Int32) v_t_book_village) (fun (y5_17 : Int32) (yv_t_book_village_18 : (Nat → Int32)) => some ((y5_17, yv_t_book_village_18))) else some (((-12 : Int32), v_t_book_village)))) else some (((-13 : Int32), v_t_book_village)))) else some (((-11 : Int32), v_t_book_village)))) else some (((-1 : Int32), v_t_book_village))) else some (((-1 : Int32), v_t_book_village))) else some (((-1 : Int32), v_t_book_village)))
abbrev rmX6_years : Room := { frames := 1, cells := 0, slots := 0, locals := 22 }
set_option maxHeartbeats 400000 in
set_option maxRecDepth 100000 in
theorem c_X6_years (l : Launch) (D : va_G) (cI cB cJ : ClassId) (a_t : Nat) (a_t_book : Nat) (a_t_kept : Nat) (a_t_told : Nat) (a_t_tape : Nat) (a_t_rows : Nat) (a_t_sheets : Nat) (a_t_shelves : Nat) (a_t_thing : Nat) (a_t_shares : Nat) (a_t_ahead : Nat) (a_t_sheets_sort : Nat) (a_t_sheets_size : Nat) (a_t_sheets_items : Nat) (a_t_book_village : Nat) (a_t_book_mark : Nat) (a_t_book_held : Nat) (sz : Nat) (s_t_isKept : Int32) (s_t_z : Int32) (s_t_keptZ : Int32) (s_t_book_heldCount : Int32) (s_t_book_villages : Int32) (v_t_sheets_sort : (Nat → Int32)) (v_t_sheets_size : (Nat → Int32)) (v_t_sheets_items : (Nat → Int64)) (v_t_book_village : (Nat → Int32)) (i1 : Int32) (i2 : Int32) (i3 : Int32) (i4 : Int32) (r : Int32) (o_v_t_book_village : (Nat → Int32)) (hF : f_X6_years i1 i2 i3 i4 v_t_sheets_sort v_t_sheets_size v_t_sheets_items v_t_book_village = some (r, o_v_t_book_village)) : xMi l yX6_years (.code yX6_years cX6_years 9 (some .int) :: xU) rmX6_years (xK D cI cB cJ) D sz [.ref a_t, .int i1, .int i2, .int i3, .int i4] [(a_t, .inr (6, [.ref a_t_book, .ref a_t_kept, .ref a_t_told, .ref a_t_tape, .ref a_t_rows, .ref a_t_sheets, .ref a_t_shelves, .ref a_t_thing, .ref a_t_shares, .ref a_t_ahead, .int s_t_isKept, .int s_t_z, .int s_t_keptZ])), (a_t_sheets, .inr (2, [.ref a_t_sheets_sort, .ref a_t_sheets_size, .ref a_t_sheets_items])), (a_t_sheets_sort, .inl (cI, 4, .inl v_t_sheets_sort)), (a_t_sheets_size, .inl (cI, 4, .inl v_t_sheets_size)), (a_t_sheets_items, .inl (cJ, 160, .inr (.inl v_t_sheets_items))), (a_t_book, .inr (0, [.ref a_t_book_village, .ref a_t_book_mark, .ref a_t_book_held, .int s_t_book_heldCount, .int s_t_book_villages])), (a_t_book_village, .inl (cI, 24, .inl v_t_book_village))] [(a_t, .inr (6, [.ref a_t_book, .ref a_t_kept, .ref a_t_told, .ref a_t_tape, .ref a_t_rows, .ref a_t_sheets, .ref a_t_shelves, .ref a_t_thing, .ref a_t_shares, .ref a_t_ahead, .int s_t_isKept, .int s_t_z, .int s_t_keptZ])), (a_t_sheets, .inr (2, [.ref a_t_sheets_sort, .ref a_t_sheets_size, .ref a_t_sheets_items])), (a_t_sheets_sort, .inl (cI, 4, .inl v_t_sheets_sort)), (a_t_sheets_size, .inl (cI, 4, .inl v_t_sheets_size)), (a_t_sheets_items, .inl (cJ, 160, .inr (.inl v_t_sheets_items))), (a_t_book, .inr (0, [.ref a_t_book_village, .ref a_t_book_mark, .ref a_t_book_held, .int s_t_book_heldCount, .int s_t_book_villages])), (a_t_book_village, .inl (cI, 24, .inl o_v_t_book_village))] r := by
  refine xMi.mk (own := "FairNext") (by decide +kernel) rfl (Nat.le_of_ble_eq_true rfl) ?_
  intro p e s m args below meth c A Q ls H hfix hK hP hD hA hS hl hEnd
  obtain ⟨hx, hb, hml, hown, hts⟩ := id hfix
  have hl : lv_has ls 9 [(0, .ref a_t), (1, .int i1), (2, .int i2), (3, .int i3), (4, .int i4)] := hl
  rw [f_X6_years] at hF
  refine lv_iload_n hx hb dX6_years_0 rfl (lv_at hl 1 rfl) ?_
  refine lv_iconst (v := (0 : Int32)) hx hb dX6_years_1 (by decide) ?_
  refine lv_iconst (v := (3 : Int32)) hx hb dX6_years_2 (by decide) ?_
  refine xrz0 (xrunS (As := [.int i1, .int (0 : Int32), .int (3 : Int32)]) (rest := []) (c_X6_outside l D cI cB cJ _ i1 (0 : Int32) (3 : Int32) (f_X6_outside i1 (0 : Int32) (3 : Int32)) rfl) hfix xw_205 ys_X6_outside ⟨rfl, rfl⟩ ⟨(Nat.le_of_ble_eq_true rfl), (Nat.le_of_ble_eq_true rfl)⟩ xKk_K (fun U hU hW => xK.warm hW hK) hP hD [] rfl rfl rfl hl.1 rfl (Nat.le_of_ble_eq_true rfl) dX6_years_3 ⟨Nat.zero_le _, Nat.zero_le _⟩) hP hD hS hA [] rfl rfl (fun H locs hP hD hS hz_1 => ?_)
  refine lv_if_ne (tgt := 32) hx hb dX6_years_6 (by decide) (fun c_2 => ?_) (fun c_2 => ?_)
  · replace hF := if_f c_2 hF
    refine lv_iconst (v := (-1 : Int32)) hx hb dX6_years_32 (by decide) ?_
    obtain ⟨rfl, rfl⟩ := pj2 hF
    exact hEnd _ _ _ _ _ dX6_years_33 hP hS rfl
  · replace hF := if_t c_2 hF
    refine lv_iload_n hx hb dX6_years_9 rfl (lv_at hl 3 rfl) ?_
    refine lv_iconst (v := (0 : Int32)) hx hb dX6_years_10 (by decide) ?_
    refine lv_bipush (v := (23 : Int32)) hx hb dX6_years_11 (by decide) ?_
    refine xrz0 (xrunS (As := [.int i3, .int (0 : Int32), .int (23 : Int32)]) (rest := []) (c_X6_outside l D cI cB cJ _ i3 (0 : Int32) (23 : Int32) (f_X6_outside i3 (0 : Int32) (23 : Int32)) rfl) hfix xw_205 ys_X6_outside ⟨rfl, rfl⟩ ⟨(Nat.le_of_ble_eq_true rfl), (Nat.le_of_ble_eq_true rfl)⟩ xKk_K (fun U hU hW => xK.warm hW hK) hP hD [] rfl rfl rfl hl.1 rfl (Nat.le_of_ble_eq_true rfl) dX6_years_13 ⟨Nat.zero_le _, Nat.zero_le _⟩) hP hD hS hA [] rfl rfl (fun H locs hP hD hS hz_3 => ?_)
    refine lv_if_ne (tgt := 32) hx hb dX6_years_16 (by decide) (fun c_4 => ?_) (fun c_4 => ?_)
    · replace hF := if_f c_4 hF
      refine lv_iconst (v := (-1 : Int32)) hx hb dX6_years_32 (by decide) ?_
      obtain ⟨rfl, rfl⟩ := pj2 hF
      exact hEnd _ _ _ _ _ dX6_years_33 hP hS rfl
    · replace hF := if_t c_4 hF
      refine lv_iload hx hb dX6_years_19 (lv_at hl 4 rfl) ?_
      refine lv_iconst (v := (0 : Int32)) hx hb dX6_years_21 (by decide) ?_
      refine lv_bipush (v := (24 : Int32)) hx hb dX6_years_22 (by decide) ?_
      refine lv_iload_n hx hb dX6_years_24 rfl (lv_at hl 3 rfl) ?_
      refine lv_isub hx hb dX6_years_25 ?_
      refine xrz0 (xrunS (As := [.int i4, .int (0 : Int32), .int ((24 : Int32) - i3)]) (rest := []) (c_X6_outside l D cI cB cJ _ i4 (0 : Int32) ((24 : Int32) - i3) (f_X6_outside i4 (0 : Int32) ((24 : Int32) - i3)) rfl) hfix xw_205 ys_X6_outside ⟨rfl, rfl⟩ ⟨(Nat.le_of_ble_eq_true rfl), (Nat.le_of_ble_eq_true rfl)⟩ xKk_K (fun U hU hW => xK.warm hW hK) hP hD [] rfl rfl rfl hl.1 rfl (Nat.le_of_ble_eq_true rfl) dX6_years_26 ⟨Nat.zero_le _, Nat.zero_le _⟩) hP hD hS hA [] rfl rfl (fun H locs hP hD hS hz_5 => ?_)
      refine lv_if_eq (tgt := 34) hx hb dX6_years_29 (by decide) (fun c_6 => ?_) (fun c_6 => ?_)
      · replace hF := if_t c_6 hF
        refine lv_aload_n hx hb dX6_years_34 rfl (lv_at hl 0 rfl) ?_
        refine xget (ci := 6) (C := RX6) (T := TX6) (N := 13) hfix xiX6 hK.1 hP 0 rfl rfl 5 (by decide) rfl xw_166 rfl dX6_years_35 ?_
        refine xget (ci := 2) (C := RX2) (T := TX2) (N := 3) hfix xiX2 hK.1 hP 1 rfl rfl 0 (by decide) rfl xw_102 rfl dX6_years_38 ?_
        refine lv_iload_n hx hb dX6_years_41 rfl (lv_at hl 1 rfl) ?_
        obtain ⟨c_7, hF⟩ := gd_e hF
        refine va_iald hx hb hK.1 hP 2 0 rfl rfl c_7 dX6_years_42 ?_
        refine lv_if_ge (tgt := 49) hx hb dX6_years_43 (by decide) (fun c_8 => ?_) (fun c_8 => ?_)
        · replace hF := if_t c_8 hF
          refine lv_aload_n hx hb dX6_years_49 rfl (lv_at hl 0 rfl) ?_
          refine xget (ci := 6) (C := RX6) (T := TX6) (N := 13) hfix xiX6 hK.1 hP 0 rfl rfl 5 (by decide) rfl xw_166 rfl dX6_years_50 ?_
          refine xget (ci := 2) (C := RX2) (T := TX2) (N := 3) hfix xiX2 hK.1 hP 1 rfl rfl 0 (by decide) rfl xw_102 rfl dX6_years_53 ?_
          refine lv_iload_n hx hb dX6_years_56 rfl (lv_at hl 1 rfl) ?_
          obtain ⟨c_9, hF⟩ := gd_e hF
          refine va_iald hx hb hK.1 hP 2 0 rfl rfl c_9 dX6_years_57 ?_
          refine lv_if_eq (tgt := 64) hx hb dX6_years_58 (by decide) (fun c_10 => ?_) (fun c_10 => ?_)
          · replace hF := if_t c_10 hF
            refine lv_iload_n hx hb dX6_years_64 rfl (lv_at hl 2 rfl) ?_
            refine lv_iconst (v := (0 : Int32)) hx hb dX6_years_65 (by decide) ?_
            refine lv_aload_n hx hb dX6_years_66 rfl (lv_at hl 0 rfl) ?_
            refine xget (ci := 6) (C := RX6) (T := TX6) (N := 13) hfix xiX6 hK.1 hP 0 rfl rfl 5 (by decide) rfl xw_166 rfl dX6_years_67 ?_
            refine xget (ci := 2) (C := RX2) (T := TX2) (N := 3) hfix xiX2 hK.1 hP 1 rfl rfl 1 (by decide) rfl xw_104 rfl dX6_years_70 ?_
            refine lv_iload_n hx hb dX6_years_73 rfl (lv_at hl 1 rfl) ?_
            obtain ⟨c_11, hF⟩ := gd_e hF
            refine va_iald hx hb hK.1 hP 3 0 rfl rfl c_11 dX6_years_74 ?_
            refine lv_iload hx hb dX6_years_75 (lv_at hl 4 rfl) ?_
            refine lv_isub hx hb dX6_years_77 ?_
            refine xrz0 (xrunS (As := [.int i2, .int (0 : Int32), .int ((v_t_sheets_size i1.toNatClampNeg) - i4)]) (rest := []) (c_X6_outside l D cI cB cJ _ i2 (0 : Int32) ((v_t_sheets_size i1.toNatClampNeg) - i4) (f_X6_outside i2 (0 : Int32) ((v_t_sheets_size i1.toNatClampNeg) - i4)) rfl) hfix xw_205 ys_X6_outside ⟨rfl, rfl⟩ ⟨(Nat.le_of_ble_eq_true rfl), (Nat.le_of_ble_eq_true rfl)⟩ xKk_K (fun U hU hW => xK.warm hW hK) hP hD [] rfl rfl rfl hl.1 rfl (Nat.le_of_ble_eq_true rfl) dX6_years_78 ⟨Nat.zero_le _, Nat.zero_le _⟩) hP hD hS hA [] rfl rfl (fun H locs hP hD hS hz_12 => ?_)
            refine lv_if_eq (tgt := 87) hx hb dX6_years_81 (by decide) (fun c_13 => ?_) (fun c_13 => ?_)
            · replace hF := if_t c_13 hF
              refine lv_iconst (v := (0 : Int32)) hx hb dX6_years_87 (by decide) ?_
              refine lv_istore (lv' := [(5, .int (0 : Int32)), (0, .ref a_t), (1, .int i1), (2, .int i2), (3, .int i3), (4, .int i4)]) hx hb dX6_years_88 hl (by decide) rfl (fun ls hl => ?_)
              refine lv_iconst (v := (0 : Int32)) hx hb dX6_years_90 (by decide) ?_
              refine lv_istore (lv' := [(6, .int (0 : Int32)), (5, .int (0 : Int32)), (0, .ref a_t), (1, .int i1), (2, .int i2), (3, .int i3), (4, .int i4)]) hx hb dX6_years_91 hl (by decide) rfl (fun ls hl => ?_)
              have hL_93 : ∀ (n : Nat) (x5_14 : Int32) (x6_15 : Int32) (xv_t_book_village_16 : (Nat → Int32)) (y5_17 : Int32) (yv_t_book_village_18 : (Nat → Int32)), f_X6_years_L93 i4 i1 i2 v_t_sheets_items i3 n x5_14 x6_15 xv_t_book_village_16 = some (y5_17, yv_t_book_village_18) → ∀ (H : Heap) (locs : List Loc) (ls : Array Slot), va_P D vwCl [(a_t, .inr (6, [.ref a_t_book, .ref a_t_kept, .ref a_t_told, .ref a_t_tape, .ref a_t_rows, .ref a_t_sheets, .ref a_t_shelves, .ref a_t_thing, .ref a_t_shares, .ref a_t_ahead, .int s_t_isKept, .int s_t_z, .int s_t_keptZ])), (a_t_sheets, .inr (2, [.ref a_t_sheets_sort, .ref a_t_sheets_size, .ref a_t_sheets_items])), (a_t_sheets_sort, .inl (cI, 4, .inl v_t_sheets_sort)), (a_t_sheets_size, .inl (cI, 4, .inl v_t_sheets_size)), (a_t_sheets_items, .inl (cJ, 160, .inr (.inl v_t_sheets_items))), (a_t_book, .inr (0, [.ref a_t_book_village, .ref a_t_book_mark, .ref a_t_book_held, .int s_t_book_heldCount, .int s_t_book_villages])), (a_t_book_village, .inl (cI, 24, .inl xv_t_book_village_16))] H → va_D A [(a_t, .inr (6, [.ref a_t_book, .ref a_t_kept, .ref a_t_told, .ref a_t_tape, .ref a_t_rows, .ref a_t_sheets, .ref a_t_shelves, .ref a_t_thing, .ref a_t_shares, .ref a_t_ahead, .int s_t_isKept, .int s_t_z, .int s_t_keptZ])), (a_t_sheets, .inr (2, [.ref a_t_sheets_sort, .ref a_t_sheets_size, .ref a_t_sheets_items])), (a_t_sheets_sort, .inl (cI, 4, .inl v_t_sheets_sort)), (a_t_sheets_size, .inl (cI, 4, .inl v_t_sheets_size)), (a_t_sheets_items, .inl (cJ, 160, .inr (.inl v_t_sheets_items))), (a_t_book, .inr (0, [.ref a_t_book_village, .ref a_t_book_mark, .ref a_t_book_held, .int s_t_book_heldCount, .int s_t_book_villages])), (a_t_book_village, .inl (cI, 24, .inl xv_t_book_village_16))] → va_S A s.heap H locs → lv_has ls 9 [(0, .ref a_t), (1, .int i1), (2, .int i2), (3, .int i3), (4, .int i4), (5, .int x5_14), (6, .int x6_15)] → (∀ (H : Heap) (locs : List Loc) (ls : Array Slot), va_P D vwCl [(a_t, .inr (6, [.ref a_t_book, .ref a_t_kept, .ref a_t_told, .ref a_t_tape, .ref a_t_rows, .ref a_t_sheets, .ref a_t_shelves, .ref a_t_thing, .ref a_t_shares, .ref a_t_ahead, .int s_t_isKept, .int s_t_z, .int s_t_keptZ])), (a_t_sheets, .inr (2, [.ref a_t_sheets_sort, .ref a_t_sheets_size, .ref a_t_sheets_items])), (a_t_sheets_sort, .inl (cI, 4, .inl v_t_sheets_sort)), (a_t_sheets_size, .inl (cI, 4, .inl v_t_sheets_size)), (a_t_sheets_items, .inl (cJ, 160, .inr (.inl v_t_sheets_items))), (a_t_book, .inr (0, [.ref a_t_book_village, .ref a_t_book_mark, .ref a_t_book_held, .int s_t_book_heldCount, .int s_t_book_villages])), (a_t_book_village, .inl (cI, 24, .inl yv_t_book_village_18))] H → va_D A [(a_t, .inr (6, [.ref a_t_book, .ref a_t_kept, .ref a_t_told, .ref a_t_tape, .ref a_t_rows, .ref a_t_sheets, .ref a_t_shelves, .ref a_t_thing, .ref a_t_shares, .ref a_t_ahead, .int s_t_isKept, .int s_t_z, .int s_t_keptZ])), (a_t_sheets, .inr (2, [.ref a_t_sheets_sort, .ref a_t_sheets_size, .ref a_t_sheets_items])), (a_t_sheets_sort, .inl (cI, 4, .inl v_t_sheets_sort)), (a_t_sheets_size, .inl (cI, 4, .inl v_t_sheets_size)), (a_t_sheets_items, .inl (cJ, 160, .inr (.inl v_t_sheets_items))), (a_t_book, .inr (0, [.ref a_t_book_village, .ref a_t_book_mark, .ref a_t_book_held, .int s_t_book_heldCount, .int s_t_book_villages])), (a_t_book_village, .inl (cI, 24, .inl yv_t_book_village_18))] → va_S A s.heap H locs → lv_has ls 9 [(5, .int y5_17)] → W p l e rmX6_years s m args below meth c H locs 0 0 Q (F0 m 175 ls [])) → W p l e rmX6_years s m args below meth c H locs 0 0 Q (F0 m 93 ls []) := by
                intro n
                induction n with
                | zero => intro x5_14 x6_15 xv_t_book_village_16 y5_17 yv_t_book_village_18 hF; exact (no_some hF).elim
                | succ n ih =>
                  intro x5_14 x6_15 xv_t_book_village_16 y5_17 yv_t_book_village_18 hF H locs ls hP hD hS hl kexit
                  rw [f_X6_years_L93] at hF
                  refine lv_iload hx hb dX6_years_93 (lv_at hl 6 rfl) ?_
                  refine lv_iload hx hb dX6_years_95 (lv_at hl 4 rfl) ?_
                  refine lv_icmp_ge (tgt := 175) hx hb dX6_years_97 (by decide) (fun c_19 => ?_) (fun c_19 => ?_)
                  · replace hF := if_t c_19 hF
                    obtain ⟨rfl, rfl⟩ := pj2 hF
                    exact kexit _ _ _ hP hD hS (lv_sub hl [5] rfl)
                  · replace hF := if_f c_19 hF
                    refine lv_aload_n hx hb dX6_years_100 rfl (lv_at hl 0 rfl) ?_
                    refine xget (ci := 6) (C := RX6) (T := TX6) (N := 13) hfix xiX6 hK.1 hP 0 rfl rfl 5 (by decide) rfl xw_166 rfl dX6_years_101 ?_
                    refine xget (ci := 2) (C := RX2) (T := TX2) (N := 3) hfix xiX2 hK.1 hP 1 rfl rfl 2 (by decide) rfl xw_106 rfl dX6_years_104 ?_
                    refine lv_iload_n hx hb dX6_years_107 rfl (lv_at hl 1 rfl) ?_
                    refine lv_bipush (v := (40 : Int32)) hx hb dX6_years_108 (by decide) ?_
                    refine lv_imul hx hb dX6_years_110 ?_
                    refine lv_iload_n hx hb dX6_years_111 rfl (lv_at hl 2 rfl) ?_
                    refine lv_iadd hx hb dX6_years_112 ?_
                    refine lv_iload hx hb dX6_years_113 (lv_at hl 6 rfl) ?_
                    refine lv_iadd hx hb dX6_years_115 ?_
                    obtain ⟨c_20, hF⟩ := gd_e hF
                    refine va_lald hx hb hK.1 hP 4 2 rfl rfl c_20 dX6_years_116 ?_
                    refine lv_l2i (v := ((v_t_sheets_items (((i1 * (40 : Int32)) + i2) + x6_15).toNatClampNeg).toInt32)) hx hb dX6_years_117 rfl ?_
                    refine lv_istore (lv' := [(7, .int ((v_t_sheets_items (((i1 * (40 : Int32)) + i2) + x6_15).toNatClampNeg).toInt32)), (0, .ref a_t), (1, .int i1), (2, .int i2), (3, .int i3), (4, .int i4), (5, .int x5_14), (6, .int x6_15)]) hx hb dX6_years_118 hl (by decide) rfl (fun ls hl => ?_)
                    refine lv_iload hx hb dX6_years_120 (lv_at hl 0 rfl) ?_
                    refine lv_iconst (v := (0 : Int32)) hx hb dX6_years_122 (by decide) ?_
                    refine lv_bipush (v := (9 : Int32)) hx hb dX6_years_123 (by decide) ?_
                    refine xrz0 (xrunS (As := [.int ((v_t_sheets_items (((i1 * (40 : Int32)) + i2) + x6_15).toNatClampNeg).toInt32), .int (0 : Int32), .int (9 : Int32)]) (rest := []) (c_X6_outside l D cI cB cJ _ ((v_t_sheets_items (((i1 * (40 : Int32)) + i2) + x6_15).toNatClampNeg).toInt32) (0 : Int32) (9 : Int32) (f_X6_outside ((v_t_sheets_items (((i1 * (40 : Int32)) + i2) + x6_15).toNatClampNeg).toInt32) (0 : Int32) (9 : Int32)) rfl) hfix xw_205 ys_X6_outside ⟨rfl, rfl⟩ ⟨(Nat.le_of_ble_eq_true rfl), (Nat.le_of_ble_eq_true rfl)⟩ xKk_K (fun U hU hW => xK.warm hW hK) hP hD [] rfl rfl rfl hl.1 rfl (Nat.le_of_ble_eq_true rfl) dX6_years_125 ⟨Nat.zero_le _, Nat.zero_le _⟩) hP hD hS hA [] rfl rfl (fun H locs hP hD hS hz_21 => ?_)
                    refine lv_istore (lv' := [(8, .int (f_X6_outside ((v_t_sheets_items (((i1 * (40 : Int32)) + i2) + x6_15).toNatClampNeg).toInt32) (0 : Int32) (9 : Int32))), (7, .int ((v_t_sheets_items (((i1 * (40 : Int32)) + i2) + x6_15).toNatClampNeg).toInt32)), (0, .ref a_t), (1, .int i1), (2, .int i2), (3, .int i3), (4, .int i4), (5, .int x5_14), (6, .int x6_15)]) hx hb dX6_years_128 hl (by decide) rfl (fun ls hl => ?_)
                    refine lv_aload_n hx hb dX6_years_130 rfl (lv_at hl 2 rfl) ?_
                    refine xget (ci := 6) (C := RX6) (T := TX6) (N := 13) hfix xiX6 hK.1 hP 0 rfl rfl 0 (by decide) rfl xw_161 rfl dX6_years_131 ?_
                    refine xget (ci := 0) (C := RX0) (T := TX0) (N := 5) hfix xiX0 hK.1 hP 5 rfl rfl 0 (by decide) rfl xw_34 rfl dX6_years_134 ?_
                    refine lv_iload_n hx hb dX6_years_137 rfl (lv_at hl 5 rfl) ?_
                    refine lv_iload hx hb dX6_years_138 (lv_at hl 8 rfl) ?_
                    refine lv_iadd hx hb dX6_years_140 ?_
                    refine lv_iload hx hb dX6_years_141 (lv_at hl 0 rfl) ?_
                    obtain ⟨j_22, hJ, hF⟩ := lt1_e hF
                    have hN_153_22 : ∀ (H : Heap) (locs : List Loc) (ls : Array Slot), va_P D vwCl [(a_t, .inr (6, [.ref a_t_book, .ref a_t_kept, .ref a_t_told, .ref a_t_tape, .ref a_t_rows, .ref a_t_sheets, .ref a_t_shelves, .ref a_t_thing, .ref a_t_shares, .ref a_t_ahead, .int s_t_isKept, .int s_t_z, .int s_t_keptZ])), (a_t_sheets, .inr (2, [.ref a_t_sheets_sort, .ref a_t_sheets_size, .ref a_t_sheets_items])), (a_t_sheets_sort, .inl (cI, 4, .inl v_t_sheets_sort)), (a_t_sheets_size, .inl (cI, 4, .inl v_t_sheets_size)), (a_t_sheets_items, .inl (cJ, 160, .inr (.inl v_t_sheets_items))), (a_t_book, .inr (0, [.ref a_t_book_village, .ref a_t_book_mark, .ref a_t_book_held, .int s_t_book_heldCount, .int s_t_book_villages])), (a_t_book_village, .inl (cI, 24, .inl xv_t_book_village_16))] H → va_D A [(a_t, .inr (6, [.ref a_t_book, .ref a_t_kept, .ref a_t_told, .ref a_t_tape, .ref a_t_rows, .ref a_t_sheets, .ref a_t_shelves, .ref a_t_thing, .ref a_t_shares, .ref a_t_ahead, .int s_t_isKept, .int s_t_z, .int s_t_keptZ])), (a_t_sheets, .inr (2, [.ref a_t_sheets_sort, .ref a_t_sheets_size, .ref a_t_sheets_items])), (a_t_sheets_sort, .inl (cI, 4, .inl v_t_sheets_sort)), (a_t_sheets_size, .inl (cI, 4, .inl v_t_sheets_size)), (a_t_sheets_items, .inl (cJ, 160, .inr (.inl v_t_sheets_items))), (a_t_book, .inr (0, [.ref a_t_book_village, .ref a_t_book_mark, .ref a_t_book_held, .int s_t_book_heldCount, .int s_t_book_villages])), (a_t_book_village, .inl (cI, 24, .inl xv_t_book_village_16))] → va_S A s.heap H locs → lv_has ls 9 [(0, .ref a_t), (1, .int i1), (2, .int i2), (3, .int i3), (4, .int i4), (5, .int x5_14), (6, .int x6_15), (8, .int (f_X6_outside ((v_t_sheets_items (((i1 * (40 : Int32)) + i2) + x6_15).toNatClampNeg).toInt32) (0 : Int32) (9 : Int32)))] → W p l e rmX6_years s m args below meth c H locs 0 0 Q (F0 m 153 ls [.int j_22, .int (i3 + x6_15), .ref a_t_book_village]) := by
                      intro H locs ls hP hD hS hl
                      obtain ⟨c_23, hF⟩ := gd_e hF
                      refine va_iast hx hb hK.1 hP hD hS 6 0 rfl rfl c_23 dX6_years_153 (fun H locs hP hD hS => ?_)
                      have hP : va_P D vwCl [(a_t, .inr (6, [.ref a_t_book, .ref a_t_kept, .ref a_t_told, .ref a_t_tape, .ref a_t_rows, .ref a_t_sheets, .ref a_t_shelves, .ref a_t_thing, .ref a_t_shares, .ref a_t_ahead, .int s_t_isKept, .int s_t_z, .int s_t_keptZ])), (a_t_sheets, .inr (2, [.ref a_t_sheets_sort, .ref a_t_sheets_size, .ref a_t_sheets_items])), (a_t_sheets_sort, .inl (cI, 4, .inl v_t_sheets_sort)), (a_t_sheets_size, .inl (cI, 4, .inl v_t_sheets_size)), (a_t_sheets_items, .inl (cJ, 160, .inr (.inl v_t_sheets_items))), (a_t_book, .inr (0, [.ref a_t_book_village, .ref a_t_book_mark, .ref a_t_book_held, .int s_t_book_heldCount, .int s_t_book_villages])), (a_t_book_village, .inl (cI, 24, .inl (upd xv_t_book_village_16 (i3 + x6_15).toNatClampNeg j_22)))] H := hP
                      have hD : va_D A [(a_t, .inr (6, [.ref a_t_book, .ref a_t_kept, .ref a_t_told, .ref a_t_tape, .ref a_t_rows, .ref a_t_sheets, .ref a_t_shelves, .ref a_t_thing, .ref a_t_shares, .ref a_t_ahead, .int s_t_isKept, .int s_t_z, .int s_t_keptZ])), (a_t_sheets, .inr (2, [.ref a_t_sheets_sort, .ref a_t_sheets_size, .ref a_t_sheets_items])), (a_t_sheets_sort, .inl (cI, 4, .inl v_t_sheets_sort)), (a_t_sheets_size, .inl (cI, 4, .inl v_t_sheets_size)), (a_t_sheets_items, .inl (cJ, 160, .inr (.inl v_t_sheets_items))), (a_t_book, .inr (0, [.ref a_t_book_village, .ref a_t_book_mark, .ref a_t_book_held, .int s_t_book_heldCount, .int s_t_book_villages])), (a_t_book_village, .inl (cI, 24, .inl (upd xv_t_book_village_16 (i3 + x6_15).toNatClampNeg j_22)))] := hD
                      refine lv_iload hx hb dX6_years_154 (lv_at hl 5 rfl) ?_
                      refine lv_iload hx hb dX6_years_156 (lv_at hl 7 rfl) ?_
                      refine lv_if_eq (tgt := 165) hx hb dX6_years_158 (by decide) (fun c_24 => ?_) (fun c_24 => ?_)
                      · replace hF := if_t c_24 hF
                        refine lv_iconst (v := (1 : Int32)) hx hb dX6_years_165 (by decide) ?_
                        refine lv_iadd hx hb dX6_years_166 ?_
                        refine lv_istore (lv' := [(5, .int (x5_14 + (1 : Int32))), (0, .ref a_t), (1, .int i1), (2, .int i2), (3, .int i3), (4, .int i4), (6, .int x6_15), (8, .int (f_X6_outside ((v_t_sheets_items (((i1 * (40 : Int32)) + i2) + x6_15).toNatClampNeg).toInt32) (0 : Int32) (9 : Int32)))]) hx hb dX6_years_167 hl (by decide) rfl (fun ls hl => ?_)
                        refine lv_iinc (v := (x6_15 + (1 : Int32))) (lv' := [(6, .int (x6_15 + (1 : Int32))), (5, .int (x5_14 + (1 : Int32))), (0, .ref a_t), (1, .int i1), (2, .int i2), (3, .int i3), (4, .int i4), (8, .int (f_X6_outside ((v_t_sheets_items (((i1 * (40 : Int32)) + i2) + x6_15).toNatClampNeg).toInt32) (0 : Int32) (9 : Int32)))]) hx hb dX6_years_169 hl (k := 6) rfl rfl (by decide) rfl (fun ls hl => ?_)
                        refine lv_goto (tgt := 93) hx hb dX6_years_172 (by decide) ?_
                        exact ih _ _ _ _ _ hF _ _ _ hP hD hS (lv_sub hl [2, 3, 4, 5, 6, 1, 0] rfl) kexit
                      · replace hF := if_f c_24 hF
                        refine lv_iconst (v := (0 : Int32)) hx hb dX6_years_161 (by decide) ?_
                        refine lv_goto (tgt := 166) hx hb dX6_years_162 (by decide) ?_
                        refine lv_iadd hx hb dX6_years_166 ?_
                        refine lv_istore (lv' := [(5, .int (x5_14 + (0 : Int32))), (0, .ref a_t), (1, .int i1), (2, .int i2), (3, .int i3), (4, .int i4), (6, .int x6_15), (8, .int (f_X6_outside ((v_t_sheets_items (((i1 * (40 : Int32)) + i2) + x6_15).toNatClampNeg).toInt32) (0 : Int32) (9 : Int32)))]) hx hb dX6_years_167 hl (by decide) rfl (fun ls hl => ?_)
                        refine lv_iinc (v := (x6_15 + (1 : Int32))) (lv' := [(6, .int (x6_15 + (1 : Int32))), (5, .int (x5_14 + (0 : Int32))), (0, .ref a_t), (1, .int i1), (2, .int i2), (3, .int i3), (4, .int i4), (8, .int (f_X6_outside ((v_t_sheets_items (((i1 * (40 : Int32)) + i2) + x6_15).toNatClampNeg).toInt32) (0 : Int32) (9 : Int32)))]) hx hb dX6_years_169 hl (k := 6) rfl rfl (by decide) rfl (fun ls hl => ?_)
                        refine lv_goto (tgt := 93) hx hb dX6_years_172 (by decide) ?_
                        exact ih _ _ _ _ _ hF _ _ _ hP hD hS (lv_sub hl [2, 3, 4, 5, 6, 1, 0] rfl) kexit
                    replace hF := hJ
                    refine lv_if_eq (tgt := 151) hx hb dX6_years_143 (by decide) (fun c_25 => ?_) (fun c_25 => ?_)
                    · replace hF := if_t c_25 hF
                      refine lv_iload hx hb dX6_years_151 (lv_at hl 1 rfl) ?_
                      subst hF
                      exact hN_153_22 _ _ _ hP hD hS (lv_sub hl [2, 3, 4, 5, 6, 7, 8, 0] rfl)
                    · replace hF := if_f c_25 hF
                      refine lv_bipush (v := (-9 : Int32)) hx hb dX6_years_146 (by decide) ?_
                      refine lv_goto (tgt := 153) hx hb dX6_years_148 (by decide) ?_
                      subst hF
                      exact hN_153_22 _ _ _ hP hD hS (lv_sub hl [2, 3, 4, 5, 6, 7, 8, 0] rfl)
              obtain ⟨y5_17, yv_t_book_village_18, hq, hF⟩ := bd2_e hF
              refine hL_93 _ _ _ _ _ _ hq _ _ _ hP hD hS (lv_sub hl [2, 3, 4, 5, 6, 1, 0] rfl) (fun H locs ls hP hD hS hl => ?_)
              refine lv_iload hx hb dX6_years_175 (lv_at hl 0 rfl) ?_
              obtain ⟨rfl, rfl⟩ := pj2 hF
              exact hEnd _ _ _ _ _ dX6_years_177 hP hS rfl
            · replace hF := if_f c_13 hF
              refine lv_bipush (v := (-12 : Int32)) hx hb dX6_years_84 (by decide) ?_
              obtain ⟨rfl, rfl⟩ := pj2 hF
              exact hEnd _ _ _ _ _ dX6_years_86 hP hS rfl
          · replace hF := if_f c_10 hF
            refine lv_bipush (v := (-13 : Int32)) hx hb dX6_years_61 (by decide) ?_
            obtain ⟨rfl, rfl⟩ := pj2 hF
            exact hEnd _ _ _ _ _ dX6_years_63 hP hS rfl
        · replace hF := if_f c_8 hF
          refine lv_bipush (v := (-11 : Int32)) hx hb dX6_years_46 (by decide) ?_
          obtain ⟨rfl, rfl⟩ := pj2 hF
          exact hEnd _ _ _ _ _ dX6_years_48 hP hS rfl
      · replace hF := if_f c_6 hF
        refine lv_iconst (v := (-1 : Int32)) hx hb dX6_years_32 (by decide) ?_
        obtain ⟨rfl, rfl⟩ := pj2 hF
        exact hEnd _ _ _ _ _ dX6_years_33 hP hS rfl
def f_X6_sheet (i1 : Int32) (i2 : Int32) (i3 : Int32) (v_t_sheets_sort : (Nat → Int32)) (v_t_sheets_size : (Nat → Int32)) (v_t_sheets_items : (Nat → Int64)) : Option (Int32 × (Nat → Int32) × (Nat → Int32) × (Nat → Int64)) := (if (f_X6_outside i1 (0 : Int32) (3 : Int32)) = (0 : Int32) then (if (f_X6_outside i2 (-1 : Int32) (3 : Int32)) = (0 : Int32) then (if i2 < (0 : Int32) then (if i2 < (0 : Int32) then (if (0 : Int32) ≤ i2 then bd3 (f_X2_renew i1 i2 i3 v_t_sheets_sort v_t_sheets_size v_t_sheets_items) (fun (o_8 : (Nat → Int32)) (o_9 : (Nat → Int32)) (o_10 : (Nat → Int64)) => some (((1 : Int32), o_8, o_9, o_10))) else bd3 (f_X2_renew i1 i2 (0 : Int32) v_t_sheets_sort v_t_sheets_size v_t_sheets_items) (fun (o_12 : (Nat → Int32)) (o_13 : (Nat → Int32)) (o_14 : (Nat → Int64)) => some (((1 : Int32), o_12, o_13, o_14)))) else (if (0 : Int32) ≤ i3 then (if (0 : Int32) ≤ i2 then bd3 (f_X2_renew i1 i2 i3 v_t_sheets_sort v_t_sheets_size v_t_sheets_items) (fun (o_18 : (Nat → Int32)) (o_19 : (Nat → Int32)) (o_20 : (Nat → Int64)) => some (((1 : Int32), o_18, o_19, o_20))) else bd3 (f_X2_renew i1 i2 (0 : Int32) v_t_sheets_sort v_t_sheets_size v_t_sheets_items) (fun (o_22 : (Nat → Int32)) (o_23 : (Nat → Int32)) (o_24 : (Nat → Int64)) => some (((1 : Int32), o_22, o_23, o_24)))) else some (((-14 : Int32), v_t_sheets_sort, v_t_sheets_size, v_t_sheets_items)))) else (if i3 ≤ (40 : Int32) then (if i2 < (0 : Int32) then (if (0 : Int32) ≤ i2 then bd3 (f_X2_renew i1 i2 i3 v_t_sheets_sort v_t_sheets_size v_t_sheets_items) (fun (o_29 : (Nat → Int32)) (o_30 : (Nat → Int32)) (o_31 : (Nat → Int64)) => some (((1 : Int32), o_29, o_30, o_31))) else bd3 (f_X2_renew i1 i2 (0 : Int32) v_t_sheets_sort v_t_sheets_size v_t_sheets_items) (fun (o_33 : (Nat → Int32)) (o_34 : (Nat → Int32)) (o_35 : (Nat → Int64)) => some (((1 : Int32), o_33, o_34, o_35)))) else (if (0 : Int32) ≤ i3 then (if (0 : Int32) ≤ i2 then bd3 (f_X2_renew i1 i2 i3 v_t_sheets_sort v_t_sheets_size v_t_sheets_items) (fun (o_39 : (Nat → Int32)) (o_40 : (Nat → Int32)) (o_41 : (Nat → Int64)) => some (((1 : Int32), o_39, o_40, o_41))) else bd3 (f_X2_renew i1 i2 (0 : Int32) v_t_sheets_sort v_t_sheets_size v_t_sheets_items) (fun (o_43 : (Nat → Int32)) (o_44 : (Nat → Int32)) (o_45 : (Nat → Int64)) => some (((1 : Int32), o_43, o_44, o_45)))) else some (((-14 : Int32), v_t_sheets_sort, v_t_sheets_size, v_t_sheets_items)))) else some (((-1 : Int32), v_t_sheets_sort, v_t_sheets_size, v_t_sheets_items)))) else some (((-1 : Int32), v_t_sheets_sort, v_t_sheets_size, v_t_sheets_items))) else some (((-1 : Int32), v_t_sheets_sort, v_t_sheets_size, v_t_sheets_items)))
abbrev rmX6_sheet : Room := { frames := 1, cells := 0, slots := 0, locals := 24 }
set_option maxHeartbeats 400000 in
set_option maxRecDepth 100000 in
theorem c_X6_sheet (l : Launch) (D : va_G) (cI cB cJ : ClassId) (a_t : Nat) (a_t_book : Nat) (a_t_kept : Nat) (a_t_told : Nat) (a_t_tape : Nat) (a_t_rows : Nat) (a_t_sheets : Nat) (a_t_shelves : Nat) (a_t_thing : Nat) (a_t_shares : Nat) (a_t_ahead : Nat) (a_t_sheets_sort : Nat) (a_t_sheets_size : Nat) (a_t_sheets_items : Nat) (sz : Nat) (s_t_isKept : Int32) (s_t_z : Int32) (s_t_keptZ : Int32) (v_t_sheets_sort : (Nat → Int32)) (v_t_sheets_size : (Nat → Int32)) (v_t_sheets_items : (Nat → Int64)) (i1 : Int32) (i2 : Int32) (i3 : Int32) (r : Int32) (o_v_t_sheets_sort : (Nat → Int32)) (o_v_t_sheets_size : (Nat → Int32)) (o_v_t_sheets_items : (Nat → Int64)) (hF : f_X6_sheet i1 i2 i3 v_t_sheets_sort v_t_sheets_size v_t_sheets_items = some (r, o_v_t_sheets_sort, o_v_t_sheets_size, o_v_t_sheets_items)) : xMi l yX6_sheet (.code yX6_sheet cX6_sheet 4 (some .int) :: xU) rmX6_sheet (xK D cI cB cJ) D sz [.ref a_t, .int i1, .int i2, .int i3] [(a_t, .inr (6, [.ref a_t_book, .ref a_t_kept, .ref a_t_told, .ref a_t_tape, .ref a_t_rows, .ref a_t_sheets, .ref a_t_shelves, .ref a_t_thing, .ref a_t_shares, .ref a_t_ahead, .int s_t_isKept, .int s_t_z, .int s_t_keptZ])), (a_t_sheets, .inr (2, [.ref a_t_sheets_sort, .ref a_t_sheets_size, .ref a_t_sheets_items])), (a_t_sheets_sort, .inl (cI, 4, .inl v_t_sheets_sort)), (a_t_sheets_size, .inl (cI, 4, .inl v_t_sheets_size)), (a_t_sheets_items, .inl (cJ, 160, .inr (.inl v_t_sheets_items)))] [(a_t, .inr (6, [.ref a_t_book, .ref a_t_kept, .ref a_t_told, .ref a_t_tape, .ref a_t_rows, .ref a_t_sheets, .ref a_t_shelves, .ref a_t_thing, .ref a_t_shares, .ref a_t_ahead, .int s_t_isKept, .int s_t_z, .int s_t_keptZ])), (a_t_sheets, .inr (2, [.ref a_t_sheets_sort, .ref a_t_sheets_size, .ref a_t_sheets_items])), (a_t_sheets_sort, .inl (cI, 4, .inl o_v_t_sheets_sort)), (a_t_sheets_size, .inl (cI, 4, .inl o_v_t_sheets_size)), (a_t_sheets_items, .inl (cJ, 160, .inr (.inl o_v_t_sheets_items)))] r := by
  refine xMi.mk (own := "FairNext") (by decide +kernel) rfl (Nat.le_of_ble_eq_true rfl) ?_
  intro p e s m args below meth c A Q ls H hfix hK hP hD hA hS hl hEnd
  obtain ⟨hx, hb, hml, hown, hts⟩ := id hfix
  have hl : lv_has ls 4 [(0, .ref a_t), (1, .int i1), (2, .int i2), (3, .int i3)] := hl
  rw [f_X6_sheet] at hF
  refine lv_iload_n hx hb dX6_sheet_0 rfl (lv_at hl 1 rfl) ?_
  refine lv_iconst (v := (0 : Int32)) hx hb dX6_sheet_1 (by decide) ?_
  refine lv_iconst (v := (3 : Int32)) hx hb dX6_sheet_2 (by decide) ?_
  refine xrz0 (xrunS (As := [.int i1, .int (0 : Int32), .int (3 : Int32)]) (rest := []) (c_X6_outside l D cI cB cJ _ i1 (0 : Int32) (3 : Int32) (f_X6_outside i1 (0 : Int32) (3 : Int32)) rfl) hfix xw_205 ys_X6_outside ⟨rfl, rfl⟩ ⟨(Nat.le_of_ble_eq_true rfl), (Nat.le_of_ble_eq_true rfl)⟩ xKk_K (fun U hU hW => xK.warm hW hK) hP hD [] rfl rfl rfl hl.1 rfl (Nat.le_of_ble_eq_true rfl) dX6_sheet_3 ⟨Nat.zero_le _, Nat.zero_le _⟩) hP hD hS hA [] rfl rfl (fun H locs hP hD hS hz_1 => ?_)
  refine lv_if_ne (tgt := 28) hx hb dX6_sheet_6 (by decide) (fun c_2 => ?_) (fun c_2 => ?_)
  · replace hF := if_f c_2 hF
    refine lv_iconst (v := (-1 : Int32)) hx hb dX6_sheet_28 (by decide) ?_
    obtain ⟨rfl, rfl, rfl, rfl⟩ := pj4 hF
    exact hEnd _ _ _ _ _ dX6_sheet_29 hP hS rfl
  · replace hF := if_t c_2 hF
    refine lv_iload_n hx hb dX6_sheet_9 rfl (lv_at hl 2 rfl) ?_
    refine lv_iconst (v := (-1 : Int32)) hx hb dX6_sheet_10 (by decide) ?_
    refine lv_iconst (v := (3 : Int32)) hx hb dX6_sheet_11 (by decide) ?_
    refine xrz0 (xrunS (As := [.int i2, .int (-1 : Int32), .int (3 : Int32)]) (rest := []) (c_X6_outside l D cI cB cJ _ i2 (-1 : Int32) (3 : Int32) (f_X6_outside i2 (-1 : Int32) (3 : Int32)) rfl) hfix xw_205 ys_X6_outside ⟨rfl, rfl⟩ ⟨(Nat.le_of_ble_eq_true rfl), (Nat.le_of_ble_eq_true rfl)⟩ xKk_K (fun U hU hW => xK.warm hW hK) hP hD [] rfl rfl rfl hl.1 rfl (Nat.le_of_ble_eq_true rfl) dX6_sheet_12 ⟨Nat.zero_le _, Nat.zero_le _⟩) hP hD hS hA [] rfl rfl (fun H locs hP hD hS hz_3 => ?_)
    refine lv_if_ne (tgt := 28) hx hb dX6_sheet_15 (by decide) (fun c_4 => ?_) (fun c_4 => ?_)
    · replace hF := if_f c_4 hF
      refine lv_iconst (v := (-1 : Int32)) hx hb dX6_sheet_28 (by decide) ?_
      obtain ⟨rfl, rfl, rfl, rfl⟩ := pj4 hF
      exact hEnd _ _ _ _ _ dX6_sheet_29 hP hS rfl
    · replace hF := if_t c_4 hF
      refine lv_iload_n hx hb dX6_sheet_18 rfl (lv_at hl 2 rfl) ?_
      refine lv_if_lt (tgt := 30) hx hb dX6_sheet_19 (by decide) (fun c_5 => ?_) (fun c_5 => ?_)
      · replace hF := if_t c_5 hF
        refine lv_iload_n hx hb dX6_sheet_30 rfl (lv_at hl 2 rfl) ?_
        refine lv_if_lt (tgt := 41) hx hb dX6_sheet_31 (by decide) (fun c_6 => ?_) (fun c_6 => ?_)
        · replace hF := if_t c_6 hF
          refine lv_aload_n hx hb dX6_sheet_41 rfl (lv_at hl 0 rfl) ?_
          refine xget (ci := 6) (C := RX6) (T := TX6) (N := 13) hfix xiX6 hK.1 hP 0 rfl rfl 5 (by decide) rfl xw_166 rfl dX6_sheet_42 ?_
          refine lv_iload_n hx hb dX6_sheet_45 rfl (lv_at hl 1 rfl) ?_
          refine lv_iload_n hx hb dX6_sheet_46 rfl (lv_at hl 2 rfl) ?_
          refine lv_iload_n hx hb dX6_sheet_47 rfl (lv_at hl 2 rfl) ?_
          refine lv_if_ge (tgt := 55) hx hb dX6_sheet_48 (by decide) (fun c_7 => ?_) (fun c_7 => ?_)
          · replace hF := if_t c_7 hF
            refine lv_iload_n hx hb dX6_sheet_55 rfl (lv_at hl 3 rfl) ?_
            obtain ⟨o_8, o_9, o_10, hq_11, hF⟩ := bd3_e hF
            refine xrv (xrunV (As := [.int i1, .int i2, .int i3]) (rest := []) (c_X2_renew l D cI cB cJ a_t_sheets a_t_sheets_sort a_t_sheets_size a_t_sheets_items _ v_t_sheets_sort v_t_sheets_size v_t_sheets_items i1 i2 i3 o_8 o_9 o_10 hq_11) hfix xw_595 yv_X2_renew ⟨rfl, rfl⟩ ⟨(Nat.le_of_ble_eq_true rfl), (Nat.le_of_ble_eq_true rfl)⟩ xKk_K (fun U hU hW => xK.warm hW hK) hK.1 hP hD [1, 2, 3, 4] rfl rfl 1 2 rfl rfl rfl rfl hl.1 rfl (Nat.le_of_ble_eq_true rfl) dX6_sheet_56 ⟨Nat.zero_le _, Nat.zero_le _⟩) hP hD hS hA [1, 2, 3, 4] rfl rfl rfl (wn := [(a_t, .inr (6, [.ref a_t_book, .ref a_t_kept, .ref a_t_told, .ref a_t_tape, .ref a_t_rows, .ref a_t_sheets, .ref a_t_shelves, .ref a_t_thing, .ref a_t_shares, .ref a_t_ahead, .int s_t_isKept, .int s_t_z, .int s_t_keptZ])), (a_t_sheets, .inr (2, [.ref a_t_sheets_sort, .ref a_t_sheets_size, .ref a_t_sheets_items])), (a_t_sheets_sort, .inl (cI, 4, .inl o_8)), (a_t_sheets_size, .inl (cI, 4, .inl o_9)), (a_t_sheets_items, .inl (cJ, 160, .inr (.inl o_10)))]) rfl (fun H locs hP hD hS => ?_)
            refine lv_iconst (v := (1 : Int32)) hx hb dX6_sheet_59 (by decide) ?_
            obtain ⟨rfl, rfl, rfl, rfl⟩ := pj4 hF
            exact hEnd _ _ _ _ _ dX6_sheet_60 hP hS rfl
          · replace hF := if_f c_7 hF
            refine lv_iconst (v := (0 : Int32)) hx hb dX6_sheet_51 (by decide) ?_
            refine lv_goto (tgt := 56) hx hb dX6_sheet_52 (by decide) ?_
            obtain ⟨o_12, o_13, o_14, hq_15, hF⟩ := bd3_e hF
            refine xrv (xrunV (As := [.int i1, .int i2, .int (0 : Int32)]) (rest := []) (c_X2_renew l D cI cB cJ a_t_sheets a_t_sheets_sort a_t_sheets_size a_t_sheets_items _ v_t_sheets_sort v_t_sheets_size v_t_sheets_items i1 i2 (0 : Int32) o_12 o_13 o_14 hq_15) hfix xw_595 yv_X2_renew ⟨rfl, rfl⟩ ⟨(Nat.le_of_ble_eq_true rfl), (Nat.le_of_ble_eq_true rfl)⟩ xKk_K (fun U hU hW => xK.warm hW hK) hK.1 hP hD [1, 2, 3, 4] rfl rfl 1 2 rfl rfl rfl rfl hl.1 rfl (Nat.le_of_ble_eq_true rfl) dX6_sheet_56 ⟨Nat.zero_le _, Nat.zero_le _⟩) hP hD hS hA [1, 2, 3, 4] rfl rfl rfl (wn := [(a_t, .inr (6, [.ref a_t_book, .ref a_t_kept, .ref a_t_told, .ref a_t_tape, .ref a_t_rows, .ref a_t_sheets, .ref a_t_shelves, .ref a_t_thing, .ref a_t_shares, .ref a_t_ahead, .int s_t_isKept, .int s_t_z, .int s_t_keptZ])), (a_t_sheets, .inr (2, [.ref a_t_sheets_sort, .ref a_t_sheets_size, .ref a_t_sheets_items])), (a_t_sheets_sort, .inl (cI, 4, .inl o_12)), (a_t_sheets_size, .inl (cI, 4, .inl o_13)), (a_t_sheets_items, .inl (cJ, 160, .inr (.inl o_14)))]) rfl (fun H locs hP hD hS => ?_)
            refine lv_iconst (v := (1 : Int32)) hx hb dX6_sheet_59 (by decide) ?_
            obtain ⟨rfl, rfl, rfl, rfl⟩ := pj4 hF
            exact hEnd _ _ _ _ _ dX6_sheet_60 hP hS rfl
        · replace hF := if_f c_6 hF
          refine lv_iload_n hx hb dX6_sheet_34 rfl (lv_at hl 3 rfl) ?_
          refine lv_if_ge (tgt := 41) hx hb dX6_sheet_35 (by decide) (fun c_16 => ?_) (fun c_16 => ?_)
          · replace hF := if_t c_16 hF
            refine lv_aload_n hx hb dX6_sheet_41 rfl (lv_at hl 0 rfl) ?_
            refine xget (ci := 6) (C := RX6) (T := TX6) (N := 13) hfix xiX6 hK.1 hP 0 rfl rfl 5 (by decide) rfl xw_166 rfl dX6_sheet_42 ?_
            refine lv_iload_n hx hb dX6_sheet_45 rfl (lv_at hl 1 rfl) ?_
            refine lv_iload_n hx hb dX6_sheet_46 rfl (lv_at hl 2 rfl) ?_
            refine lv_iload_n hx hb dX6_sheet_47 rfl (lv_at hl 2 rfl) ?_
            refine lv_if_ge (tgt := 55) hx hb dX6_sheet_48 (by decide) (fun c_17 => ?_) (fun c_17 => ?_)
            · replace hF := if_t c_17 hF
              refine lv_iload_n hx hb dX6_sheet_55 rfl (lv_at hl 3 rfl) ?_
              obtain ⟨o_18, o_19, o_20, hq_21, hF⟩ := bd3_e hF
              refine xrv (xrunV (As := [.int i1, .int i2, .int i3]) (rest := []) (c_X2_renew l D cI cB cJ a_t_sheets a_t_sheets_sort a_t_sheets_size a_t_sheets_items _ v_t_sheets_sort v_t_sheets_size v_t_sheets_items i1 i2 i3 o_18 o_19 o_20 hq_21) hfix xw_595 yv_X2_renew ⟨rfl, rfl⟩ ⟨(Nat.le_of_ble_eq_true rfl), (Nat.le_of_ble_eq_true rfl)⟩ xKk_K (fun U hU hW => xK.warm hW hK) hK.1 hP hD [1, 2, 3, 4] rfl rfl 1 2 rfl rfl rfl rfl hl.1 rfl (Nat.le_of_ble_eq_true rfl) dX6_sheet_56 ⟨Nat.zero_le _, Nat.zero_le _⟩) hP hD hS hA [1, 2, 3, 4] rfl rfl rfl (wn := [(a_t, .inr (6, [.ref a_t_book, .ref a_t_kept, .ref a_t_told, .ref a_t_tape, .ref a_t_rows, .ref a_t_sheets, .ref a_t_shelves, .ref a_t_thing, .ref a_t_shares, .ref a_t_ahead, .int s_t_isKept, .int s_t_z, .int s_t_keptZ])), (a_t_sheets, .inr (2, [.ref a_t_sheets_sort, .ref a_t_sheets_size, .ref a_t_sheets_items])), (a_t_sheets_sort, .inl (cI, 4, .inl o_18)), (a_t_sheets_size, .inl (cI, 4, .inl o_19)), (a_t_sheets_items, .inl (cJ, 160, .inr (.inl o_20)))]) rfl (fun H locs hP hD hS => ?_)
              refine lv_iconst (v := (1 : Int32)) hx hb dX6_sheet_59 (by decide) ?_
              obtain ⟨rfl, rfl, rfl, rfl⟩ := pj4 hF
              exact hEnd _ _ _ _ _ dX6_sheet_60 hP hS rfl
            · replace hF := if_f c_17 hF
              refine lv_iconst (v := (0 : Int32)) hx hb dX6_sheet_51 (by decide) ?_
              refine lv_goto (tgt := 56) hx hb dX6_sheet_52 (by decide) ?_
              obtain ⟨o_22, o_23, o_24, hq_25, hF⟩ := bd3_e hF
              refine xrv (xrunV (As := [.int i1, .int i2, .int (0 : Int32)]) (rest := []) (c_X2_renew l D cI cB cJ a_t_sheets a_t_sheets_sort a_t_sheets_size a_t_sheets_items _ v_t_sheets_sort v_t_sheets_size v_t_sheets_items i1 i2 (0 : Int32) o_22 o_23 o_24 hq_25) hfix xw_595 yv_X2_renew ⟨rfl, rfl⟩ ⟨(Nat.le_of_ble_eq_true rfl), (Nat.le_of_ble_eq_true rfl)⟩ xKk_K (fun U hU hW => xK.warm hW hK) hK.1 hP hD [1, 2, 3, 4] rfl rfl 1 2 rfl rfl rfl rfl hl.1 rfl (Nat.le_of_ble_eq_true rfl) dX6_sheet_56 ⟨Nat.zero_le _, Nat.zero_le _⟩) hP hD hS hA [1, 2, 3, 4] rfl rfl rfl (wn := [(a_t, .inr (6, [.ref a_t_book, .ref a_t_kept, .ref a_t_told, .ref a_t_tape, .ref a_t_rows, .ref a_t_sheets, .ref a_t_shelves, .ref a_t_thing, .ref a_t_shares, .ref a_t_ahead, .int s_t_isKept, .int s_t_z, .int s_t_keptZ])), (a_t_sheets, .inr (2, [.ref a_t_sheets_sort, .ref a_t_sheets_size, .ref a_t_sheets_items])), (a_t_sheets_sort, .inl (cI, 4, .inl o_22)), (a_t_sheets_size, .inl (cI, 4, .inl o_23)), (a_t_sheets_items, .inl (cJ, 160, .inr (.inl o_24)))]) rfl (fun H locs hP hD hS => ?_)
              refine lv_iconst (v := (1 : Int32)) hx hb dX6_sheet_59 (by decide) ?_
              obtain ⟨rfl, rfl, rfl, rfl⟩ := pj4 hF
              exact hEnd _ _ _ _ _ dX6_sheet_60 hP hS rfl
          · replace hF := if_f c_16 hF
            refine lv_bipush (v := (-14 : Int32)) hx hb dX6_sheet_38 (by decide) ?_
            obtain ⟨rfl, rfl, rfl, rfl⟩ := pj4 hF
            exact hEnd _ _ _ _ _ dX6_sheet_40 hP hS rfl
      · replace hF := if_f c_5 hF
        refine lv_iload_n hx hb dX6_sheet_22 rfl (lv_at hl 3 rfl) ?_
        refine lv_bipush (v := (40 : Int32)) hx hb dX6_sheet_23 (by decide) ?_
        refine lv_icmp_le (tgt := 30) hx hb dX6_sheet_25 (by decide) (fun c_26 => ?_) (fun c_26 => ?_)
        · replace hF := if_t c_26 hF
          refine lv_iload_n hx hb dX6_sheet_30 rfl (lv_at hl 2 rfl) ?_
          refine lv_if_lt (tgt := 41) hx hb dX6_sheet_31 (by decide) (fun c_27 => ?_) (fun c_27 => ?_)
          · replace hF := if_t c_27 hF
            refine lv_aload_n hx hb dX6_sheet_41 rfl (lv_at hl 0 rfl) ?_
            refine xget (ci := 6) (C := RX6) (T := TX6) (N := 13) hfix xiX6 hK.1 hP 0 rfl rfl 5 (by decide) rfl xw_166 rfl dX6_sheet_42 ?_
            refine lv_iload_n hx hb dX6_sheet_45 rfl (lv_at hl 1 rfl) ?_
            refine lv_iload_n hx hb dX6_sheet_46 rfl (lv_at hl 2 rfl) ?_
            refine lv_iload_n hx hb dX6_sheet_47 rfl (lv_at hl 2 rfl) ?_
            refine lv_if_ge (tgt := 55) hx hb dX6_sheet_48 (by decide) (fun c_28 => ?_) (fun c_28 => ?_)
            · replace hF := if_t c_28 hF
              refine lv_iload_n hx hb dX6_sheet_55 rfl (lv_at hl 3 rfl) ?_
              obtain ⟨o_29, o_30, o_31, hq_32, hF⟩ := bd3_e hF
              refine xrv (xrunV (As := [.int i1, .int i2, .int i3]) (rest := []) (c_X2_renew l D cI cB cJ a_t_sheets a_t_sheets_sort a_t_sheets_size a_t_sheets_items _ v_t_sheets_sort v_t_sheets_size v_t_sheets_items i1 i2 i3 o_29 o_30 o_31 hq_32) hfix xw_595 yv_X2_renew ⟨rfl, rfl⟩ ⟨(Nat.le_of_ble_eq_true rfl), (Nat.le_of_ble_eq_true rfl)⟩ xKk_K (fun U hU hW => xK.warm hW hK) hK.1 hP hD [1, 2, 3, 4] rfl rfl 1 2 rfl rfl rfl rfl hl.1 rfl (Nat.le_of_ble_eq_true rfl) dX6_sheet_56 ⟨Nat.zero_le _, Nat.zero_le _⟩) hP hD hS hA [1, 2, 3, 4] rfl rfl rfl (wn := [(a_t, .inr (6, [.ref a_t_book, .ref a_t_kept, .ref a_t_told, .ref a_t_tape, .ref a_t_rows, .ref a_t_sheets, .ref a_t_shelves, .ref a_t_thing, .ref a_t_shares, .ref a_t_ahead, .int s_t_isKept, .int s_t_z, .int s_t_keptZ])), (a_t_sheets, .inr (2, [.ref a_t_sheets_sort, .ref a_t_sheets_size, .ref a_t_sheets_items])), (a_t_sheets_sort, .inl (cI, 4, .inl o_29)), (a_t_sheets_size, .inl (cI, 4, .inl o_30)), (a_t_sheets_items, .inl (cJ, 160, .inr (.inl o_31)))]) rfl (fun H locs hP hD hS => ?_)
              refine lv_iconst (v := (1 : Int32)) hx hb dX6_sheet_59 (by decide) ?_
              obtain ⟨rfl, rfl, rfl, rfl⟩ := pj4 hF
              exact hEnd _ _ _ _ _ dX6_sheet_60 hP hS rfl
            · replace hF := if_f c_28 hF
              refine lv_iconst (v := (0 : Int32)) hx hb dX6_sheet_51 (by decide) ?_
              refine lv_goto (tgt := 56) hx hb dX6_sheet_52 (by decide) ?_
              obtain ⟨o_33, o_34, o_35, hq_36, hF⟩ := bd3_e hF
              refine xrv (xrunV (As := [.int i1, .int i2, .int (0 : Int32)]) (rest := []) (c_X2_renew l D cI cB cJ a_t_sheets a_t_sheets_sort a_t_sheets_size a_t_sheets_items _ v_t_sheets_sort v_t_sheets_size v_t_sheets_items i1 i2 (0 : Int32) o_33 o_34 o_35 hq_36) hfix xw_595 yv_X2_renew ⟨rfl, rfl⟩ ⟨(Nat.le_of_ble_eq_true rfl), (Nat.le_of_ble_eq_true rfl)⟩ xKk_K (fun U hU hW => xK.warm hW hK) hK.1 hP hD [1, 2, 3, 4] rfl rfl 1 2 rfl rfl rfl rfl hl.1 rfl (Nat.le_of_ble_eq_true rfl) dX6_sheet_56 ⟨Nat.zero_le _, Nat.zero_le _⟩) hP hD hS hA [1, 2, 3, 4] rfl rfl rfl (wn := [(a_t, .inr (6, [.ref a_t_book, .ref a_t_kept, .ref a_t_told, .ref a_t_tape, .ref a_t_rows, .ref a_t_sheets, .ref a_t_shelves, .ref a_t_thing, .ref a_t_shares, .ref a_t_ahead, .int s_t_isKept, .int s_t_z, .int s_t_keptZ])), (a_t_sheets, .inr (2, [.ref a_t_sheets_sort, .ref a_t_sheets_size, .ref a_t_sheets_items])), (a_t_sheets_sort, .inl (cI, 4, .inl o_33)), (a_t_sheets_size, .inl (cI, 4, .inl o_34)), (a_t_sheets_items, .inl (cJ, 160, .inr (.inl o_35)))]) rfl (fun H locs hP hD hS => ?_)
              refine lv_iconst (v := (1 : Int32)) hx hb dX6_sheet_59 (by decide) ?_
              obtain ⟨rfl, rfl, rfl, rfl⟩ := pj4 hF
              exact hEnd _ _ _ _ _ dX6_sheet_60 hP hS rfl
          · replace hF := if_f c_27 hF
            refine lv_iload_n hx hb dX6_sheet_34 rfl (lv_at hl 3 rfl) ?_
            refine lv_if_ge (tgt := 41) hx hb dX6_sheet_35 (by decide) (fun c_37 => ?_) (fun c_37 => ?_)
            · replace hF := if_t c_37 hF
              refine lv_aload_n hx hb dX6_sheet_41 rfl (lv_at hl 0 rfl) ?_
              refine xget (ci := 6) (C := RX6) (T := TX6) (N := 13) hfix xiX6 hK.1 hP 0 rfl rfl 5 (by decide) rfl xw_166 rfl dX6_sheet_42 ?_
              refine lv_iload_n hx hb dX6_sheet_45 rfl (lv_at hl 1 rfl) ?_
              refine lv_iload_n hx hb dX6_sheet_46 rfl (lv_at hl 2 rfl) ?_
              refine lv_iload_n hx hb dX6_sheet_47 rfl (lv_at hl 2 rfl) ?_
              refine lv_if_ge (tgt := 55) hx hb dX6_sheet_48 (by decide) (fun c_38 => ?_) (fun c_38 => ?_)
              · replace hF := if_t c_38 hF
                refine lv_iload_n hx hb dX6_sheet_55 rfl (lv_at hl 3 rfl) ?_
                obtain ⟨o_39, o_40, o_41, hq_42, hF⟩ := bd3_e hF
                refine xrv (xrunV (As := [.int i1, .int i2, .int i3]) (rest := []) (c_X2_renew l D cI cB cJ a_t_sheets a_t_sheets_sort a_t_sheets_size a_t_sheets_items _ v_t_sheets_sort v_t_sheets_size v_t_sheets_items i1 i2 i3 o_39 o_40 o_41 hq_42) hfix xw_595 yv_X2_renew ⟨rfl, rfl⟩ ⟨(Nat.le_of_ble_eq_true rfl), (Nat.le_of_ble_eq_true rfl)⟩ xKk_K (fun U hU hW => xK.warm hW hK) hK.1 hP hD [1, 2, 3, 4] rfl rfl 1 2 rfl rfl rfl rfl hl.1 rfl (Nat.le_of_ble_eq_true rfl) dX6_sheet_56 ⟨Nat.zero_le _, Nat.zero_le _⟩) hP hD hS hA [1, 2, 3, 4] rfl rfl rfl (wn := [(a_t, .inr (6, [.ref a_t_book, .ref a_t_kept, .ref a_t_told, .ref a_t_tape, .ref a_t_rows, .ref a_t_sheets, .ref a_t_shelves, .ref a_t_thing, .ref a_t_shares, .ref a_t_ahead, .int s_t_isKept, .int s_t_z, .int s_t_keptZ])), (a_t_sheets, .inr (2, [.ref a_t_sheets_sort, .ref a_t_sheets_size, .ref a_t_sheets_items])), (a_t_sheets_sort, .inl (cI, 4, .inl o_39)), (a_t_sheets_size, .inl (cI, 4, .inl o_40)), (a_t_sheets_items, .inl (cJ, 160, .inr (.inl o_41)))]) rfl (fun H locs hP hD hS => ?_)
                refine lv_iconst (v := (1 : Int32)) hx hb dX6_sheet_59 (by decide) ?_
                obtain ⟨rfl, rfl, rfl, rfl⟩ := pj4 hF
                exact hEnd _ _ _ _ _ dX6_sheet_60 hP hS rfl
              · replace hF := if_f c_38 hF
                refine lv_iconst (v := (0 : Int32)) hx hb dX6_sheet_51 (by decide) ?_
                refine lv_goto (tgt := 56) hx hb dX6_sheet_52 (by decide) ?_
                obtain ⟨o_43, o_44, o_45, hq_46, hF⟩ := bd3_e hF
                refine xrv (xrunV (As := [.int i1, .int i2, .int (0 : Int32)]) (rest := []) (c_X2_renew l D cI cB cJ a_t_sheets a_t_sheets_sort a_t_sheets_size a_t_sheets_items _ v_t_sheets_sort v_t_sheets_size v_t_sheets_items i1 i2 (0 : Int32) o_43 o_44 o_45 hq_46) hfix xw_595 yv_X2_renew ⟨rfl, rfl⟩ ⟨(Nat.le_of_ble_eq_true rfl), (Nat.le_of_ble_eq_true rfl)⟩ xKk_K (fun U hU hW => xK.warm hW hK) hK.1 hP hD [1, 2, 3, 4] rfl rfl 1 2 rfl rfl rfl rfl hl.1 rfl (Nat.le_of_ble_eq_true rfl) dX6_sheet_56 ⟨Nat.zero_le _, Nat.zero_le _⟩) hP hD hS hA [1, 2, 3, 4] rfl rfl rfl (wn := [(a_t, .inr (6, [.ref a_t_book, .ref a_t_kept, .ref a_t_told, .ref a_t_tape, .ref a_t_rows, .ref a_t_sheets, .ref a_t_shelves, .ref a_t_thing, .ref a_t_shares, .ref a_t_ahead, .int s_t_isKept, .int s_t_z, .int s_t_keptZ])), (a_t_sheets, .inr (2, [.ref a_t_sheets_sort, .ref a_t_sheets_size, .ref a_t_sheets_items])), (a_t_sheets_sort, .inl (cI, 4, .inl o_43)), (a_t_sheets_size, .inl (cI, 4, .inl o_44)), (a_t_sheets_items, .inl (cJ, 160, .inr (.inl o_45)))]) rfl (fun H locs hP hD hS => ?_)
                refine lv_iconst (v := (1 : Int32)) hx hb dX6_sheet_59 (by decide) ?_
                obtain ⟨rfl, rfl, rfl, rfl⟩ := pj4 hF
                exact hEnd _ _ _ _ _ dX6_sheet_60 hP hS rfl
            · replace hF := if_f c_37 hF
              refine lv_bipush (v := (-14 : Int32)) hx hb dX6_sheet_38 (by decide) ?_
              obtain ⟨rfl, rfl, rfl, rfl⟩ := pj4 hF
              exact hEnd _ _ _ _ _ dX6_sheet_40 hP hS rfl
        · replace hF := if_f c_26 hF
          refine lv_iconst (v := (-1 : Int32)) hx hb dX6_sheet_28 (by decide) ?_
          obtain ⟨rfl, rfl, rfl, rfl⟩ := pj4 hF
          exact hEnd _ _ _ _ _ dX6_sheet_29 hP hS rfl
def f_X6_put (i1 : Int32) (i2 : Int32) (i3 : Int32) (v_t_sheets_sort : (Nat → Int32)) (v_t_sheets_size : (Nat → Int32)) (v_t_sheets_items : (Nat → Int64)) : Option (Int32 × (Nat → Int64)) := (if (f_X6_outside i1 (0 : Int32) (3 : Int32)) = (0 : Int32) then gd i1 4 ((if (0 : Int32) ≤ (v_t_sheets_sort i1.toNatClampNeg) then gd i1 4 ((if (f_X6_outside i2 (0 : Int32) ((v_t_sheets_size i1.toNatClampNeg) - (1 : Int32))) = (0 : Int32) then gd i1 4 (gd ((i1 * (40 : Int32)) + i2) 160 (some (((1 : Int32), (vp_updL v_t_sheets_items ((i1 * (40 : Int32)) + i2).toNatClampNeg (f_X6_narrowed i3 (v_t_sheets_sort i1.toNatClampNeg))))))) else some (((-12 : Int32), v_t_sheets_items)))) else some (((-11 : Int32), v_t_sheets_items)))) else some (((-1 : Int32), v_t_sheets_items)))
abbrev rmX6_put : Room := { frames := 1, cells := 0, slots := 0, locals := 22 }
set_option maxHeartbeats 400000 in
set_option maxRecDepth 100000 in
theorem c_X6_put (l : Launch) (D : va_G) (cI cB cJ : ClassId) (a_t : Nat) (a_t_book : Nat) (a_t_kept : Nat) (a_t_told : Nat) (a_t_tape : Nat) (a_t_rows : Nat) (a_t_sheets : Nat) (a_t_shelves : Nat) (a_t_thing : Nat) (a_t_shares : Nat) (a_t_ahead : Nat) (a_t_sheets_sort : Nat) (a_t_sheets_size : Nat) (a_t_sheets_items : Nat) (sz : Nat) (s_t_isKept : Int32) (s_t_z : Int32) (s_t_keptZ : Int32) (v_t_sheets_sort : (Nat → Int32)) (v_t_sheets_size : (Nat → Int32)) (v_t_sheets_items : (Nat → Int64)) (i1 : Int32) (i2 : Int32) (i3 : Int32) (r : Int32) (o_v_t_sheets_items : (Nat → Int64)) (hF : f_X6_put i1 i2 i3 v_t_sheets_sort v_t_sheets_size v_t_sheets_items = some (r, o_v_t_sheets_items)) : xMi l yX6_put (.code yX6_put cX6_put 4 (some .int) :: xU) rmX6_put (xK D cI cB cJ) D sz [.ref a_t, .int i1, .int i2, .int i3] [(a_t, .inr (6, [.ref a_t_book, .ref a_t_kept, .ref a_t_told, .ref a_t_tape, .ref a_t_rows, .ref a_t_sheets, .ref a_t_shelves, .ref a_t_thing, .ref a_t_shares, .ref a_t_ahead, .int s_t_isKept, .int s_t_z, .int s_t_keptZ])), (a_t_sheets, .inr (2, [.ref a_t_sheets_sort, .ref a_t_sheets_size, .ref a_t_sheets_items])), (a_t_sheets_sort, .inl (cI, 4, .inl v_t_sheets_sort)), (a_t_sheets_size, .inl (cI, 4, .inl v_t_sheets_size)), (a_t_sheets_items, .inl (cJ, 160, .inr (.inl v_t_sheets_items)))] [(a_t, .inr (6, [.ref a_t_book, .ref a_t_kept, .ref a_t_told, .ref a_t_tape, .ref a_t_rows, .ref a_t_sheets, .ref a_t_shelves, .ref a_t_thing, .ref a_t_shares, .ref a_t_ahead, .int s_t_isKept, .int s_t_z, .int s_t_keptZ])), (a_t_sheets, .inr (2, [.ref a_t_sheets_sort, .ref a_t_sheets_size, .ref a_t_sheets_items])), (a_t_sheets_sort, .inl (cI, 4, .inl v_t_sheets_sort)), (a_t_sheets_size, .inl (cI, 4, .inl v_t_sheets_size)), (a_t_sheets_items, .inl (cJ, 160, .inr (.inl o_v_t_sheets_items)))] r := by
  refine xMi.mk (own := "FairNext") (by decide +kernel) rfl (Nat.le_of_ble_eq_true rfl) ?_
  intro p e s m args below meth c A Q ls H hfix hK hP hD hA hS hl hEnd
  obtain ⟨hx, hb, hml, hown, hts⟩ := id hfix
  have hl : lv_has ls 4 [(0, .ref a_t), (1, .int i1), (2, .int i2), (3, .int i3)] := hl
  rw [f_X6_put] at hF
  refine lv_iload_n hx hb dX6_put_0 rfl (lv_at hl 1 rfl) ?_
  refine lv_iconst (v := (0 : Int32)) hx hb dX6_put_1 (by decide) ?_
  refine lv_iconst (v := (3 : Int32)) hx hb dX6_put_2 (by decide) ?_
  refine xrz0 (xrunS (As := [.int i1, .int (0 : Int32), .int (3 : Int32)]) (rest := []) (c_X6_outside l D cI cB cJ _ i1 (0 : Int32) (3 : Int32) (f_X6_outside i1 (0 : Int32) (3 : Int32)) rfl) hfix xw_205 ys_X6_outside ⟨rfl, rfl⟩ ⟨(Nat.le_of_ble_eq_true rfl), (Nat.le_of_ble_eq_true rfl)⟩ xKk_K (fun U hU hW => xK.warm hW hK) hP hD [] rfl rfl rfl hl.1 rfl (Nat.le_of_ble_eq_true rfl) dX6_put_3 ⟨Nat.zero_le _, Nat.zero_le _⟩) hP hD hS hA [] rfl rfl (fun H locs hP hD hS hz_1 => ?_)
  refine lv_if_eq (tgt := 11) hx hb dX6_put_6 (by decide) (fun c_2 => ?_) (fun c_2 => ?_)
  · replace hF := if_t c_2 hF
    refine lv_aload_n hx hb dX6_put_11 rfl (lv_at hl 0 rfl) ?_
    refine xget (ci := 6) (C := RX6) (T := TX6) (N := 13) hfix xiX6 hK.1 hP 0 rfl rfl 5 (by decide) rfl xw_166 rfl dX6_put_12 ?_
    refine xget (ci := 2) (C := RX2) (T := TX2) (N := 3) hfix xiX2 hK.1 hP 1 rfl rfl 0 (by decide) rfl xw_102 rfl dX6_put_15 ?_
    refine lv_iload_n hx hb dX6_put_18 rfl (lv_at hl 1 rfl) ?_
    obtain ⟨c_3, hF⟩ := gd_e hF
    refine va_iald hx hb hK.1 hP 2 0 rfl rfl c_3 dX6_put_19 ?_
    refine lv_if_ge (tgt := 26) hx hb dX6_put_20 (by decide) (fun c_4 => ?_) (fun c_4 => ?_)
    · replace hF := if_t c_4 hF
      refine lv_iload_n hx hb dX6_put_26 rfl (lv_at hl 2 rfl) ?_
      refine lv_iconst (v := (0 : Int32)) hx hb dX6_put_27 (by decide) ?_
      refine lv_aload_n hx hb dX6_put_28 rfl (lv_at hl 0 rfl) ?_
      refine xget (ci := 6) (C := RX6) (T := TX6) (N := 13) hfix xiX6 hK.1 hP 0 rfl rfl 5 (by decide) rfl xw_166 rfl dX6_put_29 ?_
      refine xget (ci := 2) (C := RX2) (T := TX2) (N := 3) hfix xiX2 hK.1 hP 1 rfl rfl 1 (by decide) rfl xw_104 rfl dX6_put_32 ?_
      refine lv_iload_n hx hb dX6_put_35 rfl (lv_at hl 1 rfl) ?_
      obtain ⟨c_5, hF⟩ := gd_e hF
      refine va_iald hx hb hK.1 hP 3 0 rfl rfl c_5 dX6_put_36 ?_
      refine lv_iconst (v := (1 : Int32)) hx hb dX6_put_37 (by decide) ?_
      refine lv_isub hx hb dX6_put_38 ?_
      refine xrz0 (xrunS (As := [.int i2, .int (0 : Int32), .int ((v_t_sheets_size i1.toNatClampNeg) - (1 : Int32))]) (rest := []) (c_X6_outside l D cI cB cJ _ i2 (0 : Int32) ((v_t_sheets_size i1.toNatClampNeg) - (1 : Int32)) (f_X6_outside i2 (0 : Int32) ((v_t_sheets_size i1.toNatClampNeg) - (1 : Int32))) rfl) hfix xw_205 ys_X6_outside ⟨rfl, rfl⟩ ⟨(Nat.le_of_ble_eq_true rfl), (Nat.le_of_ble_eq_true rfl)⟩ xKk_K (fun U hU hW => xK.warm hW hK) hP hD [] rfl rfl rfl hl.1 rfl (Nat.le_of_ble_eq_true rfl) dX6_put_39 ⟨Nat.zero_le _, Nat.zero_le _⟩) hP hD hS hA [] rfl rfl (fun H locs hP hD hS hz_6 => ?_)
      refine lv_if_eq (tgt := 48) hx hb dX6_put_42 (by decide) (fun c_7 => ?_) (fun c_7 => ?_)
      · replace hF := if_t c_7 hF
        refine lv_aload_n hx hb dX6_put_48 rfl (lv_at hl 0 rfl) ?_
        refine xget (ci := 6) (C := RX6) (T := TX6) (N := 13) hfix xiX6 hK.1 hP 0 rfl rfl 5 (by decide) rfl xw_166 rfl dX6_put_49 ?_
        refine xget (ci := 2) (C := RX2) (T := TX2) (N := 3) hfix xiX2 hK.1 hP 1 rfl rfl 2 (by decide) rfl xw_106 rfl dX6_put_52 ?_
        refine lv_iload_n hx hb dX6_put_55 rfl (lv_at hl 1 rfl) ?_
        refine lv_bipush (v := (40 : Int32)) hx hb dX6_put_56 (by decide) ?_
        refine lv_imul hx hb dX6_put_58 ?_
        refine lv_iload_n hx hb dX6_put_59 rfl (lv_at hl 2 rfl) ?_
        refine lv_iadd hx hb dX6_put_60 ?_
        refine lv_iload_n hx hb dX6_put_61 rfl (lv_at hl 3 rfl) ?_
        refine lv_aload_n hx hb dX6_put_62 rfl (lv_at hl 0 rfl) ?_
        refine xget (ci := 6) (C := RX6) (T := TX6) (N := 13) hfix xiX6 hK.1 hP 0 rfl rfl 5 (by decide) rfl xw_166 rfl dX6_put_63 ?_
        refine xget (ci := 2) (C := RX2) (T := TX2) (N := 3) hfix xiX2 hK.1 hP 1 rfl rfl 0 (by decide) rfl xw_102 rfl dX6_put_66 ?_
        refine lv_iload_n hx hb dX6_put_69 rfl (lv_at hl 1 rfl) ?_
        obtain ⟨c_8, hF⟩ := gd_e hF
        refine va_iald hx hb hK.1 hP 2 0 rfl rfl c_8 dX6_put_70 ?_
        refine xrl0 (xrunS (As := [.int i3, .int (v_t_sheets_sort i1.toNatClampNeg)]) (rest := [.int ((i1 * (40 : Int32)) + i2), .ref a_t_sheets_items]) (c_X6_narrowed l D cI cB cJ _ i3 (v_t_sheets_sort i1.toNatClampNeg) (f_X6_narrowed i3 (v_t_sheets_sort i1.toNatClampNeg)) rfl) hfix xw_603 ys_X6_narrowed ⟨rfl, rfl⟩ ⟨(Nat.le_of_ble_eq_true rfl), (Nat.le_of_ble_eq_true rfl)⟩ xKk_K (fun U hU hW => xK.warm hW hK) hP hD [] rfl rfl rfl hl.1 rfl (Nat.le_of_ble_eq_true rfl) dX6_put_71 ⟨Nat.zero_le _, Nat.zero_le _⟩) hP hD hS hA [] rfl rfl (fun H locs hP hD hS => ?_)
        obtain ⟨c_9, hF⟩ := gd_e hF
        refine va_last hx hb hK.1 hP hD hS 4 2 rfl rfl c_9 dX6_put_74 (fun H locs hP hD hS => ?_)
        have hP : va_P D vwCl [(a_t, .inr (6, [.ref a_t_book, .ref a_t_kept, .ref a_t_told, .ref a_t_tape, .ref a_t_rows, .ref a_t_sheets, .ref a_t_shelves, .ref a_t_thing, .ref a_t_shares, .ref a_t_ahead, .int s_t_isKept, .int s_t_z, .int s_t_keptZ])), (a_t_sheets, .inr (2, [.ref a_t_sheets_sort, .ref a_t_sheets_size, .ref a_t_sheets_items])), (a_t_sheets_sort, .inl (cI, 4, .inl v_t_sheets_sort)), (a_t_sheets_size, .inl (cI, 4, .inl v_t_sheets_size)), (a_t_sheets_items, .inl (cJ, 160, .inr (.inl (vp_updL v_t_sheets_items ((i1 * (40 : Int32)) + i2).toNatClampNeg (f_X6_narrowed i3 (v_t_sheets_sort i1.toNatClampNeg))))))] H := hP
        have hD : va_D A [(a_t, .inr (6, [.ref a_t_book, .ref a_t_kept, .ref a_t_told, .ref a_t_tape, .ref a_t_rows, .ref a_t_sheets, .ref a_t_shelves, .ref a_t_thing, .ref a_t_shares, .ref a_t_ahead, .int s_t_isKept, .int s_t_z, .int s_t_keptZ])), (a_t_sheets, .inr (2, [.ref a_t_sheets_sort, .ref a_t_sheets_size, .ref a_t_sheets_items])), (a_t_sheets_sort, .inl (cI, 4, .inl v_t_sheets_sort)), (a_t_sheets_size, .inl (cI, 4, .inl v_t_sheets_size)), (a_t_sheets_items, .inl (cJ, 160, .inr (.inl (vp_updL v_t_sheets_items ((i1 * (40 : Int32)) + i2).toNatClampNeg (f_X6_narrowed i3 (v_t_sheets_sort i1.toNatClampNeg))))))] := hD
        refine lv_iconst (v := (1 : Int32)) hx hb dX6_put_75 (by decide) ?_
        obtain ⟨rfl, rfl⟩ := pj2 hF
        exact hEnd _ _ _ _ _ dX6_put_76 hP hS rfl
      · replace hF := if_f c_7 hF
        refine lv_bipush (v := (-12 : Int32)) hx hb dX6_put_45 (by decide) ?_
        obtain ⟨rfl, rfl⟩ := pj2 hF
        exact hEnd _ _ _ _ _ dX6_put_47 hP hS rfl
    · replace hF := if_f c_4 hF
      refine lv_bipush (v := (-11 : Int32)) hx hb dX6_put_23 (by decide) ?_
      obtain ⟨rfl, rfl⟩ := pj2 hF
      exact hEnd _ _ _ _ _ dX6_put_25 hP hS rfl
  · replace hF := if_f c_2 hF
    refine lv_iconst (v := (-1 : Int32)) hx hb dX6_put_9 (by decide) ?_
    obtain ⟨rfl, rfl⟩ := pj2 hF
    exact hEnd _ _ _ _ _ dX6_put_10 hP hS rfl
def f_X6_item (i1 : Int32) (i2 : Int32) (i3 : Int32) (v_t_sheets_sort : (Nat → Int32)) (v_t_sheets_size : (Nat → Int32)) (v_t_sheets_items : (Nat → Int64)) : Option (Int32) := (if (f_X6_outside i1 (0 : Int32) (3 : Int32)) = (0 : Int32) then (if (f_X6_outside i2 (0 : Int32) (3 : Int32)) = (0 : Int32) then gd i1 4 ((if (0 : Int32) ≤ (v_t_sheets_sort i1.toNatClampNeg) then gd i1 4 ((if (v_t_sheets_sort i1.toNatClampNeg) = i2 then gd i1 4 ((if (f_X6_outside i3 (0 : Int32) ((v_t_sheets_size i1.toNatClampNeg) - (1 : Int32))) = (0 : Int32) then gd ((i1 * (40 : Int32)) + i3) 160 (some (((v_t_sheets_items ((i1 * (40 : Int32)) + i3).toNatClampNeg).toInt32))) else some ((-12 : Int32)))) else some ((-13 : Int32)))) else some ((-11 : Int32)))) else some ((-1 : Int32))) else some ((-1 : Int32)))
abbrev rmX6_item : Room := { frames := 1, cells := 0, slots := 0, locals := 22 }
set_option maxHeartbeats 400000 in
set_option maxRecDepth 100000 in
theorem c_X6_item (l : Launch) (D : va_G) (cI cB cJ : ClassId) (a_t : Nat) (a_t_book : Nat) (a_t_kept : Nat) (a_t_told : Nat) (a_t_tape : Nat) (a_t_rows : Nat) (a_t_sheets : Nat) (a_t_shelves : Nat) (a_t_thing : Nat) (a_t_shares : Nat) (a_t_ahead : Nat) (a_t_sheets_sort : Nat) (a_t_sheets_size : Nat) (a_t_sheets_items : Nat) (sz : Nat) (s_t_isKept : Int32) (s_t_z : Int32) (s_t_keptZ : Int32) (v_t_sheets_sort : (Nat → Int32)) (v_t_sheets_size : (Nat → Int32)) (v_t_sheets_items : (Nat → Int64)) (i1 : Int32) (i2 : Int32) (i3 : Int32) (r : Int32) (hF : f_X6_item i1 i2 i3 v_t_sheets_sort v_t_sheets_size v_t_sheets_items = some r) : xMi l yX6_item (.code yX6_item cX6_item 4 (some .int) :: xU) rmX6_item (xK D cI cB cJ) D sz [.ref a_t, .int i1, .int i2, .int i3] [(a_t, .inr (6, [.ref a_t_book, .ref a_t_kept, .ref a_t_told, .ref a_t_tape, .ref a_t_rows, .ref a_t_sheets, .ref a_t_shelves, .ref a_t_thing, .ref a_t_shares, .ref a_t_ahead, .int s_t_isKept, .int s_t_z, .int s_t_keptZ])), (a_t_sheets, .inr (2, [.ref a_t_sheets_sort, .ref a_t_sheets_size, .ref a_t_sheets_items])), (a_t_sheets_sort, .inl (cI, 4, .inl v_t_sheets_sort)), (a_t_sheets_size, .inl (cI, 4, .inl v_t_sheets_size)), (a_t_sheets_items, .inl (cJ, 160, .inr (.inl v_t_sheets_items)))] [(a_t, .inr (6, [.ref a_t_book, .ref a_t_kept, .ref a_t_told, .ref a_t_tape, .ref a_t_rows, .ref a_t_sheets, .ref a_t_shelves, .ref a_t_thing, .ref a_t_shares, .ref a_t_ahead, .int s_t_isKept, .int s_t_z, .int s_t_keptZ])), (a_t_sheets, .inr (2, [.ref a_t_sheets_sort, .ref a_t_sheets_size, .ref a_t_sheets_items])), (a_t_sheets_sort, .inl (cI, 4, .inl v_t_sheets_sort)), (a_t_sheets_size, .inl (cI, 4, .inl v_t_sheets_size)), (a_t_sheets_items, .inl (cJ, 160, .inr (.inl v_t_sheets_items)))] r := by
  refine xMi.mk (own := "FairNext") (by decide +kernel) rfl (Nat.le_of_ble_eq_true rfl) ?_
  intro p e s m args below meth c A Q ls H hfix hK hP hD hA hS hl hEnd
  obtain ⟨hx, hb, hml, hown, hts⟩ := id hfix
  have hl : lv_has ls 4 [(0, .ref a_t), (1, .int i1), (2, .int i2), (3, .int i3)] := hl
  rw [f_X6_item] at hF
  refine lv_iload_n hx hb dX6_item_0 rfl (lv_at hl 1 rfl) ?_
  refine lv_iconst (v := (0 : Int32)) hx hb dX6_item_1 (by decide) ?_
  refine lv_iconst (v := (3 : Int32)) hx hb dX6_item_2 (by decide) ?_
  refine xrz0 (xrunS (As := [.int i1, .int (0 : Int32), .int (3 : Int32)]) (rest := []) (c_X6_outside l D cI cB cJ _ i1 (0 : Int32) (3 : Int32) (f_X6_outside i1 (0 : Int32) (3 : Int32)) rfl) hfix xw_205 ys_X6_outside ⟨rfl, rfl⟩ ⟨(Nat.le_of_ble_eq_true rfl), (Nat.le_of_ble_eq_true rfl)⟩ xKk_K (fun U hU hW => xK.warm hW hK) hP hD [] rfl rfl rfl hl.1 rfl (Nat.le_of_ble_eq_true rfl) dX6_item_3 ⟨Nat.zero_le _, Nat.zero_le _⟩) hP hD hS hA [] rfl rfl (fun H locs hP hD hS hz_1 => ?_)
  refine lv_if_ne (tgt := 18) hx hb dX6_item_6 (by decide) (fun c_2 => ?_) (fun c_2 => ?_)
  · replace hF := if_f c_2 hF
    refine lv_iconst (v := (-1 : Int32)) hx hb dX6_item_18 (by decide) ?_
    obtain rfl := Option.some.inj hF
    exact hEnd _ _ _ _ _ dX6_item_19 hP hS rfl
  · replace hF := if_t c_2 hF
    refine lv_iload_n hx hb dX6_item_9 rfl (lv_at hl 2 rfl) ?_
    refine lv_iconst (v := (0 : Int32)) hx hb dX6_item_10 (by decide) ?_
    refine lv_iconst (v := (3 : Int32)) hx hb dX6_item_11 (by decide) ?_
    refine xrz0 (xrunS (As := [.int i2, .int (0 : Int32), .int (3 : Int32)]) (rest := []) (c_X6_outside l D cI cB cJ _ i2 (0 : Int32) (3 : Int32) (f_X6_outside i2 (0 : Int32) (3 : Int32)) rfl) hfix xw_205 ys_X6_outside ⟨rfl, rfl⟩ ⟨(Nat.le_of_ble_eq_true rfl), (Nat.le_of_ble_eq_true rfl)⟩ xKk_K (fun U hU hW => xK.warm hW hK) hP hD [] rfl rfl rfl hl.1 rfl (Nat.le_of_ble_eq_true rfl) dX6_item_12 ⟨Nat.zero_le _, Nat.zero_le _⟩) hP hD hS hA [] rfl rfl (fun H locs hP hD hS hz_3 => ?_)
    refine lv_if_eq (tgt := 20) hx hb dX6_item_15 (by decide) (fun c_4 => ?_) (fun c_4 => ?_)
    · replace hF := if_t c_4 hF
      refine lv_aload_n hx hb dX6_item_20 rfl (lv_at hl 0 rfl) ?_
      refine xget (ci := 6) (C := RX6) (T := TX6) (N := 13) hfix xiX6 hK.1 hP 0 rfl rfl 5 (by decide) rfl xw_166 rfl dX6_item_21 ?_
      refine xget (ci := 2) (C := RX2) (T := TX2) (N := 3) hfix xiX2 hK.1 hP 1 rfl rfl 0 (by decide) rfl xw_102 rfl dX6_item_24 ?_
      refine lv_iload_n hx hb dX6_item_27 rfl (lv_at hl 1 rfl) ?_
      obtain ⟨c_5, hF⟩ := gd_e hF
      refine va_iald hx hb hK.1 hP 2 0 rfl rfl c_5 dX6_item_28 ?_
      refine lv_if_ge (tgt := 35) hx hb dX6_item_29 (by decide) (fun c_6 => ?_) (fun c_6 => ?_)
      · replace hF := if_t c_6 hF
        refine lv_aload_n hx hb dX6_item_35 rfl (lv_at hl 0 rfl) ?_
        refine xget (ci := 6) (C := RX6) (T := TX6) (N := 13) hfix xiX6 hK.1 hP 0 rfl rfl 5 (by decide) rfl xw_166 rfl dX6_item_36 ?_
        refine xget (ci := 2) (C := RX2) (T := TX2) (N := 3) hfix xiX2 hK.1 hP 1 rfl rfl 0 (by decide) rfl xw_102 rfl dX6_item_39 ?_
        refine lv_iload_n hx hb dX6_item_42 rfl (lv_at hl 1 rfl) ?_
        obtain ⟨c_7, hF⟩ := gd_e hF
        refine va_iald hx hb hK.1 hP 2 0 rfl rfl c_7 dX6_item_43 ?_
        refine lv_iload_n hx hb dX6_item_44 rfl (lv_at hl 2 rfl) ?_
        refine lv_icmp_eq (tgt := 51) hx hb dX6_item_45 (by decide) (fun c_8 => ?_) (fun c_8 => ?_)
        · replace hF := if_t c_8 hF
          refine lv_iload_n hx hb dX6_item_51 rfl (lv_at hl 3 rfl) ?_
          refine lv_iconst (v := (0 : Int32)) hx hb dX6_item_52 (by decide) ?_
          refine lv_aload_n hx hb dX6_item_53 rfl (lv_at hl 0 rfl) ?_
          refine xget (ci := 6) (C := RX6) (T := TX6) (N := 13) hfix xiX6 hK.1 hP 0 rfl rfl 5 (by decide) rfl xw_166 rfl dX6_item_54 ?_
          refine xget (ci := 2) (C := RX2) (T := TX2) (N := 3) hfix xiX2 hK.1 hP 1 rfl rfl 1 (by decide) rfl xw_104 rfl dX6_item_57 ?_
          refine lv_iload_n hx hb dX6_item_60 rfl (lv_at hl 1 rfl) ?_
          obtain ⟨c_9, hF⟩ := gd_e hF
          refine va_iald hx hb hK.1 hP 3 0 rfl rfl c_9 dX6_item_61 ?_
          refine lv_iconst (v := (1 : Int32)) hx hb dX6_item_62 (by decide) ?_
          refine lv_isub hx hb dX6_item_63 ?_
          refine xrz0 (xrunS (As := [.int i3, .int (0 : Int32), .int ((v_t_sheets_size i1.toNatClampNeg) - (1 : Int32))]) (rest := []) (c_X6_outside l D cI cB cJ _ i3 (0 : Int32) ((v_t_sheets_size i1.toNatClampNeg) - (1 : Int32)) (f_X6_outside i3 (0 : Int32) ((v_t_sheets_size i1.toNatClampNeg) - (1 : Int32))) rfl) hfix xw_205 ys_X6_outside ⟨rfl, rfl⟩ ⟨(Nat.le_of_ble_eq_true rfl), (Nat.le_of_ble_eq_true rfl)⟩ xKk_K (fun U hU hW => xK.warm hW hK) hP hD [] rfl rfl rfl hl.1 rfl (Nat.le_of_ble_eq_true rfl) dX6_item_64 ⟨Nat.zero_le _, Nat.zero_le _⟩) hP hD hS hA [] rfl rfl (fun H locs hP hD hS hz_10 => ?_)
          refine lv_if_eq (tgt := 73) hx hb dX6_item_67 (by decide) (fun c_11 => ?_) (fun c_11 => ?_)
          · replace hF := if_t c_11 hF
            refine lv_aload_n hx hb dX6_item_73 rfl (lv_at hl 0 rfl) ?_
            refine xget (ci := 6) (C := RX6) (T := TX6) (N := 13) hfix xiX6 hK.1 hP 0 rfl rfl 5 (by decide) rfl xw_166 rfl dX6_item_74 ?_
            refine xget (ci := 2) (C := RX2) (T := TX2) (N := 3) hfix xiX2 hK.1 hP 1 rfl rfl 2 (by decide) rfl xw_106 rfl dX6_item_77 ?_
            refine lv_iload_n hx hb dX6_item_80 rfl (lv_at hl 1 rfl) ?_
            refine lv_bipush (v := (40 : Int32)) hx hb dX6_item_81 (by decide) ?_
            refine lv_imul hx hb dX6_item_83 ?_
            refine lv_iload_n hx hb dX6_item_84 rfl (lv_at hl 3 rfl) ?_
            refine lv_iadd hx hb dX6_item_85 ?_
            obtain ⟨c_12, hF⟩ := gd_e hF
            refine va_lald hx hb hK.1 hP 4 2 rfl rfl c_12 dX6_item_86 ?_
            refine lv_l2i (v := ((v_t_sheets_items ((i1 * (40 : Int32)) + i3).toNatClampNeg).toInt32)) hx hb dX6_item_87 rfl ?_
            obtain rfl := Option.some.inj hF
            exact hEnd _ _ _ _ _ dX6_item_88 hP hS rfl
          · replace hF := if_f c_11 hF
            refine lv_bipush (v := (-12 : Int32)) hx hb dX6_item_70 (by decide) ?_
            obtain rfl := Option.some.inj hF
            exact hEnd _ _ _ _ _ dX6_item_72 hP hS rfl
        · replace hF := if_f c_8 hF
          refine lv_bipush (v := (-13 : Int32)) hx hb dX6_item_48 (by decide) ?_
          obtain rfl := Option.some.inj hF
          exact hEnd _ _ _ _ _ dX6_item_50 hP hS rfl
      · replace hF := if_f c_6 hF
        refine lv_bipush (v := (-11 : Int32)) hx hb dX6_item_32 (by decide) ?_
        obtain rfl := Option.some.inj hF
        exact hEnd _ _ _ _ _ dX6_item_34 hP hS rfl
    · replace hF := if_f c_4 hF
      refine lv_iconst (v := (-1 : Int32)) hx hb dX6_item_18 (by decide) ?_
      obtain rfl := Option.some.inj hF
      exact hEnd _ _ _ _ _ dX6_item_19 hP hS rfl
def f_X6_shelf (i1 : Int32) (i2 : Int32) (i3 : Int32) (s_t_book_heldCount : Int32) (v_t_shelves_rule : (Nat → Int32)) (v_t_shelves_sort : (Nat → Int32)) (v_t_shelves_size : (Nat → Int32)) (v_t_sheets_sort : (Nat → Int32)) (v_t_sheets_size : (Nat → Int32)) : Option (Int32 × (Nat → Int32) × (Nat → Int32) × (Nat → Int32)) := (if (f_X6_outside i1 (0 : Int32) (3 : Int32)) = (0 : Int32) then (if (f_X6_outside i2 (0 : Int32) (2 : Int32)) = (0 : Int32) then (if i2 = (0 : Int32) then (if (f_X0_holds i3 s_t_book_heldCount) = (0 : Int32) then some (((-1 : Int32), v_t_shelves_rule, v_t_shelves_sort, v_t_shelves_size)) else (if i2 = (1 : Int32) then (if (f_X6_outside i3 (0 : Int32) (3 : Int32)) = (0 : Int32) then (if i2 = (0 : Int32) then bd3 (f_X3_holdRule i1 i3 v_t_shelves_rule v_t_shelves_sort v_t_shelves_size) (fun (o_98 : (Nat → Int32)) (o_99 : (Nat → Int32)) (o_100 : (Nat → Int32)) => some (((1 : Int32), o_98, o_99, o_100))) else (if i2 = (1 : Int32) then gd i3 4 ((if (v_t_sheets_sort i3.toNatClampNeg) < (0 : Int32) then bd3 (f_X3_clear i1 v_t_shelves_rule v_t_shelves_sort v_t_shelves_size) (fun (o_88 : (Nat → Int32)) (o_89 : (Nat → Int32)) (o_90 : (Nat → Int32)) => some (((1 : Int32), o_88, o_89, o_90))) else gd i3 4 (gd i3 4 (bd3 (f_X3_holdRow i1 (v_t_sheets_sort i3.toNatClampNeg) (v_t_sheets_size i3.toNatClampNeg) v_t_shelves_rule v_t_shelves_sort v_t_shelves_size) (fun (o_94 : (Nat → Int32)) (o_95 : (Nat → Int32)) (o_96 : (Nat → Int32)) => some (((1 : Int32), o_94, o_95, o_96))))))) else bd3 (f_X3_clear i1 v_t_shelves_rule v_t_shelves_sort v_t_shelves_size) (fun (o_82 : (Nat → Int32)) (o_83 : (Nat → Int32)) (o_84 : (Nat → Int32)) => some (((1 : Int32), o_82, o_83, o_84))))) else some (((-1 : Int32), v_t_shelves_rule, v_t_shelves_sort, v_t_shelves_size))) else (if i2 = (0 : Int32) then bd3 (f_X3_holdRule i1 i3 v_t_shelves_rule v_t_shelves_sort v_t_shelves_size) (fun (o_74 : (Nat → Int32)) (o_75 : (Nat → Int32)) (o_76 : (Nat → Int32)) => some (((1 : Int32), o_74, o_75, o_76))) else (if i2 = (1 : Int32) then gd i3 4 ((if (v_t_sheets_sort i3.toNatClampNeg) < (0 : Int32) then bd3 (f_X3_clear i1 v_t_shelves_rule v_t_shelves_sort v_t_shelves_size) (fun (o_64 : (Nat → Int32)) (o_65 : (Nat → Int32)) (o_66 : (Nat → Int32)) => some (((1 : Int32), o_64, o_65, o_66))) else gd i3 4 (gd i3 4 (bd3 (f_X3_holdRow i1 (v_t_sheets_sort i3.toNatClampNeg) (v_t_sheets_size i3.toNatClampNeg) v_t_shelves_rule v_t_shelves_sort v_t_shelves_size) (fun (o_70 : (Nat → Int32)) (o_71 : (Nat → Int32)) (o_72 : (Nat → Int32)) => some (((1 : Int32), o_70, o_71, o_72))))))) else bd3 (f_X3_clear i1 v_t_shelves_rule v_t_shelves_sort v_t_shelves_size) (fun (o_58 : (Nat → Int32)) (o_59 : (Nat → Int32)) (o_60 : (Nat → Int32)) => some (((1 : Int32), o_58, o_59, o_60))))))) else (if i2 = (1 : Int32) then (if (f_X6_outside i3 (0 : Int32) (3 : Int32)) = (0 : Int32) then (if i2 = (0 : Int32) then bd3 (f_X3_holdRule i1 i3 v_t_shelves_rule v_t_shelves_sort v_t_shelves_size) (fun (o_49 : (Nat → Int32)) (o_50 : (Nat → Int32)) (o_51 : (Nat → Int32)) => some (((1 : Int32), o_49, o_50, o_51))) else (if i2 = (1 : Int32) then gd i3 4 ((if (v_t_sheets_sort i3.toNatClampNeg) < (0 : Int32) then bd3 (f_X3_clear i1 v_t_shelves_rule v_t_shelves_sort v_t_shelves_size) (fun (o_39 : (Nat → Int32)) (o_40 : (Nat → Int32)) (o_41 : (Nat → Int32)) => some (((1 : Int32), o_39, o_40, o_41))) else gd i3 4 (gd i3 4 (bd3 (f_X3_holdRow i1 (v_t_sheets_sort i3.toNatClampNeg) (v_t_sheets_size i3.toNatClampNeg) v_t_shelves_rule v_t_shelves_sort v_t_shelves_size) (fun (o_45 : (Nat → Int32)) (o_46 : (Nat → Int32)) (o_47 : (Nat → Int32)) => some (((1 : Int32), o_45, o_46, o_47))))))) else bd3 (f_X3_clear i1 v_t_shelves_rule v_t_shelves_sort v_t_shelves_size) (fun (o_33 : (Nat → Int32)) (o_34 : (Nat → Int32)) (o_35 : (Nat → Int32)) => some (((1 : Int32), o_33, o_34, o_35))))) else some (((-1 : Int32), v_t_shelves_rule, v_t_shelves_sort, v_t_shelves_size))) else (if i2 = (0 : Int32) then bd3 (f_X3_holdRule i1 i3 v_t_shelves_rule v_t_shelves_sort v_t_shelves_size) (fun (o_25 : (Nat → Int32)) (o_26 : (Nat → Int32)) (o_27 : (Nat → Int32)) => some (((1 : Int32), o_25, o_26, o_27))) else (if i2 = (1 : Int32) then gd i3 4 ((if (v_t_sheets_sort i3.toNatClampNeg) < (0 : Int32) then bd3 (f_X3_clear i1 v_t_shelves_rule v_t_shelves_sort v_t_shelves_size) (fun (o_15 : (Nat → Int32)) (o_16 : (Nat → Int32)) (o_17 : (Nat → Int32)) => some (((1 : Int32), o_15, o_16, o_17))) else gd i3 4 (gd i3 4 (bd3 (f_X3_holdRow i1 (v_t_sheets_sort i3.toNatClampNeg) (v_t_sheets_size i3.toNatClampNeg) v_t_shelves_rule v_t_shelves_sort v_t_shelves_size) (fun (o_21 : (Nat → Int32)) (o_22 : (Nat → Int32)) (o_23 : (Nat → Int32)) => some (((1 : Int32), o_21, o_22, o_23))))))) else bd3 (f_X3_clear i1 v_t_shelves_rule v_t_shelves_sort v_t_shelves_size) (fun (o_9 : (Nat → Int32)) (o_10 : (Nat → Int32)) (o_11 : (Nat → Int32)) => some (((1 : Int32), o_9, o_10, o_11))))))) else some (((-1 : Int32), v_t_shelves_rule, v_t_shelves_sort, v_t_shelves_size))) else some (((-1 : Int32), v_t_shelves_rule, v_t_shelves_sort, v_t_shelves_size)))
abbrev rmX6_shelf : Room := { frames := 2, cells := 0, slots := 0, locals := 44 }
set_option maxHeartbeats 400000 in
set_option maxRecDepth 100000 in
theorem c_X6_shelf (l : Launch) (D : va_G) (cI cB cJ : ClassId) (a_t : Nat) (a_t_book : Nat) (a_t_kept : Nat) (a_t_told : Nat) (a_t_tape : Nat) (a_t_rows : Nat) (a_t_sheets : Nat) (a_t_shelves : Nat) (a_t_thing : Nat) (a_t_shares : Nat) (a_t_ahead : Nat) (a_t_book_village : Nat) (a_t_book_mark : Nat) (a_t_book_held : Nat) (a_t_shelves_rule : Nat) (a_t_shelves_sort : Nat) (a_t_shelves_size : Nat) (a_t_sheets_sort : Nat) (a_t_sheets_size : Nat) (a_t_sheets_items : Nat) (sz : Nat) (s_t_isKept : Int32) (s_t_z : Int32) (s_t_keptZ : Int32) (s_t_book_heldCount : Int32) (s_t_book_villages : Int32) (v_t_shelves_rule : (Nat → Int32)) (v_t_shelves_sort : (Nat → Int32)) (v_t_shelves_size : (Nat → Int32)) (v_t_sheets_sort : (Nat → Int32)) (v_t_sheets_size : (Nat → Int32)) (i1 : Int32) (i2 : Int32) (i3 : Int32) (r : Int32) (o_v_t_shelves_rule : (Nat → Int32)) (o_v_t_shelves_sort : (Nat → Int32)) (o_v_t_shelves_size : (Nat → Int32)) (hF : f_X6_shelf i1 i2 i3 s_t_book_heldCount v_t_shelves_rule v_t_shelves_sort v_t_shelves_size v_t_sheets_sort v_t_sheets_size = some (r, o_v_t_shelves_rule, o_v_t_shelves_sort, o_v_t_shelves_size)) : xMi l yX6_shelf (.code yX6_shelf cX6_shelf 4 (some .int) :: xU) rmX6_shelf (xK D cI cB cJ) D sz [.ref a_t, .int i1, .int i2, .int i3] [(a_t, .inr (6, [.ref a_t_book, .ref a_t_kept, .ref a_t_told, .ref a_t_tape, .ref a_t_rows, .ref a_t_sheets, .ref a_t_shelves, .ref a_t_thing, .ref a_t_shares, .ref a_t_ahead, .int s_t_isKept, .int s_t_z, .int s_t_keptZ])), (a_t_book, .inr (0, [.ref a_t_book_village, .ref a_t_book_mark, .ref a_t_book_held, .int s_t_book_heldCount, .int s_t_book_villages])), (a_t_shelves, .inr (3, [.ref a_t_shelves_rule, .ref a_t_shelves_sort, .ref a_t_shelves_size])), (a_t_shelves_rule, .inl (cI, 4, .inl v_t_shelves_rule)), (a_t_shelves_sort, .inl (cI, 4, .inl v_t_shelves_sort)), (a_t_shelves_size, .inl (cI, 4, .inl v_t_shelves_size)), (a_t_sheets, .inr (2, [.ref a_t_sheets_sort, .ref a_t_sheets_size, .ref a_t_sheets_items])), (a_t_sheets_sort, .inl (cI, 4, .inl v_t_sheets_sort)), (a_t_sheets_size, .inl (cI, 4, .inl v_t_sheets_size))] [(a_t, .inr (6, [.ref a_t_book, .ref a_t_kept, .ref a_t_told, .ref a_t_tape, .ref a_t_rows, .ref a_t_sheets, .ref a_t_shelves, .ref a_t_thing, .ref a_t_shares, .ref a_t_ahead, .int s_t_isKept, .int s_t_z, .int s_t_keptZ])), (a_t_book, .inr (0, [.ref a_t_book_village, .ref a_t_book_mark, .ref a_t_book_held, .int s_t_book_heldCount, .int s_t_book_villages])), (a_t_shelves, .inr (3, [.ref a_t_shelves_rule, .ref a_t_shelves_sort, .ref a_t_shelves_size])), (a_t_shelves_rule, .inl (cI, 4, .inl o_v_t_shelves_rule)), (a_t_shelves_sort, .inl (cI, 4, .inl o_v_t_shelves_sort)), (a_t_shelves_size, .inl (cI, 4, .inl o_v_t_shelves_size)), (a_t_sheets, .inr (2, [.ref a_t_sheets_sort, .ref a_t_sheets_size, .ref a_t_sheets_items])), (a_t_sheets_sort, .inl (cI, 4, .inl v_t_sheets_sort)), (a_t_sheets_size, .inl (cI, 4, .inl v_t_sheets_size))] r := by
  refine xMi.mk (own := "FairNext") (by decide +kernel) rfl (Nat.le_of_ble_eq_true rfl) ?_
  intro p e s m args below meth c A Q ls H hfix hK hP hD hA hS hl hEnd
  obtain ⟨hx, hb, hml, hown, hts⟩ := id hfix
  have hl : lv_has ls 4 [(0, .ref a_t), (1, .int i1), (2, .int i2), (3, .int i3)] := hl
  rw [f_X6_shelf] at hF
  refine lv_iload_n hx hb dX6_shelf_0 rfl (lv_at hl 1 rfl) ?_
  refine lv_iconst (v := (0 : Int32)) hx hb dX6_shelf_1 (by decide) ?_
  refine lv_iconst (v := (3 : Int32)) hx hb dX6_shelf_2 (by decide) ?_
  refine xrz0 (xrunS (As := [.int i1, .int (0 : Int32), .int (3 : Int32)]) (rest := []) (c_X6_outside l D cI cB cJ _ i1 (0 : Int32) (3 : Int32) (f_X6_outside i1 (0 : Int32) (3 : Int32)) rfl) hfix xw_205 ys_X6_outside ⟨rfl, rfl⟩ ⟨(Nat.le_of_ble_eq_true rfl), (Nat.le_of_ble_eq_true rfl)⟩ xKk_K (fun U hU hW => xK.warm hW hK) hP hD [] rfl rfl rfl hl.1 rfl (Nat.le_of_ble_eq_true rfl) dX6_shelf_3 ⟨Nat.zero_le _, Nat.zero_le _⟩) hP hD hS hA [] rfl rfl (fun H locs hP hD hS hz_1 => ?_)
  refine lv_if_ne (tgt := 18) hx hb dX6_shelf_6 (by decide) (fun c_2 => ?_) (fun c_2 => ?_)
  · replace hF := if_f c_2 hF
    refine lv_iconst (v := (-1 : Int32)) hx hb dX6_shelf_18 (by decide) ?_
    obtain ⟨rfl, rfl, rfl, rfl⟩ := pj4 hF
    exact hEnd _ _ _ _ _ dX6_shelf_19 hP hS rfl
  · replace hF := if_t c_2 hF
    refine lv_iload_n hx hb dX6_shelf_9 rfl (lv_at hl 2 rfl) ?_
    refine lv_iconst (v := (0 : Int32)) hx hb dX6_shelf_10 (by decide) ?_
    refine lv_iconst (v := (2 : Int32)) hx hb dX6_shelf_11 (by decide) ?_
    refine xrz0 (xrunS (As := [.int i2, .int (0 : Int32), .int (2 : Int32)]) (rest := []) (c_X6_outside l D cI cB cJ _ i2 (0 : Int32) (2 : Int32) (f_X6_outside i2 (0 : Int32) (2 : Int32)) rfl) hfix xw_205 ys_X6_outside ⟨rfl, rfl⟩ ⟨(Nat.le_of_ble_eq_true rfl), (Nat.le_of_ble_eq_true rfl)⟩ xKk_K (fun U hU hW => xK.warm hW hK) hP hD [] rfl rfl rfl hl.1 rfl (Nat.le_of_ble_eq_true rfl) dX6_shelf_12 ⟨Nat.zero_le _, Nat.zero_le _⟩) hP hD hS hA [] rfl rfl (fun H locs hP hD hS hz_3 => ?_)
    refine lv_if_eq (tgt := 20) hx hb dX6_shelf_15 (by decide) (fun c_4 => ?_) (fun c_4 => ?_)
    · replace hF := if_t c_4 hF
      refine lv_iload_n hx hb dX6_shelf_20 rfl (lv_at hl 2 rfl) ?_
      refine lv_if_ne (tgt := 35) hx hb dX6_shelf_21 (by decide) (fun c_5 => ?_) (fun c_5 => ?_)
      · replace hF := if_f c_5 hF
        refine lv_iload_n hx hb dX6_shelf_35 rfl (lv_at hl 2 rfl) ?_
        refine lv_iconst (v := (1 : Int32)) hx hb dX6_shelf_36 (by decide) ?_
        refine lv_icmp_ne (tgt := 51) hx hb dX6_shelf_37 (by decide) (fun c_6 => ?_) (fun c_6 => ?_)
        · replace hF := if_f c_6 hF
          refine lv_iload_n hx hb dX6_shelf_51 rfl (lv_at hl 2 rfl) ?_
          refine lv_if_ne (tgt := 67) hx hb dX6_shelf_52 (by decide) (fun c_7 => ?_) (fun c_7 => ?_)
          · replace hF := if_f c_7 hF
            refine lv_iload_n hx hb dX6_shelf_67 rfl (lv_at hl 2 rfl) ?_
            refine lv_iconst (v := (1 : Int32)) hx hb dX6_shelf_68 (by decide) ?_
            refine lv_icmp_ne (tgt := 113) hx hb dX6_shelf_69 (by decide) (fun c_8 => ?_) (fun c_8 => ?_)
            · replace hF := if_f c_8 hF
              refine lv_aload_n hx hb dX6_shelf_113 rfl (lv_at hl 0 rfl) ?_
              refine xget (ci := 6) (C := RX6) (T := TX6) (N := 13) hfix xiX6 hK.1 hP 0 rfl rfl 6 (by decide) rfl xw_167 rfl dX6_shelf_114 ?_
              refine lv_iload_n hx hb dX6_shelf_117 rfl (lv_at hl 1 rfl) ?_
              obtain ⟨o_9, o_10, o_11, hq_12, hF⟩ := bd3_e hF
              refine xrv (xrunV (As := [.int i1]) (rest := []) (c_X3_clear l D cI cB cJ a_t_shelves a_t_shelves_rule a_t_shelves_sort a_t_shelves_size _ v_t_shelves_rule v_t_shelves_sort v_t_shelves_size i1 o_9 o_10 o_11 hq_12) hfix xw_626 yv_X3_clear ⟨rfl, rfl⟩ ⟨(Nat.le_of_ble_eq_true rfl), (Nat.le_of_ble_eq_true rfl)⟩ xKk_K (fun U hU hW => xK.warm hW hK) hK.1 hP hD [2, 3, 4, 5] rfl rfl 2 3 rfl rfl rfl rfl hl.1 rfl (Nat.le_of_ble_eq_true rfl) dX6_shelf_118 ⟨Nat.zero_le _, Nat.zero_le _⟩) hP hD hS hA [2, 3, 4, 5] rfl rfl rfl (wn := [(a_t, .inr (6, [.ref a_t_book, .ref a_t_kept, .ref a_t_told, .ref a_t_tape, .ref a_t_rows, .ref a_t_sheets, .ref a_t_shelves, .ref a_t_thing, .ref a_t_shares, .ref a_t_ahead, .int s_t_isKept, .int s_t_z, .int s_t_keptZ])), (a_t_book, .inr (0, [.ref a_t_book_village, .ref a_t_book_mark, .ref a_t_book_held, .int s_t_book_heldCount, .int s_t_book_villages])), (a_t_shelves, .inr (3, [.ref a_t_shelves_rule, .ref a_t_shelves_sort, .ref a_t_shelves_size])), (a_t_shelves_rule, .inl (cI, 4, .inl o_9)), (a_t_shelves_sort, .inl (cI, 4, .inl o_10)), (a_t_shelves_size, .inl (cI, 4, .inl o_11)), (a_t_sheets, .inr (2, [.ref a_t_sheets_sort, .ref a_t_sheets_size, .ref a_t_sheets_items])), (a_t_sheets_sort, .inl (cI, 4, .inl v_t_sheets_sort)), (a_t_sheets_size, .inl (cI, 4, .inl v_t_sheets_size))]) rfl (fun H locs hP hD hS => ?_)
              refine lv_iconst (v := (1 : Int32)) hx hb dX6_shelf_121 (by decide) ?_
              obtain ⟨rfl, rfl, rfl, rfl⟩ := pj4 hF
              exact hEnd _ _ _ _ _ dX6_shelf_122 hP hS rfl
            · replace hF := if_t c_8 hF
              refine lv_aload_n hx hb dX6_shelf_72 rfl (lv_at hl 0 rfl) ?_
              refine xget (ci := 6) (C := RX6) (T := TX6) (N := 13) hfix xiX6 hK.1 hP 0 rfl rfl 5 (by decide) rfl xw_166 rfl dX6_shelf_73 ?_
              refine xget (ci := 2) (C := RX2) (T := TX2) (N := 3) hfix xiX2 hK.1 hP 6 rfl rfl 0 (by decide) rfl xw_102 rfl dX6_shelf_76 ?_
              refine lv_iload_n hx hb dX6_shelf_79 rfl (lv_at hl 3 rfl) ?_
              obtain ⟨c_13, hF⟩ := gd_e hF
              refine va_iald hx hb hK.1 hP 7 0 rfl rfl c_13 dX6_shelf_80 ?_
              refine lv_if_lt (tgt := 113) hx hb dX6_shelf_81 (by decide) (fun c_14 => ?_) (fun c_14 => ?_)
              · replace hF := if_t c_14 hF
                refine lv_aload_n hx hb dX6_shelf_113 rfl (lv_at hl 0 rfl) ?_
                refine xget (ci := 6) (C := RX6) (T := TX6) (N := 13) hfix xiX6 hK.1 hP 0 rfl rfl 6 (by decide) rfl xw_167 rfl dX6_shelf_114 ?_
                refine lv_iload_n hx hb dX6_shelf_117 rfl (lv_at hl 1 rfl) ?_
                obtain ⟨o_15, o_16, o_17, hq_18, hF⟩ := bd3_e hF
                refine xrv (xrunV (As := [.int i1]) (rest := []) (c_X3_clear l D cI cB cJ a_t_shelves a_t_shelves_rule a_t_shelves_sort a_t_shelves_size _ v_t_shelves_rule v_t_shelves_sort v_t_shelves_size i1 o_15 o_16 o_17 hq_18) hfix xw_626 yv_X3_clear ⟨rfl, rfl⟩ ⟨(Nat.le_of_ble_eq_true rfl), (Nat.le_of_ble_eq_true rfl)⟩ xKk_K (fun U hU hW => xK.warm hW hK) hK.1 hP hD [2, 3, 4, 5] rfl rfl 2 3 rfl rfl rfl rfl hl.1 rfl (Nat.le_of_ble_eq_true rfl) dX6_shelf_118 ⟨Nat.zero_le _, Nat.zero_le _⟩) hP hD hS hA [2, 3, 4, 5] rfl rfl rfl (wn := [(a_t, .inr (6, [.ref a_t_book, .ref a_t_kept, .ref a_t_told, .ref a_t_tape, .ref a_t_rows, .ref a_t_sheets, .ref a_t_shelves, .ref a_t_thing, .ref a_t_shares, .ref a_t_ahead, .int s_t_isKept, .int s_t_z, .int s_t_keptZ])), (a_t_book, .inr (0, [.ref a_t_book_village, .ref a_t_book_mark, .ref a_t_book_held, .int s_t_book_heldCount, .int s_t_book_villages])), (a_t_shelves, .inr (3, [.ref a_t_shelves_rule, .ref a_t_shelves_sort, .ref a_t_shelves_size])), (a_t_shelves_rule, .inl (cI, 4, .inl o_15)), (a_t_shelves_sort, .inl (cI, 4, .inl o_16)), (a_t_shelves_size, .inl (cI, 4, .inl o_17)), (a_t_sheets, .inr (2, [.ref a_t_sheets_sort, .ref a_t_sheets_size, .ref a_t_sheets_items])), (a_t_sheets_sort, .inl (cI, 4, .inl v_t_sheets_sort)), (a_t_sheets_size, .inl (cI, 4, .inl v_t_sheets_size))]) rfl (fun H locs hP hD hS => ?_)
                refine lv_iconst (v := (1 : Int32)) hx hb dX6_shelf_121 (by decide) ?_
                obtain ⟨rfl, rfl, rfl, rfl⟩ := pj4 hF
                exact hEnd _ _ _ _ _ dX6_shelf_122 hP hS rfl
              · replace hF := if_f c_14 hF
                refine lv_aload_n hx hb dX6_shelf_84 rfl (lv_at hl 0 rfl) ?_
                refine xget (ci := 6) (C := RX6) (T := TX6) (N := 13) hfix xiX6 hK.1 hP 0 rfl rfl 6 (by decide) rfl xw_167 rfl dX6_shelf_85 ?_
                refine lv_iload_n hx hb dX6_shelf_88 rfl (lv_at hl 1 rfl) ?_
                refine lv_aload_n hx hb dX6_shelf_89 rfl (lv_at hl 0 rfl) ?_
                refine xget (ci := 6) (C := RX6) (T := TX6) (N := 13) hfix xiX6 hK.1 hP 0 rfl rfl 5 (by decide) rfl xw_166 rfl dX6_shelf_90 ?_
                refine xget (ci := 2) (C := RX2) (T := TX2) (N := 3) hfix xiX2 hK.1 hP 6 rfl rfl 0 (by decide) rfl xw_102 rfl dX6_shelf_93 ?_
                refine lv_iload_n hx hb dX6_shelf_96 rfl (lv_at hl 3 rfl) ?_
                obtain ⟨c_19, hF⟩ := gd_e hF
                refine va_iald hx hb hK.1 hP 7 0 rfl rfl c_19 dX6_shelf_97 ?_
                refine lv_aload_n hx hb dX6_shelf_98 rfl (lv_at hl 0 rfl) ?_
                refine xget (ci := 6) (C := RX6) (T := TX6) (N := 13) hfix xiX6 hK.1 hP 0 rfl rfl 5 (by decide) rfl xw_166 rfl dX6_shelf_99 ?_
                refine xget (ci := 2) (C := RX2) (T := TX2) (N := 3) hfix xiX2 hK.1 hP 6 rfl rfl 1 (by decide) rfl xw_104 rfl dX6_shelf_102 ?_
                refine lv_iload_n hx hb dX6_shelf_105 rfl (lv_at hl 3 rfl) ?_
                obtain ⟨c_20, hF⟩ := gd_e hF
                refine va_iald hx hb hK.1 hP 8 0 rfl rfl c_20 dX6_shelf_106 ?_
                obtain ⟨o_21, o_22, o_23, hq_24, hF⟩ := bd3_e hF
                refine xrv (xrunV (As := [.int i1, .int (v_t_sheets_sort i3.toNatClampNeg), .int (v_t_sheets_size i3.toNatClampNeg)]) (rest := []) (c_X3_holdRow l D cI cB cJ a_t_shelves a_t_shelves_rule a_t_shelves_sort a_t_shelves_size _ v_t_shelves_rule v_t_shelves_sort v_t_shelves_size i1 (v_t_sheets_sort i3.toNatClampNeg) (v_t_sheets_size i3.toNatClampNeg) o_21 o_22 o_23 hq_24) hfix xw_622 yv_X3_holdRow ⟨rfl, rfl⟩ ⟨(Nat.le_of_ble_eq_true rfl), (Nat.le_of_ble_eq_true rfl)⟩ xKk_K (fun U hU hW => xK.warm hW hK) hK.1 hP hD [2, 3, 4, 5] rfl rfl 2 3 rfl rfl rfl rfl hl.1 rfl (Nat.le_of_ble_eq_true rfl) dX6_shelf_107 ⟨Nat.zero_le _, Nat.zero_le _⟩) hP hD hS hA [2, 3, 4, 5] rfl rfl rfl (wn := [(a_t, .inr (6, [.ref a_t_book, .ref a_t_kept, .ref a_t_told, .ref a_t_tape, .ref a_t_rows, .ref a_t_sheets, .ref a_t_shelves, .ref a_t_thing, .ref a_t_shares, .ref a_t_ahead, .int s_t_isKept, .int s_t_z, .int s_t_keptZ])), (a_t_book, .inr (0, [.ref a_t_book_village, .ref a_t_book_mark, .ref a_t_book_held, .int s_t_book_heldCount, .int s_t_book_villages])), (a_t_shelves, .inr (3, [.ref a_t_shelves_rule, .ref a_t_shelves_sort, .ref a_t_shelves_size])), (a_t_shelves_rule, .inl (cI, 4, .inl o_21)), (a_t_shelves_sort, .inl (cI, 4, .inl o_22)), (a_t_shelves_size, .inl (cI, 4, .inl o_23)), (a_t_sheets, .inr (2, [.ref a_t_sheets_sort, .ref a_t_sheets_size, .ref a_t_sheets_items])), (a_t_sheets_sort, .inl (cI, 4, .inl v_t_sheets_sort)), (a_t_sheets_size, .inl (cI, 4, .inl v_t_sheets_size))]) rfl (fun H locs hP hD hS => ?_)
                refine lv_goto (tgt := 121) hx hb dX6_shelf_110 (by decide) ?_
                refine lv_iconst (v := (1 : Int32)) hx hb dX6_shelf_121 (by decide) ?_
                obtain ⟨rfl, rfl, rfl, rfl⟩ := pj4 hF
                exact hEnd _ _ _ _ _ dX6_shelf_122 hP hS rfl
          · replace hF := if_t c_7 hF
            refine lv_aload_n hx hb dX6_shelf_55 rfl (lv_at hl 0 rfl) ?_
            refine xget (ci := 6) (C := RX6) (T := TX6) (N := 13) hfix xiX6 hK.1 hP 0 rfl rfl 6 (by decide) rfl xw_167 rfl dX6_shelf_56 ?_
            refine lv_iload_n hx hb dX6_shelf_59 rfl (lv_at hl 1 rfl) ?_
            refine lv_iload_n hx hb dX6_shelf_60 rfl (lv_at hl 3 rfl) ?_
            obtain ⟨o_25, o_26, o_27, hq_28, hF⟩ := bd3_e hF
            refine xrv (xrunV (As := [.int i1, .int i3]) (rest := []) (c_X3_holdRule l D cI cB cJ a_t_shelves a_t_shelves_rule a_t_shelves_sort a_t_shelves_size _ v_t_shelves_rule v_t_shelves_sort v_t_shelves_size i1 i3 o_25 o_26 o_27 hq_28) hfix xw_614 yv_X3_holdRule ⟨rfl, rfl⟩ ⟨(Nat.le_of_ble_eq_true rfl), (Nat.le_of_ble_eq_true rfl)⟩ xKk_K (fun U hU hW => xK.warm hW hK) hK.1 hP hD [2, 3, 4, 5] rfl rfl 2 3 rfl rfl rfl rfl hl.1 rfl (Nat.le_of_ble_eq_true rfl) dX6_shelf_61 ⟨Nat.zero_le _, Nat.zero_le _⟩) hP hD hS hA [2, 3, 4, 5] rfl rfl rfl (wn := [(a_t, .inr (6, [.ref a_t_book, .ref a_t_kept, .ref a_t_told, .ref a_t_tape, .ref a_t_rows, .ref a_t_sheets, .ref a_t_shelves, .ref a_t_thing, .ref a_t_shares, .ref a_t_ahead, .int s_t_isKept, .int s_t_z, .int s_t_keptZ])), (a_t_book, .inr (0, [.ref a_t_book_village, .ref a_t_book_mark, .ref a_t_book_held, .int s_t_book_heldCount, .int s_t_book_villages])), (a_t_shelves, .inr (3, [.ref a_t_shelves_rule, .ref a_t_shelves_sort, .ref a_t_shelves_size])), (a_t_shelves_rule, .inl (cI, 4, .inl o_25)), (a_t_shelves_sort, .inl (cI, 4, .inl o_26)), (a_t_shelves_size, .inl (cI, 4, .inl o_27)), (a_t_sheets, .inr (2, [.ref a_t_sheets_sort, .ref a_t_sheets_size, .ref a_t_sheets_items])), (a_t_sheets_sort, .inl (cI, 4, .inl v_t_sheets_sort)), (a_t_sheets_size, .inl (cI, 4, .inl v_t_sheets_size))]) rfl (fun H locs hP hD hS => ?_)
            refine lv_goto (tgt := 121) hx hb dX6_shelf_64 (by decide) ?_
            refine lv_iconst (v := (1 : Int32)) hx hb dX6_shelf_121 (by decide) ?_
            obtain ⟨rfl, rfl, rfl, rfl⟩ := pj4 hF
            exact hEnd _ _ _ _ _ dX6_shelf_122 hP hS rfl
        · replace hF := if_t c_6 hF
          refine lv_iload_n hx hb dX6_shelf_40 rfl (lv_at hl 3 rfl) ?_
          refine lv_iconst (v := (0 : Int32)) hx hb dX6_shelf_41 (by decide) ?_
          refine lv_iconst (v := (3 : Int32)) hx hb dX6_shelf_42 (by decide) ?_
          refine xrz0 (xrunS (As := [.int i3, .int (0 : Int32), .int (3 : Int32)]) (rest := []) (c_X6_outside l D cI cB cJ _ i3 (0 : Int32) (3 : Int32) (f_X6_outside i3 (0 : Int32) (3 : Int32)) rfl) hfix xw_205 ys_X6_outside ⟨rfl, rfl⟩ ⟨(Nat.le_of_ble_eq_true rfl), (Nat.le_of_ble_eq_true rfl)⟩ xKk_K (fun U hU hW => xK.warm hW hK) hP hD [] rfl rfl rfl hl.1 rfl (Nat.le_of_ble_eq_true rfl) dX6_shelf_43 ⟨Nat.zero_le _, Nat.zero_le _⟩) hP hD hS hA [] rfl rfl (fun H locs hP hD hS hz_29 => ?_)
          refine lv_if_eq (tgt := 51) hx hb dX6_shelf_46 (by decide) (fun c_30 => ?_) (fun c_30 => ?_)
          · replace hF := if_t c_30 hF
            refine lv_iload_n hx hb dX6_shelf_51 rfl (lv_at hl 2 rfl) ?_
            refine lv_if_ne (tgt := 67) hx hb dX6_shelf_52 (by decide) (fun c_31 => ?_) (fun c_31 => ?_)
            · replace hF := if_f c_31 hF
              refine lv_iload_n hx hb dX6_shelf_67 rfl (lv_at hl 2 rfl) ?_
              refine lv_iconst (v := (1 : Int32)) hx hb dX6_shelf_68 (by decide) ?_
              refine lv_icmp_ne (tgt := 113) hx hb dX6_shelf_69 (by decide) (fun c_32 => ?_) (fun c_32 => ?_)
              · replace hF := if_f c_32 hF
                refine lv_aload_n hx hb dX6_shelf_113 rfl (lv_at hl 0 rfl) ?_
                refine xget (ci := 6) (C := RX6) (T := TX6) (N := 13) hfix xiX6 hK.1 hP 0 rfl rfl 6 (by decide) rfl xw_167 rfl dX6_shelf_114 ?_
                refine lv_iload_n hx hb dX6_shelf_117 rfl (lv_at hl 1 rfl) ?_
                obtain ⟨o_33, o_34, o_35, hq_36, hF⟩ := bd3_e hF
                refine xrv (xrunV (As := [.int i1]) (rest := []) (c_X3_clear l D cI cB cJ a_t_shelves a_t_shelves_rule a_t_shelves_sort a_t_shelves_size _ v_t_shelves_rule v_t_shelves_sort v_t_shelves_size i1 o_33 o_34 o_35 hq_36) hfix xw_626 yv_X3_clear ⟨rfl, rfl⟩ ⟨(Nat.le_of_ble_eq_true rfl), (Nat.le_of_ble_eq_true rfl)⟩ xKk_K (fun U hU hW => xK.warm hW hK) hK.1 hP hD [2, 3, 4, 5] rfl rfl 2 3 rfl rfl rfl rfl hl.1 rfl (Nat.le_of_ble_eq_true rfl) dX6_shelf_118 ⟨Nat.zero_le _, Nat.zero_le _⟩) hP hD hS hA [2, 3, 4, 5] rfl rfl rfl (wn := [(a_t, .inr (6, [.ref a_t_book, .ref a_t_kept, .ref a_t_told, .ref a_t_tape, .ref a_t_rows, .ref a_t_sheets, .ref a_t_shelves, .ref a_t_thing, .ref a_t_shares, .ref a_t_ahead, .int s_t_isKept, .int s_t_z, .int s_t_keptZ])), (a_t_book, .inr (0, [.ref a_t_book_village, .ref a_t_book_mark, .ref a_t_book_held, .int s_t_book_heldCount, .int s_t_book_villages])), (a_t_shelves, .inr (3, [.ref a_t_shelves_rule, .ref a_t_shelves_sort, .ref a_t_shelves_size])), (a_t_shelves_rule, .inl (cI, 4, .inl o_33)), (a_t_shelves_sort, .inl (cI, 4, .inl o_34)), (a_t_shelves_size, .inl (cI, 4, .inl o_35)), (a_t_sheets, .inr (2, [.ref a_t_sheets_sort, .ref a_t_sheets_size, .ref a_t_sheets_items])), (a_t_sheets_sort, .inl (cI, 4, .inl v_t_sheets_sort)), (a_t_sheets_size, .inl (cI, 4, .inl v_t_sheets_size))]) rfl (fun H locs hP hD hS => ?_)
                refine lv_iconst (v := (1 : Int32)) hx hb dX6_shelf_121 (by decide) ?_
                obtain ⟨rfl, rfl, rfl, rfl⟩ := pj4 hF
                exact hEnd _ _ _ _ _ dX6_shelf_122 hP hS rfl
              · replace hF := if_t c_32 hF
                refine lv_aload_n hx hb dX6_shelf_72 rfl (lv_at hl 0 rfl) ?_
                refine xget (ci := 6) (C := RX6) (T := TX6) (N := 13) hfix xiX6 hK.1 hP 0 rfl rfl 5 (by decide) rfl xw_166 rfl dX6_shelf_73 ?_
                refine xget (ci := 2) (C := RX2) (T := TX2) (N := 3) hfix xiX2 hK.1 hP 6 rfl rfl 0 (by decide) rfl xw_102 rfl dX6_shelf_76 ?_
                refine lv_iload_n hx hb dX6_shelf_79 rfl (lv_at hl 3 rfl) ?_
                obtain ⟨c_37, hF⟩ := gd_e hF
                refine va_iald hx hb hK.1 hP 7 0 rfl rfl c_37 dX6_shelf_80 ?_
                refine lv_if_lt (tgt := 113) hx hb dX6_shelf_81 (by decide) (fun c_38 => ?_) (fun c_38 => ?_)
                · replace hF := if_t c_38 hF
                  refine lv_aload_n hx hb dX6_shelf_113 rfl (lv_at hl 0 rfl) ?_
                  refine xget (ci := 6) (C := RX6) (T := TX6) (N := 13) hfix xiX6 hK.1 hP 0 rfl rfl 6 (by decide) rfl xw_167 rfl dX6_shelf_114 ?_
                  refine lv_iload_n hx hb dX6_shelf_117 rfl (lv_at hl 1 rfl) ?_
                  obtain ⟨o_39, o_40, o_41, hq_42, hF⟩ := bd3_e hF
                  refine xrv (xrunV (As := [.int i1]) (rest := []) (c_X3_clear l D cI cB cJ a_t_shelves a_t_shelves_rule a_t_shelves_sort a_t_shelves_size _ v_t_shelves_rule v_t_shelves_sort v_t_shelves_size i1 o_39 o_40 o_41 hq_42) hfix xw_626 yv_X3_clear ⟨rfl, rfl⟩ ⟨(Nat.le_of_ble_eq_true rfl), (Nat.le_of_ble_eq_true rfl)⟩ xKk_K (fun U hU hW => xK.warm hW hK) hK.1 hP hD [2, 3, 4, 5] rfl rfl 2 3 rfl rfl rfl rfl hl.1 rfl (Nat.le_of_ble_eq_true rfl) dX6_shelf_118 ⟨Nat.zero_le _, Nat.zero_le _⟩) hP hD hS hA [2, 3, 4, 5] rfl rfl rfl (wn := [(a_t, .inr (6, [.ref a_t_book, .ref a_t_kept, .ref a_t_told, .ref a_t_tape, .ref a_t_rows, .ref a_t_sheets, .ref a_t_shelves, .ref a_t_thing, .ref a_t_shares, .ref a_t_ahead, .int s_t_isKept, .int s_t_z, .int s_t_keptZ])), (a_t_book, .inr (0, [.ref a_t_book_village, .ref a_t_book_mark, .ref a_t_book_held, .int s_t_book_heldCount, .int s_t_book_villages])), (a_t_shelves, .inr (3, [.ref a_t_shelves_rule, .ref a_t_shelves_sort, .ref a_t_shelves_size])), (a_t_shelves_rule, .inl (cI, 4, .inl o_39)), (a_t_shelves_sort, .inl (cI, 4, .inl o_40)), (a_t_shelves_size, .inl (cI, 4, .inl o_41)), (a_t_sheets, .inr (2, [.ref a_t_sheets_sort, .ref a_t_sheets_size, .ref a_t_sheets_items])), (a_t_sheets_sort, .inl (cI, 4, .inl v_t_sheets_sort)), (a_t_sheets_size, .inl (cI, 4, .inl v_t_sheets_size))]) rfl (fun H locs hP hD hS => ?_)
                  refine lv_iconst (v := (1 : Int32)) hx hb dX6_shelf_121 (by decide) ?_
                  obtain ⟨rfl, rfl, rfl, rfl⟩ := pj4 hF
                  exact hEnd _ _ _ _ _ dX6_shelf_122 hP hS rfl
                · replace hF := if_f c_38 hF
                  refine lv_aload_n hx hb dX6_shelf_84 rfl (lv_at hl 0 rfl) ?_
                  refine xget (ci := 6) (C := RX6) (T := TX6) (N := 13) hfix xiX6 hK.1 hP 0 rfl rfl 6 (by decide) rfl xw_167 rfl dX6_shelf_85 ?_
                  refine lv_iload_n hx hb dX6_shelf_88 rfl (lv_at hl 1 rfl) ?_
                  refine lv_aload_n hx hb dX6_shelf_89 rfl (lv_at hl 0 rfl) ?_
                  refine xget (ci := 6) (C := RX6) (T := TX6) (N := 13) hfix xiX6 hK.1 hP 0 rfl rfl 5 (by decide) rfl xw_166 rfl dX6_shelf_90 ?_
                  refine xget (ci := 2) (C := RX2) (T := TX2) (N := 3) hfix xiX2 hK.1 hP 6 rfl rfl 0 (by decide) rfl xw_102 rfl dX6_shelf_93 ?_
                  refine lv_iload_n hx hb dX6_shelf_96 rfl (lv_at hl 3 rfl) ?_
                  obtain ⟨c_43, hF⟩ := gd_e hF
                  refine va_iald hx hb hK.1 hP 7 0 rfl rfl c_43 dX6_shelf_97 ?_
                  refine lv_aload_n hx hb dX6_shelf_98 rfl (lv_at hl 0 rfl) ?_
                  refine xget (ci := 6) (C := RX6) (T := TX6) (N := 13) hfix xiX6 hK.1 hP 0 rfl rfl 5 (by decide) rfl xw_166 rfl dX6_shelf_99 ?_
                  refine xget (ci := 2) (C := RX2) (T := TX2) (N := 3) hfix xiX2 hK.1 hP 6 rfl rfl 1 (by decide) rfl xw_104 rfl dX6_shelf_102 ?_
                  refine lv_iload_n hx hb dX6_shelf_105 rfl (lv_at hl 3 rfl) ?_
                  obtain ⟨c_44, hF⟩ := gd_e hF
                  refine va_iald hx hb hK.1 hP 8 0 rfl rfl c_44 dX6_shelf_106 ?_
                  obtain ⟨o_45, o_46, o_47, hq_48, hF⟩ := bd3_e hF
                  refine xrv (xrunV (As := [.int i1, .int (v_t_sheets_sort i3.toNatClampNeg), .int (v_t_sheets_size i3.toNatClampNeg)]) (rest := []) (c_X3_holdRow l D cI cB cJ a_t_shelves a_t_shelves_rule a_t_shelves_sort a_t_shelves_size _ v_t_shelves_rule v_t_shelves_sort v_t_shelves_size i1 (v_t_sheets_sort i3.toNatClampNeg) (v_t_sheets_size i3.toNatClampNeg) o_45 o_46 o_47 hq_48) hfix xw_622 yv_X3_holdRow ⟨rfl, rfl⟩ ⟨(Nat.le_of_ble_eq_true rfl), (Nat.le_of_ble_eq_true rfl)⟩ xKk_K (fun U hU hW => xK.warm hW hK) hK.1 hP hD [2, 3, 4, 5] rfl rfl 2 3 rfl rfl rfl rfl hl.1 rfl (Nat.le_of_ble_eq_true rfl) dX6_shelf_107 ⟨Nat.zero_le _, Nat.zero_le _⟩) hP hD hS hA [2, 3, 4, 5] rfl rfl rfl (wn := [(a_t, .inr (6, [.ref a_t_book, .ref a_t_kept, .ref a_t_told, .ref a_t_tape, .ref a_t_rows, .ref a_t_sheets, .ref a_t_shelves, .ref a_t_thing, .ref a_t_shares, .ref a_t_ahead, .int s_t_isKept, .int s_t_z, .int s_t_keptZ])), (a_t_book, .inr (0, [.ref a_t_book_village, .ref a_t_book_mark, .ref a_t_book_held, .int s_t_book_heldCount, .int s_t_book_villages])), (a_t_shelves, .inr (3, [.ref a_t_shelves_rule, .ref a_t_shelves_sort, .ref a_t_shelves_size])), (a_t_shelves_rule, .inl (cI, 4, .inl o_45)), (a_t_shelves_sort, .inl (cI, 4, .inl o_46)), (a_t_shelves_size, .inl (cI, 4, .inl o_47)), (a_t_sheets, .inr (2, [.ref a_t_sheets_sort, .ref a_t_sheets_size, .ref a_t_sheets_items])), (a_t_sheets_sort, .inl (cI, 4, .inl v_t_sheets_sort)), (a_t_sheets_size, .inl (cI, 4, .inl v_t_sheets_size))]) rfl (fun H locs hP hD hS => ?_)
                  refine lv_goto (tgt := 121) hx hb dX6_shelf_110 (by decide) ?_
                  refine lv_iconst (v := (1 : Int32)) hx hb dX6_shelf_121 (by decide) ?_
                  obtain ⟨rfl, rfl, rfl, rfl⟩ := pj4 hF
                  exact hEnd _ _ _ _ _ dX6_shelf_122 hP hS rfl
            · replace hF := if_t c_31 hF
              refine lv_aload_n hx hb dX6_shelf_55 rfl (lv_at hl 0 rfl) ?_
              refine xget (ci := 6) (C := RX6) (T := TX6) (N := 13) hfix xiX6 hK.1 hP 0 rfl rfl 6 (by decide) rfl xw_167 rfl dX6_shelf_56 ?_
              refine lv_iload_n hx hb dX6_shelf_59 rfl (lv_at hl 1 rfl) ?_
              refine lv_iload_n hx hb dX6_shelf_60 rfl (lv_at hl 3 rfl) ?_
              obtain ⟨o_49, o_50, o_51, hq_52, hF⟩ := bd3_e hF
              refine xrv (xrunV (As := [.int i1, .int i3]) (rest := []) (c_X3_holdRule l D cI cB cJ a_t_shelves a_t_shelves_rule a_t_shelves_sort a_t_shelves_size _ v_t_shelves_rule v_t_shelves_sort v_t_shelves_size i1 i3 o_49 o_50 o_51 hq_52) hfix xw_614 yv_X3_holdRule ⟨rfl, rfl⟩ ⟨(Nat.le_of_ble_eq_true rfl), (Nat.le_of_ble_eq_true rfl)⟩ xKk_K (fun U hU hW => xK.warm hW hK) hK.1 hP hD [2, 3, 4, 5] rfl rfl 2 3 rfl rfl rfl rfl hl.1 rfl (Nat.le_of_ble_eq_true rfl) dX6_shelf_61 ⟨Nat.zero_le _, Nat.zero_le _⟩) hP hD hS hA [2, 3, 4, 5] rfl rfl rfl (wn := [(a_t, .inr (6, [.ref a_t_book, .ref a_t_kept, .ref a_t_told, .ref a_t_tape, .ref a_t_rows, .ref a_t_sheets, .ref a_t_shelves, .ref a_t_thing, .ref a_t_shares, .ref a_t_ahead, .int s_t_isKept, .int s_t_z, .int s_t_keptZ])), (a_t_book, .inr (0, [.ref a_t_book_village, .ref a_t_book_mark, .ref a_t_book_held, .int s_t_book_heldCount, .int s_t_book_villages])), (a_t_shelves, .inr (3, [.ref a_t_shelves_rule, .ref a_t_shelves_sort, .ref a_t_shelves_size])), (a_t_shelves_rule, .inl (cI, 4, .inl o_49)), (a_t_shelves_sort, .inl (cI, 4, .inl o_50)), (a_t_shelves_size, .inl (cI, 4, .inl o_51)), (a_t_sheets, .inr (2, [.ref a_t_sheets_sort, .ref a_t_sheets_size, .ref a_t_sheets_items])), (a_t_sheets_sort, .inl (cI, 4, .inl v_t_sheets_sort)), (a_t_sheets_size, .inl (cI, 4, .inl v_t_sheets_size))]) rfl (fun H locs hP hD hS => ?_)
              refine lv_goto (tgt := 121) hx hb dX6_shelf_64 (by decide) ?_
              refine lv_iconst (v := (1 : Int32)) hx hb dX6_shelf_121 (by decide) ?_
              obtain ⟨rfl, rfl, rfl, rfl⟩ := pj4 hF
              exact hEnd _ _ _ _ _ dX6_shelf_122 hP hS rfl
          · replace hF := if_f c_30 hF
            refine lv_iconst (v := (-1 : Int32)) hx hb dX6_shelf_49 (by decide) ?_
            obtain ⟨rfl, rfl, rfl, rfl⟩ := pj4 hF
            exact hEnd _ _ _ _ _ dX6_shelf_50 hP hS rfl
      · replace hF := if_t c_5 hF
        refine lv_aload_n hx hb dX6_shelf_24 rfl (lv_at hl 0 rfl) ?_
        refine xget (ci := 6) (C := RX6) (T := TX6) (N := 13) hfix xiX6 hK.1 hP 0 rfl rfl 0 (by decide) rfl xw_161 rfl dX6_shelf_25 ?_
        refine lv_iload_n hx hb dX6_shelf_28 rfl (lv_at hl 3 rfl) ?_
        refine xrz0 (xrunV (As := [.int i3]) (rest := []) (c_X0_holds l D cI cB cJ a_t_book a_t_book_village a_t_book_mark a_t_book_held _ s_t_book_heldCount s_t_book_villages i3 (f_X0_holds i3 s_t_book_heldCount) rfl) hfix xw_377 yv_X0_holds ⟨rfl, rfl⟩ ⟨(Nat.le_of_ble_eq_true rfl), (Nat.le_of_ble_eq_true rfl)⟩ xKk_K (fun U hU hW => xK.warm hW hK) hK.1 hP hD [1] rfl rfl 1 0 rfl rfl rfl rfl hl.1 rfl (Nat.le_of_ble_eq_true rfl) dX6_shelf_29 ⟨Nat.zero_le _, Nat.zero_le _⟩) hP hD hS hA [1] rfl rfl (fun H locs hP hD hS hz_53 => ?_)
        refine lv_if_eq (tgt := 49) hx hb dX6_shelf_32 (by decide) (fun c_54 => ?_) (fun c_54 => ?_)
        · replace hF := if_t c_54 hF
          refine lv_iconst (v := (-1 : Int32)) hx hb dX6_shelf_49 (by decide) ?_
          obtain ⟨rfl, rfl, rfl, rfl⟩ := pj4 hF
          exact hEnd _ _ _ _ _ dX6_shelf_50 hP hS rfl
        · replace hF := if_f c_54 hF
          refine lv_iload_n hx hb dX6_shelf_35 rfl (lv_at hl 2 rfl) ?_
          refine lv_iconst (v := (1 : Int32)) hx hb dX6_shelf_36 (by decide) ?_
          refine lv_icmp_ne (tgt := 51) hx hb dX6_shelf_37 (by decide) (fun c_55 => ?_) (fun c_55 => ?_)
          · replace hF := if_f c_55 hF
            refine lv_iload_n hx hb dX6_shelf_51 rfl (lv_at hl 2 rfl) ?_
            refine lv_if_ne (tgt := 67) hx hb dX6_shelf_52 (by decide) (fun c_56 => ?_) (fun c_56 => ?_)
            · replace hF := if_f c_56 hF
              refine lv_iload_n hx hb dX6_shelf_67 rfl (lv_at hl 2 rfl) ?_
              refine lv_iconst (v := (1 : Int32)) hx hb dX6_shelf_68 (by decide) ?_
              refine lv_icmp_ne (tgt := 113) hx hb dX6_shelf_69 (by decide) (fun c_57 => ?_) (fun c_57 => ?_)
              · replace hF := if_f c_57 hF
                refine lv_aload_n hx hb dX6_shelf_113 rfl (lv_at hl 0 rfl) ?_
                refine xget (ci := 6) (C := RX6) (T := TX6) (N := 13) hfix xiX6 hK.1 hP 0 rfl rfl 6 (by decide) rfl xw_167 rfl dX6_shelf_114 ?_
                refine lv_iload_n hx hb dX6_shelf_117 rfl (lv_at hl 1 rfl) ?_
                obtain ⟨o_58, o_59, o_60, hq_61, hF⟩ := bd3_e hF
                refine xrv (xrunV (As := [.int i1]) (rest := []) (c_X3_clear l D cI cB cJ a_t_shelves a_t_shelves_rule a_t_shelves_sort a_t_shelves_size _ v_t_shelves_rule v_t_shelves_sort v_t_shelves_size i1 o_58 o_59 o_60 hq_61) hfix xw_626 yv_X3_clear ⟨rfl, rfl⟩ ⟨(Nat.le_of_ble_eq_true rfl), (Nat.le_of_ble_eq_true rfl)⟩ xKk_K (fun U hU hW => xK.warm hW hK) hK.1 hP hD [2, 3, 4, 5] rfl rfl 2 3 rfl rfl rfl rfl hl.1 rfl (Nat.le_of_ble_eq_true rfl) dX6_shelf_118 ⟨Nat.zero_le _, Nat.zero_le _⟩) hP hD hS hA [2, 3, 4, 5] rfl rfl rfl (wn := [(a_t, .inr (6, [.ref a_t_book, .ref a_t_kept, .ref a_t_told, .ref a_t_tape, .ref a_t_rows, .ref a_t_sheets, .ref a_t_shelves, .ref a_t_thing, .ref a_t_shares, .ref a_t_ahead, .int s_t_isKept, .int s_t_z, .int s_t_keptZ])), (a_t_book, .inr (0, [.ref a_t_book_village, .ref a_t_book_mark, .ref a_t_book_held, .int s_t_book_heldCount, .int s_t_book_villages])), (a_t_shelves, .inr (3, [.ref a_t_shelves_rule, .ref a_t_shelves_sort, .ref a_t_shelves_size])), (a_t_shelves_rule, .inl (cI, 4, .inl o_58)), (a_t_shelves_sort, .inl (cI, 4, .inl o_59)), (a_t_shelves_size, .inl (cI, 4, .inl o_60)), (a_t_sheets, .inr (2, [.ref a_t_sheets_sort, .ref a_t_sheets_size, .ref a_t_sheets_items])), (a_t_sheets_sort, .inl (cI, 4, .inl v_t_sheets_sort)), (a_t_sheets_size, .inl (cI, 4, .inl v_t_sheets_size))]) rfl (fun H locs hP hD hS => ?_)
                refine lv_iconst (v := (1 : Int32)) hx hb dX6_shelf_121 (by decide) ?_
                obtain ⟨rfl, rfl, rfl, rfl⟩ := pj4 hF
                exact hEnd _ _ _ _ _ dX6_shelf_122 hP hS rfl
              · replace hF := if_t c_57 hF
                refine lv_aload_n hx hb dX6_shelf_72 rfl (lv_at hl 0 rfl) ?_
                refine xget (ci := 6) (C := RX6) (T := TX6) (N := 13) hfix xiX6 hK.1 hP 0 rfl rfl 5 (by decide) rfl xw_166 rfl dX6_shelf_73 ?_
                refine xget (ci := 2) (C := RX2) (T := TX2) (N := 3) hfix xiX2 hK.1 hP 6 rfl rfl 0 (by decide) rfl xw_102 rfl dX6_shelf_76 ?_
                refine lv_iload_n hx hb dX6_shelf_79 rfl (lv_at hl 3 rfl) ?_
                obtain ⟨c_62, hF⟩ := gd_e hF
                refine va_iald hx hb hK.1 hP 7 0 rfl rfl c_62 dX6_shelf_80 ?_
                refine lv_if_lt (tgt := 113) hx hb dX6_shelf_81 (by decide) (fun c_63 => ?_) (fun c_63 => ?_)
                · replace hF := if_t c_63 hF
                  refine lv_aload_n hx hb dX6_shelf_113 rfl (lv_at hl 0 rfl) ?_
                  refine xget (ci := 6) (C := RX6) (T := TX6) (N := 13) hfix xiX6 hK.1 hP 0 rfl rfl 6 (by decide) rfl xw_167 rfl dX6_shelf_114 ?_
                  refine lv_iload_n hx hb dX6_shelf_117 rfl (lv_at hl 1 rfl) ?_
                  obtain ⟨o_64, o_65, o_66, hq_67, hF⟩ := bd3_e hF
                  refine xrv (xrunV (As := [.int i1]) (rest := []) (c_X3_clear l D cI cB cJ a_t_shelves a_t_shelves_rule a_t_shelves_sort a_t_shelves_size _ v_t_shelves_rule v_t_shelves_sort v_t_shelves_size i1 o_64 o_65 o_66 hq_67) hfix xw_626 yv_X3_clear ⟨rfl, rfl⟩ ⟨(Nat.le_of_ble_eq_true rfl), (Nat.le_of_ble_eq_true rfl)⟩ xKk_K (fun U hU hW => xK.warm hW hK) hK.1 hP hD [2, 3, 4, 5] rfl rfl 2 3 rfl rfl rfl rfl hl.1 rfl (Nat.le_of_ble_eq_true rfl) dX6_shelf_118 ⟨Nat.zero_le _, Nat.zero_le _⟩) hP hD hS hA [2, 3, 4, 5] rfl rfl rfl (wn := [(a_t, .inr (6, [.ref a_t_book, .ref a_t_kept, .ref a_t_told, .ref a_t_tape, .ref a_t_rows, .ref a_t_sheets, .ref a_t_shelves, .ref a_t_thing, .ref a_t_shares, .ref a_t_ahead, .int s_t_isKept, .int s_t_z, .int s_t_keptZ])), (a_t_book, .inr (0, [.ref a_t_book_village, .ref a_t_book_mark, .ref a_t_book_held, .int s_t_book_heldCount, .int s_t_book_villages])), (a_t_shelves, .inr (3, [.ref a_t_shelves_rule, .ref a_t_shelves_sort, .ref a_t_shelves_size])), (a_t_shelves_rule, .inl (cI, 4, .inl o_64)), (a_t_shelves_sort, .inl (cI, 4, .inl o_65)), (a_t_shelves_size, .inl (cI, 4, .inl o_66)), (a_t_sheets, .inr (2, [.ref a_t_sheets_sort, .ref a_t_sheets_size, .ref a_t_sheets_items])), (a_t_sheets_sort, .inl (cI, 4, .inl v_t_sheets_sort)), (a_t_sheets_size, .inl (cI, 4, .inl v_t_sheets_size))]) rfl (fun H locs hP hD hS => ?_)
                  refine lv_iconst (v := (1 : Int32)) hx hb dX6_shelf_121 (by decide) ?_
                  obtain ⟨rfl, rfl, rfl, rfl⟩ := pj4 hF
                  exact hEnd _ _ _ _ _ dX6_shelf_122 hP hS rfl
                · replace hF := if_f c_63 hF
                  refine lv_aload_n hx hb dX6_shelf_84 rfl (lv_at hl 0 rfl) ?_
                  refine xget (ci := 6) (C := RX6) (T := TX6) (N := 13) hfix xiX6 hK.1 hP 0 rfl rfl 6 (by decide) rfl xw_167 rfl dX6_shelf_85 ?_
                  refine lv_iload_n hx hb dX6_shelf_88 rfl (lv_at hl 1 rfl) ?_
                  refine lv_aload_n hx hb dX6_shelf_89 rfl (lv_at hl 0 rfl) ?_
                  refine xget (ci := 6) (C := RX6) (T := TX6) (N := 13) hfix xiX6 hK.1 hP 0 rfl rfl 5 (by decide) rfl xw_166 rfl dX6_shelf_90 ?_
                  refine xget (ci := 2) (C := RX2) (T := TX2) (N := 3) hfix xiX2 hK.1 hP 6 rfl rfl 0 (by decide) rfl xw_102 rfl dX6_shelf_93 ?_
                  refine lv_iload_n hx hb dX6_shelf_96 rfl (lv_at hl 3 rfl) ?_
                  obtain ⟨c_68, hF⟩ := gd_e hF
                  refine va_iald hx hb hK.1 hP 7 0 rfl rfl c_68 dX6_shelf_97 ?_
                  refine lv_aload_n hx hb dX6_shelf_98 rfl (lv_at hl 0 rfl) ?_
                  refine xget (ci := 6) (C := RX6) (T := TX6) (N := 13) hfix xiX6 hK.1 hP 0 rfl rfl 5 (by decide) rfl xw_166 rfl dX6_shelf_99 ?_
                  refine xget (ci := 2) (C := RX2) (T := TX2) (N := 3) hfix xiX2 hK.1 hP 6 rfl rfl 1 (by decide) rfl xw_104 rfl dX6_shelf_102 ?_
                  refine lv_iload_n hx hb dX6_shelf_105 rfl (lv_at hl 3 rfl) ?_
                  obtain ⟨c_69, hF⟩ := gd_e hF
                  refine va_iald hx hb hK.1 hP 8 0 rfl rfl c_69 dX6_shelf_106 ?_
                  obtain ⟨o_70, o_71, o_72, hq_73, hF⟩ := bd3_e hF
                  refine xrv (xrunV (As := [.int i1, .int (v_t_sheets_sort i3.toNatClampNeg), .int (v_t_sheets_size i3.toNatClampNeg)]) (rest := []) (c_X3_holdRow l D cI cB cJ a_t_shelves a_t_shelves_rule a_t_shelves_sort a_t_shelves_size _ v_t_shelves_rule v_t_shelves_sort v_t_shelves_size i1 (v_t_sheets_sort i3.toNatClampNeg) (v_t_sheets_size i3.toNatClampNeg) o_70 o_71 o_72 hq_73) hfix xw_622 yv_X3_holdRow ⟨rfl, rfl⟩ ⟨(Nat.le_of_ble_eq_true rfl), (Nat.le_of_ble_eq_true rfl)⟩ xKk_K (fun U hU hW => xK.warm hW hK) hK.1 hP hD [2, 3, 4, 5] rfl rfl 2 3 rfl rfl rfl rfl hl.1 rfl (Nat.le_of_ble_eq_true rfl) dX6_shelf_107 ⟨Nat.zero_le _, Nat.zero_le _⟩) hP hD hS hA [2, 3, 4, 5] rfl rfl rfl (wn := [(a_t, .inr (6, [.ref a_t_book, .ref a_t_kept, .ref a_t_told, .ref a_t_tape, .ref a_t_rows, .ref a_t_sheets, .ref a_t_shelves, .ref a_t_thing, .ref a_t_shares, .ref a_t_ahead, .int s_t_isKept, .int s_t_z, .int s_t_keptZ])), (a_t_book, .inr (0, [.ref a_t_book_village, .ref a_t_book_mark, .ref a_t_book_held, .int s_t_book_heldCount, .int s_t_book_villages])), (a_t_shelves, .inr (3, [.ref a_t_shelves_rule, .ref a_t_shelves_sort, .ref a_t_shelves_size])), (a_t_shelves_rule, .inl (cI, 4, .inl o_70)), (a_t_shelves_sort, .inl (cI, 4, .inl o_71)), (a_t_shelves_size, .inl (cI, 4, .inl o_72)), (a_t_sheets, .inr (2, [.ref a_t_sheets_sort, .ref a_t_sheets_size, .ref a_t_sheets_items])), (a_t_sheets_sort, .inl (cI, 4, .inl v_t_sheets_sort)), (a_t_sheets_size, .inl (cI, 4, .inl v_t_sheets_size))]) rfl (fun H locs hP hD hS => ?_)
                  refine lv_goto (tgt := 121) hx hb dX6_shelf_110 (by decide) ?_
                  refine lv_iconst (v := (1 : Int32)) hx hb dX6_shelf_121 (by decide) ?_
                  obtain ⟨rfl, rfl, rfl, rfl⟩ := pj4 hF
                  exact hEnd _ _ _ _ _ dX6_shelf_122 hP hS rfl
            · replace hF := if_t c_56 hF
              refine lv_aload_n hx hb dX6_shelf_55 rfl (lv_at hl 0 rfl) ?_
              refine xget (ci := 6) (C := RX6) (T := TX6) (N := 13) hfix xiX6 hK.1 hP 0 rfl rfl 6 (by decide) rfl xw_167 rfl dX6_shelf_56 ?_
              refine lv_iload_n hx hb dX6_shelf_59 rfl (lv_at hl 1 rfl) ?_
              refine lv_iload_n hx hb dX6_shelf_60 rfl (lv_at hl 3 rfl) ?_
              obtain ⟨o_74, o_75, o_76, hq_77, hF⟩ := bd3_e hF
              refine xrv (xrunV (As := [.int i1, .int i3]) (rest := []) (c_X3_holdRule l D cI cB cJ a_t_shelves a_t_shelves_rule a_t_shelves_sort a_t_shelves_size _ v_t_shelves_rule v_t_shelves_sort v_t_shelves_size i1 i3 o_74 o_75 o_76 hq_77) hfix xw_614 yv_X3_holdRule ⟨rfl, rfl⟩ ⟨(Nat.le_of_ble_eq_true rfl), (Nat.le_of_ble_eq_true rfl)⟩ xKk_K (fun U hU hW => xK.warm hW hK) hK.1 hP hD [2, 3, 4, 5] rfl rfl 2 3 rfl rfl rfl rfl hl.1 rfl (Nat.le_of_ble_eq_true rfl) dX6_shelf_61 ⟨Nat.zero_le _, Nat.zero_le _⟩) hP hD hS hA [2, 3, 4, 5] rfl rfl rfl (wn := [(a_t, .inr (6, [.ref a_t_book, .ref a_t_kept, .ref a_t_told, .ref a_t_tape, .ref a_t_rows, .ref a_t_sheets, .ref a_t_shelves, .ref a_t_thing, .ref a_t_shares, .ref a_t_ahead, .int s_t_isKept, .int s_t_z, .int s_t_keptZ])), (a_t_book, .inr (0, [.ref a_t_book_village, .ref a_t_book_mark, .ref a_t_book_held, .int s_t_book_heldCount, .int s_t_book_villages])), (a_t_shelves, .inr (3, [.ref a_t_shelves_rule, .ref a_t_shelves_sort, .ref a_t_shelves_size])), (a_t_shelves_rule, .inl (cI, 4, .inl o_74)), (a_t_shelves_sort, .inl (cI, 4, .inl o_75)), (a_t_shelves_size, .inl (cI, 4, .inl o_76)), (a_t_sheets, .inr (2, [.ref a_t_sheets_sort, .ref a_t_sheets_size, .ref a_t_sheets_items])), (a_t_sheets_sort, .inl (cI, 4, .inl v_t_sheets_sort)), (a_t_sheets_size, .inl (cI, 4, .inl v_t_sheets_size))]) rfl (fun H locs hP hD hS => ?_)
              refine lv_goto (tgt := 121) hx hb dX6_shelf_64 (by decide) ?_
              refine lv_iconst (v := (1 : Int32)) hx hb dX6_shelf_121 (by decide) ?_
              obtain ⟨rfl, rfl, rfl, rfl⟩ := pj4 hF
              exact hEnd _ _ _ _ _ dX6_shelf_122 hP hS rfl
          · replace hF := if_t c_55 hF
            refine lv_iload_n hx hb dX6_shelf_40 rfl (lv_at hl 3 rfl) ?_
            refine lv_iconst (v := (0 : Int32)) hx hb dX6_shelf_41 (by decide) ?_
            refine lv_iconst (v := (3 : Int32)) hx hb dX6_shelf_42 (by decide) ?_
            refine xrz0 (xrunS (As := [.int i3, .int (0 : Int32), .int (3 : Int32)]) (rest := []) (c_X6_outside l D cI cB cJ _ i3 (0 : Int32) (3 : Int32) (f_X6_outside i3 (0 : Int32) (3 : Int32)) rfl) hfix xw_205 ys_X6_outside ⟨rfl, rfl⟩ ⟨(Nat.le_of_ble_eq_true rfl), (Nat.le_of_ble_eq_true rfl)⟩ xKk_K (fun U hU hW => xK.warm hW hK) hP hD [] rfl rfl rfl hl.1 rfl (Nat.le_of_ble_eq_true rfl) dX6_shelf_43 ⟨Nat.zero_le _, Nat.zero_le _⟩) hP hD hS hA [] rfl rfl (fun H locs hP hD hS hz_78 => ?_)
            refine lv_if_eq (tgt := 51) hx hb dX6_shelf_46 (by decide) (fun c_79 => ?_) (fun c_79 => ?_)
            · replace hF := if_t c_79 hF
              refine lv_iload_n hx hb dX6_shelf_51 rfl (lv_at hl 2 rfl) ?_
              refine lv_if_ne (tgt := 67) hx hb dX6_shelf_52 (by decide) (fun c_80 => ?_) (fun c_80 => ?_)
              · replace hF := if_f c_80 hF
                refine lv_iload_n hx hb dX6_shelf_67 rfl (lv_at hl 2 rfl) ?_
                refine lv_iconst (v := (1 : Int32)) hx hb dX6_shelf_68 (by decide) ?_
                refine lv_icmp_ne (tgt := 113) hx hb dX6_shelf_69 (by decide) (fun c_81 => ?_) (fun c_81 => ?_)
                · replace hF := if_f c_81 hF
                  refine lv_aload_n hx hb dX6_shelf_113 rfl (lv_at hl 0 rfl) ?_
                  refine xget (ci := 6) (C := RX6) (T := TX6) (N := 13) hfix xiX6 hK.1 hP 0 rfl rfl 6 (by decide) rfl xw_167 rfl dX6_shelf_114 ?_
                  refine lv_iload_n hx hb dX6_shelf_117 rfl (lv_at hl 1 rfl) ?_
                  obtain ⟨o_82, o_83, o_84, hq_85, hF⟩ := bd3_e hF
                  refine xrv (xrunV (As := [.int i1]) (rest := []) (c_X3_clear l D cI cB cJ a_t_shelves a_t_shelves_rule a_t_shelves_sort a_t_shelves_size _ v_t_shelves_rule v_t_shelves_sort v_t_shelves_size i1 o_82 o_83 o_84 hq_85) hfix xw_626 yv_X3_clear ⟨rfl, rfl⟩ ⟨(Nat.le_of_ble_eq_true rfl), (Nat.le_of_ble_eq_true rfl)⟩ xKk_K (fun U hU hW => xK.warm hW hK) hK.1 hP hD [2, 3, 4, 5] rfl rfl 2 3 rfl rfl rfl rfl hl.1 rfl (Nat.le_of_ble_eq_true rfl) dX6_shelf_118 ⟨Nat.zero_le _, Nat.zero_le _⟩) hP hD hS hA [2, 3, 4, 5] rfl rfl rfl (wn := [(a_t, .inr (6, [.ref a_t_book, .ref a_t_kept, .ref a_t_told, .ref a_t_tape, .ref a_t_rows, .ref a_t_sheets, .ref a_t_shelves, .ref a_t_thing, .ref a_t_shares, .ref a_t_ahead, .int s_t_isKept, .int s_t_z, .int s_t_keptZ])), (a_t_book, .inr (0, [.ref a_t_book_village, .ref a_t_book_mark, .ref a_t_book_held, .int s_t_book_heldCount, .int s_t_book_villages])), (a_t_shelves, .inr (3, [.ref a_t_shelves_rule, .ref a_t_shelves_sort, .ref a_t_shelves_size])), (a_t_shelves_rule, .inl (cI, 4, .inl o_82)), (a_t_shelves_sort, .inl (cI, 4, .inl o_83)), (a_t_shelves_size, .inl (cI, 4, .inl o_84)), (a_t_sheets, .inr (2, [.ref a_t_sheets_sort, .ref a_t_sheets_size, .ref a_t_sheets_items])), (a_t_sheets_sort, .inl (cI, 4, .inl v_t_sheets_sort)), (a_t_sheets_size, .inl (cI, 4, .inl v_t_sheets_size))]) rfl (fun H locs hP hD hS => ?_)
                  refine lv_iconst (v := (1 : Int32)) hx hb dX6_shelf_121 (by decide) ?_
                  obtain ⟨rfl, rfl, rfl, rfl⟩ := pj4 hF
                  exact hEnd _ _ _ _ _ dX6_shelf_122 hP hS rfl
                · replace hF := if_t c_81 hF
                  refine lv_aload_n hx hb dX6_shelf_72 rfl (lv_at hl 0 rfl) ?_
                  refine xget (ci := 6) (C := RX6) (T := TX6) (N := 13) hfix xiX6 hK.1 hP 0 rfl rfl 5 (by decide) rfl xw_166 rfl dX6_shelf_73 ?_
                  refine xget (ci := 2) (C := RX2) (T := TX2) (N := 3) hfix xiX2 hK.1 hP 6 rfl rfl 0 (by decide) rfl xw_102 rfl dX6_shelf_76 ?_
                  refine lv_iload_n hx hb dX6_shelf_79 rfl (lv_at hl 3 rfl) ?_
                  obtain ⟨c_86, hF⟩ := gd_e hF
                  refine va_iald hx hb hK.1 hP 7 0 rfl rfl c_86 dX6_shelf_80 ?_
                  refine lv_if_lt (tgt := 113) hx hb dX6_shelf_81 (by decide) (fun c_87 => ?_) (fun c_87 => ?_)
                  · replace hF := if_t c_87 hF
                    refine lv_aload_n hx hb dX6_shelf_113 rfl (lv_at hl 0 rfl) ?_
                    refine xget (ci := 6) (C := RX6) (T := TX6) (N := 13) hfix xiX6 hK.1 hP 0 rfl rfl 6 (by decide) rfl xw_167 rfl dX6_shelf_114 ?_
                    refine lv_iload_n hx hb dX6_shelf_117 rfl (lv_at hl 1 rfl) ?_
                    obtain ⟨o_88, o_89, o_90, hq_91, hF⟩ := bd3_e hF
                    refine xrv (xrunV (As := [.int i1]) (rest := []) (c_X3_clear l D cI cB cJ a_t_shelves a_t_shelves_rule a_t_shelves_sort a_t_shelves_size _ v_t_shelves_rule v_t_shelves_sort v_t_shelves_size i1 o_88 o_89 o_90 hq_91) hfix xw_626 yv_X3_clear ⟨rfl, rfl⟩ ⟨(Nat.le_of_ble_eq_true rfl), (Nat.le_of_ble_eq_true rfl)⟩ xKk_K (fun U hU hW => xK.warm hW hK) hK.1 hP hD [2, 3, 4, 5] rfl rfl 2 3 rfl rfl rfl rfl hl.1 rfl (Nat.le_of_ble_eq_true rfl) dX6_shelf_118 ⟨Nat.zero_le _, Nat.zero_le _⟩) hP hD hS hA [2, 3, 4, 5] rfl rfl rfl (wn := [(a_t, .inr (6, [.ref a_t_book, .ref a_t_kept, .ref a_t_told, .ref a_t_tape, .ref a_t_rows, .ref a_t_sheets, .ref a_t_shelves, .ref a_t_thing, .ref a_t_shares, .ref a_t_ahead, .int s_t_isKept, .int s_t_z, .int s_t_keptZ])), (a_t_book, .inr (0, [.ref a_t_book_village, .ref a_t_book_mark, .ref a_t_book_held, .int s_t_book_heldCount, .int s_t_book_villages])), (a_t_shelves, .inr (3, [.ref a_t_shelves_rule, .ref a_t_shelves_sort, .ref a_t_shelves_size])), (a_t_shelves_rule, .inl (cI, 4, .inl o_88)), (a_t_shelves_sort, .inl (cI, 4, .inl o_89)), (a_t_shelves_size, .inl (cI, 4, .inl o_90)), (a_t_sheets, .inr (2, [.ref a_t_sheets_sort, .ref a_t_sheets_size, .ref a_t_sheets_items])), (a_t_sheets_sort, .inl (cI, 4, .inl v_t_sheets_sort)), (a_t_sheets_size, .inl (cI, 4, .inl v_t_sheets_size))]) rfl (fun H locs hP hD hS => ?_)
                    refine lv_iconst (v := (1 : Int32)) hx hb dX6_shelf_121 (by decide) ?_
                    obtain ⟨rfl, rfl, rfl, rfl⟩ := pj4 hF
                    exact hEnd _ _ _ _ _ dX6_shelf_122 hP hS rfl
                  · replace hF := if_f c_87 hF
                    refine lv_aload_n hx hb dX6_shelf_84 rfl (lv_at hl 0 rfl) ?_
                    refine xget (ci := 6) (C := RX6) (T := TX6) (N := 13) hfix xiX6 hK.1 hP 0 rfl rfl 6 (by decide) rfl xw_167 rfl dX6_shelf_85 ?_
                    refine lv_iload_n hx hb dX6_shelf_88 rfl (lv_at hl 1 rfl) ?_
                    refine lv_aload_n hx hb dX6_shelf_89 rfl (lv_at hl 0 rfl) ?_
                    refine xget (ci := 6) (C := RX6) (T := TX6) (N := 13) hfix xiX6 hK.1 hP 0 rfl rfl 5 (by decide) rfl xw_166 rfl dX6_shelf_90 ?_
                    refine xget (ci := 2) (C := RX2) (T := TX2) (N := 3) hfix xiX2 hK.1 hP 6 rfl rfl 0 (by decide) rfl xw_102 rfl dX6_shelf_93 ?_
                    refine lv_iload_n hx hb dX6_shelf_96 rfl (lv_at hl 3 rfl) ?_
                    obtain ⟨c_92, hF⟩ := gd_e hF
                    refine va_iald hx hb hK.1 hP 7 0 rfl rfl c_92 dX6_shelf_97 ?_
                    refine lv_aload_n hx hb dX6_shelf_98 rfl (lv_at hl 0 rfl) ?_
                    refine xget (ci := 6) (C := RX6) (T := TX6) (N := 13) hfix xiX6 hK.1 hP 0 rfl rfl 5 (by decide) rfl xw_166 rfl dX6_shelf_99 ?_
                    refine xget (ci := 2) (C := RX2) (T := TX2) (N := 3) hfix xiX2 hK.1 hP 6 rfl rfl 1 (by decide) rfl xw_104 rfl dX6_shelf_102 ?_
                    refine lv_iload_n hx hb dX6_shelf_105 rfl (lv_at hl 3 rfl) ?_
                    obtain ⟨c_93, hF⟩ := gd_e hF
                    refine va_iald hx hb hK.1 hP 8 0 rfl rfl c_93 dX6_shelf_106 ?_
                    obtain ⟨o_94, o_95, o_96, hq_97, hF⟩ := bd3_e hF
                    refine xrv (xrunV (As := [.int i1, .int (v_t_sheets_sort i3.toNatClampNeg), .int (v_t_sheets_size i3.toNatClampNeg)]) (rest := []) (c_X3_holdRow l D cI cB cJ a_t_shelves a_t_shelves_rule a_t_shelves_sort a_t_shelves_size _ v_t_shelves_rule v_t_shelves_sort v_t_shelves_size i1 (v_t_sheets_sort i3.toNatClampNeg) (v_t_sheets_size i3.toNatClampNeg) o_94 o_95 o_96 hq_97) hfix xw_622 yv_X3_holdRow ⟨rfl, rfl⟩ ⟨(Nat.le_of_ble_eq_true rfl), (Nat.le_of_ble_eq_true rfl)⟩ xKk_K (fun U hU hW => xK.warm hW hK) hK.1 hP hD [2, 3, 4, 5] rfl rfl 2 3 rfl rfl rfl rfl hl.1 rfl (Nat.le_of_ble_eq_true rfl) dX6_shelf_107 ⟨Nat.zero_le _, Nat.zero_le _⟩) hP hD hS hA [2, 3, 4, 5] rfl rfl rfl (wn := [(a_t, .inr (6, [.ref a_t_book, .ref a_t_kept, .ref a_t_told, .ref a_t_tape, .ref a_t_rows, .ref a_t_sheets, .ref a_t_shelves, .ref a_t_thing, .ref a_t_shares, .ref a_t_ahead, .int s_t_isKept, .int s_t_z, .int s_t_keptZ])), (a_t_book, .inr (0, [.ref a_t_book_village, .ref a_t_book_mark, .ref a_t_book_held, .int s_t_book_heldCount, .int s_t_book_villages])), (a_t_shelves, .inr (3, [.ref a_t_shelves_rule, .ref a_t_shelves_sort, .ref a_t_shelves_size])), (a_t_shelves_rule, .inl (cI, 4, .inl o_94)), (a_t_shelves_sort, .inl (cI, 4, .inl o_95)), (a_t_shelves_size, .inl (cI, 4, .inl o_96)), (a_t_sheets, .inr (2, [.ref a_t_sheets_sort, .ref a_t_sheets_size, .ref a_t_sheets_items])), (a_t_sheets_sort, .inl (cI, 4, .inl v_t_sheets_sort)), (a_t_sheets_size, .inl (cI, 4, .inl v_t_sheets_size))]) rfl (fun H locs hP hD hS => ?_)
                    refine lv_goto (tgt := 121) hx hb dX6_shelf_110 (by decide) ?_
                    refine lv_iconst (v := (1 : Int32)) hx hb dX6_shelf_121 (by decide) ?_
                    obtain ⟨rfl, rfl, rfl, rfl⟩ := pj4 hF
                    exact hEnd _ _ _ _ _ dX6_shelf_122 hP hS rfl
              · replace hF := if_t c_80 hF
                refine lv_aload_n hx hb dX6_shelf_55 rfl (lv_at hl 0 rfl) ?_
                refine xget (ci := 6) (C := RX6) (T := TX6) (N := 13) hfix xiX6 hK.1 hP 0 rfl rfl 6 (by decide) rfl xw_167 rfl dX6_shelf_56 ?_
                refine lv_iload_n hx hb dX6_shelf_59 rfl (lv_at hl 1 rfl) ?_
                refine lv_iload_n hx hb dX6_shelf_60 rfl (lv_at hl 3 rfl) ?_
                obtain ⟨o_98, o_99, o_100, hq_101, hF⟩ := bd3_e hF
                refine xrv (xrunV (As := [.int i1, .int i3]) (rest := []) (c_X3_holdRule l D cI cB cJ a_t_shelves a_t_shelves_rule a_t_shelves_sort a_t_shelves_size _ v_t_shelves_rule v_t_shelves_sort v_t_shelves_size i1 i3 o_98 o_99 o_100 hq_101) hfix xw_614 yv_X3_holdRule ⟨rfl, rfl⟩ ⟨(Nat.le_of_ble_eq_true rfl), (Nat.le_of_ble_eq_true rfl)⟩ xKk_K (fun U hU hW => xK.warm hW hK) hK.1 hP hD [2, 3, 4, 5] rfl rfl 2 3 rfl rfl rfl rfl hl.1 rfl (Nat.le_of_ble_eq_true rfl) dX6_shelf_61 ⟨Nat.zero_le _, Nat.zero_le _⟩) hP hD hS hA [2, 3, 4, 5] rfl rfl rfl (wn := [(a_t, .inr (6, [.ref a_t_book, .ref a_t_kept, .ref a_t_told, .ref a_t_tape, .ref a_t_rows, .ref a_t_sheets, .ref a_t_shelves, .ref a_t_thing, .ref a_t_shares, .ref a_t_ahead, .int s_t_isKept, .int s_t_z, .int s_t_keptZ])), (a_t_book, .inr (0, [.ref a_t_book_village, .ref a_t_book_mark, .ref a_t_book_held, .int s_t_book_heldCount, .int s_t_book_villages])), (a_t_shelves, .inr (3, [.ref a_t_shelves_rule, .ref a_t_shelves_sort, .ref a_t_shelves_size])), (a_t_shelves_rule, .inl (cI, 4, .inl o_98)), (a_t_shelves_sort, .inl (cI, 4, .inl o_99)), (a_t_shelves_size, .inl (cI, 4, .inl o_100)), (a_t_sheets, .inr (2, [.ref a_t_sheets_sort, .ref a_t_sheets_size, .ref a_t_sheets_items])), (a_t_sheets_sort, .inl (cI, 4, .inl v_t_sheets_sort)), (a_t_sheets_size, .inl (cI, 4, .inl v_t_sheets_size))]) rfl (fun H locs hP hD hS => ?_)
                refine lv_goto (tgt := 121) hx hb dX6_shelf_64 (by decide) ?_
                refine lv_iconst (v := (1 : Int32)) hx hb dX6_shelf_121 (by decide) ?_
                obtain ⟨rfl, rfl, rfl, rfl⟩ := pj4 hF
                exact hEnd _ _ _ _ _ dX6_shelf_122 hP hS rfl
            · replace hF := if_f c_79 hF
              refine lv_iconst (v := (-1 : Int32)) hx hb dX6_shelf_49 (by decide) ?_
              obtain ⟨rfl, rfl, rfl, rfl⟩ := pj4 hF
              exact hEnd _ _ _ _ _ dX6_shelf_50 hP hS rfl
    · replace hF := if_f c_4 hF
      refine lv_iconst (v := (-1 : Int32)) hx hb dX6_shelf_18 (by decide) ?_
      obtain ⟨rfl, rfl, rfl, rfl⟩ := pj4 hF
      exact hEnd _ _ _ _ _ dX6_shelf_19 hP hS rfl
def f_X6_trace (i1 : Int32) (s_t_thing_ranCount : Int32) (v_t_thing_ran : (Nat → Int32)) : Option (Int32) := (if (f_X6_outside i1 (0 : Int32) (s_t_thing_ranCount - (1 : Int32))) = (0 : Int32) then gd i1 30 (some ((v_t_thing_ran i1.toNatClampNeg))) else some ((-3 : Int32)))
abbrev rmX6_trace : Room := { frames := 1, cells := 0, slots := 0, locals := 22 }
set_option maxHeartbeats 400000 in
set_option maxRecDepth 100000 in
theorem c_X6_trace (l : Launch) (D : va_G) (cI cB cJ : ClassId) (a_t : Nat) (a_t_book : Nat) (a_t_kept : Nat) (a_t_told : Nat) (a_t_tape : Nat) (a_t_rows : Nat) (a_t_sheets : Nat) (a_t_shelves : Nat) (a_t_thing : Nat) (a_t_shares : Nat) (a_t_ahead : Nat) (a_t_thing_ran : Nat) (sz : Nat) (s_t_isKept : Int32) (s_t_z : Int32) (s_t_keptZ : Int32) (s_t_thing_ranCount : Int32) (s_t_thing_kind : Int32) (s_t_thing_number : Int32) (s_t_thing_a : Int32) (s_t_thing_parted : Int32) (v_t_thing_ran : (Nat → Int32)) (i1 : Int32) (r : Int32) (hF : f_X6_trace i1 s_t_thing_ranCount v_t_thing_ran = some r) : xMi l yX6_trace (.code yX6_trace cX6_trace 2 (some .int) :: xU) rmX6_trace (xK D cI cB cJ) D sz [.ref a_t, .int i1] [(a_t, .inr (6, [.ref a_t_book, .ref a_t_kept, .ref a_t_told, .ref a_t_tape, .ref a_t_rows, .ref a_t_sheets, .ref a_t_shelves, .ref a_t_thing, .ref a_t_shares, .ref a_t_ahead, .int s_t_isKept, .int s_t_z, .int s_t_keptZ])), (a_t_thing, .inr (5, [.ref a_t_thing_ran, .int s_t_thing_ranCount, .int s_t_thing_kind, .int s_t_thing_number, .int s_t_thing_a, .int s_t_thing_parted])), (a_t_thing_ran, .inl (cI, 30, .inl v_t_thing_ran))] [(a_t, .inr (6, [.ref a_t_book, .ref a_t_kept, .ref a_t_told, .ref a_t_tape, .ref a_t_rows, .ref a_t_sheets, .ref a_t_shelves, .ref a_t_thing, .ref a_t_shares, .ref a_t_ahead, .int s_t_isKept, .int s_t_z, .int s_t_keptZ])), (a_t_thing, .inr (5, [.ref a_t_thing_ran, .int s_t_thing_ranCount, .int s_t_thing_kind, .int s_t_thing_number, .int s_t_thing_a, .int s_t_thing_parted])), (a_t_thing_ran, .inl (cI, 30, .inl v_t_thing_ran))] r := by
  refine xMi.mk (own := "FairNext") (by decide +kernel) rfl (Nat.le_of_ble_eq_true rfl) ?_
  intro p e s m args below meth c A Q ls H hfix hK hP hD hA hS hl hEnd
  obtain ⟨hx, hb, hml, hown, hts⟩ := id hfix
  have hl : lv_has ls 2 [(0, .ref a_t), (1, .int i1)] := hl
  rw [f_X6_trace] at hF
  refine lv_iload_n hx hb dX6_trace_0 rfl (lv_at hl 1 rfl) ?_
  refine lv_iconst (v := (0 : Int32)) hx hb dX6_trace_1 (by decide) ?_
  refine lv_aload_n hx hb dX6_trace_2 rfl (lv_at hl 0 rfl) ?_
  refine xget (ci := 6) (C := RX6) (T := TX6) (N := 13) hfix xiX6 hK.1 hP 0 rfl rfl 7 (by decide) rfl xw_168 rfl dX6_trace_3 ?_
  refine xget (ci := 5) (C := RX5) (T := TX5) (N := 6) hfix xiX5 hK.1 hP 1 rfl rfl 1 (by decide) rfl xw_143 rfl dX6_trace_6 ?_
  refine lv_iconst (v := (1 : Int32)) hx hb dX6_trace_9 (by decide) ?_
  refine lv_isub hx hb dX6_trace_10 ?_
  refine xrz0 (xrunS (As := [.int i1, .int (0 : Int32), .int (s_t_thing_ranCount - (1 : Int32))]) (rest := []) (c_X6_outside l D cI cB cJ _ i1 (0 : Int32) (s_t_thing_ranCount - (1 : Int32)) (f_X6_outside i1 (0 : Int32) (s_t_thing_ranCount - (1 : Int32))) rfl) hfix xw_205 ys_X6_outside ⟨rfl, rfl⟩ ⟨(Nat.le_of_ble_eq_true rfl), (Nat.le_of_ble_eq_true rfl)⟩ xKk_K (fun U hU hW => xK.warm hW hK) hP hD [] rfl rfl rfl hl.1 rfl (Nat.le_of_ble_eq_true rfl) dX6_trace_11 ⟨Nat.zero_le _, Nat.zero_le _⟩) hP hD hS hA [] rfl rfl (fun H locs hP hD hS hz_1 => ?_)
  refine lv_if_eq (tgt := 22) hx hb dX6_trace_14 (by decide) (fun c_2 => ?_) (fun c_2 => ?_)
  · replace hF := if_t c_2 hF
    refine lv_aload_n hx hb dX6_trace_22 rfl (lv_at hl 0 rfl) ?_
    refine xget (ci := 6) (C := RX6) (T := TX6) (N := 13) hfix xiX6 hK.1 hP 0 rfl rfl 7 (by decide) rfl xw_168 rfl dX6_trace_23 ?_
    refine xget (ci := 5) (C := RX5) (T := TX5) (N := 6) hfix xiX5 hK.1 hP 1 rfl rfl 0 (by decide) rfl xw_141 rfl dX6_trace_26 ?_
    refine lv_iload_n hx hb dX6_trace_29 rfl (lv_at hl 1 rfl) ?_
    obtain ⟨c_3, hF⟩ := gd_e hF
    refine va_iald hx hb hK.1 hP 2 0 rfl rfl c_3 dX6_trace_30 ?_
    obtain rfl := Option.some.inj hF
    exact hEnd _ _ _ _ _ dX6_trace_31 hP hS rfl
  · replace hF := if_f c_2 hF
    refine lv_bipush (v := (-3 : Int32)) hx hb dX6_trace_17 (by decide) ?_
    refine lv_goto (tgt := 31) hx hb dX6_trace_19 (by decide) ?_
    obtain rfl := Option.some.inj hF
    exact hEnd _ _ _ _ _ dX6_trace_31 hP hS rfl
def f_X6_many (i1 : Int32) (s_t_thing_ranCount : Int32) (s_t_tape_count : Int32) (s_t_rows_count : Int32) (s_t_book_heldCount : Int32) (s_t_book_villages : Int32) (v_t_book_village : (Nat → Int32)) : Option (Int32) := (if i1 = (0 : Int32) then bd1 (f_X0_toldYears v_t_book_village) (fun (r_2 : Int32) => some (r_2)) else (if i1 = (1 : Int32) then some (s_t_book_heldCount) else (if i1 = (2 : Int32) then some (s_t_book_villages) else (if i1 = (3 : Int32) then bd1 (f_X0_last v_t_book_village) (fun (r_7 : Int32) => some (r_7)) else (if i1 = (4 : Int32) then some (s_t_rows_count) else (if i1 = (5 : Int32) then some (s_t_tape_count) else (if i1 = (6 : Int32) then some (s_t_thing_ranCount) else some ((-1 : Int32)))))))))
abbrev rmX6_many : Room := { frames := 1, cells := 0, slots := 0, locals := 22 }
set_option maxHeartbeats 400000 in
set_option maxRecDepth 100000 in
theorem c_X6_many (l : Launch) (D : va_G) (cI cB cJ : ClassId) (a_t : Nat) (a_t_book : Nat) (a_t_kept : Nat) (a_t_told : Nat) (a_t_tape : Nat) (a_t_rows : Nat) (a_t_sheets : Nat) (a_t_shelves : Nat) (a_t_thing : Nat) (a_t_shares : Nat) (a_t_ahead : Nat) (a_t_thing_ran : Nat) (a_t_tape_bytes : Nat) (a_t_rows_cells : Nat) (a_t_book_village : Nat) (a_t_book_mark : Nat) (a_t_book_held : Nat) (sz : Nat) (s_t_isKept : Int32) (s_t_z : Int32) (s_t_keptZ : Int32) (s_t_thing_ranCount : Int32) (s_t_thing_kind : Int32) (s_t_thing_number : Int32) (s_t_thing_a : Int32) (s_t_thing_parted : Int32) (s_t_tape_count : Int32) (s_t_tape_place : Int32) (s_t_tape_fault : Int32) (s_t_rows_count : Int32) (s_t_book_heldCount : Int32) (s_t_book_villages : Int32) (v_t_book_village : (Nat → Int32)) (i1 : Int32) (r : Int32) (hF : f_X6_many i1 s_t_thing_ranCount s_t_tape_count s_t_rows_count s_t_book_heldCount s_t_book_villages v_t_book_village = some r) : xMi l yX6_many (.code yX6_many cX6_many 2 (some .int) :: xU) rmX6_many (xK D cI cB cJ) D sz [.ref a_t, .int i1] [(a_t, .inr (6, [.ref a_t_book, .ref a_t_kept, .ref a_t_told, .ref a_t_tape, .ref a_t_rows, .ref a_t_sheets, .ref a_t_shelves, .ref a_t_thing, .ref a_t_shares, .ref a_t_ahead, .int s_t_isKept, .int s_t_z, .int s_t_keptZ])), (a_t_thing, .inr (5, [.ref a_t_thing_ran, .int s_t_thing_ranCount, .int s_t_thing_kind, .int s_t_thing_number, .int s_t_thing_a, .int s_t_thing_parted])), (a_t_tape, .inr (4, [.ref a_t_tape_bytes, .int s_t_tape_count, .int s_t_tape_place, .int s_t_tape_fault])), (a_t_rows, .inr (1, [.ref a_t_rows_cells, .int s_t_rows_count])), (a_t_book, .inr (0, [.ref a_t_book_village, .ref a_t_book_mark, .ref a_t_book_held, .int s_t_book_heldCount, .int s_t_book_villages])), (a_t_book_village, .inl (cI, 24, .inl v_t_book_village))] [(a_t, .inr (6, [.ref a_t_book, .ref a_t_kept, .ref a_t_told, .ref a_t_tape, .ref a_t_rows, .ref a_t_sheets, .ref a_t_shelves, .ref a_t_thing, .ref a_t_shares, .ref a_t_ahead, .int s_t_isKept, .int s_t_z, .int s_t_keptZ])), (a_t_thing, .inr (5, [.ref a_t_thing_ran, .int s_t_thing_ranCount, .int s_t_thing_kind, .int s_t_thing_number, .int s_t_thing_a, .int s_t_thing_parted])), (a_t_tape, .inr (4, [.ref a_t_tape_bytes, .int s_t_tape_count, .int s_t_tape_place, .int s_t_tape_fault])), (a_t_rows, .inr (1, [.ref a_t_rows_cells, .int s_t_rows_count])), (a_t_book, .inr (0, [.ref a_t_book_village, .ref a_t_book_mark, .ref a_t_book_held, .int s_t_book_heldCount, .int s_t_book_villages])), (a_t_book_village, .inl (cI, 24, .inl v_t_book_village))] r := by
  refine xMi.mk (own := "FairNext") (by decide +kernel) rfl (Nat.le_of_ble_eq_true rfl) ?_
  intro p e s m args below meth c A Q ls H hfix hK hP hD hA hS hl hEnd
  obtain ⟨hx, hb, hml, hown, hts⟩ := id hfix
  have hl : lv_has ls 2 [(0, .ref a_t), (1, .int i1)] := hl
  rw [f_X6_many] at hF
  refine lv_iload_n hx hb dX6_many_0 rfl (lv_at hl 1 rfl) ?_
  by_cases c_1 : i1 = (0 : Int32)
  · replace hF := if_t c_1 hF
    refine lv_tableIn (off := 43) (tgt := 44) hx hb dX6_many_1 (by rw [c_1]; decide) (by rw [c_1]; decide) (by rw [c_1]; decide) (by decide) ?_
    refine lv_aload_n hx hb dX6_many_44 rfl (lv_at hl 0 rfl) ?_
    refine xget (ci := 6) (C := RX6) (T := TX6) (N := 13) hfix xiX6 hK.1 hP 0 rfl rfl 0 (by decide) rfl xw_161 rfl dX6_many_45 ?_
    obtain ⟨r_2, hq_3, hF⟩ := bd1_e hF
    refine xri0 (xrunV (As := []) (rest := []) (c_X0_toldYears l D cI cB cJ a_t_book a_t_book_village a_t_book_mark a_t_book_held _ s_t_book_heldCount s_t_book_villages v_t_book_village r_2 hq_3) hfix xw_347 yv_X0_toldYears ⟨rfl, rfl⟩ ⟨(Nat.le_of_ble_eq_true rfl), (Nat.le_of_ble_eq_true rfl)⟩ xKk_K (fun U hU hW => xK.warm hW hK) hK.1 hP hD [4, 5] rfl rfl 4 0 rfl rfl rfl rfl hl.1 rfl (Nat.le_of_ble_eq_true rfl) dX6_many_48 ⟨Nat.zero_le _, Nat.zero_le _⟩) hP hD hS hA [4, 5] rfl rfl (fun H locs hP hD hS => ?_)
    obtain rfl := Option.some.inj hF
    exact hEnd _ _ _ _ _ dX6_many_51 hP hS rfl
  · replace hF := if_f c_1 hF
    by_cases c_4 : i1 = (1 : Int32)
    · replace hF := if_t c_4 hF
      refine lv_tableIn (off := 51) (tgt := 52) hx hb dX6_many_1 (by rw [c_4]; decide) (by rw [c_4]; decide) (by rw [c_4]; decide) (by decide) ?_
      refine lv_aload_n hx hb dX6_many_52 rfl (lv_at hl 0 rfl) ?_
      refine xget (ci := 6) (C := RX6) (T := TX6) (N := 13) hfix xiX6 hK.1 hP 0 rfl rfl 0 (by decide) rfl xw_161 rfl dX6_many_53 ?_
      refine xget (ci := 0) (C := RX0) (T := TX0) (N := 5) hfix xiX0 hK.1 hP 4 rfl rfl 3 (by decide) rfl xw_43 rfl dX6_many_56 ?_
      obtain rfl := Option.some.inj hF
      exact hEnd _ _ _ _ _ dX6_many_59 hP hS rfl
    · replace hF := if_f c_4 hF
      by_cases c_5 : i1 = (2 : Int32)
      · replace hF := if_t c_5 hF
        refine lv_tableIn (off := 59) (tgt := 60) hx hb dX6_many_1 (by rw [c_5]; decide) (by rw [c_5]; decide) (by rw [c_5]; decide) (by decide) ?_
        refine lv_aload_n hx hb dX6_many_60 rfl (lv_at hl 0 rfl) ?_
        refine xget (ci := 6) (C := RX6) (T := TX6) (N := 13) hfix xiX6 hK.1 hP 0 rfl rfl 0 (by decide) rfl xw_161 rfl dX6_many_61 ?_
        refine xget (ci := 0) (C := RX0) (T := TX0) (N := 5) hfix xiX0 hK.1 hP 4 rfl rfl 4 (by decide) rfl xw_46 rfl dX6_many_64 ?_
        obtain rfl := Option.some.inj hF
        exact hEnd _ _ _ _ _ dX6_many_67 hP hS rfl
      · replace hF := if_f c_5 hF
        by_cases c_6 : i1 = (3 : Int32)
        · replace hF := if_t c_6 hF
          refine lv_tableIn (off := 67) (tgt := 68) hx hb dX6_many_1 (by rw [c_6]; decide) (by rw [c_6]; decide) (by rw [c_6]; decide) (by decide) ?_
          refine lv_aload_n hx hb dX6_many_68 rfl (lv_at hl 0 rfl) ?_
          refine xget (ci := 6) (C := RX6) (T := TX6) (N := 13) hfix xiX6 hK.1 hP 0 rfl rfl 0 (by decide) rfl xw_161 rfl dX6_many_69 ?_
          obtain ⟨r_7, hq_8, hF⟩ := bd1_e hF
          refine xri0 (xrunV (As := []) (rest := []) (c_X0_last l D cI cB cJ a_t_book a_t_book_village a_t_book_mark a_t_book_held _ s_t_book_heldCount s_t_book_villages v_t_book_village r_7 hq_8) hfix xw_462 yv_X0_last ⟨rfl, rfl⟩ ⟨(Nat.le_of_ble_eq_true rfl), (Nat.le_of_ble_eq_true rfl)⟩ xKk_K (fun U hU hW => xK.warm hW hK) hK.1 hP hD [4, 5] rfl rfl 4 0 rfl rfl rfl rfl hl.1 rfl (Nat.le_of_ble_eq_true rfl) dX6_many_72 ⟨Nat.zero_le _, Nat.zero_le _⟩) hP hD hS hA [4, 5] rfl rfl (fun H locs hP hD hS => ?_)
          obtain rfl := Option.some.inj hF
          exact hEnd _ _ _ _ _ dX6_many_75 hP hS rfl
        · replace hF := if_f c_6 hF
          by_cases c_9 : i1 = (4 : Int32)
          · replace hF := if_t c_9 hF
            refine lv_tableIn (off := 75) (tgt := 76) hx hb dX6_many_1 (by rw [c_9]; decide) (by rw [c_9]; decide) (by rw [c_9]; decide) (by decide) ?_
            refine lv_aload_n hx hb dX6_many_76 rfl (lv_at hl 0 rfl) ?_
            refine xget (ci := 6) (C := RX6) (T := TX6) (N := 13) hfix xiX6 hK.1 hP 0 rfl rfl 4 (by decide) rfl xw_165 rfl dX6_many_77 ?_
            refine xget (ci := 1) (C := RX1) (T := TX1) (N := 2) hfix xiX1 hK.1 hP 3 rfl rfl 1 (by decide) rfl xw_89 rfl dX6_many_80 ?_
            obtain rfl := Option.some.inj hF
            exact hEnd _ _ _ _ _ dX6_many_83 hP hS rfl
          · replace hF := if_f c_9 hF
            by_cases c_10 : i1 = (5 : Int32)
            · replace hF := if_t c_10 hF
              refine lv_tableIn (off := 83) (tgt := 84) hx hb dX6_many_1 (by rw [c_10]; decide) (by rw [c_10]; decide) (by rw [c_10]; decide) (by decide) ?_
              refine lv_aload_n hx hb dX6_many_84 rfl (lv_at hl 0 rfl) ?_
              refine xget (ci := 6) (C := RX6) (T := TX6) (N := 13) hfix xiX6 hK.1 hP 0 rfl rfl 3 (by decide) rfl xw_164 rfl dX6_many_85 ?_
              refine xget (ci := 4) (C := RX4) (T := TX4) (N := 4) hfix xiX4 hK.1 hP 2 rfl rfl 1 (by decide) rfl xw_67 rfl dX6_many_88 ?_
              obtain rfl := Option.some.inj hF
              exact hEnd _ _ _ _ _ dX6_many_91 hP hS rfl
            · replace hF := if_f c_10 hF
              by_cases c_11 : i1 = (6 : Int32)
              · replace hF := if_t c_11 hF
                refine lv_tableIn (off := 91) (tgt := 92) hx hb dX6_many_1 (by rw [c_11]; decide) (by rw [c_11]; decide) (by rw [c_11]; decide) (by decide) ?_
                refine lv_aload_n hx hb dX6_many_92 rfl (lv_at hl 0 rfl) ?_
                refine xget (ci := 6) (C := RX6) (T := TX6) (N := 13) hfix xiX6 hK.1 hP 0 rfl rfl 7 (by decide) rfl xw_168 rfl dX6_many_93 ?_
                refine xget (ci := 5) (C := RX5) (T := TX5) (N := 6) hfix xiX5 hK.1 hP 1 rfl rfl 1 (by decide) rfl xw_143 rfl dX6_many_96 ?_
                obtain rfl := Option.some.inj hF
                exact hEnd _ _ _ _ _ dX6_many_99 hP hS rfl
              · replace hF := if_f c_11 hF
                have hsw : (i1).toInt < 0 ∨ 6 < (i1).toInt := by
                  have z0 := lv_neT c_1 (a := 0) (by decide)
                  have z1 := lv_neT c_4 (a := 1) (by decide)
                  have z2 := lv_neT c_5 (a := 2) (by decide)
                  have z3 := lv_neT c_6 (a := 3) (by decide)
                  have z4 := lv_neT c_9 (a := 4) (by decide)
                  have z5 := lv_neT c_10 (a := 5) (by decide)
                  have z6 := lv_neT c_11 (a := 6) (by decide)
                  omega
                refine lv_tableOut (tgt := 100) hx hb dX6_many_1 hsw (by decide) ?_
                refine lv_iconst (v := (-1 : Int32)) hx hb dX6_many_100 (by decide) ?_
                obtain rfl := Option.some.inj hF
                exact hEnd _ _ _ _ _ dX6_many_101 hP hS rfl
