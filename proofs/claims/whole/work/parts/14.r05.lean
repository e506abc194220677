def f_X7_saysBy_L153 (n_p6 : Nat) (v_p6 : (Nat → Int32)) (i4 : Int32) : Nat → Int32 → Option (Int32)
  | 0, _ => none
  | n + 1, x8_9 => (if x8_9 < (0 : Int32) then some (x8_9) else gd x8_9 n_p6 ((if (0 : Int32) ≤ (v_p6 x8_9.toNatClampNeg) then some (x8_9) else f_X7_saysBy_L153 n_p6 v_p6 i4 n (x8_9 - i4))))
def f_X7_saysBy (i1 : Int32) (i2 : Int32) (i3 : Int32) (i4 : Int32) (i5 : Int32) (n_p6 : Nat) (s_t_villages : Int32) (v_p6 : (Nat → Int32)) (v_t_marks : (Nat → Int32)) : Option (Int32) := bd1 (f_X7_at (i5 - i4) n_p6 v_p6) (fun (r_1 : Int32) => (if i1 = (1 : Int32) then gz s_t_villages (some ((xrem ((i2 * i5) + i3) s_t_villages))) else (if i1 = (2 : Int32) then (if (0 : Int32) ≤ r_1 then gz s_t_villages (some ((xrem ((i2 * r_1) + i3) s_t_villages))) else some ((-9 : Int32))) else (if i1 = (3 : Int32) then bd1 (f_X7_saysBy_L153 n_p6 v_p6 i4 1000 (i5 - i4)) (fun (y8_10 : Int32) => (if (0 : Int32) ≤ y8_10 then gd y8_10 n_p6 (gz s_t_villages (some ((xrem (v_p6 y8_10.toNatClampNeg) s_t_villages)))) else some ((-9 : Int32)))) else (if i1 = (4 : Int32) then gd i5 100 (gz s_t_villages (some ((xrem (((i2 * i5) + i3) + (v_t_marks i5.toNatClampNeg)) s_t_villages)))) else (if i1 = (5 : Int32) then (if r_1 < (0 : Int32) then some ((-9 : Int32)) else bd1 (f_X7_at (i5 - (1 : Int32)) n_p6 v_p6) (fun (r_22 : Int32) => (if (0 : Int32) ≤ r_22 then bd1 (f_X7_at (i5 - (1 : Int32)) n_p6 v_p6) (fun (r_25 : Int32) => gz s_t_villages (some ((xrem (((i2 * r_1) + i3) + r_25) s_t_villages)))) else some ((-9 : Int32))))) else gz s_t_villages (some ((xrem i3 s_t_villages)))))))))
abbrev rmX7_saysBy : Room := { frames := 1, cells := 0, slots := 0, locals := 21 }
set_option maxHeartbeats 400000 in
set_option maxRecDepth 100000 in
theorem c_X7_saysBy (l : Launch) (D : va_G) (cI cB cJ : ClassId) (a_t : Nat) (a_t_stand : Nat) (a_t_on : Nat) (a_t_marks : Nat) (a_t_rule : Nat) (a_t_tape : Nat) (a_t_freshStand : Nat) (a_t_freshMarks : Nat) (a_t_freshRule : Nat) (a_t_shares : Nat) (a_t_said : Nat) (a_t_rows : Nat) (a_t_must : Nat) (a_t_sorts : Nat) (a_t_sizes : Nat) (a_t_sheets : Nat) (a_t_holds : Nat) (a_t_heldNumber : Nat) (a_t_heldSize : Nat) (a_t_traced : Nat) (a_t_keptRow : Nat) (a_t_single : Nat) (a_p6 : Nat) (sz : Nat) (n_p6 : Nat) (s_t_villages : Int32) (s_t_held : Int32) (s_t_z : Int32) (s_t_tapeMany : Int32) (s_t_sort : Int32) (s_t_begins : Int32) (s_t_tokenEnds : Int32) (s_t_word : Int64) (s_t_value : Int32) (s_t_good : Int32) (s_t_freshVillages : Int32) (s_t_freshHeld : Int32) (s_t_rowMany : Int32) (s_t_mustMany : Int32) (s_t_kind : Int32) (s_t_number : Int32) (s_t_own : Int32) (s_t_bodies : Int32) (s_t_isParted : Int32) (s_t_isKept : Int32) (s_t_movedTo : Int32) (v_p6 : (Nat → Int32)) (v_t_marks : (Nat → Int32)) (i1 : Int32) (i2 : Int32) (i3 : Int32) (i4 : Int32) (i5 : Int32) (r : Int32) (hF : f_X7_saysBy i1 i2 i3 i4 i5 n_p6 s_t_villages v_p6 v_t_marks = some r) : xMi l yX7_saysBy (.code yX7_saysBy cX7_saysBy 9 (some .int) :: xU) rmX7_saysBy (xK D cI cB cJ) D sz [.ref a_t, .int i1, .int i2, .int i3, .int i4, .int i5, .ref a_p6] [(a_t, .inr (7, [.ref a_t_stand, .ref a_t_on, .ref a_t_marks, .int s_t_villages, .int s_t_held, .ref a_t_rule, .int s_t_z, .ref a_t_tape, .int s_t_tapeMany, .int s_t_sort, .int s_t_begins, .int s_t_tokenEnds, .long s_t_word, .int s_t_value, .int s_t_good, .int s_t_freshVillages, .int s_t_freshHeld, .ref a_t_freshStand, .ref a_t_freshMarks, .ref a_t_freshRule, .ref a_t_shares, .ref a_t_said, .ref a_t_rows, .ref a_t_must, .int s_t_rowMany, .int s_t_mustMany, .ref a_t_sorts, .ref a_t_sizes, .ref a_t_sheets, .ref a_t_holds, .ref a_t_heldNumber, .ref a_t_heldSize, .int s_t_kind, .int s_t_number, .int s_t_own, .ref a_t_traced, .int s_t_bodies, .int s_t_isParted, .int s_t_isKept, .ref a_t_keptRow, .int s_t_movedTo, .ref a_t_single])), (a_p6, .inl (cI, n_p6, .inl v_p6)), (a_t_marks, .inl (cI, 100, .inl v_t_marks))] [(a_t, .inr (7, [.ref a_t_stand, .ref a_t_on, .ref a_t_marks, .int s_t_villages, .int s_t_held, .ref a_t_rule, .int s_t_z, .ref a_t_tape, .int s_t_tapeMany, .int s_t_sort, .int s_t_begins, .int s_t_tokenEnds, .long s_t_word, .int s_t_value, .int s_t_good, .int s_t_freshVillages, .int s_t_freshHeld, .ref a_t_freshStand, .ref a_t_freshMarks, .ref a_t_freshRule, .ref a_t_shares, .ref a_t_said, .ref a_t_rows, .ref a_t_must, .int s_t_rowMany, .int s_t_mustMany, .ref a_t_sorts, .ref a_t_sizes, .ref a_t_sheets, .ref a_t_holds, .ref a_t_heldNumber, .ref a_t_heldSize, .int s_t_kind, .int s_t_number, .int s_t_own, .ref a_t_traced, .int s_t_bodies, .int s_t_isParted, .int s_t_isKept, .ref a_t_keptRow, .int s_t_movedTo, .ref a_t_single])), (a_p6, .inl (cI, n_p6, .inl v_p6)), (a_t_marks, .inl (cI, 100, .inl v_t_marks))] r := by
  refine xMi.mk (own := "FairNextModel") (by decide +kernel) rfl (Nat.le_of_ble_eq_true rfl) ?_
  intro p e s m args below meth c A Q ls H hfix hK hP hD hA hS hl hEnd
  obtain ⟨hx, hb, hml, hown, hts⟩ := id hfix
  have hl : lv_has ls 9 [(0, .ref a_t), (1, .int i1), (2, .int i2), (3, .int i3), (4, .int i4), (5, .int i5), (6, .ref a_p6)] := hl
  rw [f_X7_saysBy] at hF
  refine lv_aload hx hb dX7_saysBy_0 (lv_at hl 6 rfl) ?_
  refine lv_iload hx hb dX7_saysBy_2 (lv_at hl 5 rfl) ?_
  refine lv_iload hx hb dX7_saysBy_4 (lv_at hl 4 rfl) ?_
  refine lv_isub hx hb dX7_saysBy_6 ?_
  obtain ⟨r_1, hq_2, hF⟩ := bd1_e hF
  refine xri0 (xrunS (As := [.ref a_p6, .int (i5 - i4)]) (rest := []) (c_X7_at l D cI cB cJ a_p6 _ n_p6 v_p6 (i5 - i4) r_1 hq_2) hfix xw_940 ys_X7_at ⟨rfl, rfl⟩ ⟨(Nat.le_of_ble_eq_true rfl), (Nat.le_of_ble_eq_true rfl)⟩ xKk_K (fun U hU hW => xK.warm hW hK) hP hD [1] rfl rfl rfl hl.1 rfl (Nat.le_of_ble_eq_true rfl) dX7_saysBy_7 ⟨Nat.zero_le _, Nat.zero_le _⟩) hP hD hS hA [1] rfl rfl (fun H locs hP hD hS => ?_)
  refine lv_istore (lv' := [(7, .int r_1), (0, .ref a_t), (1, .int i1), (2, .int i2), (3, .int i3), (4, .int i4), (5, .int i5), (6, .ref a_p6)]) hx hb dX7_saysBy_10 hl (by decide) rfl (fun ls hl => ?_)
  refine lv_iload_n hx hb dX7_saysBy_12 rfl (lv_at hl 2 rfl) ?_
  by_cases c_3 : i1 = (1 : Int32)
  · replace hF := if_t c_3 hF
    refine lv_tableIn (off := 35) (tgt := 48) hx hb dX7_saysBy_13 (by rw [c_3]; decide) (by rw [c_3]; decide) (by rw [c_3]; decide) (by decide) ?_
    refine lv_iload_n hx hb dX7_saysBy_48 rfl (lv_at hl 3 rfl) ?_
    refine lv_iload hx hb dX7_saysBy_49 (lv_at hl 6 rfl) ?_
    refine lv_imul hx hb dX7_saysBy_51 ?_
    refine lv_iload_n hx hb dX7_saysBy_52 rfl (lv_at hl 4 rfl) ?_
    refine lv_iadd hx hb dX7_saysBy_53 ?_
    refine lv_aload_n hx hb dX7_saysBy_54 rfl (lv_at hl 1 rfl) ?_
    refine xget (ci := 7) (C := RX7) (T := TX7) (N := 42) hfix xiX7 hK.1 hP 0 rfl rfl 3 (by decide) rfl xw_691 rfl dX7_saysBy_55 ?_
    obtain ⟨c_4, hF⟩ := gz_e hF
    refine lv_irem hx hb dX7_saysBy_58 c_4 ?_
    obtain rfl := Option.some.inj hF
    exact hEnd _ _ _ _ _ dX7_saysBy_59 hP hS rfl
  · replace hF := if_f c_3 hF
    by_cases c_5 : i1 = (2 : Int32)
    · replace hF := if_t c_5 hF
      refine lv_tableIn (off := 67) (tgt := 80) hx hb dX7_saysBy_13 (by rw [c_5]; decide) (by rw [c_5]; decide) (by rw [c_5]; decide) (by decide) ?_
      refine lv_iload hx hb dX7_saysBy_80 (lv_at hl 0 rfl) ?_
      refine lv_if_ge (tgt := 90) hx hb dX7_saysBy_82 (by decide) (fun c_6 => ?_) (fun c_6 => ?_)
      · replace hF := if_t c_6 hF
        refine lv_iload_n hx hb dX7_saysBy_90 rfl (lv_at hl 3 rfl) ?_
        refine lv_iload hx hb dX7_saysBy_91 (lv_at hl 0 rfl) ?_
        refine lv_imul hx hb dX7_saysBy_93 ?_
        refine lv_iload_n hx hb dX7_saysBy_94 rfl (lv_at hl 4 rfl) ?_
        refine lv_iadd hx hb dX7_saysBy_95 ?_
        refine lv_aload_n hx hb dX7_saysBy_96 rfl (lv_at hl 1 rfl) ?_
        refine xget (ci := 7) (C := RX7) (T := TX7) (N := 42) hfix xiX7 hK.1 hP 0 rfl rfl 3 (by decide) rfl xw_691 rfl dX7_saysBy_97 ?_
        obtain ⟨c_7, hF⟩ := gz_e hF
        refine lv_irem hx hb dX7_saysBy_100 c_7 ?_
        obtain rfl := Option.some.inj hF
        exact hEnd _ _ _ _ _ dX7_saysBy_101 hP hS rfl
      · replace hF := if_f c_6 hF
        refine lv_bipush (v := (-9 : Int32)) hx hb dX7_saysBy_85 (by decide) ?_
        refine lv_goto (tgt := 101) hx hb dX7_saysBy_87 (by decide) ?_
        obtain rfl := Option.some.inj hF
        exact hEnd _ _ _ _ _ dX7_saysBy_101 hP hS rfl
    · replace hF := if_f c_5 hF
      by_cases c_8 : i1 = (3 : Int32)
      · replace hF := if_t c_8 hF
        refine lv_tableIn (off := 133) (tgt := 146) hx hb dX7_saysBy_13 (by rw [c_8]; decide) (by rw [c_8]; decide) (by rw [c_8]; decide) (by decide) ?_
        refine lv_iload hx hb dX7_saysBy_146 (lv_at hl 6 rfl) ?_
        refine lv_iload hx hb dX7_saysBy_148 (lv_at hl 5 rfl) ?_
        refine lv_isub hx hb dX7_saysBy_150 ?_
        refine lv_istore (lv' := [(8, .int (i5 - i4)), (7, .int r_1), (0, .ref a_t), (1, .int i1), (2, .int i2), (3, .int i3), (4, .int i4), (5, .int i5), (6, .ref a_p6)]) hx hb dX7_saysBy_151 hl (by decide) rfl (fun ls hl => ?_)
        have hL_153 : ∀ (n : Nat) (x8_9 : Int32) (y8_10 : Int32), f_X7_saysBy_L153 n_p6 v_p6 i4 n x8_9 = some y8_10 → ∀ (H : Heap) (locs : List Loc) (ls : Array Slot), va_P D vwCl [(a_t, .inr (7, [.ref a_t_stand, .ref a_t_on, .ref a_t_marks, .int s_t_villages, .int s_t_held, .ref a_t_rule, .int s_t_z, .ref a_t_tape, .int s_t_tapeMany, .int s_t_sort, .int s_t_begins, .int s_t_tokenEnds, .long s_t_word, .int s_t_value, .int s_t_good, .int s_t_freshVillages, .int s_t_freshHeld, .ref a_t_freshStand, .ref a_t_freshMarks, .ref a_t_freshRule, .ref a_t_shares, .ref a_t_said, .ref a_t_rows, .ref a_t_must, .int s_t_rowMany, .int s_t_mustMany, .ref a_t_sorts, .ref a_t_sizes, .ref a_t_sheets, .ref a_t_holds, .ref a_t_heldNumber, .ref a_t_heldSize, .int s_t_kind, .int s_t_number, .int s_t_own, .ref a_t_traced, .int s_t_bodies, .int s_t_isParted, .int s_t_isKept, .ref a_t_keptRow, .int s_t_movedTo, .ref a_t_single])), (a_p6, .inl (cI, n_p6, .inl v_p6)), (a_t_marks, .inl (cI, 100, .inl v_t_marks))] H → va_D A [(a_t, .inr (7, [.ref a_t_stand, .ref a_t_on, .ref a_t_marks, .int s_t_villages, .int s_t_held, .ref a_t_rule, .int s_t_z, .ref a_t_tape, .int s_t_tapeMany, .int s_t_sort, .int s_t_begins, .int s_t_tokenEnds, .long s_t_word, .int s_t_value, .int s_t_good, .int s_t_freshVillages, .int s_t_freshHeld, .ref a_t_freshStand, .ref a_t_freshMarks, .ref a_t_freshRule, .ref a_t_shares, .ref a_t_said, .ref a_t_rows, .ref a_t_must, .int s_t_rowMany, .int s_t_mustMany, .ref a_t_sorts, .ref a_t_sizes, .ref a_t_sheets, .ref a_t_holds, .ref a_t_heldNumber, .ref a_t_heldSize, .int s_t_kind, .int s_t_number, .int s_t_own, .ref a_t_traced, .int s_t_bodies, .int s_t_isParted, .int s_t_isKept, .ref a_t_keptRow, .int s_t_movedTo, .ref a_t_single])), (a_p6, .inl (cI, n_p6, .inl v_p6)), (a_t_marks, .inl (cI, 100, .inl v_t_marks))] → va_S A s.heap H locs → lv_has ls 9 [(0, .ref a_t), (4, .int i4), (6, .ref a_p6), (8, .int x8_9)] → (∀ (H : Heap) (locs : List Loc) (ls : Array Slot), va_P D vwCl [(a_t, .inr (7, [.ref a_t_stand, .ref a_t_on, .ref a_t_marks, .int s_t_villages, .int s_t_held, .ref a_t_rule, .int s_t_z, .ref a_t_tape, .int s_t_tapeMany, .int s_t_sort, .int s_t_begins, .int s_t_tokenEnds, .long s_t_word, .int s_t_value, .int s_t_good, .int s_t_freshVillages, .int s_t_freshHeld, .ref a_t_freshStand, .ref a_t_freshMarks, .ref a_t_freshRule, .ref a_t_shares, .ref a_t_said, .ref a_t_rows, .ref a_t_must, .int s_t_rowMany, .int s_t_mustMany, .ref a_t_sorts, .ref a_t_sizes, .ref a_t_sheets, .ref a_t_holds, .ref a_t_heldNumber, .ref a_t_heldSize, .int s_t_kind, .int s_t_number, .int s_t_own, .ref a_t_traced, .int s_t_bodies, .int s_t_isParted, .int s_t_isKept, .ref a_t_keptRow, .int s_t_movedTo, .ref a_t_single])), (a_p6, .inl (cI, n_p6, .inl v_p6)), (a_t_marks, .inl (cI, 100, .inl v_t_marks))] H → va_D A [(a_t, .inr (7, [.ref a_t_stand, .ref a_t_on, .ref a_t_marks, .int s_t_villages, .int s_t_held, .ref a_t_rule, .int s_t_z, .ref a_t_tape, .int s_t_tapeMany, .int s_t_sort, .int s_t_begins, .int s_t_tokenEnds, .long s_t_word, .int s_t_value, .int s_t_good, .int s_t_freshVillages, .int s_t_freshHeld, .ref a_t_freshStand, .ref a_t_freshMarks, .ref a_t_freshRule, .ref a_t_shares, .ref a_t_said, .ref a_t_rows, .ref a_t_must, .int s_t_rowMany, .int s_t_mustMany, .ref a_t_sorts, .ref a_t_sizes, .ref a_t_sheets, .ref a_t_holds, .ref a_t_heldNumber, .ref a_t_heldSize, .int s_t_kind, .int s_t_number, .int s_t_own, .ref a_t_traced, .int s_t_bodies, .int s_t_isParted, .int s_t_isKept, .ref a_t_keptRow, .int s_t_movedTo, .ref a_t_single])), (a_p6, .inl (cI, n_p6, .inl v_p6)), (a_t_marks, .inl (cI, 100, .inl v_t_marks))] → va_S A s.heap H locs → lv_has ls 9 [(0, .ref a_t), (6, .ref a_p6), (8, .int y8_10)] → W p l e rmX7_saysBy s m args below meth c H locs 0 0 Q (F0 m 176 ls [])) → W p l e rmX7_saysBy s m args below meth c H locs 0 0 Q (F0 m 153 ls []) := by
          intro n
          induction n with
          | zero => intro x8_9 y8_10 hF; exact (no_some hF).elim
          | succ n ih =>
            intro x8_9 y8_10 hF H locs ls hP hD hS hl kexit
            rw [f_X7_saysBy_L153] at hF
            refine lv_iload hx hb dX7_saysBy_153 (lv_at hl 3 rfl) ?_
            refine lv_if_lt (tgt := 176) hx hb dX7_saysBy_155 (by decide) (fun c_11 => ?_) (fun c_11 => ?_)
            · replace hF := if_t c_11 hF
              obtain rfl := Option.some.inj hF
              exact kexit _ _ _ hP hD hS (lv_sub hl [0, 2, 3] rfl)
            · replace hF := if_f c_11 hF
              refine lv_aload hx hb dX7_saysBy_158 (lv_at hl 2 rfl) ?_
              refine lv_iload hx hb dX7_saysBy_160 (lv_at hl 3 rfl) ?_
              obtain ⟨c_12, hF⟩ := gd_e hF
              refine va_iald hx hb hK.1 hP 1 0 rfl rfl c_12 dX7_saysBy_162 ?_
              refine lv_if_ge (tgt := 176) hx hb dX7_saysBy_163 (by decide) (fun c_13 => ?_) (fun c_13 => ?_)
              · replace hF := if_t c_13 hF
                obtain rfl := Option.some.inj hF
                exact kexit _ _ _ hP hD hS (lv_sub hl [0, 2, 3] rfl)
              · replace hF := if_f c_13 hF
                refine lv_iload hx hb dX7_saysBy_166 (lv_at hl 3 rfl) ?_
                refine lv_iload hx hb dX7_saysBy_168 (lv_at hl 1 rfl) ?_
                refine lv_isub hx hb dX7_saysBy_170 ?_
                refine lv_istore (lv' := [(8, .int (x8_9 - i4)), (0, .ref a_t), (4, .int i4), (6, .ref a_p6)]) hx hb dX7_saysBy_171 hl (by decide) rfl (fun ls hl => ?_)
                refine lv_goto (tgt := 153) hx hb dX7_saysBy_173 (by decide) ?_
                exact ih _ _ hF _ _ _ hP hD hS (lv_sub hl [1, 2, 3, 0] rfl) kexit
        obtain ⟨y8_10, hq, hF⟩ := bd1_e hF
        refine hL_153 _ _ _ hq _ _ _ hP hD hS (lv_sub hl [2, 6, 8, 0] rfl) (fun H locs ls hP hD hS hl => ?_)
        refine lv_iload hx hb dX7_saysBy_176 (lv_at hl 2 rfl) ?_
        refine lv_if_ge (tgt := 186) hx hb dX7_saysBy_178 (by decide) (fun c_14 => ?_) (fun c_14 => ?_)
        · replace hF := if_t c_14 hF
          refine lv_aload hx hb dX7_saysBy_186 (lv_at hl 1 rfl) ?_
          refine lv_iload hx hb dX7_saysBy_188 (lv_at hl 2 rfl) ?_
          obtain ⟨c_15, hF⟩ := gd_e hF
          refine va_iald hx hb hK.1 hP 1 0 rfl rfl c_15 dX7_saysBy_190 ?_
          refine lv_aload_n hx hb dX7_saysBy_191 rfl (lv_at hl 0 rfl) ?_
          refine xget (ci := 7) (C := RX7) (T := TX7) (N := 42) hfix xiX7 hK.1 hP 0 rfl rfl 3 (by decide) rfl xw_691 rfl dX7_saysBy_192 ?_
          obtain ⟨c_16, hF⟩ := gz_e hF
          refine lv_irem hx hb dX7_saysBy_195 c_16 ?_
          obtain rfl := Option.some.inj hF
          exact hEnd _ _ _ _ _ dX7_saysBy_196 hP hS rfl
        · replace hF := if_f c_14 hF
          refine lv_bipush (v := (-9 : Int32)) hx hb dX7_saysBy_181 (by decide) ?_
          refine lv_goto (tgt := 196) hx hb dX7_saysBy_183 (by decide) ?_
          obtain rfl := Option.some.inj hF
          exact hEnd _ _ _ _ _ dX7_saysBy_196 hP hS rfl
      · replace hF := if_f c_8 hF
        by_cases c_17 : i1 = (4 : Int32)
        · replace hF := if_t c_17 hF
          refine lv_tableIn (off := 47) (tgt := 60) hx hb dX7_saysBy_13 (by rw [c_17]; decide) (by rw [c_17]; decide) (by rw [c_17]; decide) (by decide) ?_
          refine lv_iload_n hx hb dX7_saysBy_60 rfl (lv_at hl 3 rfl) ?_
          refine lv_iload hx hb dX7_saysBy_61 (lv_at hl 6 rfl) ?_
          refine lv_imul hx hb dX7_saysBy_63 ?_
          refine lv_iload_n hx hb dX7_saysBy_64 rfl (lv_at hl 4 rfl) ?_
          refine lv_iadd hx hb dX7_saysBy_65 ?_
          refine lv_aload_n hx hb dX7_saysBy_66 rfl (lv_at hl 1 rfl) ?_
          refine xget (ci := 7) (C := RX7) (T := TX7) (N := 42) hfix xiX7 hK.1 hP 0 rfl rfl 2 (by decide) rfl xw_690 rfl dX7_saysBy_67 ?_
          refine lv_iload hx hb dX7_saysBy_70 (lv_at hl 6 rfl) ?_
          obtain ⟨c_18, hF⟩ := gd_e hF
          refine va_iald hx hb hK.1 hP 2 0 rfl rfl c_18 dX7_saysBy_72 ?_
          refine lv_iadd hx hb dX7_saysBy_73 ?_
          refine lv_aload_n hx hb dX7_saysBy_74 rfl (lv_at hl 1 rfl) ?_
          refine xget (ci := 7) (C := RX7) (T := TX7) (N := 42) hfix xiX7 hK.1 hP 0 rfl rfl 3 (by decide) rfl xw_691 rfl dX7_saysBy_75 ?_
          obtain ⟨c_19, hF⟩ := gz_e hF
          refine lv_irem hx hb dX7_saysBy_78 c_19 ?_
          obtain rfl := Option.some.inj hF
          exact hEnd _ _ _ _ _ dX7_saysBy_79 hP hS rfl
        · replace hF := if_f c_17 hF
          by_cases c_20 : i1 = (5 : Int32)
          · replace hF := if_t c_20 hF
            refine lv_tableIn (off := 89) (tgt := 102) hx hb dX7_saysBy_13 (by rw [c_20]; decide) (by rw [c_20]; decide) (by rw [c_20]; decide) (by decide) ?_
            refine lv_iload hx hb dX7_saysBy_102 (lv_at hl 0 rfl) ?_
            refine lv_if_lt (tgt := 119) hx hb dX7_saysBy_104 (by decide) (fun c_21 => ?_) (fun c_21 => ?_)
            · replace hF := if_t c_21 hF
              refine lv_bipush (v := (-9 : Int32)) hx hb dX7_saysBy_119 (by decide) ?_
              refine lv_goto (tgt := 145) hx hb dX7_saysBy_121 (by decide) ?_
              obtain rfl := Option.some.inj hF
              exact hEnd _ _ _ _ _ dX7_saysBy_145 hP hS rfl
            · replace hF := if_f c_21 hF
              refine lv_aload hx hb dX7_saysBy_107 (lv_at hl 7 rfl) ?_
              refine lv_iload hx hb dX7_saysBy_109 (lv_at hl 6 rfl) ?_
              refine lv_iconst (v := (1 : Int32)) hx hb dX7_saysBy_111 (by decide) ?_
              refine lv_isub hx hb dX7_saysBy_112 ?_
              obtain ⟨r_22, hq_23, hF⟩ := bd1_e hF
              refine xri0 (xrunS (As := [.ref a_p6, .int (i5 - (1 : Int32))]) (rest := []) (c_X7_at l D cI cB cJ a_p6 _ n_p6 v_p6 (i5 - (1 : Int32)) r_22 hq_23) hfix xw_940 ys_X7_at ⟨rfl, rfl⟩ ⟨(Nat.le_of_ble_eq_true rfl), (Nat.le_of_ble_eq_true rfl)⟩ xKk_K (fun U hU hW => xK.warm hW hK) hP hD [1] rfl rfl rfl hl.1 rfl (Nat.le_of_ble_eq_true rfl) dX7_saysBy_113 ⟨Nat.zero_le _, Nat.zero_le _⟩) hP hD hS hA [1] rfl rfl (fun H locs hP hD hS => ?_)
              refine lv_if_ge (tgt := 124) hx hb dX7_saysBy_116 (by decide) (fun c_24 => ?_) (fun c_24 => ?_)
              · replace hF := if_t c_24 hF
                refine lv_iload_n hx hb dX7_saysBy_124 rfl (lv_at hl 3 rfl) ?_
                refine lv_iload hx hb dX7_saysBy_125 (lv_at hl 0 rfl) ?_
                refine lv_imul hx hb dX7_saysBy_127 ?_
                refine lv_iload_n hx hb dX7_saysBy_128 rfl (lv_at hl 4 rfl) ?_
                refine lv_iadd hx hb dX7_saysBy_129 ?_
                refine lv_aload hx hb dX7_saysBy_130 (lv_at hl 7 rfl) ?_
                refine lv_iload hx hb dX7_saysBy_132 (lv_at hl 6 rfl) ?_
                refine lv_iconst (v := (1 : Int32)) hx hb dX7_saysBy_134 (by decide) ?_
                refine lv_isub hx hb dX7_saysBy_135 ?_
                obtain ⟨r_25, hq_26, hF⟩ := bd1_e hF
                refine xri0 (xrunS (As := [.ref a_p6, .int (i5 - (1 : Int32))]) (rest := [.int ((i2 * r_1) + i3)]) (c_X7_at l D cI cB cJ a_p6 _ n_p6 v_p6 (i5 - (1 : Int32)) r_25 hq_26) hfix xw_940 ys_X7_at ⟨rfl, rfl⟩ ⟨(Nat.le_of_ble_eq_true rfl), (Nat.le_of_ble_eq_true rfl)⟩ xKk_K (fun U hU hW => xK.warm hW hK) hP hD [1] rfl rfl rfl hl.1 rfl (Nat.le_of_ble_eq_true rfl) dX7_saysBy_136 ⟨Nat.zero_le _, Nat.zero_le _⟩) hP hD hS hA [1] rfl rfl (fun H locs hP hD hS => ?_)
                refine lv_iadd hx hb dX7_saysBy_139 ?_
                refine lv_aload_n hx hb dX7_saysBy_140 rfl (lv_at hl 1 rfl) ?_
                refine xget (ci := 7) (C := RX7) (T := TX7) (N := 42) hfix xiX7 hK.1 hP 0 rfl rfl 3 (by decide) rfl xw_691 rfl dX7_saysBy_141 ?_
                obtain ⟨c_27, hF⟩ := gz_e hF
                refine lv_irem hx hb dX7_saysBy_144 c_27 ?_
                obtain rfl := Option.some.inj hF
                exact hEnd _ _ _ _ _ dX7_saysBy_145 hP hS rfl
              · replace hF := if_f c_24 hF
                refine lv_bipush (v := (-9 : Int32)) hx hb dX7_saysBy_119 (by decide) ?_
                refine lv_goto (tgt := 145) hx hb dX7_saysBy_121 (by decide) ?_
                obtain rfl := Option.some.inj hF
                exact hEnd _ _ _ _ _ dX7_saysBy_145 hP hS rfl
          · replace hF := if_f c_20 hF
            have hsw : (i1).toInt < 1 ∨ 5 < (i1).toInt := by
              have z0 := lv_neT c_3 (a := 1) (by decide)
              have z1 := lv_neT c_5 (a := 2) (by decide)
              have z2 := lv_neT c_8 (a := 3) (by decide)
              have z3 := lv_neT c_17 (a := 4) (by decide)
              have z4 := lv_neT c_20 (a := 5) (by decide)
              omega
            refine lv_tableOut (tgt := 197) hx hb dX7_saysBy_13 hsw (by decide) ?_
            refine lv_iload_n hx hb dX7_saysBy_197 rfl (lv_at hl 4 rfl) ?_
            refine lv_aload_n hx hb dX7_saysBy_198 rfl (lv_at hl 1 rfl) ?_
            refine xget (ci := 7) (C := RX7) (T := TX7) (N := 42) hfix xiX7 hK.1 hP 0 rfl rfl 3 (by decide) rfl xw_691 rfl dX7_saysBy_199 ?_
            obtain ⟨c_28, hF⟩ := gz_e hF
            refine lv_irem hx hb dX7_saysBy_202 c_28 ?_
            obtain rfl := Option.some.inj hF
            exact hEnd _ _ _ _ _ dX7_saysBy_203 hP hS rfl
def f_X7_wordsOf (i1 : Int32) (i2 : Int32) (i3 : Int32) : Int32 := lt1 ((if i1 = (0 : Int32) then ((0 : Int32)) else ((1 : Int32)))) (fun (j_1 : Int32) => lt1 ((if i2 = (0 : Int32) then ((0 : Int32)) else ((1 : Int32)))) (fun (j_3 : Int32) => (if i3 = (1 : Int32) then (((((1 : Int32) + j_1) + j_3) + (0 : Int32))) else (((((1 : Int32) + j_1) + j_3) + (1 : Int32))))))
abbrev rmX7_wordsOf : Room := { frames := 0, cells := 0, slots := 0, locals := 0 }
set_option maxHeartbeats 400000 in
set_option maxRecDepth 100000 in
theorem c_X7_wordsOf (l : Launch) (D : va_G) (cI cB cJ : ClassId) (sz : Nat) (i1 : Int32) (i2 : Int32) (i3 : Int32) (r : Int32) (hF : f_X7_wordsOf i1 i2 i3 = r) : xMi l yX7_wordsOf (.code yX7_wordsOf cX7_wordsOf 3 (some .int) :: xU) rmX7_wordsOf (xK D cI cB cJ) D sz [.int i1, .int i2, .int i3] [] [] r := by
  refine xMi.mk (own := "FairNextModel") (by decide +kernel) rfl (Nat.le_of_ble_eq_true rfl) ?_
  intro p e s m args below meth c A Q ls H hfix hK hP hD hA hS hl hEnd
  obtain ⟨hx, hb, hml, hown, hts⟩ := id hfix
  have hl : lv_has ls 3 [(0, .int i1), (1, .int i2), (2, .int i3)] := hl
  rw [f_X7_wordsOf] at hF
  refine lv_iconst (v := (1 : Int32)) hx hb dX7_wordsOf_0 (by decide) ?_
  refine lv_iload_n hx hb dX7_wordsOf_1 rfl (lv_at hl 0 rfl) ?_
  obtain ⟨j_1, hJ, hF⟩ := lt1_e hF
  have hN_10_2 : x01 j_1 → ∀ (H : Heap) (locs : List Loc) (ls : Array Slot), va_P D vwCl [] H → va_D A [] → va_S A s.heap H locs → lv_has ls 3 [(1, .int i2), (2, .int i3)] → W p l e rmX7_wordsOf s m args below meth c H locs 0 0 Q (F0 m 10 ls [.int j_1, .int (1 : Int32)]) := by
    intro h01_2 H locs ls hP hD hS hl
    refine lv_iadd hx hb dX7_wordsOf_10 ?_
    refine lv_iload_n hx hb dX7_wordsOf_11 rfl (lv_at hl 0 rfl) ?_
    obtain ⟨j_3, hJ, hF⟩ := lt1_e hF
    have hN_20_4 : x01 j_3 → ∀ (H : Heap) (locs : List Loc) (ls : Array Slot), va_P D vwCl [] H → va_D A [] → va_S A s.heap H locs → lv_has ls 3 [(2, .int i3)] → W p l e rmX7_wordsOf s m args below meth c H locs 0 0 Q (F0 m 20 ls [.int j_3, .int ((1 : Int32) + j_1)]) := by
      intro h01_4 H locs ls hP hD hS hl
      refine lv_iadd hx hb dX7_wordsOf_20 ?_
      refine lv_iload_n hx hb dX7_wordsOf_21 rfl (lv_at hl 0 rfl) ?_
      refine lv_iconst (v := (1 : Int32)) hx hb dX7_wordsOf_22 (by decide) ?_
      refine lv_icmp_eq (tgt := 30) hx hb dX7_wordsOf_23 (by decide) (fun c_5 => ?_) (fun c_5 => ?_)
      · replace hF := if_t c_5 hF
        refine lv_iconst (v := (0 : Int32)) hx hb dX7_wordsOf_30 (by decide) ?_
        refine lv_iadd hx hb dX7_wordsOf_31 ?_
        subst hF
        exact hEnd _ _ _ _ _ dX7_wordsOf_32 hP hS rfl
      · replace hF := if_f c_5 hF
        refine lv_iconst (v := (1 : Int32)) hx hb dX7_wordsOf_26 (by decide) ?_
        refine lv_goto (tgt := 31) hx hb dX7_wordsOf_27 (by decide) ?_
        refine lv_iadd hx hb dX7_wordsOf_31 ?_
        subst hF
        exact hEnd _ _ _ _ _ dX7_wordsOf_32 hP hS rfl
    replace hF := hJ
    refine lv_if_eq (tgt := 19) hx hb dX7_wordsOf_12 (by decide) (fun c_6 => ?_) (fun c_6 => ?_)
    · replace hF := if_t c_6 hF
      refine lv_iconst (v := (0 : Int32)) hx hb dX7_wordsOf_19 (by decide) ?_
      subst hF
      exact hN_20_4 x01_0 _ _ _ hP hD hS (lv_sub hl [1] rfl)
    · replace hF := if_f c_6 hF
      refine lv_iconst (v := (1 : Int32)) hx hb dX7_wordsOf_15 (by decide) ?_
      refine lv_goto (tgt := 20) hx hb dX7_wordsOf_16 (by decide) ?_
      subst hF
      exact hN_20_4 x01_1 _ _ _ hP hD hS (lv_sub hl [1] rfl)
  replace hF := hJ
  refine lv_if_eq (tgt := 9) hx hb dX7_wordsOf_2 (by decide) (fun c_7 => ?_) (fun c_7 => ?_)
  · replace hF := if_t c_7 hF
    refine lv_iconst (v := (0 : Int32)) hx hb dX7_wordsOf_9 (by decide) ?_
    subst hF
    exact hN_10_2 x01_0 _ _ _ hP hD hS (lv_sub hl [1, 2] rfl)
  · replace hF := if_f c_7 hF
    refine lv_iconst (v := (1 : Int32)) hx hb dX7_wordsOf_5 (by decide) ?_
    refine lv_goto (tgt := 10) hx hb dX7_wordsOf_6 (by decide) ?_
    subst hF
    exact hN_10_2 x01_1 _ _ _ hP hD hS (lv_sub hl [1, 2] rfl)
def f_X7_missesOf_L6 (v_t_stand : (Nat → Int32)) (i1 : Int32) (i2 : Int32) (i3 : Int32) (i4 : Int32) (s_t_villages : Int32) (v_t_marks : (Nat → Int32)) : Nat → Int32 → Int32 → Option (Int32)
  | 0, _, _ => none
  | n + 1, x5_1, x6_2 => (if (24 : Int32) ≤ x6_2 then some (x5_1) else gd x6_2 100 ((if (v_t_stand x6_2.toNatClampNeg) < (0 : Int32) then f_X7_missesOf_L6 v_t_stand i1 i2 i3 i4 s_t_villages v_t_marks n x5_1 (x6_2 + (1 : Int32)) else bd1 (f_X7_saysBy i1 i2 i3 i4 x6_2 100 s_t_villages v_t_stand v_t_marks) (fun (r_7 : Int32) => gd x6_2 100 ((if r_7 = (v_t_stand x6_2.toNatClampNeg) then f_X7_missesOf_L6 v_t_stand i1 i2 i3 i4 s_t_villages v_t_marks n (x5_1 + (0 : Int32)) (x6_2 + (1 : Int32)) else f_X7_missesOf_L6 v_t_stand i1 i2 i3 i4 s_t_villages v_t_marks n (x5_1 + (1 : Int32)) (x6_2 + (1 : Int32))))))))
def f_X7_missesOf (i1 : Int32) (i2 : Int32) (i3 : Int32) (i4 : Int32) (s_t_villages : Int32) (v_t_stand : (Nat → Int32)) (v_t_marks : (Nat → Int32)) : Option (Int32) := bd1 (f_X7_missesOf_L6 v_t_stand i1 i2 i3 i4 s_t_villages v_t_marks 1000 (0 : Int32) (0 : Int32)) (fun (y5_3 : Int32) => some (y5_3))
abbrev rmX7_missesOf : Room := { frames := 2, cells := 0, slots := 0, locals := 49 }
set_option maxHeartbeats 400000 in
set_option maxRecDepth 100000 in
theorem c_X7_missesOf (l : Launch) (D : va_G) (cI cB cJ : ClassId) (a_t : Nat) (a_t_stand : Nat) (a_t_on : Nat) (a_t_marks : Nat) (a_t_rule : Nat) (a_t_tape : Nat) (a_t_freshStand : Nat) (a_t_freshMarks : Nat) (a_t_freshRule : Nat) (a_t_shares : Nat) (a_t_said : Nat) (a_t_rows : Nat) (a_t_must : Nat) (a_t_sorts : Nat) (a_t_sizes : Nat) (a_t_sheets : Nat) (a_t_holds : Nat) (a_t_heldNumber : Nat) (a_t_heldSize : Nat) (a_t_traced : Nat) (a_t_keptRow : Nat) (a_t_single : Nat) (sz : Nat) (s_t_villages : Int32) (s_t_held : Int32) (s_t_z : Int32) (s_t_tapeMany : Int32) (s_t_sort : Int32) (s_t_begins : Int32) (s_t_tokenEnds : Int32) (s_t_word : Int64) (s_t_value : Int32) (s_t_good : Int32) (s_t_freshVillages : Int32) (s_t_freshHeld : Int32) (s_t_rowMany : Int32) (s_t_mustMany : Int32) (s_t_kind : Int32) (s_t_number : Int32) (s_t_own : Int32) (s_t_bodies : Int32) (s_t_isParted : Int32) (s_t_isKept : Int32) (s_t_movedTo : Int32) (v_t_stand : (Nat → Int32)) (v_t_marks : (Nat → Int32)) (i1 : Int32) (i2 : Int32) (i3 : Int32) (i4 : Int32) (r : Int32) (hF : f_X7_missesOf i1 i2 i3 i4 s_t_villages v_t_stand v_t_marks = some r) : xMi l yX7_missesOf (.code yX7_missesOf cX7_missesOf 7 (some .int) :: xU) rmX7_missesOf (xK D cI cB cJ) D sz [.ref a_t, .int i1, .int i2, .int i3, .int i4] [(a_t, .inr (7, [.ref a_t_stand, .ref a_t_on, .ref a_t_marks, .int s_t_villages, .int s_t_held, .ref a_t_rule, .int s_t_z, .ref a_t_tape, .int s_t_tapeMany, .int s_t_sort, .int s_t_begins, .int s_t_tokenEnds, .long s_t_word, .int s_t_value, .int s_t_good, .int s_t_freshVillages, .int s_t_freshHeld, .ref a_t_freshStand, .ref a_t_freshMarks, .ref a_t_freshRule, .ref a_t_shares, .ref a_t_said, .ref a_t_rows, .ref a_t_must, .int s_t_rowMany, .int s_t_mustMany, .ref a_t_sorts, .ref a_t_sizes, .ref a_t_sheets, .ref a_t_holds, .ref a_t_heldNumber, .ref a_t_heldSize, .int s_t_kind, .int s_t_number, .int s_t_own, .ref a_t_traced, .int s_t_bodies, .int s_t_isParted, .int s_t_isKept, .ref a_t_keptRow, .int s_t_movedTo, .ref a_t_single])), (a_t_stand, .inl (cI, 100, .inl v_t_stand)), (a_t_marks, .inl (cI, 100, .inl v_t_marks))] [(a_t, .inr (7, [.ref a_t_stand, .ref a_t_on, .ref a_t_marks, .int s_t_villages, .int s_t_held, .ref a_t_rule, .int s_t_z, .ref a_t_tape, .int s_t_tapeMany, .int s_t_sort, .int s_t_begins, .int s_t_tokenEnds, .long s_t_word, .int s_t_value, .int s_t_good, .int s_t_freshVillages, .int s_t_freshHeld, .ref a_t_freshStand, .ref a_t_freshMarks, .ref a_t_freshRule, .ref a_t_shares, .ref a_t_said, .ref a_t_rows, .ref a_t_must, .int s_t_rowMany, .int s_t_mustMany, .ref a_t_sorts, .ref a_t_sizes, .ref a_t_sheets, .ref a_t_holds, .ref a_t_heldNumber, .ref a_t_heldSize, .int s_t_kind, .int s_t_number, .int s_t_own, .ref a_t_traced, .int s_t_bodies, .int s_t_isParted, .int s_t_isKept, .ref a_t_keptRow, .int s_t_movedTo, .ref a_t_single])), (a_t_stand, .inl (cI, 100, .inl v_t_stand)), (a_t_marks, .inl (cI, 100, .inl v_t_marks))] r := by
  refine xMi.mk (own := "FairNextModel") (by decide +kernel) rfl (Nat.le_of_ble_eq_true rfl) ?_
  intro p e s m args below meth c A Q ls H hfix hK hP hD hA hS hl hEnd
  obtain ⟨hx, hb, hml, hown, hts⟩ := id hfix
  have hl : lv_has ls 7 [(0, .ref a_t), (1, .int i1), (2, .int i2), (3, .int i3), (4, .int i4)] := hl
  rw [f_X7_missesOf] at hF
  refine lv_iconst (v := (0 : Int32)) hx hb dX7_missesOf_0 (by decide) ?_
  refine lv_istore (lv' := [(5, .int (0 : Int32)), (0, .ref a_t), (1, .int i1), (2, .int i2), (3, .int i3), (4, .int i4)]) hx hb dX7_missesOf_1 hl (by decide) rfl (fun ls hl => ?_)
  refine lv_iconst (v := (0 : Int32)) hx hb dX7_missesOf_3 (by decide) ?_
  refine lv_istore (lv' := [(6, .int (0 : Int32)), (5, .int (0 : Int32)), (0, .ref a_t), (1, .int i1), (2, .int i2), (3, .int i3), (4, .int i4)]) hx hb dX7_missesOf_4 hl (by decide) rfl (fun ls hl => ?_)
  have hL_6 : ∀ (n : Nat) (x5_1 : Int32) (x6_2 : Int32) (y5_3 : Int32), f_X7_missesOf_L6 v_t_stand i1 i2 i3 i4 s_t_villages v_t_marks n x5_1 x6_2 = some y5_3 → ∀ (H : Heap) (locs : List Loc) (ls : Array Slot), va_P D vwCl [(a_t, .inr (7, [.ref a_t_stand, .ref a_t_on, .ref a_t_marks, .int s_t_villages, .int s_t_held, .ref a_t_rule, .int s_t_z, .ref a_t_tape, .int s_t_tapeMany, .int s_t_sort, .int s_t_begins, .int s_t_tokenEnds, .long s_t_word, .int s_t_value, .int s_t_good, .int s_t_freshVillages, .int s_t_freshHeld, .ref a_t_freshStand, .ref a_t_freshMarks, .ref a_t_freshRule, .ref a_t_shares, .ref a_t_said, .ref a_t_rows, .ref a_t_must, .int s_t_rowMany, .int s_t_mustMany, .ref a_t_sorts, .ref a_t_sizes, .ref a_t_sheets, .ref a_t_holds, .ref a_t_heldNumber, .ref a_t_heldSize, .int s_t_kind, .int s_t_number, .int s_t_own, .ref a_t_traced, .int s_t_bodies, .int s_t_isParted, .int s_t_isKept, .ref a_t_keptRow, .int s_t_movedTo, .ref a_t_single])), (a_t_stand, .inl (cI, 100, .inl v_t_stand)), (a_t_marks, .inl (cI, 100, .inl v_t_marks))] H → va_D A [(a_t, .inr (7, [.ref a_t_stand, .ref a_t_on, .ref a_t_marks, .int s_t_villages, .int s_t_held, .ref a_t_rule, .int s_t_z, .ref a_t_tape, .int s_t_tapeMany, .int s_t_sort, .int s_t_begins, .int s_t_tokenEnds, .long s_t_word, .int s_t_value, .int s_t_good, .int s_t_freshVillages, .int s_t_freshHeld, .ref a_t_freshStand, .ref a_t_freshMarks, .ref a_t_freshRule, .ref a_t_shares, .ref a_t_said, .ref a_t_rows, .ref a_t_must, .int s_t_rowMany, .int s_t_mustMany, .ref a_t_sorts, .ref a_t_sizes, .ref a_t_sheets, .ref a_t_holds, .ref a_t_heldNumber, .ref a_t_heldSize, .int s_t_kind, .int s_t_number, .int s_t_own, .ref a_t_traced, .int s_t_bodies, .int s_t_isParted, .int s_t_isKept, .ref a_t_keptRow, .int s_t_movedTo, .ref a_t_single])), (a_t_stand, .inl (cI, 100, .inl v_t_stand)), (a_t_marks, .inl (cI, 100, .inl v_t_marks))] → va_S A s.heap H locs → lv_has ls 7 [(0, .ref a_t), (1, .int i1), (2, .int i2), (3, .int i3), (4, .int i4), (5, .int x5_1), (6, .int x6_2)] → (∀ (H : Heap) (locs : List Loc) (ls : Array Slot), va_P D vwCl [(a_t, .inr (7, [.ref a_t_stand, .ref a_t_on, .ref a_t_marks, .int s_t_villages, .int s_t_held, .ref a_t_rule, .int s_t_z, .ref a_t_tape, .int s_t_tapeMany, .int s_t_sort, .int s_t_begins, .int s_t_tokenEnds, .long s_t_word, .int s_t_value, .int s_t_good, .int s_t_freshVillages, .int s_t_freshHeld, .ref a_t_freshStand, .ref a_t_freshMarks, .ref a_t_freshRule, .ref a_t_shares, .ref a_t_said, .ref a_t_rows, .ref a_t_must, .int s_t_rowMany, .int s_t_mustMany, .ref a_t_sorts, .ref a_t_sizes, .ref a_t_sheets, .ref a_t_holds, .ref a_t_heldNumber, .ref a_t_heldSize, .int s_t_kind, .int s_t_number, .int s_t_own, .ref a_t_traced, .int s_t_bodies, .int s_t_isParted, .int s_t_isKept, .ref a_t_keptRow, .int s_t_movedTo, .ref a_t_single])), (a_t_stand, .inl (cI, 100, .inl v_t_stand)), (a_t_marks, .inl (cI, 100, .inl v_t_marks))] H → va_D A [(a_t, .inr (7, [.ref a_t_stand, .ref a_t_on, .ref a_t_marks, .int s_t_villages, .int s_t_held, .ref a_t_rule, .int s_t_z, .ref a_t_tape, .int s_t_tapeMany, .int s_t_sort, .int s_t_begins, .int s_t_tokenEnds, .long s_t_word, .int s_t_value, .int s_t_good, .int s_t_freshVillages, .int s_t_freshHeld, .ref a_t_freshStand, .ref a_t_freshMarks, .ref a_t_freshRule, .ref a_t_shares, .ref a_t_said, .ref a_t_rows, .ref a_t_must, .int s_t_rowMany, .int s_t_mustMany, .ref a_t_sorts, .ref a_t_sizes, .ref a_t_sheets, .ref a_t_holds, .ref a_t_heldNumber, .ref a_t_heldSize, .int s_t_kind, .int s_t_number, .int s_t_own, .ref a_t_traced, .int s_t_bodies, .int s_t_isParted, .int s_t_isKept, .ref a_t_keptRow, .int s_t_movedTo, .ref a_t_single])), (a_t_stand, .inl (cI, 100, .inl v_t_stand)), (a_t_marks, .inl (cI, 100, .inl v_t_marks))] → va_S A s.heap H locs → lv_has ls 7 [(5, .int y5_3)] → W p l e rmX7_missesOf s m args below meth c H locs 0 0 Q (F0 m 64 ls [])) → W p l e rmX7_missesOf s m args below meth c H locs 0 0 Q (F0 m 6 ls []) := by
    intro n
    induction n with
    | zero => intro x5_1 x6_2 y5_3 hF; exact (no_some hF).elim
    | succ n ih =>
      intro x5_1 x6_2 y5_3 hF H locs ls hP hD hS hl kexit
      rw [f_X7_missesOf_L6] at hF
      refine lv_iload hx hb dX7_missesOf_6 (lv_at hl 6 rfl) ?_
      refine lv_bipush (v := (24 : Int32)) hx hb dX7_missesOf_8 (by decide) ?_
      refine lv_icmp_ge (tgt := 64) hx hb dX7_missesOf_10 (by decide) (fun c_4 => ?_) (fun c_4 => ?_)
      · replace hF := if_t c_4 hF
        obtain rfl := Option.some.inj hF
        exact kexit _ _ _ hP hD hS (lv_sub hl [5] rfl)
      · replace hF := if_f c_4 hF
        refine lv_aload_n hx hb dX7_missesOf_13 rfl (lv_at hl 0 rfl) ?_
        refine xget (ci := 7) (C := RX7) (T := TX7) (N := 42) hfix xiX7 hK.1 hP 0 rfl rfl 0 (by decide) rfl xw_688 rfl dX7_missesOf_14 ?_
        refine lv_iload hx hb dX7_missesOf_17 (lv_at hl 6 rfl) ?_
        obtain ⟨c_5, hF⟩ := gd_e hF
        refine va_iald hx hb hK.1 hP 1 0 rfl rfl c_5 dX7_missesOf_19 ?_
        refine lv_if_lt (tgt := 58) hx hb dX7_missesOf_20 (by decide) (fun c_6 => ?_) (fun c_6 => ?_)
        · replace hF := if_t c_6 hF
          refine lv_iinc (v := (x6_2 + (1 : Int32))) (lv' := [(6, .int (x6_2 + (1 : Int32))), (0, .ref a_t), (1, .int i1), (2, .int i2), (3, .int i3), (4, .int i4), (5, .int x5_1)]) hx hb dX7_missesOf_58 hl (k := 6) rfl rfl (by decide) rfl (fun ls hl => ?_)
          refine lv_goto (tgt := 6) hx hb dX7_missesOf_61 (by decide) ?_
          exact ih _ _ _ hF _ _ _ hP hD hS (lv_sub hl [1, 2, 3, 4, 5, 6, 0] rfl) kexit
        · replace hF := if_f c_6 hF
          refine lv_iload hx hb dX7_missesOf_23 (lv_at hl 5 rfl) ?_
          refine lv_aload_n hx hb dX7_missesOf_25 rfl (lv_at hl 0 rfl) ?_
          refine lv_iload_n hx hb dX7_missesOf_26 rfl (lv_at hl 1 rfl) ?_
          refine lv_iload_n hx hb dX7_missesOf_27 rfl (lv_at hl 2 rfl) ?_
          refine lv_iload_n hx hb dX7_missesOf_28 rfl (lv_at hl 3 rfl) ?_
          refine lv_iload hx hb dX7_missesOf_29 (lv_at hl 4 rfl) ?_
          refine lv_iload hx hb dX7_missesOf_31 (lv_at hl 6 rfl) ?_
          refine lv_aload_n hx hb dX7_missesOf_33 rfl (lv_at hl 0 rfl) ?_
          refine xget (ci := 7) (C := RX7) (T := TX7) (N := 42) hfix xiX7 hK.1 hP 0 rfl rfl 0 (by decide) rfl xw_688 rfl dX7_missesOf_34 ?_
          obtain ⟨r_7, hq_8, hF⟩ := bd1_e hF
          refine xri0 (xrunV (As := [.int i1, .int i2, .int i3, .int i4, .int x6_2, .ref a_t_stand]) (rest := [.int x5_1]) (c_X7_saysBy l D cI cB cJ a_t a_t_stand a_t_on a_t_marks a_t_rule a_t_tape a_t_freshStand a_t_freshMarks a_t_freshRule a_t_shares a_t_said a_t_rows a_t_must a_t_sorts a_t_sizes a_t_sheets a_t_holds a_t_heldNumber a_t_heldSize a_t_traced a_t_keptRow a_t_single a_t_stand _ 100 s_t_villages s_t_held s_t_z s_t_tapeMany s_t_sort s_t_begins s_t_tokenEnds s_t_word s_t_value s_t_good s_t_freshVillages s_t_freshHeld s_t_rowMany s_t_mustMany s_t_kind s_t_number s_t_own s_t_bodies s_t_isParted s_t_isKept s_t_movedTo v_t_stand v_t_marks i1 i2 i3 i4 x6_2 r_7 hq_8) hfix xw_936 yv_X7_saysBy ⟨rfl, rfl⟩ ⟨(Nat.le_of_ble_eq_true rfl), (Nat.le_of_ble_eq_true rfl)⟩ xKk_K (fun U hU hW => xK.warm hW hK) hK.1 hP hD [0, 1, 2] rfl rfl 0 7 rfl rfl rfl rfl hl.1 rfl (Nat.le_of_ble_eq_true rfl) dX7_missesOf_37 ⟨Nat.zero_le _, Nat.zero_le _⟩) hP hD hS hA [0, 1, 2] rfl rfl (fun H locs hP hD hS => ?_)
          refine lv_aload_n hx hb dX7_missesOf_40 rfl (lv_at hl 0 rfl) ?_
          refine xget (ci := 7) (C := RX7) (T := TX7) (N := 42) hfix xiX7 hK.1 hP 0 rfl rfl 0 (by decide) rfl xw_688 rfl dX7_missesOf_41 ?_
          refine lv_iload hx hb dX7_missesOf_44 (lv_at hl 6 rfl) ?_
          obtain ⟨c_9, hF⟩ := gd_e hF
          refine va_iald hx hb hK.1 hP 1 0 rfl rfl c_9 dX7_missesOf_46 ?_
          refine lv_icmp_ne (tgt := 54) hx hb dX7_missesOf_47 (by decide) (fun c_10 => ?_) (fun c_10 => ?_)
          · replace hF := if_f c_10 hF
            refine lv_iconst (v := (1 : Int32)) hx hb dX7_missesOf_54 (by decide) ?_
            refine lv_iadd hx hb dX7_missesOf_55 ?_
            refine lv_istore (lv' := [(5, .int (x5_1 + (1 : Int32))), (0, .ref a_t), (1, .int i1), (2, .int i2), (3, .int i3), (4, .int i4), (6, .int x6_2)]) hx hb dX7_missesOf_56 hl (by decide) rfl (fun ls hl => ?_)
            refine lv_iinc (v := (x6_2 + (1 : Int32))) (lv' := [(6, .int (x6_2 + (1 : Int32))), (5, .int (x5_1 + (1 : Int32))), (0, .ref a_t), (1, .int i1), (2, .int i2), (3, .int i3), (4, .int i4)]) hx hb dX7_missesOf_58 hl (k := 6) rfl rfl (by decide) rfl (fun ls hl => ?_)
            refine lv_goto (tgt := 6) hx hb dX7_missesOf_61 (by decide) ?_
            exact ih _ _ _ hF _ _ _ hP hD hS (lv_sub hl [2, 3, 4, 5, 6, 1, 0] rfl) kexit
          · replace hF := if_t c_10 hF
            refine lv_iconst (v := (0 : Int32)) hx hb dX7_missesOf_50 (by decide) ?_
            refine lv_goto (tgt := 55) hx hb dX7_missesOf_51 (by decide) ?_
            refine lv_iadd hx hb dX7_missesOf_55 ?_
            refine lv_istore (lv' := [(5, .int (x5_1 + (0 : Int32))), (0, .ref a_t), (1, .int i1), (2, .int i2), (3, .int i3), (4, .int i4), (6, .int x6_2)]) hx hb dX7_missesOf_56 hl (by decide) rfl (fun ls hl => ?_)
            refine lv_iinc (v := (x6_2 + (1 : Int32))) (lv' := [(6, .int (x6_2 + (1 : Int32))), (5, .int (x5_1 + (0 : Int32))), (0, .ref a_t), (1, .int i1), (2, .int i2), (3, .int i3), (4, .int i4)]) hx hb dX7_missesOf_58 hl (k := 6) rfl rfl (by decide) rfl (fun ls hl => ?_)
            refine lv_goto (tgt := 6) hx hb dX7_missesOf_61 (by decide) ?_
            exact ih _ _ _ hF _ _ _ hP hD hS (lv_sub hl [2, 3, 4, 5, 6, 1, 0] rfl) kexit
  obtain ⟨y5_3, hq, hF⟩ := bd1_e hF
  refine hL_6 _ _ _ _ hq _ _ _ hP hD hS (lv_sub hl [2, 3, 4, 5, 6, 1, 0] rfl) (fun H locs ls hP hD hS hl => ?_)
  refine lv_iload hx hb dX7_missesOf_64 (lv_at hl 0 rfl) ?_
  obtain rfl := Option.some.inj hF
  exact hEnd _ _ _ _ _ dX7_missesOf_66 hP hS rfl
def f_X7_hold (i1 : Int32) (i2 : Int32) (i3 : Int32) (i4 : Int32) (s_t_held : Int32) (v_t_rule : (Nat → Int32)) : Option (Int32 × Int32 × (Nat → Int32)) := (if (f_X7_in i1 (0 : Int32) (5 : Int32)) = (0 : Int32) then some (((-1 : Int32), s_t_held, v_t_rule)) else (if (f_X7_in i2 (0 : Int32) (4 : Int32)) = (0 : Int32) then some (((-1 : Int32), s_t_held, v_t_rule)) else (if (f_X7_in i3 (0 : Int32) (4 : Int32)) = (0 : Int32) then some (((-1 : Int32), s_t_held, v_t_rule)) else (if (f_X7_in i4 (1 : Int32) (4 : Int32)) = (0 : Int32) then some (((-1 : Int32), s_t_held, v_t_rule)) else (if s_t_held = (6 : Int32) then some (((-2 : Int32), s_t_held, v_t_rule)) else gd ((4 : Int32) * s_t_held) 24 (gd (((4 : Int32) * s_t_held) + (1 : Int32)) 24 (gd (((4 : Int32) * s_t_held) + (2 : Int32)) 24 (gd (((4 : Int32) * s_t_held) + (3 : Int32)) 24 (some ((((s_t_held + (1 : Int32)) - (1 : Int32)), (s_t_held + (1 : Int32)), (upd (upd (upd (upd v_t_rule ((4 : Int32) * s_t_held).toNatClampNeg i1) (((4 : Int32) * s_t_held) + (1 : Int32)).toNatClampNeg i2) (((4 : Int32) * s_t_held) + (2 : Int32)).toNatClampNeg i3) (((4 : Int32) * s_t_held) + (3 : Int32)).toNatClampNeg i4))))))))))))
abbrev rmX7_hold : Room := { frames := 1, cells := 0, slots := 0, locals := 22 }
set_option maxHeartbeats 400000 in
set_option maxRecDepth 100000 in
theorem c_X7_hold (l : Launch) (D : va_G) (cI cB cJ : ClassId) (a_t : Nat) (a_t_stand : Nat) (a_t_on : Nat) (a_t_marks : Nat) (a_t_rule : Nat) (a_t_tape : Nat) (a_t_freshStand : Nat) (a_t_freshMarks : Nat) (a_t_freshRule : Nat) (a_t_shares : Nat) (a_t_said : Nat) (a_t_rows : Nat) (a_t_must : Nat) (a_t_sorts : Nat) (a_t_sizes : Nat) (a_t_sheets : Nat) (a_t_holds : Nat) (a_t_heldNumber : Nat) (a_t_heldSize : Nat) (a_t_traced : Nat) (a_t_keptRow : Nat) (a_t_single : Nat) (sz : Nat) (s_t_villages : Int32) (s_t_held : Int32) (s_t_z : Int32) (s_t_tapeMany : Int32) (s_t_sort : Int32) (s_t_begins : Int32) (s_t_tokenEnds : Int32) (s_t_word : Int64) (s_t_value : Int32) (s_t_good : Int32) (s_t_freshVillages : Int32) (s_t_freshHeld : Int32) (s_t_rowMany : Int32) (s_t_mustMany : Int32) (s_t_kind : Int32) (s_t_number : Int32) (s_t_own : Int32) (s_t_bodies : Int32) (s_t_isParted : Int32) (s_t_isKept : Int32) (s_t_movedTo : Int32) (v_t_rule : (Nat → Int32)) (i1 : Int32) (i2 : Int32) (i3 : Int32) (i4 : Int32) (r : Int32) (o_s_t_held : Int32) (o_v_t_rule : (Nat → Int32)) (hF : f_X7_hold i1 i2 i3 i4 s_t_held v_t_rule = some (r, o_s_t_held, o_v_t_rule)) : xMi l yX7_hold (.code yX7_hold cX7_hold 5 (some .int) :: xU) rmX7_hold (xK D cI cB cJ) D sz [.ref a_t, .int i1, .int i2, .int i3, .int i4] [(a_t, .inr (7, [.ref a_t_stand, .ref a_t_on, .ref a_t_marks, .int s_t_villages, .int s_t_held, .ref a_t_rule, .int s_t_z, .ref a_t_tape, .int s_t_tapeMany, .int s_t_sort, .int s_t_begins, .int s_t_tokenEnds, .long s_t_word, .int s_t_value, .int s_t_good, .int s_t_freshVillages, .int s_t_freshHeld, .ref a_t_freshStand, .ref a_t_freshMarks, .ref a_t_freshRule, .ref a_t_shares, .ref a_t_said, .ref a_t_rows, .ref a_t_must, .int s_t_rowMany, .int s_t_mustMany, .ref a_t_sorts, .ref a_t_sizes, .ref a_t_sheets, .ref a_t_holds, .ref a_t_heldNumber, .ref a_t_heldSize, .int s_t_kind, .int s_t_number, .int s_t_own, .ref a_t_traced, .int s_t_bodies, .int s_t_isParted, .int s_t_isKept, .ref a_t_keptRow, .int s_t_movedTo, .ref a_t_single])), (a_t_rule, .inl (cI, 24, .inl v_t_rule))] [(a_t, .inr (7, [.ref a_t_stand, .ref a_t_on, .ref a_t_marks, .int s_t_villages, .int o_s_t_held, .ref a_t_rule, .int s_t_z, .ref a_t_tape, .int s_t_tapeMany, .int s_t_sort, .int s_t_begins, .int s_t_tokenEnds, .long s_t_word, .int s_t_value, .int s_t_good, .int s_t_freshVillages, .int s_t_freshHeld, .ref a_t_freshStand, .ref a_t_freshMarks, .ref a_t_freshRule, .ref a_t_shares, .ref a_t_said, .ref a_t_rows, .ref a_t_must, .int s_t_rowMany, .int s_t_mustMany, .ref a_t_sorts, .ref a_t_sizes, .ref a_t_sheets, .ref a_t_holds, .ref a_t_heldNumber, .ref a_t_heldSize, .int s_t_kind, .int s_t_number, .int s_t_own, .ref a_t_traced, .int s_t_bodies, .int s_t_isParted, .int s_t_isKept, .ref a_t_keptRow, .int s_t_movedTo, .ref a_t_single])), (a_t_rule, .inl (cI, 24, .inl o_v_t_rule))] r := by
  refine xMi.mk (own := "FairNextModel") (by decide +kernel) rfl (Nat.le_of_ble_eq_true rfl) ?_
  intro p e s m args below meth c A Q ls H hfix hK hP hD hA hS hl hEnd
  obtain ⟨hx, hb, hml, hown, hts⟩ := id hfix
  have hl : lv_has ls 5 [(0, .ref a_t), (1, .int i1), (2, .int i2), (3, .int i3), (4, .int i4)] := hl
  rw [f_X7_hold] at hF
  refine lv_iload_n hx hb dX7_hold_0 rfl (lv_at hl 1 rfl) ?_
  refine lv_iconst (v := (0 : Int32)) hx hb dX7_hold_1 (by decide) ?_
  refine lv_iconst (v := (5 : Int32)) hx hb dX7_hold_2 (by decide) ?_
  refine xrz0 (xrunS (As := [.int i1, .int (0 : Int32), .int (5 : Int32)]) (rest := []) (c_X7_in l D cI cB cJ _ i1 (0 : Int32) (5 : Int32) (f_X7_in i1 (0 : Int32) (5 : Int32)) rfl) hfix xw_819 ys_X7_in ⟨rfl, rfl⟩ ⟨(Nat.le_of_ble_eq_true rfl), (Nat.le_of_ble_eq_true rfl)⟩ xKk_K (fun U hU hW => xK.warm hW hK) hP hD [] rfl rfl rfl hl.1 rfl (Nat.le_of_ble_eq_true rfl) dX7_hold_3 ⟨Nat.zero_le _, Nat.zero_le _⟩) hP hD hS hA [] rfl rfl (fun H locs hP hD hS hz_1 => ?_)
  refine lv_if_eq (tgt := 37) hx hb dX7_hold_6 (by decide) (fun c_2 => ?_) (fun c_2 => ?_)
  · replace hF := if_t c_2 hF
    refine lv_iconst (v := (-1 : Int32)) hx hb dX7_hold_37 (by decide) ?_
    obtain ⟨rfl, rfl, rfl⟩ := pj3 hF
    exact hEnd _ _ _ _ _ dX7_hold_38 hP hS rfl
  · replace hF := if_f c_2 hF
    refine lv_iload_n hx hb dX7_hold_9 rfl (lv_at hl 2 rfl) ?_
    refine lv_iconst (v := (0 : Int32)) hx hb dX7_hold_10 (by decide) ?_
    refine lv_iconst (v := (4 : Int32)) hx hb dX7_hold_11 (by decide) ?_
    refine xrz0 (xrunS (As := [.int i2, .int (0 : Int32), .int (4 : Int32)]) (rest := []) (c_X7_in l D cI cB cJ _ i2 (0 : Int32) (4 : Int32) (f_X7_in i2 (0 : Int32) (4 : Int32)) rfl) hfix xw_819 ys_X7_in ⟨rfl, rfl⟩ ⟨(Nat.le_of_ble_eq_true rfl), (Nat.le_of_ble_eq_true rfl)⟩ xKk_K (fun U hU hW => xK.warm hW hK) hP hD [] rfl rfl rfl hl.1 rfl (Nat.le_of_ble_eq_true rfl) dX7_hold_12 ⟨Nat.zero_le _, Nat.zero_le _⟩) hP hD hS hA [] rfl rfl (fun H locs hP hD hS hz_3 => ?_)
    refine lv_if_eq (tgt := 37) hx hb dX7_hold_15 (by decide) (fun c_4 => ?_) (fun c_4 => ?_)
    · replace hF := if_t c_4 hF
      refine lv_iconst (v := (-1 : Int32)) hx hb dX7_hold_37 (by decide) ?_
      obtain ⟨rfl, rfl, rfl⟩ := pj3 hF
      exact hEnd _ _ _ _ _ dX7_hold_38 hP hS rfl
    · replace hF := if_f c_4 hF
      refine lv_iload_n hx hb dX7_hold_18 rfl (lv_at hl 3 rfl) ?_
      refine lv_iconst (v := (0 : Int32)) hx hb dX7_hold_19 (by decide) ?_
      refine lv_iconst (v := (4 : Int32)) hx hb dX7_hold_20 (by decide) ?_
      refine xrz0 (xrunS (As := [.int i3, .int (0 : Int32), .int (4 : Int32)]) (rest := []) (c_X7_in l D cI cB cJ _ i3 (0 : Int32) (4 : Int32) (f_X7_in i3 (0 : Int32) (4 : Int32)) rfl) hfix xw_819 ys_X7_in ⟨rfl, rfl⟩ ⟨(Nat.le_of_ble_eq_true rfl), (Nat.le_of_ble_eq_true rfl)⟩ xKk_K (fun U hU hW => xK.warm hW hK) hP hD [] rfl rfl rfl hl.1 rfl (Nat.le_of_ble_eq_true rfl) dX7_hold_21 ⟨Nat.zero_le _, Nat.zero_le _⟩) hP hD hS hA [] rfl rfl (fun H locs hP hD hS hz_5 => ?_)
      refine lv_if_eq (tgt := 37) hx hb dX7_hold_24 (by decide) (fun c_6 => ?_) (fun c_6 => ?_)
      · replace hF := if_t c_6 hF
        refine lv_iconst (v := (-1 : Int32)) hx hb dX7_hold_37 (by decide) ?_
        obtain ⟨rfl, rfl, rfl⟩ := pj3 hF
        exact hEnd _ _ _ _ _ dX7_hold_38 hP hS rfl
      · replace hF := if_f c_6 hF
        refine lv_iload hx hb dX7_hold_27 (lv_at hl 4 rfl) ?_
        refine lv_iconst (v := (1 : Int32)) hx hb dX7_hold_29 (by decide) ?_
        refine lv_iconst (v := (4 : Int32)) hx hb dX7_hold_30 (by decide) ?_
        refine xrz0 (xrunS (As := [.int i4, .int (1 : Int32), .int (4 : Int32)]) (rest := []) (c_X7_in l D cI cB cJ _ i4 (1 : Int32) (4 : Int32) (f_X7_in i4 (1 : Int32) (4 : Int32)) rfl) hfix xw_819 ys_X7_in ⟨rfl, rfl⟩ ⟨(Nat.le_of_ble_eq_true rfl), (Nat.le_of_ble_eq_true rfl)⟩ xKk_K (fun U hU hW => xK.warm hW hK) hP hD [] rfl rfl rfl hl.1 rfl (Nat.le_of_ble_eq_true rfl) dX7_hold_31 ⟨Nat.zero_le _, Nat.zero_le _⟩) hP hD hS hA [] rfl rfl (fun H locs hP hD hS hz_7 => ?_)
        refine lv_if_ne (tgt := 39) hx hb dX7_hold_34 (by decide) (fun c_8 => ?_) (fun c_8 => ?_)
        · replace hF := if_f c_8 hF
          refine lv_aload_n hx hb dX7_hold_39 rfl (lv_at hl 0 rfl) ?_
          refine xget (ci := 7) (C := RX7) (T := TX7) (N := 42) hfix xiX7 hK.1 hP 0 rfl rfl 4 (by decide) rfl xw_692 rfl dX7_hold_40 ?_
          refine lv_bipush (v := (6 : Int32)) hx hb dX7_hold_43 (by decide) ?_
          refine lv_icmp_ne (tgt := 51) hx hb dX7_hold_45 (by decide) (fun c_9 => ?_) (fun c_9 => ?_)
          · replace hF := if_f c_9 hF
            refine lv_aload_n hx hb dX7_hold_51 rfl (lv_at hl 0 rfl) ?_
            refine xget (ci := 7) (C := RX7) (T := TX7) (N := 42) hfix xiX7 hK.1 hP 0 rfl rfl 5 (by decide) rfl xw_693 rfl dX7_hold_52 ?_
            refine lv_iconst (v := (4 : Int32)) hx hb dX7_hold_55 (by decide) ?_
            refine lv_aload_n hx hb dX7_hold_56 rfl (lv_at hl 0 rfl) ?_
            refine xget (ci := 7) (C := RX7) (T := TX7) (N := 42) hfix xiX7 hK.1 hP 0 rfl rfl 4 (by decide) rfl xw_692 rfl dX7_hold_57 ?_
            refine lv_imul hx hb dX7_hold_60 ?_
            refine lv_iload_n hx hb dX7_hold_61 rfl (lv_at hl 1 rfl) ?_
            obtain ⟨c_10, hF⟩ := gd_e hF
            refine va_iast hx hb hK.1 hP hD hS 1 0 rfl rfl c_10 dX7_hold_62 (fun H locs hP hD hS => ?_)
            have hP : va_P D vwCl [(a_t, .inr (7, [.ref a_t_stand, .ref a_t_on, .ref a_t_marks, .int s_t_villages, .int s_t_held, .ref a_t_rule, .int s_t_z, .ref a_t_tape, .int s_t_tapeMany, .int s_t_sort, .int s_t_begins, .int s_t_tokenEnds, .long s_t_word, .int s_t_value, .int s_t_good, .int s_t_freshVillages, .int s_t_freshHeld, .ref a_t_freshStand, .ref a_t_freshMarks, .ref a_t_freshRule, .ref a_t_shares, .ref a_t_said, .ref a_t_rows, .ref a_t_must, .int s_t_rowMany, .int s_t_mustMany, .ref a_t_sorts, .ref a_t_sizes, .ref a_t_sheets, .ref a_t_holds, .ref a_t_heldNumber, .ref a_t_heldSize, .int s_t_kind, .int s_t_number, .int s_t_own, .ref a_t_traced, .int s_t_bodies, .int s_t_isParted, .int s_t_isKept, .ref a_t_keptRow, .int s_t_movedTo, .ref a_t_single])), (a_t_rule, .inl (cI, 24, .inl (upd v_t_rule ((4 : Int32) * s_t_held).toNatClampNeg i1)))] H := hP
            have hD : va_D A [(a_t, .inr (7, [.ref a_t_stand, .ref a_t_on, .ref a_t_marks, .int s_t_villages, .int s_t_held, .ref a_t_rule, .int s_t_z, .ref a_t_tape, .int s_t_tapeMany, .int s_t_sort, .int s_t_begins, .int s_t_tokenEnds, .long s_t_word, .int s_t_value, .int s_t_good, .int s_t_freshVillages, .int s_t_freshHeld, .ref a_t_freshStand, .ref a_t_freshMarks, .ref a_t_freshRule, .ref a_t_shares, .ref a_t_said, .ref a_t_rows, .ref a_t_must, .int s_t_rowMany, .int s_t_mustMany, .ref a_t_sorts, .ref a_t_sizes, .ref a_t_sheets, .ref a_t_holds, .ref a_t_heldNumber, .ref a_t_heldSize, .int s_t_kind, .int s_t_number, .int s_t_own, .ref a_t_traced, .int s_t_bodies, .int s_t_isParted, .int s_t_isKept, .ref a_t_keptRow, .int s_t_movedTo, .ref a_t_single])), (a_t_rule, .inl (cI, 24, .inl (upd v_t_rule ((4 : Int32) * s_t_held).toNatClampNeg i1)))] := hD
            refine lv_aload_n hx hb dX7_hold_63 rfl (lv_at hl 0 rfl) ?_
            refine xget (ci := 7) (C := RX7) (T := TX7) (N := 42) hfix xiX7 hK.1 hP 0 rfl rfl 5 (by decide) rfl xw_693 rfl dX7_hold_64 ?_
            refine lv_iconst (v := (4 : Int32)) hx hb dX7_hold_67 (by decide) ?_
            refine lv_aload_n hx hb dX7_hold_68 rfl (lv_at hl 0 rfl) ?_
            refine xget (ci := 7) (C := RX7) (T := TX7) (N := 42) hfix xiX7 hK.1 hP 0 rfl rfl 4 (by decide) rfl xw_692 rfl dX7_hold_69 ?_
            refine lv_imul hx hb dX7_hold_72 ?_
            refine lv_iconst (v := (1 : Int32)) hx hb dX7_hold_73 (by decide) ?_
            refine lv_iadd hx hb dX7_hold_74 ?_
            refine lv_iload_n hx hb dX7_hold_75 rfl (lv_at hl 2 rfl) ?_
            obtain ⟨c_11, hF⟩ := gd_e hF
            refine va_iast hx hb hK.1 hP hD hS 1 0 rfl rfl c_11 dX7_hold_76 (fun H locs hP hD hS => ?_)
            have hP : va_P D vwCl [(a_t, .inr (7, [.ref a_t_stand, .ref a_t_on, .ref a_t_marks, .int s_t_villages, .int s_t_held, .ref a_t_rule, .int s_t_z, .ref a_t_tape, .int s_t_tapeMany, .int s_t_sort, .int s_t_begins, .int s_t_tokenEnds, .long s_t_word, .int s_t_value, .int s_t_good, .int s_t_freshVillages, .int s_t_freshHeld, .ref a_t_freshStand, .ref a_t_freshMarks, .ref a_t_freshRule, .ref a_t_shares, .ref a_t_said, .ref a_t_rows, .ref a_t_must, .int s_t_rowMany, .int s_t_mustMany, .ref a_t_sorts, .ref a_t_sizes, .ref a_t_sheets, .ref a_t_holds, .ref a_t_heldNumber, .ref a_t_heldSize, .int s_t_kind, .int s_t_number, .int s_t_own, .ref a_t_traced, .int s_t_bodies, .int s_t_isParted, .int s_t_isKept, .ref a_t_keptRow, .int s_t_movedTo, .ref a_t_single])), (a_t_rule, .inl (cI, 24, .inl (upd (upd v_t_rule ((4 : Int32) * s_t_held).toNatClampNeg i1) (((4 : Int32) * s_t_held) + (1 : Int32)).toNatClampNeg i2)))] H := hP
            have hD : va_D A [(a_t, .inr (7, [.ref a_t_stand, .ref a_t_on, .ref a_t_marks, .int s_t_villages, .int s_t_held, .ref a_t_rule, .int s_t_z, .ref a_t_tape, .int s_t_tapeMany, .int s_t_sort, .int s_t_begins, .int s_t_tokenEnds, .long s_t_word, .int s_t_value, .int s_t_good, .int s_t_freshVillages, .int s_t_freshHeld, .ref a_t_freshStand, .ref a_t_freshMarks, .ref a_t_freshRule, .ref a_t_shares, .ref a_t_said, .ref a_t_rows, .ref a_t_must, .int s_t_rowMany, .int s_t_mustMany, .ref a_t_sorts, .ref a_t_sizes, .ref a_t_sheets, .ref a_t_holds, .ref a_t_heldNumber, .ref a_t_heldSize, .int s_t_kind, .int s_t_number, .int s_t_own, .ref a_t_traced, .int s_t_bodies, .int s_t_isParted, .int s_t_isKept, .ref a_t_keptRow, .int s_t_movedTo, .ref a_t_single])), (a_t_rule, .inl (cI, 24, .inl (upd (upd v_t_rule ((4 : Int32) * s_t_held).toNatClampNeg i1) (((4 : Int32) * s_t_held) + (1 : Int32)).toNatClampNeg i2)))] := hD
            refine lv_aload_n hx hb dX7_hold_77 rfl (lv_at hl 0 rfl) ?_
            refine xget (ci := 7) (C := RX7) (T := TX7) (N := 42) hfix xiX7 hK.1 hP 0 rfl rfl 5 (by decide) rfl xw_693 rfl dX7_hold_78 ?_
            refine lv_iconst (v := (4 : Int32)) hx hb dX7_hold_81 (by decide) ?_
            refine lv_aload_n hx hb dX7_hold_82 rfl (lv_at hl 0 rfl) ?_
            refine xget (ci := 7) (C := RX7) (T := TX7) (N := 42) hfix xiX7 hK.1 hP 0 rfl rfl 4 (by decide) rfl xw_692 rfl dX7_hold_83 ?_
            refine lv_imul hx hb dX7_hold_86 ?_
            refine lv_iconst (v := (2 : Int32)) hx hb dX7_hold_87 (by decide) ?_
            refine lv_iadd hx hb dX7_hold_88 ?_
            refine lv_iload_n hx hb dX7_hold_89 rfl (lv_at hl 3 rfl) ?_
            obtain ⟨c_12, hF⟩ := gd_e hF
            refine va_iast hx hb hK.1 hP hD hS 1 0 rfl rfl c_12 dX7_hold_90 (fun H locs hP hD hS => ?_)
            have hP : va_P D vwCl [(a_t, .inr (7, [.ref a_t_stand, .ref a_t_on, .ref a_t_marks, .int s_t_villages, .int s_t_held, .ref a_t_rule, .int s_t_z, .ref a_t_tape, .int s_t_tapeMany, .int s_t_sort, .int s_t_begins, .int s_t_tokenEnds, .long s_t_word, .int s_t_value, .int s_t_good, .int s_t_freshVillages, .int s_t_freshHeld, .ref a_t_freshStand, .ref a_t_freshMarks, .ref a_t_freshRule, .ref a_t_shares, .ref a_t_said, .ref a_t_rows, .ref a_t_must, .int s_t_rowMany, .int s_t_mustMany, .ref a_t_sorts, .ref a_t_sizes, .ref a_t_sheets, .ref a_t_holds, .ref a_t_heldNumber, .ref a_t_heldSize, .int s_t_kind, .int s_t_number, .int s_t_own, .ref a_t_traced, .int s_t_bodies, .int s_t_isParted, .int s_t_isKept, .ref a_t_keptRow, .int s_t_movedTo, .ref a_t_single])), (a_t_rule, .inl (cI, 24, .inl (upd (upd (upd v_t_rule ((4 : Int32) * s_t_held).toNatClampNeg i1) (((4 : Int32) * s_t_held) + (1 : Int32)).toNatClampNeg i2) (((4 : Int32) * s_t_held) + (2 : Int32)).toNatClampNeg i3)))] H := hP
            have hD : va_D A [(a_t, .inr (7, [.ref a_t_stand, .ref a_t_on, .ref a_t_marks, .int s_t_villages, .int s_t_held, .ref a_t_rule, .int s_t_z, .ref a_t_tape, .int s_t_tapeMany, .int s_t_sort, .int s_t_begins, .int s_t_tokenEnds, .long s_t_word, .int s_t_value, .int s_t_good, .int s_t_freshVillages, .int s_t_freshHeld, .ref a_t_freshStand, .ref a_t_freshMarks, .ref a_t_freshRule, .ref a_t_shares, .ref a_t_said, .ref a_t_rows, .ref a_t_must, .int s_t_rowMany, .int s_t_mustMany, .ref a_t_sorts, .ref a_t_sizes, .ref a_t_sheets, .ref a_t_holds, .ref a_t_heldNumber, .ref a_t_heldSize, .int s_t_kind, .int s_t_number, .int s_t_own, .ref a_t_traced, .int s_t_bodies, .int s_t_isParted, .int s_t_isKept, .ref a_t_keptRow, .int s_t_movedTo, .ref a_t_single])), (a_t_rule, .inl (cI, 24, .inl (upd (upd (upd v_t_rule ((4 : Int32) * s_t_held).toNatClampNeg i1) (((4 : Int32) * s_t_held) + (1 : Int32)).toNatClampNeg i2) (((4 : Int32) * s_t_held) + (2 : Int32)).toNatClampNeg i3)))] := hD
            refine lv_aload_n hx hb dX7_hold_91 rfl (lv_at hl 0 rfl) ?_
            refine xget (ci := 7) (C := RX7) (T := TX7) (N := 42) hfix xiX7 hK.1 hP 0 rfl rfl 5 (by decide) rfl xw_693 rfl dX7_hold_92 ?_
            refine lv_iconst (v := (4 : Int32)) hx hb dX7_hold_95 (by decide) ?_
            refine lv_aload_n hx hb dX7_hold_96 rfl (lv_at hl 0 rfl) ?_
            refine xget (ci := 7) (C := RX7) (T := TX7) (N := 42) hfix xiX7 hK.1 hP 0 rfl rfl 4 (by decide) rfl xw_692 rfl dX7_hold_97 ?_
            refine lv_imul hx hb dX7_hold_100 ?_
            refine lv_iconst (v := (3 : Int32)) hx hb dX7_hold_101 (by decide) ?_
            refine lv_iadd hx hb dX7_hold_102 ?_
            refine lv_iload hx hb dX7_hold_103 (lv_at hl 4 rfl) ?_
            obtain ⟨c_13, hF⟩ := gd_e hF
            refine va_iast hx hb hK.1 hP hD hS 1 0 rfl rfl c_13 dX7_hold_105 (fun H locs hP hD hS => ?_)
            have hP : va_P D vwCl [(a_t, .inr (7, [.ref a_t_stand, .ref a_t_on, .ref a_t_marks, .int s_t_villages, .int s_t_held, .ref a_t_rule, .int s_t_z, .ref a_t_tape, .int s_t_tapeMany, .int s_t_sort, .int s_t_begins, .int s_t_tokenEnds, .long s_t_word, .int s_t_value, .int s_t_good, .int s_t_freshVillages, .int s_t_freshHeld, .ref a_t_freshStand, .ref a_t_freshMarks, .ref a_t_freshRule, .ref a_t_shares, .ref a_t_said, .ref a_t_rows, .ref a_t_must, .int s_t_rowMany, .int s_t_mustMany, .ref a_t_sorts, .ref a_t_sizes, .ref a_t_sheets, .ref a_t_holds, .ref a_t_heldNumber, .ref a_t_heldSize, .int s_t_kind, .int s_t_number, .int s_t_own, .ref a_t_traced, .int s_t_bodies, .int s_t_isParted, .int s_t_isKept, .ref a_t_keptRow, .int s_t_movedTo, .ref a_t_single])), (a_t_rule, .inl (cI, 24, .inl (upd (upd (upd (upd v_t_rule ((4 : Int32) * s_t_held).toNatClampNeg i1) (((4 : Int32) * s_t_held) + (1 : Int32)).toNatClampNeg i2) (((4 : Int32) * s_t_held) + (2 : Int32)).toNatClampNeg i3) (((4 : Int32) * s_t_held) + (3 : Int32)).toNatClampNeg i4)))] H := hP
            have hD : va_D A [(a_t, .inr (7, [.ref a_t_stand, .ref a_t_on, .ref a_t_marks, .int s_t_villages, .int s_t_held, .ref a_t_rule, .int s_t_z, .ref a_t_tape, .int s_t_tapeMany, .int s_t_sort, .int s_t_begins, .int s_t_tokenEnds, .long s_t_word, .int s_t_value, .int s_t_good, .int s_t_freshVillages, .int s_t_freshHeld, .ref a_t_freshStand, .ref a_t_freshMarks, .ref a_t_freshRule, .ref a_t_shares, .ref a_t_said, .ref a_t_rows, .ref a_t_must, .int s_t_rowMany, .int s_t_mustMany, .ref a_t_sorts, .ref a_t_sizes, .ref a_t_sheets, .ref a_t_holds, .ref a_t_heldNumber, .ref a_t_heldSize, .int s_t_kind, .int s_t_number, .int s_t_own, .ref a_t_traced, .int s_t_bodies, .int s_t_isParted, .int s_t_isKept, .ref a_t_keptRow, .int s_t_movedTo, .ref a_t_single])), (a_t_rule, .inl (cI, 24, .inl (upd (upd (upd (upd v_t_rule ((4 : Int32) * s_t_held).toNatClampNeg i1) (((4 : Int32) * s_t_held) + (1 : Int32)).toNatClampNeg i2) (((4 : Int32) * s_t_held) + (2 : Int32)).toNatClampNeg i3) (((4 : Int32) * s_t_held) + (3 : Int32)).toNatClampNeg i4)))] := hD
            refine lv_aload_n hx hb dX7_hold_106 rfl (lv_at hl 0 rfl) ?_
            refine lv_dup hx hb dX7_hold_107 rfl ?_
            refine xget (ci := 7) (C := RX7) (T := TX7) (N := 42) hfix xiX7 hK.1 hP 0 rfl rfl 4 (by decide) rfl xw_692 rfl dX7_hold_108 ?_
            refine lv_iconst (v := (1 : Int32)) hx hb dX7_hold_111 (by decide) ?_
            refine lv_iadd hx hb dX7_hold_112 ?_
            refine xput (ci := 7) (C := RX7) (T := TX7) (N := 42) hfix xiX7 tyX7 tyX7_ok nmX7 hK.1 hP hD hS 0 rfl rfl 4 (by decide) rfl rfl xw_692 (ty := .int) rfl rfl rfl (Nat.le_of_ble_eq_true rfl) dX7_hold_113 (wn := [(a_t, .inr (7, [.ref a_t_stand, .ref a_t_on, .ref a_t_marks, .int s_t_villages, .int (s_t_held + (1 : Int32)), .ref a_t_rule, .int s_t_z, .ref a_t_tape, .int s_t_tapeMany, .int s_t_sort, .int s_t_begins, .int s_t_tokenEnds, .long s_t_word, .int s_t_value, .int s_t_good, .int s_t_freshVillages, .int s_t_freshHeld, .ref a_t_freshStand, .ref a_t_freshMarks, .ref a_t_freshRule, .ref a_t_shares, .ref a_t_said, .ref a_t_rows, .ref a_t_must, .int s_t_rowMany, .int s_t_mustMany, .ref a_t_sorts, .ref a_t_sizes, .ref a_t_sheets, .ref a_t_holds, .ref a_t_heldNumber, .ref a_t_heldSize, .int s_t_kind, .int s_t_number, .int s_t_own, .ref a_t_traced, .int s_t_bodies, .int s_t_isParted, .int s_t_isKept, .ref a_t_keptRow, .int s_t_movedTo, .ref a_t_single])), (a_t_rule, .inl (cI, 24, .inl (upd (upd (upd (upd v_t_rule ((4 : Int32) * s_t_held).toNatClampNeg i1) (((4 : Int32) * s_t_held) + (1 : Int32)).toNatClampNeg i2) (((4 : Int32) * s_t_held) + (2 : Int32)).toNatClampNeg i3) (((4 : Int32) * s_t_held) + (3 : Int32)).toNatClampNeg i4)))]) rfl (fun H locs hP hD hS => ?_)
            refine lv_aload_n hx hb dX7_hold_116 rfl (lv_at hl 0 rfl) ?_
            refine xget (ci := 7) (C := RX7) (T := TX7) (N := 42) hfix xiX7 hK.1 hP 0 rfl rfl 4 (by decide) rfl xw_692 rfl dX7_hold_117 ?_
            refine lv_iconst (v := (1 : Int32)) hx hb dX7_hold_120 (by decide) ?_
            refine lv_isub hx hb dX7_hold_121 ?_
            obtain ⟨rfl, rfl, rfl⟩ := pj3 hF
            exact hEnd _ _ _ _ _ dX7_hold_122 hP hS rfl
          · replace hF := if_t c_9 hF
            refine lv_bipush (v := (-2 : Int32)) hx hb dX7_hold_48 (by decide) ?_
            obtain ⟨rfl, rfl, rfl⟩ := pj3 hF
            exact hEnd _ _ _ _ _ dX7_hold_50 hP hS rfl
        · replace hF := if_t c_8 hF
          refine lv_iconst (v := (-1 : Int32)) hx hb dX7_hold_37 (by decide) ?_
          obtain ⟨rfl, rfl, rfl⟩ := pj3 hF
          exact hEnd _ _ _ _ _ dX7_hold_38 hP hS rfl
def f_X7_of (i1 : Int32) (i2 : Int32) (v_t_rule : (Nat → Int32)) : Option (Int32) := gd (((4 : Int32) * i1) + i2) 24 (some ((v_t_rule (((4 : Int32) * i1) + i2).toNatClampNeg)))
abbrev rmX7_of : Room := { frames := 0, cells := 0, slots := 0, locals := 0 }
set_option maxHeartbeats 400000 in
set_option maxRecDepth 100000 in
theorem c_X7_of (l : Launch) (D : va_G) (cI cB cJ : ClassId) (a_t : Nat) (a_t_stand : Nat) (a_t_on : Nat) (a_t_marks : Nat) (a_t_rule : Nat) (a_t_tape : Nat) (a_t_freshStand : Nat) (a_t_freshMarks : Nat) (a_t_freshRule : Nat) (a_t_shares : Nat) (a_t_said : Nat) (a_t_rows : Nat) (a_t_must : Nat) (a_t_sorts : Nat) (a_t_sizes : Nat) (a_t_sheets : Nat) (a_t_holds : Nat) (a_t_heldNumber : Nat) (a_t_heldSize : Nat) (a_t_traced : Nat) (a_t_keptRow : Nat) (a_t_single : Nat) (sz : Nat) (s_t_villages : Int32) (s_t_held : Int32) (s_t_z : Int32) (s_t_tapeMany : Int32) (s_t_sort : Int32) (s_t_begins : Int32) (s_t_tokenEnds : Int32) (s_t_word : Int64) (s_t_value : Int32) (s_t_good : Int32) (s_t_freshVillages : Int32) (s_t_freshHeld : Int32) (s_t_rowMany : Int32) (s_t_mustMany : Int32) (s_t_kind : Int32) (s_t_number : Int32) (s_t_own : Int32) (s_t_bodies : Int32) (s_t_isParted : Int32) (s_t_isKept : Int32) (s_t_movedTo : Int32) (v_t_rule : (Nat → Int32)) (i1 : Int32) (i2 : Int32) (r : Int32) (hF : f_X7_of i1 i2 v_t_rule = some r) : xMi l yX7_of (.code yX7_of cX7_of 3 (some .int) :: xU) rmX7_of (xK D cI cB cJ) D sz [.ref a_t, .int i1, .int i2] [(a_t, .inr (7, [.ref a_t_stand, .ref a_t_on, .ref a_t_marks, .int s_t_villages, .int s_t_held, .ref a_t_rule, .int s_t_z, .ref a_t_tape, .int s_t_tapeMany, .int s_t_sort, .int s_t_begins, .int s_t_tokenEnds, .long s_t_word, .int s_t_value, .int s_t_good, .int s_t_freshVillages, .int s_t_freshHeld, .ref a_t_freshStand, .ref a_t_freshMarks, .ref a_t_freshRule, .ref a_t_shares, .ref a_t_said, .ref a_t_rows, .ref a_t_must, .int s_t_rowMany, .int s_t_mustMany, .ref a_t_sorts, .ref a_t_sizes, .ref a_t_sheets, .ref a_t_holds, .ref a_t_heldNumber, .ref a_t_heldSize, .int s_t_kind, .int s_t_number, .int s_t_own, .ref a_t_traced, .int s_t_bodies, .int s_t_isParted, .int s_t_isKept, .ref a_t_keptRow, .int s_t_movedTo, .ref a_t_single])), (a_t_rule, .inl (cI, 24, .inl v_t_rule))] [(a_t, .inr (7, [.ref a_t_stand, .ref a_t_on, .ref a_t_marks, .int s_t_villages, .int s_t_held, .ref a_t_rule, .int s_t_z, .ref a_t_tape, .int s_t_tapeMany, .int s_t_sort, .int s_t_begins, .int s_t_tokenEnds, .long s_t_word, .int s_t_value, .int s_t_good, .int s_t_freshVillages, .int s_t_freshHeld, .ref a_t_freshStand, .ref a_t_freshMarks, .ref a_t_freshRule, .ref a_t_shares, .ref a_t_said, .ref a_t_rows, .ref a_t_must, .int s_t_rowMany, .int s_t_mustMany, .ref a_t_sorts, .ref a_t_sizes, .ref a_t_sheets, .ref a_t_holds, .ref a_t_heldNumber, .ref a_t_heldSize, .int s_t_kind, .int s_t_number, .int s_t_own, .ref a_t_traced, .int s_t_bodies, .int s_t_isParted, .int s_t_isKept, .ref a_t_keptRow, .int s_t_movedTo, .ref a_t_single])), (a_t_rule, .inl (cI, 24, .inl v_t_rule))] r := by
  refine xMi.mk (own := "FairNextModel") (by decide +kernel) rfl (Nat.le_of_ble_eq_true rfl) ?_
  intro p e s m args below meth c A Q ls H hfix hK hP hD hA hS hl hEnd
  obtain ⟨hx, hb, hml, hown, hts⟩ := id hfix
  have hl : lv_has ls 3 [(0, .ref a_t), (1, .int i1), (2, .int i2)] := hl
  rw [f_X7_of] at hF
  refine lv_aload_n hx hb dX7_of_0 rfl (lv_at hl 0 rfl) ?_
  refine xget (ci := 7) (C := RX7) (T := TX7) (N := 42) hfix xiX7 hK.1 hP 0 rfl rfl 5 (by decide) rfl xw_693 rfl dX7_of_1 ?_
  refine lv_iconst (v := (4 : Int32)) hx hb dX7_of_4 (by decide) ?_
  refine lv_iload_n hx hb dX7_of_5 rfl (lv_at hl 1 rfl) ?_
  refine lv_imul hx hb dX7_of_6 ?_
  refine lv_iload_n hx hb dX7_of_7 rfl (lv_at hl 2 rfl) ?_
  refine lv_iadd hx hb dX7_of_8 ?_
  obtain ⟨c_1, hF⟩ := gd_e hF
  refine va_iald hx hb hK.1 hP 1 0 rfl rfl c_1 dX7_of_9 ?_
  obtain rfl := Option.some.inj hF
  exact hEnd _ _ _ _ _ dX7_of_10 hP hS rfl
def f_X7_ruleOf (i1 : Int32) (i2 : Int32) (s_t_villages : Int32) (s_t_held : Int32) (v_t_rule : (Nat → Int32)) (v_t_stand : (Nat → Int32)) (v_t_marks : (Nat → Int32)) : Option (Int32) := (if (f_X7_isHeldRule i1 s_t_held) = (0 : Int32) then some ((-1 : Int32)) else (if (f_X7_in i2 (0 : Int32) (5 : Int32)) = (0 : Int32) then some ((-1 : Int32)) else (if (4 : Int32) ≤ i2 then (if i2 = (4 : Int32) then bd1 (f_X7_of i1 (1 : Int32) v_t_rule) (fun (r_17 : Int32) => bd1 (f_X7_of i1 (2 : Int32) v_t_rule) (fun (r_19 : Int32) => bd1 (f_X7_of i1 (3 : Int32) v_t_rule) (fun (r_21 : Int32) => some ((f_X7_wordsOf r_17 r_19 r_21))))) else bd1 (f_X7_of i1 (0 : Int32) v_t_rule) (fun (r_7 : Int32) => bd1 (f_X7_of i1 (1 : Int32) v_t_rule) (fun (r_9 : Int32) => bd1 (f_X7_of i1 (2 : Int32) v_t_rule) (fun (r_11 : Int32) => bd1 (f_X7_of i1 (3 : Int32) v_t_rule) (fun (r_13 : Int32) => bd1 (f_X7_missesOf r_7 r_9 r_11 r_13 s_t_villages v_t_stand v_t_marks) (fun (r_15 : Int32) => some (r_15))))))) else bd1 (f_X7_of i1 i2 v_t_rule) (fun (r_23 : Int32) => some (r_23)))))
abbrev rmX7_ruleOf : Room := { frames := 3, cells := 0, slots := 0, locals := 75 }
set_option maxHeartbeats 400000 in
set_option maxRecDepth 100000 in
theorem c_X7_ruleOf (l : Launch) (D : va_G) (cI cB cJ : ClassId) (a_t : Nat) (a_t_stand : Nat) (a_t_on : Nat) (a_t_marks : Nat) (a_t_rule : Nat) (a_t_tape : Nat) (a_t_freshStand : Nat) (a_t_freshMarks : Nat) (a_t_freshRule : Nat) (a_t_shares : Nat) (a_t_said : Nat) (a_t_rows : Nat) (a_t_must : Nat) (a_t_sorts : Nat) (a_t_sizes : Nat) (a_t_sheets : Nat) (a_t_holds : Nat) (a_t_heldNumber : Nat) (a_t_heldSize : Nat) (a_t_traced : Nat) (a_t_keptRow : Nat) (a_t_single : Nat) (sz : Nat) (s_t_villages : Int32) (s_t_held : Int32) (s_t_z : Int32) (s_t_tapeMany : Int32) (s_t_sort : Int32) (s_t_begins : Int32) (s_t_tokenEnds : Int32) (s_t_word : Int64) (s_t_value : Int32) (s_t_good : Int32) (s_t_freshVillages : Int32) (s_t_freshHeld : Int32) (s_t_rowMany : Int32) (s_t_mustMany : Int32) (s_t_kind : Int32) (s_t_number : Int32) (s_t_own : Int32) (s_t_bodies : Int32) (s_t_isParted : Int32) (s_t_isKept : Int32) (s_t_movedTo : Int32) (v_t_rule : (Nat → Int32)) (v_t_stand : (Nat → Int32)) (v_t_marks : (Nat → Int32)) (i1 : Int32) (i2 : Int32) (r : Int32) (hF : f_X7_ruleOf i1 i2 s_t_villages s_t_held v_t_rule v_t_stand v_t_marks = some r) : xMi l yX7_ruleOf (.code yX7_ruleOf cX7_ruleOf 3 (some .int) :: xU) rmX7_ruleOf (xK D cI cB cJ) D sz [.ref a_t, .int i1, .int i2] [(a_t, .inr (7, [.ref a_t_stand, .ref a_t_on, .ref a_t_marks, .int s_t_villages, .int s_t_held, .ref a_t_rule, .int s_t_z, .ref a_t_tape, .int s_t_tapeMany, .int s_t_sort, .int s_t_begins, .int s_t_tokenEnds, .long s_t_word, .int s_t_value, .int s_t_good, .int s_t_freshVillages, .int s_t_freshHeld, .ref a_t_freshStand, .ref a_t_freshMarks, .ref a_t_freshRule, .ref a_t_shares, .ref a_t_said, .ref a_t_rows, .ref a_t_must, .int s_t_rowMany, .int s_t_mustMany, .ref a_t_sorts, .ref a_t_sizes, .ref a_t_sheets, .ref a_t_holds, .ref a_t_heldNumber, .ref a_t_heldSize, .int s_t_kind, .int s_t_number, .int s_t_own, .ref a_t_traced, .int s_t_bodies, .int s_t_isParted, .int s_t_isKept, .ref a_t_keptRow, .int s_t_movedTo, .ref a_t_single])), (a_t_rule, .inl (cI, 24, .inl v_t_rule)), (a_t_stand, .inl (cI, 100, .inl v_t_stand)), (a_t_marks, .inl (cI, 100, .inl v_t_marks))] [(a_t, .inr (7, [.ref a_t_stand, .ref a_t_on, .ref a_t_marks, .int s_t_villages, .int s_t_held, .ref a_t_rule, .int s_t_z, .ref a_t_tape, .int s_t_tapeMany, .int s_t_sort, .int s_t_begins, .int s_t_tokenEnds, .long s_t_word, .int s_t_value, .int s_t_good, .int s_t_freshVillages, .int s_t_freshHeld, .ref a_t_freshStand, .ref a_t_freshMarks, .ref a_t_freshRule, .ref a_t_shares, .ref a_t_said, .ref a_t_rows, .ref a_t_must, .int s_t_rowMany, .int s_t_mustMany, .ref a_t_sorts, .ref a_t_sizes, .ref a_t_sheets, .ref a_t_holds, .ref a_t_heldNumber, .ref a_t_heldSize, .int s_t_kind, .int s_t_number, .int s_t_own, .ref a_t_traced, .int s_t_bodies, .int s_t_isParted, .int s_t_isKept, .ref a_t_keptRow, .int s_t_movedTo, .ref a_t_single])), (a_t_rule, .inl (cI, 24, .inl v_t_rule)), (a_t_stand, .inl (cI, 100, .inl v_t_stand)), (a_t_marks, .inl (cI, 100, .inl v_t_marks))] r := by
  refine xMi.mk (own := "FairNextModel") (by decide +kernel) rfl (Nat.le_of_ble_eq_true rfl) ?_
  intro p e s m args below meth c A Q ls H hfix hK hP hD hA hS hl hEnd
  obtain ⟨hx, hb, hml, hown, hts⟩ := id hfix
  have hl : lv_has ls 3 [(0, .ref a_t), (1, .int i1), (2, .int i2)] := hl
  rw [f_X7_ruleOf] at hF
  refine lv_aload_n hx hb dX7_ruleOf_0 rfl (lv_at hl 0 rfl) ?_
  refine lv_iload_n hx hb dX7_ruleOf_1 rfl (lv_at hl 1 rfl) ?_
  refine xrz0 (xrunV (As := [.int i1]) (rest := []) (c_X7_isHeldRule l D cI cB cJ a_t a_t_stand a_t_on a_t_marks a_t_rule a_t_tape a_t_freshStand a_t_freshMarks a_t_freshRule a_t_shares a_t_said a_t_rows a_t_must a_t_sorts a_t_sizes a_t_sheets a_t_holds a_t_heldNumber a_t_heldSize a_t_traced a_t_keptRow a_t_single _ s_t_villages s_t_held s_t_z s_t_tapeMany s_t_sort s_t_begins s_t_tokenEnds s_t_word s_t_value s_t_good s_t_freshVillages s_t_freshHeld s_t_rowMany s_t_mustMany s_t_kind s_t_number s_t_own s_t_bodies s_t_isParted s_t_isKept s_t_movedTo i1 (f_X7_isHeldRule i1 s_t_held) rfl) hfix xw_921 yv_X7_isHeldRule ⟨rfl, rfl⟩ ⟨(Nat.le_of_ble_eq_true rfl), (Nat.le_of_ble_eq_true rfl)⟩ xKk_K (fun U hU hW => xK.warm hW hK) hK.1 hP hD [0] rfl rfl 0 7 rfl rfl rfl rfl hl.1 rfl (Nat.le_of_ble_eq_true rfl) dX7_ruleOf_2 ⟨Nat.zero_le _, Nat.zero_le _⟩) hP hD hS hA [0] rfl rfl (fun H locs hP hD hS hz_1 => ?_)
  refine lv_if_eq (tgt := 17) hx hb dX7_ruleOf_5 (by decide) (fun c_2 => ?_) (fun c_2 => ?_)
  · replace hF := if_t c_2 hF
    refine lv_iconst (v := (-1 : Int32)) hx hb dX7_ruleOf_17 (by decide) ?_
    obtain rfl := Option.some.inj hF
    exact hEnd _ _ _ _ _ dX7_ruleOf_18 hP hS rfl
  · replace hF := if_f c_2 hF
    refine lv_iload_n hx hb dX7_ruleOf_8 rfl (lv_at hl 2 rfl) ?_
    refine lv_iconst (v := (0 : Int32)) hx hb dX7_ruleOf_9 (by decide) ?_
    refine lv_iconst (v := (5 : Int32)) hx hb dX7_ruleOf_10 (by decide) ?_
    refine xrz0 (xrunS (As := [.int i2, .int (0 : Int32), .int (5 : Int32)]) (rest := []) (c_X7_in l D cI cB cJ _ i2 (0 : Int32) (5 : Int32) (f_X7_in i2 (0 : Int32) (5 : Int32)) rfl) hfix xw_819 ys_X7_in ⟨rfl, rfl⟩ ⟨(Nat.le_of_ble_eq_true rfl), (Nat.le_of_ble_eq_true rfl)⟩ xKk_K (fun U hU hW => xK.warm hW hK) hP hD [] rfl rfl rfl hl.1 rfl (Nat.le_of_ble_eq_true rfl) dX7_ruleOf_11 ⟨Nat.zero_le _, Nat.zero_le _⟩) hP hD hS hA [] rfl rfl (fun H locs hP hD hS hz_3 => ?_)
    refine lv_if_ne (tgt := 19) hx hb dX7_ruleOf_14 (by decide) (fun c_4 => ?_) (fun c_4 => ?_)
    · replace hF := if_f c_4 hF
      refine lv_iload_n hx hb dX7_ruleOf_19 rfl (lv_at hl 2 rfl) ?_
      refine lv_iconst (v := (4 : Int32)) hx hb dX7_ruleOf_20 (by decide) ?_
      refine lv_icmp_ge (tgt := 33) hx hb dX7_ruleOf_21 (by decide) (fun c_5 => ?_) (fun c_5 => ?_)
      · replace hF := if_t c_5 hF
        refine lv_iload_n hx hb dX7_ruleOf_33 rfl (lv_at hl 2 rfl) ?_
        refine lv_iconst (v := (4 : Int32)) hx hb dX7_ruleOf_34 (by decide) ?_
        refine lv_icmp_ne (tgt := 62) hx hb dX7_ruleOf_35 (by decide) (fun c_6 => ?_) (fun c_6 => ?_)
        · replace hF := if_f c_6 hF
          refine lv_aload_n hx hb dX7_ruleOf_62 rfl (lv_at hl 0 rfl) ?_
          refine lv_aload_n hx hb dX7_ruleOf_63 rfl (lv_at hl 0 rfl) ?_
          refine lv_iload_n hx hb dX7_ruleOf_64 rfl (lv_at hl 1 rfl) ?_
          refine lv_iconst (v := (0 : Int32)) hx hb dX7_ruleOf_65 (by decide) ?_
          obtain ⟨r_7, hq_8, hF⟩ := bd1_e hF
          refine xri0 (xrunV (As := [.int i1, .int (0 : Int32)]) (rest := [.ref a_t]) (c_X7_of l D cI cB cJ a_t a_t_stand a_t_on a_t_marks a_t_rule a_t_tape a_t_freshStand a_t_freshMarks a_t_freshRule a_t_shares a_t_said a_t_rows a_t_must a_t_sorts a_t_sizes a_t_sheets a_t_holds a_t_heldNumber a_t_heldSize a_t_traced a_t_keptRow a_t_single _ s_t_villages s_t_held s_t_z s_t_tapeMany s_t_sort s_t_begins s_t_tokenEnds s_t_word s_t_value s_t_good s_t_freshVillages s_t_freshHeld s_t_rowMany s_t_mustMany s_t_kind s_t_number s_t_own s_t_bodies s_t_isParted s_t_isKept s_t_movedTo v_t_rule i1 (0 : Int32) r_7 hq_8) hfix xw_925 yv_X7_of ⟨rfl, rfl⟩ ⟨(Nat.le_of_ble_eq_true rfl), (Nat.le_of_ble_eq_true rfl)⟩ xKk_K (fun U hU hW => xK.warm hW hK) hK.1 hP hD [0, 1] rfl rfl 0 7 rfl rfl rfl rfl hl.1 rfl (Nat.le_of_ble_eq_true rfl) dX7_ruleOf_66 ⟨Nat.zero_le _, Nat.zero_le _⟩) hP hD hS hA [0, 1] rfl rfl (fun H locs hP hD hS => ?_)
          refine lv_aload_n hx hb dX7_ruleOf_69 rfl (lv_at hl 0 rfl) ?_
          refine lv_iload_n hx hb dX7_ruleOf_70 rfl (lv_at hl 1 rfl) ?_
          refine lv_iconst (v := (1 : Int32)) hx hb dX7_ruleOf_71 (by decide) ?_
          obtain ⟨r_9, hq_10, hF⟩ := bd1_e hF
          refine xri0 (xrunV (As := [.int i1, .int (1 : Int32)]) (rest := [.int r_7, .ref a_t]) (c_X7_of l D cI cB cJ a_t a_t_stand a_t_on a_t_marks a_t_rule a_t_tape a_t_freshStand a_t_freshMarks a_t_freshRule a_t_shares a_t_said a_t_rows a_t_must a_t_sorts a_t_sizes a_t_sheets a_t_holds a_t_heldNumber a_t_heldSize a_t_traced a_t_keptRow a_t_single _ s_t_villages s_t_held s_t_z s_t_tapeMany s_t_sort s_t_begins s_t_tokenEnds s_t_word s_t_value s_t_good s_t_freshVillages s_t_freshHeld s_t_rowMany s_t_mustMany s_t_kind s_t_number s_t_own s_t_bodies s_t_isParted s_t_isKept s_t_movedTo v_t_rule i1 (1 : Int32) r_9 hq_10) hfix xw_925 yv_X7_of ⟨rfl, rfl⟩ ⟨(Nat.le_of_ble_eq_true rfl), (Nat.le_of_ble_eq_true rfl)⟩ xKk_K (fun U hU hW => xK.warm hW hK) hK.1 hP hD [0, 1] rfl rfl 0 7 rfl rfl rfl rfl hl.1 rfl (Nat.le_of_ble_eq_true rfl) dX7_ruleOf_72 ⟨Nat.zero_le _, Nat.zero_le _⟩) hP hD hS hA [0, 1] rfl rfl (fun H locs hP hD hS => ?_)
          refine lv_aload_n hx hb dX7_ruleOf_75 rfl (lv_at hl 0 rfl) ?_
          refine lv_iload_n hx hb dX7_ruleOf_76 rfl (lv_at hl 1 rfl) ?_
          refine lv_iconst (v := (2 : Int32)) hx hb dX7_ruleOf_77 (by decide) ?_
          obtain ⟨r_11, hq_12, hF⟩ := bd1_e hF
          refine xri0 (xrunV (As := [.int i1, .int (2 : Int32)]) (rest := [.int r_9, .int r_7, .ref a_t]) (c_X7_of l D cI cB cJ a_t a_t_stand a_t_on a_t_marks a_t_rule a_t_tape a_t_freshStand a_t_freshMarks a_t_freshRule a_t_shares a_t_said a_t_rows a_t_must a_t_sorts a_t_sizes a_t_sheets a_t_holds a_t_heldNumber a_t_heldSize a_t_traced a_t_keptRow a_t_single _ s_t_villages s_t_held s_t_z s_t_tapeMany s_t_sort s_t_begins s_t_tokenEnds s_t_word s_t_value s_t_good s_t_freshVillages s_t_freshHeld s_t_rowMany s_t_mustMany s_t_kind s_t_number s_t_own s_t_bodies s_t_isParted s_t_isKept s_t_movedTo v_t_rule i1 (2 : Int32) r_11 hq_12) hfix xw_925 yv_X7_of ⟨rfl, rfl⟩ ⟨(Nat.le_of_ble_eq_true rfl), (Nat.le_of_ble_eq_true rfl)⟩ xKk_K (fun U hU hW => xK.warm hW hK) hK.1 hP hD [0, 1] rfl rfl 0 7 rfl rfl rfl rfl hl.1 rfl (Nat.le_of_ble_eq_true rfl) dX7_ruleOf_78 ⟨Nat.zero_le _, Nat.zero_le _⟩) hP hD hS hA [0, 1] rfl rfl (fun H locs hP hD hS => ?_)
          refine lv_aload_n hx hb dX7_ruleOf_81 rfl (lv_at hl 0 rfl) ?_
          refine lv_iload_n hx hb dX7_ruleOf_82 rfl (lv_at hl 1 rfl) ?_
          refine lv_iconst (v := (3 : Int32)) hx hb dX7_ruleOf_83 (by decide) ?_
          obtain ⟨r_13, hq_14, hF⟩ := bd1_e hF
          refine xri0 (xrunV (As := [.int i1, .int (3 : Int32)]) (rest := [.int r_11, .int r_9, .int r_7, .ref a_t]) (c_X7_of l D cI cB cJ a_t a_t_stand a_t_on a_t_marks a_t_rule a_t_tape a_t_freshStand a_t_freshMarks a_t_freshRule a_t_shares a_t_said a_t_rows a_t_must a_t_sorts a_t_sizes a_t_sheets a_t_holds a_t_heldNumber a_t_heldSize a_t_traced a_t_keptRow a_t_single _ s_t_villages s_t_held s_t_z s_t_tapeMany s_t_sort s_t_begins s_t_tokenEnds s_t_word s_t_value s_t_good s_t_freshVillages s_t_freshHeld s_t_rowMany s_t_mustMany s_t_kind s_t_number s_t_own s_t_bodies s_t_isParted s_t_isKept s_t_movedTo v_t_rule i1 (3 : Int32) r_13 hq_14) hfix xw_925 yv_X7_of ⟨rfl, rfl⟩ ⟨(Nat.le_of_ble_eq_true rfl), (Nat.le_of_ble_eq_true rfl)⟩ xKk_K (fun U hU hW => xK.warm hW hK) hK.1 hP hD [0, 1] rfl rfl 0 7 rfl rfl rfl rfl hl.1 rfl (Nat.le_of_ble_eq_true rfl) dX7_ruleOf_84 ⟨Nat.zero_le _, Nat.zero_le _⟩) hP hD hS hA [0, 1] rfl rfl (fun H locs hP hD hS => ?_)
          obtain ⟨r_15, hq_16, hF⟩ := bd1_e hF
          refine xri0 (xrunV (As := [.int r_7, .int r_9, .int r_11, .int r_13]) (rest := []) (c_X7_missesOf l D cI cB cJ a_t a_t_stand a_t_on a_t_marks a_t_rule a_t_tape a_t_freshStand a_t_freshMarks a_t_freshRule a_t_shares a_t_said a_t_rows a_t_must a_t_sorts a_t_sizes a_t_sheets a_t_holds a_t_heldNumber a_t_heldSize a_t_traced a_t_keptRow a_t_single _ s_t_villages s_t_held s_t_z s_t_tapeMany s_t_sort s_t_begins s_t_tokenEnds s_t_word s_t_value s_t_good s_t_freshVillages s_t_freshHeld s_t_rowMany s_t_mustMany s_t_kind s_t_number s_t_own s_t_bodies s_t_isParted s_t_isKept s_t_movedTo v_t_stand v_t_marks r_7 r_9 r_11 r_13 r_15 hq_16) hfix xw_932 yv_X7_missesOf ⟨rfl, rfl⟩ ⟨(Nat.le_of_ble_eq_true rfl), (Nat.le_of_ble_eq_true rfl)⟩ xKk_K (fun U hU hW => xK.warm hW hK) hK.1 hP hD [0, 2, 3] rfl rfl 0 7 rfl rfl rfl rfl hl.1 rfl (Nat.le_of_ble_eq_true rfl) dX7_ruleOf_87 ⟨Nat.zero_le _, Nat.zero_le _⟩) hP hD hS hA [0, 2, 3] rfl rfl (fun H locs hP hD hS => ?_)
          obtain rfl := Option.some.inj hF
          exact hEnd _ _ _ _ _ dX7_ruleOf_90 hP hS rfl
        · replace hF := if_t c_6 hF
          refine lv_aload_n hx hb dX7_ruleOf_38 rfl (lv_at hl 0 rfl) ?_
          refine lv_iload_n hx hb dX7_ruleOf_39 rfl (lv_at hl 1 rfl) ?_
          refine lv_iconst (v := (1 : Int32)) hx hb dX7_ruleOf_40 (by decide) ?_
          obtain ⟨r_17, hq_18, hF⟩ := bd1_e hF
          refine xri0 (xrunV (As := [.int i1, .int (1 : Int32)]) (rest := []) (c_X7_of l D cI cB cJ a_t a_t_stand a_t_on a_t_marks a_t_rule a_t_tape a_t_freshStand a_t_freshMarks a_t_freshRule a_t_shares a_t_said a_t_rows a_t_must a_t_sorts a_t_sizes a_t_sheets a_t_holds a_t_heldNumber a_t_heldSize a_t_traced a_t_keptRow a_t_single _ s_t_villages s_t_held s_t_z s_t_tapeMany s_t_sort s_t_begins s_t_tokenEnds s_t_word s_t_value s_t_good s_t_freshVillages s_t_freshHeld s_t_rowMany s_t_mustMany s_t_kind s_t_number s_t_own s_t_bodies s_t_isParted s_t_isKept s_t_movedTo v_t_rule i1 (1 : Int32) r_17 hq_18) hfix xw_925 yv_X7_of ⟨rfl, rfl⟩ ⟨(Nat.le_of_ble_eq_true rfl), (Nat.le_of_ble_eq_true rfl)⟩ xKk_K (fun U hU hW => xK.warm hW hK) hK.1 hP hD [0, 1] rfl rfl 0 7 rfl rfl rfl rfl hl.1 rfl (Nat.le_of_ble_eq_true rfl) dX7_ruleOf_41 ⟨Nat.zero_le _, Nat.zero_le _⟩) hP hD hS hA [0, 1] rfl rfl (fun H locs hP hD hS => ?_)
          refine lv_aload_n hx hb dX7_ruleOf_44 rfl (lv_at hl 0 rfl) ?_
          refine lv_iload_n hx hb dX7_ruleOf_45 rfl (lv_at hl 1 rfl) ?_
          refine lv_iconst (v := (2 : Int32)) hx hb dX7_ruleOf_46 (by decide) ?_
          obtain ⟨r_19, hq_20, hF⟩ := bd1_e hF
          refine xri0 (xrunV (As := [.int i1, .int (2 : Int32)]) (rest := [.int r_17]) (c_X7_of l D cI cB cJ a_t a_t_stand a_t_on a_t_marks a_t_rule a_t_tape a_t_freshStand a_t_freshMarks a_t_freshRule a_t_shares a_t_said a_t_rows a_t_must a_t_sorts a_t_sizes a_t_sheets a_t_holds a_t_heldNumber a_t_heldSize a_t_traced a_t_keptRow a_t_single _ s_t_villages s_t_held s_t_z s_t_tapeMany s_t_sort s_t_begins s_t_tokenEnds s_t_word s_t_value s_t_good s_t_freshVillages s_t_freshHeld s_t_rowMany s_t_mustMany s_t_kind s_t_number s_t_own s_t_bodies s_t_isParted s_t_isKept s_t_movedTo v_t_rule i1 (2 : Int32) r_19 hq_20) hfix xw_925 yv_X7_of ⟨rfl, rfl⟩ ⟨(Nat.le_of_ble_eq_true rfl), (Nat.le_of_ble_eq_true rfl)⟩ xKk_K (fun U hU hW => xK.warm hW hK) hK.1 hP hD [0, 1] rfl rfl 0 7 rfl rfl rfl rfl hl.1 rfl (Nat.le_of_ble_eq_true rfl) dX7_ruleOf_47 ⟨Nat.zero_le _, Nat.zero_le _⟩) hP hD hS hA [0, 1] rfl rfl (fun H locs hP hD hS => ?_)
          refine lv_aload_n hx hb dX7_ruleOf_50 rfl (lv_at hl 0 rfl) ?_
          refine lv_iload_n hx hb dX7_ruleOf_51 rfl (lv_at hl 1 rfl) ?_
          refine lv_iconst (v := (3 : Int32)) hx hb dX7_ruleOf_52 (by decide) ?_
          obtain ⟨r_21, hq_22, hF⟩ := bd1_e hF
          refine xri0 (xrunV (As := [.int i1, .int (3 : Int32)]) (rest := [.int r_19, .int r_17]) (c_X7_of l D cI cB cJ a_t a_t_stand a_t_on a_t_marks a_t_rule a_t_tape a_t_freshStand a_t_freshMarks a_t_freshRule a_t_shares a_t_said a_t_rows a_t_must a_t_sorts a_t_sizes a_t_sheets a_t_holds a_t_heldNumber a_t_heldSize a_t_traced a_t_keptRow a_t_single _ s_t_villages s_t_held s_t_z s_t_tapeMany s_t_sort s_t_begins s_t_tokenEnds s_t_word s_t_value s_t_good s_t_freshVillages s_t_freshHeld s_t_rowMany s_t_mustMany s_t_kind s_t_number s_t_own s_t_bodies s_t_isParted s_t_isKept s_t_movedTo v_t_rule i1 (3 : Int32) r_21 hq_22) hfix xw_925 yv_X7_of ⟨rfl, rfl⟩ ⟨(Nat.le_of_ble_eq_true rfl), (Nat.le_of_ble_eq_true rfl)⟩ xKk_K (fun U hU hW => xK.warm hW hK) hK.1 hP hD [0, 1] rfl rfl 0 7 rfl rfl rfl rfl hl.1 rfl (Nat.le_of_ble_eq_true rfl) dX7_ruleOf_53 ⟨Nat.zero_le _, Nat.zero_le _⟩) hP hD hS hA [0, 1] rfl rfl (fun H locs hP hD hS => ?_)
          refine xri0 (xrunS (As := [.int r_17, .int r_19, .int r_21]) (rest := []) (c_X7_wordsOf l D cI cB cJ _ r_17 r_19 r_21 (f_X7_wordsOf r_17 r_19 r_21) rfl) hfix xw_929 ys_X7_wordsOf ⟨rfl, rfl⟩ ⟨(Nat.le_of_ble_eq_true rfl), (Nat.le_of_ble_eq_true rfl)⟩ xKk_K (fun U hU hW => xK.warm hW hK) hP hD [] rfl rfl rfl hl.1 rfl (Nat.le_of_ble_eq_true rfl) dX7_ruleOf_56 ⟨Nat.zero_le _, Nat.zero_le _⟩) hP hD hS hA [] rfl rfl (fun H locs hP hD hS => ?_)
          refine lv_goto (tgt := 90) hx hb dX7_ruleOf_59 (by decide) ?_
          obtain rfl := Option.some.inj hF
          exact hEnd _ _ _ _ _ dX7_ruleOf_90 hP hS rfl
      · replace hF := if_f c_5 hF
        refine lv_aload_n hx hb dX7_ruleOf_24 rfl (lv_at hl 0 rfl) ?_
        refine lv_iload_n hx hb dX7_ruleOf_25 rfl (lv_at hl 1 rfl) ?_
        refine lv_iload_n hx hb dX7_ruleOf_26 rfl (lv_at hl 2 rfl) ?_
        obtain ⟨r_23, hq_24, hF⟩ := bd1_e hF
        refine xri0 (xrunV (As := [.int i1, .int i2]) (rest := []) (c_X7_of l D cI cB cJ a_t a_t_stand a_t_on a_t_marks a_t_rule a_t_tape a_t_freshStand a_t_freshMarks a_t_freshRule a_t_shares a_t_said a_t_rows a_t_must a_t_sorts a_t_sizes a_t_sheets a_t_holds a_t_heldNumber a_t_heldSize a_t_traced a_t_keptRow a_t_single _ s_t_villages s_t_held s_t_z s_t_tapeMany s_t_sort s_t_begins s_t_tokenEnds s_t_word s_t_value s_t_good s_t_freshVillages s_t_freshHeld s_t_rowMany s_t_mustMany s_t_kind s_t_number s_t_own s_t_bodies s_t_isParted s_t_isKept s_t_movedTo v_t_rule i1 i2 r_23 hq_24) hfix xw_925 yv_X7_of ⟨rfl, rfl⟩ ⟨(Nat.le_of_ble_eq_true rfl), (Nat.le_of_ble_eq_true rfl)⟩ xKk_K (fun U hU hW => xK.warm hW hK) hK.1 hP hD [0, 1] rfl rfl 0 7 rfl rfl rfl rfl hl.1 rfl (Nat.le_of_ble_eq_true rfl) dX7_ruleOf_27 ⟨Nat.zero_le _, Nat.zero_le _⟩) hP hD hS hA [0, 1] rfl rfl (fun H locs hP hD hS => ?_)
        refine lv_goto (tgt := 90) hx hb dX7_ruleOf_30 (by decide) ?_
        obtain rfl := Option.some.inj hF
        exact hEnd _ _ _ _ _ dX7_ruleOf_90 hP hS rfl
    · replace hF := if_t c_4 hF
      refine lv_iconst (v := (-1 : Int32)) hx hb dX7_ruleOf_17 (by decide) ?_
      obtain rfl := Option.some.inj hF
      exact hEnd _ _ _ _ _ dX7_ruleOf_18 hP hS rfl
def f_X7_drop_L24 (s_t_held : Int32) : Nat → Int32 → (Nat → Int32) → Option ((Nat → Int32))
  | 0, _, _ => none
  | n + 1, x2_3, xv_t_rule_4 => (if ((4 : Int32) * (s_t_held - (1 : Int32))) ≤ x2_3 then some (xv_t_rule_4) else gd (x2_3 + (4 : Int32)) 24 (gd x2_3 24 (f_X7_drop_L24 s_t_held n (x2_3 + (1 : Int32)) (upd xv_t_rule_4 x2_3.toNatClampNeg (xv_t_rule_4 (x2_3 + (4 : Int32)).toNatClampNeg)))))
def f_X7_drop (i1 : Int32) (s_t_held : Int32) (v_t_rule : (Nat → Int32)) : Option (Int32 × Int32 × (Nat → Int32)) := (if (f_X7_isHeldRule i1 s_t_held) = (0 : Int32) then some (((-1 : Int32), s_t_held, v_t_rule)) else bd1 (f_X7_drop_L24 s_t_held 1000 ((4 : Int32) * i1) v_t_rule) (fun (yv_t_rule_5 : (Nat → Int32)) => some (((s_t_held - (1 : Int32)), (s_t_held - (1 : Int32)), yv_t_rule_5))))
abbrev rmX7_drop : Room := { frames := 2, cells := 0, slots := 0, locals := 43 }
set_option maxHeartbeats 400000 in
set_option maxRecDepth 100000 in
theorem c_X7_drop (l : Launch) (D : va_G) (cI cB cJ : ClassId) (a_t : Nat) (a_t_stand : Nat) (a_t_on : Nat) (a_t_marks : Nat) (a_t_rule : Nat) (a_t_tape : Nat) (a_t_freshStand : Nat) (a_t_freshMarks : Nat) (a_t_freshRule : Nat) (a_t_shares : Nat) (a_t_said : Nat) (a_t_rows : Nat) (a_t_must : Nat) (a_t_sorts : Nat) (a_t_sizes : Nat) (a_t_sheets : Nat) (a_t_holds : Nat) (a_t_heldNumber : Nat) (a_t_heldSize : Nat) (a_t_traced : Nat) (a_t_keptRow : Nat) (a_t_single : Nat) (sz : Nat) (s_t_villages : Int32) (s_t_held : Int32) (s_t_z : Int32) (s_t_tapeMany : Int32) (s_t_sort : Int32) (s_t_begins : Int32) (s_t_tokenEnds : Int32) (s_t_word : Int64) (s_t_value : Int32) (s_t_good : Int32) (s_t_freshVillages : Int32) (s_t_freshHeld : Int32) (s_t_rowMany : Int32) (s_t_mustMany : Int32) (s_t_kind : Int32) (s_t_number : Int32) (s_t_own : Int32) (s_t_bodies : Int32) (s_t_isParted : Int32) (s_t_isKept : Int32) (s_t_movedTo : Int32) (v_t_rule : (Nat → Int32)) (i1 : Int32) (r : Int32) (o_s_t_held : Int32) (o_v_t_rule : (Nat → Int32)) (hF : f_X7_drop i1 s_t_held v_t_rule = some (r, o_s_t_held, o_v_t_rule)) : xMi l yX7_drop (.code yX7_drop cX7_drop 3 (some .int) :: xU) rmX7_drop (xK D cI cB cJ) D sz [.ref a_t, .int i1] [(a_t, .inr (7, [.ref a_t_stand, .ref a_t_on, .ref a_t_marks, .int s_t_villages, .int s_t_held, .ref a_t_rule, .int s_t_z, .ref a_t_tape, .int s_t_tapeMany, .int s_t_sort, .int s_t_begins, .int s_t_tokenEnds, .long s_t_word, .int s_t_value, .int s_t_good, .int s_t_freshVillages, .int s_t_freshHeld, .ref a_t_freshStand, .ref a_t_freshMarks, .ref a_t_freshRule, .ref a_t_shares, .ref a_t_said, .ref a_t_rows, .ref a_t_must, .int s_t_rowMany, .int s_t_mustMany, .ref a_t_sorts, .ref a_t_sizes, .ref a_t_sheets, .ref a_t_holds, .ref a_t_heldNumber, .ref a_t_heldSize, .int s_t_kind, .int s_t_number, .int s_t_own, .ref a_t_traced, .int s_t_bodies, .int s_t_isParted, .int s_t_isKept, .ref a_t_keptRow, .int s_t_movedTo, .ref a_t_single])), (a_t_rule, .inl (cI, 24, .inl v_t_rule))] [(a_t, .inr (7, [.ref a_t_stand, .ref a_t_on, .ref a_t_marks, .int s_t_villages, .int o_s_t_held, .ref a_t_rule, .int s_t_z, .ref a_t_tape, .int s_t_tapeMany, .int s_t_sort, .int s_t_begins, .int s_t_tokenEnds, .long s_t_word, .int s_t_value, .int s_t_good, .int s_t_freshVillages, .int s_t_freshHeld, .ref a_t_freshStand, .ref a_t_freshMarks, .ref a_t_freshRule, .ref a_t_shares, .ref a_t_said, .ref a_t_rows, .ref a_t_must, .int s_t_rowMany, .int s_t_mustMany, .ref a_t_sorts, .ref a_t_sizes, .ref a_t_sheets, .ref a_t_holds, .ref a_t_heldNumber, .ref a_t_heldSize, .int s_t_kind, .int s_t_number, .int s_t_own, .ref a_t_traced, .int s_t_bodies, .int s_t_isParted, .int s_t_isKept, .ref a_t_keptRow, .int s_t_movedTo, .ref a_t_single])), (a_t_rule, .inl (cI, 24, .inl o_v_t_rule))] r := by
  refine xMi.mk (own := "FairNextModel") (by decide +kernel) rfl (Nat.le_of_ble_eq_true rfl) ?_
  intro p e s m args below meth c A Q ls H hfix hK hP hD hA hS hl hEnd
  obtain ⟨hx, hb, hml, hown, hts⟩ := id hfix
  have hl : lv_has ls 3 [(0, .ref a_t), (1, .int i1)] := hl
  rw [f_X7_drop] at hF
  refine lv_aload_n hx hb dX7_drop_0 rfl (lv_at hl 0 rfl) ?_
  refine lv_iload_n hx hb dX7_drop_1 rfl (lv_at hl 1 rfl) ?_
  refine xrz0 (xrunV (As := [.int i1]) (rest := []) (c_X7_isHeldRule l D cI cB cJ a_t a_t_stand a_t_on a_t_marks a_t_rule a_t_tape a_t_freshStand a_t_freshMarks a_t_freshRule a_t_shares a_t_said a_t_rows a_t_must a_t_sorts a_t_sizes a_t_sheets a_t_holds a_t_heldNumber a_t_heldSize a_t_traced a_t_keptRow a_t_single _ s_t_villages s_t_held s_t_z s_t_tapeMany s_t_sort s_t_begins s_t_tokenEnds s_t_word s_t_value s_t_good s_t_freshVillages s_t_freshHeld s_t_rowMany s_t_mustMany s_t_kind s_t_number s_t_own s_t_bodies s_t_isParted s_t_isKept s_t_movedTo i1 (f_X7_isHeldRule i1 s_t_held) rfl) hfix xw_921 yv_X7_isHeldRule ⟨rfl, rfl⟩ ⟨(Nat.le_of_ble_eq_true rfl), (Nat.le_of_ble_eq_true rfl)⟩ xKk_K (fun U hU hW => xK.warm hW hK) hK.1 hP hD [0] rfl rfl 0 7 rfl rfl rfl rfl hl.1 rfl (Nat.le_of_ble_eq_true rfl) dX7_drop_2 ⟨Nat.zero_le _, Nat.zero_le _⟩) hP hD hS hA [0] rfl rfl (fun H locs hP hD hS hz_1 => ?_)
  refine lv_if_ne (tgt := 10) hx hb dX7_drop_5 (by decide) (fun c_2 => ?_) (fun c_2 => ?_)
  · replace hF := if_f c_2 hF
    refine lv_aload_n hx hb dX7_drop_10 rfl (lv_at hl 0 rfl) ?_
    refine lv_dup hx hb dX7_drop_11 rfl ?_
    refine xget (ci := 7) (C := RX7) (T := TX7) (N := 42) hfix xiX7 hK.1 hP 0 rfl rfl 4 (by decide) rfl xw_692 rfl dX7_drop_12 ?_
    refine lv_iconst (v := (1 : Int32)) hx hb dX7_drop_15 (by decide) ?_
    refine lv_isub hx hb dX7_drop_16 ?_
    refine xput (ci := 7) (C := RX7) (T := TX7) (N := 42) hfix xiX7 tyX7 tyX7_ok nmX7 hK.1 hP hD hS 0 rfl rfl 4 (by decide) rfl rfl xw_692 (ty := .int) rfl rfl rfl (Nat.le_of_ble_eq_true rfl) dX7_drop_17 (wn := [(a_t, .inr (7, [.ref a_t_stand, .ref a_t_on, .ref a_t_marks, .int s_t_villages, .int (s_t_held - (1 : Int32)), .ref a_t_rule, .int s_t_z, .ref a_t_tape, .int s_t_tapeMany, .int s_t_sort, .int s_t_begins, .int s_t_tokenEnds, .long s_t_word, .int s_t_value, .int s_t_good, .int s_t_freshVillages, .int s_t_freshHeld, .ref a_t_freshStand, .ref a_t_freshMarks, .ref a_t_freshRule, .ref a_t_shares, .ref a_t_said, .ref a_t_rows, .ref a_t_must, .int s_t_rowMany, .int s_t_mustMany, .ref a_t_sorts, .ref a_t_sizes, .ref a_t_sheets, .ref a_t_holds, .ref a_t_heldNumber, .ref a_t_heldSize, .int s_t_kind, .int s_t_number, .int s_t_own, .ref a_t_traced, .int s_t_bodies, .int s_t_isParted, .int s_t_isKept, .ref a_t_keptRow, .int s_t_movedTo, .ref a_t_single])), (a_t_rule, .inl (cI, 24, .inl v_t_rule))]) rfl (fun H locs hP hD hS => ?_)
    refine lv_iconst (v := (4 : Int32)) hx hb dX7_drop_20 (by decide) ?_
    refine lv_iload_n hx hb dX7_drop_21 rfl (lv_at hl 1 rfl) ?_
    refine lv_imul hx hb dX7_drop_22 ?_
    refine lv_istore_n (lv' := [(2, .int ((4 : Int32) * i1)), (0, .ref a_t), (1, .int i1)]) hx hb dX7_drop_23 rfl hl (by decide) rfl (fun ls hl => ?_)
    have hL_24 : ∀ (n : Nat) (x2_3 : Int32) (xv_t_rule_4 : (Nat → Int32)) (yv_t_rule_5 : (Nat → Int32)), f_X7_drop_L24 s_t_held n x2_3 xv_t_rule_4 = some yv_t_rule_5 → ∀ (H : Heap) (locs : List Loc) (ls : Array Slot), va_P D vwCl [(a_t, .inr (7, [.ref a_t_stand, .ref a_t_on, .ref a_t_marks, .int s_t_villages, .int (s_t_held - (1 : Int32)), .ref a_t_rule, .int s_t_z, .ref a_t_tape, .int s_t_tapeMany, .int s_t_sort, .int s_t_begins, .int s_t_tokenEnds, .long s_t_word, .int s_t_value, .int s_t_good, .int s_t_freshVillages, .int s_t_freshHeld, .ref a_t_freshStand, .ref a_t_freshMarks, .ref a_t_freshRule, .ref a_t_shares, .ref a_t_said, .ref a_t_rows, .ref a_t_must, .int s_t_rowMany, .int s_t_mustMany, .ref a_t_sorts, .ref a_t_sizes, .ref a_t_sheets, .ref a_t_holds, .ref a_t_heldNumber, .ref a_t_heldSize, .int s_t_kind, .int s_t_number, .int s_t_own, .ref a_t_traced, .int s_t_bodies, .int s_t_isParted, .int s_t_isKept, .ref a_t_keptRow, .int s_t_movedTo, .ref a_t_single])), (a_t_rule, .inl (cI, 24, .inl xv_t_rule_4))] H → va_D A [(a_t, .inr (7, [.ref a_t_stand, .ref a_t_on, .ref a_t_marks, .int s_t_villages, .int (s_t_held - (1 : Int32)), .ref a_t_rule, .int s_t_z, .ref a_t_tape, .int s_t_tapeMany, .int s_t_sort, .int s_t_begins, .int s_t_tokenEnds, .long s_t_word, .int s_t_value, .int s_t_good, .int s_t_freshVillages, .int s_t_freshHeld, .ref a_t_freshStand, .ref a_t_freshMarks, .ref a_t_freshRule, .ref a_t_shares, .ref a_t_said, .ref a_t_rows, .ref a_t_must, .int s_t_rowMany, .int s_t_mustMany, .ref a_t_sorts, .ref a_t_sizes, .ref a_t_sheets, .ref a_t_holds, .ref a_t_heldNumber, .ref a_t_heldSize, .int s_t_kind, .int s_t_number, .int s_t_own, .ref a_t_traced, .int s_t_bodies, .int s_t_isParted, .int s_t_isKept, .ref a_t_keptRow, .int s_t_movedTo, .ref a_t_single])), (a_t_rule, .inl (cI, 24, .inl xv_t_rule_4))] → va_S A s.heap H locs → lv_has ls 3 [(0, .ref a_t), (2, .int x2_3)] → (∀ (H : Heap) (locs : List Loc) (ls : Array Slot), va_P D vwCl [(a_t, .inr (7, [.ref a_t_stand, .ref a_t_on, .ref a_t_marks, .int s_t_villages, .int (s_t_held - (1 : Int32)), .ref a_t_rule, .int s_t_z, .ref a_t_tape, .int s_t_tapeMany, .int s_t_sort, .int s_t_begins, .int s_t_tokenEnds, .long s_t_word, .int s_t_value, .int s_t_good, .int s_t_freshVillages, .int s_t_freshHeld, .ref a_t_freshStand, .ref a_t_freshMarks, .ref a_t_freshRule, .ref a_t_shares, .ref a_t_said, .ref a_t_rows, .ref a_t_must, .int s_t_rowMany, .int s_t_mustMany, .ref a_t_sorts, .ref a_t_sizes, .ref a_t_sheets, .ref a_t_holds, .ref a_t_heldNumber, .ref a_t_heldSize, .int s_t_kind, .int s_t_number, .int s_t_own, .ref a_t_traced, .int s_t_bodies, .int s_t_isParted, .int s_t_isKept, .ref a_t_keptRow, .int s_t_movedTo, .ref a_t_single])), (a_t_rule, .inl (cI, 24, .inl yv_t_rule_5))] H → va_D A [(a_t, .inr (7, [.ref a_t_stand, .ref a_t_on, .ref a_t_marks, .int s_t_villages, .int (s_t_held - (1 : Int32)), .ref a_t_rule, .int s_t_z, .ref a_t_tape, .int s_t_tapeMany, .int s_t_sort, .int s_t_begins, .int s_t_tokenEnds, .long s_t_word, .int s_t_value, .int s_t_good, .int s_t_freshVillages, .int s_t_freshHeld, .ref a_t_freshStand, .ref a_t_freshMarks, .ref a_t_freshRule, .ref a_t_shares, .ref a_t_said, .ref a_t_rows, .ref a_t_must, .int s_t_rowMany, .int s_t_mustMany, .ref a_t_sorts, .ref a_t_sizes, .ref a_t_sheets, .ref a_t_holds, .ref a_t_heldNumber, .ref a_t_heldSize, .int s_t_kind, .int s_t_number, .int s_t_own, .ref a_t_traced, .int s_t_bodies, .int s_t_isParted, .int s_t_isKept, .ref a_t_keptRow, .int s_t_movedTo, .ref a_t_single])), (a_t_rule, .inl (cI, 24, .inl yv_t_rule_5))] → va_S A s.heap H locs → lv_has ls 3 [(0, .ref a_t)] → W p l e rmX7_drop s m args below meth c H locs 0 0 Q (F0 m 54 ls [])) → W p l e rmX7_drop s m args below meth c H locs 0 0 Q (F0 m 24 ls []) := by
      intro n
      induction n with
      | zero => intro x2_3 xv_t_rule_4 yv_t_rule_5 hF; exact (no_some hF).elim
      | succ n ih =>
        intro x2_3 xv_t_rule_4 yv_t_rule_5 hF H locs ls hP hD hS hl kexit
        rw [f_X7_drop_L24] at hF
        refine lv_iload_n hx hb dX7_drop_24 rfl (lv_at hl 1 rfl) ?_
        refine lv_iconst (v := (4 : Int32)) hx hb dX7_drop_25 (by decide) ?_
        refine lv_aload_n hx hb dX7_drop_26 rfl (lv_at hl 0 rfl) ?_
        refine xget (ci := 7) (C := RX7) (T := TX7) (N := 42) hfix xiX7 hK.1 hP 0 rfl rfl 4 (by decide) rfl xw_692 rfl dX7_drop_27 ?_
        refine lv_imul hx hb dX7_drop_30 ?_
        refine lv_icmp_ge (tgt := 54) hx hb dX7_drop_31 (by decide) (fun c_6 => ?_) (fun c_6 => ?_)
        · replace hF := if_t c_6 hF
          obtain rfl := Option.some.inj hF
          exact kexit _ _ _ hP hD hS (lv_sub hl [0] rfl)
        · replace hF := if_f c_6 hF
          refine lv_aload_n hx hb dX7_drop_34 rfl (lv_at hl 0 rfl) ?_
          refine xget (ci := 7) (C := RX7) (T := TX7) (N := 42) hfix xiX7 hK.1 hP 0 rfl rfl 5 (by decide) rfl xw_693 rfl dX7_drop_35 ?_
          refine lv_iload_n hx hb dX7_drop_38 rfl (lv_at hl 1 rfl) ?_
          refine lv_aload_n hx hb dX7_drop_39 rfl (lv_at hl 0 rfl) ?_
          refine xget (ci := 7) (C := RX7) (T := TX7) (N := 42) hfix xiX7 hK.1 hP 0 rfl rfl 5 (by decide) rfl xw_693 rfl dX7_drop_40 ?_
          refine lv_iload_n hx hb dX7_drop_43 rfl (lv_at hl 1 rfl) ?_
          refine lv_iconst (v := (4 : Int32)) hx hb dX7_drop_44 (by decide) ?_
          refine lv_iadd hx hb dX7_drop_45 ?_
          obtain ⟨c_7, hF⟩ := gd_e hF
          refine va_iald hx hb hK.1 hP 1 0 rfl rfl c_7 dX7_drop_46 ?_
          obtain ⟨c_8, hF⟩ := gd_e hF
          refine va_iast hx hb hK.1 hP hD hS 1 0 rfl rfl c_8 dX7_drop_47 (fun H locs hP hD hS => ?_)
          have hP : va_P D vwCl [(a_t, .inr (7, [.ref a_t_stand, .ref a_t_on, .ref a_t_marks, .int s_t_villages, .int (s_t_held - (1 : Int32)), .ref a_t_rule, .int s_t_z, .ref a_t_tape, .int s_t_tapeMany, .int s_t_sort, .int s_t_begins, .int s_t_tokenEnds, .long s_t_word, .int s_t_value, .int s_t_good, .int s_t_freshVillages, .int s_t_freshHeld, .ref a_t_freshStand, .ref a_t_freshMarks, .ref a_t_freshRule, .ref a_t_shares, .ref a_t_said, .ref a_t_rows, .ref a_t_must, .int s_t_rowMany, .int s_t_mustMany, .ref a_t_sorts, .ref a_t_sizes, .ref a_t_sheets, .ref a_t_holds, .ref a_t_heldNumber, .ref a_t_heldSize, .int s_t_kind, .int s_t_number, .int s_t_own, .ref a_t_traced, .int s_t_bodies, .int s_t_isParted, .int s_t_isKept, .ref a_t_keptRow, .int s_t_movedTo, .ref a_t_single])), (a_t_rule, .inl (cI, 24, .inl (upd xv_t_rule_4 x2_3.toNatClampNeg (xv_t_rule_4 (x2_3 + (4 : Int32)).toNatClampNeg))))] H := hP
          have hD : va_D A [(a_t, .inr (7, [.ref a_t_stand, .ref a_t_on, .ref a_t_marks, .int s_t_villages, .int (s_t_held - (1 : Int32)), .ref a_t_rule, .int s_t_z, .ref a_t_tape, .int s_t_tapeMany, .int s_t_sort, .int s_t_begins, .int s_t_tokenEnds, .long s_t_word, .int s_t_value, .int s_t_good, .int s_t_freshVillages, .int s_t_freshHeld, .ref a_t_freshStand, .ref a_t_freshMarks, .ref a_t_freshRule, .ref a_t_shares, .ref a_t_said, .ref a_t_rows, .ref a_t_must, .int s_t_rowMany, .int s_t_mustMany, .ref a_t_sorts, .ref a_t_sizes, .ref a_t_sheets, .ref a_t_holds, .ref a_t_heldNumber, .ref a_t_heldSize, .int s_t_kind, .int s_t_number, .int s_t_own, .ref a_t_traced, .int s_t_bodies, .int s_t_isParted, .int s_t_isKept, .ref a_t_keptRow, .int s_t_movedTo, .ref a_t_single])), (a_t_rule, .inl (cI, 24, .inl (upd xv_t_rule_4 x2_3.toNatClampNeg (xv_t_rule_4 (x2_3 + (4 : Int32)).toNatClampNeg))))] := hD
          refine lv_iinc (v := (x2_3 + (1 : Int32))) (lv' := [(2, .int (x2_3 + (1 : Int32))), (0, .ref a_t)]) hx hb dX7_drop_48 hl (k := 1) rfl rfl (by decide) rfl (fun ls hl => ?_)
          refine lv_goto (tgt := 24) hx hb dX7_drop_51 (by decide) ?_
          exact ih _ _ _ hF _ _ _ hP hD hS (lv_sub hl [1, 0] rfl) kexit
    obtain ⟨yv_t_rule_5, hq, hF⟩ := bd1_e hF
    refine hL_24 _ _ _ _ hq _ _ _ hP hD hS (lv_sub hl [1, 0] rfl) (fun H locs ls hP hD hS hl => ?_)
    refine lv_aload_n hx hb dX7_drop_54 rfl (lv_at hl 0 rfl) ?_
    refine xget (ci := 7) (C := RX7) (T := TX7) (N := 42) hfix xiX7 hK.1 hP 0 rfl rfl 4 (by decide) rfl xw_692 rfl dX7_drop_55 ?_
    obtain ⟨rfl, rfl, rfl⟩ := pj3 hF
    exact hEnd _ _ _ _ _ dX7_drop_58 hP hS rfl
  · replace hF := if_t c_2 hF
    refine lv_iconst (v := (-1 : Int32)) hx hb dX7_drop_8 (by decide) ?_
    obtain ⟨rfl, rfl, rfl⟩ := pj3 hF
    exact hEnd _ _ _ _ _ dX7_drop_9 hP hS rfl
