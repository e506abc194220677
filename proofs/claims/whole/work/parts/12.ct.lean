def f_X4_take_L21 (i2 : Int32) (s_t_count : Int32) (i1 : Int64) : Nat → Int32 → (Nat → Int32) → Option ((Nat → Int32))
  | 0, _, _ => none
  | n + 1, x4_3, xv_t_bytes_4 => (if i2 ≤ x4_3 then some (xv_t_bytes_4) else gd (s_t_count + x4_3) 200 (f_X4_take_L21 i2 s_t_count i1 n (x4_3 + (1 : Int32)) (upd xv_t_bytes_4 (s_t_count + x4_3).toNatClampNeg (vp_nar .byte (((((i1).toUInt64 >>> ((((8 : Int32) * x4_3)).toInt64.toUInt64 &&& Int64.toUInt64 63)).toInt64).toInt32).toInt8.toInt32)))))
def f_X4_take (i1 : Int64) (i2 : Int32) (s_t_count : Int32) (v_t_bytes : (Nat → Int32)) : Option (Int32 × Int32 × (Nat → Int32)) := (if i2 < (0 : Int32) then some (((0 : Int32), s_t_count, v_t_bytes)) else (if i2 ≤ ((200 : Int32) - s_t_count) then bd1 (f_X4_take_L21 i2 s_t_count i1 1000 (0 : Int32) v_t_bytes) (fun (yv_t_bytes_5 : (Nat → Int32)) => some (((1 : Int32), (s_t_count + i2), yv_t_bytes_5))) else some (((0 : Int32), s_t_count, v_t_bytes))))
abbrev rmX4_take : Room := { frames := 0, cells := 0, slots := 0, locals := 0 }
set_option maxHeartbeats 400000 in
set_option maxRecDepth 100000 in
theorem c_X4_take (l : Launch) (D : va_G) (cI cB cJ : ClassId) (a_t : Nat) (a_t_bytes : Nat) (sz : Nat) (s_t_count : Int32) (s_t_place : Int32) (s_t_fault : Int32) (v_t_bytes : (Nat → Int32)) (i1 : Int64) (i2 : Int32) (r : Int32) (o_s_t_count : Int32) (o_v_t_bytes : (Nat → Int32)) (hF : f_X4_take i1 i2 s_t_count v_t_bytes = some (r, o_s_t_count, o_v_t_bytes)) : xMz l yX4_take (.code yX4_take cX4_take 5 (some .boolean) :: xU) rmX4_take (xK D cI cB cJ) D sz [.ref a_t, .long i1, .int i2] [(a_t, .inr (4, [.ref a_t_bytes, .int s_t_count, .int s_t_place, .int s_t_fault])), (a_t_bytes, .inl (cB, 200, .inl v_t_bytes))] [(a_t, .inr (4, [.ref a_t_bytes, .int o_s_t_count, .int s_t_place, .int s_t_fault])), (a_t_bytes, .inl (cB, 200, .inl o_v_t_bytes))] r := by
  refine xMz.mk (own := "FairNext$Tape") (by decide +kernel) rfl (Nat.le_of_ble_eq_true rfl) ?_
  intro p e s m args below meth c A Q ls H hfix hK hP hD hA hS hl hEnd
  obtain ⟨hx, hb, hml, hown, hts⟩ := id hfix
  have hl : lv_has ls 5 [(0, .ref a_t), (1, .long i1), (3, .int i2)] := hl
  rw [f_X4_take] at hF
  refine lv_iload_n hx hb dX4_take_0 rfl (lv_at hl 2 rfl) ?_
  refine lv_if_lt (tgt := 16) hx hb dX4_take_1 (by decide) (fun c_1 => ?_) (fun c_1 => ?_)
  · replace hF := if_t c_1 hF
    refine lv_iconst (v := (0 : Int32)) hx hb dX4_take_16 (by decide) ?_
    obtain ⟨rfl, rfl, rfl⟩ := pj3 hF
    exact hEnd _ _ _ _ _ dX4_take_17 hP hS x01_0 rfl
  · replace hF := if_f c_1 hF
    refine lv_iload_n hx hb dX4_take_4 rfl (lv_at hl 2 rfl) ?_
    refine lv_sipush (v := (200 : Int32)) hx hb dX4_take_5 (by decide) ?_
    refine lv_aload_n hx hb dX4_take_8 rfl (lv_at hl 0 rfl) ?_
    refine xget (ci := 4) (C := RX4) (T := TX4) (N := 4) hfix xiX4 hK.1 hP 0 rfl rfl 1 (by decide) rfl xw_66 rfl dX4_take_9 ?_
    refine lv_isub hx hb dX4_take_12 ?_
    refine lv_icmp_le (tgt := 18) hx hb dX4_take_13 (by decide) (fun c_2 => ?_) (fun c_2 => ?_)
    · replace hF := if_t c_2 hF
      refine lv_iconst (v := (0 : Int32)) hx hb dX4_take_18 (by decide) ?_
      refine lv_istore (lv' := [(4, .int (0 : Int32)), (0, .ref a_t), (1, .long i1), (3, .int i2)]) hx hb dX4_take_19 hl (by decide) rfl (fun ls hl => ?_)
      have hL_21 : ∀ (n : Nat) (x4_3 : Int32) (xv_t_bytes_4 : (Nat → Int32)) (yv_t_bytes_5 : (Nat → Int32)), f_X4_take_L21 i2 s_t_count i1 n x4_3 xv_t_bytes_4 = some yv_t_bytes_5 → ∀ (H : Heap) (locs : List Loc) (ls : Array Slot), va_P D vwCl [(a_t, .inr (4, [.ref a_t_bytes, .int s_t_count, .int s_t_place, .int s_t_fault])), (a_t_bytes, .inl (cB, 200, .inl xv_t_bytes_4))] H → va_D A [(a_t, .inr (4, [.ref a_t_bytes, .int s_t_count, .int s_t_place, .int s_t_fault])), (a_t_bytes, .inl (cB, 200, .inl xv_t_bytes_4))] → va_S A s.heap H locs → lv_has ls 5 [(0, .ref a_t), (1, .long i1), (3, .int i2), (4, .int x4_3)] → (∀ (H : Heap) (locs : List Loc) (ls : Array Slot), va_P D vwCl [(a_t, .inr (4, [.ref a_t_bytes, .int s_t_count, .int s_t_place, .int s_t_fault])), (a_t_bytes, .inl (cB, 200, .inl yv_t_bytes_5))] H → va_D A [(a_t, .inr (4, [.ref a_t_bytes, .int s_t_count, .int s_t_place, .int s_t_fault])), (a_t_bytes, .inl (cB, 200, .inl yv_t_bytes_5))] → va_S A s.heap H locs → lv_has ls 5 [(0, .ref a_t), (3, .int i2)] → W p l e rmX4_take s m args below meth c H locs 0 0 Q (F0 m 54 ls [])) → W p l e rmX4_take s m args below meth c H locs 0 0 Q (F0 m 21 ls []) := by
        intro n
        induction n with
        | zero => intro x4_3 xv_t_bytes_4 yv_t_bytes_5 hF; exact (no_some hF).elim
        | succ n ih =>
          intro x4_3 xv_t_bytes_4 yv_t_bytes_5 hF H locs ls hP hD hS hl kexit
          rw [f_X4_take_L21] at hF
          refine lv_iload hx hb dX4_take_21 (lv_at hl 3 rfl) ?_
          refine lv_iload_n hx hb dX4_take_23 rfl (lv_at hl 2 rfl) ?_
          refine lv_icmp_ge (tgt := 54) hx hb dX4_take_24 (by decide) (fun c_6 => ?_) (fun c_6 => ?_)
          · replace hF := if_t c_6 hF
            obtain rfl := Option.some.inj hF
            exact kexit _ _ _ hP hD hS (lv_sub hl [0, 2] rfl)
          · replace hF := if_f c_6 hF
            refine lv_aload_n hx hb dX4_take_27 rfl (lv_at hl 0 rfl) ?_
            refine xget (ci := 4) (C := RX4) (T := TX4) (N := 4) hfix xiX4 hK.1 hP 0 rfl rfl 0 (by decide) rfl xw_65 rfl dX4_take_28 ?_
            refine lv_aload_n hx hb dX4_take_31 rfl (lv_at hl 0 rfl) ?_
            refine xget (ci := 4) (C := RX4) (T := TX4) (N := 4) hfix xiX4 hK.1 hP 0 rfl rfl 1 (by decide) rfl xw_66 rfl dX4_take_32 ?_
            refine lv_iload hx hb dX4_take_35 (lv_at hl 3 rfl) ?_
            refine lv_iadd hx hb dX4_take_37 ?_
            refine lv_lload_n hx hb dX4_take_38 rfl (lv_at hl 1 rfl) ?_
            refine lv_bipush (v := (8 : Int32)) hx hb dX4_take_39 (by decide) ?_
            refine lv_iload hx hb dX4_take_41 (lv_at hl 3 rfl) ?_
            refine lv_imul hx hb dX4_take_43 ?_
            refine lv_lushr (v := (((i1).toUInt64 >>> ((((8 : Int32) * x4_3)).toInt64.toUInt64 &&& Int64.toUInt64 63)).toInt64)) hx hb dX4_take_44 rfl ?_
            refine lv_l2i (v := ((((i1).toUInt64 >>> ((((8 : Int32) * x4_3)).toInt64.toUInt64 &&& Int64.toUInt64 63)).toInt64).toInt32)) hx hb dX4_take_45 rfl ?_
            refine lv_i2b (v := (((((i1).toUInt64 >>> ((((8 : Int32) * x4_3)).toInt64.toUInt64 &&& Int64.toUInt64 63)).toInt64).toInt32).toInt8.toInt32)) hx hb dX4_take_46 rfl ?_
            obtain ⟨c_7, hF⟩ := gd_e hF
            refine va_bast hx hb hK.1 hP hD hS 1 1 rfl rfl c_7 dX4_take_47 (fun H locs hP hD hS => ?_)
            have hP : va_P D vwCl [(a_t, .inr (4, [.ref a_t_bytes, .int s_t_count, .int s_t_place, .int s_t_fault])), (a_t_bytes, .inl (cB, 200, .inl (upd xv_t_bytes_4 (s_t_count + x4_3).toNatClampNeg (vp_nar .byte (((((i1).toUInt64 >>> ((((8 : Int32) * x4_3)).toInt64.toUInt64 &&& Int64.toUInt64 63)).toInt64).toInt32).toInt8.toInt32)))))] H := hP
            have hD : va_D A [(a_t, .inr (4, [.ref a_t_bytes, .int s_t_count, .int s_t_place, .int s_t_fault])), (a_t_bytes, .inl (cB, 200, .inl (upd xv_t_bytes_4 (s_t_count + x4_3).toNatClampNeg (vp_nar .byte (((((i1).toUInt64 >>> ((((8 : Int32) * x4_3)).toInt64.toUInt64 &&& Int64.toUInt64 63)).toInt64).toInt32).toInt8.toInt32)))))] := hD
            refine lv_iinc (v := (x4_3 + (1 : Int32))) (lv' := [(4, .int (x4_3 + (1 : Int32))), (0, .ref a_t), (1, .long i1), (3, .int i2)]) hx hb dX4_take_48 hl (k := 3) rfl rfl (by decide) rfl (fun ls hl => ?_)
            refine lv_goto (tgt := 21) hx hb dX4_take_51 (by decide) ?_
            exact ih _ _ _ hF _ _ _ hP hD hS (lv_sub hl [1, 2, 3, 0] rfl) kexit
      obtain ⟨yv_t_bytes_5, hq, hF⟩ := bd1_e hF
      refine hL_21 _ _ _ _ hq _ _ _ hP hD hS (lv_sub hl [1, 2, 3, 0] rfl) (fun H locs ls hP hD hS hl => ?_)
      refine lv_aload_n hx hb dX4_take_54 rfl (lv_at hl 0 rfl) ?_
      refine lv_dup hx hb dX4_take_55 rfl ?_
      refine xget (ci := 4) (C := RX4) (T := TX4) (N := 4) hfix xiX4 hK.1 hP 0 rfl rfl 1 (by decide) rfl xw_66 rfl dX4_take_56 ?_
      refine lv_iload_n hx hb dX4_take_59 rfl (lv_at hl 1 rfl) ?_
      refine lv_iadd hx hb dX4_take_60 ?_
      refine xput (ci := 4) (C := RX4) (T := TX4) (N := 4) hfix xiX4 tyX4 tyX4_ok nmX4 hK.1 hP hD hS 0 rfl rfl 1 (by decide) rfl rfl xw_66 (ty := .int) rfl rfl rfl (Nat.le_of_ble_eq_true rfl) dX4_take_61 (wn := [(a_t, .inr (4, [.ref a_t_bytes, .int (s_t_count + i2), .int s_t_place, .int s_t_fault])), (a_t_bytes, .inl (cB, 200, .inl yv_t_bytes_5))]) rfl (fun H locs hP hD hS => ?_)
      refine lv_iconst (v := (1 : Int32)) hx hb dX4_take_64 (by decide) ?_
      obtain ⟨rfl, rfl, rfl⟩ := pj3 hF
      exact hEnd _ _ _ _ _ dX4_take_65 hP hS x01_1 rfl
    · replace hF := if_f c_2 hF
      refine lv_iconst (v := (0 : Int32)) hx hb dX4_take_16 (by decide) ?_
      obtain ⟨rfl, rfl, rfl⟩ := pj3 hF
      exact hEnd _ _ _ _ _ dX4_take_17 hP hS x01_0 rfl
def f_X4_byteAt (i1 : Int32) (s_t_count : Int32) (v_t_bytes : (Nat → Int32)) : Option (Int32) := (if i1 < (0 : Int32) then some ((-1 : Int32)) else (if s_t_count ≤ i1 then some ((-1 : Int32)) else (if (200 : Int32) ≤ i1 then some ((-1 : Int32)) else gd i1 200 (some ((v_t_bytes i1.toNatClampNeg))))))
abbrev rmX4_byteAt : Room := { frames := 0, cells := 0, slots := 0, locals := 0 }
set_option maxHeartbeats 400000 in
set_option maxRecDepth 100000 in
theorem c_X4_byteAt (l : Launch) (D : va_G) (cI cB cJ : ClassId) (a_t : Nat) (a_t_bytes : Nat) (sz : Nat) (s_t_count : Int32) (s_t_place : Int32) (s_t_fault : Int32) (v_t_bytes : (Nat → Int32)) (i1 : Int32) (r : Int32) (hF : f_X4_byteAt i1 s_t_count v_t_bytes = some r) : xMi l yX4_byteAt (.code yX4_byteAt cX4_byteAt 2 (some .int) :: xU) rmX4_byteAt (xK D cI cB cJ) D sz [.ref a_t, .int i1] [(a_t, .inr (4, [.ref a_t_bytes, .int s_t_count, .int s_t_place, .int s_t_fault])), (a_t_bytes, .inl (cB, 200, .inl v_t_bytes))] [(a_t, .inr (4, [.ref a_t_bytes, .int s_t_count, .int s_t_place, .int s_t_fault])), (a_t_bytes, .inl (cB, 200, .inl v_t_bytes))] r := by
  refine xMi.mk (own := "FairNext$Tape") (by decide +kernel) rfl (Nat.le_of_ble_eq_true rfl) ?_
  intro p e s m args below meth c A Q ls H hfix hK hP hD hA hS hl hEnd
  obtain ⟨hx, hb, hml, hown, hts⟩ := id hfix
  have hl : lv_has ls 2 [(0, .ref a_t), (1, .int i1)] := hl
  rw [f_X4_byteAt] at hF
  refine lv_iload_n hx hb dX4_byteAt_0 rfl (lv_at hl 1 rfl) ?_
  refine lv_if_lt (tgt := 28) hx hb dX4_byteAt_1 (by decide) (fun c_1 => ?_) (fun c_1 => ?_)
  · replace hF := if_t c_1 hF
    refine lv_iconst (v := (-1 : Int32)) hx hb dX4_byteAt_28 (by decide) ?_
    obtain rfl := Option.some.inj hF
    exact hEnd _ _ _ _ _ dX4_byteAt_29 hP hS rfl
  · replace hF := if_f c_1 hF
    refine lv_iload_n hx hb dX4_byteAt_4 rfl (lv_at hl 1 rfl) ?_
    refine lv_aload_n hx hb dX4_byteAt_5 rfl (lv_at hl 0 rfl) ?_
    refine xget (ci := 4) (C := RX4) (T := TX4) (N := 4) hfix xiX4 hK.1 hP 0 rfl rfl 1 (by decide) rfl xw_66 rfl dX4_byteAt_6 ?_
    refine lv_icmp_ge (tgt := 28) hx hb dX4_byteAt_9 (by decide) (fun c_2 => ?_) (fun c_2 => ?_)
    · replace hF := if_t c_2 hF
      refine lv_iconst (v := (-1 : Int32)) hx hb dX4_byteAt_28 (by decide) ?_
      obtain rfl := Option.some.inj hF
      exact hEnd _ _ _ _ _ dX4_byteAt_29 hP hS rfl
    · replace hF := if_f c_2 hF
      refine lv_iload_n hx hb dX4_byteAt_12 rfl (lv_at hl 1 rfl) ?_
      refine lv_sipush (v := (200 : Int32)) hx hb dX4_byteAt_13 (by decide) ?_
      refine lv_icmp_ge (tgt := 28) hx hb dX4_byteAt_16 (by decide) (fun c_3 => ?_) (fun c_3 => ?_)
      · replace hF := if_t c_3 hF
        refine lv_iconst (v := (-1 : Int32)) hx hb dX4_byteAt_28 (by decide) ?_
        obtain rfl := Option.some.inj hF
        exact hEnd _ _ _ _ _ dX4_byteAt_29 hP hS rfl
      · replace hF := if_f c_3 hF
        refine lv_aload_n hx hb dX4_byteAt_19 rfl (lv_at hl 0 rfl) ?_
        refine xget (ci := 4) (C := RX4) (T := TX4) (N := 4) hfix xiX4 hK.1 hP 0 rfl rfl 0 (by decide) rfl xw_65 rfl dX4_byteAt_20 ?_
        refine lv_iload_n hx hb dX4_byteAt_23 rfl (lv_at hl 1 rfl) ?_
        obtain ⟨c_4, hF⟩ := gd_e hF
        refine va_bald hx hb hK.1 hP 1 1 rfl rfl c_4 dX4_byteAt_24 ?_
        refine lv_goto (tgt := 29) hx hb dX4_byteAt_25 (by decide) ?_
        obtain rfl := Option.some.inj hF
        exact hEnd _ _ _ _ _ dX4_byteAt_29 hP hS rfl
def f_X4_skipBlanks_L0 (s_t_count : Int32) (v_t_bytes : (Nat → Int32)) : Nat → Int32 → Option (Int32)
  | 0, _ => none
  | n + 1, xs_t_place_1 => (if s_t_count ≤ xs_t_place_1 then some (xs_t_place_1) else bd1 (f_X4_byteAt xs_t_place_1 s_t_count v_t_bytes) (fun (r_4 : Int32) => (if r_4 = (32 : Int32) then f_X4_skipBlanks_L0 s_t_count v_t_bytes n (xs_t_place_1 + (1 : Int32)) else some (xs_t_place_1))))
def f_X4_skipBlanks (s_t_count : Int32) (s_t_place : Int32) (v_t_bytes : (Nat → Int32)) : Option (Int32) := bd1 (f_X4_skipBlanks_L0 s_t_count v_t_bytes 1000 s_t_place) (fun (ys_t_place_2 : Int32) => some (ys_t_place_2))
abbrev rmX4_skipBlanks : Room := { frames := 1, cells := 0, slots := 0, locals := 21 }
set_option maxHeartbeats 400000 in
set_option maxRecDepth 100000 in
theorem c_X4_skipBlanks (l : Launch) (D : va_G) (cI cB cJ : ClassId) (a_t : Nat) (a_t_bytes : Nat) (sz : Nat) (s_t_count : Int32) (s_t_place : Int32) (s_t_fault : Int32) (v_t_bytes : (Nat → Int32)) (o_s_t_place : Int32) (hF : f_X4_skipBlanks s_t_count s_t_place v_t_bytes = some o_s_t_place) : xMv l yX4_skipBlanks (.code yX4_skipBlanks cX4_skipBlanks 1 none :: xU) rmX4_skipBlanks (xK D cI cB cJ) D sz [.ref a_t] [(a_t, .inr (4, [.ref a_t_bytes, .int s_t_count, .int s_t_place, .int s_t_fault])), (a_t_bytes, .inl (cB, 200, .inl v_t_bytes))] [(a_t, .inr (4, [.ref a_t_bytes, .int s_t_count, .int o_s_t_place, .int s_t_fault])), (a_t_bytes, .inl (cB, 200, .inl v_t_bytes))] := by
  refine xMv.mk (own := "FairNext$Tape") (by decide +kernel) rfl (Nat.le_of_ble_eq_true rfl) ?_
  intro p e s m args below meth c A Q ls H hfix hK hP hD hA hS hl hEnd
  obtain ⟨hx, hb, hml, hown, hts⟩ := id hfix
  have hl : lv_has ls 1 [(0, .ref a_t)] := hl
  rw [f_X4_skipBlanks] at hF
  have hL_0 : ∀ (n : Nat) (xs_t_place_1 : Int32) (ys_t_place_2 : Int32), f_X4_skipBlanks_L0 s_t_count v_t_bytes n xs_t_place_1 = some ys_t_place_2 → ∀ (H : Heap) (locs : List Loc) (ls : Array Slot), va_P D vwCl [(a_t, .inr (4, [.ref a_t_bytes, .int s_t_count, .int xs_t_place_1, .int s_t_fault])), (a_t_bytes, .inl (cB, 200, .inl v_t_bytes))] H → va_D A [(a_t, .inr (4, [.ref a_t_bytes, .int s_t_count, .int xs_t_place_1, .int s_t_fault])), (a_t_bytes, .inl (cB, 200, .inl v_t_bytes))] → va_S A s.heap H locs → lv_has ls 1 [(0, .ref a_t)] → (∀ (H : Heap) (locs : List Loc) (ls : Array Slot), va_P D vwCl [(a_t, .inr (4, [.ref a_t_bytes, .int s_t_count, .int ys_t_place_2, .int s_t_fault])), (a_t_bytes, .inl (cB, 200, .inl v_t_bytes))] H → va_D A [(a_t, .inr (4, [.ref a_t_bytes, .int s_t_count, .int ys_t_place_2, .int s_t_fault])), (a_t_bytes, .inl (cB, 200, .inl v_t_bytes))] → va_S A s.heap H locs → lv_has ls 1 [] → W p l e rmX4_skipBlanks s m args below meth c H locs 0 0 Q (F0 m 37 ls [])) → W p l e rmX4_skipBlanks s m args below meth c H locs 0 0 Q (F0 m 0 ls []) := by
    intro n
    induction n with
    | zero => intro xs_t_place_1 ys_t_place_2 hF; exact (no_some hF).elim
    | succ n ih =>
      intro xs_t_place_1 ys_t_place_2 hF H locs ls hP hD hS hl kexit
      rw [f_X4_skipBlanks_L0] at hF
      refine lv_aload_n hx hb dX4_skipBlanks_0 rfl (lv_at hl 0 rfl) ?_
      refine xget (ci := 4) (C := RX4) (T := TX4) (N := 4) hfix xiX4 hK.1 hP 0 rfl rfl 2 (by decide) rfl xw_68 rfl dX4_skipBlanks_1 ?_
      refine lv_aload_n hx hb dX4_skipBlanks_4 rfl (lv_at hl 0 rfl) ?_
      refine xget (ci := 4) (C := RX4) (T := TX4) (N := 4) hfix xiX4 hK.1 hP 0 rfl rfl 1 (by decide) rfl xw_66 rfl dX4_skipBlanks_5 ?_
      refine lv_icmp_ge (tgt := 37) hx hb dX4_skipBlanks_8 (by decide) (fun c_3 => ?_) (fun c_3 => ?_)
      · replace hF := if_t c_3 hF
        obtain rfl := Option.some.inj hF
        exact kexit _ _ _ hP hD hS (lv_sub hl [] rfl)
      · replace hF := if_f c_3 hF
        refine lv_aload_n hx hb dX4_skipBlanks_11 rfl (lv_at hl 0 rfl) ?_
        refine lv_aload_n hx hb dX4_skipBlanks_12 rfl (lv_at hl 0 rfl) ?_
        refine xget (ci := 4) (C := RX4) (T := TX4) (N := 4) hfix xiX4 hK.1 hP 0 rfl rfl 2 (by decide) rfl xw_68 rfl dX4_skipBlanks_13 ?_
        obtain ⟨r_4, hq_5, hF⟩ := bd1_e hF
        refine xri0 (xrunV (As := [.int xs_t_place_1]) (rest := []) (c_X4_byteAt l D cI cB cJ a_t a_t_bytes _ s_t_count xs_t_place_1 s_t_fault v_t_bytes xs_t_place_1 r_4 hq_5) hfix xw_225 yv_X4_byteAt ⟨rfl, rfl⟩ ⟨(Nat.le_of_ble_eq_true rfl), (Nat.le_of_ble_eq_true rfl)⟩ xKk_K (fun U hU hW => xK.warm hW hK) hK.1 hP hD [0, 1] rfl rfl 0 4 rfl rfl rfl rfl hl.1 rfl (Nat.le_of_ble_eq_true rfl) dX4_skipBlanks_16 ⟨Nat.zero_le _, Nat.zero_le _⟩) hP hD hS hA [0, 1] rfl rfl (fun H locs hP hD hS => ?_)
        refine lv_bipush (v := (32 : Int32)) hx hb dX4_skipBlanks_19 (by decide) ?_
        refine lv_icmp_ne (tgt := 37) hx hb dX4_skipBlanks_21 (by decide) (fun c_6 => ?_) (fun c_6 => ?_)
        · replace hF := if_f c_6 hF
          obtain rfl := Option.some.inj hF
          exact kexit _ _ _ hP hD hS (lv_sub hl [] rfl)
        · replace hF := if_t c_6 hF
          refine lv_aload_n hx hb dX4_skipBlanks_24 rfl (lv_at hl 0 rfl) ?_
          refine lv_dup hx hb dX4_skipBlanks_25 rfl ?_
          refine xget (ci := 4) (C := RX4) (T := TX4) (N := 4) hfix xiX4 hK.1 hP 0 rfl rfl 2 (by decide) rfl xw_68 rfl dX4_skipBlanks_26 ?_
          refine lv_iconst (v := (1 : Int32)) hx hb dX4_skipBlanks_29 (by decide) ?_
          refine lv_iadd hx hb dX4_skipBlanks_30 ?_
          refine xput (ci := 4) (C := RX4) (T := TX4) (N := 4) hfix xiX4 tyX4 tyX4_ok nmX4 hK.1 hP hD hS 0 rfl rfl 2 (by decide) rfl rfl xw_68 (ty := .int) rfl rfl rfl (Nat.le_of_ble_eq_true rfl) dX4_skipBlanks_31 (wn := [(a_t, .inr (4, [.ref a_t_bytes, .int s_t_count, .int (xs_t_place_1 + (1 : Int32)), .int s_t_fault])), (a_t_bytes, .inl (cB, 200, .inl v_t_bytes))]) rfl (fun H locs hP hD hS => ?_)
          refine lv_goto (tgt := 0) hx hb dX4_skipBlanks_34 (by decide) ?_
          exact ih _ _ hF _ _ _ hP hD hS (lv_sub hl [0] rfl) kexit
  obtain ⟨ys_t_place_2, hq, hF⟩ := bd1_e hF
  refine hL_0 _ _ _ hq _ _ _ hP hD hS (lv_sub hl [0] rfl) (fun H locs ls hP hD hS hl => ?_)
  obtain rfl := Option.some.inj hF
  exact hEnd _ _ _ _ dX4_skipBlanks_37 hP hS
def f_X4_letterAt (i1 : Int32) (s_t_count : Int32) (v_t_bytes : (Nat → Int32)) : Option (Int32) := bd1 (f_X4_byteAt i1 s_t_count v_t_bytes) (fun (r_1 : Int32) => (if r_1 < (97 : Int32) then some ((0 : Int32)) else bd1 (f_X4_byteAt i1 s_t_count v_t_bytes) (fun (r_4 : Int32) => (if (122 : Int32) < r_4 then some ((0 : Int32)) else some ((1 : Int32))))))
abbrev rmX4_letterAt : Room := { frames := 1, cells := 0, slots := 0, locals := 21 }
set_option maxHeartbeats 400000 in
set_option maxRecDepth 100000 in
theorem c_X4_letterAt (l : Launch) (D : va_G) (cI cB cJ : ClassId) (a_t : Nat) (a_t_bytes : Nat) (sz : Nat) (s_t_count : Int32) (s_t_place : Int32) (s_t_fault : Int32) (v_t_bytes : (Nat → Int32)) (i1 : Int32) (r : Int32) (hF : f_X4_letterAt i1 s_t_count v_t_bytes = some r) : xMz l yX4_letterAt (.code yX4_letterAt cX4_letterAt 2 (some .boolean) :: xU) rmX4_letterAt (xK D cI cB cJ) D sz [.ref a_t, .int i1] [(a_t, .inr (4, [.ref a_t_bytes, .int s_t_count, .int s_t_place, .int s_t_fault])), (a_t_bytes, .inl (cB, 200, .inl v_t_bytes))] [(a_t, .inr (4, [.ref a_t_bytes, .int s_t_count, .int s_t_place, .int s_t_fault])), (a_t_bytes, .inl (cB, 200, .inl v_t_bytes))] r := by
  refine xMz.mk (own := "FairNext$Tape") (by decide +kernel) rfl (Nat.le_of_ble_eq_true rfl) ?_
  intro p e s m args below meth c A Q ls H hfix hK hP hD hA hS hl hEnd
  obtain ⟨hx, hb, hml, hown, hts⟩ := id hfix
  have hl : lv_has ls 2 [(0, .ref a_t), (1, .int i1)] := hl
  rw [f_X4_letterAt] at hF
  refine lv_aload_n hx hb dX4_letterAt_0 rfl (lv_at hl 0 rfl) ?_
  refine lv_iload_n hx hb dX4_letterAt_1 rfl (lv_at hl 1 rfl) ?_
  obtain ⟨r_1, hq_2, hF⟩ := bd1_e hF
  refine xri0 (xrunV (As := [.int i1]) (rest := []) (c_X4_byteAt l D cI cB cJ a_t a_t_bytes _ s_t_count s_t_place s_t_fault v_t_bytes i1 r_1 hq_2) hfix xw_225 yv_X4_byteAt ⟨rfl, rfl⟩ ⟨(Nat.le_of_ble_eq_true rfl), (Nat.le_of_ble_eq_true rfl)⟩ xKk_K (fun U hU hW => xK.warm hW hK) hK.1 hP hD [0, 1] rfl rfl 0 4 rfl rfl rfl rfl hl.1 rfl (Nat.le_of_ble_eq_true rfl) dX4_letterAt_2 ⟨Nat.zero_le _, Nat.zero_le _⟩) hP hD hS hA [0, 1] rfl rfl (fun H locs hP hD hS => ?_)
  refine lv_bipush (v := (97 : Int32)) hx hb dX4_letterAt_5 (by decide) ?_
  refine lv_icmp_lt (tgt := 24) hx hb dX4_letterAt_7 (by decide) (fun c_3 => ?_) (fun c_3 => ?_)
  · replace hF := if_t c_3 hF
    refine lv_iconst (v := (0 : Int32)) hx hb dX4_letterAt_24 (by decide) ?_
    obtain rfl := Option.some.inj hF
    exact hEnd _ _ _ _ _ dX4_letterAt_25 hP hS x01_0 rfl
  · replace hF := if_f c_3 hF
    refine lv_aload_n hx hb dX4_letterAt_10 rfl (lv_at hl 0 rfl) ?_
    refine lv_iload_n hx hb dX4_letterAt_11 rfl (lv_at hl 1 rfl) ?_
    obtain ⟨r_4, hq_5, hF⟩ := bd1_e hF
    refine xri0 (xrunV (As := [.int i1]) (rest := []) (c_X4_byteAt l D cI cB cJ a_t a_t_bytes _ s_t_count s_t_place s_t_fault v_t_bytes i1 r_4 hq_5) hfix xw_225 yv_X4_byteAt ⟨rfl, rfl⟩ ⟨(Nat.le_of_ble_eq_true rfl), (Nat.le_of_ble_eq_true rfl)⟩ xKk_K (fun U hU hW => xK.warm hW hK) hK.1 hP hD [0, 1] rfl rfl 0 4 rfl rfl rfl rfl hl.1 rfl (Nat.le_of_ble_eq_true rfl) dX4_letterAt_12 ⟨Nat.zero_le _, Nat.zero_le _⟩) hP hD hS hA [0, 1] rfl rfl (fun H locs hP hD hS => ?_)
    refine lv_bipush (v := (122 : Int32)) hx hb dX4_letterAt_15 (by decide) ?_
    refine lv_icmp_gt (tgt := 24) hx hb dX4_letterAt_17 (by decide) (fun c_6 => ?_) (fun c_6 => ?_)
    · replace hF := if_t c_6 hF
      refine lv_iconst (v := (0 : Int32)) hx hb dX4_letterAt_24 (by decide) ?_
      obtain rfl := Option.some.inj hF
      exact hEnd _ _ _ _ _ dX4_letterAt_25 hP hS x01_0 rfl
    · replace hF := if_f c_6 hF
      refine lv_iconst (v := (1 : Int32)) hx hb dX4_letterAt_20 (by decide) ?_
      refine lv_goto (tgt := 25) hx hb dX4_letterAt_21 (by decide) ?_
      obtain rfl := Option.some.inj hF
      exact hEnd _ _ _ _ _ dX4_letterAt_25 hP hS x01_1 rfl
def f_X4_fail (i1 : Int32) (s_t_fault : Int32) : Int32 := (if (0 : Int32) ≤ s_t_fault then (s_t_fault) else (i1))
abbrev rmX4_fail : Room := { frames := 0, cells := 0, slots := 0, locals := 0 }
set_option maxHeartbeats 400000 in
set_option maxRecDepth 100000 in
theorem c_X4_fail (l : Launch) (D : va_G) (cI cB cJ : ClassId) (a_t : Nat) (a_t_bytes : Nat) (sz : Nat) (s_t_count : Int32) (s_t_place : Int32) (s_t_fault : Int32) (i1 : Int32) (o_s_t_fault : Int32) (hF : f_X4_fail i1 s_t_fault = o_s_t_fault) : xMv l yX4_fail (.code yX4_fail cX4_fail 2 none :: xU) rmX4_fail (xK D cI cB cJ) D sz [.ref a_t, .int i1] [(a_t, .inr (4, [.ref a_t_bytes, .int s_t_count, .int s_t_place, .int s_t_fault]))] [(a_t, .inr (4, [.ref a_t_bytes, .int s_t_count, .int s_t_place, .int o_s_t_fault]))] := by
  refine xMv.mk (own := "FairNext$Tape") (by decide +kernel) rfl (Nat.le_of_ble_eq_true rfl) ?_
  intro p e s m args below meth c A Q ls H hfix hK hP hD hA hS hl hEnd
  obtain ⟨hx, hb, hml, hown, hts⟩ := id hfix
  have hl : lv_has ls 2 [(0, .ref a_t), (1, .int i1)] := hl
  rw [f_X4_fail] at hF
  refine lv_aload_n hx hb dX4_fail_0 rfl (lv_at hl 0 rfl) ?_
  refine xget (ci := 4) (C := RX4) (T := TX4) (N := 4) hfix xiX4 hK.1 hP 0 rfl rfl 3 (by decide) rfl xw_69 rfl dX4_fail_1 ?_
  refine lv_if_ge (tgt := 12) hx hb dX4_fail_4 (by decide) (fun c_1 => ?_) (fun c_1 => ?_)
  · replace hF := if_t c_1 hF
    subst hF
    exact hEnd _ _ _ _ dX4_fail_12 hP hS
  · replace hF := if_f c_1 hF
    refine lv_aload_n hx hb dX4_fail_7 rfl (lv_at hl 0 rfl) ?_
    refine lv_iload_n hx hb dX4_fail_8 rfl (lv_at hl 1 rfl) ?_
    refine xput (ci := 4) (C := RX4) (T := TX4) (N := 4) hfix xiX4 tyX4 tyX4_ok nmX4 hK.1 hP hD hS 0 rfl rfl 3 (by decide) rfl rfl xw_69 (ty := .int) rfl rfl rfl (Nat.le_of_ble_eq_true rfl) dX4_fail_9 (wn := [(a_t, .inr (4, [.ref a_t_bytes, .int s_t_count, .int s_t_place, .int i1]))]) rfl (fun H locs hP hD hS => ?_)
    subst hF
    exact hEnd _ _ _ _ dX4_fail_12 hP hS
def f_X4_digitAt (i1 : Int32) (s_t_count : Int32) (v_t_bytes : (Nat → Int32)) : Option (Int32) := bd1 (f_X4_byteAt i1 s_t_count v_t_bytes) (fun (r_1 : Int32) => (if r_1 < (48 : Int32) then some ((0 : Int32)) else bd1 (f_X4_byteAt i1 s_t_count v_t_bytes) (fun (r_4 : Int32) => (if (57 : Int32) < r_4 then some ((0 : Int32)) else some ((1 : Int32))))))
abbrev rmX4_digitAt : Room := { frames := 1, cells := 0, slots := 0, locals := 21 }
set_option maxHeartbeats 400000 in
set_option maxRecDepth 100000 in
theorem c_X4_digitAt (l : Launch) (D : va_G) (cI cB cJ : ClassId) (a_t : Nat) (a_t_bytes : Nat) (sz : Nat) (s_t_count : Int32) (s_t_place : Int32) (s_t_fault : Int32) (v_t_bytes : (Nat → Int32)) (i1 : Int32) (r : Int32) (hF : f_X4_digitAt i1 s_t_count v_t_bytes = some r) : xMz l yX4_digitAt (.code yX4_digitAt cX4_digitAt 2 (some .boolean) :: xU) rmX4_digitAt (xK D cI cB cJ) D sz [.ref a_t, .int i1] [(a_t, .inr (4, [.ref a_t_bytes, .int s_t_count, .int s_t_place, .int s_t_fault])), (a_t_bytes, .inl (cB, 200, .inl v_t_bytes))] [(a_t, .inr (4, [.ref a_t_bytes, .int s_t_count, .int s_t_place, .int s_t_fault])), (a_t_bytes, .inl (cB, 200, .inl v_t_bytes))] r := by
  refine xMz.mk (own := "FairNext$Tape") (by decide +kernel) rfl (Nat.le_of_ble_eq_true rfl) ?_
  intro p e s m args below meth c A Q ls H hfix hK hP hD hA hS hl hEnd
  obtain ⟨hx, hb, hml, hown, hts⟩ := id hfix
  have hl : lv_has ls 2 [(0, .ref a_t), (1, .int i1)] := hl
  rw [f_X4_digitAt] at hF
  refine lv_aload_n hx hb dX4_digitAt_0 rfl (lv_at hl 0 rfl) ?_
  refine lv_iload_n hx hb dX4_digitAt_1 rfl (lv_at hl 1 rfl) ?_
  obtain ⟨r_1, hq_2, hF⟩ := bd1_e hF
  refine xri0 (xrunV (As := [.int i1]) (rest := []) (c_X4_byteAt l D cI cB cJ a_t a_t_bytes _ s_t_count s_t_place s_t_fault v_t_bytes i1 r_1 hq_2) hfix xw_225 yv_X4_byteAt ⟨rfl, rfl⟩ ⟨(Nat.le_of_ble_eq_true rfl), (Nat.le_of_ble_eq_true rfl)⟩ xKk_K (fun U hU hW => xK.warm hW hK) hK.1 hP hD [0, 1] rfl rfl 0 4 rfl rfl rfl rfl hl.1 rfl (Nat.le_of_ble_eq_true rfl) dX4_digitAt_2 ⟨Nat.zero_le _, Nat.zero_le _⟩) hP hD hS hA [0, 1] rfl rfl (fun H locs hP hD hS => ?_)
  refine lv_bipush (v := (48 : Int32)) hx hb dX4_digitAt_5 (by decide) ?_
  refine lv_icmp_lt (tgt := 24) hx hb dX4_digitAt_7 (by decide) (fun c_3 => ?_) (fun c_3 => ?_)
  · replace hF := if_t c_3 hF
    refine lv_iconst (v := (0 : Int32)) hx hb dX4_digitAt_24 (by decide) ?_
    obtain rfl := Option.some.inj hF
    exact hEnd _ _ _ _ _ dX4_digitAt_25 hP hS x01_0 rfl
  · replace hF := if_f c_3 hF
    refine lv_aload_n hx hb dX4_digitAt_10 rfl (lv_at hl 0 rfl) ?_
    refine lv_iload_n hx hb dX4_digitAt_11 rfl (lv_at hl 1 rfl) ?_
    obtain ⟨r_4, hq_5, hF⟩ := bd1_e hF
    refine xri0 (xrunV (As := [.int i1]) (rest := []) (c_X4_byteAt l D cI cB cJ a_t a_t_bytes _ s_t_count s_t_place s_t_fault v_t_bytes i1 r_4 hq_5) hfix xw_225 yv_X4_byteAt ⟨rfl, rfl⟩ ⟨(Nat.le_of_ble_eq_true rfl), (Nat.le_of_ble_eq_true rfl)⟩ xKk_K (fun U hU hW => xK.warm hW hK) hK.1 hP hD [0, 1] rfl rfl 0 4 rfl rfl rfl rfl hl.1 rfl (Nat.le_of_ble_eq_true rfl) dX4_digitAt_12 ⟨Nat.zero_le _, Nat.zero_le _⟩) hP hD hS hA [0, 1] rfl rfl (fun H locs hP hD hS => ?_)
    refine lv_bipush (v := (57 : Int32)) hx hb dX4_digitAt_15 (by decide) ?_
    refine lv_icmp_gt (tgt := 24) hx hb dX4_digitAt_17 (by decide) (fun c_6 => ?_) (fun c_6 => ?_)
    · replace hF := if_t c_6 hF
      refine lv_iconst (v := (0 : Int32)) hx hb dX4_digitAt_24 (by decide) ?_
      obtain rfl := Option.some.inj hF
      exact hEnd _ _ _ _ _ dX4_digitAt_25 hP hS x01_0 rfl
    · replace hF := if_f c_6 hF
      refine lv_iconst (v := (1 : Int32)) hx hb dX4_digitAt_20 (by decide) ?_
      refine lv_goto (tgt := 25) hx hb dX4_digitAt_21 (by decide) ?_
      obtain rfl := Option.some.inj hF
      exact hEnd _ _ _ _ _ dX4_digitAt_25 hP hS x01_1 rfl
def f_X4_number_L12 (s_t_count : Int32) (v_t_bytes : (Nat → Int32)) (o_1 : Int32) : Nat → Int32 → Int32 → Option (Int32 × Int32)
  | 0, _, _ => none
  | n + 1, x4_3, xs_t_place_4 => (if s_t_count ≤ xs_t_place_4 then some ((x4_3, xs_t_place_4)) else bd1 (f_X4_digitAt xs_t_place_4 s_t_count v_t_bytes) (fun (r_8 : Int32) => (if r_8 = (0 : Int32) then some ((x4_3, xs_t_place_4)) else bd1 ((if (2 : Int32) ≤ (xs_t_place_4 - o_1) then some (x4_3) else bd1 (f_X4_byteAt xs_t_place_4 s_t_count v_t_bytes) (fun (r_14 : Int32) => some ((((x4_3 * (10 : Int32)) + r_14) - (48 : Int32)))))) (fun (j_12 : Int32) => f_X4_number_L12 s_t_count v_t_bytes o_1 n j_12 (xs_t_place_4 + (1 : Int32))))))
def f_X4_number (i1 : Int32) (i2 : Int32) (s_t_count : Int32) (s_t_place : Int32) (s_t_fault : Int32) (v_t_bytes : (Nat → Int32)) : Option (Int32 × Int32 × Int32) := bd1 (f_X4_skipBlanks s_t_count s_t_place v_t_bytes) (fun (o_1 : Int32) => bd2 (f_X4_number_L12 s_t_count v_t_bytes o_1 1000 (0 : Int32) o_1) (fun (y4_5 : Int32) (ys_t_place_6 : Int32) => (if ys_t_place_6 = o_1 then some ((y4_5, ys_t_place_6, (f_X4_fail o_1 s_t_fault))) else (if (2 : Int32) < (ys_t_place_6 - o_1) then some ((y4_5, ys_t_place_6, (f_X4_fail o_1 s_t_fault))) else (if (f_X6_outside y4_5 i1 i2) = (0 : Int32) then some ((y4_5, ys_t_place_6, s_t_fault)) else some ((y4_5, ys_t_place_6, (f_X4_fail o_1 s_t_fault))))))))
abbrev rmX4_number : Room := { frames := 2, cells := 0, slots := 0, locals := 42 }
set_option maxHeartbeats 400000 in
set_option maxRecDepth 100000 in
theorem c_X4_number (l : Launch) (D : va_G) (cI cB cJ : ClassId) (a_t : Nat) (a_t_bytes : Nat) (sz : Nat) (s_t_count : Int32) (s_t_place : Int32) (s_t_fault : Int32) (v_t_bytes : (Nat → Int32)) (i1 : Int32) (i2 : Int32) (r : Int32) (o_s_t_place : Int32) (o_s_t_fault : Int32) (hF : f_X4_number i1 i2 s_t_count s_t_place s_t_fault v_t_bytes = some (r, o_s_t_place, o_s_t_fault)) : xMi l yX4_number (.code yX4_number cX4_number 5 (some .int) :: xU) rmX4_number (xK D cI cB cJ) D sz [.ref a_t, .int i1, .int i2] [(a_t, .inr (4, [.ref a_t_bytes, .int s_t_count, .int s_t_place, .int s_t_fault])), (a_t_bytes, .inl (cB, 200, .inl v_t_bytes))] [(a_t, .inr (4, [.ref a_t_bytes, .int s_t_count, .int o_s_t_place, .int o_s_t_fault])), (a_t_bytes, .inl (cB, 200, .inl v_t_bytes))] r := by
  refine xMi.mk (own := "FairNext$Tape") (by decide +kernel) rfl (Nat.le_of_ble_eq_true rfl) ?_
  intro p e s m args below meth c A Q ls H hfix hK hP hD hA hS hl hEnd
  obtain ⟨hx, hb, hml, hown, hts⟩ := id hfix
  have hl : lv_has ls 5 [(0, .ref a_t), (1, .int i1), (2, .int i2)] := hl
  rw [f_X4_number] at hF
  refine lv_aload_n hx hb dX4_number_0 rfl (lv_at hl 0 rfl) ?_
  obtain ⟨o_1, hq_2, hF⟩ := bd1_e hF
  refine xrv (xrunV (As := []) (rest := []) (c_X4_skipBlanks l D cI cB cJ a_t a_t_bytes _ s_t_count s_t_place s_t_fault v_t_bytes o_1 hq_2) hfix xw_221 yv_X4_skipBlanks ⟨rfl, rfl⟩ ⟨(Nat.le_of_ble_eq_true rfl), (Nat.le_of_ble_eq_true rfl)⟩ xKk_K (fun U hU hW => xK.warm hW hK) hK.1 hP hD [0, 1] rfl rfl 0 4 rfl rfl rfl rfl hl.1 rfl (Nat.le_of_ble_eq_true rfl) dX4_number_1 ⟨Nat.zero_le _, Nat.zero_le _⟩) hP hD hS hA [0, 1] rfl rfl rfl (wn := [(a_t, .inr (4, [.ref a_t_bytes, .int s_t_count, .int o_1, .int s_t_fault])), (a_t_bytes, .inl (cB, 200, .inl v_t_bytes))]) rfl (fun H locs hP hD hS => ?_)
  refine lv_aload_n hx hb dX4_number_4 rfl (lv_at hl 0 rfl) ?_
  refine xget (ci := 4) (C := RX4) (T := TX4) (N := 4) hfix xiX4 hK.1 hP 0 rfl rfl 2 (by decide) rfl xw_68 rfl dX4_number_5 ?_
  refine lv_istore_n (lv' := [(3, .int o_1), (0, .ref a_t), (1, .int i1), (2, .int i2)]) hx hb dX4_number_8 rfl hl (by decide) rfl (fun ls hl => ?_)
  refine lv_iconst (v := (0 : Int32)) hx hb dX4_number_9 (by decide) ?_
  refine lv_istore (lv' := [(4, .int (0 : Int32)), (3, .int o_1), (0, .ref a_t), (1, .int i1), (2, .int i2)]) hx hb dX4_number_10 hl (by decide) rfl (fun ls hl => ?_)
  have hL_12 : ∀ (n : Nat) (x4_3 : Int32) (xs_t_place_4 : Int32) (y4_5 : Int32) (ys_t_place_6 : Int32), f_X4_number_L12 s_t_count v_t_bytes o_1 n x4_3 xs_t_place_4 = some (y4_5, ys_t_place_6) → ∀ (H : Heap) (locs : List Loc) (ls : Array Slot), va_P D vwCl [(a_t, .inr (4, [.ref a_t_bytes, .int s_t_count, .int xs_t_place_4, .int s_t_fault])), (a_t_bytes, .inl (cB, 200, .inl v_t_bytes))] H → va_D A [(a_t, .inr (4, [.ref a_t_bytes, .int s_t_count, .int xs_t_place_4, .int s_t_fault])), (a_t_bytes, .inl (cB, 200, .inl v_t_bytes))] → va_S A s.heap H locs → lv_has ls 5 [(0, .ref a_t), (1, .int i1), (2, .int i2), (3, .int o_1), (4, .int x4_3)] → (∀ (H : Heap) (locs : List Loc) (ls : Array Slot), va_P D vwCl [(a_t, .inr (4, [.ref a_t_bytes, .int s_t_count, .int ys_t_place_6, .int s_t_fault])), (a_t_bytes, .inl (cB, 200, .inl v_t_bytes))] H → va_D A [(a_t, .inr (4, [.ref a_t_bytes, .int s_t_count, .int ys_t_place_6, .int s_t_fault])), (a_t_bytes, .inl (cB, 200, .inl v_t_bytes))] → va_S A s.heap H locs → lv_has ls 5 [(0, .ref a_t), (1, .int i1), (2, .int i2), (3, .int o_1), (4, .int y4_5)] → W p l e rmX4_number s m args below meth c H locs 0 0 Q (F0 m 81 ls [])) → W p l e rmX4_number s m args below meth c H locs 0 0 Q (F0 m 12 ls []) := by
    intro n
    induction n with
    | zero => intro x4_3 xs_t_place_4 y4_5 ys_t_place_6 hF; exact (no_some hF).elim
    | succ n ih =>
      intro x4_3 xs_t_place_4 y4_5 ys_t_place_6 hF H locs ls hP hD hS hl kexit
      rw [f_X4_number_L12] at hF
      refine lv_aload_n hx hb dX4_number_12 rfl (lv_at hl 0 rfl) ?_
      refine xget (ci := 4) (C := RX4) (T := TX4) (N := 4) hfix xiX4 hK.1 hP 0 rfl rfl 2 (by decide) rfl xw_68 rfl dX4_number_13 ?_
      refine lv_aload_n hx hb dX4_number_16 rfl (lv_at hl 0 rfl) ?_
      refine xget (ci := 4) (C := RX4) (T := TX4) (N := 4) hfix xiX4 hK.1 hP 0 rfl rfl 1 (by decide) rfl xw_66 rfl dX4_number_17 ?_
      refine lv_icmp_ge (tgt := 81) hx hb dX4_number_20 (by decide) (fun c_7 => ?_) (fun c_7 => ?_)
      · replace hF := if_t c_7 hF
        obtain ⟨rfl, rfl⟩ := pj2 hF
        exact kexit _ _ _ hP hD hS (lv_sub hl [0, 1, 2, 3, 4] rfl)
      · replace hF := if_f c_7 hF
        refine lv_aload_n hx hb dX4_number_23 rfl (lv_at hl 0 rfl) ?_
        refine lv_aload_n hx hb dX4_number_24 rfl (lv_at hl 0 rfl) ?_
        refine xget (ci := 4) (C := RX4) (T := TX4) (N := 4) hfix xiX4 hK.1 hP 0 rfl rfl 2 (by decide) rfl xw_68 rfl dX4_number_25 ?_
        obtain ⟨r_8, hq_9, hF⟩ := bd1_e hF
        refine xrz0 (xrunV (As := [.int xs_t_place_4]) (rest := []) (c_X4_digitAt l D cI cB cJ a_t a_t_bytes _ s_t_count xs_t_place_4 s_t_fault v_t_bytes xs_t_place_4 r_8 hq_9) hfix xw_311 yv_X4_digitAt ⟨rfl, rfl⟩ ⟨(Nat.le_of_ble_eq_true rfl), (Nat.le_of_ble_eq_true rfl)⟩ xKk_K (fun U hU hW => xK.warm hW hK) hK.1 hP hD [0, 1] rfl rfl 0 4 rfl rfl rfl rfl hl.1 rfl (Nat.le_of_ble_eq_true rfl) dX4_number_28 ⟨Nat.zero_le _, Nat.zero_le _⟩) hP hD hS hA [0, 1] rfl rfl (fun H locs hP hD hS hz_10 => ?_)
        refine lv_if_eq (tgt := 81) hx hb dX4_number_31 (by decide) (fun c_11 => ?_) (fun c_11 => ?_)
        · replace hF := if_t c_11 hF
          obtain ⟨rfl, rfl⟩ := pj2 hF
          exact kexit _ _ _ hP hD hS (lv_sub hl [0, 1, 2, 3, 4] rfl)
        · replace hF := if_f c_11 hF
          refine lv_aload_n hx hb dX4_number_34 rfl (lv_at hl 0 rfl) ?_
          refine xget (ci := 4) (C := RX4) (T := TX4) (N := 4) hfix xiX4 hK.1 hP 0 rfl rfl 2 (by decide) rfl xw_68 rfl dX4_number_35 ?_
          refine lv_iload_n hx hb dX4_number_38 rfl (lv_at hl 3 rfl) ?_
          refine lv_isub hx hb dX4_number_39 ?_
          refine lv_iconst (v := (2 : Int32)) hx hb dX4_number_40 (by decide) ?_
          obtain ⟨j_12, hJ, hF⟩ := bd1_e hF
          have hN_66_12 : ∀ (H : Heap) (locs : List Loc) (ls : Array Slot), va_P D vwCl [(a_t, .inr (4, [.ref a_t_bytes, .int s_t_count, .int xs_t_place_4, .int s_t_fault])), (a_t_bytes, .inl (cB, 200, .inl v_t_bytes))] H → va_D A [(a_t, .inr (4, [.ref a_t_bytes, .int s_t_count, .int xs_t_place_4, .int s_t_fault])), (a_t_bytes, .inl (cB, 200, .inl v_t_bytes))] → va_S A s.heap H locs → lv_has ls 5 [(0, .ref a_t), (1, .int i1), (2, .int i2), (3, .int o_1)] → W p l e rmX4_number s m args below meth c H locs 0 0 Q (F0 m 66 ls [.int j_12]) := by
            intro H locs ls hP hD hS hl
            refine lv_istore (lv' := [(4, .int j_12), (0, .ref a_t), (1, .int i1), (2, .int i2), (3, .int o_1)]) hx hb dX4_number_66 hl (by decide) rfl (fun ls hl => ?_)
            refine lv_aload_n hx hb dX4_number_68 rfl (lv_at hl 1 rfl) ?_
            refine lv_dup hx hb dX4_number_69 rfl ?_
            refine xget (ci := 4) (C := RX4) (T := TX4) (N := 4) hfix xiX4 hK.1 hP 0 rfl rfl 2 (by decide) rfl xw_68 rfl dX4_number_70 ?_
            refine lv_iconst (v := (1 : Int32)) hx hb dX4_number_73 (by decide) ?_
            refine lv_iadd hx hb dX4_number_74 ?_
            refine xput (ci := 4) (C := RX4) (T := TX4) (N := 4) hfix xiX4 tyX4 tyX4_ok nmX4 hK.1 hP hD hS 0 rfl rfl 2 (by decide) rfl rfl xw_68 (ty := .int) rfl rfl rfl (Nat.le_of_ble_eq_true rfl) dX4_number_75 (wn := [(a_t, .inr (4, [.ref a_t_bytes, .int s_t_count, .int (xs_t_place_4 + (1 : Int32)), .int s_t_fault])), (a_t_bytes, .inl (cB, 200, .inl v_t_bytes))]) rfl (fun H locs hP hD hS => ?_)
            refine lv_goto (tgt := 12) hx hb dX4_number_78 (by decide) ?_
            exact ih _ _ _ _ hF _ _ _ hP hD hS (lv_sub hl [1, 2, 3, 4, 0] rfl) kexit
          replace hF := hJ
          refine lv_icmp_ge (tgt := 64) hx hb dX4_number_41 (by decide) (fun c_13 => ?_) (fun c_13 => ?_)
          · replace hF := if_t c_13 hF
            refine lv_iload hx hb dX4_number_64 (lv_at hl 4 rfl) ?_
            obtain rfl := Option.some.inj hF
            exact hN_66_12 _ _ _ hP hD hS (lv_sub hl [0, 1, 2, 3] rfl)
          · replace hF := if_f c_13 hF
            refine lv_iload hx hb dX4_number_44 (lv_at hl 4 rfl) ?_
            refine lv_bipush (v := (10 : Int32)) hx hb dX4_number_46 (by decide) ?_
            refine lv_imul hx hb dX4_number_48 ?_
            refine lv_aload_n hx hb dX4_number_49 rfl (lv_at hl 0 rfl) ?_
            refine lv_aload_n hx hb dX4_number_50 rfl (lv_at hl 0 rfl) ?_
            refine xget (ci := 4) (C := RX4) (T := TX4) (N := 4) hfix xiX4 hK.1 hP 0 rfl rfl 2 (by decide) rfl xw_68 rfl dX4_number_51 ?_
            obtain ⟨r_14, hq_15, hF⟩ := bd1_e hF
            refine xri0 (xrunV (As := [.int xs_t_place_4]) (rest := [.int (x4_3 * (10 : Int32))]) (c_X4_byteAt l D cI cB cJ a_t a_t_bytes _ s_t_count xs_t_place_4 s_t_fault v_t_bytes xs_t_place_4 r_14 hq_15) hfix xw_225 yv_X4_byteAt ⟨rfl, rfl⟩ ⟨(Nat.le_of_ble_eq_true rfl), (Nat.le_of_ble_eq_true rfl)⟩ xKk_K (fun U hU hW => xK.warm hW hK) hK.1 hP hD [0, 1] rfl rfl 0 4 rfl rfl rfl rfl hl.1 rfl (Nat.le_of_ble_eq_true rfl) dX4_number_54 ⟨Nat.zero_le _, Nat.zero_le _⟩) hP hD hS hA [0, 1] rfl rfl (fun H locs hP hD hS => ?_)
            refine lv_iadd hx hb dX4_number_57 ?_
            refine lv_bipush (v := (48 : Int32)) hx hb dX4_number_58 (by decide) ?_
            refine lv_isub hx hb dX4_number_60 ?_
            refine lv_goto (tgt := 66) hx hb dX4_number_61 (by decide) ?_
            obtain rfl := Option.some.inj hF
            exact hN_66_12 _ _ _ hP hD hS (lv_sub hl [0, 1, 2, 3] rfl)
  obtain ⟨y4_5, ys_t_place_6, hq, hF⟩ := bd2_e hF
  refine hL_12 _ _ _ _ _ hq _ _ _ hP hD hS (lv_sub hl [2, 3, 4, 1, 0] rfl) (fun H locs ls hP hD hS hl => ?_)
  refine lv_aload_n hx hb dX4_number_81 rfl (lv_at hl 0 rfl) ?_
  refine xget (ci := 4) (C := RX4) (T := TX4) (N := 4) hfix xiX4 hK.1 hP 0 rfl rfl 2 (by decide) rfl xw_68 rfl dX4_number_82 ?_
  refine lv_iload_n hx hb dX4_number_85 rfl (lv_at hl 3 rfl) ?_
  refine lv_icmp_eq (tgt := 109) hx hb dX4_number_86 (by decide) (fun c_16 => ?_) (fun c_16 => ?_)
  · replace hF := if_t c_16 hF
    refine lv_aload_n hx hb dX4_number_109 rfl (lv_at hl 0 rfl) ?_
    refine lv_iload_n hx hb dX4_number_110 rfl (lv_at hl 3 rfl) ?_
    refine xrv (xrunV (As := [.int o_1]) (rest := []) (c_X4_fail l D cI cB cJ a_t a_t_bytes _ s_t_count ys_t_place_6 s_t_fault o_1 (f_X4_fail o_1 s_t_fault) rfl) hfix xw_303 yv_X4_fail ⟨rfl, rfl⟩ ⟨(Nat.le_of_ble_eq_true rfl), (Nat.le_of_ble_eq_true rfl)⟩ xKk_K (fun U hU hW => xK.warm hW hK) hK.1 hP hD [0] rfl rfl 0 4 rfl rfl rfl rfl hl.1 rfl (Nat.le_of_ble_eq_true rfl) dX4_number_111 ⟨Nat.zero_le _, Nat.zero_le _⟩) hP hD hS hA [0] rfl rfl rfl (wn := [(a_t, .inr (4, [.ref a_t_bytes, .int s_t_count, .int ys_t_place_6, .int (f_X4_fail o_1 s_t_fault)])), (a_t_bytes, .inl (cB, 200, .inl v_t_bytes))]) rfl (fun H locs hP hD hS => ?_)
    refine lv_iload hx hb dX4_number_114 (lv_at hl 4 rfl) ?_
    obtain ⟨rfl, rfl, rfl⟩ := pj3 hF
    exact hEnd _ _ _ _ _ dX4_number_116 hP hS rfl
  · replace hF := if_f c_16 hF
    refine lv_aload_n hx hb dX4_number_89 rfl (lv_at hl 0 rfl) ?_
    refine xget (ci := 4) (C := RX4) (T := TX4) (N := 4) hfix xiX4 hK.1 hP 0 rfl rfl 2 (by decide) rfl xw_68 rfl dX4_number_90 ?_
    refine lv_iload_n hx hb dX4_number_93 rfl (lv_at hl 3 rfl) ?_
    refine lv_isub hx hb dX4_number_94 ?_
    refine lv_iconst (v := (2 : Int32)) hx hb dX4_number_95 (by decide) ?_
    refine lv_icmp_gt (tgt := 109) hx hb dX4_number_96 (by decide) (fun c_17 => ?_) (fun c_17 => ?_)
    · replace hF := if_t c_17 hF
      refine lv_aload_n hx hb dX4_number_109 rfl (lv_at hl 0 rfl) ?_
      refine lv_iload_n hx hb dX4_number_110 rfl (lv_at hl 3 rfl) ?_
      refine xrv (xrunV (As := [.int o_1]) (rest := []) (c_X4_fail l D cI cB cJ a_t a_t_bytes _ s_t_count ys_t_place_6 s_t_fault o_1 (f_X4_fail o_1 s_t_fault) rfl) hfix xw_303 yv_X4_fail ⟨rfl, rfl⟩ ⟨(Nat.le_of_ble_eq_true rfl), (Nat.le_of_ble_eq_true rfl)⟩ xKk_K (fun U hU hW => xK.warm hW hK) hK.1 hP hD [0] rfl rfl 0 4 rfl rfl rfl rfl hl.1 rfl (Nat.le_of_ble_eq_true rfl) dX4_number_111 ⟨Nat.zero_le _, Nat.zero_le _⟩) hP hD hS hA [0] rfl rfl rfl (wn := [(a_t, .inr (4, [.ref a_t_bytes, .int s_t_count, .int ys_t_place_6, .int (f_X4_fail o_1 s_t_fault)])), (a_t_bytes, .inl (cB, 200, .inl v_t_bytes))]) rfl (fun H locs hP hD hS => ?_)
      refine lv_iload hx hb dX4_number_114 (lv_at hl 4 rfl) ?_
      obtain ⟨rfl, rfl, rfl⟩ := pj3 hF
      exact hEnd _ _ _ _ _ dX4_number_116 hP hS rfl
    · replace hF := if_f c_17 hF
      refine lv_iload hx hb dX4_number_99 (lv_at hl 4 rfl) ?_
      refine lv_iload_n hx hb dX4_number_101 rfl (lv_at hl 1 rfl) ?_
      refine lv_iload_n hx hb dX4_number_102 rfl (lv_at hl 2 rfl) ?_
      refine xrz0 (xrunN (As := [.int y4_5, .int i1, .int i2]) (rest := []) (c_X6_outside l D cI cB cJ _ y4_5 i1 i2 (f_X6_outside y4_5 i1 i2) rfl) hfix (hK.2 _ (List.mem_of_getElem? (i := 0) rfl)) ys_X6_outside ⟨rfl, rfl⟩ ⟨(Nat.le_of_ble_eq_true rfl), (Nat.le_of_ble_eq_true rfl)⟩ xKk_K (fun U hU hW => xK.warm hW hK) hP hD [] rfl rfl rfl hl.1 rfl (Nat.le_of_ble_eq_true rfl) dX4_number_103 ⟨Nat.zero_le _, Nat.zero_le _⟩) hP hD hS hA [] rfl rfl (fun H locs hP hD hS hz_18 => ?_)
      refine lv_if_eq (tgt := 114) hx hb dX4_number_106 (by decide) (fun c_19 => ?_) (fun c_19 => ?_)
      · replace hF := if_t c_19 hF
        refine lv_iload hx hb dX4_number_114 (lv_at hl 4 rfl) ?_
        obtain ⟨rfl, rfl, rfl⟩ := pj3 hF
        exact hEnd _ _ _ _ _ dX4_number_116 hP hS rfl
      · replace hF := if_f c_19 hF
        refine lv_aload_n hx hb dX4_number_109 rfl (lv_at hl 0 rfl) ?_
        refine lv_iload_n hx hb dX4_number_110 rfl (lv_at hl 3 rfl) ?_
        refine xrv (xrunV (As := [.int o_1]) (rest := []) (c_X4_fail l D cI cB cJ a_t a_t_bytes _ s_t_count ys_t_place_6 s_t_fault o_1 (f_X4_fail o_1 s_t_fault) rfl) hfix xw_303 yv_X4_fail ⟨rfl, rfl⟩ ⟨(Nat.le_of_ble_eq_true rfl), (Nat.le_of_ble_eq_true rfl)⟩ xKk_K (fun U hU hW => xK.warm hW hK) hK.1 hP hD [0] rfl rfl 0 4 rfl rfl rfl rfl hl.1 rfl (Nat.le_of_ble_eq_true rfl) dX4_number_111 ⟨Nat.zero_le _, Nat.zero_le _⟩) hP hD hS hA [0] rfl rfl rfl (wn := [(a_t, .inr (4, [.ref a_t_bytes, .int s_t_count, .int ys_t_place_6, .int (f_X4_fail o_1 s_t_fault)])), (a_t_bytes, .inl (cB, 200, .inl v_t_bytes))]) rfl (fun H locs hP hD hS => ?_)
        refine lv_iload hx hb dX4_number_114 (lv_at hl 4 rfl) ?_
        obtain ⟨rfl, rfl, rfl⟩ := pj3 hF
        exact hEnd _ _ _ _ _ dX4_number_116 hP hS rfl
def f_X4_readRule (i2 : Int32) (i3 : Int32) (s_t_count : Int32) (s_t_place : Int32) (s_t_fault : Int32) (s_p1_heldCount : Int32) (v_t_bytes : (Nat → Int32)) (v_p1_held : (Nat → Int32)) : Option (Int32 × Int32 × Int32 × (Nat → Int32)) := lt1 ((if s_p1_heldCount < (6 : Int32) then (s_t_fault) else ((f_X4_fail i3 s_t_fault)))) (fun (j_1 : Int32) => bd3 (f_X4_number (0 : Int32) (4 : Int32) s_t_count s_t_place j_1 v_t_bytes) (fun (r_2 : Int32) (o_3 : Int32) (o_4 : Int32) => bd3 (f_X4_number (0 : Int32) (4 : Int32) s_t_count o_3 o_4 v_t_bytes) (fun (r_6 : Int32) (o_7 : Int32) (o_8 : Int32) => bd3 (f_X4_number (1 : Int32) (4 : Int32) s_t_count o_7 o_8 v_t_bytes) (fun (r_10 : Int32) (o_11 : Int32) (o_12 : Int32) => (if (0 : Int32) ≤ o_12 then some ((o_11, o_12, s_p1_heldCount, v_p1_held)) else bd2 (f_X0_holdRule (f_X6_codeOf i2 r_2 r_6 r_10) s_p1_heldCount v_p1_held) (fun (o_15 : Int32) (o_16 : (Nat → Int32)) => some ((o_11, o_12, o_15, o_16))))))))
abbrev rmX4_readRule : Room := { frames := 3, cells := 0, slots := 0, locals := 66 }
set_option maxHeartbeats 400000 in
set_option maxRecDepth 100000 in
theorem c_X4_readRule (l : Launch) (D : va_G) (cI cB cJ : ClassId) (a_t : Nat) (a_t_bytes : Nat) (a_p1 : Nat) (a_p1_village : Nat) (a_p1_mark : Nat) (a_p1_held : Nat) (sz : Nat) (s_t_count : Int32) (s_t_place : Int32) (s_t_fault : Int32) (s_p1_heldCount : Int32) (s_p1_villages : Int32) (v_t_bytes : (Nat → Int32)) (v_p1_held : (Nat → Int32)) (i2 : Int32) (i3 : Int32) (o_s_t_place : Int32) (o_s_t_fault : Int32) (o_s_p1_heldCount : Int32) (o_v_p1_held : (Nat → Int32)) (hF : f_X4_readRule i2 i3 s_t_count s_t_place s_t_fault s_p1_heldCount v_t_bytes v_p1_held = some (o_s_t_place, o_s_t_fault, o_s_p1_heldCount, o_v_p1_held)) : xMv l yX4_readRule (.code yX4_readRule cX4_readRule 7 none :: xU) rmX4_readRule (xK D cI cB cJ) D sz [.ref a_t, .ref a_p1, .int i2, .int i3] [(a_t, .inr (4, [.ref a_t_bytes, .int s_t_count, .int s_t_place, .int s_t_fault])), (a_p1, .inr (0, [.ref a_p1_village, .ref a_p1_mark, .ref a_p1_held, .int s_p1_heldCount, .int s_p1_villages])), (a_t_bytes, .inl (cB, 200, .inl v_t_bytes)), (a_p1_held, .inl (cI, 6, .inl v_p1_held))] [(a_t, .inr (4, [.ref a_t_bytes, .int s_t_count, .int o_s_t_place, .int o_s_t_fault])), (a_p1, .inr (0, [.ref a_p1_village, .ref a_p1_mark, .ref a_p1_held, .int o_s_p1_heldCount, .int s_p1_villages])), (a_t_bytes, .inl (cB, 200, .inl v_t_bytes)), (a_p1_held, .inl (cI, 6, .inl o_v_p1_held))] := by
  refine xMv.mk (own := "FairNext$Tape") (by decide +kernel) rfl (Nat.le_of_ble_eq_true rfl) ?_
  intro p e s m args below meth c A Q ls H hfix hK hP hD hA hS hl hEnd
  obtain ⟨hx, hb, hml, hown, hts⟩ := id hfix
  have hl : lv_has ls 7 [(0, .ref a_t), (1, .ref a_p1), (2, .int i2), (3, .int i3)] := hl
  rw [f_X4_readRule] at hF
  refine lv_aload_n hx hb dX4_readRule_0 rfl (lv_at hl 1 rfl) ?_
  refine xget (ci := 0) (C := RX0) (T := TX0) (N := 5) hfix xiX0 hK.1 hP 1 rfl rfl 3 (by decide) rfl xw_42 rfl dX4_readRule_1 ?_
  refine lv_bipush (v := (6 : Int32)) hx hb dX4_readRule_4 (by decide) ?_
  obtain ⟨j_1, hJ, hF⟩ := lt1_e hF
  have hN_14_1 : ∀ (H : Heap) (locs : List Loc) (ls : Array Slot), va_P D vwCl [(a_t, .inr (4, [.ref a_t_bytes, .int s_t_count, .int s_t_place, .int j_1])), (a_p1, .inr (0, [.ref a_p1_village, .ref a_p1_mark, .ref a_p1_held, .int s_p1_heldCount, .int s_p1_villages])), (a_t_bytes, .inl (cB, 200, .inl v_t_bytes)), (a_p1_held, .inl (cI, 6, .inl v_p1_held))] H → va_D A [(a_t, .inr (4, [.ref a_t_bytes, .int s_t_count, .int s_t_place, .int j_1])), (a_p1, .inr (0, [.ref a_p1_village, .ref a_p1_mark, .ref a_p1_held, .int s_p1_heldCount, .int s_p1_villages])), (a_t_bytes, .inl (cB, 200, .inl v_t_bytes)), (a_p1_held, .inl (cI, 6, .inl v_p1_held))] → va_S A s.heap H locs → lv_has ls 7 [(0, .ref a_t), (1, .ref a_p1), (2, .int i2)] → W p l e rmX4_readRule s m args below meth c H locs 0 0 Q (F0 m 14 ls []) := by
    intro H locs ls hP hD hS hl
    refine lv_aload_n hx hb dX4_readRule_14 rfl (lv_at hl 0 rfl) ?_
    refine lv_iconst (v := (0 : Int32)) hx hb dX4_readRule_15 (by decide) ?_
    refine lv_iconst (v := (4 : Int32)) hx hb dX4_readRule_16 (by decide) ?_
    obtain ⟨r_2, o_3, o_4, hq_5, hF⟩ := bd3_e hF
    refine xri (xrunV (As := [.int (0 : Int32), .int (4 : Int32)]) (rest := []) (c_X4_number l D cI cB cJ a_t a_t_bytes _ s_t_count s_t_place j_1 v_t_bytes (0 : Int32) (4 : Int32) r_2 o_3 o_4 hq_5) hfix xw_307 yv_X4_number ⟨rfl, rfl⟩ ⟨(Nat.le_of_ble_eq_true rfl), (Nat.le_of_ble_eq_true rfl)⟩ xKk_K (fun U hU hW => xK.warm hW hK) hK.1 hP hD [0, 2] rfl rfl 0 4 rfl rfl rfl rfl hl.1 rfl (Nat.le_of_ble_eq_true rfl) dX4_readRule_17 ⟨Nat.zero_le _, Nat.zero_le _⟩) hP hD hS hA [0, 2] rfl rfl rfl (wn := [(a_t, .inr (4, [.ref a_t_bytes, .int s_t_count, .int o_3, .int o_4])), (a_p1, .inr (0, [.ref a_p1_village, .ref a_p1_mark, .ref a_p1_held, .int s_p1_heldCount, .int s_p1_villages])), (a_t_bytes, .inl (cB, 200, .inl v_t_bytes)), (a_p1_held, .inl (cI, 6, .inl v_p1_held))]) rfl (fun H locs hP hD hS => ?_)
    refine lv_istore (lv' := [(4, .int r_2), (0, .ref a_t), (1, .ref a_p1), (2, .int i2)]) hx hb dX4_readRule_20 hl (by decide) rfl (fun ls hl => ?_)
    refine lv_aload_n hx hb dX4_readRule_22 rfl (lv_at hl 1 rfl) ?_
    refine lv_iconst (v := (0 : Int32)) hx hb dX4_readRule_23 (by decide) ?_
    refine lv_iconst (v := (4 : Int32)) hx hb dX4_readRule_24 (by decide) ?_
    obtain ⟨r_6, o_7, o_8, hq_9, hF⟩ := bd3_e hF
    refine xri (xrunV (As := [.int (0 : Int32), .int (4 : Int32)]) (rest := []) (c_X4_number l D cI cB cJ a_t a_t_bytes _ s_t_count o_3 o_4 v_t_bytes (0 : Int32) (4 : Int32) r_6 o_7 o_8 hq_9) hfix xw_307 yv_X4_number ⟨rfl, rfl⟩ ⟨(Nat.le_of_ble_eq_true rfl), (Nat.le_of_ble_eq_true rfl)⟩ xKk_K (fun U hU hW => xK.warm hW hK) hK.1 hP hD [0, 2] rfl rfl 0 4 rfl rfl rfl rfl hl.1 rfl (Nat.le_of_ble_eq_true rfl) dX4_readRule_25 ⟨Nat.zero_le _, Nat.zero_le _⟩) hP hD hS hA [0, 2] rfl rfl rfl (wn := [(a_t, .inr (4, [.ref a_t_bytes, .int s_t_count, .int o_7, .int o_8])), (a_p1, .inr (0, [.ref a_p1_village, .ref a_p1_mark, .ref a_p1_held, .int s_p1_heldCount, .int s_p1_villages])), (a_t_bytes, .inl (cB, 200, .inl v_t_bytes)), (a_p1_held, .inl (cI, 6, .inl v_p1_held))]) rfl (fun H locs hP hD hS => ?_)
    refine lv_istore (lv' := [(5, .int r_6), (4, .int r_2), (0, .ref a_t), (1, .ref a_p1), (2, .int i2)]) hx hb dX4_readRule_28 hl (by decide) rfl (fun ls hl => ?_)
    refine lv_aload_n hx hb dX4_readRule_30 rfl (lv_at hl 2 rfl) ?_
    refine lv_iconst (v := (1 : Int32)) hx hb dX4_readRule_31 (by decide) ?_
    refine lv_iconst (v := (4 : Int32)) hx hb dX4_readRule_32 (by decide) ?_
    obtain ⟨r_10, o_11, o_12, hq_13, hF⟩ := bd3_e hF
    refine xri (xrunV (As := [.int (1 : Int32), .int (4 : Int32)]) (rest := []) (c_X4_number l D cI cB cJ a_t a_t_bytes _ s_t_count o_7 o_8 v_t_bytes (1 : Int32) (4 : Int32) r_10 o_11 o_12 hq_13) hfix xw_307 yv_X4_number ⟨rfl, rfl⟩ ⟨(Nat.le_of_ble_eq_true rfl), (Nat.le_of_ble_eq_true rfl)⟩ xKk_K (fun U hU hW => xK.warm hW hK) hK.1 hP hD [0, 2] rfl rfl 0 4 rfl rfl rfl rfl hl.1 rfl (Nat.le_of_ble_eq_true rfl) dX4_readRule_33 ⟨Nat.zero_le _, Nat.zero_le _⟩) hP hD hS hA [0, 2] rfl rfl rfl (wn := [(a_t, .inr (4, [.ref a_t_bytes, .int s_t_count, .int o_11, .int o_12])), (a_p1, .inr (0, [.ref a_p1_village, .ref a_p1_mark, .ref a_p1_held, .int s_p1_heldCount, .int s_p1_villages])), (a_t_bytes, .inl (cB, 200, .inl v_t_bytes)), (a_p1_held, .inl (cI, 6, .inl v_p1_held))]) rfl (fun H locs hP hD hS => ?_)
    refine lv_istore (lv' := [(6, .int r_10), (5, .int r_6), (4, .int r_2), (0, .ref a_t), (1, .ref a_p1), (2, .int i2)]) hx hb dX4_readRule_36 hl (by decide) rfl (fun ls hl => ?_)
    refine lv_aload_n hx hb dX4_readRule_38 rfl (lv_at hl 3 rfl) ?_
    refine xget (ci := 4) (C := RX4) (T := TX4) (N := 4) hfix xiX4 hK.1 hP 0 rfl rfl 3 (by decide) rfl xw_69 rfl dX4_readRule_39 ?_
    refine lv_if_ge (tgt := 59) hx hb dX4_readRule_42 (by decide) (fun c_14 => ?_) (fun c_14 => ?_)
    · replace hF := if_t c_14 hF
      obtain ⟨rfl, rfl, rfl, rfl⟩ := pj4 hF
      exact hEnd _ _ _ _ dX4_readRule_59 hP hS
    · replace hF := if_f c_14 hF
      refine lv_aload_n hx hb dX4_readRule_45 rfl (lv_at hl 4 rfl) ?_
      refine lv_iload_n hx hb dX4_readRule_46 rfl (lv_at hl 5 rfl) ?_
      refine lv_iload hx hb dX4_readRule_47 (lv_at hl 2 rfl) ?_
      refine lv_iload hx hb dX4_readRule_49 (lv_at hl 1 rfl) ?_
      refine lv_iload hx hb dX4_readRule_51 (lv_at hl 0 rfl) ?_
      refine xri0 (xrunN (As := [.int i2, .int r_2, .int r_6, .int r_10]) (rest := [.ref a_p1]) (c_X6_codeOf l D cI cB cJ _ i2 r_2 r_6 r_10 (f_X6_codeOf i2 r_2 r_6 r_10) rfl) hfix (hK.2 _ (List.mem_of_getElem? (i := 1) rfl)) ys_X6_codeOf ⟨rfl, rfl⟩ ⟨(Nat.le_of_ble_eq_true rfl), (Nat.le_of_ble_eq_true rfl)⟩ xKk_K (fun U hU hW => xK.warm hW hK) hP hD [] rfl rfl rfl hl.1 rfl (Nat.le_of_ble_eq_true rfl) dX4_readRule_53 ⟨Nat.zero_le _, Nat.zero_le _⟩) hP hD hS hA [] rfl rfl (fun H locs hP hD hS => ?_)
      obtain ⟨o_15, o_16, hq_17, hF⟩ := bd2_e hF
      refine xrv (xrunV (As := [.int (f_X6_codeOf i2 r_2 r_6 r_10)]) (rest := []) (c_X0_holdRule l D cI cB cJ a_p1 a_p1_village a_p1_mark a_p1_held _ s_p1_heldCount s_p1_villages v_p1_held (f_X6_codeOf i2 r_2 r_6 r_10) o_15 o_16 hq_17) hfix xw_319 yv_X0_holdRule ⟨rfl, rfl⟩ ⟨(Nat.le_of_ble_eq_true rfl), (Nat.le_of_ble_eq_true rfl)⟩ xKk_K (fun U hU hW => xK.warm hW hK) hK.1 hP hD [1, 3] rfl rfl 1 0 rfl rfl rfl rfl hl.1 rfl (Nat.le_of_ble_eq_true rfl) dX4_readRule_56 ⟨Nat.zero_le _, Nat.zero_le _⟩) hP hD hS hA [1, 3] rfl rfl rfl (wn := [(a_t, .inr (4, [.ref a_t_bytes, .int s_t_count, .int o_11, .int o_12])), (a_p1, .inr (0, [.ref a_p1_village, .ref a_p1_mark, .ref a_p1_held, .int o_15, .int s_p1_villages])), (a_t_bytes, .inl (cB, 200, .inl v_t_bytes)), (a_p1_held, .inl (cI, 6, .inl o_16))]) rfl (fun H locs hP hD hS => ?_)
      obtain ⟨rfl, rfl, rfl, rfl⟩ := pj4 hF
      exact hEnd _ _ _ _ dX4_readRule_59 hP hS
  replace hF := hJ
  refine lv_icmp_lt (tgt := 14) hx hb dX4_readRule_6 (by decide) (fun c_18 => ?_) (fun c_18 => ?_)
  · replace hF := if_t c_18 hF
    subst hF
    exact hN_14_1 _ _ _ hP hD hS (lv_sub hl [0, 1, 2] rfl)
  · replace hF := if_f c_18 hF
    refine lv_aload_n hx hb dX4_readRule_9 rfl (lv_at hl 0 rfl) ?_
    refine lv_iload_n hx hb dX4_readRule_10 rfl (lv_at hl 3 rfl) ?_
    refine xrv (xrunV (As := [.int i3]) (rest := []) (c_X4_fail l D cI cB cJ a_t a_t_bytes _ s_t_count s_t_place s_t_fault i3 (f_X4_fail i3 s_t_fault) rfl) hfix xw_303 yv_X4_fail ⟨rfl, rfl⟩ ⟨(Nat.le_of_ble_eq_true rfl), (Nat.le_of_ble_eq_true rfl)⟩ xKk_K (fun U hU hW => xK.warm hW hK) hK.1 hP hD [0] rfl rfl 0 4 rfl rfl rfl rfl hl.1 rfl (Nat.le_of_ble_eq_true rfl) dX4_readRule_11 ⟨Nat.zero_le _, Nat.zero_le _⟩) hP hD hS hA [0] rfl rfl rfl (wn := [(a_t, .inr (4, [.ref a_t_bytes, .int s_t_count, .int s_t_place, .int (f_X4_fail i3 s_t_fault)])), (a_p1, .inr (0, [.ref a_p1_village, .ref a_p1_mark, .ref a_p1_held, .int s_p1_heldCount, .int s_p1_villages])), (a_t_bytes, .inl (cB, 200, .inl v_t_bytes)), (a_p1_held, .inl (cI, 6, .inl v_p1_held))]) rfl (fun H locs hP hD hS => ?_)
    subst hF
    exact hN_14_1 _ _ _ hP hD hS (lv_sub hl [0, 1, 2] rfl)
def f_X4_end (s_t_count : Int32) (s_t_place : Int32) (s_t_fault : Int32) (v_t_bytes : (Nat → Int32)) : Option (Int32 × Int32) := bd1 (f_X4_skipBlanks s_t_count s_t_place v_t_bytes) (fun (o_1 : Int32) => bd1 (f_X4_byteAt o_1 s_t_count v_t_bytes) (fun (r_3 : Int32) => lt1 ((if r_3 = (59 : Int32) then (s_t_fault) else ((f_X4_fail o_1 s_t_fault)))) (fun (j_5 : Int32) => some (((o_1 + (1 : Int32)), j_5)))))
abbrev rmX4_end : Room := { frames := 2, cells := 0, slots := 0, locals := 41 }
set_option maxHeartbeats 400000 in
set_option maxRecDepth 100000 in
theorem c_X4_end (l : Launch) (D : va_G) (cI cB cJ : ClassId) (a_t : Nat) (a_t_bytes : Nat) (sz : Nat) (s_t_count : Int32) (s_t_place : Int32) (s_t_fault : Int32) (v_t_bytes : (Nat → Int32)) (o_s_t_place : Int32) (o_s_t_fault : Int32) (hF : f_X4_end s_t_count s_t_place s_t_fault v_t_bytes = some (o_s_t_place, o_s_t_fault)) : xMv l yX4_end (.code yX4_end cX4_end 1 none :: xU) rmX4_end (xK D cI cB cJ) D sz [.ref a_t] [(a_t, .inr (4, [.ref a_t_bytes, .int s_t_count, .int s_t_place, .int s_t_fault])), (a_t_bytes, .inl (cB, 200, .inl v_t_bytes))] [(a_t, .inr (4, [.ref a_t_bytes, .int s_t_count, .int o_s_t_place, .int o_s_t_fault])), (a_t_bytes, .inl (cB, 200, .inl v_t_bytes))] := by
  refine xMv.mk (own := "FairNext$Tape") (by decide +kernel) rfl (Nat.le_of_ble_eq_true rfl) ?_
  intro p e s m args below meth c A Q ls H hfix hK hP hD hA hS hl hEnd
  obtain ⟨hx, hb, hml, hown, hts⟩ := id hfix
  have hl : lv_has ls 1 [(0, .ref a_t)] := hl
  rw [f_X4_end] at hF
  refine lv_aload_n hx hb dX4_end_0 rfl (lv_at hl 0 rfl) ?_
  obtain ⟨o_1, hq_2, hF⟩ := bd1_e hF
  refine xrv (xrunV (As := []) (rest := []) (c_X4_skipBlanks l D cI cB cJ a_t a_t_bytes _ s_t_count s_t_place s_t_fault v_t_bytes o_1 hq_2) hfix xw_221 yv_X4_skipBlanks ⟨rfl, rfl⟩ ⟨(Nat.le_of_ble_eq_true rfl), (Nat.le_of_ble_eq_true rfl)⟩ xKk_K (fun U hU hW => xK.warm hW hK) hK.1 hP hD [0, 1] rfl rfl 0 4 rfl rfl rfl rfl hl.1 rfl (Nat.le_of_ble_eq_true rfl) dX4_end_1 ⟨Nat.zero_le _, Nat.zero_le _⟩) hP hD hS hA [0, 1] rfl rfl rfl (wn := [(a_t, .inr (4, [.ref a_t_bytes, .int s_t_count, .int o_1, .int s_t_fault])), (a_t_bytes, .inl (cB, 200, .inl v_t_bytes))]) rfl (fun H locs hP hD hS => ?_)
  refine lv_aload_n hx hb dX4_end_4 rfl (lv_at hl 0 rfl) ?_
  refine lv_aload_n hx hb dX4_end_5 rfl (lv_at hl 0 rfl) ?_
  refine xget (ci := 4) (C := RX4) (T := TX4) (N := 4) hfix xiX4 hK.1 hP 0 rfl rfl 2 (by decide) rfl xw_68 rfl dX4_end_6 ?_
  obtain ⟨r_3, hq_4, hF⟩ := bd1_e hF
  refine xri0 (xrunV (As := [.int o_1]) (rest := []) (c_X4_byteAt l D cI cB cJ a_t a_t_bytes _ s_t_count o_1 s_t_fault v_t_bytes o_1 r_3 hq_4) hfix xw_225 yv_X4_byteAt ⟨rfl, rfl⟩ ⟨(Nat.le_of_ble_eq_true rfl), (Nat.le_of_ble_eq_true rfl)⟩ xKk_K (fun U hU hW => xK.warm hW hK) hK.1 hP hD [0, 1] rfl rfl 0 4 rfl rfl rfl rfl hl.1 rfl (Nat.le_of_ble_eq_true rfl) dX4_end_9 ⟨Nat.zero_le _, Nat.zero_le _⟩) hP hD hS hA [0, 1] rfl rfl (fun H locs hP hD hS => ?_)
  refine lv_bipush (v := (59 : Int32)) hx hb dX4_end_12 (by decide) ?_
  obtain ⟨j_5, hJ, hF⟩ := lt1_e hF
  have hN_25_5 : ∀ (H : Heap) (locs : List Loc) (ls : Array Slot), va_P D vwCl [(a_t, .inr (4, [.ref a_t_bytes, .int s_t_count, .int o_1, .int j_5])), (a_t_bytes, .inl (cB, 200, .inl v_t_bytes))] H → va_D A [(a_t, .inr (4, [.ref a_t_bytes, .int s_t_count, .int o_1, .int j_5])), (a_t_bytes, .inl (cB, 200, .inl v_t_bytes))] → va_S A s.heap H locs → lv_has ls 1 [(0, .ref a_t)] → W p l e rmX4_end s m args below meth c H locs 0 0 Q (F0 m 25 ls []) := by
    intro H locs ls hP hD hS hl
    refine lv_aload_n hx hb dX4_end_25 rfl (lv_at hl 0 rfl) ?_
    refine lv_dup hx hb dX4_end_26 rfl ?_
    refine xget (ci := 4) (C := RX4) (T := TX4) (N := 4) hfix xiX4 hK.1 hP 0 rfl rfl 2 (by decide) rfl xw_68 rfl dX4_end_27 ?_
    refine lv_iconst (v := (1 : Int32)) hx hb dX4_end_30 (by decide) ?_
    refine lv_iadd hx hb dX4_end_31 ?_
    refine xput (ci := 4) (C := RX4) (T := TX4) (N := 4) hfix xiX4 tyX4 tyX4_ok nmX4 hK.1 hP hD hS 0 rfl rfl 2 (by decide) rfl rfl xw_68 (ty := .int) rfl rfl rfl (Nat.le_of_ble_eq_true rfl) dX4_end_32 (wn := [(a_t, .inr (4, [.ref a_t_bytes, .int s_t_count, .int (o_1 + (1 : Int32)), .int j_5])), (a_t_bytes, .inl (cB, 200, .inl v_t_bytes))]) rfl (fun H locs hP hD hS => ?_)
    obtain ⟨rfl, rfl⟩ := pj2 hF
    exact hEnd _ _ _ _ dX4_end_35 hP hS
  replace hF := hJ
  refine lv_icmp_eq (tgt := 25) hx hb dX4_end_14 (by decide) (fun c_6 => ?_) (fun c_6 => ?_)
  · replace hF := if_t c_6 hF
    subst hF
    exact hN_25_5 _ _ _ hP hD hS (lv_sub hl [0] rfl)
  · replace hF := if_f c_6 hF
    refine lv_aload_n hx hb dX4_end_17 rfl (lv_at hl 0 rfl) ?_
    refine lv_aload_n hx hb dX4_end_18 rfl (lv_at hl 0 rfl) ?_
    refine xget (ci := 4) (C := RX4) (T := TX4) (N := 4) hfix xiX4 hK.1 hP 0 rfl rfl 2 (by decide) rfl xw_68 rfl dX4_end_19 ?_
    refine xrv (xrunV (As := [.int o_1]) (rest := []) (c_X4_fail l D cI cB cJ a_t a_t_bytes _ s_t_count o_1 s_t_fault o_1 (f_X4_fail o_1 s_t_fault) rfl) hfix xw_303 yv_X4_fail ⟨rfl, rfl⟩ ⟨(Nat.le_of_ble_eq_true rfl), (Nat.le_of_ble_eq_true rfl)⟩ xKk_K (fun U hU hW => xK.warm hW hK) hK.1 hP hD [0] rfl rfl 0 4 rfl rfl rfl rfl hl.1 rfl (Nat.le_of_ble_eq_true rfl) dX4_end_22 ⟨Nat.zero_le _, Nat.zero_le _⟩) hP hD hS hA [0] rfl rfl rfl (wn := [(a_t, .inr (4, [.ref a_t_bytes, .int s_t_count, .int o_1, .int (f_X4_fail o_1 s_t_fault)])), (a_t_bytes, .inl (cB, 200, .inl v_t_bytes))]) rfl (fun H locs hP hD hS => ?_)
    subst hF
    exact hN_25_5 _ _ _ hP hD hS (lv_sub hl [0] rfl)
def f_X5_become (i1 : Int32) (i2 : Int32) (i3 : Int32) (s_t_kind : Int32) (s_t_number : Int32) (s_t_a : Int32) : Option (Int32 × Int32 × Int32) := some ((i1, i2, i3))
abbrev rmX5_become : Room := { frames := 0, cells := 0, slots := 0, locals := 0 }
set_option maxHeartbeats 400000 in
set_option maxRecDepth 100000 in
theorem c_X5_become (l : Launch) (D : va_G) (cI cB cJ : ClassId) (a_t : Nat) (a_t_ran : Nat) (sz : Nat) (s_t_ranCount : Int32) (s_t_kind : Int32) (s_t_number : Int32) (s_t_a : Int32) (s_t_parted : Int32) (i1 : Int32) (i2 : Int32) (i3 : Int32) (o_s_t_kind : Int32) (o_s_t_number : Int32) (o_s_t_a : Int32) (hF : f_X5_become i1 i2 i3 s_t_kind s_t_number s_t_a = some (o_s_t_kind, o_s_t_number, o_s_t_a)) : xMv l yX5_become (.code yX5_become cX5_become 4 none :: xU) rmX5_become (xK D cI cB cJ) D sz [.ref a_t, .int i1, .int i2, .int i3] [(a_t, .inr (5, [.ref a_t_ran, .int s_t_ranCount, .int s_t_kind, .int s_t_number, .int s_t_a, .int s_t_parted]))] [(a_t, .inr (5, [.ref a_t_ran, .int s_t_ranCount, .int o_s_t_kind, .int o_s_t_number, .int o_s_t_a, .int s_t_parted]))] := by
  refine xMv.mk (own := "FairNext$Thing") (by decide +kernel) rfl (Nat.le_of_ble_eq_true rfl) ?_
  intro p e s m args below meth c A Q ls H hfix hK hP hD hA hS hl hEnd
  obtain ⟨hx, hb, hml, hown, hts⟩ := id hfix
  have hl : lv_has ls 4 [(0, .ref a_t), (1, .int i1), (2, .int i2), (3, .int i3)] := hl
  rw [f_X5_become] at hF
  refine lv_aload_n hx hb dX5_become_0 rfl (lv_at hl 0 rfl) ?_
  refine lv_iload_n hx hb dX5_become_1 rfl (lv_at hl 1 rfl) ?_
  refine xput (ci := 5) (C := RX5) (T := TX5) (N := 6) hfix xiX5 tyX5 tyX5_ok nmX5 hK.1 hP hD hS 0 rfl rfl 2 (by decide) rfl rfl xw_144 (ty := .int) rfl rfl rfl (Nat.le_of_ble_eq_true rfl) dX5_become_2 (wn := [(a_t, .inr (5, [.ref a_t_ran, .int s_t_ranCount, .int i1, .int s_t_number, .int s_t_a, .int s_t_parted]))]) rfl (fun H locs hP hD hS => ?_)
  refine lv_aload_n hx hb dX5_become_5 rfl (lv_at hl 0 rfl) ?_
  refine lv_iload_n hx hb dX5_become_6 rfl (lv_at hl 2 rfl) ?_
  refine xput (ci := 5) (C := RX5) (T := TX5) (N := 6) hfix xiX5 tyX5 tyX5_ok nmX5 hK.1 hP hD hS 0 rfl rfl 3 (by decide) rfl rfl xw_145 (ty := .int) rfl rfl rfl (Nat.le_of_ble_eq_true rfl) dX5_become_7 (wn := [(a_t, .inr (5, [.ref a_t_ran, .int s_t_ranCount, .int i1, .int i2, .int s_t_a, .int s_t_parted]))]) rfl (fun H locs hP hD hS => ?_)
  refine lv_aload_n hx hb dX5_become_10 rfl (lv_at hl 0 rfl) ?_
  refine lv_iload_n hx hb dX5_become_11 rfl (lv_at hl 3 rfl) ?_
  refine xput (ci := 5) (C := RX5) (T := TX5) (N := 6) hfix xiX5 tyX5 tyX5_ok nmX5 hK.1 hP hD hS 0 rfl rfl 4 (by decide) rfl rfl xw_146 (ty := .int) rfl rfl rfl (Nat.le_of_ble_eq_true rfl) dX5_become_12 (wn := [(a_t, .inr (5, [.ref a_t_ran, .int s_t_ranCount, .int i1, .int i2, .int i3, .int s_t_parted]))]) rfl (fun H locs hP hD hS => ?_)
  obtain ⟨rfl, rfl, rfl⟩ := pj3 hF
  exact hEnd _ _ _ _ dX5_become_15 hP hS
def f_X5_note (i1 : Int32) (s_t_ranCount : Int32) (v_t_ran : (Nat → Int32)) : Option (Int32 × (Nat → Int32)) := (if s_t_ranCount < (0 : Int32) then some ((s_t_ranCount, v_t_ran)) else (if (30 : Int32) ≤ s_t_ranCount then some ((s_t_ranCount, v_t_ran)) else gd s_t_ranCount 30 (some (((s_t_ranCount + (1 : Int32)), (upd v_t_ran s_t_ranCount.toNatClampNeg i1))))))
abbrev rmX5_note : Room := { frames := 0, cells := 0, slots := 0, locals := 0 }
set_option maxHeartbeats 400000 in
set_option maxRecDepth 100000 in
theorem c_X5_note (l : Launch) (D : va_G) (cI cB cJ : ClassId) (a_t : Nat) (a_t_ran : Nat) (sz : Nat) (s_t_ranCount : Int32) (s_t_kind : Int32) (s_t_number : Int32) (s_t_a : Int32) (s_t_parted : Int32) (v_t_ran : (Nat → Int32)) (i1 : Int32) (o_s_t_ranCount : Int32) (o_v_t_ran : (Nat → Int32)) (hF : f_X5_note i1 s_t_ranCount v_t_ran = some (o_s_t_ranCount, o_v_t_ran)) : xMv l yX5_note (.code yX5_note cX5_note 2 none :: xU) rmX5_note (xK D cI cB cJ) D sz [.ref a_t, .int i1] [(a_t, .inr (5, [.ref a_t_ran, .int s_t_ranCount, .int s_t_kind, .int s_t_number, .int s_t_a, .int s_t_parted])), (a_t_ran, .inl (cI, 30, .inl v_t_ran))] [(a_t, .inr (5, [.ref a_t_ran, .int o_s_t_ranCount, .int s_t_kind, .int s_t_number, .int s_t_a, .int s_t_parted])), (a_t_ran, .inl (cI, 30, .inl o_v_t_ran))] := by
  refine xMv.mk (own := "FairNext$Thing") (by decide +kernel) rfl (Nat.le_of_ble_eq_true rfl) ?_
  intro p e s m args below meth c A Q ls H hfix hK hP hD hA hS hl hEnd
  obtain ⟨hx, hb, hml, hown, hts⟩ := id hfix
  have hl : lv_has ls 2 [(0, .ref a_t), (1, .int i1)] := hl
  rw [f_X5_note] at hF
  refine lv_aload_n hx hb dX5_note_0 rfl (lv_at hl 0 rfl) ?_
  refine xget (ci := 5) (C := RX5) (T := TX5) (N := 6) hfix xiX5 hK.1 hP 0 rfl rfl 1 (by decide) rfl xw_142 rfl dX5_note_1 ?_
  refine lv_if_lt (tgt := 36) hx hb dX5_note_4 (by decide) (fun c_1 => ?_) (fun c_1 => ?_)
  · replace hF := if_t c_1 hF
    obtain ⟨rfl, rfl⟩ := pj2 hF
    exact hEnd _ _ _ _ dX5_note_36 hP hS
  · replace hF := if_f c_1 hF
    refine lv_aload_n hx hb dX5_note_7 rfl (lv_at hl 0 rfl) ?_
    refine xget (ci := 5) (C := RX5) (T := TX5) (N := 6) hfix xiX5 hK.1 hP 0 rfl rfl 1 (by decide) rfl xw_142 rfl dX5_note_8 ?_
    refine lv_bipush (v := (30 : Int32)) hx hb dX5_note_11 (by decide) ?_
    refine lv_icmp_ge (tgt := 36) hx hb dX5_note_13 (by decide) (fun c_2 => ?_) (fun c_2 => ?_)
    · replace hF := if_t c_2 hF
      obtain ⟨rfl, rfl⟩ := pj2 hF
      exact hEnd _ _ _ _ dX5_note_36 hP hS
    · replace hF := if_f c_2 hF
      refine lv_aload_n hx hb dX5_note_16 rfl (lv_at hl 0 rfl) ?_
      refine xget (ci := 5) (C := RX5) (T := TX5) (N := 6) hfix xiX5 hK.1 hP 0 rfl rfl 0 (by decide) rfl xw_140 rfl dX5_note_17 ?_
      refine lv_aload_n hx hb dX5_note_20 rfl (lv_at hl 0 rfl) ?_
      refine xget (ci := 5) (C := RX5) (T := TX5) (N := 6) hfix xiX5 hK.1 hP 0 rfl rfl 1 (by decide) rfl xw_142 rfl dX5_note_21 ?_
      refine lv_iload_n hx hb dX5_note_24 rfl (lv_at hl 1 rfl) ?_
      obtain ⟨c_3, hF⟩ := gd_e hF
      refine va_iast hx hb hK.1 hP hD hS 1 0 rfl rfl c_3 dX5_note_25 (fun H locs hP hD hS => ?_)
      have hP : va_P D vwCl [(a_t, .inr (5, [.ref a_t_ran, .int s_t_ranCount, .int s_t_kind, .int s_t_number, .int s_t_a, .int s_t_parted])), (a_t_ran, .inl (cI, 30, .inl (upd v_t_ran s_t_ranCount.toNatClampNeg i1)))] H := hP
      have hD : va_D A [(a_t, .inr (5, [.ref a_t_ran, .int s_t_ranCount, .int s_t_kind, .int s_t_number, .int s_t_a, .int s_t_parted])), (a_t_ran, .inl (cI, 30, .inl (upd v_t_ran s_t_ranCount.toNatClampNeg i1)))] := hD
      refine lv_aload_n hx hb dX5_note_26 rfl (lv_at hl 0 rfl) ?_
      refine lv_dup hx hb dX5_note_27 rfl ?_
      refine xget (ci := 5) (C := RX5) (T := TX5) (N := 6) hfix xiX5 hK.1 hP 0 rfl rfl 1 (by decide) rfl xw_142 rfl dX5_note_28 ?_
      refine lv_iconst (v := (1 : Int32)) hx hb dX5_note_31 (by decide) ?_
      refine lv_iadd hx hb dX5_note_32 ?_
      refine xput (ci := 5) (C := RX5) (T := TX5) (N := 6) hfix xiX5 tyX5 tyX5_ok nmX5 hK.1 hP hD hS 0 rfl rfl 1 (by decide) rfl rfl xw_142 (ty := .int) rfl rfl rfl (Nat.le_of_ble_eq_true rfl) dX5_note_33 (wn := [(a_t, .inr (5, [.ref a_t_ran, .int (s_t_ranCount + (1 : Int32)), .int s_t_kind, .int s_t_number, .int s_t_a, .int s_t_parted])), (a_t_ran, .inl (cI, 30, .inl (upd v_t_ran s_t_ranCount.toNatClampNeg i1)))]) rfl (fun H locs hP hD hS => ?_)
      obtain ⟨rfl, rfl⟩ := pj2 hF
      exact hEnd _ _ _ _ dX5_note_36 hP hS
def f_X5_part (i1 : Int32) (s_t_number : Int32) (s_t_a : Int32) (s_t_parted : Int32) : Option (Int32 × Int32) := (if (s_t_a - s_t_number) = (0 : Int32) then some (((0 : Int32), (1 : Int32))) else gz (s_t_a - s_t_number) (some (((i1 / (s_t_a - s_t_number)), s_t_parted))))
abbrev rmX5_part : Room := { frames := 0, cells := 0, slots := 0, locals := 0 }
set_option maxHeartbeats 400000 in
set_option maxRecDepth 100000 in
theorem c_X5_part (l : Launch) (D : va_G) (cI cB cJ : ClassId) (a_t : Nat) (a_t_ran : Nat) (sz : Nat) (s_t_ranCount : Int32) (s_t_kind : Int32) (s_t_number : Int32) (s_t_a : Int32) (s_t_parted : Int32) (i1 : Int32) (r : Int32) (o_s_t_parted : Int32) (hF : f_X5_part i1 s_t_number s_t_a s_t_parted = some (r, o_s_t_parted)) : xMi l yX5_part (.code yX5_part cX5_part 3 (some .int) :: xU) rmX5_part (xK D cI cB cJ) D sz [.ref a_t, .int i1] [(a_t, .inr (5, [.ref a_t_ran, .int s_t_ranCount, .int s_t_kind, .int s_t_number, .int s_t_a, .int s_t_parted]))] [(a_t, .inr (5, [.ref a_t_ran, .int s_t_ranCount, .int s_t_kind, .int s_t_number, .int s_t_a, .int o_s_t_parted]))] r := by
  refine xMi.mk (own := "FairNext$Thing") (by decide +kernel) rfl (Nat.le_of_ble_eq_true rfl) ?_
  intro p e s m args below meth c A Q ls H hfix hK hP hD hA hS hl hEnd
  obtain ⟨hx, hb, hml, hown, hts⟩ := id hfix
  have hl : lv_has ls 3 [(0, .ref a_t), (1, .int i1)] := hl
  rw [f_X5_part] at hF
  refine lv_aload_n hx hb dX5_part_0 rfl (lv_at hl 0 rfl) ?_
  refine xget (ci := 5) (C := RX5) (T := TX5) (N := 6) hfix xiX5 hK.1 hP 0 rfl rfl 4 (by decide) rfl xw_146 rfl dX5_part_1 ?_
  refine lv_aload_n hx hb dX5_part_4 rfl (lv_at hl 0 rfl) ?_
  refine xget (ci := 5) (C := RX5) (T := TX5) (N := 6) hfix xiX5 hK.1 hP 0 rfl rfl 3 (by decide) rfl xw_145 rfl dX5_part_5 ?_
  refine lv_isub hx hb dX5_part_8 ?_
  refine lv_istore_n (lv' := [(2, .int (s_t_a - s_t_number)), (0, .ref a_t), (1, .int i1)]) hx hb dX5_part_9 rfl hl (by decide) rfl (fun ls hl => ?_)
  refine lv_iload_n hx hb dX5_part_10 rfl (lv_at hl 0 rfl) ?_
  refine lv_if_ne (tgt := 21) hx hb dX5_part_11 (by decide) (fun c_1 => ?_) (fun c_1 => ?_)
  · replace hF := if_f c_1 hF
    refine lv_iload_n hx hb dX5_part_21 rfl (lv_at hl 2 rfl) ?_
    refine lv_iload_n hx hb dX5_part_22 rfl (lv_at hl 0 rfl) ?_
    obtain ⟨c_2, hF⟩ := gz_e hF
    refine lv_idiv hx hb dX5_part_23 c_2 ?_
    obtain ⟨rfl, rfl⟩ := pj2 hF
    exact hEnd _ _ _ _ _ dX5_part_24 hP hS rfl
  · replace hF := if_t c_1 hF
    refine lv_aload_n hx hb dX5_part_14 rfl (lv_at hl 1 rfl) ?_
    refine lv_iconst (v := (1 : Int32)) hx hb dX5_part_15 (by decide) ?_
    refine xput (ci := 5) (C := RX5) (T := TX5) (N := 6) hfix xiX5 tyX5 tyX5_ok nmX5 hK.1 hP hD hS 0 rfl rfl 5 (by decide) rfl rfl xw_147 (ty := .boolean) rfl (x01_n x01_1) (x01_f x01_1) (Nat.le_of_ble_eq_true rfl) dX5_part_16 (wn := [(a_t, .inr (5, [.ref a_t_ran, .int s_t_ranCount, .int s_t_kind, .int s_t_number, .int s_t_a, .int (1 : Int32)]))]) rfl (fun H locs hP hD hS => ?_)
    refine lv_iconst (v := (0 : Int32)) hx hb dX5_part_19 (by decide) ?_
    obtain ⟨rfl, rfl⟩ := pj2 hF
    exact hEnd _ _ _ _ _ dX5_part_20 hP hS rfl
