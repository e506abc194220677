def f_X0_clear_L2 : Nat → Int32 → (Nat → Int32) → (Nat → Int32) → Option ((Nat → Int32) × (Nat → Int32))
  | 0, _, _, _ => none
  | n + 1, x1_1, xv_t_village_2, xv_t_mark_3 => (if (24 : Int32) ≤ x1_1 then some ((xv_t_village_2, xv_t_mark_3)) else gd x1_1 24 (gd x1_1 24 (f_X0_clear_L2 n (x1_1 + (1 : Int32)) (upd xv_t_village_2 x1_1.toNatClampNeg (-9 : Int32)) (upd xv_t_mark_3 x1_1.toNatClampNeg (0 : Int32)))))
def f_X0_clear (s_t_heldCount : Int32) (s_t_villages : Int32) (v_t_village : (Nat → Int32)) (v_t_mark : (Nat → Int32)) : Option (Int32 × Int32 × (Nat → Int32) × (Nat → Int32)) := bd2 (f_X0_clear_L2 1000 (0 : Int32) v_t_village v_t_mark) (fun (yv_t_village_4 : (Nat → Int32)) (yv_t_mark_5 : (Nat → Int32)) => some (((0 : Int32), (10 : Int32), yv_t_village_4, yv_t_mark_5)))
abbrev rmX0_clear : Room := { frames := 0, cells := 0, slots := 0, locals := 0 }
set_option maxHeartbeats 400000 in
set_option maxRecDepth 100000 in
theorem c_X0_clear (l : Launch) (D : va_G) (cI cB cJ : ClassId) (a_t : Nat) (a_t_village : Nat) (a_t_mark : Nat) (a_t_held : Nat) (sz : Nat) (s_t_heldCount : Int32) (s_t_villages : Int32) (v_t_village : (Nat → Int32)) (v_t_mark : (Nat → Int32)) (o_s_t_heldCount : Int32) (o_s_t_villages : Int32) (o_v_t_village : (Nat → Int32)) (o_v_t_mark : (Nat → Int32)) (hF : f_X0_clear s_t_heldCount s_t_villages v_t_village v_t_mark = some (o_s_t_heldCount, o_s_t_villages, o_v_t_village, o_v_t_mark)) : xMv l yX0_clear (.code yX0_clear cX0_clear 2 none :: xU) rmX0_clear (xK D cI cB cJ) D sz [.ref a_t] [(a_t, .inr (0, [.ref a_t_village, .ref a_t_mark, .ref a_t_held, .int s_t_heldCount, .int s_t_villages])), (a_t_village, .inl (cI, 24, .inl v_t_village)), (a_t_mark, .inl (cI, 24, .inl v_t_mark))] [(a_t, .inr (0, [.ref a_t_village, .ref a_t_mark, .ref a_t_held, .int o_s_t_heldCount, .int o_s_t_villages])), (a_t_village, .inl (cI, 24, .inl o_v_t_village)), (a_t_mark, .inl (cI, 24, .inl o_v_t_mark))] := by
  refine xMv.mk (own := "FairNext$Book") (by decide +kernel) rfl (Nat.le_of_ble_eq_true rfl) ?_
  intro p e s m args below meth c A Q ls H hfix hK hP hD hA hS hl hEnd
  obtain ⟨hx, hb, hml, hown, hts⟩ := id hfix
  have hl : lv_has ls 2 [(0, .ref a_t)] := hl
  rw [f_X0_clear] at hF
  refine lv_iconst (v := (0 : Int32)) hx hb dX0_clear_0 (by decide) ?_
  refine lv_istore_n (lv' := [(1, .int (0 : Int32)), (0, .ref a_t)]) hx hb dX0_clear_1 rfl hl (by decide) rfl (fun ls hl => ?_)
  have hL_2 : ∀ (n : Nat) (x1_1 : Int32) (xv_t_village_2 : (Nat → Int32)) (xv_t_mark_3 : (Nat → Int32)) (yv_t_village_4 : (Nat → Int32)) (yv_t_mark_5 : (Nat → Int32)), f_X0_clear_L2 n x1_1 xv_t_village_2 xv_t_mark_3 = some (yv_t_village_4, yv_t_mark_5) → ∀ (H : Heap) (locs : List Loc) (ls : Array Slot), va_P D vwCl [(a_t, .inr (0, [.ref a_t_village, .ref a_t_mark, .ref a_t_held, .int s_t_heldCount, .int s_t_villages])), (a_t_village, .inl (cI, 24, .inl xv_t_village_2)), (a_t_mark, .inl (cI, 24, .inl xv_t_mark_3))] H → va_D A [(a_t, .inr (0, [.ref a_t_village, .ref a_t_mark, .ref a_t_held, .int s_t_heldCount, .int s_t_villages])), (a_t_village, .inl (cI, 24, .inl xv_t_village_2)), (a_t_mark, .inl (cI, 24, .inl xv_t_mark_3))] → va_S A s.heap H locs → lv_has ls 2 [(0, .ref a_t), (1, .int x1_1)] → (∀ (H : Heap) (locs : List Loc) (ls : Array Slot), va_P D vwCl [(a_t, .inr (0, [.ref a_t_village, .ref a_t_mark, .ref a_t_held, .int s_t_heldCount, .int s_t_villages])), (a_t_village, .inl (cI, 24, .inl yv_t_village_4)), (a_t_mark, .inl (cI, 24, .inl yv_t_mark_5))] H → va_D A [(a_t, .inr (0, [.ref a_t_village, .ref a_t_mark, .ref a_t_held, .int s_t_heldCount, .int s_t_villages])), (a_t_village, .inl (cI, 24, .inl yv_t_village_4)), (a_t_mark, .inl (cI, 24, .inl yv_t_mark_5))] → va_S A s.heap H locs → lv_has ls 2 [(0, .ref a_t)] → W p l e rmX0_clear s m args below meth c H locs 0 0 Q (F0 m 29 ls [])) → W p l e rmX0_clear s m args below meth c H locs 0 0 Q (F0 m 2 ls []) := by
    intro n
    induction n with
    | zero => intro x1_1 xv_t_village_2 xv_t_mark_3 yv_t_village_4 yv_t_mark_5 hF; exact (no_some hF).elim
    | succ n ih =>
      intro x1_1 xv_t_village_2 xv_t_mark_3 yv_t_village_4 yv_t_mark_5 hF H locs ls hP hD hS hl kexit
      rw [f_X0_clear_L2] at hF
      refine lv_iload_n hx hb dX0_clear_2 rfl (lv_at hl 1 rfl) ?_
      refine lv_bipush (v := (24 : Int32)) hx hb dX0_clear_3 (by decide) ?_
      refine lv_icmp_ge (tgt := 29) hx hb dX0_clear_5 (by decide) (fun c_6 => ?_) (fun c_6 => ?_)
      · replace hF := if_t c_6 hF
        obtain ⟨rfl, rfl⟩ := pj2 hF
        exact kexit _ _ _ hP hD hS (lv_sub hl [0] rfl)
      · replace hF := if_f c_6 hF
        refine lv_aload_n hx hb dX0_clear_8 rfl (lv_at hl 0 rfl) ?_
        refine xget (ci := 0) (C := RX0) (T := TX0) (N := 5) hfix xiX0 hK.1 hP 0 rfl rfl 0 (by decide) rfl xw_33 rfl dX0_clear_9 ?_
        refine lv_iload_n hx hb dX0_clear_12 rfl (lv_at hl 1 rfl) ?_
        refine lv_bipush (v := (-9 : Int32)) hx hb dX0_clear_13 (by decide) ?_
        obtain ⟨c_7, hF⟩ := gd_e hF
        refine va_iast hx hb hK.1 hP hD hS 1 0 rfl rfl c_7 dX0_clear_15 (fun H locs hP hD hS => ?_)
        have hP : va_P D vwCl [(a_t, .inr (0, [.ref a_t_village, .ref a_t_mark, .ref a_t_held, .int s_t_heldCount, .int s_t_villages])), (a_t_village, .inl (cI, 24, .inl (upd xv_t_village_2 x1_1.toNatClampNeg (-9 : Int32)))), (a_t_mark, .inl (cI, 24, .inl xv_t_mark_3))] H := hP
        have hD : va_D A [(a_t, .inr (0, [.ref a_t_village, .ref a_t_mark, .ref a_t_held, .int s_t_heldCount, .int s_t_villages])), (a_t_village, .inl (cI, 24, .inl (upd xv_t_village_2 x1_1.toNatClampNeg (-9 : Int32)))), (a_t_mark, .inl (cI, 24, .inl xv_t_mark_3))] := hD
        refine lv_aload_n hx hb dX0_clear_16 rfl (lv_at hl 0 rfl) ?_
        refine xget (ci := 0) (C := RX0) (T := TX0) (N := 5) hfix xiX0 hK.1 hP 0 rfl rfl 1 (by decide) rfl xw_36 rfl dX0_clear_17 ?_
        refine lv_iload_n hx hb dX0_clear_20 rfl (lv_at hl 1 rfl) ?_
        refine lv_iconst (v := (0 : Int32)) hx hb dX0_clear_21 (by decide) ?_
        obtain ⟨c_8, hF⟩ := gd_e hF
        refine va_iast hx hb hK.1 hP hD hS 2 0 rfl rfl c_8 dX0_clear_22 (fun H locs hP hD hS => ?_)
        have hP : va_P D vwCl [(a_t, .inr (0, [.ref a_t_village, .ref a_t_mark, .ref a_t_held, .int s_t_heldCount, .int s_t_villages])), (a_t_village, .inl (cI, 24, .inl (upd xv_t_village_2 x1_1.toNatClampNeg (-9 : Int32)))), (a_t_mark, .inl (cI, 24, .inl (upd xv_t_mark_3 x1_1.toNatClampNeg (0 : Int32))))] H := hP
        have hD : va_D A [(a_t, .inr (0, [.ref a_t_village, .ref a_t_mark, .ref a_t_held, .int s_t_heldCount, .int s_t_villages])), (a_t_village, .inl (cI, 24, .inl (upd xv_t_village_2 x1_1.toNatClampNeg (-9 : Int32)))), (a_t_mark, .inl (cI, 24, .inl (upd xv_t_mark_3 x1_1.toNatClampNeg (0 : Int32))))] := hD
        refine lv_iinc (v := (x1_1 + (1 : Int32))) (lv' := [(1, .int (x1_1 + (1 : Int32))), (0, .ref a_t)]) hx hb dX0_clear_23 hl (k := 1) rfl rfl (by decide) rfl (fun ls hl => ?_)
        refine lv_goto (tgt := 2) hx hb dX0_clear_26 (by decide) ?_
        exact ih _ _ _ _ _ hF _ _ _ hP hD hS (lv_sub hl [1, 0] rfl) kexit
  obtain ⟨yv_t_village_4, yv_t_mark_5, hq, hF⟩ := bd2_e hF
  refine hL_2 _ _ _ _ _ _ hq _ _ _ hP hD hS (lv_sub hl [1, 0] rfl) (fun H locs ls hP hD hS hl => ?_)
  refine lv_aload_n hx hb dX0_clear_29 rfl (lv_at hl 0 rfl) ?_
  refine lv_iconst (v := (0 : Int32)) hx hb dX0_clear_30 (by decide) ?_
  refine xput (ci := 0) (C := RX0) (T := TX0) (N := 5) hfix xiX0 tyX0 tyX0_ok nmX0 hK.1 hP hD hS 0 rfl rfl 3 (by decide) rfl rfl xw_41 (ty := .int) rfl rfl rfl (Nat.le_of_ble_eq_true rfl) dX0_clear_31 (wn := [(a_t, .inr (0, [.ref a_t_village, .ref a_t_mark, .ref a_t_held, .int (0 : Int32), .int s_t_villages])), (a_t_village, .inl (cI, 24, .inl yv_t_village_4)), (a_t_mark, .inl (cI, 24, .inl yv_t_mark_5))]) rfl (fun H locs hP hD hS => ?_)
  refine lv_aload_n hx hb dX0_clear_34 rfl (lv_at hl 0 rfl) ?_
  refine lv_bipush (v := (10 : Int32)) hx hb dX0_clear_35 (by decide) ?_
  refine xput (ci := 0) (C := RX0) (T := TX0) (N := 5) hfix xiX0 tyX0 tyX0_ok nmX0 hK.1 hP hD hS 0 rfl rfl 4 (by decide) rfl rfl xw_44 (ty := .int) rfl rfl rfl (Nat.le_of_ble_eq_true rfl) dX0_clear_37 (wn := [(a_t, .inr (0, [.ref a_t_village, .ref a_t_mark, .ref a_t_held, .int (0 : Int32), .int (10 : Int32)])), (a_t_village, .inl (cI, 24, .inl yv_t_village_4)), (a_t_mark, .inl (cI, 24, .inl yv_t_mark_5))]) rfl (fun H locs hP hD hS => ?_)
  obtain ⟨rfl, rfl, rfl, rfl⟩ := pj4 hF
  exact hEnd _ _ _ _ dX0_clear_40 hP hS
def f_X0_toldYears_L4 (v_t_village : (Nat → Int32)) : Nat → Int32 → Int32 → Option (Int32)
  | 0, _, _ => none
  | n + 1, x1_1, x2_2 => (if (24 : Int32) ≤ x2_2 then some (x1_1) else gd x2_2 24 ((if (v_t_village x2_2.toNatClampNeg) = (-9 : Int32) then f_X0_toldYears_L4 v_t_village n x1_1 (x2_2 + (1 : Int32)) else f_X0_toldYears_L4 v_t_village n (x1_1 + (1 : Int32)) (x2_2 + (1 : Int32)))))
def f_X0_toldYears (v_t_village : (Nat → Int32)) : Option (Int32) := bd1 (f_X0_toldYears_L4 v_t_village 1000 (0 : Int32) (0 : Int32)) (fun (y1_3 : Int32) => some (y1_3))
abbrev rmX0_toldYears : Room := { frames := 0, cells := 0, slots := 0, locals := 0 }
set_option maxHeartbeats 400000 in
set_option maxRecDepth 100000 in
theorem c_X0_toldYears (l : Launch) (D : va_G) (cI cB cJ : ClassId) (a_t : Nat) (a_t_village : Nat) (a_t_mark : Nat) (a_t_held : Nat) (sz : Nat) (s_t_heldCount : Int32) (s_t_villages : Int32) (v_t_village : (Nat → Int32)) (r : Int32) (hF : f_X0_toldYears v_t_village = some r) : xMi l yX0_toldYears (.code yX0_toldYears cX0_toldYears 3 (some .int) :: xU) rmX0_toldYears (xK D cI cB cJ) D sz [.ref a_t] [(a_t, .inr (0, [.ref a_t_village, .ref a_t_mark, .ref a_t_held, .int s_t_heldCount, .int s_t_villages])), (a_t_village, .inl (cI, 24, .inl v_t_village))] [(a_t, .inr (0, [.ref a_t_village, .ref a_t_mark, .ref a_t_held, .int s_t_heldCount, .int s_t_villages])), (a_t_village, .inl (cI, 24, .inl v_t_village))] r := by
  refine xMi.mk (own := "FairNext$Book") (by decide +kernel) rfl (Nat.le_of_ble_eq_true rfl) ?_
  intro p e s m args below meth c A Q ls H hfix hK hP hD hA hS hl hEnd
  obtain ⟨hx, hb, hml, hown, hts⟩ := id hfix
  have hl : lv_has ls 3 [(0, .ref a_t)] := hl
  rw [f_X0_toldYears] at hF
  refine lv_iconst (v := (0 : Int32)) hx hb dX0_toldYears_0 (by decide) ?_
  refine lv_istore_n (lv' := [(1, .int (0 : Int32)), (0, .ref a_t)]) hx hb dX0_toldYears_1 rfl hl (by decide) rfl (fun ls hl => ?_)
  refine lv_iconst (v := (0 : Int32)) hx hb dX0_toldYears_2 (by decide) ?_
  refine lv_istore_n (lv' := [(2, .int (0 : Int32)), (1, .int (0 : Int32)), (0, .ref a_t)]) hx hb dX0_toldYears_3 rfl hl (by decide) rfl (fun ls hl => ?_)
  have hL_4 : ∀ (n : Nat) (x1_1 : Int32) (x2_2 : Int32) (y1_3 : Int32), f_X0_toldYears_L4 v_t_village n x1_1 x2_2 = some y1_3 → ∀ (H : Heap) (locs : List Loc) (ls : Array Slot), va_P D vwCl [(a_t, .inr (0, [.ref a_t_village, .ref a_t_mark, .ref a_t_held, .int s_t_heldCount, .int s_t_villages])), (a_t_village, .inl (cI, 24, .inl v_t_village))] H → va_D A [(a_t, .inr (0, [.ref a_t_village, .ref a_t_mark, .ref a_t_held, .int s_t_heldCount, .int s_t_villages])), (a_t_village, .inl (cI, 24, .inl v_t_village))] → va_S A s.heap H locs → lv_has ls 3 [(0, .ref a_t), (1, .int x1_1), (2, .int x2_2)] → (∀ (H : Heap) (locs : List Loc) (ls : Array Slot), va_P D vwCl [(a_t, .inr (0, [.ref a_t_village, .ref a_t_mark, .ref a_t_held, .int s_t_heldCount, .int s_t_villages])), (a_t_village, .inl (cI, 24, .inl v_t_village))] H → va_D A [(a_t, .inr (0, [.ref a_t_village, .ref a_t_mark, .ref a_t_held, .int s_t_heldCount, .int s_t_villages])), (a_t_village, .inl (cI, 24, .inl v_t_village))] → va_S A s.heap H locs → lv_has ls 3 [(1, .int y1_3)] → W p l e rmX0_toldYears s m args below meth c H locs 0 0 Q (F0 m 30 ls [])) → W p l e rmX0_toldYears s m args below meth c H locs 0 0 Q (F0 m 4 ls []) := by
    intro n
    induction n with
    | zero => intro x1_1 x2_2 y1_3 hF; exact (no_some hF).elim
    | succ n ih =>
      intro x1_1 x2_2 y1_3 hF H locs ls hP hD hS hl kexit
      rw [f_X0_toldYears_L4] at hF
      refine lv_iload_n hx hb dX0_toldYears_4 rfl (lv_at hl 2 rfl) ?_
      refine lv_bipush (v := (24 : Int32)) hx hb dX0_toldYears_5 (by decide) ?_
      refine lv_icmp_ge (tgt := 30) hx hb dX0_toldYears_7 (by decide) (fun c_4 => ?_) (fun c_4 => ?_)
      · replace hF := if_t c_4 hF
        obtain rfl := Option.some.inj hF
        exact kexit _ _ _ hP hD hS (lv_sub hl [1] rfl)
      · replace hF := if_f c_4 hF
        refine lv_aload_n hx hb dX0_toldYears_10 rfl (lv_at hl 0 rfl) ?_
        refine xget (ci := 0) (C := RX0) (T := TX0) (N := 5) hfix xiX0 hK.1 hP 0 rfl rfl 0 (by decide) rfl xw_33 rfl dX0_toldYears_11 ?_
        refine lv_iload_n hx hb dX0_toldYears_14 rfl (lv_at hl 2 rfl) ?_
        obtain ⟨c_5, hF⟩ := gd_e hF
        refine va_iald hx hb hK.1 hP 1 0 rfl rfl c_5 dX0_toldYears_15 ?_
        refine lv_bipush (v := (-9 : Int32)) hx hb dX0_toldYears_16 (by decide) ?_
        refine lv_icmp_eq (tgt := 24) hx hb dX0_toldYears_18 (by decide) (fun c_6 => ?_) (fun c_6 => ?_)
        · replace hF := if_t c_6 hF
          refine lv_iinc (v := (x2_2 + (1 : Int32))) (lv' := [(2, .int (x2_2 + (1 : Int32))), (0, .ref a_t), (1, .int x1_1)]) hx hb dX0_toldYears_24 hl (k := 2) rfl rfl (by decide) rfl (fun ls hl => ?_)
          refine lv_goto (tgt := 4) hx hb dX0_toldYears_27 (by decide) ?_
          exact ih _ _ _ hF _ _ _ hP hD hS (lv_sub hl [1, 2, 0] rfl) kexit
        · replace hF := if_f c_6 hF
          refine lv_iinc (v := (x1_1 + (1 : Int32))) (lv' := [(1, .int (x1_1 + (1 : Int32))), (0, .ref a_t), (2, .int x2_2)]) hx hb dX0_toldYears_21 hl (k := 1) rfl rfl (by decide) rfl (fun ls hl => ?_)
          refine lv_iinc (v := (x2_2 + (1 : Int32))) (lv' := [(2, .int (x2_2 + (1 : Int32))), (1, .int (x1_1 + (1 : Int32))), (0, .ref a_t)]) hx hb dX0_toldYears_24 hl (k := 2) rfl rfl (by decide) rfl (fun ls hl => ?_)
          refine lv_goto (tgt := 4) hx hb dX0_toldYears_27 (by decide) ?_
          exact ih _ _ _ hF _ _ _ hP hD hS (lv_sub hl [2, 1, 0] rfl) kexit
  obtain ⟨y1_3, hq, hF⟩ := bd1_e hF
  refine hL_4 _ _ _ _ hq _ _ _ hP hD hS (lv_sub hl [2, 1, 0] rfl) (fun H locs ls hP hD hS hl => ?_)
  refine lv_iload_n hx hb dX0_toldYears_30 rfl (lv_at hl 0 rfl) ?_
  obtain rfl := Option.some.inj hF
  exact hEnd _ _ _ _ _ dX0_toldYears_31 hP hS rfl
def f_X0_last_L4 (v_t_village : (Nat → Int32)) : Nat → Int32 → Int32 → Option (Int32)
  | 0, _, _ => none
  | n + 1, x1_1, x2_2 => (if (24 : Int32) ≤ x2_2 then some (x1_1) else gd x2_2 24 ((if (v_t_village x2_2.toNatClampNeg) = (-9 : Int32) then f_X0_last_L4 v_t_village n x1_1 (x2_2 + (1 : Int32)) else f_X0_last_L4 v_t_village n (x2_2 + (1 : Int32)) (x2_2 + (1 : Int32)))))
def f_X0_last (v_t_village : (Nat → Int32)) : Option (Int32) := bd1 (f_X0_last_L4 v_t_village 1000 (0 : Int32) (0 : Int32)) (fun (y1_3 : Int32) => some (y1_3))
abbrev rmX0_last : Room := { frames := 0, cells := 0, slots := 0, locals := 0 }
set_option maxHeartbeats 400000 in
set_option maxRecDepth 100000 in
theorem c_X0_last (l : Launch) (D : va_G) (cI cB cJ : ClassId) (a_t : Nat) (a_t_village : Nat) (a_t_mark : Nat) (a_t_held : Nat) (sz : Nat) (s_t_heldCount : Int32) (s_t_villages : Int32) (v_t_village : (Nat → Int32)) (r : Int32) (hF : f_X0_last v_t_village = some r) : xMi l yX0_last (.code yX0_last cX0_last 3 (some .int) :: xU) rmX0_last (xK D cI cB cJ) D sz [.ref a_t] [(a_t, .inr (0, [.ref a_t_village, .ref a_t_mark, .ref a_t_held, .int s_t_heldCount, .int s_t_villages])), (a_t_village, .inl (cI, 24, .inl v_t_village))] [(a_t, .inr (0, [.ref a_t_village, .ref a_t_mark, .ref a_t_held, .int s_t_heldCount, .int s_t_villages])), (a_t_village, .inl (cI, 24, .inl v_t_village))] r := by
  refine xMi.mk (own := "FairNext$Book") (by decide +kernel) rfl (Nat.le_of_ble_eq_true rfl) ?_
  intro p e s m args below meth c A Q ls H hfix hK hP hD hA hS hl hEnd
  obtain ⟨hx, hb, hml, hown, hts⟩ := id hfix
  have hl : lv_has ls 3 [(0, .ref a_t)] := hl
  rw [f_X0_last] at hF
  refine lv_iconst (v := (0 : Int32)) hx hb dX0_last_0 (by decide) ?_
  refine lv_istore_n (lv' := [(1, .int (0 : Int32)), (0, .ref a_t)]) hx hb dX0_last_1 rfl hl (by decide) rfl (fun ls hl => ?_)
  refine lv_iconst (v := (0 : Int32)) hx hb dX0_last_2 (by decide) ?_
  refine lv_istore_n (lv' := [(2, .int (0 : Int32)), (1, .int (0 : Int32)), (0, .ref a_t)]) hx hb dX0_last_3 rfl hl (by decide) rfl (fun ls hl => ?_)
  have hL_4 : ∀ (n : Nat) (x1_1 : Int32) (x2_2 : Int32) (y1_3 : Int32), f_X0_last_L4 v_t_village n x1_1 x2_2 = some y1_3 → ∀ (H : Heap) (locs : List Loc) (ls : Array Slot), va_P D vwCl [(a_t, .inr (0, [.ref a_t_village, .ref a_t_mark, .ref a_t_held, .int s_t_heldCount, .int s_t_villages])), (a_t_village, .inl (cI, 24, .inl v_t_village))] H → va_D A [(a_t, .inr (0, [.ref a_t_village, .ref a_t_mark, .ref a_t_held, .int s_t_heldCount, .int s_t_villages])), (a_t_village, .inl (cI, 24, .inl v_t_village))] → va_S A s.heap H locs → lv_has ls 3 [(0, .ref a_t), (1, .int x1_1), (2, .int x2_2)] → (∀ (H : Heap) (locs : List Loc) (ls : Array Slot), va_P D vwCl [(a_t, .inr (0, [.ref a_t_village, .ref a_t_mark, .ref a_t_held, .int s_t_heldCount, .int s_t_villages])), (a_t_village, .inl (cI, 24, .inl v_t_village))] H → va_D A [(a_t, .inr (0, [.ref a_t_village, .ref a_t_mark, .ref a_t_held, .int s_t_heldCount, .int s_t_villages])), (a_t_village, .inl (cI, 24, .inl v_t_village))] → va_S A s.heap H locs → lv_has ls 3 [(1, .int y1_3)] → W p l e rmX0_last s m args below meth c H locs 0 0 Q (F0 m 31 ls [])) → W p l e rmX0_last s m args below meth c H locs 0 0 Q (F0 m 4 ls []) := by
    intro n
    induction n with
    | zero => intro x1_1 x2_2 y1_3 hF; exact (no_some hF).elim
    | succ n ih =>
      intro x1_1 x2_2 y1_3 hF H locs ls hP hD hS hl kexit
      rw [f_X0_last_L4] at hF
      refine lv_iload_n hx hb dX0_last_4 rfl (lv_at hl 2 rfl) ?_
      refine lv_bipush (v := (24 : Int32)) hx hb dX0_last_5 (by decide) ?_
      refine lv_icmp_ge (tgt := 31) hx hb dX0_last_7 (by decide) (fun c_4 => ?_) (fun c_4 => ?_)
      · replace hF := if_t c_4 hF
        obtain rfl := Option.some.inj hF
        exact kexit _ _ _ hP hD hS (lv_sub hl [1] rfl)
      · replace hF := if_f c_4 hF
        refine lv_aload_n hx hb dX0_last_10 rfl (lv_at hl 0 rfl) ?_
        refine xget (ci := 0) (C := RX0) (T := TX0) (N := 5) hfix xiX0 hK.1 hP 0 rfl rfl 0 (by decide) rfl xw_33 rfl dX0_last_11 ?_
        refine lv_iload_n hx hb dX0_last_14 rfl (lv_at hl 2 rfl) ?_
        obtain ⟨c_5, hF⟩ := gd_e hF
        refine va_iald hx hb hK.1 hP 1 0 rfl rfl c_5 dX0_last_15 ?_
        refine lv_bipush (v := (-9 : Int32)) hx hb dX0_last_16 (by decide) ?_
        refine lv_icmp_eq (tgt := 25) hx hb dX0_last_18 (by decide) (fun c_6 => ?_) (fun c_6 => ?_)
        · replace hF := if_t c_6 hF
          refine lv_iinc (v := (x2_2 + (1 : Int32))) (lv' := [(2, .int (x2_2 + (1 : Int32))), (0, .ref a_t), (1, .int x1_1)]) hx hb dX0_last_25 hl (k := 2) rfl rfl (by decide) rfl (fun ls hl => ?_)
          refine lv_goto (tgt := 4) hx hb dX0_last_28 (by decide) ?_
          exact ih _ _ _ hF _ _ _ hP hD hS (lv_sub hl [1, 2, 0] rfl) kexit
        · replace hF := if_f c_6 hF
          refine lv_iload_n hx hb dX0_last_21 rfl (lv_at hl 2 rfl) ?_
          refine lv_iconst (v := (1 : Int32)) hx hb dX0_last_22 (by decide) ?_
          refine lv_iadd hx hb dX0_last_23 ?_
          refine lv_istore_n (lv' := [(1, .int (x2_2 + (1 : Int32))), (0, .ref a_t), (2, .int x2_2)]) hx hb dX0_last_24 rfl hl (by decide) rfl (fun ls hl => ?_)
          refine lv_iinc (v := (x2_2 + (1 : Int32))) (lv' := [(2, .int (x2_2 + (1 : Int32))), (1, .int (x2_2 + (1 : Int32))), (0, .ref a_t)]) hx hb dX0_last_25 hl (k := 2) rfl rfl (by decide) rfl (fun ls hl => ?_)
          refine lv_goto (tgt := 4) hx hb dX0_last_28 (by decide) ?_
          exact ih _ _ _ hF _ _ _ hP hD hS (lv_sub hl [2, 1, 0] rfl) kexit
  obtain ⟨y1_3, hq, hF⟩ := bd1_e hF
  refine hL_4 _ _ _ _ hq _ _ _ hP hD hS (lv_sub hl [2, 1, 0] rfl) (fun H locs ls hP hD hS hl => ?_)
  refine lv_iload_n hx hb dX0_last_31 rfl (lv_at hl 0 rfl) ?_
  obtain rfl := Option.some.inj hF
  exact hEnd _ _ _ _ _ dX0_last_32 hP hS rfl
def f_X0_holds (i1 : Int32) (s_t_heldCount : Int32) : Int32 := (if i1 < (0 : Int32) then ((0 : Int32)) else (if s_t_heldCount ≤ i1 then ((0 : Int32)) else (if (6 : Int32) ≤ i1 then ((0 : Int32)) else ((1 : Int32)))))
abbrev rmX0_holds : Room := { frames := 0, cells := 0, slots := 0, locals := 0 }
set_option maxHeartbeats 400000 in
set_option maxRecDepth 100000 in
theorem c_X0_holds (l : Launch) (D : va_G) (cI cB cJ : ClassId) (a_t : Nat) (a_t_village : Nat) (a_t_mark : Nat) (a_t_held : Nat) (sz : Nat) (s_t_heldCount : Int32) (s_t_villages : Int32) (i1 : Int32) (r : Int32) (hF : f_X0_holds i1 s_t_heldCount = r) : xMz l yX0_holds (.code yX0_holds cX0_holds 2 (some .boolean) :: xU) rmX0_holds (xK D cI cB cJ) D sz [.ref a_t, .int i1] [(a_t, .inr (0, [.ref a_t_village, .ref a_t_mark, .ref a_t_held, .int s_t_heldCount, .int s_t_villages]))] [(a_t, .inr (0, [.ref a_t_village, .ref a_t_mark, .ref a_t_held, .int s_t_heldCount, .int s_t_villages]))] r := by
  refine xMz.mk (own := "FairNext$Book") (by decide +kernel) rfl (Nat.le_of_ble_eq_true rfl) ?_
  intro p e s m args below meth c A Q ls H hfix hK hP hD hA hS hl hEnd
  obtain ⟨hx, hb, hml, hown, hts⟩ := id hfix
  have hl : lv_has ls 2 [(0, .ref a_t), (1, .int i1)] := hl
  rw [f_X0_holds] at hF
  refine lv_iload_n hx hb dX0_holds_0 rfl (lv_at hl 1 rfl) ?_
  refine lv_if_lt (tgt := 22) hx hb dX0_holds_1 (by decide) (fun c_1 => ?_) (fun c_1 => ?_)
  · replace hF := if_t c_1 hF
    refine lv_iconst (v := (0 : Int32)) hx hb dX0_holds_22 (by decide) ?_
    subst hF
    exact hEnd _ _ _ _ _ dX0_holds_23 hP hS x01_0 rfl
  · replace hF := if_f c_1 hF
    refine lv_iload_n hx hb dX0_holds_4 rfl (lv_at hl 1 rfl) ?_
    refine lv_aload_n hx hb dX0_holds_5 rfl (lv_at hl 0 rfl) ?_
    refine xget (ci := 0) (C := RX0) (T := TX0) (N := 5) hfix xiX0 hK.1 hP 0 rfl rfl 3 (by decide) rfl xw_41 rfl dX0_holds_6 ?_
    refine lv_icmp_ge (tgt := 22) hx hb dX0_holds_9 (by decide) (fun c_2 => ?_) (fun c_2 => ?_)
    · replace hF := if_t c_2 hF
      refine lv_iconst (v := (0 : Int32)) hx hb dX0_holds_22 (by decide) ?_
      subst hF
      exact hEnd _ _ _ _ _ dX0_holds_23 hP hS x01_0 rfl
    · replace hF := if_f c_2 hF
      refine lv_iload_n hx hb dX0_holds_12 rfl (lv_at hl 1 rfl) ?_
      refine lv_bipush (v := (6 : Int32)) hx hb dX0_holds_13 (by decide) ?_
      refine lv_icmp_ge (tgt := 22) hx hb dX0_holds_15 (by decide) (fun c_3 => ?_) (fun c_3 => ?_)
      · replace hF := if_t c_3 hF
        refine lv_iconst (v := (0 : Int32)) hx hb dX0_holds_22 (by decide) ?_
        subst hF
        exact hEnd _ _ _ _ _ dX0_holds_23 hP hS x01_0 rfl
      · replace hF := if_f c_3 hF
        refine lv_iconst (v := (1 : Int32)) hx hb dX0_holds_18 (by decide) ?_
        refine lv_goto (tgt := 23) hx hb dX0_holds_19 (by decide) ?_
        subst hF
        exact hEnd _ _ _ _ _ dX0_holds_23 hP hS x01_1 rfl
def f_X0_holdRule (i1 : Int32) (s_t_heldCount : Int32) (v_t_held : (Nat → Int32)) : Option (Int32 × (Nat → Int32)) := (if (6 : Int32) ≤ s_t_heldCount then some ((s_t_heldCount, v_t_held)) else gd s_t_heldCount 6 (some (((s_t_heldCount + (1 : Int32)), (upd v_t_held s_t_heldCount.toNatClampNeg i1)))))
abbrev rmX0_holdRule : Room := { frames := 0, cells := 0, slots := 0, locals := 0 }
set_option maxHeartbeats 400000 in
set_option maxRecDepth 100000 in
theorem c_X0_holdRule (l : Launch) (D : va_G) (cI cB cJ : ClassId) (a_t : Nat) (a_t_village : Nat) (a_t_mark : Nat) (a_t_held : Nat) (sz : Nat) (s_t_heldCount : Int32) (s_t_villages : Int32) (v_t_held : (Nat → Int32)) (i1 : Int32) (o_s_t_heldCount : Int32) (o_v_t_held : (Nat → Int32)) (hF : f_X0_holdRule i1 s_t_heldCount v_t_held = some (o_s_t_heldCount, o_v_t_held)) : xMv l yX0_holdRule (.code yX0_holdRule cX0_holdRule 2 none :: xU) rmX0_holdRule (xK D cI cB cJ) D sz [.ref a_t, .int i1] [(a_t, .inr (0, [.ref a_t_village, .ref a_t_mark, .ref a_t_held, .int s_t_heldCount, .int s_t_villages])), (a_t_held, .inl (cI, 6, .inl v_t_held))] [(a_t, .inr (0, [.ref a_t_village, .ref a_t_mark, .ref a_t_held, .int o_s_t_heldCount, .int s_t_villages])), (a_t_held, .inl (cI, 6, .inl o_v_t_held))] := by
  refine xMv.mk (own := "FairNext$Book") (by decide +kernel) rfl (Nat.le_of_ble_eq_true rfl) ?_
  intro p e s m args below meth c A Q ls H hfix hK hP hD hA hS hl hEnd
  obtain ⟨hx, hb, hml, hown, hts⟩ := id hfix
  have hl : lv_has ls 2 [(0, .ref a_t), (1, .int i1)] := hl
  rw [f_X0_holdRule] at hF
  refine lv_aload_n hx hb dX0_holdRule_0 rfl (lv_at hl 0 rfl) ?_
  refine xget (ci := 0) (C := RX0) (T := TX0) (N := 5) hfix xiX0 hK.1 hP 0 rfl rfl 3 (by decide) rfl xw_41 rfl dX0_holdRule_1 ?_
  refine lv_bipush (v := (6 : Int32)) hx hb dX0_holdRule_4 (by decide) ?_
  refine lv_icmp_ge (tgt := 29) hx hb dX0_holdRule_6 (by decide) (fun c_1 => ?_) (fun c_1 => ?_)
  · replace hF := if_t c_1 hF
    obtain ⟨rfl, rfl⟩ := pj2 hF
    exact hEnd _ _ _ _ dX0_holdRule_29 hP hS
  · replace hF := if_f c_1 hF
    refine lv_aload_n hx hb dX0_holdRule_9 rfl (lv_at hl 0 rfl) ?_
    refine xget (ci := 0) (C := RX0) (T := TX0) (N := 5) hfix xiX0 hK.1 hP 0 rfl rfl 2 (by decide) rfl xw_39 rfl dX0_holdRule_10 ?_
    refine lv_aload_n hx hb dX0_holdRule_13 rfl (lv_at hl 0 rfl) ?_
    refine xget (ci := 0) (C := RX0) (T := TX0) (N := 5) hfix xiX0 hK.1 hP 0 rfl rfl 3 (by decide) rfl xw_41 rfl dX0_holdRule_14 ?_
    refine lv_iload_n hx hb dX0_holdRule_17 rfl (lv_at hl 1 rfl) ?_
    obtain ⟨c_2, hF⟩ := gd_e hF
    refine va_iast hx hb hK.1 hP hD hS 1 0 rfl rfl c_2 dX0_holdRule_18 (fun H locs hP hD hS => ?_)
    have hP : va_P D vwCl [(a_t, .inr (0, [.ref a_t_village, .ref a_t_mark, .ref a_t_held, .int s_t_heldCount, .int s_t_villages])), (a_t_held, .inl (cI, 6, .inl (upd v_t_held s_t_heldCount.toNatClampNeg i1)))] H := hP
    have hD : va_D A [(a_t, .inr (0, [.ref a_t_village, .ref a_t_mark, .ref a_t_held, .int s_t_heldCount, .int s_t_villages])), (a_t_held, .inl (cI, 6, .inl (upd v_t_held s_t_heldCount.toNatClampNeg i1)))] := hD
    refine lv_aload_n hx hb dX0_holdRule_19 rfl (lv_at hl 0 rfl) ?_
    refine lv_dup hx hb dX0_holdRule_20 rfl ?_
    refine xget (ci := 0) (C := RX0) (T := TX0) (N := 5) hfix xiX0 hK.1 hP 0 rfl rfl 3 (by decide) rfl xw_41 rfl dX0_holdRule_21 ?_
    refine lv_iconst (v := (1 : Int32)) hx hb dX0_holdRule_24 (by decide) ?_
    refine lv_iadd hx hb dX0_holdRule_25 ?_
    refine xput (ci := 0) (C := RX0) (T := TX0) (N := 5) hfix xiX0 tyX0 tyX0_ok nmX0 hK.1 hP hD hS 0 rfl rfl 3 (by decide) rfl rfl xw_41 (ty := .int) rfl rfl rfl (Nat.le_of_ble_eq_true rfl) dX0_holdRule_26 (wn := [(a_t, .inr (0, [.ref a_t_village, .ref a_t_mark, .ref a_t_held, .int (s_t_heldCount + (1 : Int32)), .int s_t_villages])), (a_t_held, .inl (cI, 6, .inl (upd v_t_held s_t_heldCount.toNatClampNeg i1)))]) rfl (fun H locs hP hD hS => ?_)
    obtain ⟨rfl, rfl⟩ := pj2 hF
    exact hEnd _ _ _ _ dX0_holdRule_29 hP hS
def f_X0_dropRule_L2 (s_t_heldCount : Int32) : Nat → Int32 → (Nat → Int32) → Option ((Nat → Int32))
  | 0, _, _ => none
  | n + 1, x2_1, xv_t_held_2 => (if x2_1 < (0 : Int32) then some (xv_t_held_2) else (if s_t_heldCount ≤ (x2_1 + (1 : Int32)) then some (xv_t_held_2) else (if (6 : Int32) ≤ (x2_1 + (1 : Int32)) then some (xv_t_held_2) else gd (x2_1 + (1 : Int32)) 6 (gd x2_1 6 (f_X0_dropRule_L2 s_t_heldCount n (x2_1 + (1 : Int32)) (upd xv_t_held_2 x2_1.toNatClampNeg (xv_t_held_2 (x2_1 + (1 : Int32)).toNatClampNeg)))))))
def f_X0_dropRule (i1 : Int32) (s_t_heldCount : Int32) (v_t_held : (Nat → Int32)) : Option (Int32 × (Nat → Int32)) := bd1 (f_X0_dropRule_L2 s_t_heldCount 1000 i1 v_t_held) (fun (yv_t_held_3 : (Nat → Int32)) => some (((s_t_heldCount - (1 : Int32)), yv_t_held_3)))
abbrev rmX0_dropRule : Room := { frames := 0, cells := 0, slots := 0, locals := 0 }
set_option maxHeartbeats 400000 in
set_option maxRecDepth 100000 in
theorem c_X0_dropRule (l : Launch) (D : va_G) (cI cB cJ : ClassId) (a_t : Nat) (a_t_village : Nat) (a_t_mark : Nat) (a_t_held : Nat) (sz : Nat) (s_t_heldCount : Int32) (s_t_villages : Int32) (v_t_held : (Nat → Int32)) (i1 : Int32) (o_s_t_heldCount : Int32) (o_v_t_held : (Nat → Int32)) (hF : f_X0_dropRule i1 s_t_heldCount v_t_held = some (o_s_t_heldCount, o_v_t_held)) : xMv l yX0_dropRule (.code yX0_dropRule cX0_dropRule 3 none :: xU) rmX0_dropRule (xK D cI cB cJ) D sz [.ref a_t, .int i1] [(a_t, .inr (0, [.ref a_t_village, .ref a_t_mark, .ref a_t_held, .int s_t_heldCount, .int s_t_villages])), (a_t_held, .inl (cI, 6, .inl v_t_held))] [(a_t, .inr (0, [.ref a_t_village, .ref a_t_mark, .ref a_t_held, .int o_s_t_heldCount, .int s_t_villages])), (a_t_held, .inl (cI, 6, .inl o_v_t_held))] := by
  refine xMv.mk (own := "FairNext$Book") (by decide +kernel) rfl (Nat.le_of_ble_eq_true rfl) ?_
  intro p e s m args below meth c A Q ls H hfix hK hP hD hA hS hl hEnd
  obtain ⟨hx, hb, hml, hown, hts⟩ := id hfix
  have hl : lv_has ls 3 [(0, .ref a_t), (1, .int i1)] := hl
  rw [f_X0_dropRule] at hF
  refine lv_iload_n hx hb dX0_dropRule_0 rfl (lv_at hl 1 rfl) ?_
  refine lv_istore_n (lv' := [(2, .int i1), (0, .ref a_t), (1, .int i1)]) hx hb dX0_dropRule_1 rfl hl (by decide) rfl (fun ls hl => ?_)
  have hL_2 : ∀ (n : Nat) (x2_1 : Int32) (xv_t_held_2 : (Nat → Int32)) (yv_t_held_3 : (Nat → Int32)), f_X0_dropRule_L2 s_t_heldCount n x2_1 xv_t_held_2 = some yv_t_held_3 → ∀ (H : Heap) (locs : List Loc) (ls : Array Slot), va_P D vwCl [(a_t, .inr (0, [.ref a_t_village, .ref a_t_mark, .ref a_t_held, .int s_t_heldCount, .int s_t_villages])), (a_t_held, .inl (cI, 6, .inl xv_t_held_2))] H → va_D A [(a_t, .inr (0, [.ref a_t_village, .ref a_t_mark, .ref a_t_held, .int s_t_heldCount, .int s_t_villages])), (a_t_held, .inl (cI, 6, .inl xv_t_held_2))] → va_S A s.heap H locs → lv_has ls 3 [(0, .ref a_t), (2, .int x2_1)] → (∀ (H : Heap) (locs : List Loc) (ls : Array Slot), va_P D vwCl [(a_t, .inr (0, [.ref a_t_village, .ref a_t_mark, .ref a_t_held, .int s_t_heldCount, .int s_t_villages])), (a_t_held, .inl (cI, 6, .inl yv_t_held_3))] H → va_D A [(a_t, .inr (0, [.ref a_t_village, .ref a_t_mark, .ref a_t_held, .int s_t_heldCount, .int s_t_villages])), (a_t_held, .inl (cI, 6, .inl yv_t_held_3))] → va_S A s.heap H locs → lv_has ls 3 [(0, .ref a_t)] → W p l e rmX0_dropRule s m args below meth c H locs 0 0 Q (F0 m 44 ls [])) → W p l e rmX0_dropRule s m args below meth c H locs 0 0 Q (F0 m 2 ls []) := by
    intro n
    induction n with
    | zero => intro x2_1 xv_t_held_2 yv_t_held_3 hF; exact (no_some hF).elim
    | succ n ih =>
      intro x2_1 xv_t_held_2 yv_t_held_3 hF H locs ls hP hD hS hl kexit
      rw [f_X0_dropRule_L2] at hF
      refine lv_iload_n hx hb dX0_dropRule_2 rfl (lv_at hl 1 rfl) ?_
      refine lv_if_lt (tgt := 44) hx hb dX0_dropRule_3 (by decide) (fun c_4 => ?_) (fun c_4 => ?_)
      · replace hF := if_t c_4 hF
        obtain rfl := Option.some.inj hF
        exact kexit _ _ _ hP hD hS (lv_sub hl [0] rfl)
      · replace hF := if_f c_4 hF
        refine lv_iload_n hx hb dX0_dropRule_6 rfl (lv_at hl 1 rfl) ?_
        refine lv_iconst (v := (1 : Int32)) hx hb dX0_dropRule_7 (by decide) ?_
        refine lv_iadd hx hb dX0_dropRule_8 ?_
        refine lv_aload_n hx hb dX0_dropRule_9 rfl (lv_at hl 0 rfl) ?_
        refine xget (ci := 0) (C := RX0) (T := TX0) (N := 5) hfix xiX0 hK.1 hP 0 rfl rfl 3 (by decide) rfl xw_41 rfl dX0_dropRule_10 ?_
        refine lv_icmp_ge (tgt := 44) hx hb dX0_dropRule_13 (by decide) (fun c_5 => ?_) (fun c_5 => ?_)
        · replace hF := if_t c_5 hF
          obtain rfl := Option.some.inj hF
          exact kexit _ _ _ hP hD hS (lv_sub hl [0] rfl)
        · replace hF := if_f c_5 hF
          refine lv_iload_n hx hb dX0_dropRule_16 rfl (lv_at hl 1 rfl) ?_
          refine lv_iconst (v := (1 : Int32)) hx hb dX0_dropRule_17 (by decide) ?_
          refine lv_iadd hx hb dX0_dropRule_18 ?_
          refine lv_bipush (v := (6 : Int32)) hx hb dX0_dropRule_19 (by decide) ?_
          refine lv_icmp_ge (tgt := 44) hx hb dX0_dropRule_21 (by decide) (fun c_6 => ?_) (fun c_6 => ?_)
          · replace hF := if_t c_6 hF
            obtain rfl := Option.some.inj hF
            exact kexit _ _ _ hP hD hS (lv_sub hl [0] rfl)
          · replace hF := if_f c_6 hF
            refine lv_aload_n hx hb dX0_dropRule_24 rfl (lv_at hl 0 rfl) ?_
            refine xget (ci := 0) (C := RX0) (T := TX0) (N := 5) hfix xiX0 hK.1 hP 0 rfl rfl 2 (by decide) rfl xw_39 rfl dX0_dropRule_25 ?_
            refine lv_iload_n hx hb dX0_dropRule_28 rfl (lv_at hl 1 rfl) ?_
            refine lv_aload_n hx hb dX0_dropRule_29 rfl (lv_at hl 0 rfl) ?_
            refine xget (ci := 0) (C := RX0) (T := TX0) (N := 5) hfix xiX0 hK.1 hP 0 rfl rfl 2 (by decide) rfl xw_39 rfl dX0_dropRule_30 ?_
            refine lv_iload_n hx hb dX0_dropRule_33 rfl (lv_at hl 1 rfl) ?_
            refine lv_iconst (v := (1 : Int32)) hx hb dX0_dropRule_34 (by decide) ?_
            refine lv_iadd hx hb dX0_dropRule_35 ?_
            obtain ⟨c_7, hF⟩ := gd_e hF
            refine va_iald hx hb hK.1 hP 1 0 rfl rfl c_7 dX0_dropRule_36 ?_
            obtain ⟨c_8, hF⟩ := gd_e hF
            refine va_iast hx hb hK.1 hP hD hS 1 0 rfl rfl c_8 dX0_dropRule_37 (fun H locs hP hD hS => ?_)
            have hP : va_P D vwCl [(a_t, .inr (0, [.ref a_t_village, .ref a_t_mark, .ref a_t_held, .int s_t_heldCount, .int s_t_villages])), (a_t_held, .inl (cI, 6, .inl (upd xv_t_held_2 x2_1.toNatClampNeg (xv_t_held_2 (x2_1 + (1 : Int32)).toNatClampNeg))))] H := hP
            have hD : va_D A [(a_t, .inr (0, [.ref a_t_village, .ref a_t_mark, .ref a_t_held, .int s_t_heldCount, .int s_t_villages])), (a_t_held, .inl (cI, 6, .inl (upd xv_t_held_2 x2_1.toNatClampNeg (xv_t_held_2 (x2_1 + (1 : Int32)).toNatClampNeg))))] := hD
            refine lv_iinc (v := (x2_1 + (1 : Int32))) (lv' := [(2, .int (x2_1 + (1 : Int32))), (0, .ref a_t)]) hx hb dX0_dropRule_38 hl (k := 1) rfl rfl (by decide) rfl (fun ls hl => ?_)
            refine lv_goto (tgt := 2) hx hb dX0_dropRule_41 (by decide) ?_
            exact ih _ _ _ hF _ _ _ hP hD hS (lv_sub hl [1, 0] rfl) kexit
  obtain ⟨yv_t_held_3, hq, hF⟩ := bd1_e hF
  refine hL_2 _ _ _ _ hq _ _ _ hP hD hS (lv_sub hl [1, 0] rfl) (fun H locs ls hP hD hS hl => ?_)
  refine lv_aload_n hx hb dX0_dropRule_44 rfl (lv_at hl 0 rfl) ?_
  refine lv_dup hx hb dX0_dropRule_45 rfl ?_
  refine xget (ci := 0) (C := RX0) (T := TX0) (N := 5) hfix xiX0 hK.1 hP 0 rfl rfl 3 (by decide) rfl xw_41 rfl dX0_dropRule_46 ?_
  refine lv_iconst (v := (1 : Int32)) hx hb dX0_dropRule_49 (by decide) ?_
  refine lv_isub hx hb dX0_dropRule_50 ?_
  refine xput (ci := 0) (C := RX0) (T := TX0) (N := 5) hfix xiX0 tyX0 tyX0_ok nmX0 hK.1 hP hD hS 0 rfl rfl 3 (by decide) rfl rfl xw_41 (ty := .int) rfl rfl rfl (Nat.le_of_ble_eq_true rfl) dX0_dropRule_51 (wn := [(a_t, .inr (0, [.ref a_t_village, .ref a_t_mark, .ref a_t_held, .int (s_t_heldCount - (1 : Int32)), .int s_t_villages])), (a_t_held, .inl (cI, 6, .inl yv_t_held_3))]) rfl (fun H locs hP hD hS => ?_)
  obtain ⟨rfl, rfl⟩ := pj2 hF
  exact hEnd _ _ _ _ dX0_dropRule_54 hP hS
def f_X6_bOf (i1 : Int32) : Int32 := ((xrem (i1 / (4 : Int32)) (5 : Int32)))
abbrev rmX6_bOf : Room := { frames := 0, cells := 0, slots := 0, locals := 0 }
set_option maxHeartbeats 400000 in
set_option maxRecDepth 100000 in
theorem c_X6_bOf (l : Launch) (D : va_G) (cI cB cJ : ClassId) (sz : Nat) (i1 : Int32) (r : Int32) (hF : f_X6_bOf i1 = r) : xMi l yX6_bOf (.code yX6_bOf cX6_bOf 1 (some .int) :: xU) rmX6_bOf (xK D cI cB cJ) D sz [.int i1] [] [] r := by
  refine xMi.mk (own := "FairNext") (by decide +kernel) rfl (Nat.le_of_ble_eq_true rfl) ?_
  intro p e s m args below meth c A Q ls H hfix hK hP hD hA hS hl hEnd
  obtain ⟨hx, hb, hml, hown, hts⟩ := id hfix
  have hl : lv_has ls 1 [(0, .int i1)] := hl
  rw [f_X6_bOf] at hF
  refine lv_iload_n hx hb dX6_bOf_0 rfl (lv_at hl 0 rfl) ?_
  refine lv_iconst (v := (4 : Int32)) hx hb dX6_bOf_1 (by decide) ?_
  refine lv_idiv hx hb dX6_bOf_2 (by decide) ?_
  refine lv_iconst (v := (5 : Int32)) hx hb dX6_bOf_3 (by decide) ?_
  refine lv_irem hx hb dX6_bOf_4 (by decide) ?_
  subst hF
  exact hEnd _ _ _ _ _ dX6_bOf_5 hP hS rfl
def f_X6_kindOf (i1 : Int32) : Int32 := ((i1 / (100 : Int32)))
abbrev rmX6_kindOf : Room := { frames := 0, cells := 0, slots := 0, locals := 0 }
set_option maxHeartbeats 400000 in
set_option maxRecDepth 100000 in
theorem c_X6_kindOf (l : Launch) (D : va_G) (cI cB cJ : ClassId) (sz : Nat) (i1 : Int32) (r : Int32) (hF : f_X6_kindOf i1 = r) : xMi l yX6_kindOf (.code yX6_kindOf cX6_kindOf 1 (some .int) :: xU) rmX6_kindOf (xK D cI cB cJ) D sz [.int i1] [] [] r := by
  refine xMi.mk (own := "FairNext") (by decide +kernel) rfl (Nat.le_of_ble_eq_true rfl) ?_
  intro p e s m args below meth c A Q ls H hfix hK hP hD hA hS hl hEnd
  obtain ⟨hx, hb, hml, hown, hts⟩ := id hfix
  have hl : lv_has ls 1 [(0, .int i1)] := hl
  rw [f_X6_kindOf] at hF
  refine lv_iload_n hx hb dX6_kindOf_0 rfl (lv_at hl 0 rfl) ?_
  refine lv_bipush (v := (100 : Int32)) hx hb dX6_kindOf_1 (by decide) ?_
  refine lv_idiv hx hb dX6_kindOf_3 (by decide) ?_
  subst hF
  exact hEnd _ _ _ _ _ dX6_kindOf_4 hP hS rfl
def f_X6_kOf (i1 : Int32) : Int32 := (((xrem i1 (4 : Int32)) + (1 : Int32)))
abbrev rmX6_kOf : Room := { frames := 0, cells := 0, slots := 0, locals := 0 }
set_option maxHeartbeats 400000 in
set_option maxRecDepth 100000 in
theorem c_X6_kOf (l : Launch) (D : va_G) (cI cB cJ : ClassId) (sz : Nat) (i1 : Int32) (r : Int32) (hF : f_X6_kOf i1 = r) : xMi l yX6_kOf (.code yX6_kOf cX6_kOf 1 (some .int) :: xU) rmX6_kOf (xK D cI cB cJ) D sz [.int i1] [] [] r := by
  refine xMi.mk (own := "FairNext") (by decide +kernel) rfl (Nat.le_of_ble_eq_true rfl) ?_
  intro p e s m args below meth c A Q ls H hfix hK hP hD hA hS hl hEnd
  obtain ⟨hx, hb, hml, hown, hts⟩ := id hfix
  have hl : lv_has ls 1 [(0, .int i1)] := hl
  rw [f_X6_kOf] at hF
  refine lv_iload_n hx hb dX6_kOf_0 rfl (lv_at hl 0 rfl) ?_
  refine lv_iconst (v := (4 : Int32)) hx hb dX6_kOf_1 (by decide) ?_
  refine lv_irem hx hb dX6_kOf_2 (by decide) ?_
  refine lv_iconst (v := (1 : Int32)) hx hb dX6_kOf_3 (by decide) ?_
  refine lv_iadd hx hb dX6_kOf_4 ?_
  subst hF
  exact hEnd _ _ _ _ _ dX6_kOf_5 hP hS rfl
def f_X0_standing (i2 : Int32) (n_p1 : Nat) (v_p1 : (Nat → Int32)) : Option (Int32) := (if i2 < (0 : Int32) then some ((-9 : Int32)) else (if i2 < (Int32.ofNat n_p1) then gd i2 n_p1 (some ((v_p1 i2.toNatClampNeg))) else some ((-9 : Int32))))
abbrev rmX0_standing : Room := { frames := 0, cells := 0, slots := 0, locals := 0 }
set_option maxHeartbeats 400000 in
set_option maxRecDepth 100000 in
theorem c_X0_standing (l : Launch) (D : va_G) (cI cB cJ : ClassId) (a_p1 : Nat) (sz : Nat) (n_p1 : Nat) (v_p1 : (Nat → Int32)) (i2 : Int32) (r : Int32) (hF : f_X0_standing i2 n_p1 v_p1 = some r) : xMi l yX0_standing (.code yX0_standing cX0_standing 2 (some .int) :: xU) rmX0_standing (xK D cI cB cJ) D sz [.ref a_p1, .int i2] [(a_p1, .inl (cI, n_p1, .inl v_p1))] [(a_p1, .inl (cI, n_p1, .inl v_p1))] r := by
  refine xMi.mk (own := "FairNext$Book") (by decide +kernel) rfl (Nat.le_of_ble_eq_true rfl) ?_
  intro p e s m args below meth c A Q ls H hfix hK hP hD hA hS hl hEnd
  obtain ⟨hx, hb, hml, hown, hts⟩ := id hfix
  have hl : lv_has ls 2 [(0, .ref a_p1), (1, .int i2)] := hl
  rw [f_X0_standing] at hF
  refine lv_iload_n hx hb dX0_standing_0 rfl (lv_at hl 1 rfl) ?_
  refine lv_if_lt (tgt := 10) hx hb dX0_standing_1 (by decide) (fun c_1 => ?_) (fun c_1 => ?_)
  · replace hF := if_t c_1 hF
    refine lv_bipush (v := (-9 : Int32)) hx hb dX0_standing_10 (by decide) ?_
    refine lv_goto (tgt := 18) hx hb dX0_standing_12 (by decide) ?_
    obtain rfl := Option.some.inj hF
    exact hEnd _ _ _ _ _ dX0_standing_18 hP hS rfl
  · replace hF := if_f c_1 hF
    refine lv_iload_n hx hb dX0_standing_4 rfl (lv_at hl 1 rfl) ?_
    refine lv_aload_n hx hb dX0_standing_5 rfl (lv_at hl 0 rfl) ?_
    refine va_alen (v := (Int32.ofNat n_p1)) hx hb hK.1 hP 0 0 rfl rfl rfl dX0_standing_6 ?_
    refine lv_icmp_lt (tgt := 15) hx hb dX0_standing_7 (by decide) (fun c_2 => ?_) (fun c_2 => ?_)
    · replace hF := if_t c_2 hF
      refine lv_aload_n hx hb dX0_standing_15 rfl (lv_at hl 0 rfl) ?_
      refine lv_iload_n hx hb dX0_standing_16 rfl (lv_at hl 1 rfl) ?_
      obtain ⟨c_3, hF⟩ := gd_e hF
      refine va_iald hx hb hK.1 hP 0 0 rfl rfl c_3 dX0_standing_17 ?_
      obtain rfl := Option.some.inj hF
      exact hEnd _ _ _ _ _ dX0_standing_18 hP hS rfl
    · replace hF := if_f c_2 hF
      refine lv_bipush (v := (-9 : Int32)) hx hb dX0_standing_10 (by decide) ?_
      refine lv_goto (tgt := 18) hx hb dX0_standing_12 (by decide) ?_
      obtain rfl := Option.some.inj hF
      exact hEnd _ _ _ _ _ dX0_standing_18 hP hS rfl
def f_X6_aOf (i1 : Int32) : Int32 := ((xrem (i1 / (20 : Int32)) (5 : Int32)))
abbrev rmX6_aOf : Room := { frames := 0, cells := 0, slots := 0, locals := 0 }
set_option maxHeartbeats 400000 in
set_option maxRecDepth 100000 in
theorem c_X6_aOf (l : Launch) (D : va_G) (cI cB cJ : ClassId) (sz : Nat) (i1 : Int32) (r : Int32) (hF : f_X6_aOf i1 = r) : xMi l yX6_aOf (.code yX6_aOf cX6_aOf 1 (some .int) :: xU) rmX6_aOf (xK D cI cB cJ) D sz [.int i1] [] [] r := by
  refine xMi.mk (own := "FairNext") (by decide +kernel) rfl (Nat.le_of_ble_eq_true rfl) ?_
  intro p e s m args below meth c A Q ls H hfix hK hP hD hA hS hl hEnd
  obtain ⟨hx, hb, hml, hown, hts⟩ := id hfix
  have hl : lv_has ls 1 [(0, .int i1)] := hl
  rw [f_X6_aOf] at hF
  refine lv_iload_n hx hb dX6_aOf_0 rfl (lv_at hl 0 rfl) ?_
  refine lv_bipush (v := (20 : Int32)) hx hb dX6_aOf_1 (by decide) ?_
  refine lv_idiv hx hb dX6_aOf_3 (by decide) ?_
  refine lv_iconst (v := (5 : Int32)) hx hb dX6_aOf_4 (by decide) ?_
  refine lv_irem hx hb dX6_aOf_5 (by decide) ?_
  subst hF
  exact hEnd _ _ _ _ _ dX6_aOf_6 hP hS rfl
def f_X6_rest (i1 : Int32) (i2 : Int32) : Option (Int32) := (if (1 : Int32) ≤ i2 then gz i2 (some ((xrem i1 i2))) else some ((0 : Int32)))
abbrev rmX6_rest : Room := { frames := 0, cells := 0, slots := 0, locals := 0 }
set_option maxHeartbeats 400000 in
set_option maxRecDepth 100000 in
theorem c_X6_rest (l : Launch) (D : va_G) (cI cB cJ : ClassId) (sz : Nat) (i1 : Int32) (i2 : Int32) (r : Int32) (hF : f_X6_rest i1 i2 = some r) : xMi l yX6_rest (.code yX6_rest cX6_rest 2 (some .int) :: xU) rmX6_rest (xK D cI cB cJ) D sz [.int i1, .int i2] [] [] r := by
  refine xMi.mk (own := "FairNext") (by decide +kernel) rfl (Nat.le_of_ble_eq_true rfl) ?_
  intro p e s m args below meth c A Q ls H hfix hK hP hD hA hS hl hEnd
  obtain ⟨hx, hb, hml, hown, hts⟩ := id hfix
  have hl : lv_has ls 2 [(0, .int i1), (1, .int i2)] := hl
  rw [f_X6_rest] at hF
  refine lv_iload_n hx hb dX6_rest_0 rfl (lv_at hl 1 rfl) ?_
  refine lv_iconst (v := (1 : Int32)) hx hb dX6_rest_1 (by decide) ?_
  refine lv_icmp_ge (tgt := 9) hx hb dX6_rest_2 (by decide) (fun c_1 => ?_) (fun c_1 => ?_)
  · replace hF := if_t c_1 hF
    refine lv_iload_n hx hb dX6_rest_9 rfl (lv_at hl 0 rfl) ?_
    refine lv_iload_n hx hb dX6_rest_10 rfl (lv_at hl 1 rfl) ?_
    obtain ⟨c_2, hF⟩ := gz_e hF
    refine lv_irem hx hb dX6_rest_11 c_2 ?_
    obtain rfl := Option.some.inj hF
    exact hEnd _ _ _ _ _ dX6_rest_12 hP hS rfl
  · replace hF := if_f c_1 hF
    refine lv_iconst (v := (0 : Int32)) hx hb dX6_rest_5 (by decide) ?_
    refine lv_goto (tgt := 12) hx hb dX6_rest_6 (by decide) ?_
    obtain rfl := Option.some.inj hF
    exact hEnd _ _ _ _ _ dX6_rest_12 hP hS rfl
def f_X0_backSaying (i1 : Int32) (i2 : Int32) (i3 : Int32) (s_t_villages : Int32) : Option (Int32) := (if i2 = (-9 : Int32) then some ((-9 : Int32)) else (if i3 = (-9 : Int32) then some ((-9 : Int32)) else bd1 (f_X6_rest ((((f_X6_aOf i1) * i2) + (f_X6_bOf i1)) + i3) s_t_villages) (fun (r_3 : Int32) => some (r_3))))
abbrev rmX0_backSaying : Room := { frames := 1, cells := 0, slots := 0, locals := 21 }
set_option maxHeartbeats 400000 in
set_option maxRecDepth 100000 in
theorem c_X0_backSaying (l : Launch) (D : va_G) (cI cB cJ : ClassId) (a_t : Nat) (a_t_village : Nat) (a_t_mark : Nat) (a_t_held : Nat) (sz : Nat) (s_t_heldCount : Int32) (s_t_villages : Int32) (i1 : Int32) (i2 : Int32) (i3 : Int32) (r : Int32) (hF : f_X0_backSaying i1 i2 i3 s_t_villages = some r) : xMi l yX0_backSaying (.code yX0_backSaying cX0_backSaying 4 (some .int) :: xU) rmX0_backSaying (xK D cI cB cJ) D sz [.ref a_t, .int i1, .int i2, .int i3] [(a_t, .inr (0, [.ref a_t_village, .ref a_t_mark, .ref a_t_held, .int s_t_heldCount, .int s_t_villages]))] [(a_t, .inr (0, [.ref a_t_village, .ref a_t_mark, .ref a_t_held, .int s_t_heldCount, .int s_t_villages]))] r := by
  refine xMi.mk (own := "FairNext$Book") (by decide +kernel) rfl (Nat.le_of_ble_eq_true rfl) ?_
  intro p e s m args below meth c A Q ls H hfix hK hP hD hA hS hl hEnd
  obtain ⟨hx, hb, hml, hown, hts⟩ := id hfix
  have hl : lv_has ls 4 [(0, .ref a_t), (1, .int i1), (2, .int i2), (3, .int i3)] := hl
  rw [f_X0_backSaying] at hF
  refine lv_iload_n hx hb dX0_backSaying_0 rfl (lv_at hl 2 rfl) ?_
  refine lv_bipush (v := (-9 : Int32)) hx hb dX0_backSaying_1 (by decide) ?_
  refine lv_icmp_eq (tgt := 12) hx hb dX0_backSaying_3 (by decide) (fun c_1 => ?_) (fun c_1 => ?_)
  · replace hF := if_t c_1 hF
    refine lv_bipush (v := (-9 : Int32)) hx hb dX0_backSaying_12 (by decide) ?_
    obtain rfl := Option.some.inj hF
    exact hEnd _ _ _ _ _ dX0_backSaying_14 hP hS rfl
  · replace hF := if_f c_1 hF
    refine lv_iload_n hx hb dX0_backSaying_6 rfl (lv_at hl 3 rfl) ?_
    refine lv_bipush (v := (-9 : Int32)) hx hb dX0_backSaying_7 (by decide) ?_
    refine lv_icmp_ne (tgt := 15) hx hb dX0_backSaying_9 (by decide) (fun c_2 => ?_) (fun c_2 => ?_)
    · replace hF := if_f c_2 hF
      refine lv_iload_n hx hb dX0_backSaying_15 rfl (lv_at hl 1 rfl) ?_
      refine xri0 (xrunN (As := [.int i1]) (rest := []) (c_X6_aOf l D cI cB cJ _ i1 (f_X6_aOf i1) rfl) hfix (hK.2 _ (List.mem_of_getElem? (i := 5) rfl)) ys_X6_aOf ⟨rfl, rfl⟩ ⟨(Nat.le_of_ble_eq_true rfl), (Nat.le_of_ble_eq_true rfl)⟩ xKk_K (fun U hU hW => xK.warm hW hK) hP hD [] rfl rfl rfl hl.1 rfl (Nat.le_of_ble_eq_true rfl) dX0_backSaying_16 ⟨Nat.zero_le _, Nat.zero_le _⟩) hP hD hS hA [] rfl rfl (fun H locs hP hD hS => ?_)
      refine lv_iload_n hx hb dX0_backSaying_19 rfl (lv_at hl 2 rfl) ?_
      refine lv_imul hx hb dX0_backSaying_20 ?_
      refine lv_iload_n hx hb dX0_backSaying_21 rfl (lv_at hl 1 rfl) ?_
      refine xri0 (xrunN (As := [.int i1]) (rest := [.int ((f_X6_aOf i1) * i2)]) (c_X6_bOf l D cI cB cJ _ i1 (f_X6_bOf i1) rfl) hfix (hK.2 _ (List.mem_of_getElem? (i := 2) rfl)) ys_X6_bOf ⟨rfl, rfl⟩ ⟨(Nat.le_of_ble_eq_true rfl), (Nat.le_of_ble_eq_true rfl)⟩ xKk_K (fun U hU hW => xK.warm hW hK) hP hD [] rfl rfl rfl hl.1 rfl (Nat.le_of_ble_eq_true rfl) dX0_backSaying_22 ⟨Nat.zero_le _, Nat.zero_le _⟩) hP hD hS hA [] rfl rfl (fun H locs hP hD hS => ?_)
      refine lv_iadd hx hb dX0_backSaying_25 ?_
      refine lv_iload_n hx hb dX0_backSaying_26 rfl (lv_at hl 3 rfl) ?_
      refine lv_iadd hx hb dX0_backSaying_27 ?_
      refine lv_aload_n hx hb dX0_backSaying_28 rfl (lv_at hl 0 rfl) ?_
      refine xget (ci := 0) (C := RX0) (T := TX0) (N := 5) hfix xiX0 hK.1 hP 0 rfl rfl 4 (by decide) rfl xw_44 rfl dX0_backSaying_29 ?_
      obtain ⟨r_3, hq_4, hF⟩ := bd1_e hF
      refine xri0 (xrunN (As := [.int ((((f_X6_aOf i1) * i2) + (f_X6_bOf i1)) + i3), .int s_t_villages]) (rest := []) (c_X6_rest l D cI cB cJ _ ((((f_X6_aOf i1) * i2) + (f_X6_bOf i1)) + i3) s_t_villages r_3 hq_4) hfix (hK.2 _ (List.mem_of_getElem? (i := 4) rfl)) ys_X6_rest ⟨rfl, rfl⟩ ⟨(Nat.le_of_ble_eq_true rfl), (Nat.le_of_ble_eq_true rfl)⟩ xKk_K (fun U hU hW => xK.warm hW hK) hP hD [] rfl rfl rfl hl.1 rfl (Nat.le_of_ble_eq_true rfl) dX0_backSaying_32 ⟨Nat.zero_le _, Nat.zero_le _⟩) hP hD hS hA [] rfl rfl (fun H locs hP hD hS => ?_)
      obtain rfl := Option.some.inj hF
      exact hEnd _ _ _ _ _ dX0_backSaying_35 hP hS rfl
    · replace hF := if_t c_2 hF
      refine lv_bipush (v := (-9 : Int32)) hx hb dX0_backSaying_12 (by decide) ?_
      obtain rfl := Option.some.inj hF
      exact hEnd _ _ _ _ _ dX0_backSaying_14 hP hS rfl
def f_X0_tableSaying_L3 (i1 : Int32) (i2 : Int32) (n_p3 : Nat) (v_p3 : (Nat → Int32)) (s_t_villages : Int32) : Nat → Int32 → Option ((Unit) ⊕ (Int32))
  | 0, _ => none
  | n + 1, x4_1 => (if (100 : Int32) ≤ x4_1 then some (.inl ()) else (if i1 < (x4_1 * i2) then some (.inl ()) else bd1 (f_X0_standing (i1 - (x4_1 * i2)) n_p3 v_p3) (fun (r_4 : Int32) => (if r_4 = (-9 : Int32) then f_X0_tableSaying_L3 i1 i2 n_p3 v_p3 s_t_villages n (x4_1 + (1 : Int32)) else bd1 (f_X6_rest r_4 s_t_villages) (fun (r_7 : Int32) => some (.inr (r_7)))))))
def f_X0_tableSaying (i1 : Int32) (i2 : Int32) (n_p3 : Nat) (s_t_villages : Int32) (v_p3 : (Nat → Int32)) : Option (Int32) := bs0 (f_X0_tableSaying_L3 i1 i2 n_p3 v_p3 s_t_villages 1000 (1 : Int32)) (some ((-9 : Int32))) (fun q => some (q))
abbrev rmX0_tableSaying : Room := { frames := 1, cells := 0, slots := 0, locals := 21 }
set_option maxHeartbeats 400000 in
set_option maxRecDepth 100000 in
theorem c_X0_tableSaying (l : Launch) (D : va_G) (cI cB cJ : ClassId) (a_t : Nat) (a_t_village : Nat) (a_t_mark : Nat) (a_t_held : Nat) (a_p3 : Nat) (sz : Nat) (n_p3 : Nat) (s_t_heldCount : Int32) (s_t_villages : Int32) (v_p3 : (Nat → Int32)) (i1 : Int32) (i2 : Int32) (r : Int32) (hF : f_X0_tableSaying i1 i2 n_p3 s_t_villages v_p3 = some r) : xMi l yX0_tableSaying (.code yX0_tableSaying cX0_tableSaying 6 (some .int) :: xU) rmX0_tableSaying (xK D cI cB cJ) D sz [.ref a_t, .int i1, .int i2, .ref a_p3] [(a_t, .inr (0, [.ref a_t_village, .ref a_t_mark, .ref a_t_held, .int s_t_heldCount, .int s_t_villages])), (a_p3, .inl (cI, n_p3, .inl v_p3))] [(a_t, .inr (0, [.ref a_t_village, .ref a_t_mark, .ref a_t_held, .int s_t_heldCount, .int s_t_villages])), (a_p3, .inl (cI, n_p3, .inl v_p3))] r := by
  refine xMi.mk (own := "FairNext$Book") (by decide +kernel) rfl (Nat.le_of_ble_eq_true rfl) ?_
  intro p e s m args below meth c A Q ls H hfix hK hP hD hA hS hl hEnd
  obtain ⟨hx, hb, hml, hown, hts⟩ := id hfix
  have hl : lv_has ls 6 [(0, .ref a_t), (1, .int i1), (2, .int i2), (3, .ref a_p3)] := hl
  rw [f_X0_tableSaying] at hF
  refine lv_iconst (v := (1 : Int32)) hx hb dX0_tableSaying_0 (by decide) ?_
  refine lv_istore (lv' := [(4, .int (1 : Int32)), (0, .ref a_t), (1, .int i1), (2, .int i2), (3, .ref a_p3)]) hx hb dX0_tableSaying_1 hl (by decide) rfl (fun ls hl => ?_)
  have hL_3 : ∀ (n : Nat) (x4_1 : Int32) (_res : (Unit) ⊕ (Int32)), f_X0_tableSaying_L3 i1 i2 n_p3 v_p3 s_t_villages n x4_1 = some _res → ∀ (H : Heap) (locs : List Loc) (ls : Array Slot), va_P D vwCl [(a_t, .inr (0, [.ref a_t_village, .ref a_t_mark, .ref a_t_held, .int s_t_heldCount, .int s_t_villages])), (a_p3, .inl (cI, n_p3, .inl v_p3))] H → va_D A [(a_t, .inr (0, [.ref a_t_village, .ref a_t_mark, .ref a_t_held, .int s_t_heldCount, .int s_t_villages])), (a_p3, .inl (cI, n_p3, .inl v_p3))] → va_S A s.heap H locs → lv_has ls 6 [(0, .ref a_t), (1, .int i1), (2, .int i2), (3, .ref a_p3), (4, .int x4_1)] → (_res = .inl () → ∀ (H : Heap) (locs : List Loc) (ls : Array Slot), va_P D vwCl [(a_t, .inr (0, [.ref a_t_village, .ref a_t_mark, .ref a_t_held, .int s_t_heldCount, .int s_t_villages])), (a_p3, .inl (cI, n_p3, .inl v_p3))] H → va_D A [(a_t, .inr (0, [.ref a_t_village, .ref a_t_mark, .ref a_t_held, .int s_t_heldCount, .int s_t_villages])), (a_p3, .inl (cI, n_p3, .inl v_p3))] → va_S A s.heap H locs → lv_has ls 6 [] → W p l e rmX0_tableSaying s m args below meth c H locs 0 0 Q (F0 m 53 ls [])) → (∀ q : Int32, _res = .inr q → q = r) → W p l e rmX0_tableSaying s m args below meth c H locs 0 0 Q (F0 m 3 ls []) := by
    intro n
    induction n with
    | zero => intro x4_1 _res hF; exact (no_some hF).elim
    | succ n ih =>
      intro x4_1 _res hF H locs ls hP hD hS hl kexit hret
      rw [f_X0_tableSaying_L3] at hF
      refine lv_iload hx hb dX0_tableSaying_3 (lv_at hl 4 rfl) ?_
      refine lv_bipush (v := (100 : Int32)) hx hb dX0_tableSaying_5 (by decide) ?_
      refine lv_icmp_ge (tgt := 53) hx hb dX0_tableSaying_7 (by decide) (fun c_2 => ?_) (fun c_2 => ?_)
      · replace hF := if_t c_2 hF
        obtain rfl := Option.some.inj hF
        exact kexit rfl _ _ _ hP hD hS (lv_sub hl [] rfl)
      · replace hF := if_f c_2 hF
        refine lv_iload hx hb dX0_tableSaying_10 (lv_at hl 4 rfl) ?_
        refine lv_iload_n hx hb dX0_tableSaying_12 rfl (lv_at hl 2 rfl) ?_
        refine lv_imul hx hb dX0_tableSaying_13 ?_
        refine lv_iload_n hx hb dX0_tableSaying_14 rfl (lv_at hl 1 rfl) ?_
        refine lv_icmp_gt (tgt := 53) hx hb dX0_tableSaying_15 (by decide) (fun c_3 => ?_) (fun c_3 => ?_)
        · replace hF := if_t c_3 hF
          obtain rfl := Option.some.inj hF
          exact kexit rfl _ _ _ hP hD hS (lv_sub hl [] rfl)
        · replace hF := if_f c_3 hF
          refine lv_aload_n hx hb dX0_tableSaying_18 rfl (lv_at hl 3 rfl) ?_
          refine lv_iload_n hx hb dX0_tableSaying_19 rfl (lv_at hl 1 rfl) ?_
          refine lv_iload hx hb dX0_tableSaying_20 (lv_at hl 4 rfl) ?_
          refine lv_iload_n hx hb dX0_tableSaying_22 rfl (lv_at hl 2 rfl) ?_
          refine lv_imul hx hb dX0_tableSaying_23 ?_
          refine lv_isub hx hb dX0_tableSaying_24 ?_
          obtain ⟨r_4, hq_5, hF⟩ := bd1_e hF
          refine xri0 (xrunS (As := [.ref a_p3, .int (i1 - (x4_1 * i2))]) (rest := []) (c_X0_standing l D cI cB cJ a_p3 _ n_p3 v_p3 (i1 - (x4_1 * i2)) r_4 hq_5) hfix xw_419 ys_X0_standing ⟨rfl, rfl⟩ ⟨(Nat.le_of_ble_eq_true rfl), (Nat.le_of_ble_eq_true rfl)⟩ xKk_K (fun U hU hW => xK.warm hW hK) hP hD [1] rfl rfl rfl hl.1 rfl (Nat.le_of_ble_eq_true rfl) dX0_tableSaying_25 ⟨Nat.zero_le _, Nat.zero_le _⟩) hP hD hS hA [1] rfl rfl (fun H locs hP hD hS => ?_)
          refine lv_istore (lv' := [(5, .int r_4), (0, .ref a_t), (1, .int i1), (2, .int i2), (3, .ref a_p3), (4, .int x4_1)]) hx hb dX0_tableSaying_28 hl (by decide) rfl (fun ls hl => ?_)
          refine lv_iload hx hb dX0_tableSaying_30 (lv_at hl 0 rfl) ?_
          refine lv_bipush (v := (-9 : Int32)) hx hb dX0_tableSaying_32 (by decide) ?_
          refine lv_icmp_eq (tgt := 47) hx hb dX0_tableSaying_34 (by decide) (fun c_6 => ?_) (fun c_6 => ?_)
          · replace hF := if_t c_6 hF
            refine lv_iinc (v := (x4_1 + (1 : Int32))) (lv' := [(4, .int (x4_1 + (1 : Int32))), (5, .int r_4), (0, .ref a_t), (1, .int i1), (2, .int i2), (3, .ref a_p3)]) hx hb dX0_tableSaying_47 hl (k := 5) rfl rfl (by decide) rfl (fun ls hl => ?_)
            refine lv_goto (tgt := 3) hx hb dX0_tableSaying_50 (by decide) ?_
            exact ih _ _ hF _ _ _ hP hD hS (lv_sub hl [2, 3, 4, 5, 0] rfl) kexit hret
          · replace hF := if_f c_6 hF
            refine lv_iload hx hb dX0_tableSaying_37 (lv_at hl 0 rfl) ?_
            refine lv_aload_n hx hb dX0_tableSaying_39 rfl (lv_at hl 1 rfl) ?_
            refine xget (ci := 0) (C := RX0) (T := TX0) (N := 5) hfix xiX0 hK.1 hP 0 rfl rfl 4 (by decide) rfl xw_44 rfl dX0_tableSaying_40 ?_
            obtain ⟨r_7, hq_8, hF⟩ := bd1_e hF
            refine xri0 (xrunN (As := [.int r_4, .int s_t_villages]) (rest := []) (c_X6_rest l D cI cB cJ _ r_4 s_t_villages r_7 hq_8) hfix (hK.2 _ (List.mem_of_getElem? (i := 4) rfl)) ys_X6_rest ⟨rfl, rfl⟩ ⟨(Nat.le_of_ble_eq_true rfl), (Nat.le_of_ble_eq_true rfl)⟩ xKk_K (fun U hU hW => xK.warm hW hK) hP hD [] rfl rfl rfl hl.1 rfl (Nat.le_of_ble_eq_true rfl) dX0_tableSaying_43 ⟨Nat.zero_le _, Nat.zero_le _⟩) hP hD hS hA [] rfl rfl (fun H locs hP hD hS => ?_)
            obtain rfl := Option.some.inj hF
            have hF := hret _ rfl
            subst hF
            exact hEnd _ _ _ _ _ dX0_tableSaying_46 hP hS rfl
  rcases bs0_e hF with ⟨hq, hF⟩ | ⟨q, hq, hF⟩
  · refine hL_3 _ _ _ hq _ _ _ hP hD hS (lv_sub hl [1, 2, 3, 4, 0] rfl) (fun e H locs ls hP hD hS hl => ?_) (fun q e => nomatch e)
    cases e
    refine lv_bipush (v := (-9 : Int32)) hx hb dX0_tableSaying_53 (by decide) ?_
    obtain rfl := Option.some.inj hF
    exact hEnd _ _ _ _ _ dX0_tableSaying_55 hP hS rfl
  · exact hL_3 _ _ _ hq _ _ _ hP hD hS (lv_sub hl [1, 2, 3, 4, 0] rfl) (fun e => nomatch e) (fun q e => by cases e; cases hF; rfl)
def f_X0_saying (i1 : Int32) (i2 : Int32) (n_p3 : Nat) (s_t_villages : Int32) (v_p3 : (Nat → Int32)) (v_t_mark : (Nat → Int32)) : Option (Int32) := (if (f_X6_kindOf i1) = (0 : Int32) then bd1 (f_X6_rest (f_X6_bOf i1) s_t_villages) (fun (r_2 : Int32) => some (r_2)) else (if (f_X6_kindOf i1) = (1 : Int32) then bd1 (f_X6_rest (((f_X6_aOf i1) * i2) + (f_X6_bOf i1)) s_t_villages) (fun (r_5 : Int32) => some (r_5)) else (if (f_X6_kindOf i1) = (2 : Int32) then bd1 (f_X0_standing (i2 - (f_X6_kOf i1)) n_p3 v_p3) (fun (r_8 : Int32) => bd1 (f_X0_backSaying i1 r_8 (0 : Int32) s_t_villages) (fun (r_10 : Int32) => some (r_10))) else (if (f_X6_kindOf i1) = (3 : Int32) then bd1 (f_X0_tableSaying i2 (f_X6_kOf i1) n_p3 s_t_villages v_p3) (fun (r_13 : Int32) => some (r_13)) else (if (f_X6_kindOf i1) = (4 : Int32) then bd1 ((if (24 : Int32) ≤ i2 then some ((0 : Int32)) else gd i2 24 (some ((v_t_mark i2.toNatClampNeg))))) (fun (j_16 : Int32) => bd1 (f_X6_rest ((((f_X6_aOf i1) * i2) + (f_X6_bOf i1)) + j_16) s_t_villages) (fun (r_17 : Int32) => some (r_17))) else (if (f_X6_kindOf i1) = (5 : Int32) then bd1 (f_X0_standing (i2 - (f_X6_kOf i1)) n_p3 v_p3) (fun (r_22 : Int32) => bd1 (f_X0_standing (i2 - (1 : Int32)) n_p3 v_p3) (fun (r_24 : Int32) => bd1 (f_X0_backSaying i1 r_22 r_24 s_t_villages) (fun (r_26 : Int32) => some (r_26)))) else some ((-9 : Int32))))))))
abbrev rmX0_saying : Room := { frames := 2, cells := 0, slots := 0, locals := 46 }
set_option maxHeartbeats 400000 in
set_option maxRecDepth 100000 in
theorem c_X0_saying (l : Launch) (D : va_G) (cI cB cJ : ClassId) (a_t : Nat) (a_t_village : Nat) (a_t_mark : Nat) (a_t_held : Nat) (a_p3 : Nat) (sz : Nat) (n_p3 : Nat) (s_t_heldCount : Int32) (s_t_villages : Int32) (v_p3 : (Nat → Int32)) (v_t_mark : (Nat → Int32)) (i1 : Int32) (i2 : Int32) (r : Int32) (hF : f_X0_saying i1 i2 n_p3 s_t_villages v_p3 v_t_mark = some r) : xMi l yX0_saying (.code yX0_saying cX0_saying 5 (some .int) :: xU) rmX0_saying (xK D cI cB cJ) D sz [.ref a_t, .int i1, .int i2, .ref a_p3] [(a_t, .inr (0, [.ref a_t_village, .ref a_t_mark, .ref a_t_held, .int s_t_heldCount, .int s_t_villages])), (a_p3, .inl (cI, n_p3, .inl v_p3)), (a_t_mark, .inl (cI, 24, .inl v_t_mark))] [(a_t, .inr (0, [.ref a_t_village, .ref a_t_mark, .ref a_t_held, .int s_t_heldCount, .int s_t_villages])), (a_p3, .inl (cI, n_p3, .inl v_p3)), (a_t_mark, .inl (cI, 24, .inl v_t_mark))] r := by
  refine xMi.mk (own := "FairNext$Book") (by decide +kernel) rfl (Nat.le_of_ble_eq_true rfl) ?_
  intro p e s m args below meth c A Q ls H hfix hK hP hD hA hS hl hEnd
  obtain ⟨hx, hb, hml, hown, hts⟩ := id hfix
  have hl : lv_has ls 5 [(0, .ref a_t), (1, .int i1), (2, .int i2), (3, .ref a_p3)] := hl
  rw [f_X0_saying] at hF
  refine lv_iload_n hx hb dX0_saying_0 rfl (lv_at hl 1 rfl) ?_
  refine xri0 (xrunN (As := [.int i1]) (rest := []) (c_X6_bOf l D cI cB cJ _ i1 (f_X6_bOf i1) rfl) hfix (hK.2 _ (List.mem_of_getElem? (i := 2) rfl)) ys_X6_bOf ⟨rfl, rfl⟩ ⟨(Nat.le_of_ble_eq_true rfl), (Nat.le_of_ble_eq_true rfl)⟩ xKk_K (fun U hU hW => xK.warm hW hK) hP hD [] rfl rfl rfl hl.1 rfl (Nat.le_of_ble_eq_true rfl) dX0_saying_1 ⟨Nat.zero_le _, Nat.zero_le _⟩) hP hD hS hA [] rfl rfl (fun H locs hP hD hS => ?_)
  refine lv_istore (lv' := [(4, .int (f_X6_bOf i1)), (0, .ref a_t), (1, .int i1), (2, .int i2), (3, .ref a_p3)]) hx hb dX0_saying_4 hl (by decide) rfl (fun ls hl => ?_)
  refine lv_iload_n hx hb dX0_saying_6 rfl (lv_at hl 2 rfl) ?_
  refine xri0 (xrunN (As := [.int i1]) (rest := []) (c_X6_kindOf l D cI cB cJ _ i1 (f_X6_kindOf i1) rfl) hfix (hK.2 _ (List.mem_of_getElem? (i := 3) rfl)) ys_X6_kindOf ⟨rfl, rfl⟩ ⟨(Nat.le_of_ble_eq_true rfl), (Nat.le_of_ble_eq_true rfl)⟩ xKk_K (fun U hU hW => xK.warm hW hK) hP hD [] rfl rfl rfl hl.1 rfl (Nat.le_of_ble_eq_true rfl) dX0_saying_7 ⟨Nat.zero_le _, Nat.zero_le _⟩) hP hD hS hA [] rfl rfl (fun H locs hP hD hS => ?_)
  by_cases c_1 : (f_X6_kindOf i1) = (0 : Int32)
  · replace hF := if_t c_1 hF
    refine lv_tableIn (off := 38) (tgt := 48) hx hb dX0_saying_10 (by rw [c_1]; decide) (by rw [c_1]; decide) (by rw [c_1]; decide) (by decide) ?_
    refine lv_iload hx hb dX0_saying_48 (lv_at hl 0 rfl) ?_
    refine lv_aload_n hx hb dX0_saying_50 rfl (lv_at hl 1 rfl) ?_
    refine xget (ci := 0) (C := RX0) (T := TX0) (N := 5) hfix xiX0 hK.1 hP 0 rfl rfl 4 (by decide) rfl xw_44 rfl dX0_saying_51 ?_
    obtain ⟨r_2, hq_3, hF⟩ := bd1_e hF
    refine xri0 (xrunN (As := [.int (f_X6_bOf i1), .int s_t_villages]) (rest := []) (c_X6_rest l D cI cB cJ _ (f_X6_bOf i1) s_t_villages r_2 hq_3) hfix (hK.2 _ (List.mem_of_getElem? (i := 4) rfl)) ys_X6_rest ⟨rfl, rfl⟩ ⟨(Nat.le_of_ble_eq_true rfl), (Nat.le_of_ble_eq_true rfl)⟩ xKk_K (fun U hU hW => xK.warm hW hK) hP hD [] rfl rfl rfl hl.1 rfl (Nat.le_of_ble_eq_true rfl) dX0_saying_54 ⟨Nat.zero_le _, Nat.zero_le _⟩) hP hD hS hA [] rfl rfl (fun H locs hP hD hS => ?_)
    obtain rfl := Option.some.inj hF
    exact hEnd _ _ _ _ _ dX0_saying_57 hP hS rfl
  · replace hF := if_f c_1 hF
    by_cases c_4 : (f_X6_kindOf i1) = (1 : Int32)
    · replace hF := if_t c_4 hF
      refine lv_tableIn (off := 48) (tgt := 58) hx hb dX0_saying_10 (by rw [c_4]; decide) (by rw [c_4]; decide) (by rw [c_4]; decide) (by decide) ?_
      refine lv_iload_n hx hb dX0_saying_58 rfl (lv_at hl 2 rfl) ?_
      refine xri0 (xrunN (As := [.int i1]) (rest := []) (c_X6_aOf l D cI cB cJ _ i1 (f_X6_aOf i1) rfl) hfix (hK.2 _ (List.mem_of_getElem? (i := 5) rfl)) ys_X6_aOf ⟨rfl, rfl⟩ ⟨(Nat.le_of_ble_eq_true rfl), (Nat.le_of_ble_eq_true rfl)⟩ xKk_K (fun U hU hW => xK.warm hW hK) hP hD [] rfl rfl rfl hl.1 rfl (Nat.le_of_ble_eq_true rfl) dX0_saying_59 ⟨Nat.zero_le _, Nat.zero_le _⟩) hP hD hS hA [] rfl rfl (fun H locs hP hD hS => ?_)
      refine lv_iload_n hx hb dX0_saying_62 rfl (lv_at hl 3 rfl) ?_
      refine lv_imul hx hb dX0_saying_63 ?_
      refine lv_iload hx hb dX0_saying_64 (lv_at hl 0 rfl) ?_
      refine lv_iadd hx hb dX0_saying_66 ?_
      refine lv_aload_n hx hb dX0_saying_67 rfl (lv_at hl 1 rfl) ?_
      refine xget (ci := 0) (C := RX0) (T := TX0) (N := 5) hfix xiX0 hK.1 hP 0 rfl rfl 4 (by decide) rfl xw_44 rfl dX0_saying_68 ?_
      obtain ⟨r_5, hq_6, hF⟩ := bd1_e hF
      refine xri0 (xrunN (As := [.int (((f_X6_aOf i1) * i2) + (f_X6_bOf i1)), .int s_t_villages]) (rest := []) (c_X6_rest l D cI cB cJ _ (((f_X6_aOf i1) * i2) + (f_X6_bOf i1)) s_t_villages r_5 hq_6) hfix (hK.2 _ (List.mem_of_getElem? (i := 4) rfl)) ys_X6_rest ⟨rfl, rfl⟩ ⟨(Nat.le_of_ble_eq_true rfl), (Nat.le_of_ble_eq_true rfl)⟩ xKk_K (fun U hU hW => xK.warm hW hK) hP hD [] rfl rfl rfl hl.1 rfl (Nat.le_of_ble_eq_true rfl) dX0_saying_71 ⟨Nat.zero_le _, Nat.zero_le _⟩) hP hD hS hA [] rfl rfl (fun H locs hP hD hS => ?_)
      obtain rfl := Option.some.inj hF
      exact hEnd _ _ _ _ _ dX0_saying_74 hP hS rfl
    · replace hF := if_f c_4 hF
      by_cases c_7 : (f_X6_kindOf i1) = (2 : Int32)
      · replace hF := if_t c_7 hF
        refine lv_tableIn (off := 110) (tgt := 120) hx hb dX0_saying_10 (by rw [c_7]; decide) (by rw [c_7]; decide) (by rw [c_7]; decide) (by decide) ?_
        refine lv_aload_n hx hb dX0_saying_120 rfl (lv_at hl 1 rfl) ?_
        refine lv_iload_n hx hb dX0_saying_121 rfl (lv_at hl 2 rfl) ?_
        refine lv_aload_n hx hb dX0_saying_122 rfl (lv_at hl 4 rfl) ?_
        refine lv_iload_n hx hb dX0_saying_123 rfl (lv_at hl 3 rfl) ?_
        refine lv_iload_n hx hb dX0_saying_124 rfl (lv_at hl 2 rfl) ?_
        refine xri0 (xrunN (As := [.int i1]) (rest := [.int i2, .ref a_p3, .int i1, .ref a_t]) (c_X6_kOf l D cI cB cJ _ i1 (f_X6_kOf i1) rfl) hfix (hK.2 _ (List.mem_of_getElem? (i := 6) rfl)) ys_X6_kOf ⟨rfl, rfl⟩ ⟨(Nat.le_of_ble_eq_true rfl), (Nat.le_of_ble_eq_true rfl)⟩ xKk_K (fun U hU hW => xK.warm hW hK) hP hD [] rfl rfl rfl hl.1 rfl (Nat.le_of_ble_eq_true rfl) dX0_saying_125 ⟨Nat.zero_le _, Nat.zero_le _⟩) hP hD hS hA [] rfl rfl (fun H locs hP hD hS => ?_)
        refine lv_isub hx hb dX0_saying_128 ?_
        obtain ⟨r_8, hq_9, hF⟩ := bd1_e hF
        refine xri0 (xrunS (As := [.ref a_p3, .int (i2 - (f_X6_kOf i1))]) (rest := [.int i1, .ref a_t]) (c_X0_standing l D cI cB cJ a_p3 _ n_p3 v_p3 (i2 - (f_X6_kOf i1)) r_8 hq_9) hfix xw_419 ys_X0_standing ⟨rfl, rfl⟩ ⟨(Nat.le_of_ble_eq_true rfl), (Nat.le_of_ble_eq_true rfl)⟩ xKk_K (fun U hU hW => xK.warm hW hK) hP hD [1] rfl rfl rfl hl.1 rfl (Nat.le_of_ble_eq_true rfl) dX0_saying_129 ⟨Nat.zero_le _, Nat.zero_le _⟩) hP hD hS hA [1] rfl rfl (fun H locs hP hD hS => ?_)
        refine lv_iconst (v := (0 : Int32)) hx hb dX0_saying_132 (by decide) ?_
        obtain ⟨r_10, hq_11, hF⟩ := bd1_e hF
        refine xri0 (xrunV (As := [.int i1, .int r_8, .int (0 : Int32)]) (rest := []) (c_X0_backSaying l D cI cB cJ a_t a_t_village a_t_mark a_t_held _ s_t_heldCount s_t_villages i1 r_8 (0 : Int32) r_10 hq_11) hfix xw_422 yv_X0_backSaying ⟨rfl, rfl⟩ ⟨(Nat.le_of_ble_eq_true rfl), (Nat.le_of_ble_eq_true rfl)⟩ xKk_K (fun U hU hW => xK.warm hW hK) hK.1 hP hD [0] rfl rfl 0 0 rfl rfl rfl rfl hl.1 rfl (Nat.le_of_ble_eq_true rfl) dX0_saying_133 ⟨Nat.zero_le _, Nat.zero_le _⟩) hP hD hS hA [0] rfl rfl (fun H locs hP hD hS => ?_)
        obtain rfl := Option.some.inj hF
        exact hEnd _ _ _ _ _ dX0_saying_136 hP hS rfl
      · replace hF := if_f c_7 hF
        by_cases c_12 : (f_X6_kindOf i1) = (3 : Int32)
        · replace hF := if_t c_12 hF
          refine lv_tableIn (off := 99) (tgt := 109) hx hb dX0_saying_10 (by rw [c_12]; decide) (by rw [c_12]; decide) (by rw [c_12]; decide) (by decide) ?_
          refine lv_aload_n hx hb dX0_saying_109 rfl (lv_at hl 1 rfl) ?_
          refine lv_iload_n hx hb dX0_saying_110 rfl (lv_at hl 3 rfl) ?_
          refine lv_iload_n hx hb dX0_saying_111 rfl (lv_at hl 2 rfl) ?_
          refine xri0 (xrunN (As := [.int i1]) (rest := [.int i2, .ref a_t]) (c_X6_kOf l D cI cB cJ _ i1 (f_X6_kOf i1) rfl) hfix (hK.2 _ (List.mem_of_getElem? (i := 6) rfl)) ys_X6_kOf ⟨rfl, rfl⟩ ⟨(Nat.le_of_ble_eq_true rfl), (Nat.le_of_ble_eq_true rfl)⟩ xKk_K (fun U hU hW => xK.warm hW hK) hP hD [] rfl rfl rfl hl.1 rfl (Nat.le_of_ble_eq_true rfl) dX0_saying_112 ⟨Nat.zero_le _, Nat.zero_le _⟩) hP hD hS hA [] rfl rfl (fun H locs hP hD hS => ?_)
          refine lv_aload_n hx hb dX0_saying_115 rfl (lv_at hl 4 rfl) ?_
          obtain ⟨r_13, hq_14, hF⟩ := bd1_e hF
          refine xri0 (xrunV (As := [.int i2, .int (f_X6_kOf i1), .ref a_p3]) (rest := []) (c_X0_tableSaying l D cI cB cJ a_t a_t_village a_t_mark a_t_held a_p3 _ n_p3 s_t_heldCount s_t_villages v_p3 i2 (f_X6_kOf i1) r_13 hq_14) hfix xw_415 yv_X0_tableSaying ⟨rfl, rfl⟩ ⟨(Nat.le_of_ble_eq_true rfl), (Nat.le_of_ble_eq_true rfl)⟩ xKk_K (fun U hU hW => xK.warm hW hK) hK.1 hP hD [0, 1] rfl rfl 0 0 rfl rfl rfl rfl hl.1 rfl (Nat.le_of_ble_eq_true rfl) dX0_saying_116 ⟨Nat.zero_le _, Nat.zero_le _⟩) hP hD hS hA [0, 1] rfl rfl (fun H locs hP hD hS => ?_)
          obtain rfl := Option.some.inj hF
          exact hEnd _ _ _ _ _ dX0_saying_119 hP hS rfl
        · replace hF := if_f c_12 hF
          by_cases c_15 : (f_X6_kindOf i1) = (4 : Int32)
          · replace hF := if_t c_15 hF
            refine lv_tableIn (off := 65) (tgt := 75) hx hb dX0_saying_10 (by rw [c_15]; decide) (by rw [c_15]; decide) (by rw [c_15]; decide) (by decide) ?_
            refine lv_iload_n hx hb dX0_saying_75 rfl (lv_at hl 2 rfl) ?_
            refine xri0 (xrunN (As := [.int i1]) (rest := []) (c_X6_aOf l D cI cB cJ _ i1 (f_X6_aOf i1) rfl) hfix (hK.2 _ (List.mem_of_getElem? (i := 5) rfl)) ys_X6_aOf ⟨rfl, rfl⟩ ⟨(Nat.le_of_ble_eq_true rfl), (Nat.le_of_ble_eq_true rfl)⟩ xKk_K (fun U hU hW => xK.warm hW hK) hP hD [] rfl rfl rfl hl.1 rfl (Nat.le_of_ble_eq_true rfl) dX0_saying_76 ⟨Nat.zero_le _, Nat.zero_le _⟩) hP hD hS hA [] rfl rfl (fun H locs hP hD hS => ?_)
            refine lv_iload_n hx hb dX0_saying_79 rfl (lv_at hl 3 rfl) ?_
            refine lv_imul hx hb dX0_saying_80 ?_
            refine lv_iload hx hb dX0_saying_81 (lv_at hl 0 rfl) ?_
            refine lv_iadd hx hb dX0_saying_83 ?_
            refine lv_iload_n hx hb dX0_saying_84 rfl (lv_at hl 3 rfl) ?_
            refine lv_bipush (v := (24 : Int32)) hx hb dX0_saying_85 (by decide) ?_
            obtain ⟨j_16, hJ, hF⟩ := bd1_e hF
            have hN_100_16 : ∀ (H : Heap) (locs : List Loc) (ls : Array Slot), va_P D vwCl [(a_t, .inr (0, [.ref a_t_village, .ref a_t_mark, .ref a_t_held, .int s_t_heldCount, .int s_t_villages])), (a_p3, .inl (cI, n_p3, .inl v_p3)), (a_t_mark, .inl (cI, 24, .inl v_t_mark))] H → va_D A [(a_t, .inr (0, [.ref a_t_village, .ref a_t_mark, .ref a_t_held, .int s_t_heldCount, .int s_t_villages])), (a_p3, .inl (cI, n_p3, .inl v_p3)), (a_t_mark, .inl (cI, 24, .inl v_t_mark))] → va_S A s.heap H locs → lv_has ls 5 [(0, .ref a_t)] → W p l e rmX0_saying s m args below meth c H locs 0 0 Q (F0 m 100 ls [.int j_16, .int (((f_X6_aOf i1) * i2) + (f_X6_bOf i1))]) := by
              intro H locs ls hP hD hS hl
              refine lv_iadd hx hb dX0_saying_100 ?_
              refine lv_aload_n hx hb dX0_saying_101 rfl (lv_at hl 0 rfl) ?_
              refine xget (ci := 0) (C := RX0) (T := TX0) (N := 5) hfix xiX0 hK.1 hP 0 rfl rfl 4 (by decide) rfl xw_44 rfl dX0_saying_102 ?_
              obtain ⟨r_17, hq_18, hF⟩ := bd1_e hF
              refine xri0 (xrunN (As := [.int ((((f_X6_aOf i1) * i2) + (f_X6_bOf i1)) + j_16), .int s_t_villages]) (rest := []) (c_X6_rest l D cI cB cJ _ ((((f_X6_aOf i1) * i2) + (f_X6_bOf i1)) + j_16) s_t_villages r_17 hq_18) hfix (hK.2 _ (List.mem_of_getElem? (i := 4) rfl)) ys_X6_rest ⟨rfl, rfl⟩ ⟨(Nat.le_of_ble_eq_true rfl), (Nat.le_of_ble_eq_true rfl)⟩ xKk_K (fun U hU hW => xK.warm hW hK) hP hD [] rfl rfl rfl hl.1 rfl (Nat.le_of_ble_eq_true rfl) dX0_saying_105 ⟨Nat.zero_le _, Nat.zero_le _⟩) hP hD hS hA [] rfl rfl (fun H locs hP hD hS => ?_)
              obtain rfl := Option.some.inj hF
              exact hEnd _ _ _ _ _ dX0_saying_108 hP hS rfl
            replace hF := hJ
            refine lv_icmp_ge (tgt := 99) hx hb dX0_saying_87 (by decide) (fun c_19 => ?_) (fun c_19 => ?_)
            · replace hF := if_t c_19 hF
              refine lv_iconst (v := (0 : Int32)) hx hb dX0_saying_99 (by decide) ?_
              obtain rfl := Option.some.inj hF
              exact hN_100_16 _ _ _ hP hD hS (lv_sub hl [1] rfl)
            · replace hF := if_f c_19 hF
              refine lv_aload_n hx hb dX0_saying_90 rfl (lv_at hl 1 rfl) ?_
              refine xget (ci := 0) (C := RX0) (T := TX0) (N := 5) hfix xiX0 hK.1 hP 0 rfl rfl 1 (by decide) rfl xw_36 rfl dX0_saying_91 ?_
              refine lv_iload_n hx hb dX0_saying_94 rfl (lv_at hl 3 rfl) ?_
              obtain ⟨c_20, hF⟩ := gd_e hF
              refine va_iald hx hb hK.1 hP 2 0 rfl rfl c_20 dX0_saying_95 ?_
              refine lv_goto (tgt := 100) hx hb dX0_saying_96 (by decide) ?_
              obtain rfl := Option.some.inj hF
              exact hN_100_16 _ _ _ hP hD hS (lv_sub hl [1] rfl)
          · replace hF := if_f c_15 hF
            by_cases c_21 : (f_X6_kindOf i1) = (5 : Int32)
            · replace hF := if_t c_21 hF
              refine lv_tableIn (off := 127) (tgt := 137) hx hb dX0_saying_10 (by rw [c_21]; decide) (by rw [c_21]; decide) (by rw [c_21]; decide) (by decide) ?_
              refine lv_aload_n hx hb dX0_saying_137 rfl (lv_at hl 1 rfl) ?_
              refine lv_iload_n hx hb dX0_saying_138 rfl (lv_at hl 2 rfl) ?_
              refine lv_aload_n hx hb dX0_saying_139 rfl (lv_at hl 4 rfl) ?_
              refine lv_iload_n hx hb dX0_saying_140 rfl (lv_at hl 3 rfl) ?_
              refine lv_iload_n hx hb dX0_saying_141 rfl (lv_at hl 2 rfl) ?_
              refine xri0 (xrunN (As := [.int i1]) (rest := [.int i2, .ref a_p3, .int i1, .ref a_t]) (c_X6_kOf l D cI cB cJ _ i1 (f_X6_kOf i1) rfl) hfix (hK.2 _ (List.mem_of_getElem? (i := 6) rfl)) ys_X6_kOf ⟨rfl, rfl⟩ ⟨(Nat.le_of_ble_eq_true rfl), (Nat.le_of_ble_eq_true rfl)⟩ xKk_K (fun U hU hW => xK.warm hW hK) hP hD [] rfl rfl rfl hl.1 rfl (Nat.le_of_ble_eq_true rfl) dX0_saying_142 ⟨Nat.zero_le _, Nat.zero_le _⟩) hP hD hS hA [] rfl rfl (fun H locs hP hD hS => ?_)
              refine lv_isub hx hb dX0_saying_145 ?_
              obtain ⟨r_22, hq_23, hF⟩ := bd1_e hF
              refine xri0 (xrunS (As := [.ref a_p3, .int (i2 - (f_X6_kOf i1))]) (rest := [.int i1, .ref a_t]) (c_X0_standing l D cI cB cJ a_p3 _ n_p3 v_p3 (i2 - (f_X6_kOf i1)) r_22 hq_23) hfix xw_419 ys_X0_standing ⟨rfl, rfl⟩ ⟨(Nat.le_of_ble_eq_true rfl), (Nat.le_of_ble_eq_true rfl)⟩ xKk_K (fun U hU hW => xK.warm hW hK) hP hD [1] rfl rfl rfl hl.1 rfl (Nat.le_of_ble_eq_true rfl) dX0_saying_146 ⟨Nat.zero_le _, Nat.zero_le _⟩) hP hD hS hA [1] rfl rfl (fun H locs hP hD hS => ?_)
              refine lv_aload_n hx hb dX0_saying_149 rfl (lv_at hl 4 rfl) ?_
              refine lv_iload_n hx hb dX0_saying_150 rfl (lv_at hl 3 rfl) ?_
              refine lv_iconst (v := (1 : Int32)) hx hb dX0_saying_151 (by decide) ?_
              refine lv_isub hx hb dX0_saying_152 ?_
              obtain ⟨r_24, hq_25, hF⟩ := bd1_e hF
              refine xri0 (xrunS (As := [.ref a_p3, .int (i2 - (1 : Int32))]) (rest := [.int r_22, .int i1, .ref a_t]) (c_X0_standing l D cI cB cJ a_p3 _ n_p3 v_p3 (i2 - (1 : Int32)) r_24 hq_25) hfix xw_419 ys_X0_standing ⟨rfl, rfl⟩ ⟨(Nat.le_of_ble_eq_true rfl), (Nat.le_of_ble_eq_true rfl)⟩ xKk_K (fun U hU hW => xK.warm hW hK) hP hD [1] rfl rfl rfl hl.1 rfl (Nat.le_of_ble_eq_true rfl) dX0_saying_153 ⟨Nat.zero_le _, Nat.zero_le _⟩) hP hD hS hA [1] rfl rfl (fun H locs hP hD hS => ?_)
              obtain ⟨r_26, hq_27, hF⟩ := bd1_e hF
              refine xri0 (xrunV (As := [.int i1, .int r_22, .int r_24]) (rest := []) (c_X0_backSaying l D cI cB cJ a_t a_t_village a_t_mark a_t_held _ s_t_heldCount s_t_villages i1 r_22 r_24 r_26 hq_27) hfix xw_422 yv_X0_backSaying ⟨rfl, rfl⟩ ⟨(Nat.le_of_ble_eq_true rfl), (Nat.le_of_ble_eq_true rfl)⟩ xKk_K (fun U hU hW => xK.warm hW hK) hK.1 hP hD [0] rfl rfl 0 0 rfl rfl rfl rfl hl.1 rfl (Nat.le_of_ble_eq_true rfl) dX0_saying_156 ⟨Nat.zero_le _, Nat.zero_le _⟩) hP hD hS hA [0] rfl rfl (fun H locs hP hD hS => ?_)
              obtain rfl := Option.some.inj hF
              exact hEnd _ _ _ _ _ dX0_saying_159 hP hS rfl
            · replace hF := if_f c_21 hF
              have hsw : ((f_X6_kindOf i1)).toInt < 0 ∨ 5 < ((f_X6_kindOf i1)).toInt := by
                have z0 := lv_neT c_1 (a := 0) (by decide)
                have z1 := lv_neT c_4 (a := 1) (by decide)
                have z2 := lv_neT c_7 (a := 2) (by decide)
                have z3 := lv_neT c_12 (a := 3) (by decide)
                have z4 := lv_neT c_15 (a := 4) (by decide)
                have z5 := lv_neT c_21 (a := 5) (by decide)
                omega
              refine lv_tableOut (tgt := 160) hx hb dX0_saying_10 hsw (by decide) ?_
              refine lv_bipush (v := (-9 : Int32)) hx hb dX0_saying_160 (by decide) ?_
              obtain rfl := Option.some.inj hF
              exact hEnd _ _ _ _ _ dX0_saying_162 hP hS rfl
def f_X0_misses_L5 (i2 : Int32) (v_t_village : (Nat → Int32)) (i1 : Int32) (s_t_villages : Int32) (v_t_mark : (Nat → Int32)) : Nat → Int32 → Int32 → Option (Int32)
  | 0, _, _ => none
  | n + 1, x3_1, x4_2 => (if (24 : Int32) ≤ x4_2 then some (x3_1) else (if i2 < x3_1 then some (x3_1) else gd x4_2 24 ((if (v_t_village x4_2.toNatClampNeg) = (-9 : Int32) then f_X0_misses_L5 i2 v_t_village i1 s_t_villages v_t_mark n x3_1 (x4_2 + (1 : Int32)) else bd1 (f_X0_saying i1 x4_2 24 s_t_villages v_t_village v_t_mark) (fun (r_8 : Int32) => gd x4_2 24 ((if r_8 = (v_t_village x4_2.toNatClampNeg) then f_X0_misses_L5 i2 v_t_village i1 s_t_villages v_t_mark n x3_1 (x4_2 + (1 : Int32)) else f_X0_misses_L5 i2 v_t_village i1 s_t_villages v_t_mark n (x3_1 + (1 : Int32)) (x4_2 + (1 : Int32)))))))))
def f_X0_misses (i1 : Int32) (i2 : Int32) (s_t_villages : Int32) (v_t_village : (Nat → Int32)) (v_t_mark : (Nat → Int32)) : Option (Int32) := bd1 (f_X0_misses_L5 i2 v_t_village i1 s_t_villages v_t_mark 1000 (0 : Int32) (0 : Int32)) (fun (y3_3 : Int32) => some (y3_3))
abbrev rmX0_misses : Room := { frames := 3, cells := 0, slots := 0, locals := 70 }
set_option maxHeartbeats 400000 in
set_option maxRecDepth 100000 in
theorem c_X0_misses (l : Launch) (D : va_G) (cI cB cJ : ClassId) (a_t : Nat) (a_t_village : Nat) (a_t_mark : Nat) (a_t_held : Nat) (sz : Nat) (s_t_heldCount : Int32) (s_t_villages : Int32) (v_t_village : (Nat → Int32)) (v_t_mark : (Nat → Int32)) (i1 : Int32) (i2 : Int32) (r : Int32) (hF : f_X0_misses i1 i2 s_t_villages v_t_village v_t_mark = some r) : xMi l yX0_misses (.code yX0_misses cX0_misses 5 (some .int) :: xU) rmX0_misses (xK D cI cB cJ) D sz [.ref a_t, .int i1, .int i2] [(a_t, .inr (0, [.ref a_t_village, .ref a_t_mark, .ref a_t_held, .int s_t_heldCount, .int s_t_villages])), (a_t_village, .inl (cI, 24, .inl v_t_village)), (a_t_mark, .inl (cI, 24, .inl v_t_mark))] [(a_t, .inr (0, [.ref a_t_village, .ref a_t_mark, .ref a_t_held, .int s_t_heldCount, .int s_t_villages])), (a_t_village, .inl (cI, 24, .inl v_t_village)), (a_t_mark, .inl (cI, 24, .inl v_t_mark))] r := by
  refine xMi.mk (own := "FairNext$Book") (by decide +kernel) rfl (Nat.le_of_ble_eq_true rfl) ?_
  intro p e s m args below meth c A Q ls H hfix hK hP hD hA hS hl hEnd
  obtain ⟨hx, hb, hml, hown, hts⟩ := id hfix
  have hl : lv_has ls 5 [(0, .ref a_t), (1, .int i1), (2, .int i2)] := hl
  rw [f_X0_misses] at hF
  refine lv_iconst (v := (0 : Int32)) hx hb dX0_misses_0 (by decide) ?_
  refine lv_istore_n (lv' := [(3, .int (0 : Int32)), (0, .ref a_t), (1, .int i1), (2, .int i2)]) hx hb dX0_misses_1 rfl hl (by decide) rfl (fun ls hl => ?_)
  refine lv_iconst (v := (0 : Int32)) hx hb dX0_misses_2 (by decide) ?_
  refine lv_istore (lv' := [(4, .int (0 : Int32)), (3, .int (0 : Int32)), (0, .ref a_t), (1, .int i1), (2, .int i2)]) hx hb dX0_misses_3 hl (by decide) rfl (fun ls hl => ?_)
  have hL_5 : ∀ (n : Nat) (x3_1 : Int32) (x4_2 : Int32) (y3_3 : Int32), f_X0_misses_L5 i2 v_t_village i1 s_t_villages v_t_mark n x3_1 x4_2 = some y3_3 → ∀ (H : Heap) (locs : List Loc) (ls : Array Slot), va_P D vwCl [(a_t, .inr (0, [.ref a_t_village, .ref a_t_mark, .ref a_t_held, .int s_t_heldCount, .int s_t_villages])), (a_t_village, .inl (cI, 24, .inl v_t_village)), (a_t_mark, .inl (cI, 24, .inl v_t_mark))] H → va_D A [(a_t, .inr (0, [.ref a_t_village, .ref a_t_mark, .ref a_t_held, .int s_t_heldCount, .int s_t_villages])), (a_t_village, .inl (cI, 24, .inl v_t_village)), (a_t_mark, .inl (cI, 24, .inl v_t_mark))] → va_S A s.heap H locs → lv_has ls 5 [(0, .ref a_t), (1, .int i1), (2, .int i2), (3, .int x3_1), (4, .int x4_2)] → (∀ (H : Heap) (locs : List Loc) (ls : Array Slot), va_P D vwCl [(a_t, .inr (0, [.ref a_t_village, .ref a_t_mark, .ref a_t_held, .int s_t_heldCount, .int s_t_villages])), (a_t_village, .inl (cI, 24, .inl v_t_village)), (a_t_mark, .inl (cI, 24, .inl v_t_mark))] H → va_D A [(a_t, .inr (0, [.ref a_t_village, .ref a_t_mark, .ref a_t_held, .int s_t_heldCount, .int s_t_villages])), (a_t_village, .inl (cI, 24, .inl v_t_village)), (a_t_mark, .inl (cI, 24, .inl v_t_mark))] → va_S A s.heap H locs → lv_has ls 5 [(3, .int y3_3)] → W p l e rmX0_misses s m args below meth c H locs 0 0 Q (F0 m 59 ls [])) → W p l e rmX0_misses s m args below meth c H locs 0 0 Q (F0 m 5 ls []) := by
    intro n
    induction n with
    | zero => intro x3_1 x4_2 y3_3 hF; exact (no_some hF).elim
    | succ n ih =>
      intro x3_1 x4_2 y3_3 hF H locs ls hP hD hS hl kexit
      rw [f_X0_misses_L5] at hF
      refine lv_iload hx hb dX0_misses_5 (lv_at hl 4 rfl) ?_
      refine lv_bipush (v := (24 : Int32)) hx hb dX0_misses_7 (by decide) ?_
      refine lv_icmp_ge (tgt := 59) hx hb dX0_misses_9 (by decide) (fun c_4 => ?_) (fun c_4 => ?_)
      · replace hF := if_t c_4 hF
        obtain rfl := Option.some.inj hF
        exact kexit _ _ _ hP hD hS (lv_sub hl [3] rfl)
      · replace hF := if_f c_4 hF
        refine lv_iload_n hx hb dX0_misses_12 rfl (lv_at hl 3 rfl) ?_
        refine lv_iload_n hx hb dX0_misses_13 rfl (lv_at hl 2 rfl) ?_
        refine lv_icmp_gt (tgt := 59) hx hb dX0_misses_14 (by decide) (fun c_5 => ?_) (fun c_5 => ?_)
        · replace hF := if_t c_5 hF
          obtain rfl := Option.some.inj hF
          exact kexit _ _ _ hP hD hS (lv_sub hl [3] rfl)
        · replace hF := if_f c_5 hF
          refine lv_aload_n hx hb dX0_misses_17 rfl (lv_at hl 0 rfl) ?_
          refine xget (ci := 0) (C := RX0) (T := TX0) (N := 5) hfix xiX0 hK.1 hP 0 rfl rfl 0 (by decide) rfl xw_33 rfl dX0_misses_18 ?_
          refine lv_iload hx hb dX0_misses_21 (lv_at hl 4 rfl) ?_
          obtain ⟨c_6, hF⟩ := gd_e hF
          refine va_iald hx hb hK.1 hP 1 0 rfl rfl c_6 dX0_misses_23 ?_
          refine lv_bipush (v := (-9 : Int32)) hx hb dX0_misses_24 (by decide) ?_
          refine lv_icmp_eq (tgt := 53) hx hb dX0_misses_26 (by decide) (fun c_7 => ?_) (fun c_7 => ?_)
          · replace hF := if_t c_7 hF
            refine lv_iinc (v := (x4_2 + (1 : Int32))) (lv' := [(4, .int (x4_2 + (1 : Int32))), (0, .ref a_t), (1, .int i1), (2, .int i2), (3, .int x3_1)]) hx hb dX0_misses_53 hl (k := 4) rfl rfl (by decide) rfl (fun ls hl => ?_)
            refine lv_goto (tgt := 5) hx hb dX0_misses_56 (by decide) ?_
            exact ih _ _ _ hF _ _ _ hP hD hS (lv_sub hl [1, 2, 3, 4, 0] rfl) kexit
          · replace hF := if_f c_7 hF
            refine lv_aload_n hx hb dX0_misses_29 rfl (lv_at hl 0 rfl) ?_
            refine lv_iload_n hx hb dX0_misses_30 rfl (lv_at hl 1 rfl) ?_
            refine lv_iload hx hb dX0_misses_31 (lv_at hl 4 rfl) ?_
            refine lv_aload_n hx hb dX0_misses_33 rfl (lv_at hl 0 rfl) ?_
            refine xget (ci := 0) (C := RX0) (T := TX0) (N := 5) hfix xiX0 hK.1 hP 0 rfl rfl 0 (by decide) rfl xw_33 rfl dX0_misses_34 ?_
            obtain ⟨r_8, hq_9, hF⟩ := bd1_e hF
            refine xri0 (xrunV (As := [.int i1, .int x4_2, .ref a_t_village]) (rest := []) (c_X0_saying l D cI cB cJ a_t a_t_village a_t_mark a_t_held a_t_village _ 24 s_t_heldCount s_t_villages v_t_village v_t_mark i1 x4_2 r_8 hq_9) hfix xw_404 yv_X0_saying ⟨rfl, rfl⟩ ⟨(Nat.le_of_ble_eq_true rfl), (Nat.le_of_ble_eq_true rfl)⟩ xKk_K (fun U hU hW => xK.warm hW hK) hK.1 hP hD [0, 1, 2] rfl rfl 0 0 rfl rfl rfl rfl hl.1 rfl (Nat.le_of_ble_eq_true rfl) dX0_misses_37 ⟨Nat.zero_le _, Nat.zero_le _⟩) hP hD hS hA [0, 1, 2] rfl rfl (fun H locs hP hD hS => ?_)
            refine lv_aload_n hx hb dX0_misses_40 rfl (lv_at hl 0 rfl) ?_
            refine xget (ci := 0) (C := RX0) (T := TX0) (N := 5) hfix xiX0 hK.1 hP 0 rfl rfl 0 (by decide) rfl xw_33 rfl dX0_misses_41 ?_
            refine lv_iload hx hb dX0_misses_44 (lv_at hl 4 rfl) ?_
            obtain ⟨c_10, hF⟩ := gd_e hF
            refine va_iald hx hb hK.1 hP 1 0 rfl rfl c_10 dX0_misses_46 ?_
            refine lv_icmp_eq (tgt := 53) hx hb dX0_misses_47 (by decide) (fun c_11 => ?_) (fun c_11 => ?_)
            · replace hF := if_t c_11 hF
              refine lv_iinc (v := (x4_2 + (1 : Int32))) (lv' := [(4, .int (x4_2 + (1 : Int32))), (0, .ref a_t), (1, .int i1), (2, .int i2), (3, .int x3_1)]) hx hb dX0_misses_53 hl (k := 4) rfl rfl (by decide) rfl (fun ls hl => ?_)
              refine lv_goto (tgt := 5) hx hb dX0_misses_56 (by decide) ?_
              exact ih _ _ _ hF _ _ _ hP hD hS (lv_sub hl [1, 2, 3, 4, 0] rfl) kexit
            · replace hF := if_f c_11 hF
              refine lv_iinc (v := (x3_1 + (1 : Int32))) (lv' := [(3, .int (x3_1 + (1 : Int32))), (0, .ref a_t), (1, .int i1), (2, .int i2), (4, .int x4_2)]) hx hb dX0_misses_50 hl (k := 3) rfl rfl (by decide) rfl (fun ls hl => ?_)
              refine lv_iinc (v := (x4_2 + (1 : Int32))) (lv' := [(4, .int (x4_2 + (1 : Int32))), (3, .int (x3_1 + (1 : Int32))), (0, .ref a_t), (1, .int i1), (2, .int i2)]) hx hb dX0_misses_53 hl (k := 4) rfl rfl (by decide) rfl (fun ls hl => ?_)
              refine lv_goto (tgt := 5) hx hb dX0_misses_56 (by decide) ?_
              exact ih _ _ _ hF _ _ _ hP hD hS (lv_sub hl [2, 3, 4, 1, 0] rfl) kexit
  obtain ⟨y3_3, hq, hF⟩ := bd1_e hF
  refine hL_5 _ _ _ _ hq _ _ _ hP hD hS (lv_sub hl [2, 3, 4, 1, 0] rfl) (fun H locs ls hP hD hS hl => ?_)
  refine lv_iload_n hx hb dX0_misses_59 rfl (lv_at hl 0 rfl) ?_
  obtain rfl := Option.some.inj hF
  exact hEnd _ _ _ _ _ dX0_misses_60 hP hS rfl
def f_X0_fitting (i1 : Int32) (i2 : Int32) (s_t_villages : Int32) (v_t_village : (Nat → Int32)) (v_t_mark : (Nat → Int32)) : Option (Int32) := bd1 (f_X0_misses i1 i2 s_t_villages v_t_village v_t_mark) (fun (r_1 : Int32) => (if i2 < r_1 then some ((0 : Int32)) else some ((1 : Int32))))
abbrev rmX0_fitting : Room := { frames := 4, cells := 0, slots := 0, locals := 94 }
set_option maxHeartbeats 400000 in
set_option maxRecDepth 100000 in
theorem c_X0_fitting (l : Launch) (D : va_G) (cI cB cJ : ClassId) (a_t : Nat) (a_t_village : Nat) (a_t_mark : Nat) (a_t_held : Nat) (sz : Nat) (s_t_heldCount : Int32) (s_t_villages : Int32) (v_t_village : (Nat → Int32)) (v_t_mark : (Nat → Int32)) (i1 : Int32) (i2 : Int32) (r : Int32) (hF : f_X0_fitting i1 i2 s_t_villages v_t_village v_t_mark = some r) : xMz l yX0_fitting (.code yX0_fitting cX0_fitting 3 (some .boolean) :: xU) rmX0_fitting (xK D cI cB cJ) D sz [.ref a_t, .int i1, .int i2] [(a_t, .inr (0, [.ref a_t_village, .ref a_t_mark, .ref a_t_held, .int s_t_heldCount, .int s_t_villages])), (a_t_village, .inl (cI, 24, .inl v_t_village)), (a_t_mark, .inl (cI, 24, .inl v_t_mark))] [(a_t, .inr (0, [.ref a_t_village, .ref a_t_mark, .ref a_t_held, .int s_t_heldCount, .int s_t_villages])), (a_t_village, .inl (cI, 24, .inl v_t_village)), (a_t_mark, .inl (cI, 24, .inl v_t_mark))] r := by
  refine xMz.mk (own := "FairNext$Book") (by decide +kernel) rfl (Nat.le_of_ble_eq_true rfl) ?_
  intro p e s m args below meth c A Q ls H hfix hK hP hD hA hS hl hEnd
  obtain ⟨hx, hb, hml, hown, hts⟩ := id hfix
  have hl : lv_has ls 3 [(0, .ref a_t), (1, .int i1), (2, .int i2)] := hl
  rw [f_X0_fitting] at hF
  refine lv_aload_n hx hb dX0_fitting_0 rfl (lv_at hl 0 rfl) ?_
  refine lv_iload_n hx hb dX0_fitting_1 rfl (lv_at hl 1 rfl) ?_
  refine lv_iload_n hx hb dX0_fitting_2 rfl (lv_at hl 2 rfl) ?_
  obtain ⟨r_1, hq_2, hF⟩ := bd1_e hF
  refine xri0 (xrunV (As := [.int i1, .int i2]) (rest := []) (c_X0_misses l D cI cB cJ a_t a_t_village a_t_mark a_t_held _ s_t_heldCount s_t_villages v_t_village v_t_mark i1 i2 r_1 hq_2) hfix xw_487 yv_X0_misses ⟨rfl, rfl⟩ ⟨(Nat.le_of_ble_eq_true rfl), (Nat.le_of_ble_eq_true rfl)⟩ xKk_K (fun U hU hW => xK.warm hW hK) hK.1 hP hD [0, 1, 2] rfl rfl 0 0 rfl rfl rfl rfl hl.1 rfl (Nat.le_of_ble_eq_true rfl) dX0_fitting_3 ⟨Nat.zero_le _, Nat.zero_le _⟩) hP hD hS hA [0, 1, 2] rfl rfl (fun H locs hP hD hS => ?_)
  refine lv_iload_n hx hb dX0_fitting_6 rfl (lv_at hl 2 rfl) ?_
  refine lv_icmp_gt (tgt := 14) hx hb dX0_fitting_7 (by decide) (fun c_3 => ?_) (fun c_3 => ?_)
  · replace hF := if_t c_3 hF
    refine lv_iconst (v := (0 : Int32)) hx hb dX0_fitting_14 (by decide) ?_
    obtain rfl := Option.some.inj hF
    exact hEnd _ _ _ _ _ dX0_fitting_15 hP hS x01_0 rfl
  · replace hF := if_f c_3 hF
    refine lv_iconst (v := (1 : Int32)) hx hb dX0_fitting_10 (by decide) ?_
    refine lv_goto (tgt := 15) hx hb dX0_fitting_11 (by decide) ?_
    obtain rfl := Option.some.inj hF
    exact hEnd _ _ _ _ _ dX0_fitting_15 hP hS x01_1 rfl
def f_X6_wordsOf (i1 : Int32) : Int32 := lt1 ((if (f_X6_aOf i1) = (0 : Int32) then ((0 : Int32)) else ((1 : Int32)))) (fun (j_1 : Int32) => lt1 ((if (f_X6_bOf i1) = (0 : Int32) then ((0 : Int32)) else ((1 : Int32)))) (fun (j_3 : Int32) => (if (f_X6_kOf i1) = (1 : Int32) then (((((1 : Int32) + j_1) + j_3) + (0 : Int32))) else (((((1 : Int32) + j_1) + j_3) + (1 : Int32))))))
abbrev rmX6_wordsOf : Room := { frames := 1, cells := 0, slots := 0, locals := 20 }
set_option maxHeartbeats 400000 in
set_option maxRecDepth 100000 in
theorem c_X6_wordsOf (l : Launch) (D : va_G) (cI cB cJ : ClassId) (sz : Nat) (i1 : Int32) (r : Int32) (hF : f_X6_wordsOf i1 = r) : xMi l yX6_wordsOf (.code yX6_wordsOf cX6_wordsOf 1 (some .int) :: xU) rmX6_wordsOf (xK D cI cB cJ) D sz [.int i1] [] [] r := by
  refine xMi.mk (own := "FairNext") (by decide +kernel) rfl (Nat.le_of_ble_eq_true rfl) ?_
  intro p e s m args below meth c A Q ls H hfix hK hP hD hA hS hl hEnd
  obtain ⟨hx, hb, hml, hown, hts⟩ := id hfix
  have hl : lv_has ls 1 [(0, .int i1)] := hl
  rw [f_X6_wordsOf] at hF
  refine lv_iconst (v := (1 : Int32)) hx hb dX6_wordsOf_0 (by decide) ?_
  refine lv_iload_n hx hb dX6_wordsOf_1 rfl (lv_at hl 0 rfl) ?_
  refine xri0 (xrunS (As := [.int i1]) (rest := [.int (1 : Int32)]) (c_X6_aOf l D cI cB cJ _ i1 (f_X6_aOf i1) rfl) hfix xw_388 ys_X6_aOf ⟨rfl, rfl⟩ ⟨(Nat.le_of_ble_eq_true rfl), (Nat.le_of_ble_eq_true rfl)⟩ xKk_K (fun U hU hW => xK.warm hW hK) hP hD [] rfl rfl rfl hl.1 rfl (Nat.le_of_ble_eq_true rfl) dX6_wordsOf_2 ⟨Nat.zero_le _, Nat.zero_le _⟩) hP hD hS hA [] rfl rfl (fun H locs hP hD hS => ?_)
  obtain ⟨j_1, hJ, hF⟩ := lt1_e hF
  have hN_13_2 : x01 j_1 → ∀ (H : Heap) (locs : List Loc) (ls : Array Slot), va_P D vwCl [] H → va_D A [] → va_S A s.heap H locs → lv_has ls 1 [(0, .int i1)] → W p l e rmX6_wordsOf s m args below meth c H locs 0 0 Q (F0 m 13 ls [.int j_1, .int (1 : Int32)]) := by
    intro h01_2 H locs ls hP hD hS hl
    refine lv_iadd hx hb dX6_wordsOf_13 ?_
    refine lv_iload_n hx hb dX6_wordsOf_14 rfl (lv_at hl 0 rfl) ?_
    refine xri0 (xrunS (As := [.int i1]) (rest := [.int ((1 : Int32) + j_1)]) (c_X6_bOf l D cI cB cJ _ i1 (f_X6_bOf i1) rfl) hfix xw_391 ys_X6_bOf ⟨rfl, rfl⟩ ⟨(Nat.le_of_ble_eq_true rfl), (Nat.le_of_ble_eq_true rfl)⟩ xKk_K (fun U hU hW => xK.warm hW hK) hP hD [] rfl rfl rfl hl.1 rfl (Nat.le_of_ble_eq_true rfl) dX6_wordsOf_15 ⟨Nat.zero_le _, Nat.zero_le _⟩) hP hD hS hA [] rfl rfl (fun H locs hP hD hS => ?_)
    obtain ⟨j_3, hJ, hF⟩ := lt1_e hF
    have hN_26_4 : x01 j_3 → ∀ (H : Heap) (locs : List Loc) (ls : Array Slot), va_P D vwCl [] H → va_D A [] → va_S A s.heap H locs → lv_has ls 1 [(0, .int i1)] → W p l e rmX6_wordsOf s m args below meth c H locs 0 0 Q (F0 m 26 ls [.int j_3, .int ((1 : Int32) + j_1)]) := by
      intro h01_4 H locs ls hP hD hS hl
      refine lv_iadd hx hb dX6_wordsOf_26 ?_
      refine lv_iload_n hx hb dX6_wordsOf_27 rfl (lv_at hl 0 rfl) ?_
      refine xri0 (xrunS (As := [.int i1]) (rest := [.int (((1 : Int32) + j_1) + j_3)]) (c_X6_kOf l D cI cB cJ _ i1 (f_X6_kOf i1) rfl) hfix xw_394 ys_X6_kOf ⟨rfl, rfl⟩ ⟨(Nat.le_of_ble_eq_true rfl), (Nat.le_of_ble_eq_true rfl)⟩ xKk_K (fun U hU hW => xK.warm hW hK) hP hD [] rfl rfl rfl hl.1 rfl (Nat.le_of_ble_eq_true rfl) dX6_wordsOf_28 ⟨Nat.zero_le _, Nat.zero_le _⟩) hP hD hS hA [] rfl rfl (fun H locs hP hD hS => ?_)
      refine lv_iconst (v := (1 : Int32)) hx hb dX6_wordsOf_31 (by decide) ?_
      refine lv_icmp_eq (tgt := 39) hx hb dX6_wordsOf_32 (by decide) (fun c_5 => ?_) (fun c_5 => ?_)
      · replace hF := if_t c_5 hF
        refine lv_iconst (v := (0 : Int32)) hx hb dX6_wordsOf_39 (by decide) ?_
        refine lv_iadd hx hb dX6_wordsOf_40 ?_
        subst hF
        exact hEnd _ _ _ _ _ dX6_wordsOf_41 hP hS rfl
      · replace hF := if_f c_5 hF
        refine lv_iconst (v := (1 : Int32)) hx hb dX6_wordsOf_35 (by decide) ?_
        refine lv_goto (tgt := 40) hx hb dX6_wordsOf_36 (by decide) ?_
        refine lv_iadd hx hb dX6_wordsOf_40 ?_
        subst hF
        exact hEnd _ _ _ _ _ dX6_wordsOf_41 hP hS rfl
    replace hF := hJ
    refine lv_if_eq (tgt := 25) hx hb dX6_wordsOf_18 (by decide) (fun c_6 => ?_) (fun c_6 => ?_)
    · replace hF := if_t c_6 hF
      refine lv_iconst (v := (0 : Int32)) hx hb dX6_wordsOf_25 (by decide) ?_
      subst hF
      exact hN_26_4 x01_0 _ _ _ hP hD hS (lv_sub hl [0] rfl)
    · replace hF := if_f c_6 hF
      refine lv_iconst (v := (1 : Int32)) hx hb dX6_wordsOf_21 (by decide) ?_
      refine lv_goto (tgt := 26) hx hb dX6_wordsOf_22 (by decide) ?_
      subst hF
      exact hN_26_4 x01_1 _ _ _ hP hD hS (lv_sub hl [0] rfl)
  replace hF := hJ
  refine lv_if_eq (tgt := 12) hx hb dX6_wordsOf_5 (by decide) (fun c_7 => ?_) (fun c_7 => ?_)
  · replace hF := if_t c_7 hF
    refine lv_iconst (v := (0 : Int32)) hx hb dX6_wordsOf_12 (by decide) ?_
    subst hF
    exact hN_13_2 x01_0 _ _ _ hP hD hS (lv_sub hl [0] rfl)
  · replace hF := if_f c_7 hF
    refine lv_iconst (v := (1 : Int32)) hx hb dX6_wordsOf_8 (by decide) ?_
    refine lv_goto (tgt := 13) hx hb dX6_wordsOf_9 (by decide) ?_
    subst hF
    exact hN_13_2 x01_1 _ _ _ hP hD hS (lv_sub hl [0] rfl)
def f_X0_plainestRule_L9 (i1 : Int32) (s_t_villages : Int32) (v_t_village : (Nat → Int32)) (v_t_mark : (Nat → Int32)) : Nat → Int32 → Int32 → Int32 → Option (Int32)
  | 0, _, _, _ => none
  | n + 1, x3_1, x4_2, x5_3 => (if (600 : Int32) ≤ x5_3 then some (x3_1) else (if x4_2 ≤ (f_X6_wordsOf x5_3) then f_X0_plainestRule_L9 i1 s_t_villages v_t_village v_t_mark n x3_1 x4_2 (x5_3 + (1 : Int32)) else bd1 (f_X0_fitting x5_3 i1 s_t_villages v_t_village v_t_mark) (fun (r_7 : Int32) => (if r_7 = (0 : Int32) then f_X0_plainestRule_L9 i1 s_t_villages v_t_village v_t_mark n x3_1 x4_2 (x5_3 + (1 : Int32)) else f_X0_plainestRule_L9 i1 s_t_villages v_t_village v_t_mark n x5_3 (f_X6_wordsOf x5_3) (x5_3 + (1 : Int32))))))
def f_X0_plainestRule (i1 : Int32) (i2 : Int32) (s_t_villages : Int32) (v_t_village : (Nat → Int32)) (v_t_mark : (Nat → Int32)) : Option (Int32) := bd1 (f_X0_plainestRule_L9 i1 s_t_villages v_t_village v_t_mark 1000 (-3 : Int32) i2 (0 : Int32)) (fun (y3_4 : Int32) => some (y3_4))
abbrev rmX0_plainestRule : Room := { frames := 5, cells := 0, slots := 0, locals := 116 }
set_option maxHeartbeats 400000 in
set_option maxRecDepth 100000 in
theorem c_X0_plainestRule (l : Launch) (D : va_G) (cI cB cJ : ClassId) (a_t : Nat) (a_t_village : Nat) (a_t_mark : Nat) (a_t_held : Nat) (sz : Nat) (s_t_heldCount : Int32) (s_t_villages : Int32) (v_t_village : (Nat → Int32)) (v_t_mark : (Nat → Int32)) (i1 : Int32) (i2 : Int32) (r : Int32) (hF : f_X0_plainestRule i1 i2 s_t_villages v_t_village v_t_mark = some r) : xMi l yX0_plainestRule (.code yX0_plainestRule cX0_plainestRule 6 (some .int) :: xU) rmX0_plainestRule (xK D cI cB cJ) D sz [.ref a_t, .int i1, .int i2] [(a_t, .inr (0, [.ref a_t_village, .ref a_t_mark, .ref a_t_held, .int s_t_heldCount, .int s_t_villages])), (a_t_village, .inl (cI, 24, .inl v_t_village)), (a_t_mark, .inl (cI, 24, .inl v_t_mark))] [(a_t, .inr (0, [.ref a_t_village, .ref a_t_mark, .ref a_t_held, .int s_t_heldCount, .int s_t_villages])), (a_t_village, .inl (cI, 24, .inl v_t_village)), (a_t_mark, .inl (cI, 24, .inl v_t_mark))] r := by
  refine xMi.mk (own := "FairNext$Book") (by decide +kernel) rfl (Nat.le_of_ble_eq_true rfl) ?_
  intro p e s m args below meth c A Q ls H hfix hK hP hD hA hS hl hEnd
  obtain ⟨hx, hb, hml, hown, hts⟩ := id hfix
  have hl : lv_has ls 6 [(0, .ref a_t), (1, .int i1), (2, .int i2)] := hl
  rw [f_X0_plainestRule] at hF
  refine lv_bipush (v := (-3 : Int32)) hx hb dX0_plainestRule_0 (by decide) ?_
  refine lv_istore_n (lv' := [(3, .int (-3 : Int32)), (0, .ref a_t), (1, .int i1), (2, .int i2)]) hx hb dX0_plainestRule_2 rfl hl (by decide) rfl (fun ls hl => ?_)
  refine lv_iload_n hx hb dX0_plainestRule_3 rfl (lv_at hl 3 rfl) ?_
  refine lv_istore (lv' := [(4, .int i2), (3, .int (-3 : Int32)), (0, .ref a_t), (1, .int i1), (2, .int i2)]) hx hb dX0_plainestRule_4 hl (by decide) rfl (fun ls hl => ?_)
  refine lv_iconst (v := (0 : Int32)) hx hb dX0_plainestRule_6 (by decide) ?_
  refine lv_istore (lv' := [(5, .int (0 : Int32)), (4, .int i2), (3, .int (-3 : Int32)), (0, .ref a_t), (1, .int i1), (2, .int i2)]) hx hb dX0_plainestRule_7 hl (by decide) rfl (fun ls hl => ?_)
  have hL_9 : ∀ (n : Nat) (x3_1 : Int32) (x4_2 : Int32) (x5_3 : Int32) (y3_4 : Int32), f_X0_plainestRule_L9 i1 s_t_villages v_t_village v_t_mark n x3_1 x4_2 x5_3 = some y3_4 → ∀ (H : Heap) (locs : List Loc) (ls : Array Slot), va_P D vwCl [(a_t, .inr (0, [.ref a_t_village, .ref a_t_mark, .ref a_t_held, .int s_t_heldCount, .int s_t_villages])), (a_t_village, .inl (cI, 24, .inl v_t_village)), (a_t_mark, .inl (cI, 24, .inl v_t_mark))] H → va_D A [(a_t, .inr (0, [.ref a_t_village, .ref a_t_mark, .ref a_t_held, .int s_t_heldCount, .int s_t_villages])), (a_t_village, .inl (cI, 24, .inl v_t_village)), (a_t_mark, .inl (cI, 24, .inl v_t_mark))] → va_S A s.heap H locs → lv_has ls 6 [(0, .ref a_t), (1, .int i1), (3, .int x3_1), (4, .int x4_2), (5, .int x5_3)] → (∀ (H : Heap) (locs : List Loc) (ls : Array Slot), va_P D vwCl [(a_t, .inr (0, [.ref a_t_village, .ref a_t_mark, .ref a_t_held, .int s_t_heldCount, .int s_t_villages])), (a_t_village, .inl (cI, 24, .inl v_t_village)), (a_t_mark, .inl (cI, 24, .inl v_t_mark))] H → va_D A [(a_t, .inr (0, [.ref a_t_village, .ref a_t_mark, .ref a_t_held, .int s_t_heldCount, .int s_t_villages])), (a_t_village, .inl (cI, 24, .inl v_t_village)), (a_t_mark, .inl (cI, 24, .inl v_t_mark))] → va_S A s.heap H locs → lv_has ls 6 [(3, .int y3_4)] → W p l e rmX0_plainestRule s m args below meth c H locs 0 0 Q (F0 m 53 ls [])) → W p l e rmX0_plainestRule s m args below meth c H locs 0 0 Q (F0 m 9 ls []) := by
    intro n
    induction n with
    | zero => intro x3_1 x4_2 x5_3 y3_4 hF; exact (no_some hF).elim
    | succ n ih =>
      intro x3_1 x4_2 x5_3 y3_4 hF H locs ls hP hD hS hl kexit
      rw [f_X0_plainestRule_L9] at hF
      refine lv_iload hx hb dX0_plainestRule_9 (lv_at hl 4 rfl) ?_
      refine lv_sipush (v := (600 : Int32)) hx hb dX0_plainestRule_11 (by decide) ?_
      refine lv_icmp_ge (tgt := 53) hx hb dX0_plainestRule_14 (by decide) (fun c_5 => ?_) (fun c_5 => ?_)
      · replace hF := if_t c_5 hF
        obtain rfl := Option.some.inj hF
        exact kexit _ _ _ hP hD hS (lv_sub hl [2] rfl)
      · replace hF := if_f c_5 hF
        refine lv_iload hx hb dX0_plainestRule_17 (lv_at hl 4 rfl) ?_
        refine xri0 (xrunN (As := [.int x5_3]) (rest := []) (c_X6_wordsOf l D cI cB cJ _ x5_3 (f_X6_wordsOf x5_3) rfl) hfix (hK.2 _ (List.mem_of_getElem? (i := 7) rfl)) ys_X6_wordsOf ⟨rfl, rfl⟩ ⟨(Nat.le_of_ble_eq_true rfl), (Nat.le_of_ble_eq_true rfl)⟩ xKk_K (fun U hU hW => xK.warm hW hK) hP hD [] rfl rfl rfl hl.1 rfl (Nat.le_of_ble_eq_true rfl) dX0_plainestRule_19 ⟨Nat.zero_le _, Nat.zero_le _⟩) hP hD hS hA [] rfl rfl (fun H locs hP hD hS => ?_)
        refine lv_iload hx hb dX0_plainestRule_22 (lv_at hl 3 rfl) ?_
        refine lv_icmp_ge (tgt := 47) hx hb dX0_plainestRule_24 (by decide) (fun c_6 => ?_) (fun c_6 => ?_)
        · replace hF := if_t c_6 hF
          refine lv_iinc (v := (x5_3 + (1 : Int32))) (lv' := [(5, .int (x5_3 + (1 : Int32))), (0, .ref a_t), (1, .int i1), (3, .int x3_1), (4, .int x4_2)]) hx hb dX0_plainestRule_47 hl (k := 4) rfl rfl (by decide) rfl (fun ls hl => ?_)
          refine lv_goto (tgt := 9) hx hb dX0_plainestRule_50 (by decide) ?_
          exact ih _ _ _ _ hF _ _ _ hP hD hS (lv_sub hl [1, 2, 3, 4, 0] rfl) kexit
        · replace hF := if_f c_6 hF
          refine lv_aload_n hx hb dX0_plainestRule_27 rfl (lv_at hl 0 rfl) ?_
          refine lv_iload hx hb dX0_plainestRule_28 (lv_at hl 4 rfl) ?_
          refine lv_iload_n hx hb dX0_plainestRule_30 rfl (lv_at hl 1 rfl) ?_
          obtain ⟨r_7, hq_8, hF⟩ := bd1_e hF
          refine xrz0 (xrunV (As := [.int x5_3, .int i1]) (rest := []) (c_X0_fitting l D cI cB cJ a_t a_t_village a_t_mark a_t_held _ s_t_heldCount s_t_villages v_t_village v_t_mark x5_3 i1 r_7 hq_8) hfix xw_497 yv_X0_fitting ⟨rfl, rfl⟩ ⟨(Nat.le_of_ble_eq_true rfl), (Nat.le_of_ble_eq_true rfl)⟩ xKk_K (fun U hU hW => xK.warm hW hK) hK.1 hP hD [0, 1, 2] rfl rfl 0 0 rfl rfl rfl rfl hl.1 rfl (Nat.le_of_ble_eq_true rfl) dX0_plainestRule_31 ⟨Nat.zero_le _, Nat.zero_le _⟩) hP hD hS hA [0, 1, 2] rfl rfl (fun H locs hP hD hS hz_9 => ?_)
          refine lv_if_eq (tgt := 47) hx hb dX0_plainestRule_34 (by decide) (fun c_10 => ?_) (fun c_10 => ?_)
          · replace hF := if_t c_10 hF
            refine lv_iinc (v := (x5_3 + (1 : Int32))) (lv' := [(5, .int (x5_3 + (1 : Int32))), (0, .ref a_t), (1, .int i1), (3, .int x3_1), (4, .int x4_2)]) hx hb dX0_plainestRule_47 hl (k := 4) rfl rfl (by decide) rfl (fun ls hl => ?_)
            refine lv_goto (tgt := 9) hx hb dX0_plainestRule_50 (by decide) ?_
            exact ih _ _ _ _ hF _ _ _ hP hD hS (lv_sub hl [1, 2, 3, 4, 0] rfl) kexit
          · replace hF := if_f c_10 hF
            refine lv_iload hx hb dX0_plainestRule_37 (lv_at hl 4 rfl) ?_
            refine lv_istore_n (lv' := [(3, .int x5_3), (0, .ref a_t), (1, .int i1), (4, .int x4_2), (5, .int x5_3)]) hx hb dX0_plainestRule_39 rfl hl (by decide) rfl (fun ls hl => ?_)
            refine lv_iload hx hb dX0_plainestRule_40 (lv_at hl 4 rfl) ?_
            refine xri0 (xrunN (As := [.int x5_3]) (rest := []) (c_X6_wordsOf l D cI cB cJ _ x5_3 (f_X6_wordsOf x5_3) rfl) hfix (hK.2 _ (List.mem_of_getElem? (i := 7) rfl)) ys_X6_wordsOf ⟨rfl, rfl⟩ ⟨(Nat.le_of_ble_eq_true rfl), (Nat.le_of_ble_eq_true rfl)⟩ xKk_K (fun U hU hW => xK.warm hW hK) hP hD [] rfl rfl rfl hl.1 rfl (Nat.le_of_ble_eq_true rfl) dX0_plainestRule_42 ⟨Nat.zero_le _, Nat.zero_le _⟩) hP hD hS hA [] rfl rfl (fun H locs hP hD hS => ?_)
            refine lv_istore (lv' := [(4, .int (f_X6_wordsOf x5_3)), (3, .int x5_3), (0, .ref a_t), (1, .int i1), (5, .int x5_3)]) hx hb dX0_plainestRule_45 hl (by decide) rfl (fun ls hl => ?_)
            refine lv_iinc (v := (x5_3 + (1 : Int32))) (lv' := [(5, .int (x5_3 + (1 : Int32))), (4, .int (f_X6_wordsOf x5_3)), (3, .int x5_3), (0, .ref a_t), (1, .int i1)]) hx hb dX0_plainestRule_47 hl (k := 4) rfl rfl (by decide) rfl (fun ls hl => ?_)
            refine lv_goto (tgt := 9) hx hb dX0_plainestRule_50 (by decide) ?_
            exact ih _ _ _ _ hF _ _ _ hP hD hS (lv_sub hl [3, 4, 2, 1, 0] rfl) kexit
  obtain ⟨y3_4, hq, hF⟩ := bd1_e hF
  refine hL_9 _ _ _ _ _ hq _ _ _ hP hD hS (lv_sub hl [3, 4, 2, 1, 0] rfl) (fun H locs ls hP hD hS hl => ?_)
  refine lv_iload_n hx hb dX0_plainestRule_53 rfl (lv_at hl 0 rfl) ?_
  obtain rfl := Option.some.inj hF
  exact hEnd _ _ _ _ _ dX0_plainestRule_54 hP hS rfl
def f_X0_longestRun_L7 (v_t_village : (Nat → Int32)) (i1 : Int32) (s_t_villages : Int32) (v_t_mark : (Nat → Int32)) : Nat → Int32 → Int32 → Int32 → Option (Int32)
  | 0, _, _, _ => none
  | n + 1, x2_1, x3_2, x4_3 => (if (24 : Int32) ≤ x4_3 then some (x2_1) else gd x4_3 24 ((if (v_t_village x4_3.toNatClampNeg) = (-9 : Int32) then f_X0_longestRun_L7 v_t_village i1 s_t_villages v_t_mark n x2_1 x3_2 (x4_3 + (1 : Int32)) else bd1 (f_X0_saying i1 x4_3 24 s_t_villages v_t_village v_t_mark) (fun (r_8 : Int32) => gd x4_3 24 (lt1 ((if r_8 = (v_t_village x4_3.toNatClampNeg) then ((x3_2 + (1 : Int32))) else ((0 : Int32)))) (fun (j_11 : Int32) => f_X0_longestRun_L7 v_t_village i1 s_t_villages v_t_mark n (if x2_1 < j_11 then j_11 else x2_1) j_11 (x4_3 + (1 : Int32))))))))
def f_X0_longestRun (i1 : Int32) (s_t_villages : Int32) (v_t_village : (Nat → Int32)) (v_t_mark : (Nat → Int32)) : Option (Int32) := bd1 (f_X0_longestRun_L7 v_t_village i1 s_t_villages v_t_mark 1000 (0 : Int32) (0 : Int32) (0 : Int32)) (fun (y2_4 : Int32) => some (y2_4))
abbrev rmX0_longestRun : Room := { frames := 3, cells := 0, slots := 0, locals := 70 }
set_option maxHeartbeats 400000 in
set_option maxRecDepth 100000 in
theorem c_X0_longestRun (l : Launch) (D : va_G) (cI cB cJ : ClassId) (a_t : Nat) (a_t_village : Nat) (a_t_mark : Nat) (a_t_held : Nat) (sz : Nat) (s_t_heldCount : Int32) (s_t_villages : Int32) (v_t_village : (Nat → Int32)) (v_t_mark : (Nat → Int32)) (i1 : Int32) (r : Int32) (hF : f_X0_longestRun i1 s_t_villages v_t_village v_t_mark = some r) : xMi l yX0_longestRun (.code yX0_longestRun cX0_longestRun 5 (some .int) :: xU) rmX0_longestRun (xK D cI cB cJ) D sz [.ref a_t, .int i1] [(a_t, .inr (0, [.ref a_t_village, .ref a_t_mark, .ref a_t_held, .int s_t_heldCount, .int s_t_villages])), (a_t_village, .inl (cI, 24, .inl v_t_village)), (a_t_mark, .inl (cI, 24, .inl v_t_mark))] [(a_t, .inr (0, [.ref a_t_village, .ref a_t_mark, .ref a_t_held, .int s_t_heldCount, .int s_t_villages])), (a_t_village, .inl (cI, 24, .inl v_t_village)), (a_t_mark, .inl (cI, 24, .inl v_t_mark))] r := by
  refine xMi.mk (own := "FairNext$Book") (by decide +kernel) rfl (Nat.le_of_ble_eq_true rfl) ?_
  intro p e s m args below meth c A Q ls H hfix hK hP hD hA hS hl hEnd
  obtain ⟨hx, hb, hml, hown, hts⟩ := id hfix
  have hl : lv_has ls 5 [(0, .ref a_t), (1, .int i1)] := hl
  rw [f_X0_longestRun] at hF
  refine lv_iconst (v := (0 : Int32)) hx hb dX0_longestRun_0 (by decide) ?_
  refine lv_istore_n (lv' := [(2, .int (0 : Int32)), (0, .ref a_t), (1, .int i1)]) hx hb dX0_longestRun_1 rfl hl (by decide) rfl (fun ls hl => ?_)
  refine lv_iconst (v := (0 : Int32)) hx hb dX0_longestRun_2 (by decide) ?_
  refine lv_istore_n (lv' := [(3, .int (0 : Int32)), (2, .int (0 : Int32)), (0, .ref a_t), (1, .int i1)]) hx hb dX0_longestRun_3 rfl hl (by decide) rfl (fun ls hl => ?_)
  refine lv_iconst (v := (0 : Int32)) hx hb dX0_longestRun_4 (by decide) ?_
  refine lv_istore (lv' := [(4, .int (0 : Int32)), (3, .int (0 : Int32)), (2, .int (0 : Int32)), (0, .ref a_t), (1, .int i1)]) hx hb dX0_longestRun_5 hl (by decide) rfl (fun ls hl => ?_)
  have hL_7 : ∀ (n : Nat) (x2_1 : Int32) (x3_2 : Int32) (x4_3 : Int32) (y2_4 : Int32), f_X0_longestRun_L7 v_t_village i1 s_t_villages v_t_mark n x2_1 x3_2 x4_3 = some y2_4 → ∀ (H : Heap) (locs : List Loc) (ls : Array Slot), va_P D vwCl [(a_t, .inr (0, [.ref a_t_village, .ref a_t_mark, .ref a_t_held, .int s_t_heldCount, .int s_t_villages])), (a_t_village, .inl (cI, 24, .inl v_t_village)), (a_t_mark, .inl (cI, 24, .inl v_t_mark))] H → va_D A [(a_t, .inr (0, [.ref a_t_village, .ref a_t_mark, .ref a_t_held, .int s_t_heldCount, .int s_t_villages])), (a_t_village, .inl (cI, 24, .inl v_t_village)), (a_t_mark, .inl (cI, 24, .inl v_t_mark))] → va_S A s.heap H locs → lv_has ls 5 [(0, .ref a_t), (1, .int i1), (2, .int x2_1), (3, .int x3_2), (4, .int x4_3)] → (∀ (H : Heap) (locs : List Loc) (ls : Array Slot), va_P D vwCl [(a_t, .inr (0, [.ref a_t_village, .ref a_t_mark, .ref a_t_held, .int s_t_heldCount, .int s_t_villages])), (a_t_village, .inl (cI, 24, .inl v_t_village)), (a_t_mark, .inl (cI, 24, .inl v_t_mark))] H → va_D A [(a_t, .inr (0, [.ref a_t_village, .ref a_t_mark, .ref a_t_held, .int s_t_heldCount, .int s_t_villages])), (a_t_village, .inl (cI, 24, .inl v_t_village)), (a_t_mark, .inl (cI, 24, .inl v_t_mark))] → va_S A s.heap H locs → lv_has ls 5 [(2, .int y2_4)] → W p l e rmX0_longestRun s m args below meth c H locs 0 0 Q (F0 m 67 ls [])) → W p l e rmX0_longestRun s m args below meth c H locs 0 0 Q (F0 m 7 ls []) := by
    intro n
    induction n with
    | zero => intro x2_1 x3_2 x4_3 y2_4 hF; exact (no_some hF).elim
    | succ n ih =>
      intro x2_1 x3_2 x4_3 y2_4 hF H locs ls hP hD hS hl kexit
      rw [f_X0_longestRun_L7] at hF
      refine lv_iload hx hb dX0_longestRun_7 (lv_at hl 4 rfl) ?_
      refine lv_bipush (v := (24 : Int32)) hx hb dX0_longestRun_9 (by decide) ?_
      refine lv_icmp_ge (tgt := 67) hx hb dX0_longestRun_11 (by decide) (fun c_5 => ?_) (fun c_5 => ?_)
      · replace hF := if_t c_5 hF
        obtain rfl := Option.some.inj hF
        exact kexit _ _ _ hP hD hS (lv_sub hl [2] rfl)
      · replace hF := if_f c_5 hF
        refine lv_aload_n hx hb dX0_longestRun_14 rfl (lv_at hl 0 rfl) ?_
        refine xget (ci := 0) (C := RX0) (T := TX0) (N := 5) hfix xiX0 hK.1 hP 0 rfl rfl 0 (by decide) rfl xw_33 rfl dX0_longestRun_15 ?_
        refine lv_iload hx hb dX0_longestRun_18 (lv_at hl 4 rfl) ?_
        obtain ⟨c_6, hF⟩ := gd_e hF
        refine va_iald hx hb hK.1 hP 1 0 rfl rfl c_6 dX0_longestRun_20 ?_
        refine lv_bipush (v := (-9 : Int32)) hx hb dX0_longestRun_21 (by decide) ?_
        refine lv_icmp_eq (tgt := 61) hx hb dX0_longestRun_23 (by decide) (fun c_7 => ?_) (fun c_7 => ?_)
        · replace hF := if_t c_7 hF
          refine lv_iinc (v := (x4_3 + (1 : Int32))) (lv' := [(4, .int (x4_3 + (1 : Int32))), (0, .ref a_t), (1, .int i1), (2, .int x2_1), (3, .int x3_2)]) hx hb dX0_longestRun_61 hl (k := 4) rfl rfl (by decide) rfl (fun ls hl => ?_)
          refine lv_goto (tgt := 7) hx hb dX0_longestRun_64 (by decide) ?_
          exact ih _ _ _ _ hF _ _ _ hP hD hS (lv_sub hl [1, 2, 3, 4, 0] rfl) kexit
        · replace hF := if_f c_7 hF
          refine lv_aload_n hx hb dX0_longestRun_26 rfl (lv_at hl 0 rfl) ?_
          refine lv_iload_n hx hb dX0_longestRun_27 rfl (lv_at hl 1 rfl) ?_
          refine lv_iload hx hb dX0_longestRun_28 (lv_at hl 4 rfl) ?_
          refine lv_aload_n hx hb dX0_longestRun_30 rfl (lv_at hl 0 rfl) ?_
          refine xget (ci := 0) (C := RX0) (T := TX0) (N := 5) hfix xiX0 hK.1 hP 0 rfl rfl 0 (by decide) rfl xw_33 rfl dX0_longestRun_31 ?_
          obtain ⟨r_8, hq_9, hF⟩ := bd1_e hF
          refine xri0 (xrunV (As := [.int i1, .int x4_3, .ref a_t_village]) (rest := []) (c_X0_saying l D cI cB cJ a_t a_t_village a_t_mark a_t_held a_t_village _ 24 s_t_heldCount s_t_villages v_t_village v_t_mark i1 x4_3 r_8 hq_9) hfix xw_404 yv_X0_saying ⟨rfl, rfl⟩ ⟨(Nat.le_of_ble_eq_true rfl), (Nat.le_of_ble_eq_true rfl)⟩ xKk_K (fun U hU hW => xK.warm hW hK) hK.1 hP hD [0, 1, 2] rfl rfl 0 0 rfl rfl rfl rfl hl.1 rfl (Nat.le_of_ble_eq_true rfl) dX0_longestRun_34 ⟨Nat.zero_le _, Nat.zero_le _⟩) hP hD hS hA [0, 1, 2] rfl rfl (fun H locs hP hD hS => ?_)
          refine lv_aload_n hx hb dX0_longestRun_37 rfl (lv_at hl 0 rfl) ?_
          refine xget (ci := 0) (C := RX0) (T := TX0) (N := 5) hfix xiX0 hK.1 hP 0 rfl rfl 0 (by decide) rfl xw_33 rfl dX0_longestRun_38 ?_
          refine lv_iload hx hb dX0_longestRun_41 (lv_at hl 4 rfl) ?_
          obtain ⟨c_10, hF⟩ := gd_e hF
          refine va_iald hx hb hK.1 hP 1 0 rfl rfl c_10 dX0_longestRun_43 ?_
          obtain ⟨j_11, hJ, hF⟩ := lt1_e hF
          have hN_54_11 : ∀ (H : Heap) (locs : List Loc) (ls : Array Slot), va_P D vwCl [(a_t, .inr (0, [.ref a_t_village, .ref a_t_mark, .ref a_t_held, .int s_t_heldCount, .int s_t_villages])), (a_t_village, .inl (cI, 24, .inl v_t_village)), (a_t_mark, .inl (cI, 24, .inl v_t_mark))] H → va_D A [(a_t, .inr (0, [.ref a_t_village, .ref a_t_mark, .ref a_t_held, .int s_t_heldCount, .int s_t_villages])), (a_t_village, .inl (cI, 24, .inl v_t_village)), (a_t_mark, .inl (cI, 24, .inl v_t_mark))] → va_S A s.heap H locs → lv_has ls 5 [(0, .ref a_t), (1, .int i1), (2, .int x2_1), (4, .int x4_3)] → W p l e rmX0_longestRun s m args below meth c H locs 0 0 Q (F0 m 54 ls [.int j_11]) := by
            intro H locs ls hP hD hS hl
            refine lv_istore_n (lv' := [(3, .int j_11), (0, .ref a_t), (1, .int i1), (2, .int x2_1), (4, .int x4_3)]) hx hb dX0_longestRun_54 rfl hl (by decide) rfl (fun ls hl => ?_)
            refine lv_iload_n hx hb dX0_longestRun_55 rfl (lv_at hl 3 rfl) ?_
            refine lv_iload_n hx hb dX0_longestRun_56 rfl (lv_at hl 0 rfl) ?_
            refine va_mmax hx hb (hml.trans hl.1.symm) hown (hts _ (List.mem_cons_of_mem _ xw_447)) (hts _ (List.mem_cons_of_mem _ xw_448)) (hts _ (List.mem_cons_of_mem _ xw_14)) (hts _ (List.mem_cons_of_mem _ xw_449)) (Nat.le_of_ble_eq_true rfl) (Nat.le_of_ble_eq_true rfl) (Nat.zero_le _) (Nat.zero_le _) dX0_longestRun_57 ?_
            refine lv_istore_n (lv' := [(2, .int (if x2_1 < j_11 then j_11 else x2_1)), (3, .int j_11), (0, .ref a_t), (1, .int i1), (4, .int x4_3)]) hx hb dX0_longestRun_60 rfl hl (by decide) rfl (fun ls hl => ?_)
            refine lv_iinc (v := (x4_3 + (1 : Int32))) (lv' := [(4, .int (x4_3 + (1 : Int32))), (2, .int (if x2_1 < j_11 then j_11 else x2_1)), (3, .int j_11), (0, .ref a_t), (1, .int i1)]) hx hb dX0_longestRun_61 hl (k := 4) rfl rfl (by decide) rfl (fun ls hl => ?_)
            refine lv_goto (tgt := 7) hx hb dX0_longestRun_64 (by decide) ?_
            exact ih _ _ _ _ hF _ _ _ hP hD hS (lv_sub hl [3, 4, 1, 2, 0] rfl) kexit
          replace hF := hJ
          refine lv_icmp_ne (tgt := 53) hx hb dX0_longestRun_44 (by decide) (fun c_12 => ?_) (fun c_12 => ?_)
          · replace hF := if_f c_12 hF
            refine lv_iconst (v := (0 : Int32)) hx hb dX0_longestRun_53 (by decide) ?_
            subst hF
            exact hN_54_11 _ _ _ hP hD hS (lv_sub hl [0, 1, 2, 4] rfl)
          · replace hF := if_t c_12 hF
            refine lv_iload_n hx hb dX0_longestRun_47 rfl (lv_at hl 3 rfl) ?_
            refine lv_iconst (v := (1 : Int32)) hx hb dX0_longestRun_48 (by decide) ?_
            refine lv_iadd hx hb dX0_longestRun_49 ?_
            refine lv_goto (tgt := 54) hx hb dX0_longestRun_50 (by decide) ?_
            subst hF
            exact hN_54_11 _ _ _ hP hD hS (lv_sub hl [0, 1, 2, 4] rfl)
  obtain ⟨y2_4, hq, hF⟩ := bd1_e hF
  refine hL_7 _ _ _ _ _ hq _ _ _ hP hD hS (lv_sub hl [3, 4, 2, 1, 0] rfl) (fun H locs ls hP hD hS hl => ?_)
  refine lv_iload_n hx hb dX0_longestRun_67 rfl (lv_at hl 0 rfl) ?_
  obtain rfl := Option.some.inj hF
  exact hEnd _ _ _ _ _ dX0_longestRun_68 hP hS rfl
def f_X0_yearOfRun_L5 (v_t_village : (Nat → Int32)) (i1 : Int32) (s_t_villages : Int32) (v_t_mark : (Nat → Int32)) (i2 : Int32) : Nat → Int32 → Int32 → Option ((Unit) ⊕ (Int32))
  | 0, _, _ => none
  | n + 1, x3_1, x4_2 => (if (24 : Int32) ≤ x4_2 then some (.inl ()) else gd x4_2 24 ((if (v_t_village x4_2.toNatClampNeg) = (-9 : Int32) then f_X0_yearOfRun_L5 v_t_village i1 s_t_villages v_t_mark i2 n x3_1 (x4_2 + (1 : Int32)) else bd1 (f_X0_saying i1 x4_2 24 s_t_villages v_t_village v_t_mark) (fun (r_6 : Int32) => gd x4_2 24 (lt1 ((if r_6 = (v_t_village x4_2.toNatClampNeg) then ((x3_1 + (1 : Int32))) else ((0 : Int32)))) (fun (j_9 : Int32) => (if j_9 = i2 then some (.inr (x4_2)) else f_X0_yearOfRun_L5 v_t_village i1 s_t_villages v_t_mark i2 n j_9 (x4_2 + (1 : Int32)))))))))
def f_X0_yearOfRun (i1 : Int32) (i2 : Int32) (s_t_villages : Int32) (v_t_village : (Nat → Int32)) (v_t_mark : (Nat → Int32)) : Option (Int32) := bs0 (f_X0_yearOfRun_L5 v_t_village i1 s_t_villages v_t_mark i2 1000 (0 : Int32) (0 : Int32)) (some ((-3 : Int32))) (fun q => some (q))
abbrev rmX0_yearOfRun : Room := { frames := 3, cells := 0, slots := 0, locals := 70 }
set_option maxHeartbeats 400000 in
set_option maxRecDepth 100000 in
theorem c_X0_yearOfRun (l : Launch) (D : va_G) (cI cB cJ : ClassId) (a_t : Nat) (a_t_village : Nat) (a_t_mark : Nat) (a_t_held : Nat) (sz : Nat) (s_t_heldCount : Int32) (s_t_villages : Int32) (v_t_village : (Nat → Int32)) (v_t_mark : (Nat → Int32)) (i1 : Int32) (i2 : Int32) (r : Int32) (hF : f_X0_yearOfRun i1 i2 s_t_villages v_t_village v_t_mark = some r) : xMi l yX0_yearOfRun (.code yX0_yearOfRun cX0_yearOfRun 5 (some .int) :: xU) rmX0_yearOfRun (xK D cI cB cJ) D sz [.ref a_t, .int i1, .int i2] [(a_t, .inr (0, [.ref a_t_village, .ref a_t_mark, .ref a_t_held, .int s_t_heldCount, .int s_t_villages])), (a_t_village, .inl (cI, 24, .inl v_t_village)), (a_t_mark, .inl (cI, 24, .inl v_t_mark))] [(a_t, .inr (0, [.ref a_t_village, .ref a_t_mark, .ref a_t_held, .int s_t_heldCount, .int s_t_villages])), (a_t_village, .inl (cI, 24, .inl v_t_village)), (a_t_mark, .inl (cI, 24, .inl v_t_mark))] r := by
  refine xMi.mk (own := "FairNext$Book") (by decide +kernel) rfl (Nat.le_of_ble_eq_true rfl) ?_
  intro p e s m args below meth c A Q ls H hfix hK hP hD hA hS hl hEnd
  obtain ⟨hx, hb, hml, hown, hts⟩ := id hfix
  have hl : lv_has ls 5 [(0, .ref a_t), (1, .int i1), (2, .int i2)] := hl
  rw [f_X0_yearOfRun] at hF
  refine lv_iconst (v := (0 : Int32)) hx hb dX0_yearOfRun_0 (by decide) ?_
  refine lv_istore_n (lv' := [(3, .int (0 : Int32)), (0, .ref a_t), (1, .int i1), (2, .int i2)]) hx hb dX0_yearOfRun_1 rfl hl (by decide) rfl (fun ls hl => ?_)
  refine lv_iconst (v := (0 : Int32)) hx hb dX0_yearOfRun_2 (by decide) ?_
  refine lv_istore (lv' := [(4, .int (0 : Int32)), (3, .int (0 : Int32)), (0, .ref a_t), (1, .int i1), (2, .int i2)]) hx hb dX0_yearOfRun_3 hl (by decide) rfl (fun ls hl => ?_)
  have hL_5 : ∀ (n : Nat) (x3_1 : Int32) (x4_2 : Int32) (_res : (Unit) ⊕ (Int32)), f_X0_yearOfRun_L5 v_t_village i1 s_t_villages v_t_mark i2 n x3_1 x4_2 = some _res → ∀ (H : Heap) (locs : List Loc) (ls : Array Slot), va_P D vwCl [(a_t, .inr (0, [.ref a_t_village, .ref a_t_mark, .ref a_t_held, .int s_t_heldCount, .int s_t_villages])), (a_t_village, .inl (cI, 24, .inl v_t_village)), (a_t_mark, .inl (cI, 24, .inl v_t_mark))] H → va_D A [(a_t, .inr (0, [.ref a_t_village, .ref a_t_mark, .ref a_t_held, .int s_t_heldCount, .int s_t_villages])), (a_t_village, .inl (cI, 24, .inl v_t_village)), (a_t_mark, .inl (cI, 24, .inl v_t_mark))] → va_S A s.heap H locs → lv_has ls 5 [(0, .ref a_t), (1, .int i1), (2, .int i2), (3, .int x3_1), (4, .int x4_2)] → (_res = .inl () → ∀ (H : Heap) (locs : List Loc) (ls : Array Slot), va_P D vwCl [(a_t, .inr (0, [.ref a_t_village, .ref a_t_mark, .ref a_t_held, .int s_t_heldCount, .int s_t_villages])), (a_t_village, .inl (cI, 24, .inl v_t_village)), (a_t_mark, .inl (cI, 24, .inl v_t_mark))] H → va_D A [(a_t, .inr (0, [.ref a_t_village, .ref a_t_mark, .ref a_t_held, .int s_t_heldCount, .int s_t_villages])), (a_t_village, .inl (cI, 24, .inl v_t_village)), (a_t_mark, .inl (cI, 24, .inl v_t_mark))] → va_S A s.heap H locs → lv_has ls 5 [] → W p l e rmX0_yearOfRun s m args below meth c H locs 0 0 Q (F0 m 67 ls [])) → (∀ q : Int32, _res = .inr q → q = r) → W p l e rmX0_yearOfRun s m args below meth c H locs 0 0 Q (F0 m 5 ls []) := by
    intro n
    induction n with
    | zero => intro x3_1 x4_2 _res hF; exact (no_some hF).elim
    | succ n ih =>
      intro x3_1 x4_2 _res hF H locs ls hP hD hS hl kexit hret
      rw [f_X0_yearOfRun_L5] at hF
      refine lv_iload hx hb dX0_yearOfRun_5 (lv_at hl 4 rfl) ?_
      refine lv_bipush (v := (24 : Int32)) hx hb dX0_yearOfRun_7 (by decide) ?_
      refine lv_icmp_ge (tgt := 67) hx hb dX0_yearOfRun_9 (by decide) (fun c_3 => ?_) (fun c_3 => ?_)
      · replace hF := if_t c_3 hF
        obtain rfl := Option.some.inj hF
        exact kexit rfl _ _ _ hP hD hS (lv_sub hl [] rfl)
      · replace hF := if_f c_3 hF
        refine lv_aload_n hx hb dX0_yearOfRun_12 rfl (lv_at hl 0 rfl) ?_
        refine xget (ci := 0) (C := RX0) (T := TX0) (N := 5) hfix xiX0 hK.1 hP 0 rfl rfl 0 (by decide) rfl xw_33 rfl dX0_yearOfRun_13 ?_
        refine lv_iload hx hb dX0_yearOfRun_16 (lv_at hl 4 rfl) ?_
        obtain ⟨c_4, hF⟩ := gd_e hF
        refine va_iald hx hb hK.1 hP 1 0 rfl rfl c_4 dX0_yearOfRun_18 ?_
        refine lv_bipush (v := (-9 : Int32)) hx hb dX0_yearOfRun_19 (by decide) ?_
        refine lv_icmp_eq (tgt := 61) hx hb dX0_yearOfRun_21 (by decide) (fun c_5 => ?_) (fun c_5 => ?_)
        · replace hF := if_t c_5 hF
          refine lv_iinc (v := (x4_2 + (1 : Int32))) (lv' := [(4, .int (x4_2 + (1 : Int32))), (0, .ref a_t), (1, .int i1), (2, .int i2), (3, .int x3_1)]) hx hb dX0_yearOfRun_61 hl (k := 4) rfl rfl (by decide) rfl (fun ls hl => ?_)
          refine lv_goto (tgt := 5) hx hb dX0_yearOfRun_64 (by decide) ?_
          exact ih _ _ _ hF _ _ _ hP hD hS (lv_sub hl [1, 2, 3, 4, 0] rfl) kexit hret
        · replace hF := if_f c_5 hF
          refine lv_aload_n hx hb dX0_yearOfRun_24 rfl (lv_at hl 0 rfl) ?_
          refine lv_iload_n hx hb dX0_yearOfRun_25 rfl (lv_at hl 1 rfl) ?_
          refine lv_iload hx hb dX0_yearOfRun_26 (lv_at hl 4 rfl) ?_
          refine lv_aload_n hx hb dX0_yearOfRun_28 rfl (lv_at hl 0 rfl) ?_
          refine xget (ci := 0) (C := RX0) (T := TX0) (N := 5) hfix xiX0 hK.1 hP 0 rfl rfl 0 (by decide) rfl xw_33 rfl dX0_yearOfRun_29 ?_
          obtain ⟨r_6, hq_7, hF⟩ := bd1_e hF
          refine xri0 (xrunV (As := [.int i1, .int x4_2, .ref a_t_village]) (rest := []) (c_X0_saying l D cI cB cJ a_t a_t_village a_t_mark a_t_held a_t_village _ 24 s_t_heldCount s_t_villages v_t_village v_t_mark i1 x4_2 r_6 hq_7) hfix xw_404 yv_X0_saying ⟨rfl, rfl⟩ ⟨(Nat.le_of_ble_eq_true rfl), (Nat.le_of_ble_eq_true rfl)⟩ xKk_K (fun U hU hW => xK.warm hW hK) hK.1 hP hD [0, 1, 2] rfl rfl 0 0 rfl rfl rfl rfl hl.1 rfl (Nat.le_of_ble_eq_true rfl) dX0_yearOfRun_32 ⟨Nat.zero_le _, Nat.zero_le _⟩) hP hD hS hA [0, 1, 2] rfl rfl (fun H locs hP hD hS => ?_)
          refine lv_aload_n hx hb dX0_yearOfRun_35 rfl (lv_at hl 0 rfl) ?_
          refine xget (ci := 0) (C := RX0) (T := TX0) (N := 5) hfix xiX0 hK.1 hP 0 rfl rfl 0 (by decide) rfl xw_33 rfl dX0_yearOfRun_36 ?_
          refine lv_iload hx hb dX0_yearOfRun_39 (lv_at hl 4 rfl) ?_
          obtain ⟨c_8, hF⟩ := gd_e hF
          refine va_iald hx hb hK.1 hP 1 0 rfl rfl c_8 dX0_yearOfRun_41 ?_
          obtain ⟨j_9, hJ, hF⟩ := lt1_e hF
          have hN_52_9 : ∀ (H : Heap) (locs : List Loc) (ls : Array Slot), va_P D vwCl [(a_t, .inr (0, [.ref a_t_village, .ref a_t_mark, .ref a_t_held, .int s_t_heldCount, .int s_t_villages])), (a_t_village, .inl (cI, 24, .inl v_t_village)), (a_t_mark, .inl (cI, 24, .inl v_t_mark))] H → va_D A [(a_t, .inr (0, [.ref a_t_village, .ref a_t_mark, .ref a_t_held, .int s_t_heldCount, .int s_t_villages])), (a_t_village, .inl (cI, 24, .inl v_t_village)), (a_t_mark, .inl (cI, 24, .inl v_t_mark))] → va_S A s.heap H locs → lv_has ls 5 [(0, .ref a_t), (1, .int i1), (2, .int i2), (4, .int x4_2)] → W p l e rmX0_yearOfRun s m args below meth c H locs 0 0 Q (F0 m 52 ls [.int j_9]) := by
            intro H locs ls hP hD hS hl
            refine lv_istore_n (lv' := [(3, .int j_9), (0, .ref a_t), (1, .int i1), (2, .int i2), (4, .int x4_2)]) hx hb dX0_yearOfRun_52 rfl hl (by decide) rfl (fun ls hl => ?_)
            refine lv_iload_n hx hb dX0_yearOfRun_53 rfl (lv_at hl 0 rfl) ?_
            refine lv_iload_n hx hb dX0_yearOfRun_54 rfl (lv_at hl 3 rfl) ?_
            refine lv_icmp_ne (tgt := 61) hx hb dX0_yearOfRun_55 (by decide) (fun c_10 => ?_) (fun c_10 => ?_)
            · replace hF := if_f c_10 hF
              refine lv_iinc (v := (x4_2 + (1 : Int32))) (lv' := [(4, .int (x4_2 + (1 : Int32))), (3, .int j_9), (0, .ref a_t), (1, .int i1), (2, .int i2)]) hx hb dX0_yearOfRun_61 hl (k := 4) rfl rfl (by decide) rfl (fun ls hl => ?_)
              refine lv_goto (tgt := 5) hx hb dX0_yearOfRun_64 (by decide) ?_
              exact ih _ _ _ hF _ _ _ hP hD hS (lv_sub hl [2, 3, 4, 1, 0] rfl) kexit hret
            · replace hF := if_t c_10 hF
              refine lv_iload hx hb dX0_yearOfRun_58 (lv_at hl 4 rfl) ?_
              obtain rfl := Option.some.inj hF
              have hF := hret _ rfl
              subst hF
              exact hEnd _ _ _ _ _ dX0_yearOfRun_60 hP hS rfl
          replace hF := hJ
          refine lv_icmp_ne (tgt := 51) hx hb dX0_yearOfRun_42 (by decide) (fun c_11 => ?_) (fun c_11 => ?_)
          · replace hF := if_f c_11 hF
            refine lv_iconst (v := (0 : Int32)) hx hb dX0_yearOfRun_51 (by decide) ?_
            subst hF
            exact hN_52_9 _ _ _ hP hD hS (lv_sub hl [0, 1, 2, 4] rfl)
          · replace hF := if_t c_11 hF
            refine lv_iload_n hx hb dX0_yearOfRun_45 rfl (lv_at hl 3 rfl) ?_
            refine lv_iconst (v := (1 : Int32)) hx hb dX0_yearOfRun_46 (by decide) ?_
            refine lv_iadd hx hb dX0_yearOfRun_47 ?_
            refine lv_goto (tgt := 52) hx hb dX0_yearOfRun_48 (by decide) ?_
            subst hF
            exact hN_52_9 _ _ _ hP hD hS (lv_sub hl [0, 1, 2, 4] rfl)
  rcases bs0_e hF with ⟨hq, hF⟩ | ⟨q, hq, hF⟩
  · refine hL_5 _ _ _ _ hq _ _ _ hP hD hS (lv_sub hl [2, 3, 4, 1, 0] rfl) (fun e H locs ls hP hD hS hl => ?_) (fun q e => nomatch e)
    cases e
    refine lv_bipush (v := (-3 : Int32)) hx hb dX0_yearOfRun_67 (by decide) ?_
    obtain rfl := Option.some.inj hF
    exact hEnd _ _ _ _ _ dX0_yearOfRun_69 hP hS rfl
  · exact hL_5 _ _ _ _ hq _ _ _ hP hD hS (lv_sub hl [2, 3, 4, 1, 0] rfl) (fun e => nomatch e) (fun q e => by cases e; cases hF; rfl)
def f_X1_add (i1 : Int32) (i2 : Int32) (i3 : Int32) (s_t_count : Int32) (v_t_cells : (Nat → Int32)) : Option (Int32 × (Nat → Int32)) := (if (24 : Int32) ≤ s_t_count then some ((s_t_count, v_t_cells)) else gd (s_t_count * (3 : Int32)) 72 (gd ((s_t_count * (3 : Int32)) + (1 : Int32)) 72 (gd ((s_t_count * (3 : Int32)) + (2 : Int32)) 72 (some (((s_t_count + (1 : Int32)), (upd (upd (upd v_t_cells (s_t_count * (3 : Int32)).toNatClampNeg i1) ((s_t_count * (3 : Int32)) + (1 : Int32)).toNatClampNeg i2) ((s_t_count * (3 : Int32)) + (2 : Int32)).toNatClampNeg i3)))))))
abbrev rmX1_add : Room := { frames := 0, cells := 0, slots := 0, locals := 0 }
set_option maxHeartbeats 400000 in
set_option maxRecDepth 100000 in
theorem c_X1_add (l : Launch) (D : va_G) (cI cB cJ : ClassId) (a_t : Nat) (a_t_cells : Nat) (sz : Nat) (s_t_count : Int32) (v_t_cells : (Nat → Int32)) (i1 : Int32) (i2 : Int32) (i3 : Int32) (o_s_t_count : Int32) (o_v_t_cells : (Nat → Int32)) (hF : f_X1_add i1 i2 i3 s_t_count v_t_cells = some (o_s_t_count, o_v_t_cells)) : xMv l yX1_add (.code yX1_add cX1_add 4 none :: xU) rmX1_add (xK D cI cB cJ) D sz [.ref a_t, .int i1, .int i2, .int i3] [(a_t, .inr (1, [.ref a_t_cells, .int s_t_count])), (a_t_cells, .inl (cI, 72, .inl v_t_cells))] [(a_t, .inr (1, [.ref a_t_cells, .int o_s_t_count])), (a_t_cells, .inl (cI, 72, .inl o_v_t_cells))] := by
  refine xMv.mk (own := "FairNext$Rows") (by decide +kernel) rfl (Nat.le_of_ble_eq_true rfl) ?_
  intro p e s m args below meth c A Q ls H hfix hK hP hD hA hS hl hEnd
  obtain ⟨hx, hb, hml, hown, hts⟩ := id hfix
  have hl : lv_has ls 4 [(0, .ref a_t), (1, .int i1), (2, .int i2), (3, .int i3)] := hl
  rw [f_X1_add] at hF
  refine lv_aload_n hx hb dX1_add_0 rfl (lv_at hl 0 rfl) ?_
  refine xget (ci := 1) (C := RX1) (T := TX1) (N := 2) hfix xiX1 hK.1 hP 0 rfl rfl 1 (by decide) rfl xw_88 rfl dX1_add_1 ?_
  refine lv_bipush (v := (24 : Int32)) hx hb dX1_add_4 (by decide) ?_
  refine lv_icmp_ge (tgt := 59) hx hb dX1_add_6 (by decide) (fun c_1 => ?_) (fun c_1 => ?_)
  · replace hF := if_t c_1 hF
    obtain ⟨rfl, rfl⟩ := pj2 hF
    exact hEnd _ _ _ _ dX1_add_59 hP hS
  · replace hF := if_f c_1 hF
    refine lv_aload_n hx hb dX1_add_9 rfl (lv_at hl 0 rfl) ?_
    refine xget (ci := 1) (C := RX1) (T := TX1) (N := 2) hfix xiX1 hK.1 hP 0 rfl rfl 0 (by decide) rfl xw_86 rfl dX1_add_10 ?_
    refine lv_aload_n hx hb dX1_add_13 rfl (lv_at hl 0 rfl) ?_
    refine xget (ci := 1) (C := RX1) (T := TX1) (N := 2) hfix xiX1 hK.1 hP 0 rfl rfl 1 (by decide) rfl xw_88 rfl dX1_add_14 ?_
    refine lv_iconst (v := (3 : Int32)) hx hb dX1_add_17 (by decide) ?_
    refine lv_imul hx hb dX1_add_18 ?_
    refine lv_iload_n hx hb dX1_add_19 rfl (lv_at hl 1 rfl) ?_
    obtain ⟨c_2, hF⟩ := gd_e hF
    refine va_iast hx hb hK.1 hP hD hS 1 0 rfl rfl c_2 dX1_add_20 (fun H locs hP hD hS => ?_)
    have hP : va_P D vwCl [(a_t, .inr (1, [.ref a_t_cells, .int s_t_count])), (a_t_cells, .inl (cI, 72, .inl (upd v_t_cells (s_t_count * (3 : Int32)).toNatClampNeg i1)))] H := hP
    have hD : va_D A [(a_t, .inr (1, [.ref a_t_cells, .int s_t_count])), (a_t_cells, .inl (cI, 72, .inl (upd v_t_cells (s_t_count * (3 : Int32)).toNatClampNeg i1)))] := hD
    refine lv_aload_n hx hb dX1_add_21 rfl (lv_at hl 0 rfl) ?_
    refine xget (ci := 1) (C := RX1) (T := TX1) (N := 2) hfix xiX1 hK.1 hP 0 rfl rfl 0 (by decide) rfl xw_86 rfl dX1_add_22 ?_
    refine lv_aload_n hx hb dX1_add_25 rfl (lv_at hl 0 rfl) ?_
    refine xget (ci := 1) (C := RX1) (T := TX1) (N := 2) hfix xiX1 hK.1 hP 0 rfl rfl 1 (by decide) rfl xw_88 rfl dX1_add_26 ?_
    refine lv_iconst (v := (3 : Int32)) hx hb dX1_add_29 (by decide) ?_
    refine lv_imul hx hb dX1_add_30 ?_
    refine lv_iconst (v := (1 : Int32)) hx hb dX1_add_31 (by decide) ?_
    refine lv_iadd hx hb dX1_add_32 ?_
    refine lv_iload_n hx hb dX1_add_33 rfl (lv_at hl 2 rfl) ?_
    obtain ⟨c_3, hF⟩ := gd_e hF
    refine va_iast hx hb hK.1 hP hD hS 1 0 rfl rfl c_3 dX1_add_34 (fun H locs hP hD hS => ?_)
    have hP : va_P D vwCl [(a_t, .inr (1, [.ref a_t_cells, .int s_t_count])), (a_t_cells, .inl (cI, 72, .inl (upd (upd v_t_cells (s_t_count * (3 : Int32)).toNatClampNeg i1) ((s_t_count * (3 : Int32)) + (1 : Int32)).toNatClampNeg i2)))] H := hP
    have hD : va_D A [(a_t, .inr (1, [.ref a_t_cells, .int s_t_count])), (a_t_cells, .inl (cI, 72, .inl (upd (upd v_t_cells (s_t_count * (3 : Int32)).toNatClampNeg i1) ((s_t_count * (3 : Int32)) + (1 : Int32)).toNatClampNeg i2)))] := hD
    refine lv_aload_n hx hb dX1_add_35 rfl (lv_at hl 0 rfl) ?_
    refine xget (ci := 1) (C := RX1) (T := TX1) (N := 2) hfix xiX1 hK.1 hP 0 rfl rfl 0 (by decide) rfl xw_86 rfl dX1_add_36 ?_
    refine lv_aload_n hx hb dX1_add_39 rfl (lv_at hl 0 rfl) ?_
    refine xget (ci := 1) (C := RX1) (T := TX1) (N := 2) hfix xiX1 hK.1 hP 0 rfl rfl 1 (by decide) rfl xw_88 rfl dX1_add_40 ?_
    refine lv_iconst (v := (3 : Int32)) hx hb dX1_add_43 (by decide) ?_
    refine lv_imul hx hb dX1_add_44 ?_
    refine lv_iconst (v := (2 : Int32)) hx hb dX1_add_45 (by decide) ?_
    refine lv_iadd hx hb dX1_add_46 ?_
    refine lv_iload_n hx hb dX1_add_47 rfl (lv_at hl 3 rfl) ?_
    obtain ⟨c_4, hF⟩ := gd_e hF
    refine va_iast hx hb hK.1 hP hD hS 1 0 rfl rfl c_4 dX1_add_48 (fun H locs hP hD hS => ?_)
    have hP : va_P D vwCl [(a_t, .inr (1, [.ref a_t_cells, .int s_t_count])), (a_t_cells, .inl (cI, 72, .inl (upd (upd (upd v_t_cells (s_t_count * (3 : Int32)).toNatClampNeg i1) ((s_t_count * (3 : Int32)) + (1 : Int32)).toNatClampNeg i2) ((s_t_count * (3 : Int32)) + (2 : Int32)).toNatClampNeg i3)))] H := hP
    have hD : va_D A [(a_t, .inr (1, [.ref a_t_cells, .int s_t_count])), (a_t_cells, .inl (cI, 72, .inl (upd (upd (upd v_t_cells (s_t_count * (3 : Int32)).toNatClampNeg i1) ((s_t_count * (3 : Int32)) + (1 : Int32)).toNatClampNeg i2) ((s_t_count * (3 : Int32)) + (2 : Int32)).toNatClampNeg i3)))] := hD
    refine lv_aload_n hx hb dX1_add_49 rfl (lv_at hl 0 rfl) ?_
    refine lv_dup hx hb dX1_add_50 rfl ?_
    refine xget (ci := 1) (C := RX1) (T := TX1) (N := 2) hfix xiX1 hK.1 hP 0 rfl rfl 1 (by decide) rfl xw_88 rfl dX1_add_51 ?_
    refine lv_iconst (v := (1 : Int32)) hx hb dX1_add_54 (by decide) ?_
    refine lv_iadd hx hb dX1_add_55 ?_
    refine xput (ci := 1) (C := RX1) (T := TX1) (N := 2) hfix xiX1 tyX1 tyX1_ok nmX1 hK.1 hP hD hS 0 rfl rfl 1 (by decide) rfl rfl xw_88 (ty := .int) rfl rfl rfl (Nat.le_of_ble_eq_true rfl) dX1_add_56 (wn := [(a_t, .inr (1, [.ref a_t_cells, .int (s_t_count + (1 : Int32))])), (a_t_cells, .inl (cI, 72, .inl (upd (upd (upd v_t_cells (s_t_count * (3 : Int32)).toNatClampNeg i1) ((s_t_count * (3 : Int32)) + (1 : Int32)).toNatClampNeg i2) ((s_t_count * (3 : Int32)) + (2 : Int32)).toNatClampNeg i3)))]) rfl (fun H locs hP hD hS => ?_)
    obtain ⟨rfl, rfl⟩ := pj2 hF
    exact hEnd _ _ _ _ dX1_add_59 hP hS
def f_X1_isCell (i1 : Int32) (i2 : Int32) (s_t_count : Int32) : Int32 := (if i1 < (0 : Int32) then ((0 : Int32)) else (if s_t_count ≤ i1 then ((0 : Int32)) else (if (24 : Int32) ≤ i1 then ((0 : Int32)) else (if i2 < (0 : Int32) then ((0 : Int32)) else (if (3 : Int32) ≤ i2 then ((0 : Int32)) else ((1 : Int32)))))))
abbrev rmX1_isCell : Room := { frames := 0, cells := 0, slots := 0, locals := 0 }
set_option maxHeartbeats 400000 in
set_option maxRecDepth 100000 in
theorem c_X1_isCell (l : Launch) (D : va_G) (cI cB cJ : ClassId) (a_t : Nat) (a_t_cells : Nat) (sz : Nat) (s_t_count : Int32) (i1 : Int32) (i2 : Int32) (r : Int32) (hF : f_X1_isCell i1 i2 s_t_count = r) : xMz l yX1_isCell (.code yX1_isCell cX1_isCell 3 (some .boolean) :: xU) rmX1_isCell (xK D cI cB cJ) D sz [.ref a_t, .int i1, .int i2] [(a_t, .inr (1, [.ref a_t_cells, .int s_t_count]))] [(a_t, .inr (1, [.ref a_t_cells, .int s_t_count]))] r := by
  refine xMz.mk (own := "FairNext$Rows") (by decide +kernel) rfl (Nat.le_of_ble_eq_true rfl) ?_
  intro p e s m args below meth c A Q ls H hfix hK hP hD hA hS hl hEnd
  obtain ⟨hx, hb, hml, hown, hts⟩ := id hfix
  have hl : lv_has ls 3 [(0, .ref a_t), (1, .int i1), (2, .int i2)] := hl
  rw [f_X1_isCell] at hF
  refine lv_iload_n hx hb dX1_isCell_0 rfl (lv_at hl 1 rfl) ?_
  refine lv_if_lt (tgt := 31) hx hb dX1_isCell_1 (by decide) (fun c_1 => ?_) (fun c_1 => ?_)
  · replace hF := if_t c_1 hF
    refine lv_iconst (v := (0 : Int32)) hx hb dX1_isCell_31 (by decide) ?_
    subst hF
    exact hEnd _ _ _ _ _ dX1_isCell_32 hP hS x01_0 rfl
  · replace hF := if_f c_1 hF
    refine lv_iload_n hx hb dX1_isCell_4 rfl (lv_at hl 1 rfl) ?_
    refine lv_aload_n hx hb dX1_isCell_5 rfl (lv_at hl 0 rfl) ?_
    refine xget (ci := 1) (C := RX1) (T := TX1) (N := 2) hfix xiX1 hK.1 hP 0 rfl rfl 1 (by decide) rfl xw_88 rfl dX1_isCell_6 ?_
    refine lv_icmp_ge (tgt := 31) hx hb dX1_isCell_9 (by decide) (fun c_2 => ?_) (fun c_2 => ?_)
    · replace hF := if_t c_2 hF
      refine lv_iconst (v := (0 : Int32)) hx hb dX1_isCell_31 (by decide) ?_
      subst hF
      exact hEnd _ _ _ _ _ dX1_isCell_32 hP hS x01_0 rfl
    · replace hF := if_f c_2 hF
      refine lv_iload_n hx hb dX1_isCell_12 rfl (lv_at hl 1 rfl) ?_
      refine lv_bipush (v := (24 : Int32)) hx hb dX1_isCell_13 (by decide) ?_
      refine lv_icmp_ge (tgt := 31) hx hb dX1_isCell_15 (by decide) (fun c_3 => ?_) (fun c_3 => ?_)
      · replace hF := if_t c_3 hF
        refine lv_iconst (v := (0 : Int32)) hx hb dX1_isCell_31 (by decide) ?_
        subst hF
        exact hEnd _ _ _ _ _ dX1_isCell_32 hP hS x01_0 rfl
      · replace hF := if_f c_3 hF
        refine lv_iload_n hx hb dX1_isCell_18 rfl (lv_at hl 2 rfl) ?_
        refine lv_if_lt (tgt := 31) hx hb dX1_isCell_19 (by decide) (fun c_4 => ?_) (fun c_4 => ?_)
        · replace hF := if_t c_4 hF
          refine lv_iconst (v := (0 : Int32)) hx hb dX1_isCell_31 (by decide) ?_
          subst hF
          exact hEnd _ _ _ _ _ dX1_isCell_32 hP hS x01_0 rfl
        · replace hF := if_f c_4 hF
          refine lv_iload_n hx hb dX1_isCell_22 rfl (lv_at hl 2 rfl) ?_
          refine lv_iconst (v := (3 : Int32)) hx hb dX1_isCell_23 (by decide) ?_
          refine lv_icmp_ge (tgt := 31) hx hb dX1_isCell_24 (by decide) (fun c_5 => ?_) (fun c_5 => ?_)
          · replace hF := if_t c_5 hF
            refine lv_iconst (v := (0 : Int32)) hx hb dX1_isCell_31 (by decide) ?_
            subst hF
            exact hEnd _ _ _ _ _ dX1_isCell_32 hP hS x01_0 rfl
          · replace hF := if_f c_5 hF
            refine lv_iconst (v := (1 : Int32)) hx hb dX1_isCell_27 (by decide) ?_
            refine lv_goto (tgt := 32) hx hb dX1_isCell_28 (by decide) ?_
            subst hF
            exact hEnd _ _ _ _ _ dX1_isCell_32 hP hS x01_1 rfl
def f_X1_is (i1 : Int32) (i2 : Int32) (i3 : Int32) (i4 : Int32) (s_t_count : Int32) (v_t_cells : (Nat → Int32)) : Option (Int32) := (if (f_X1_isCell i1 (0 : Int32) s_t_count) = (0 : Int32) then some ((0 : Int32)) else gd (i1 * (3 : Int32)) 72 ((if (v_t_cells (i1 * (3 : Int32)).toNatClampNeg) = i2 then gd ((i1 * (3 : Int32)) + (1 : Int32)) 72 ((if (v_t_cells ((i1 * (3 : Int32)) + (1 : Int32)).toNatClampNeg) = i3 then gd ((i1 * (3 : Int32)) + (2 : Int32)) 72 ((if (v_t_cells ((i1 * (3 : Int32)) + (2 : Int32)).toNatClampNeg) = i4 then some ((1 : Int32)) else some ((0 : Int32)))) else some ((0 : Int32)))) else some ((0 : Int32)))))
abbrev rmX1_is : Room := { frames := 1, cells := 0, slots := 0, locals := 22 }
set_option maxHeartbeats 400000 in
set_option maxRecDepth 100000 in
theorem c_X1_is (l : Launch) (D : va_G) (cI cB cJ : ClassId) (a_t : Nat) (a_t_cells : Nat) (sz : Nat) (s_t_count : Int32) (v_t_cells : (Nat → Int32)) (i1 : Int32) (i2 : Int32) (i3 : Int32) (i4 : Int32) (r : Int32) (hF : f_X1_is i1 i2 i3 i4 s_t_count v_t_cells = some r) : xMz l yX1_is (.code yX1_is cX1_is 5 (some .boolean) :: xU) rmX1_is (xK D cI cB cJ) D sz [.ref a_t, .int i1, .int i2, .int i3, .int i4] [(a_t, .inr (1, [.ref a_t_cells, .int s_t_count])), (a_t_cells, .inl (cI, 72, .inl v_t_cells))] [(a_t, .inr (1, [.ref a_t_cells, .int s_t_count])), (a_t_cells, .inl (cI, 72, .inl v_t_cells))] r := by
  refine xMz.mk (own := "FairNext$Rows") (by decide +kernel) rfl (Nat.le_of_ble_eq_true rfl) ?_
  intro p e s m args below meth c A Q ls H hfix hK hP hD hA hS hl hEnd
  obtain ⟨hx, hb, hml, hown, hts⟩ := id hfix
  have hl : lv_has ls 5 [(0, .ref a_t), (1, .int i1), (2, .int i2), (3, .int i3), (4, .int i4)] := hl
  rw [f_X1_is] at hF
  refine lv_aload_n hx hb dX1_is_0 rfl (lv_at hl 0 rfl) ?_
  refine lv_iload_n hx hb dX1_is_1 rfl (lv_at hl 1 rfl) ?_
  refine lv_iconst (v := (0 : Int32)) hx hb dX1_is_2 (by decide) ?_
  refine xrz0 (xrunV (As := [.int i1, .int (0 : Int32)]) (rest := []) (c_X1_isCell l D cI cB cJ a_t a_t_cells _ s_t_count i1 (0 : Int32) (f_X1_isCell i1 (0 : Int32) s_t_count) rfl) hfix xw_586 yv_X1_isCell ⟨rfl, rfl⟩ ⟨(Nat.le_of_ble_eq_true rfl), (Nat.le_of_ble_eq_true rfl)⟩ xKk_K (fun U hU hW => xK.warm hW hK) hK.1 hP hD [0] rfl rfl 0 1 rfl rfl rfl rfl hl.1 rfl (Nat.le_of_ble_eq_true rfl) dX1_is_3 ⟨Nat.zero_le _, Nat.zero_le _⟩) hP hD hS hA [0] rfl rfl (fun H locs hP hD hS hz_1 => ?_)
  refine lv_if_eq (tgt := 54) hx hb dX1_is_6 (by decide) (fun c_2 => ?_) (fun c_2 => ?_)
  · replace hF := if_t c_2 hF
    refine lv_iconst (v := (0 : Int32)) hx hb dX1_is_54 (by decide) ?_
    obtain rfl := Option.some.inj hF
    exact hEnd _ _ _ _ _ dX1_is_55 hP hS x01_0 rfl
  · replace hF := if_f c_2 hF
    refine lv_aload_n hx hb dX1_is_9 rfl (lv_at hl 0 rfl) ?_
    refine xget (ci := 1) (C := RX1) (T := TX1) (N := 2) hfix xiX1 hK.1 hP 0 rfl rfl 0 (by decide) rfl xw_86 rfl dX1_is_10 ?_
    refine lv_iload_n hx hb dX1_is_13 rfl (lv_at hl 1 rfl) ?_
    refine lv_iconst (v := (3 : Int32)) hx hb dX1_is_14 (by decide) ?_
    refine lv_imul hx hb dX1_is_15 ?_
    obtain ⟨c_3, hF⟩ := gd_e hF
    refine va_iald hx hb hK.1 hP 1 0 rfl rfl c_3 dX1_is_16 ?_
    refine lv_iload_n hx hb dX1_is_17 rfl (lv_at hl 2 rfl) ?_
    refine lv_icmp_ne (tgt := 54) hx hb dX1_is_18 (by decide) (fun c_4 => ?_) (fun c_4 => ?_)
    · replace hF := if_f c_4 hF
      refine lv_iconst (v := (0 : Int32)) hx hb dX1_is_54 (by decide) ?_
      obtain rfl := Option.some.inj hF
      exact hEnd _ _ _ _ _ dX1_is_55 hP hS x01_0 rfl
    · replace hF := if_t c_4 hF
      refine lv_aload_n hx hb dX1_is_21 rfl (lv_at hl 0 rfl) ?_
      refine xget (ci := 1) (C := RX1) (T := TX1) (N := 2) hfix xiX1 hK.1 hP 0 rfl rfl 0 (by decide) rfl xw_86 rfl dX1_is_22 ?_
      refine lv_iload_n hx hb dX1_is_25 rfl (lv_at hl 1 rfl) ?_
      refine lv_iconst (v := (3 : Int32)) hx hb dX1_is_26 (by decide) ?_
      refine lv_imul hx hb dX1_is_27 ?_
      refine lv_iconst (v := (1 : Int32)) hx hb dX1_is_28 (by decide) ?_
      refine lv_iadd hx hb dX1_is_29 ?_
      obtain ⟨c_5, hF⟩ := gd_e hF
      refine va_iald hx hb hK.1 hP 1 0 rfl rfl c_5 dX1_is_30 ?_
      refine lv_iload_n hx hb dX1_is_31 rfl (lv_at hl 3 rfl) ?_
      refine lv_icmp_ne (tgt := 54) hx hb dX1_is_32 (by decide) (fun c_6 => ?_) (fun c_6 => ?_)
      · replace hF := if_f c_6 hF
        refine lv_iconst (v := (0 : Int32)) hx hb dX1_is_54 (by decide) ?_
        obtain rfl := Option.some.inj hF
        exact hEnd _ _ _ _ _ dX1_is_55 hP hS x01_0 rfl
      · replace hF := if_t c_6 hF
        refine lv_aload_n hx hb dX1_is_35 rfl (lv_at hl 0 rfl) ?_
        refine xget (ci := 1) (C := RX1) (T := TX1) (N := 2) hfix xiX1 hK.1 hP 0 rfl rfl 0 (by decide) rfl xw_86 rfl dX1_is_36 ?_
        refine lv_iload_n hx hb dX1_is_39 rfl (lv_at hl 1 rfl) ?_
        refine lv_iconst (v := (3 : Int32)) hx hb dX1_is_40 (by decide) ?_
        refine lv_imul hx hb dX1_is_41 ?_
        refine lv_iconst (v := (2 : Int32)) hx hb dX1_is_42 (by decide) ?_
        refine lv_iadd hx hb dX1_is_43 ?_
        obtain ⟨c_7, hF⟩ := gd_e hF
        refine va_iald hx hb hK.1 hP 1 0 rfl rfl c_7 dX1_is_44 ?_
        refine lv_iload hx hb dX1_is_45 (lv_at hl 4 rfl) ?_
        refine lv_icmp_ne (tgt := 54) hx hb dX1_is_47 (by decide) (fun c_8 => ?_) (fun c_8 => ?_)
        · replace hF := if_f c_8 hF
          refine lv_iconst (v := (0 : Int32)) hx hb dX1_is_54 (by decide) ?_
          obtain rfl := Option.some.inj hF
          exact hEnd _ _ _ _ _ dX1_is_55 hP hS x01_0 rfl
        · replace hF := if_t c_8 hF
          refine lv_iconst (v := (1 : Int32)) hx hb dX1_is_50 (by decide) ?_
          refine lv_goto (tgt := 55) hx hb dX1_is_51 (by decide) ?_
          obtain rfl := Option.some.inj hF
          exact hEnd _ _ _ _ _ dX1_is_55 hP hS x01_1 rfl
def f_X2_renew_L27 (i1 : Int32) : Nat → Int32 → (Nat → Int64) → Option ((Nat → Int64))
  | 0, _, _ => none
  | n + 1, x4_5, xv_t_items_6 => (if (40 : Int32) ≤ x4_5 then some (xv_t_items_6) else gd ((i1 * (40 : Int32)) + x4_5) 160 (f_X2_renew_L27 i1 n (x4_5 + (1 : Int32)) (vp_updL xv_t_items_6 ((i1 * (40 : Int32)) + x4_5).toNatClampNeg (0 : Int64))))
def f_X2_renew (i1 : Int32) (i2 : Int32) (i3 : Int32) (v_t_sort : (Nat → Int32)) (v_t_size : (Nat → Int32)) (v_t_items : (Nat → Int64)) : Option ((Nat → Int32) × (Nat → Int32) × (Nat → Int64)) := (if i1 < (0 : Int32) then some ((v_t_sort, v_t_size, v_t_items)) else (if i1 < (4 : Int32) then gd i1 4 (gd i1 4 (bd1 (f_X2_renew_L27 i1 1000 (0 : Int32) v_t_items) (fun (yv_t_items_7 : (Nat → Int64)) => some (((upd v_t_sort i1.toNatClampNeg i2), (upd v_t_size i1.toNatClampNeg i3), yv_t_items_7))))) else some ((v_t_sort, v_t_size, v_t_items))))
abbrev rmX2_renew : Room := { frames := 0, cells := 0, slots := 0, locals := 0 }
set_option maxHeartbeats 400000 in
set_option maxRecDepth 100000 in
theorem c_X2_renew (l : Launch) (D : va_G) (cI cB cJ : ClassId) (a_t : Nat) (a_t_sort : Nat) (a_t_size : Nat) (a_t_items : Nat) (sz : Nat) (v_t_sort : (Nat → Int32)) (v_t_size : (Nat → Int32)) (v_t_items : (Nat → Int64)) (i1 : Int32) (i2 : Int32) (i3 : Int32) (o_v_t_sort : (Nat → Int32)) (o_v_t_size : (Nat → Int32)) (o_v_t_items : (Nat → Int64)) (hF : f_X2_renew i1 i2 i3 v_t_sort v_t_size v_t_items = some (o_v_t_sort, o_v_t_size, o_v_t_items)) : xMv l yX2_renew (.code yX2_renew cX2_renew 5 none :: xU) rmX2_renew (xK D cI cB cJ) D sz [.ref a_t, .int i1, .int i2, .int i3] [(a_t, .inr (2, [.ref a_t_sort, .ref a_t_size, .ref a_t_items])), (a_t_sort, .inl (cI, 4, .inl v_t_sort)), (a_t_size, .inl (cI, 4, .inl v_t_size)), (a_t_items, .inl (cJ, 160, .inr (.inl v_t_items)))] [(a_t, .inr (2, [.ref a_t_sort, .ref a_t_size, .ref a_t_items])), (a_t_sort, .inl (cI, 4, .inl o_v_t_sort)), (a_t_size, .inl (cI, 4, .inl o_v_t_size)), (a_t_items, .inl (cJ, 160, .inr (.inl o_v_t_items)))] := by
  refine xMv.mk (own := "FairNext$Sheets") (by decide +kernel) rfl (Nat.le_of_ble_eq_true rfl) ?_
  intro p e s m args below meth c A Q ls H hfix hK hP hD hA hS hl hEnd
  obtain ⟨hx, hb, hml, hown, hts⟩ := id hfix
  have hl : lv_has ls 5 [(0, .ref a_t), (1, .int i1), (2, .int i2), (3, .int i3)] := hl
  rw [f_X2_renew] at hF
  refine lv_iload_n hx hb dX2_renew_0 rfl (lv_at hl 1 rfl) ?_
  refine lv_if_lt (tgt := 9) hx hb dX2_renew_1 (by decide) (fun c_1 => ?_) (fun c_1 => ?_)
  · replace hF := if_t c_1 hF
    obtain ⟨rfl, rfl, rfl⟩ := pj3 hF
    exact hEnd _ _ _ _ dX2_renew_9 hP hS
  · replace hF := if_f c_1 hF
    refine lv_iload_n hx hb dX2_renew_4 rfl (lv_at hl 1 rfl) ?_
    refine lv_iconst (v := (4 : Int32)) hx hb dX2_renew_5 (by decide) ?_
    refine lv_icmp_lt (tgt := 10) hx hb dX2_renew_6 (by decide) (fun c_2 => ?_) (fun c_2 => ?_)
    · replace hF := if_t c_2 hF
      refine lv_aload_n hx hb dX2_renew_10 rfl (lv_at hl 0 rfl) ?_
      refine xget (ci := 2) (C := RX2) (T := TX2) (N := 3) hfix xiX2 hK.1 hP 0 rfl rfl 0 (by decide) rfl xw_101 rfl dX2_renew_11 ?_
      refine lv_iload_n hx hb dX2_renew_14 rfl (lv_at hl 1 rfl) ?_
      refine lv_iload_n hx hb dX2_renew_15 rfl (lv_at hl 2 rfl) ?_
      obtain ⟨c_3, hF⟩ := gd_e hF
      refine va_iast hx hb hK.1 hP hD hS 1 0 rfl rfl c_3 dX2_renew_16 (fun H locs hP hD hS => ?_)
      have hP : va_P D vwCl [(a_t, .inr (2, [.ref a_t_sort, .ref a_t_size, .ref a_t_items])), (a_t_sort, .inl (cI, 4, .inl (upd v_t_sort i1.toNatClampNeg i2))), (a_t_size, .inl (cI, 4, .inl v_t_size)), (a_t_items, .inl (cJ, 160, .inr (.inl v_t_items)))] H := hP
      have hD : va_D A [(a_t, .inr (2, [.ref a_t_sort, .ref a_t_size, .ref a_t_items])), (a_t_sort, .inl (cI, 4, .inl (upd v_t_sort i1.toNatClampNeg i2))), (a_t_size, .inl (cI, 4, .inl v_t_size)), (a_t_items, .inl (cJ, 160, .inr (.inl v_t_items)))] := hD
      refine lv_aload_n hx hb dX2_renew_17 rfl (lv_at hl 0 rfl) ?_
      refine xget (ci := 2) (C := RX2) (T := TX2) (N := 3) hfix xiX2 hK.1 hP 0 rfl rfl 1 (by decide) rfl xw_103 rfl dX2_renew_18 ?_
      refine lv_iload_n hx hb dX2_renew_21 rfl (lv_at hl 1 rfl) ?_
      refine lv_iload_n hx hb dX2_renew_22 rfl (lv_at hl 3 rfl) ?_
      obtain ⟨c_4, hF⟩ := gd_e hF
      refine va_iast hx hb hK.1 hP hD hS 2 0 rfl rfl c_4 dX2_renew_23 (fun H locs hP hD hS => ?_)
      have hP : va_P D vwCl [(a_t, .inr (2, [.ref a_t_sort, .ref a_t_size, .ref a_t_items])), (a_t_sort, .inl (cI, 4, .inl (upd v_t_sort i1.toNatClampNeg i2))), (a_t_size, .inl (cI, 4, .inl (upd v_t_size i1.toNatClampNeg i3))), (a_t_items, .inl (cJ, 160, .inr (.inl v_t_items)))] H := hP
      have hD : va_D A [(a_t, .inr (2, [.ref a_t_sort, .ref a_t_size, .ref a_t_items])), (a_t_sort, .inl (cI, 4, .inl (upd v_t_sort i1.toNatClampNeg i2))), (a_t_size, .inl (cI, 4, .inl (upd v_t_size i1.toNatClampNeg i3))), (a_t_items, .inl (cJ, 160, .inr (.inl v_t_items)))] := hD
      refine lv_iconst (v := (0 : Int32)) hx hb dX2_renew_24 (by decide) ?_
      refine lv_istore (lv' := [(4, .int (0 : Int32)), (0, .ref a_t), (1, .int i1), (2, .int i2), (3, .int i3)]) hx hb dX2_renew_25 hl (by decide) rfl (fun ls hl => ?_)
      have hL_27 : ∀ (n : Nat) (x4_5 : Int32) (xv_t_items_6 : (Nat → Int64)) (yv_t_items_7 : (Nat → Int64)), f_X2_renew_L27 i1 n x4_5 xv_t_items_6 = some yv_t_items_7 → ∀ (H : Heap) (locs : List Loc) (ls : Array Slot), va_P D vwCl [(a_t, .inr (2, [.ref a_t_sort, .ref a_t_size, .ref a_t_items])), (a_t_sort, .inl (cI, 4, .inl (upd v_t_sort i1.toNatClampNeg i2))), (a_t_size, .inl (cI, 4, .inl (upd v_t_size i1.toNatClampNeg i3))), (a_t_items, .inl (cJ, 160, .inr (.inl xv_t_items_6)))] H → va_D A [(a_t, .inr (2, [.ref a_t_sort, .ref a_t_size, .ref a_t_items])), (a_t_sort, .inl (cI, 4, .inl (upd v_t_sort i1.toNatClampNeg i2))), (a_t_size, .inl (cI, 4, .inl (upd v_t_size i1.toNatClampNeg i3))), (a_t_items, .inl (cJ, 160, .inr (.inl xv_t_items_6)))] → va_S A s.heap H locs → lv_has ls 5 [(0, .ref a_t), (1, .int i1), (4, .int x4_5)] → (∀ (H : Heap) (locs : List Loc) (ls : Array Slot), va_P D vwCl [(a_t, .inr (2, [.ref a_t_sort, .ref a_t_size, .ref a_t_items])), (a_t_sort, .inl (cI, 4, .inl (upd v_t_sort i1.toNatClampNeg i2))), (a_t_size, .inl (cI, 4, .inl (upd v_t_size i1.toNatClampNeg i3))), (a_t_items, .inl (cJ, 160, .inr (.inl yv_t_items_7)))] H → va_D A [(a_t, .inr (2, [.ref a_t_sort, .ref a_t_size, .ref a_t_items])), (a_t_sort, .inl (cI, 4, .inl (upd v_t_sort i1.toNatClampNeg i2))), (a_t_size, .inl (cI, 4, .inl (upd v_t_size i1.toNatClampNeg i3))), (a_t_items, .inl (cJ, 160, .inr (.inl yv_t_items_7)))] → va_S A s.heap H locs → lv_has ls 5 [] → W p l e rmX2_renew s m args below meth c H locs 0 0 Q (F0 m 53 ls [])) → W p l e rmX2_renew s m args below meth c H locs 0 0 Q (F0 m 27 ls []) := by
        intro n
        induction n with
        | zero => intro x4_5 xv_t_items_6 yv_t_items_7 hF; exact (no_some hF).elim
        | succ n ih =>
          intro x4_5 xv_t_items_6 yv_t_items_7 hF H locs ls hP hD hS hl kexit
          rw [f_X2_renew_L27] at hF
          refine lv_iload hx hb dX2_renew_27 (lv_at hl 2 rfl) ?_
          refine lv_bipush (v := (40 : Int32)) hx hb dX2_renew_29 (by decide) ?_
          refine lv_icmp_ge (tgt := 53) hx hb dX2_renew_31 (by decide) (fun c_8 => ?_) (fun c_8 => ?_)
          · replace hF := if_t c_8 hF
            obtain rfl := Option.some.inj hF
            exact kexit _ _ _ hP hD hS (lv_sub hl [] rfl)
          · replace hF := if_f c_8 hF
            refine lv_aload_n hx hb dX2_renew_34 rfl (lv_at hl 0 rfl) ?_
            refine xget (ci := 2) (C := RX2) (T := TX2) (N := 3) hfix xiX2 hK.1 hP 0 rfl rfl 2 (by decide) rfl xw_105 rfl dX2_renew_35 ?_
            refine lv_iload_n hx hb dX2_renew_38 rfl (lv_at hl 1 rfl) ?_
            refine lv_bipush (v := (40 : Int32)) hx hb dX2_renew_39 (by decide) ?_
            refine lv_imul hx hb dX2_renew_41 ?_
            refine lv_iload hx hb dX2_renew_42 (lv_at hl 2 rfl) ?_
            refine lv_iadd hx hb dX2_renew_44 ?_
            refine lv_lconst (v := (0 : Int64)) hx hb dX2_renew_45 (by decide) ?_
            obtain ⟨c_9, hF⟩ := gd_e hF
            refine va_last hx hb hK.1 hP hD hS 3 2 rfl rfl c_9 dX2_renew_46 (fun H locs hP hD hS => ?_)
            have hP : va_P D vwCl [(a_t, .inr (2, [.ref a_t_sort, .ref a_t_size, .ref a_t_items])), (a_t_sort, .inl (cI, 4, .inl (upd v_t_sort i1.toNatClampNeg i2))), (a_t_size, .inl (cI, 4, .inl (upd v_t_size i1.toNatClampNeg i3))), (a_t_items, .inl (cJ, 160, .inr (.inl (vp_updL xv_t_items_6 ((i1 * (40 : Int32)) + x4_5).toNatClampNeg (0 : Int64)))))] H := hP
            have hD : va_D A [(a_t, .inr (2, [.ref a_t_sort, .ref a_t_size, .ref a_t_items])), (a_t_sort, .inl (cI, 4, .inl (upd v_t_sort i1.toNatClampNeg i2))), (a_t_size, .inl (cI, 4, .inl (upd v_t_size i1.toNatClampNeg i3))), (a_t_items, .inl (cJ, 160, .inr (.inl (vp_updL xv_t_items_6 ((i1 * (40 : Int32)) + x4_5).toNatClampNeg (0 : Int64)))))] := hD
            refine lv_iinc (v := (x4_5 + (1 : Int32))) (lv' := [(4, .int (x4_5 + (1 : Int32))), (0, .ref a_t), (1, .int i1)]) hx hb dX2_renew_47 hl (k := 2) rfl rfl (by decide) rfl (fun ls hl => ?_)
            refine lv_goto (tgt := 27) hx hb dX2_renew_50 (by decide) ?_
            exact ih _ _ _ hF _ _ _ hP hD hS (lv_sub hl [1, 2, 0] rfl) kexit
      obtain ⟨yv_t_items_7, hq, hF⟩ := bd1_e hF
      refine hL_27 _ _ _ _ hq _ _ _ hP hD hS (lv_sub hl [1, 2, 0] rfl) (fun H locs ls hP hD hS hl => ?_)
      obtain ⟨rfl, rfl, rfl⟩ := pj3 hF
      exact hEnd _ _ _ _ dX2_renew_53 hP hS
    · replace hF := if_f c_2 hF
      obtain ⟨rfl, rfl, rfl⟩ := pj3 hF
      exact hEnd _ _ _ _ dX2_renew_9 hP hS
def f_X3_clear (i1 : Int32) (v_t_rule : (Nat → Int32)) (v_t_sort : (Nat → Int32)) (v_t_size : (Nat → Int32)) : Option ((Nat → Int32) × (Nat → Int32) × (Nat → Int32)) := (if i1 < (0 : Int32) then some ((v_t_rule, v_t_sort, v_t_size)) else (if (4 : Int32) ≤ i1 then some ((v_t_rule, v_t_sort, v_t_size)) else gd i1 4 (gd i1 4 (gd i1 4 (some (((upd v_t_rule i1.toNatClampNeg (-1 : Int32)), (upd v_t_sort i1.toNatClampNeg (-1 : Int32)), (upd v_t_size i1.toNatClampNeg (0 : Int32)))))))))
abbrev rmX3_clear : Room := { frames := 0, cells := 0, slots := 0, locals := 0 }
set_option maxHeartbeats 400000 in
set_option maxRecDepth 100000 in
theorem c_X3_clear (l : Launch) (D : va_G) (cI cB cJ : ClassId) (a_t : Nat) (a_t_rule : Nat) (a_t_sort : Nat) (a_t_size : Nat) (sz : Nat) (v_t_rule : (Nat → Int32)) (v_t_sort : (Nat → Int32)) (v_t_size : (Nat → Int32)) (i1 : Int32) (o_v_t_rule : (Nat → Int32)) (o_v_t_sort : (Nat → Int32)) (o_v_t_size : (Nat → Int32)) (hF : f_X3_clear i1 v_t_rule v_t_sort v_t_size = some (o_v_t_rule, o_v_t_sort, o_v_t_size)) : xMv l yX3_clear (.code yX3_clear cX3_clear 2 none :: xU) rmX3_clear (xK D cI cB cJ) D sz [.ref a_t, .int i1] [(a_t, .inr (3, [.ref a_t_rule, .ref a_t_sort, .ref a_t_size])), (a_t_rule, .inl (cI, 4, .inl v_t_rule)), (a_t_sort, .inl (cI, 4, .inl v_t_sort)), (a_t_size, .inl (cI, 4, .inl v_t_size))] [(a_t, .inr (3, [.ref a_t_rule, .ref a_t_sort, .ref a_t_size])), (a_t_rule, .inl (cI, 4, .inl o_v_t_rule)), (a_t_sort, .inl (cI, 4, .inl o_v_t_sort)), (a_t_size, .inl (cI, 4, .inl o_v_t_size))] := by
  refine xMv.mk (own := "FairNext$Shelves") (by decide +kernel) rfl (Nat.le_of_ble_eq_true rfl) ?_
  intro p e s m args below meth c A Q ls H hfix hK hP hD hA hS hl hEnd
  obtain ⟨hx, hb, hml, hown, hts⟩ := id hfix
  have hl : lv_has ls 2 [(0, .ref a_t), (1, .int i1)] := hl
  rw [f_X3_clear] at hF
  refine lv_iload_n hx hb dX3_clear_0 rfl (lv_at hl 1 rfl) ?_
  refine lv_if_lt (tgt := 30) hx hb dX3_clear_1 (by decide) (fun c_1 => ?_) (fun c_1 => ?_)
  · replace hF := if_t c_1 hF
    obtain ⟨rfl, rfl, rfl⟩ := pj3 hF
    exact hEnd _ _ _ _ dX3_clear_30 hP hS
  · replace hF := if_f c_1 hF
    refine lv_iload_n hx hb dX3_clear_4 rfl (lv_at hl 1 rfl) ?_
    refine lv_iconst (v := (4 : Int32)) hx hb dX3_clear_5 (by decide) ?_
    refine lv_icmp_ge (tgt := 30) hx hb dX3_clear_6 (by decide) (fun c_2 => ?_) (fun c_2 => ?_)
    · replace hF := if_t c_2 hF
      obtain ⟨rfl, rfl, rfl⟩ := pj3 hF
      exact hEnd _ _ _ _ dX3_clear_30 hP hS
    · replace hF := if_f c_2 hF
      refine lv_aload_n hx hb dX3_clear_9 rfl (lv_at hl 0 rfl) ?_
      refine xget (ci := 3) (C := RX3) (T := TX3) (N := 3) hfix xiX3 hK.1 hP 0 rfl rfl 0 (by decide) rfl xw_121 rfl dX3_clear_10 ?_
      refine lv_iload_n hx hb dX3_clear_13 rfl (lv_at hl 1 rfl) ?_
      refine lv_iconst (v := (-1 : Int32)) hx hb dX3_clear_14 (by decide) ?_
      obtain ⟨c_3, hF⟩ := gd_e hF
      refine va_iast hx hb hK.1 hP hD hS 1 0 rfl rfl c_3 dX3_clear_15 (fun H locs hP hD hS => ?_)
      have hP : va_P D vwCl [(a_t, .inr (3, [.ref a_t_rule, .ref a_t_sort, .ref a_t_size])), (a_t_rule, .inl (cI, 4, .inl (upd v_t_rule i1.toNatClampNeg (-1 : Int32)))), (a_t_sort, .inl (cI, 4, .inl v_t_sort)), (a_t_size, .inl (cI, 4, .inl v_t_size))] H := hP
      have hD : va_D A [(a_t, .inr (3, [.ref a_t_rule, .ref a_t_sort, .ref a_t_size])), (a_t_rule, .inl (cI, 4, .inl (upd v_t_rule i1.toNatClampNeg (-1 : Int32)))), (a_t_sort, .inl (cI, 4, .inl v_t_sort)), (a_t_size, .inl (cI, 4, .inl v_t_size))] := hD
      refine lv_aload_n hx hb dX3_clear_16 rfl (lv_at hl 0 rfl) ?_
      refine xget (ci := 3) (C := RX3) (T := TX3) (N := 3) hfix xiX3 hK.1 hP 0 rfl rfl 1 (by decide) rfl xw_123 rfl dX3_clear_17 ?_
      refine lv_iload_n hx hb dX3_clear_20 rfl (lv_at hl 1 rfl) ?_
      refine lv_iconst (v := (-1 : Int32)) hx hb dX3_clear_21 (by decide) ?_
      obtain ⟨c_4, hF⟩ := gd_e hF
      refine va_iast hx hb hK.1 hP hD hS 2 0 rfl rfl c_4 dX3_clear_22 (fun H locs hP hD hS => ?_)
      have hP : va_P D vwCl [(a_t, .inr (3, [.ref a_t_rule, .ref a_t_sort, .ref a_t_size])), (a_t_rule, .inl (cI, 4, .inl (upd v_t_rule i1.toNatClampNeg (-1 : Int32)))), (a_t_sort, .inl (cI, 4, .inl (upd v_t_sort i1.toNatClampNeg (-1 : Int32)))), (a_t_size, .inl (cI, 4, .inl v_t_size))] H := hP
      have hD : va_D A [(a_t, .inr (3, [.ref a_t_rule, .ref a_t_sort, .ref a_t_size])), (a_t_rule, .inl (cI, 4, .inl (upd v_t_rule i1.toNatClampNeg (-1 : Int32)))), (a_t_sort, .inl (cI, 4, .inl (upd v_t_sort i1.toNatClampNeg (-1 : Int32)))), (a_t_size, .inl (cI, 4, .inl v_t_size))] := hD
      refine lv_aload_n hx hb dX3_clear_23 rfl (lv_at hl 0 rfl) ?_
      refine xget (ci := 3) (C := RX3) (T := TX3) (N := 3) hfix xiX3 hK.1 hP 0 rfl rfl 2 (by decide) rfl xw_125 rfl dX3_clear_24 ?_
      refine lv_iload_n hx hb dX3_clear_27 rfl (lv_at hl 1 rfl) ?_
      refine lv_iconst (v := (0 : Int32)) hx hb dX3_clear_28 (by decide) ?_
      obtain ⟨c_5, hF⟩ := gd_e hF
      refine va_iast hx hb hK.1 hP hD hS 3 0 rfl rfl c_5 dX3_clear_29 (fun H locs hP hD hS => ?_)
      have hP : va_P D vwCl [(a_t, .inr (3, [.ref a_t_rule, .ref a_t_sort, .ref a_t_size])), (a_t_rule, .inl (cI, 4, .inl (upd v_t_rule i1.toNatClampNeg (-1 : Int32)))), (a_t_sort, .inl (cI, 4, .inl (upd v_t_sort i1.toNatClampNeg (-1 : Int32)))), (a_t_size, .inl (cI, 4, .inl (upd v_t_size i1.toNatClampNeg (0 : Int32))))] H := hP
      have hD : va_D A [(a_t, .inr (3, [.ref a_t_rule, .ref a_t_sort, .ref a_t_size])), (a_t_rule, .inl (cI, 4, .inl (upd v_t_rule i1.toNatClampNeg (-1 : Int32)))), (a_t_sort, .inl (cI, 4, .inl (upd v_t_sort i1.toNatClampNeg (-1 : Int32)))), (a_t_size, .inl (cI, 4, .inl (upd v_t_size i1.toNatClampNeg (0 : Int32))))] := hD
      obtain ⟨rfl, rfl, rfl⟩ := pj3 hF
      exact hEnd _ _ _ _ dX3_clear_30 hP hS
def f_X3_holdRule (i1 : Int32) (i2 : Int32) (v_t_rule : (Nat → Int32)) (v_t_sort : (Nat → Int32)) (v_t_size : (Nat → Int32)) : Option ((Nat → Int32) × (Nat → Int32) × (Nat → Int32)) := bd3 (f_X3_clear i1 v_t_rule v_t_sort v_t_size) (fun (o_1 : (Nat → Int32)) (o_2 : (Nat → Int32)) (o_3 : (Nat → Int32)) => (if i1 < (0 : Int32) then some ((o_1, o_2, o_3)) else (if (4 : Int32) ≤ i1 then some ((o_1, o_2, o_3)) else gd i1 4 (some (((upd o_1 i1.toNatClampNeg i2), o_2, o_3))))))
abbrev rmX3_holdRule : Room := { frames := 1, cells := 0, slots := 0, locals := 21 }
set_option maxHeartbeats 400000 in
set_option maxRecDepth 100000 in
theorem c_X3_holdRule (l : Launch) (D : va_G) (cI cB cJ : ClassId) (a_t : Nat) (a_t_rule : Nat) (a_t_sort : Nat) (a_t_size : Nat) (sz : Nat) (v_t_rule : (Nat → Int32)) (v_t_sort : (Nat → Int32)) (v_t_size : (Nat → Int32)) (i1 : Int32) (i2 : Int32) (o_v_t_rule : (Nat → Int32)) (o_v_t_sort : (Nat → Int32)) (o_v_t_size : (Nat → Int32)) (hF : f_X3_holdRule i1 i2 v_t_rule v_t_sort v_t_size = some (o_v_t_rule, o_v_t_sort, o_v_t_size)) : xMv l yX3_holdRule (.code yX3_holdRule cX3_holdRule 3 none :: xU) rmX3_holdRule (xK D cI cB cJ) D sz [.ref a_t, .int i1, .int i2] [(a_t, .inr (3, [.ref a_t_rule, .ref a_t_sort, .ref a_t_size])), (a_t_rule, .inl (cI, 4, .inl v_t_rule)), (a_t_sort, .inl (cI, 4, .inl v_t_sort)), (a_t_size, .inl (cI, 4, .inl v_t_size))] [(a_t, .inr (3, [.ref a_t_rule, .ref a_t_sort, .ref a_t_size])), (a_t_rule, .inl (cI, 4, .inl o_v_t_rule)), (a_t_sort, .inl (cI, 4, .inl o_v_t_sort)), (a_t_size, .inl (cI, 4, .inl o_v_t_size))] := by
  refine xMv.mk (own := "FairNext$Shelves") (by decide +kernel) rfl (Nat.le_of_ble_eq_true rfl) ?_
  intro p e s m args below meth c A Q ls H hfix hK hP hD hA hS hl hEnd
  obtain ⟨hx, hb, hml, hown, hts⟩ := id hfix
  have hl : lv_has ls 3 [(0, .ref a_t), (1, .int i1), (2, .int i2)] := hl
  rw [f_X3_holdRule] at hF
  refine lv_aload_n hx hb dX3_holdRule_0 rfl (lv_at hl 0 rfl) ?_
  refine lv_iload_n hx hb dX3_holdRule_1 rfl (lv_at hl 1 rfl) ?_
  obtain ⟨o_1, o_2, o_3, hq_4, hF⟩ := bd3_e hF
  refine xrv (xrunV (As := [.int i1]) (rest := []) (c_X3_clear l D cI cB cJ a_t a_t_rule a_t_sort a_t_size _ v_t_rule v_t_sort v_t_size i1 o_1 o_2 o_3 hq_4) hfix xw_618 yv_X3_clear ⟨rfl, rfl⟩ ⟨(Nat.le_of_ble_eq_true rfl), (Nat.le_of_ble_eq_true rfl)⟩ xKk_K (fun U hU hW => xK.warm hW hK) hK.1 hP hD [0, 1, 2, 3] rfl rfl 0 3 rfl rfl rfl rfl hl.1 rfl (Nat.le_of_ble_eq_true rfl) dX3_holdRule_2 ⟨Nat.zero_le _, Nat.zero_le _⟩) hP hD hS hA [0, 1, 2, 3] rfl rfl rfl (wn := [(a_t, .inr (3, [.ref a_t_rule, .ref a_t_sort, .ref a_t_size])), (a_t_rule, .inl (cI, 4, .inl o_1)), (a_t_sort, .inl (cI, 4, .inl o_2)), (a_t_size, .inl (cI, 4, .inl o_3))]) rfl (fun H locs hP hD hS => ?_)
  refine lv_iload_n hx hb dX3_holdRule_5 rfl (lv_at hl 1 rfl) ?_
  refine lv_if_lt (tgt := 21) hx hb dX3_holdRule_6 (by decide) (fun c_5 => ?_) (fun c_5 => ?_)
  · replace hF := if_t c_5 hF
    obtain ⟨rfl, rfl, rfl⟩ := pj3 hF
    exact hEnd _ _ _ _ dX3_holdRule_21 hP hS
  · replace hF := if_f c_5 hF
    refine lv_iload_n hx hb dX3_holdRule_9 rfl (lv_at hl 1 rfl) ?_
    refine lv_iconst (v := (4 : Int32)) hx hb dX3_holdRule_10 (by decide) ?_
    refine lv_icmp_ge (tgt := 21) hx hb dX3_holdRule_11 (by decide) (fun c_6 => ?_) (fun c_6 => ?_)
    · replace hF := if_t c_6 hF
      obtain ⟨rfl, rfl, rfl⟩ := pj3 hF
      exact hEnd _ _ _ _ dX3_holdRule_21 hP hS
    · replace hF := if_f c_6 hF
      refine lv_aload_n hx hb dX3_holdRule_14 rfl (lv_at hl 0 rfl) ?_
      refine xget (ci := 3) (C := RX3) (T := TX3) (N := 3) hfix xiX3 hK.1 hP 0 rfl rfl 0 (by decide) rfl xw_121 rfl dX3_holdRule_15 ?_
      refine lv_iload_n hx hb dX3_holdRule_18 rfl (lv_at hl 1 rfl) ?_
      refine lv_iload_n hx hb dX3_holdRule_19 rfl (lv_at hl 2 rfl) ?_
      obtain ⟨c_7, hF⟩ := gd_e hF
      refine va_iast hx hb hK.1 hP hD hS 1 0 rfl rfl c_7 dX3_holdRule_20 (fun H locs hP hD hS => ?_)
      have hP : va_P D vwCl [(a_t, .inr (3, [.ref a_t_rule, .ref a_t_sort, .ref a_t_size])), (a_t_rule, .inl (cI, 4, .inl (upd o_1 i1.toNatClampNeg i2))), (a_t_sort, .inl (cI, 4, .inl o_2)), (a_t_size, .inl (cI, 4, .inl o_3))] H := hP
      have hD : va_D A [(a_t, .inr (3, [.ref a_t_rule, .ref a_t_sort, .ref a_t_size])), (a_t_rule, .inl (cI, 4, .inl (upd o_1 i1.toNatClampNeg i2))), (a_t_sort, .inl (cI, 4, .inl o_2)), (a_t_size, .inl (cI, 4, .inl o_3))] := hD
      obtain ⟨rfl, rfl, rfl⟩ := pj3 hF
      exact hEnd _ _ _ _ dX3_holdRule_21 hP hS
def f_X3_holdRow (i1 : Int32) (i2 : Int32) (i3 : Int32) (v_t_rule : (Nat → Int32)) (v_t_sort : (Nat → Int32)) (v_t_size : (Nat → Int32)) : Option ((Nat → Int32) × (Nat → Int32) × (Nat → Int32)) := bd3 (f_X3_clear i1 v_t_rule v_t_sort v_t_size) (fun (o_1 : (Nat → Int32)) (o_2 : (Nat → Int32)) (o_3 : (Nat → Int32)) => (if i1 < (0 : Int32) then some ((o_1, o_2, o_3)) else (if (4 : Int32) ≤ i1 then some ((o_1, o_2, o_3)) else gd i1 4 (gd i1 4 (some ((o_1, (upd o_2 i1.toNatClampNeg i2), (upd o_3 i1.toNatClampNeg i3))))))))
abbrev rmX3_holdRow : Room := { frames := 1, cells := 0, slots := 0, locals := 21 }
set_option maxHeartbeats 400000 in
set_option maxRecDepth 100000 in
theorem c_X3_holdRow (l : Launch) (D : va_G) (cI cB cJ : ClassId) (a_t : Nat) (a_t_rule : Nat) (a_t_sort : Nat) (a_t_size : Nat) (sz : Nat) (v_t_rule : (Nat → Int32)) (v_t_sort : (Nat → Int32)) (v_t_size : (Nat → Int32)) (i1 : Int32) (i2 : Int32) (i3 : Int32) (o_v_t_rule : (Nat → Int32)) (o_v_t_sort : (Nat → Int32)) (o_v_t_size : (Nat → Int32)) (hF : f_X3_holdRow i1 i2 i3 v_t_rule v_t_sort v_t_size = some (o_v_t_rule, o_v_t_sort, o_v_t_size)) : xMv l yX3_holdRow (.code yX3_holdRow cX3_holdRow 4 none :: xU) rmX3_holdRow (xK D cI cB cJ) D sz [.ref a_t, .int i1, .int i2, .int i3] [(a_t, .inr (3, [.ref a_t_rule, .ref a_t_sort, .ref a_t_size])), (a_t_rule, .inl (cI, 4, .inl v_t_rule)), (a_t_sort, .inl (cI, 4, .inl v_t_sort)), (a_t_size, .inl (cI, 4, .inl v_t_size))] [(a_t, .inr (3, [.ref a_t_rule, .ref a_t_sort, .ref a_t_size])), (a_t_rule, .inl (cI, 4, .inl o_v_t_rule)), (a_t_sort, .inl (cI, 4, .inl o_v_t_sort)), (a_t_size, .inl (cI, 4, .inl o_v_t_size))] := by
  refine xMv.mk (own := "FairNext$Shelves") (by decide +kernel) rfl (Nat.le_of_ble_eq_true rfl) ?_
  intro p e s m args below meth c A Q ls H hfix hK hP hD hA hS hl hEnd
  obtain ⟨hx, hb, hml, hown, hts⟩ := id hfix
  have hl : lv_has ls 4 [(0, .ref a_t), (1, .int i1), (2, .int i2), (3, .int i3)] := hl
  rw [f_X3_holdRow] at hF
  refine lv_aload_n hx hb dX3_holdRow_0 rfl (lv_at hl 0 rfl) ?_
  refine lv_iload_n hx hb dX3_holdRow_1 rfl (lv_at hl 1 rfl) ?_
  obtain ⟨o_1, o_2, o_3, hq_4, hF⟩ := bd3_e hF
  refine xrv (xrunV (As := [.int i1]) (rest := []) (c_X3_clear l D cI cB cJ a_t a_t_rule a_t_sort a_t_size _ v_t_rule v_t_sort v_t_size i1 o_1 o_2 o_3 hq_4) hfix xw_618 yv_X3_clear ⟨rfl, rfl⟩ ⟨(Nat.le_of_ble_eq_true rfl), (Nat.le_of_ble_eq_true rfl)⟩ xKk_K (fun U hU hW => xK.warm hW hK) hK.1 hP hD [0, 1, 2, 3] rfl rfl 0 3 rfl rfl rfl rfl hl.1 rfl (Nat.le_of_ble_eq_true rfl) dX3_holdRow_2 ⟨Nat.zero_le _, Nat.zero_le _⟩) hP hD hS hA [0, 1, 2, 3] rfl rfl rfl (wn := [(a_t, .inr (3, [.ref a_t_rule, .ref a_t_sort, .ref a_t_size])), (a_t_rule, .inl (cI, 4, .inl o_1)), (a_t_sort, .inl (cI, 4, .inl o_2)), (a_t_size, .inl (cI, 4, .inl o_3))]) rfl (fun H locs hP hD hS => ?_)
  refine lv_iload_n hx hb dX3_holdRow_5 rfl (lv_at hl 1 rfl) ?_
  refine lv_if_lt (tgt := 28) hx hb dX3_holdRow_6 (by decide) (fun c_5 => ?_) (fun c_5 => ?_)
  · replace hF := if_t c_5 hF
    obtain ⟨rfl, rfl, rfl⟩ := pj3 hF
    exact hEnd _ _ _ _ dX3_holdRow_28 hP hS
  · replace hF := if_f c_5 hF
    refine lv_iload_n hx hb dX3_holdRow_9 rfl (lv_at hl 1 rfl) ?_
    refine lv_iconst (v := (4 : Int32)) hx hb dX3_holdRow_10 (by decide) ?_
    refine lv_icmp_ge (tgt := 28) hx hb dX3_holdRow_11 (by decide) (fun c_6 => ?_) (fun c_6 => ?_)
    · replace hF := if_t c_6 hF
      obtain ⟨rfl, rfl, rfl⟩ := pj3 hF
      exact hEnd _ _ _ _ dX3_holdRow_28 hP hS
    · replace hF := if_f c_6 hF
      refine lv_aload_n hx hb dX3_holdRow_14 rfl (lv_at hl 0 rfl) ?_
      refine xget (ci := 3) (C := RX3) (T := TX3) (N := 3) hfix xiX3 hK.1 hP 0 rfl rfl 1 (by decide) rfl xw_123 rfl dX3_holdRow_15 ?_
      refine lv_iload_n hx hb dX3_holdRow_18 rfl (lv_at hl 1 rfl) ?_
      refine lv_iload_n hx hb dX3_holdRow_19 rfl (lv_at hl 2 rfl) ?_
      obtain ⟨c_7, hF⟩ := gd_e hF
      refine va_iast hx hb hK.1 hP hD hS 2 0 rfl rfl c_7 dX3_holdRow_20 (fun H locs hP hD hS => ?_)
      have hP : va_P D vwCl [(a_t, .inr (3, [.ref a_t_rule, .ref a_t_sort, .ref a_t_size])), (a_t_rule, .inl (cI, 4, .inl o_1)), (a_t_sort, .inl (cI, 4, .inl (upd o_2 i1.toNatClampNeg i2))), (a_t_size, .inl (cI, 4, .inl o_3))] H := hP
      have hD : va_D A [(a_t, .inr (3, [.ref a_t_rule, .ref a_t_sort, .ref a_t_size])), (a_t_rule, .inl (cI, 4, .inl o_1)), (a_t_sort, .inl (cI, 4, .inl (upd o_2 i1.toNatClampNeg i2))), (a_t_size, .inl (cI, 4, .inl o_3))] := hD
      refine lv_aload_n hx hb dX3_holdRow_21 rfl (lv_at hl 0 rfl) ?_
      refine xget (ci := 3) (C := RX3) (T := TX3) (N := 3) hfix xiX3 hK.1 hP 0 rfl rfl 2 (by decide) rfl xw_125 rfl dX3_holdRow_22 ?_
      refine lv_iload_n hx hb dX3_holdRow_25 rfl (lv_at hl 1 rfl) ?_
      refine lv_iload_n hx hb dX3_holdRow_26 rfl (lv_at hl 3 rfl) ?_
      obtain ⟨c_8, hF⟩ := gd_e hF
      refine va_iast hx hb hK.1 hP hD hS 3 0 rfl rfl c_8 dX3_holdRow_27 (fun H locs hP hD hS => ?_)
      have hP : va_P D vwCl [(a_t, .inr (3, [.ref a_t_rule, .ref a_t_sort, .ref a_t_size])), (a_t_rule, .inl (cI, 4, .inl o_1)), (a_t_sort, .inl (cI, 4, .inl (upd o_2 i1.toNatClampNeg i2))), (a_t_size, .inl (cI, 4, .inl (upd o_3 i1.toNatClampNeg i3)))] H := hP
      have hD : va_D A [(a_t, .inr (3, [.ref a_t_rule, .ref a_t_sort, .ref a_t_size])), (a_t_rule, .inl (cI, 4, .inl o_1)), (a_t_sort, .inl (cI, 4, .inl (upd o_2 i1.toNatClampNeg i2))), (a_t_size, .inl (cI, 4, .inl (upd o_3 i1.toNatClampNeg i3)))] := hD
      obtain ⟨rfl, rfl, rfl⟩ := pj3 hF
      exact hEnd _ _ _ _ dX3_holdRow_28 hP hS
def f_X6_outside (i1 : Int32) (i2 : Int32) (i3 : Int32) : Int32 := (if i1 < i2 then ((1 : Int32)) else (if i1 ≤ i3 then ((0 : Int32)) else ((1 : Int32))))
abbrev rmX6_outside : Room := { frames := 0, cells := 0, slots := 0, locals := 0 }
set_option maxHeartbeats 400000 in
set_option maxRecDepth 100000 in
theorem c_X6_outside (l : Launch) (D : va_G) (cI cB cJ : ClassId) (sz : Nat) (i1 : Int32) (i2 : Int32) (i3 : Int32) (r : Int32) (hF : f_X6_outside i1 i2 i3 = r) : xMz l yX6_outside (.code yX6_outside cX6_outside 3 (some .boolean) :: xU) rmX6_outside (xK D cI cB cJ) D sz [.int i1, .int i2, .int i3] [] [] r := by
  refine xMz.mk (own := "FairNext") (by decide +kernel) rfl (Nat.le_of_ble_eq_true rfl) ?_
  intro p e s m args below meth c A Q ls H hfix hK hP hD hA hS hl hEnd
  obtain ⟨hx, hb, hml, hown, hts⟩ := id hfix
  have hl : lv_has ls 3 [(0, .int i1), (1, .int i2), (2, .int i3)] := hl
  rw [f_X6_outside] at hF
  refine lv_iload_n hx hb dX6_outside_0 rfl (lv_at hl 0 rfl) ?_
  refine lv_iload_n hx hb dX6_outside_1 rfl (lv_at hl 1 rfl) ?_
  refine lv_icmp_lt (tgt := 10) hx hb dX6_outside_2 (by decide) (fun c_1 => ?_) (fun c_1 => ?_)
  · replace hF := if_t c_1 hF
    refine lv_iconst (v := (1 : Int32)) hx hb dX6_outside_10 (by decide) ?_
    refine lv_goto (tgt := 15) hx hb dX6_outside_11 (by decide) ?_
    subst hF
    exact hEnd _ _ _ _ _ dX6_outside_15 hP hS x01_1 rfl
  · replace hF := if_f c_1 hF
    refine lv_iload_n hx hb dX6_outside_5 rfl (lv_at hl 0 rfl) ?_
    refine lv_iload_n hx hb dX6_outside_6 rfl (lv_at hl 2 rfl) ?_
    refine lv_icmp_le (tgt := 14) hx hb dX6_outside_7 (by decide) (fun c_2 => ?_) (fun c_2 => ?_)
    · replace hF := if_t c_2 hF
      refine lv_iconst (v := (0 : Int32)) hx hb dX6_outside_14 (by decide) ?_
      subst hF
      exact hEnd _ _ _ _ _ dX6_outside_15 hP hS x01_0 rfl
    · replace hF := if_f c_2 hF
      refine lv_iconst (v := (1 : Int32)) hx hb dX6_outside_10 (by decide) ?_
      refine lv_goto (tgt := 15) hx hb dX6_outside_11 (by decide) ?_
      subst hF
      exact hEnd _ _ _ _ _ dX6_outside_15 hP hS x01_1 rfl
def f_X6_codeOf (i1 : Int32) (i2 : Int32) (i3 : Int32) (i4 : Int32) : Int32 := ((((((i1 * (100 : Int32)) + (i2 * (20 : Int32))) + (i3 * (4 : Int32))) + i4) - (1 : Int32)))
abbrev rmX6_codeOf : Room := { frames := 0, cells := 0, slots := 0, locals := 0 }
set_option maxHeartbeats 400000 in
set_option maxRecDepth 100000 in
theorem c_X6_codeOf (l : Launch) (D : va_G) (cI cB cJ : ClassId) (sz : Nat) (i1 : Int32) (i2 : Int32) (i3 : Int32) (i4 : Int32) (r : Int32) (hF : f_X6_codeOf i1 i2 i3 i4 = r) : xMi l yX6_codeOf (.code yX6_codeOf cX6_codeOf 4 (some .int) :: xU) rmX6_codeOf (xK D cI cB cJ) D sz [.int i1, .int i2, .int i3, .int i4] [] [] r := by
  refine xMi.mk (own := "FairNext") (by decide +kernel) rfl (Nat.le_of_ble_eq_true rfl) ?_
  intro p e s m args below meth c A Q ls H hfix hK hP hD hA hS hl hEnd
  obtain ⟨hx, hb, hml, hown, hts⟩ := id hfix
  have hl : lv_has ls 4 [(0, .int i1), (1, .int i2), (2, .int i3), (3, .int i4)] := hl
  rw [f_X6_codeOf] at hF
  refine lv_iload_n hx hb dX6_codeOf_0 rfl (lv_at hl 0 rfl) ?_
  refine lv_bipush (v := (100 : Int32)) hx hb dX6_codeOf_1 (by decide) ?_
  refine lv_imul hx hb dX6_codeOf_3 ?_
  refine lv_iload_n hx hb dX6_codeOf_4 rfl (lv_at hl 1 rfl) ?_
  refine lv_bipush (v := (20 : Int32)) hx hb dX6_codeOf_5 (by decide) ?_
  refine lv_imul hx hb dX6_codeOf_7 ?_
  refine lv_iadd hx hb dX6_codeOf_8 ?_
  refine lv_iload_n hx hb dX6_codeOf_9 rfl (lv_at hl 2 rfl) ?_
  refine lv_iconst (v := (4 : Int32)) hx hb dX6_codeOf_10 (by decide) ?_
  refine lv_imul hx hb dX6_codeOf_11 ?_
  refine lv_iadd hx hb dX6_codeOf_12 ?_
  refine lv_iload_n hx hb dX6_codeOf_13 rfl (lv_at hl 3 rfl) ?_
  refine lv_iadd hx hb dX6_codeOf_14 ?_
  refine lv_iconst (v := (1 : Int32)) hx hb dX6_codeOf_15 (by decide) ?_
  refine lv_isub hx hb dX6_codeOf_16 ?_
  subst hF
  exact hEnd _ _ _ _ _ dX6_codeOf_17 hP hS rfl
def f_X6_badWhen (i1 : Int32) (i2 : Int32) : Int32 := (if (f_X6_outside i1 (0 : Int32) (99 : Int32)) = (0 : Int32) then (if (f_X6_outside i2 (0 : Int32) (9 : Int32)) = (0 : Int32) then ((0 : Int32)) else ((1 : Int32))) else ((1 : Int32)))
abbrev rmX6_badWhen : Room := { frames := 1, cells := 0, slots := 0, locals := 22 }
set_option maxHeartbeats 400000 in
set_option maxRecDepth 100000 in
theorem c_X6_badWhen (l : Launch) (D : va_G) (cI cB cJ : ClassId) (sz : Nat) (i1 : Int32) (i2 : Int32) (r : Int32) (hF : f_X6_badWhen i1 i2 = r) : xMz l yX6_badWhen (.code yX6_badWhen cX6_badWhen 2 (some .boolean) :: xU) rmX6_badWhen (xK D cI cB cJ) D sz [.int i1, .int i2] [] [] r := by
  refine xMz.mk (own := "FairNext") (by decide +kernel) rfl (Nat.le_of_ble_eq_true rfl) ?_
  intro p e s m args below meth c A Q ls H hfix hK hP hD hA hS hl hEnd
  obtain ⟨hx, hb, hml, hown, hts⟩ := id hfix
  have hl : lv_has ls 2 [(0, .int i1), (1, .int i2)] := hl
  rw [f_X6_badWhen] at hF
  refine lv_iload_n hx hb dX6_badWhen_0 rfl (lv_at hl 0 rfl) ?_
  refine lv_iconst (v := (0 : Int32)) hx hb dX6_badWhen_1 (by decide) ?_
  refine lv_bipush (v := (99 : Int32)) hx hb dX6_badWhen_2 (by decide) ?_
  refine xrz0 (xrunS (As := [.int i1, .int (0 : Int32), .int (99 : Int32)]) (rest := []) (c_X6_outside l D cI cB cJ _ i1 (0 : Int32) (99 : Int32) (f_X6_outside i1 (0 : Int32) (99 : Int32)) rfl) hfix xw_205 ys_X6_outside ⟨rfl, rfl⟩ ⟨(Nat.le_of_ble_eq_true rfl), (Nat.le_of_ble_eq_true rfl)⟩ xKk_K (fun U hU hW => xK.warm hW hK) hP hD [] rfl rfl rfl hl.1 rfl (Nat.le_of_ble_eq_true rfl) dX6_badWhen_4 ⟨Nat.zero_le _, Nat.zero_le _⟩) hP hD hS hA [] rfl rfl (fun H locs hP hD hS hz_1 => ?_)
  refine lv_if_ne (tgt := 20) hx hb dX6_badWhen_7 (by decide) (fun c_2 => ?_) (fun c_2 => ?_)
  · replace hF := if_f c_2 hF
    refine lv_iconst (v := (1 : Int32)) hx hb dX6_badWhen_20 (by decide) ?_
    refine lv_goto (tgt := 25) hx hb dX6_badWhen_21 (by decide) ?_
    subst hF
    exact hEnd _ _ _ _ _ dX6_badWhen_25 hP hS x01_1 rfl
  · replace hF := if_t c_2 hF
    refine lv_iload_n hx hb dX6_badWhen_10 rfl (lv_at hl 1 rfl) ?_
    refine lv_iconst (v := (0 : Int32)) hx hb dX6_badWhen_11 (by decide) ?_
    refine lv_bipush (v := (9 : Int32)) hx hb dX6_badWhen_12 (by decide) ?_
    refine xrz0 (xrunS (As := [.int i2, .int (0 : Int32), .int (9 : Int32)]) (rest := []) (c_X6_outside l D cI cB cJ _ i2 (0 : Int32) (9 : Int32) (f_X6_outside i2 (0 : Int32) (9 : Int32)) rfl) hfix xw_205 ys_X6_outside ⟨rfl, rfl⟩ ⟨(Nat.le_of_ble_eq_true rfl), (Nat.le_of_ble_eq_true rfl)⟩ xKk_K (fun U hU hW => xK.warm hW hK) hP hD [] rfl rfl rfl hl.1 rfl (Nat.le_of_ble_eq_true rfl) dX6_badWhen_14 ⟨Nat.zero_le _, Nat.zero_le _⟩) hP hD hS hA [] rfl rfl (fun H locs hP hD hS hz_3 => ?_)
    refine lv_if_eq (tgt := 24) hx hb dX6_badWhen_17 (by decide) (fun c_4 => ?_) (fun c_4 => ?_)
    · replace hF := if_t c_4 hF
      refine lv_iconst (v := (0 : Int32)) hx hb dX6_badWhen_24 (by decide) ?_
      subst hF
      exact hEnd _ _ _ _ _ dX6_badWhen_25 hP hS x01_0 rfl
    · replace hF := if_f c_4 hF
      refine lv_iconst (v := (1 : Int32)) hx hb dX6_badWhen_20 (by decide) ?_
      refine lv_goto (tgt := 25) hx hb dX6_badWhen_21 (by decide) ?_
      subst hF
      exact hEnd _ _ _ _ _ dX6_badWhen_25 hP hS x01_1 rfl
def f_X6_shareOf (i1 : Int32) : Int32 := (((1 : Int32) <<< (((2 : Int32) * ((4 : Int32) - (f_X6_wordsOf i1))) &&& 31)))
abbrev rmX6_shareOf : Room := { frames := 2, cells := 0, slots := 0, locals := 40 }
set_option maxHeartbeats 400000 in
set_option maxRecDepth 100000 in
theorem c_X6_shareOf (l : Launch) (D : va_G) (cI cB cJ : ClassId) (sz : Nat) (i1 : Int32) (r : Int32) (hF : f_X6_shareOf i1 = r) : xMi l yX6_shareOf (.code yX6_shareOf cX6_shareOf 1 (some .int) :: xU) rmX6_shareOf (xK D cI cB cJ) D sz [.int i1] [] [] r := by
  refine xMi.mk (own := "FairNext") (by decide +kernel) rfl (Nat.le_of_ble_eq_true rfl) ?_
  intro p e s m args below meth c A Q ls H hfix hK hP hD hA hS hl hEnd
  obtain ⟨hx, hb, hml, hown, hts⟩ := id hfix
  have hl : lv_has ls 1 [(0, .int i1)] := hl
  rw [f_X6_shareOf] at hF
  refine lv_iconst (v := (1 : Int32)) hx hb dX6_shareOf_0 (by decide) ?_
  refine lv_iconst (v := (2 : Int32)) hx hb dX6_shareOf_1 (by decide) ?_
  refine lv_iconst (v := (4 : Int32)) hx hb dX6_shareOf_2 (by decide) ?_
  refine lv_iload_n hx hb dX6_shareOf_3 rfl (lv_at hl 0 rfl) ?_
  refine xri0 (xrunS (As := [.int i1]) (rest := [.int (4 : Int32), .int (2 : Int32), .int (1 : Int32)]) (c_X6_wordsOf l D cI cB cJ _ i1 (f_X6_wordsOf i1) rfl) hfix xw_397 ys_X6_wordsOf ⟨rfl, rfl⟩ ⟨(Nat.le_of_ble_eq_true rfl), (Nat.le_of_ble_eq_true rfl)⟩ xKk_K (fun U hU hW => xK.warm hW hK) hP hD [] rfl rfl rfl hl.1 rfl (Nat.le_of_ble_eq_true rfl) dX6_shareOf_4 ⟨Nat.zero_le _, Nat.zero_le _⟩) hP hD hS hA [] rfl rfl (fun H locs hP hD hS => ?_)
  refine lv_isub hx hb dX6_shareOf_7 ?_
  refine lv_imul hx hb dX6_shareOf_8 ?_
  refine lv_ishl hx hb dX6_shareOf_9 ?_
  subst hF
  exact hEnd _ _ _ _ _ dX6_shareOf_10 hP hS rfl
def f_X6_commonDivisor_L2 : Nat → Int32 → Int32 → Int32 → Option (Int32)
  | 0, _, _, _ => none
  | n + 1, x0_1, x1_2, x2_3 => (if (64 : Int32) ≤ x2_3 then some (x0_1) else (if x1_2 = (0 : Int32) then some (x0_1) else gz x1_2 (f_X6_commonDivisor_L2 n x1_2 (xrem x0_1 x1_2) (x2_3 + (1 : Int32)))))
def f_X6_commonDivisor (i1 : Int32) (i2 : Int32) : Option (Int32) := bd1 (f_X6_commonDivisor_L2 1000 i1 i2 (0 : Int32)) (fun (y0_4 : Int32) => some (y0_4))
abbrev rmX6_commonDivisor : Room := { frames := 0, cells := 0, slots := 0, locals := 0 }
set_option maxHeartbeats 400000 in
set_option maxRecDepth 100000 in
theorem c_X6_commonDivisor (l : Launch) (D : va_G) (cI cB cJ : ClassId) (sz : Nat) (i1 : Int32) (i2 : Int32) (r : Int32) (hF : f_X6_commonDivisor i1 i2 = some r) : xMi l yX6_commonDivisor (.code yX6_commonDivisor cX6_commonDivisor 4 (some .int) :: xU) rmX6_commonDivisor (xK D cI cB cJ) D sz [.int i1, .int i2] [] [] r := by
  refine xMi.mk (own := "FairNext") (by decide +kernel) rfl (Nat.le_of_ble_eq_true rfl) ?_
  intro p e s m args below meth c A Q ls H hfix hK hP hD hA hS hl hEnd
  obtain ⟨hx, hb, hml, hown, hts⟩ := id hfix
  have hl : lv_has ls 4 [(0, .int i1), (1, .int i2)] := hl
  rw [f_X6_commonDivisor] at hF
  refine lv_iconst (v := (0 : Int32)) hx hb dX6_commonDivisor_0 (by decide) ?_
  refine lv_istore_n (lv' := [(2, .int (0 : Int32)), (0, .int i1), (1, .int i2)]) hx hb dX6_commonDivisor_1 rfl hl (by decide) rfl (fun ls hl => ?_)
  have hL_2 : ∀ (n : Nat) (x0_1 : Int32) (x1_2 : Int32) (x2_3 : Int32) (y0_4 : Int32), f_X6_commonDivisor_L2 n x0_1 x1_2 x2_3 = some y0_4 → ∀ (H : Heap) (locs : List Loc) (ls : Array Slot), va_P D vwCl [] H → va_D A [] → va_S A s.heap H locs → lv_has ls 4 [(0, .int x0_1), (1, .int x1_2), (2, .int x2_3)] → (∀ (H : Heap) (locs : List Loc) (ls : Array Slot), va_P D vwCl [] H → va_D A [] → va_S A s.heap H locs → lv_has ls 4 [(0, .int y0_4)] → W p l e rmX6_commonDivisor s m args below meth c H locs 0 0 Q (F0 m 26 ls [])) → W p l e rmX6_commonDivisor s m args below meth c H locs 0 0 Q (F0 m 2 ls []) := by
    intro n
    induction n with
    | zero => intro x0_1 x1_2 x2_3 y0_4 hF; exact (no_some hF).elim
    | succ n ih =>
      intro x0_1 x1_2 x2_3 y0_4 hF H locs ls hP hD hS hl kexit
      rw [f_X6_commonDivisor_L2] at hF
      refine lv_iload_n hx hb dX6_commonDivisor_2 rfl (lv_at hl 2 rfl) ?_
      refine lv_bipush (v := (64 : Int32)) hx hb dX6_commonDivisor_3 (by decide) ?_
      refine lv_icmp_ge (tgt := 26) hx hb dX6_commonDivisor_5 (by decide) (fun c_5 => ?_) (fun c_5 => ?_)
      · replace hF := if_t c_5 hF
        obtain rfl := Option.some.inj hF
        exact kexit _ _ _ hP hD hS (lv_sub hl [0] rfl)
      · replace hF := if_f c_5 hF
        refine lv_iload_n hx hb dX6_commonDivisor_8 rfl (lv_at hl 1 rfl) ?_
        refine lv_if_eq (tgt := 26) hx hb dX6_commonDivisor_9 (by decide) (fun c_6 => ?_) (fun c_6 => ?_)
        · replace hF := if_t c_6 hF
          obtain rfl := Option.some.inj hF
          exact kexit _ _ _ hP hD hS (lv_sub hl [0] rfl)
        · replace hF := if_f c_6 hF
          refine lv_iload_n hx hb dX6_commonDivisor_12 rfl (lv_at hl 0 rfl) ?_
          refine lv_iload_n hx hb dX6_commonDivisor_13 rfl (lv_at hl 1 rfl) ?_
          obtain ⟨c_7, hF⟩ := gz_e hF
          refine lv_irem hx hb dX6_commonDivisor_14 c_7 ?_
          refine lv_istore_n (lv' := [(3, .int (xrem x0_1 x1_2)), (0, .int x0_1), (1, .int x1_2), (2, .int x2_3)]) hx hb dX6_commonDivisor_15 rfl hl (by decide) rfl (fun ls hl => ?_)
          refine lv_iload_n hx hb dX6_commonDivisor_16 rfl (lv_at hl 2 rfl) ?_
          refine lv_istore_n (lv' := [(0, .int x1_2), (3, .int (xrem x0_1 x1_2)), (1, .int x1_2), (2, .int x2_3)]) hx hb dX6_commonDivisor_17 rfl hl (by decide) rfl (fun ls hl => ?_)
          refine lv_iload_n hx hb dX6_commonDivisor_18 rfl (lv_at hl 1 rfl) ?_
          refine lv_istore_n (lv' := [(1, .int (xrem x0_1 x1_2)), (0, .int x1_2), (3, .int (xrem x0_1 x1_2)), (2, .int x2_3)]) hx hb dX6_commonDivisor_19 rfl hl (by decide) rfl (fun ls hl => ?_)
          refine lv_iinc (v := (x2_3 + (1 : Int32))) (lv' := [(2, .int (x2_3 + (1 : Int32))), (1, .int (xrem x0_1 x1_2)), (0, .int x1_2), (3, .int (xrem x0_1 x1_2))]) hx hb dX6_commonDivisor_20 hl (k := 3) rfl rfl (by decide) rfl (fun ls hl => ?_)
          refine lv_goto (tgt := 2) hx hb dX6_commonDivisor_23 (by decide) ?_
          exact ih _ _ _ _ hF _ _ _ hP hD hS (lv_sub hl [2, 1, 0] rfl) kexit
  obtain ⟨y0_4, hq, hF⟩ := bd1_e hF
  refine hL_2 _ _ _ _ _ hq _ _ _ hP hD hS (lv_sub hl [1, 2, 0] rfl) (fun H locs ls hP hD hS hl => ?_)
  refine lv_iload_n hx hb dX6_commonDivisor_26 rfl (lv_at hl 0 rfl) ?_
  obtain rfl := Option.some.inj hF
  exact hEnd _ _ _ _ _ dX6_commonDivisor_27 hP hS rfl
def f_X6_narrowed (i1 : Int32) (i2 : Int32) : Int64 := (if i2 = (0 : Int32) then (((i1.toInt8.toInt32).toInt64)) else (if i2 = (1 : Int32) then (((i1.toInt16.toInt32).toInt64)) else ((i1.toInt64))))
abbrev rmX6_narrowed : Room := { frames := 0, cells := 0, slots := 0, locals := 0 }
set_option maxHeartbeats 400000 in
set_option maxRecDepth 100000 in
theorem c_X6_narrowed (l : Launch) (D : va_G) (cI cB cJ : ClassId) (sz : Nat) (i1 : Int32) (i2 : Int32) (r : Int64) (hF : f_X6_narrowed i1 i2 = r) : xMl l yX6_narrowed (.code yX6_narrowed cX6_narrowed 2 (some .long) :: xU) rmX6_narrowed (xK D cI cB cJ) D sz [.int i1, .int i2] [] [] r := by
  refine xMl.mk (own := "FairNext") (by decide +kernel) rfl (Nat.le_of_ble_eq_true rfl) ?_
  intro p e s m args below meth c A Q ls H hfix hK hP hD hA hS hl hEnd
  obtain ⟨hx, hb, hml, hown, hts⟩ := id hfix
  have hl : lv_has ls 2 [(0, .int i1), (1, .int i2)] := hl
  rw [f_X6_narrowed] at hF
  refine lv_iload_n hx hb dX6_narrowed_0 rfl (lv_at hl 1 rfl) ?_
  refine lv_if_ne (tgt := 8) hx hb dX6_narrowed_1 (by decide) (fun c_1 => ?_) (fun c_1 => ?_)
  · replace hF := if_f c_1 hF
    refine lv_iload_n hx hb dX6_narrowed_8 rfl (lv_at hl 1 rfl) ?_
    refine lv_iconst (v := (1 : Int32)) hx hb dX6_narrowed_9 (by decide) ?_
    refine lv_icmp_ne (tgt := 19) hx hb dX6_narrowed_10 (by decide) (fun c_2 => ?_) (fun c_2 => ?_)
    · replace hF := if_f c_2 hF
      refine lv_iload_n hx hb dX6_narrowed_19 rfl (lv_at hl 0 rfl) ?_
      refine lv_i2l (v := (i1.toInt64)) hx hb dX6_narrowed_20 rfl ?_
      subst hF
      exact hEnd _ _ _ _ _ dX6_narrowed_21 hP hS rfl
    · replace hF := if_t c_2 hF
      refine lv_iload_n hx hb dX6_narrowed_13 rfl (lv_at hl 0 rfl) ?_
      refine lv_i2s (v := (i1.toInt16.toInt32)) hx hb dX6_narrowed_14 rfl ?_
      refine lv_i2l (v := ((i1.toInt16.toInt32).toInt64)) hx hb dX6_narrowed_15 rfl ?_
      refine lv_goto (tgt := 21) hx hb dX6_narrowed_16 (by decide) ?_
      subst hF
      exact hEnd _ _ _ _ _ dX6_narrowed_21 hP hS rfl
  · replace hF := if_t c_1 hF
    refine lv_iload_n hx hb dX6_narrowed_4 rfl (lv_at hl 0 rfl) ?_
    refine lv_i2b (v := (i1.toInt8.toInt32)) hx hb dX6_narrowed_5 rfl ?_
    refine lv_i2l (v := ((i1.toInt8.toInt32).toInt64)) hx hb dX6_narrowed_6 rfl ?_
    subst hF
    exact hEnd _ _ _ _ _ dX6_narrowed_7 hP hS rfl
