def f_X7_findShares_L5 : Nat → Int32 → (Nat → Int32) → Option ((Nat → Int32))
  | 0, _, _ => none
  | n + 1, x4_1, xv_t_shares_2 => (if (10 : Int32) ≤ x4_1 then some (xv_t_shares_2) else gd x4_1 10 (f_X7_findShares_L5 n (x4_1 + (1 : Int32)) (upd xv_t_shares_2 x4_1.toNatClampNeg (0 : Int32))))
def f_X7_findShares_L29 (s_t_villages : Int32) (v_t_stand : (Nat → Int32)) (v_t_marks : (Nat → Int32)) (i2 : Int32) (i1 : Int32) : Nat → Int32 → Int32 → (Nat → Int32) → (Nat → Int32) → Option (Int32 × (Nat → Int32) × (Nat → Int32))
  | 0, _, _, _, _ => none
  | n + 1, x3_6, x4_7, xv_t_shares_8, xv_t_said_9 => (if (600 : Int32) ≤ x4_7 then some ((x3_6, xv_t_shares_8, xv_t_said_9)) else bd1 (f_X7_allMisses x4_7 s_t_villages v_t_stand v_t_marks) (fun (r_14 : Int32) => bd1 ((if i2 < r_14 then some ((-9 : Int32)) else bd1 (f_X7_saysBy (f_X7_kindOf x4_7) (f_X7_aOf x4_7) (f_X7_bOf x4_7) (f_X7_kOf x4_7) i1 100 s_t_villages v_t_stand v_t_marks) (fun (r_24 : Int32) => some (r_24)))) (fun (j_16 : Int32) => gd x4_7 600 (gd x4_7 600 ((if ((upd xv_t_said_9 x4_7.toNatClampNeg j_16) x4_7.toNatClampNeg) < (0 : Int32) then f_X7_findShares_L29 s_t_villages v_t_stand v_t_marks i2 i1 n x3_6 (x4_7 + (1 : Int32)) xv_t_shares_8 (upd xv_t_said_9 x4_7.toNatClampNeg j_16) else gd x4_7 600 (gd ((upd xv_t_said_9 x4_7.toNatClampNeg j_16) x4_7.toNatClampNeg) 10 (gd ((upd xv_t_said_9 x4_7.toNatClampNeg j_16) x4_7.toNatClampNeg) 10 (f_X7_findShares_L29 s_t_villages v_t_stand v_t_marks i2 i1 n (x3_6 + (f_X7_shareOf x4_7)) (x4_7 + (1 : Int32)) (upd xv_t_shares_8 ((upd xv_t_said_9 x4_7.toNatClampNeg j_16) x4_7.toNatClampNeg).toNatClampNeg ((xv_t_shares_8 ((upd xv_t_said_9 x4_7.toNatClampNeg j_16) x4_7.toNatClampNeg).toNatClampNeg) + (f_X7_shareOf x4_7))) (upd xv_t_said_9 x4_7.toNatClampNeg j_16))))))))))
def f_X7_findShares (i1 : Int32) (i2 : Int32) (s_t_villages : Int32) (v_t_shares : (Nat → Int32)) (v_t_stand : (Nat → Int32)) (v_t_marks : (Nat → Int32)) (v_t_said : (Nat → Int32)) : Option (Int32 × (Nat → Int32) × (Nat → Int32)) := bd1 (f_X7_findShares_L5 1000 (0 : Int32) v_t_shares) (fun (yv_t_shares_3 : (Nat → Int32)) => bd3 (f_X7_findShares_L29 s_t_villages v_t_stand v_t_marks i2 i1 1000 (0 : Int32) (0 : Int32) yv_t_shares_3 v_t_said) (fun (y3_10 : Int32) (yv_t_shares_11 : (Nat → Int32)) (yv_t_said_12 : (Nat → Int32)) => some ((y3_10, yv_t_shares_11, yv_t_said_12))))
abbrev rmX7_findShares : Room := { frames := 4, cells := 0, slots := 0, locals := 96 }
set_option maxHeartbeats 400000 in
set_option maxRecDepth 100000 in
theorem c_X7_findShares (l : Launch) (D : va_G) (cI cB cJ : ClassId) (a_t : Nat) (a_t_stand : Nat) (a_t_on : Nat) (a_t_marks : Nat) (a_t_rule : Nat) (a_t_tape : Nat) (a_t_freshStand : Nat) (a_t_freshMarks : Nat) (a_t_freshRule : Nat) (a_t_shares : Nat) (a_t_said : Nat) (a_t_rows : Nat) (a_t_must : Nat) (a_t_sorts : Nat) (a_t_sizes : Nat) (a_t_sheets : Nat) (a_t_holds : Nat) (a_t_heldNumber : Nat) (a_t_heldSize : Nat) (a_t_traced : Nat) (a_t_keptRow : Nat) (a_t_single : Nat) (sz : Nat) (s_t_villages : Int32) (s_t_held : Int32) (s_t_z : Int32) (s_t_tapeMany : Int32) (s_t_sort : Int32) (s_t_begins : Int32) (s_t_tokenEnds : Int32) (s_t_word : Int64) (s_t_value : Int32) (s_t_good : Int32) (s_t_freshVillages : Int32) (s_t_freshHeld : Int32) (s_t_rowMany : Int32) (s_t_mustMany : Int32) (s_t_kind : Int32) (s_t_number : Int32) (s_t_own : Int32) (s_t_bodies : Int32) (s_t_isParted : Int32) (s_t_isKept : Int32) (s_t_movedTo : Int32) (v_t_shares : (Nat → Int32)) (v_t_stand : (Nat → Int32)) (v_t_marks : (Nat → Int32)) (v_t_said : (Nat → Int32)) (i1 : Int32) (i2 : Int32) (r : Int32) (o_v_t_shares : (Nat → Int32)) (o_v_t_said : (Nat → Int32)) (hF : f_X7_findShares i1 i2 s_t_villages v_t_shares v_t_stand v_t_marks v_t_said = some (r, o_v_t_shares, o_v_t_said)) : xMi l yX7_findShares (.code yX7_findShares cX7_findShares 5 (some .int) :: xU) rmX7_findShares (xK D cI cB cJ) D sz [.ref a_t, .int i1, .int i2] [(a_t, .inr (7, [.ref a_t_stand, .ref a_t_on, .ref a_t_marks, .int s_t_villages, .int s_t_held, .ref a_t_rule, .int s_t_z, .ref a_t_tape, .int s_t_tapeMany, .int s_t_sort, .int s_t_begins, .int s_t_tokenEnds, .long s_t_word, .int s_t_value, .int s_t_good, .int s_t_freshVillages, .int s_t_freshHeld, .ref a_t_freshStand, .ref a_t_freshMarks, .ref a_t_freshRule, .ref a_t_shares, .ref a_t_said, .ref a_t_rows, .ref a_t_must, .int s_t_rowMany, .int s_t_mustMany, .ref a_t_sorts, .ref a_t_sizes, .ref a_t_sheets, .ref a_t_holds, .ref a_t_heldNumber, .ref a_t_heldSize, .int s_t_kind, .int s_t_number, .int s_t_own, .ref a_t_traced, .int s_t_bodies, .int s_t_isParted, .int s_t_isKept, .ref a_t_keptRow, .int s_t_movedTo, .ref a_t_single])), (a_t_shares, .inl (cI, 10, .inl v_t_shares)), (a_t_stand, .inl (cI, 100, .inl v_t_stand)), (a_t_marks, .inl (cI, 100, .inl v_t_marks)), (a_t_said, .inl (cI, 600, .inl v_t_said))] [(a_t, .inr (7, [.ref a_t_stand, .ref a_t_on, .ref a_t_marks, .int s_t_villages, .int s_t_held, .ref a_t_rule, .int s_t_z, .ref a_t_tape, .int s_t_tapeMany, .int s_t_sort, .int s_t_begins, .int s_t_tokenEnds, .long s_t_word, .int s_t_value, .int s_t_good, .int s_t_freshVillages, .int s_t_freshHeld, .ref a_t_freshStand, .ref a_t_freshMarks, .ref a_t_freshRule, .ref a_t_shares, .ref a_t_said, .ref a_t_rows, .ref a_t_must, .int s_t_rowMany, .int s_t_mustMany, .ref a_t_sorts, .ref a_t_sizes, .ref a_t_sheets, .ref a_t_holds, .ref a_t_heldNumber, .ref a_t_heldSize, .int s_t_kind, .int s_t_number, .int s_t_own, .ref a_t_traced, .int s_t_bodies, .int s_t_isParted, .int s_t_isKept, .ref a_t_keptRow, .int s_t_movedTo, .ref a_t_single])), (a_t_shares, .inl (cI, 10, .inl o_v_t_shares)), (a_t_stand, .inl (cI, 100, .inl v_t_stand)), (a_t_marks, .inl (cI, 100, .inl v_t_marks)), (a_t_said, .inl (cI, 600, .inl o_v_t_said))] r := by
  refine xMi.mk (own := "FairNextModel") (by decide +kernel) rfl (Nat.le_of_ble_eq_true rfl) ?_
  intro p e s m args below meth c A Q ls H hfix hK hP hD hA hS hl hEnd
  obtain ⟨hx, hb, hml, hown, hts⟩ := id hfix
  have hl : lv_has ls 5 [(0, .ref a_t), (1, .int i1), (2, .int i2)] := hl
  rw [f_X7_findShares] at hF
  refine lv_iconst (v := (0 : Int32)) hx hb dX7_findShares_0 (by decide) ?_
  refine lv_istore_n (lv' := [(3, .int (0 : Int32)), (0, .ref a_t), (1, .int i1), (2, .int i2)]) hx hb dX7_findShares_1 rfl hl (by decide) rfl (fun ls hl => ?_)
  refine lv_iconst (v := (0 : Int32)) hx hb dX7_findShares_2 (by decide) ?_
  refine lv_istore (lv' := [(4, .int (0 : Int32)), (3, .int (0 : Int32)), (0, .ref a_t), (1, .int i1), (2, .int i2)]) hx hb dX7_findShares_3 hl (by decide) rfl (fun ls hl => ?_)
  have hL_5 : ∀ (n : Nat) (x4_1 : Int32) (xv_t_shares_2 : (Nat → Int32)) (yv_t_shares_3 : (Nat → Int32)), f_X7_findShares_L5 n x4_1 xv_t_shares_2 = some yv_t_shares_3 → ∀ (H : Heap) (locs : List Loc) (ls : Array Slot), va_P D vwCl [(a_t, .inr (7, [.ref a_t_stand, .ref a_t_on, .ref a_t_marks, .int s_t_villages, .int s_t_held, .ref a_t_rule, .int s_t_z, .ref a_t_tape, .int s_t_tapeMany, .int s_t_sort, .int s_t_begins, .int s_t_tokenEnds, .long s_t_word, .int s_t_value, .int s_t_good, .int s_t_freshVillages, .int s_t_freshHeld, .ref a_t_freshStand, .ref a_t_freshMarks, .ref a_t_freshRule, .ref a_t_shares, .ref a_t_said, .ref a_t_rows, .ref a_t_must, .int s_t_rowMany, .int s_t_mustMany, .ref a_t_sorts, .ref a_t_sizes, .ref a_t_sheets, .ref a_t_holds, .ref a_t_heldNumber, .ref a_t_heldSize, .int s_t_kind, .int s_t_number, .int s_t_own, .ref a_t_traced, .int s_t_bodies, .int s_t_isParted, .int s_t_isKept, .ref a_t_keptRow, .int s_t_movedTo, .ref a_t_single])), (a_t_shares, .inl (cI, 10, .inl xv_t_shares_2)), (a_t_stand, .inl (cI, 100, .inl v_t_stand)), (a_t_marks, .inl (cI, 100, .inl v_t_marks)), (a_t_said, .inl (cI, 600, .inl v_t_said))] H → va_D A [(a_t, .inr (7, [.ref a_t_stand, .ref a_t_on, .ref a_t_marks, .int s_t_villages, .int s_t_held, .ref a_t_rule, .int s_t_z, .ref a_t_tape, .int s_t_tapeMany, .int s_t_sort, .int s_t_begins, .int s_t_tokenEnds, .long s_t_word, .int s_t_value, .int s_t_good, .int s_t_freshVillages, .int s_t_freshHeld, .ref a_t_freshStand, .ref a_t_freshMarks, .ref a_t_freshRule, .ref a_t_shares, .ref a_t_said, .ref a_t_rows, .ref a_t_must, .int s_t_rowMany, .int s_t_mustMany, .ref a_t_sorts, .ref a_t_sizes, .ref a_t_sheets, .ref a_t_holds, .ref a_t_heldNumber, .ref a_t_heldSize, .int s_t_kind, .int s_t_number, .int s_t_own, .ref a_t_traced, .int s_t_bodies, .int s_t_isParted, .int s_t_isKept, .ref a_t_keptRow, .int s_t_movedTo, .ref a_t_single])), (a_t_shares, .inl (cI, 10, .inl xv_t_shares_2)), (a_t_stand, .inl (cI, 100, .inl v_t_stand)), (a_t_marks, .inl (cI, 100, .inl v_t_marks)), (a_t_said, .inl (cI, 600, .inl v_t_said))] → va_S A s.heap H locs → lv_has ls 5 [(0, .ref a_t), (1, .int i1), (2, .int i2), (3, .int (0 : Int32)), (4, .int x4_1)] → (∀ (H : Heap) (locs : List Loc) (ls : Array Slot), va_P D vwCl [(a_t, .inr (7, [.ref a_t_stand, .ref a_t_on, .ref a_t_marks, .int s_t_villages, .int s_t_held, .ref a_t_rule, .int s_t_z, .ref a_t_tape, .int s_t_tapeMany, .int s_t_sort, .int s_t_begins, .int s_t_tokenEnds, .long s_t_word, .int s_t_value, .int s_t_good, .int s_t_freshVillages, .int s_t_freshHeld, .ref a_t_freshStand, .ref a_t_freshMarks, .ref a_t_freshRule, .ref a_t_shares, .ref a_t_said, .ref a_t_rows, .ref a_t_must, .int s_t_rowMany, .int s_t_mustMany, .ref a_t_sorts, .ref a_t_sizes, .ref a_t_sheets, .ref a_t_holds, .ref a_t_heldNumber, .ref a_t_heldSize, .int s_t_kind, .int s_t_number, .int s_t_own, .ref a_t_traced, .int s_t_bodies, .int s_t_isParted, .int s_t_isKept, .ref a_t_keptRow, .int s_t_movedTo, .ref a_t_single])), (a_t_shares, .inl (cI, 10, .inl yv_t_shares_3)), (a_t_stand, .inl (cI, 100, .inl v_t_stand)), (a_t_marks, .inl (cI, 100, .inl v_t_marks)), (a_t_said, .inl (cI, 600, .inl v_t_said))] H → va_D A [(a_t, .inr (7, [.ref a_t_stand, .ref a_t_on, .ref a_t_marks, .int s_t_villages, .int s_t_held, .ref a_t_rule, .int s_t_z, .ref a_t_tape, .int s_t_tapeMany, .int s_t_sort, .int s_t_begins, .int s_t_tokenEnds, .long s_t_word, .int s_t_value, .int s_t_good, .int s_t_freshVillages, .int s_t_freshHeld, .ref a_t_freshStand, .ref a_t_freshMarks, .ref a_t_freshRule, .ref a_t_shares, .ref a_t_said, .ref a_t_rows, .ref a_t_must, .int s_t_rowMany, .int s_t_mustMany, .ref a_t_sorts, .ref a_t_sizes, .ref a_t_sheets, .ref a_t_holds, .ref a_t_heldNumber, .ref a_t_heldSize, .int s_t_kind, .int s_t_number, .int s_t_own, .ref a_t_traced, .int s_t_bodies, .int s_t_isParted, .int s_t_isKept, .ref a_t_keptRow, .int s_t_movedTo, .ref a_t_single])), (a_t_shares, .inl (cI, 10, .inl yv_t_shares_3)), (a_t_stand, .inl (cI, 100, .inl v_t_stand)), (a_t_marks, .inl (cI, 100, .inl v_t_marks)), (a_t_said, .inl (cI, 600, .inl v_t_said))] → va_S A s.heap H locs → lv_has ls 5 [(0, .ref a_t), (1, .int i1), (2, .int i2), (3, .int (0 : Int32))] → W p l e rmX7_findShares s m args below meth c H locs 0 0 Q (F0 m 26 ls [])) → W p l e rmX7_findShares s m args below meth c H locs 0 0 Q (F0 m 5 ls []) := by
    intro n
    induction n with
    | zero => intro x4_1 xv_t_shares_2 yv_t_shares_3 hF; exact (no_some hF).elim
    | succ n ih =>
      intro x4_1 xv_t_shares_2 yv_t_shares_3 hF H locs ls hP hD hS hl kexit
      rw [f_X7_findShares_L5] at hF
      refine lv_iload hx hb dX7_findShares_5 (lv_at hl 4 rfl) ?_
      refine lv_bipush (v := (10 : Int32)) hx hb dX7_findShares_7 (by decide) ?_
      refine lv_icmp_ge (tgt := 26) hx hb dX7_findShares_9 (by decide) (fun c_4 => ?_) (fun c_4 => ?_)
      · replace hF := if_t c_4 hF
        obtain rfl := Option.some.inj hF
        exact kexit _ _ _ hP hD hS (lv_sub hl [0, 1, 2, 3] rfl)
      · replace hF := if_f c_4 hF
        refine lv_aload_n hx hb dX7_findShares_12 rfl (lv_at hl 0 rfl) ?_
        refine xget (ci := 7) (C := RX7) (T := TX7) (N := 42) hfix xiX7 hK.1 hP 0 rfl rfl 20 (by decide) rfl xw_708 rfl dX7_findShares_13 ?_
        refine lv_iload hx hb dX7_findShares_16 (lv_at hl 4 rfl) ?_
        refine lv_iconst (v := (0 : Int32)) hx hb dX7_findShares_18 (by decide) ?_
        obtain ⟨c_5, hF⟩ := gd_e hF
        refine va_iast hx hb hK.1 hP hD hS 1 0 rfl rfl c_5 dX7_findShares_19 (fun H locs hP hD hS => ?_)
        have hP : va_P D vwCl [(a_t, .inr (7, [.ref a_t_stand, .ref a_t_on, .ref a_t_marks, .int s_t_villages, .int s_t_held, .ref a_t_rule, .int s_t_z, .ref a_t_tape, .int s_t_tapeMany, .int s_t_sort, .int s_t_begins, .int s_t_tokenEnds, .long s_t_word, .int s_t_value, .int s_t_good, .int s_t_freshVillages, .int s_t_freshHeld, .ref a_t_freshStand, .ref a_t_freshMarks, .ref a_t_freshRule, .ref a_t_shares, .ref a_t_said, .ref a_t_rows, .ref a_t_must, .int s_t_rowMany, .int s_t_mustMany, .ref a_t_sorts, .ref a_t_sizes, .ref a_t_sheets, .ref a_t_holds, .ref a_t_heldNumber, .ref a_t_heldSize, .int s_t_kind, .int s_t_number, .int s_t_own, .ref a_t_traced, .int s_t_bodies, .int s_t_isParted, .int s_t_isKept, .ref a_t_keptRow, .int s_t_movedTo, .ref a_t_single])), (a_t_shares, .inl (cI, 10, .inl (upd xv_t_shares_2 x4_1.toNatClampNeg (0 : Int32)))), (a_t_stand, .inl (cI, 100, .inl v_t_stand)), (a_t_marks, .inl (cI, 100, .inl v_t_marks)), (a_t_said, .inl (cI, 600, .inl v_t_said))] H := hP
        have hD : va_D A [(a_t, .inr (7, [.ref a_t_stand, .ref a_t_on, .ref a_t_marks, .int s_t_villages, .int s_t_held, .ref a_t_rule, .int s_t_z, .ref a_t_tape, .int s_t_tapeMany, .int s_t_sort, .int s_t_begins, .int s_t_tokenEnds, .long s_t_word, .int s_t_value, .int s_t_good, .int s_t_freshVillages, .int s_t_freshHeld, .ref a_t_freshStand, .ref a_t_freshMarks, .ref a_t_freshRule, .ref a_t_shares, .ref a_t_said, .ref a_t_rows, .ref a_t_must, .int s_t_rowMany, .int s_t_mustMany, .ref a_t_sorts, .ref a_t_sizes, .ref a_t_sheets, .ref a_t_holds, .ref a_t_heldNumber, .ref a_t_heldSize, .int s_t_kind, .int s_t_number, .int s_t_own, .ref a_t_traced, .int s_t_bodies, .int s_t_isParted, .int s_t_isKept, .ref a_t_keptRow, .int s_t_movedTo, .ref a_t_single])), (a_t_shares, .inl (cI, 10, .inl (upd xv_t_shares_2 x4_1.toNatClampNeg (0 : Int32)))), (a_t_stand, .inl (cI, 100, .inl v_t_stand)), (a_t_marks, .inl (cI, 100, .inl v_t_marks)), (a_t_said, .inl (cI, 600, .inl v_t_said))] := hD
        refine lv_iinc (v := (x4_1 + (1 : Int32))) (lv' := [(4, .int (x4_1 + (1 : Int32))), (0, .ref a_t), (1, .int i1), (2, .int i2), (3, .int (0 : Int32))]) hx hb dX7_findShares_20 hl (k := 4) rfl rfl (by decide) rfl (fun ls hl => ?_)
        refine lv_goto (tgt := 5) hx hb dX7_findShares_23 (by decide) ?_
        exact ih _ _ _ hF _ _ _ hP hD hS (lv_sub hl [1, 2, 3, 4, 0] rfl) kexit
  obtain ⟨yv_t_shares_3, hq, hF⟩ := bd1_e hF
  refine hL_5 _ _ _ _ hq _ _ _ hP hD hS (lv_sub hl [2, 3, 4, 1, 0] rfl) (fun H locs ls hP hD hS hl => ?_)
  refine lv_iconst (v := (0 : Int32)) hx hb dX7_findShares_26 (by decide) ?_
  refine lv_istore (lv' := [(4, .int (0 : Int32)), (0, .ref a_t), (1, .int i1), (2, .int i2), (3, .int (0 : Int32))]) hx hb dX7_findShares_27 hl (by decide) rfl (fun ls hl => ?_)
  have hL_29 : ∀ (n : Nat) (x3_6 : Int32) (x4_7 : Int32) (xv_t_shares_8 : (Nat → Int32)) (xv_t_said_9 : (Nat → Int32)) (y3_10 : Int32) (yv_t_shares_11 : (Nat → Int32)) (yv_t_said_12 : (Nat → Int32)), f_X7_findShares_L29 s_t_villages v_t_stand v_t_marks i2 i1 n x3_6 x4_7 xv_t_shares_8 xv_t_said_9 = some (y3_10, yv_t_shares_11, yv_t_said_12) → ∀ (H : Heap) (locs : List Loc) (ls : Array Slot), va_P D vwCl [(a_t, .inr (7, [.ref a_t_stand, .ref a_t_on, .ref a_t_marks, .int s_t_villages, .int s_t_held, .ref a_t_rule, .int s_t_z, .ref a_t_tape, .int s_t_tapeMany, .int s_t_sort, .int s_t_begins, .int s_t_tokenEnds, .long s_t_word, .int s_t_value, .int s_t_good, .int s_t_freshVillages, .int s_t_freshHeld, .ref a_t_freshStand, .ref a_t_freshMarks, .ref a_t_freshRule, .ref a_t_shares, .ref a_t_said, .ref a_t_rows, .ref a_t_must, .int s_t_rowMany, .int s_t_mustMany, .ref a_t_sorts, .ref a_t_sizes, .ref a_t_sheets, .ref a_t_holds, .ref a_t_heldNumber, .ref a_t_heldSize, .int s_t_kind, .int s_t_number, .int s_t_own, .ref a_t_traced, .int s_t_bodies, .int s_t_isParted, .int s_t_isKept, .ref a_t_keptRow, .int s_t_movedTo, .ref a_t_single])), (a_t_shares, .inl (cI, 10, .inl xv_t_shares_8)), (a_t_stand, .inl (cI, 100, .inl v_t_stand)), (a_t_marks, .inl (cI, 100, .inl v_t_marks)), (a_t_said, .inl (cI, 600, .inl xv_t_said_9))] H → va_D A [(a_t, .inr (7, [.ref a_t_stand, .ref a_t_on, .ref a_t_marks, .int s_t_villages, .int s_t_held, .ref a_t_rule, .int s_t_z, .ref a_t_tape, .int s_t_tapeMany, .int s_t_sort, .int s_t_begins, .int s_t_tokenEnds, .long s_t_word, .int s_t_value, .int s_t_good, .int s_t_freshVillages, .int s_t_freshHeld, .ref a_t_freshStand, .ref a_t_freshMarks, .ref a_t_freshRule, .ref a_t_shares, .ref a_t_said, .ref a_t_rows, .ref a_t_must, .int s_t_rowMany, .int s_t_mustMany, .ref a_t_sorts, .ref a_t_sizes, .ref a_t_sheets, .ref a_t_holds, .ref a_t_heldNumber, .ref a_t_heldSize, .int s_t_kind, .int s_t_number, .int s_t_own, .ref a_t_traced, .int s_t_bodies, .int s_t_isParted, .int s_t_isKept, .ref a_t_keptRow, .int s_t_movedTo, .ref a_t_single])), (a_t_shares, .inl (cI, 10, .inl xv_t_shares_8)), (a_t_stand, .inl (cI, 100, .inl v_t_stand)), (a_t_marks, .inl (cI, 100, .inl v_t_marks)), (a_t_said, .inl (cI, 600, .inl xv_t_said_9))] → va_S A s.heap H locs → lv_has ls 5 [(0, .ref a_t), (1, .int i1), (2, .int i2), (3, .int x3_6), (4, .int x4_7)] → (∀ (H : Heap) (locs : List Loc) (ls : Array Slot), va_P D vwCl [(a_t, .inr (7, [.ref a_t_stand, .ref a_t_on, .ref a_t_marks, .int s_t_villages, .int s_t_held, .ref a_t_rule, .int s_t_z, .ref a_t_tape, .int s_t_tapeMany, .int s_t_sort, .int s_t_begins, .int s_t_tokenEnds, .long s_t_word, .int s_t_value, .int s_t_good, .int s_t_freshVillages, .int s_t_freshHeld, .ref a_t_freshStand, .ref a_t_freshMarks, .ref a_t_freshRule, .ref a_t_shares, .ref a_t_said, .ref a_t_rows, .ref a_t_must, .int s_t_rowMany, .int s_t_mustMany, .ref a_t_sorts, .ref a_t_sizes, .ref a_t_sheets, .ref a_t_holds, .ref a_t_heldNumber, .ref a_t_heldSize, .int s_t_kind, .int s_t_number, .int s_t_own, .ref a_t_traced, .int s_t_bodies, .int s_t_isParted, .int s_t_isKept, .ref a_t_keptRow, .int s_t_movedTo, .ref a_t_single])), (a_t_shares, .inl (cI, 10, .inl yv_t_shares_11)), (a_t_stand, .inl (cI, 100, .inl v_t_stand)), (a_t_marks, .inl (cI, 100, .inl v_t_marks)), (a_t_said, .inl (cI, 600, .inl yv_t_said_12))] H → va_D A [(a_t, .inr (7, [.ref a_t_stand, .ref a_t_on, .ref a_t_marks, .int s_t_villages, .int s_t_held, .ref a_t_rule, .int s_t_z, .ref a_t_tape, .int s_t_tapeMany, .int s_t_sort, .int s_t_begins, .int s_t_tokenEnds, .long s_t_word, .int s_t_value, .int s_t_good, .int s_t_freshVillages, .int s_t_freshHeld, .ref a_t_freshStand, .ref a_t_freshMarks, .ref a_t_freshRule, .ref a_t_shares, .ref a_t_said, .ref a_t_rows, .ref a_t_must, .int s_t_rowMany, .int s_t_mustMany, .ref a_t_sorts, .ref a_t_sizes, .ref a_t_sheets, .ref a_t_holds, .ref a_t_heldNumber, .ref a_t_heldSize, .int s_t_kind, .int s_t_number, .int s_t_own, .ref a_t_traced, .int s_t_bodies, .int s_t_isParted, .int s_t_isKept, .ref a_t_keptRow, .int s_t_movedTo, .ref a_t_single])), (a_t_shares, .inl (cI, 10, .inl yv_t_shares_11)), (a_t_stand, .inl (cI, 100, .inl v_t_stand)), (a_t_marks, .inl (cI, 100, .inl v_t_marks)), (a_t_said, .inl (cI, 600, .inl yv_t_said_12))] → va_S A s.heap H locs → lv_has ls 5 [(3, .int y3_10)] → W p l e rmX7_findShares s m args below meth c H locs 0 0 Q (F0 m 132 ls [])) → W p l e rmX7_findShares s m args below meth c H locs 0 0 Q (F0 m 29 ls []) := by
    intro n
    induction n with
    | zero => intro x3_6 x4_7 xv_t_shares_8 xv_t_said_9 y3_10 yv_t_shares_11 yv_t_said_12 hF; exact (no_some hF).elim
    | succ n ih =>
      intro x3_6 x4_7 xv_t_shares_8 xv_t_said_9 y3_10 yv_t_shares_11 yv_t_said_12 hF H locs ls hP hD hS hl kexit
      rw [f_X7_findShares_L29] at hF
      refine lv_iload hx hb dX7_findShares_29 (lv_at hl 4 rfl) ?_
      refine lv_sipush (v := (600 : Int32)) hx hb dX7_findShares_31 (by decide) ?_
      refine lv_icmp_ge (tgt := 132) hx hb dX7_findShares_34 (by decide) (fun c_13 => ?_) (fun c_13 => ?_)
      · replace hF := if_t c_13 hF
        obtain ⟨rfl, rfl, rfl⟩ := pj3 hF
        exact kexit _ _ _ hP hD hS (lv_sub hl [3] rfl)
      · replace hF := if_f c_13 hF
        refine lv_aload_n hx hb dX7_findShares_37 rfl (lv_at hl 0 rfl) ?_
        refine xget (ci := 7) (C := RX7) (T := TX7) (N := 42) hfix xiX7 hK.1 hP 0 rfl rfl 21 (by decide) rfl xw_709 rfl dX7_findShares_38 ?_
        refine lv_iload hx hb dX7_findShares_41 (lv_at hl 4 rfl) ?_
        refine lv_aload_n hx hb dX7_findShares_43 rfl (lv_at hl 0 rfl) ?_
        refine lv_iload hx hb dX7_findShares_44 (lv_at hl 4 rfl) ?_
        obtain ⟨r_14, hq_15, hF⟩ := bd1_e hF
        refine xri0 (xrunV (As := [.int x4_7]) (rest := [.int x4_7, .ref a_t_said]) (c_X7_allMisses l D cI cB cJ a_t a_t_stand a_t_on a_t_marks a_t_rule a_t_tape a_t_freshStand a_t_freshMarks a_t_freshRule a_t_shares a_t_said a_t_rows a_t_must a_t_sorts a_t_sizes a_t_sheets a_t_holds a_t_heldNumber a_t_heldSize a_t_traced a_t_keptRow a_t_single _ s_t_villages s_t_held s_t_z s_t_tapeMany s_t_sort s_t_begins s_t_tokenEnds s_t_word s_t_value s_t_good s_t_freshVillages s_t_freshHeld s_t_rowMany s_t_mustMany s_t_kind s_t_number s_t_own s_t_bodies s_t_isParted s_t_isKept s_t_movedTo v_t_stand v_t_marks x4_7 r_14 hq_15) hfix xw_993 yv_X7_allMisses ⟨rfl, rfl⟩ ⟨(Nat.le_of_ble_eq_true rfl), (Nat.le_of_ble_eq_true rfl)⟩ xKk_K (fun U hU hW => xK.warm hW hK) hK.1 hP hD [0, 2, 3] rfl rfl 0 7 rfl rfl rfl rfl hl.1 rfl (Nat.le_of_ble_eq_true rfl) dX7_findShares_46 ⟨Nat.zero_le _, Nat.zero_le _⟩) hP hD hS hA [0, 2, 3] rfl rfl (fun H locs hP hD hS => ?_)
        refine lv_iload_n hx hb dX7_findShares_49 rfl (lv_at hl 2 rfl) ?_
        obtain ⟨j_16, hJ, hF⟩ := bd1_e hF
        have hN_87_16 : ∀ (H : Heap) (locs : List Loc) (ls : Array Slot), va_P D vwCl [(a_t, .inr (7, [.ref a_t_stand, .ref a_t_on, .ref a_t_marks, .int s_t_villages, .int s_t_held, .ref a_t_rule, .int s_t_z, .ref a_t_tape, .int s_t_tapeMany, .int s_t_sort, .int s_t_begins, .int s_t_tokenEnds, .long s_t_word, .int s_t_value, .int s_t_good, .int s_t_freshVillages, .int s_t_freshHeld, .ref a_t_freshStand, .ref a_t_freshMarks, .ref a_t_freshRule, .ref a_t_shares, .ref a_t_said, .ref a_t_rows, .ref a_t_must, .int s_t_rowMany, .int s_t_mustMany, .ref a_t_sorts, .ref a_t_sizes, .ref a_t_sheets, .ref a_t_holds, .ref a_t_heldNumber, .ref a_t_heldSize, .int s_t_kind, .int s_t_number, .int s_t_own, .ref a_t_traced, .int s_t_bodies, .int s_t_isParted, .int s_t_isKept, .ref a_t_keptRow, .int s_t_movedTo, .ref a_t_single])), (a_t_shares, .inl (cI, 10, .inl xv_t_shares_8)), (a_t_stand, .inl (cI, 100, .inl v_t_stand)), (a_t_marks, .inl (cI, 100, .inl v_t_marks)), (a_t_said, .inl (cI, 600, .inl xv_t_said_9))] H → va_D A [(a_t, .inr (7, [.ref a_t_stand, .ref a_t_on, .ref a_t_marks, .int s_t_villages, .int s_t_held, .ref a_t_rule, .int s_t_z, .ref a_t_tape, .int s_t_tapeMany, .int s_t_sort, .int s_t_begins, .int s_t_tokenEnds, .long s_t_word, .int s_t_value, .int s_t_good, .int s_t_freshVillages, .int s_t_freshHeld, .ref a_t_freshStand, .ref a_t_freshMarks, .ref a_t_freshRule, .ref a_t_shares, .ref a_t_said, .ref a_t_rows, .ref a_t_must, .int s_t_rowMany, .int s_t_mustMany, .ref a_t_sorts, .ref a_t_sizes, .ref a_t_sheets, .ref a_t_holds, .ref a_t_heldNumber, .ref a_t_heldSize, .int s_t_kind, .int s_t_number, .int s_t_own, .ref a_t_traced, .int s_t_bodies, .int s_t_isParted, .int s_t_isKept, .ref a_t_keptRow, .int s_t_movedTo, .ref a_t_single])), (a_t_shares, .inl (cI, 10, .inl xv_t_shares_8)), (a_t_stand, .inl (cI, 100, .inl v_t_stand)), (a_t_marks, .inl (cI, 100, .inl v_t_marks)), (a_t_said, .inl (cI, 600, .inl xv_t_said_9))] → va_S A s.heap H locs → lv_has ls 5 [(0, .ref a_t), (1, .int i1), (2, .int i2), (3, .int x3_6), (4, .int x4_7)] → W p l e rmX7_findShares s m args below meth c H locs 0 0 Q (F0 m 87 ls [.int j_16, .int x4_7, .ref a_t_said]) := by
          intro H locs ls hP hD hS hl
          obtain ⟨c_17, hF⟩ := gd_e hF
          refine va_iast hx hb hK.1 hP hD hS 4 0 rfl rfl c_17 dX7_findShares_87 (fun H locs hP hD hS => ?_)
          have hP : va_P D vwCl [(a_t, .inr (7, [.ref a_t_stand, .ref a_t_on, .ref a_t_marks, .int s_t_villages, .int s_t_held, .ref a_t_rule, .int s_t_z, .ref a_t_tape, .int s_t_tapeMany, .int s_t_sort, .int s_t_begins, .int s_t_tokenEnds, .long s_t_word, .int s_t_value, .int s_t_good, .int s_t_freshVillages, .int s_t_freshHeld, .ref a_t_freshStand, .ref a_t_freshMarks, .ref a_t_freshRule, .ref a_t_shares, .ref a_t_said, .ref a_t_rows, .ref a_t_must, .int s_t_rowMany, .int s_t_mustMany, .ref a_t_sorts, .ref a_t_sizes, .ref a_t_sheets, .ref a_t_holds, .ref a_t_heldNumber, .ref a_t_heldSize, .int s_t_kind, .int s_t_number, .int s_t_own, .ref a_t_traced, .int s_t_bodies, .int s_t_isParted, .int s_t_isKept, .ref a_t_keptRow, .int s_t_movedTo, .ref a_t_single])), (a_t_shares, .inl (cI, 10, .inl xv_t_shares_8)), (a_t_stand, .inl (cI, 100, .inl v_t_stand)), (a_t_marks, .inl (cI, 100, .inl v_t_marks)), (a_t_said, .inl (cI, 600, .inl (upd xv_t_said_9 x4_7.toNatClampNeg j_16)))] H := hP
          have hD : va_D A [(a_t, .inr (7, [.ref a_t_stand, .ref a_t_on, .ref a_t_marks, .int s_t_villages, .int s_t_held, .ref a_t_rule, .int s_t_z, .ref a_t_tape, .int s_t_tapeMany, .int s_t_sort, .int s_t_begins, .int s_t_tokenEnds, .long s_t_word, .int s_t_value, .int s_t_good, .int s_t_freshVillages, .int s_t_freshHeld, .ref a_t_freshStand, .ref a_t_freshMarks, .ref a_t_freshRule, .ref a_t_shares, .ref a_t_said, .ref a_t_rows, .ref a_t_must, .int s_t_rowMany, .int s_t_mustMany, .ref a_t_sorts, .ref a_t_sizes, .ref a_t_sheets, .ref a_t_holds, .ref a_t_heldNumber, .ref a_t_heldSize, .int s_t_kind, .int s_t_number, .int s_t_own, .ref a_t_traced, .int s_t_bodies, .int s_t_isParted, .int s_t_isKept, .ref a_t_keptRow, .int s_t_movedTo, .ref a_t_single])), (a_t_shares, .inl (cI, 10, .inl xv_t_shares_8)), (a_t_stand, .inl (cI, 100, .inl v_t_stand)), (a_t_marks, .inl (cI, 100, .inl v_t_marks)), (a_t_said, .inl (cI, 600, .inl (upd xv_t_said_9 x4_7.toNatClampNeg j_16)))] := hD
          refine lv_aload_n hx hb dX7_findShares_88 rfl (lv_at hl 0 rfl) ?_
          refine xget (ci := 7) (C := RX7) (T := TX7) (N := 42) hfix xiX7 hK.1 hP 0 rfl rfl 21 (by decide) rfl xw_709 rfl dX7_findShares_89 ?_
          refine lv_iload hx hb dX7_findShares_92 (lv_at hl 4 rfl) ?_
          obtain ⟨c_18, hF⟩ := gd_e hF
          refine va_iald hx hb hK.1 hP 4 0 rfl rfl c_18 dX7_findShares_94 ?_
          refine lv_if_lt (tgt := 126) hx hb dX7_findShares_95 (by decide) (fun c_19 => ?_) (fun c_19 => ?_)
          · replace hF := if_t c_19 hF
            refine lv_iinc (v := (x4_7 + (1 : Int32))) (lv' := [(4, .int (x4_7 + (1 : Int32))), (0, .ref a_t), (1, .int i1), (2, .int i2), (3, .int x3_6)]) hx hb dX7_findShares_126 hl (k := 4) rfl rfl (by decide) rfl (fun ls hl => ?_)
            refine lv_goto (tgt := 29) hx hb dX7_findShares_129 (by decide) ?_
            exact ih _ _ _ _ _ _ _ hF _ _ _ hP hD hS (lv_sub hl [1, 2, 3, 4, 0] rfl) kexit
          · replace hF := if_f c_19 hF
            refine lv_aload_n hx hb dX7_findShares_98 rfl (lv_at hl 0 rfl) ?_
            refine xget (ci := 7) (C := RX7) (T := TX7) (N := 42) hfix xiX7 hK.1 hP 0 rfl rfl 20 (by decide) rfl xw_708 rfl dX7_findShares_99 ?_
            refine lv_aload_n hx hb dX7_findShares_102 rfl (lv_at hl 0 rfl) ?_
            refine xget (ci := 7) (C := RX7) (T := TX7) (N := 42) hfix xiX7 hK.1 hP 0 rfl rfl 21 (by decide) rfl xw_709 rfl dX7_findShares_103 ?_
            refine lv_iload hx hb dX7_findShares_106 (lv_at hl 4 rfl) ?_
            obtain ⟨c_20, hF⟩ := gd_e hF
            refine va_iald hx hb hK.1 hP 4 0 rfl rfl c_20 dX7_findShares_108 ?_
            refine lv_dup2_11 hx hb dX7_findShares_109 rfl rfl ?_
            obtain ⟨c_21, hF⟩ := gd_e hF
            refine va_iald hx hb hK.1 hP 1 0 rfl rfl c_21 dX7_findShares_110 ?_
            refine lv_iload hx hb dX7_findShares_111 (lv_at hl 4 rfl) ?_
            refine xri0 (xrunS (As := [.int x4_7]) (rest := [.int (xv_t_shares_8 ((upd xv_t_said_9 x4_7.toNatClampNeg j_16) x4_7.toNatClampNeg).toNatClampNeg), .int ((upd xv_t_said_9 x4_7.toNatClampNeg j_16) x4_7.toNatClampNeg), .ref a_t_shares]) (c_X7_shareOf l D cI cB cJ _ x4_7 (f_X7_shareOf x4_7) rfl) hfix xw_1028 ys_X7_shareOf ⟨rfl, rfl⟩ ⟨(Nat.le_of_ble_eq_true rfl), (Nat.le_of_ble_eq_true rfl)⟩ xKk_K (fun U hU hW => xK.warm hW hK) hP hD [] rfl rfl rfl hl.1 rfl (Nat.le_of_ble_eq_true rfl) dX7_findShares_113 ⟨Nat.zero_le _, Nat.zero_le _⟩) hP hD hS hA [] rfl rfl (fun H locs hP hD hS => ?_)
            refine lv_iadd hx hb dX7_findShares_116 ?_
            obtain ⟨c_22, hF⟩ := gd_e hF
            refine va_iast hx hb hK.1 hP hD hS 1 0 rfl rfl c_22 dX7_findShares_117 (fun H locs hP hD hS => ?_)
            have hP : va_P D vwCl [(a_t, .inr (7, [.ref a_t_stand, .ref a_t_on, .ref a_t_marks, .int s_t_villages, .int s_t_held, .ref a_t_rule, .int s_t_z, .ref a_t_tape, .int s_t_tapeMany, .int s_t_sort, .int s_t_begins, .int s_t_tokenEnds, .long s_t_word, .int s_t_value, .int s_t_good, .int s_t_freshVillages, .int s_t_freshHeld, .ref a_t_freshStand, .ref a_t_freshMarks, .ref a_t_freshRule, .ref a_t_shares, .ref a_t_said, .ref a_t_rows, .ref a_t_must, .int s_t_rowMany, .int s_t_mustMany, .ref a_t_sorts, .ref a_t_sizes, .ref a_t_sheets, .ref a_t_holds, .ref a_t_heldNumber, .ref a_t_heldSize, .int s_t_kind, .int s_t_number, .int s_t_own, .ref a_t_traced, .int s_t_bodies, .int s_t_isParted, .int s_t_isKept, .ref a_t_keptRow, .int s_t_movedTo, .ref a_t_single])), (a_t_shares, .inl (cI, 10, .inl (upd xv_t_shares_8 ((upd xv_t_said_9 x4_7.toNatClampNeg j_16) x4_7.toNatClampNeg).toNatClampNeg ((xv_t_shares_8 ((upd xv_t_said_9 x4_7.toNatClampNeg j_16) x4_7.toNatClampNeg).toNatClampNeg) + (f_X7_shareOf x4_7))))), (a_t_stand, .inl (cI, 100, .inl v_t_stand)), (a_t_marks, .inl (cI, 100, .inl v_t_marks)), (a_t_said, .inl (cI, 600, .inl (upd xv_t_said_9 x4_7.toNatClampNeg j_16)))] H := hP
            have hD : va_D A [(a_t, .inr (7, [.ref a_t_stand, .ref a_t_on, .ref a_t_marks, .int s_t_villages, .int s_t_held, .ref a_t_rule, .int s_t_z, .ref a_t_tape, .int s_t_tapeMany, .int s_t_sort, .int s_t_begins, .int s_t_tokenEnds, .long s_t_word, .int s_t_value, .int s_t_good, .int s_t_freshVillages, .int s_t_freshHeld, .ref a_t_freshStand, .ref a_t_freshMarks, .ref a_t_freshRule, .ref a_t_shares, .ref a_t_said, .ref a_t_rows, .ref a_t_must, .int s_t_rowMany, .int s_t_mustMany, .ref a_t_sorts, .ref a_t_sizes, .ref a_t_sheets, .ref a_t_holds, .ref a_t_heldNumber, .ref a_t_heldSize, .int s_t_kind, .int s_t_number, .int s_t_own, .ref a_t_traced, .int s_t_bodies, .int s_t_isParted, .int s_t_isKept, .ref a_t_keptRow, .int s_t_movedTo, .ref a_t_single])), (a_t_shares, .inl (cI, 10, .inl (upd xv_t_shares_8 ((upd xv_t_said_9 x4_7.toNatClampNeg j_16) x4_7.toNatClampNeg).toNatClampNeg ((xv_t_shares_8 ((upd xv_t_said_9 x4_7.toNatClampNeg j_16) x4_7.toNatClampNeg).toNatClampNeg) + (f_X7_shareOf x4_7))))), (a_t_stand, .inl (cI, 100, .inl v_t_stand)), (a_t_marks, .inl (cI, 100, .inl v_t_marks)), (a_t_said, .inl (cI, 600, .inl (upd xv_t_said_9 x4_7.toNatClampNeg j_16)))] := hD
            refine lv_iload_n hx hb dX7_findShares_118 rfl (lv_at hl 3 rfl) ?_
            refine lv_iload hx hb dX7_findShares_119 (lv_at hl 4 rfl) ?_
            refine xri0 (xrunS (As := [.int x4_7]) (rest := [.int x3_6]) (c_X7_shareOf l D cI cB cJ _ x4_7 (f_X7_shareOf x4_7) rfl) hfix xw_1028 ys_X7_shareOf ⟨rfl, rfl⟩ ⟨(Nat.le_of_ble_eq_true rfl), (Nat.le_of_ble_eq_true rfl)⟩ xKk_K (fun U hU hW => xK.warm hW hK) hP hD [] rfl rfl rfl hl.1 rfl (Nat.le_of_ble_eq_true rfl) dX7_findShares_121 ⟨Nat.zero_le _, Nat.zero_le _⟩) hP hD hS hA [] rfl rfl (fun H locs hP hD hS => ?_)
            refine lv_iadd hx hb dX7_findShares_124 ?_
            refine lv_istore_n (lv' := [(3, .int (x3_6 + (f_X7_shareOf x4_7))), (0, .ref a_t), (1, .int i1), (2, .int i2), (4, .int x4_7)]) hx hb dX7_findShares_125 rfl hl (by decide) rfl (fun ls hl => ?_)
            refine lv_iinc (v := (x4_7 + (1 : Int32))) (lv' := [(4, .int (x4_7 + (1 : Int32))), (3, .int (x3_6 + (f_X7_shareOf x4_7))), (0, .ref a_t), (1, .int i1), (2, .int i2)]) hx hb dX7_findShares_126 hl (k := 4) rfl rfl (by decide) rfl (fun ls hl => ?_)
            refine lv_goto (tgt := 29) hx hb dX7_findShares_129 (by decide) ?_
            exact ih _ _ _ _ _ _ _ hF _ _ _ hP hD hS (lv_sub hl [2, 3, 4, 1, 0] rfl) kexit
        replace hF := hJ
        refine lv_icmp_gt (tgt := 85) hx hb dX7_findShares_50 (by decide) (fun c_23 => ?_) (fun c_23 => ?_)
        · replace hF := if_t c_23 hF
          refine lv_bipush (v := (-9 : Int32)) hx hb dX7_findShares_85 (by decide) ?_
          obtain rfl := Option.some.inj hF
          exact hN_87_16 _ _ _ hP hD hS (lv_sub hl [0, 1, 2, 3, 4] rfl)
        · replace hF := if_f c_23 hF
          refine lv_aload_n hx hb dX7_findShares_53 rfl (lv_at hl 0 rfl) ?_
          refine lv_iload hx hb dX7_findShares_54 (lv_at hl 4 rfl) ?_
          refine xri0 (xrunS (As := [.int x4_7]) (rest := [.ref a_t, .int x4_7, .ref a_t_said]) (c_X7_kindOf l D cI cB cJ _ x4_7 (f_X7_kindOf x4_7) rfl) hfix xw_997 ys_X7_kindOf ⟨rfl, rfl⟩ ⟨(Nat.le_of_ble_eq_true rfl), (Nat.le_of_ble_eq_true rfl)⟩ xKk_K (fun U hU hW => xK.warm hW hK) hP hD [] rfl rfl rfl hl.1 rfl (Nat.le_of_ble_eq_true rfl) dX7_findShares_56 ⟨Nat.zero_le _, Nat.zero_le _⟩) hP hD hS hA [] rfl rfl (fun H locs hP hD hS => ?_)
          refine lv_iload hx hb dX7_findShares_59 (lv_at hl 4 rfl) ?_
          refine xri0 (xrunS (As := [.int x4_7]) (rest := [.int (f_X7_kindOf x4_7), .ref a_t, .int x4_7, .ref a_t_said]) (c_X7_aOf l D cI cB cJ _ x4_7 (f_X7_aOf x4_7) rfl) hfix xw_1000 ys_X7_aOf ⟨rfl, rfl⟩ ⟨(Nat.le_of_ble_eq_true rfl), (Nat.le_of_ble_eq_true rfl)⟩ xKk_K (fun U hU hW => xK.warm hW hK) hP hD [] rfl rfl rfl hl.1 rfl (Nat.le_of_ble_eq_true rfl) dX7_findShares_61 ⟨Nat.zero_le _, Nat.zero_le _⟩) hP hD hS hA [] rfl rfl (fun H locs hP hD hS => ?_)
          refine lv_iload hx hb dX7_findShares_64 (lv_at hl 4 rfl) ?_
          refine xri0 (xrunS (As := [.int x4_7]) (rest := [.int (f_X7_aOf x4_7), .int (f_X7_kindOf x4_7), .ref a_t, .int x4_7, .ref a_t_said]) (c_X7_bOf l D cI cB cJ _ x4_7 (f_X7_bOf x4_7) rfl) hfix xw_1003 ys_X7_bOf ⟨rfl, rfl⟩ ⟨(Nat.le_of_ble_eq_true rfl), (Nat.le_of_ble_eq_true rfl)⟩ xKk_K (fun U hU hW => xK.warm hW hK) hP hD [] rfl rfl rfl hl.1 rfl (Nat.le_of_ble_eq_true rfl) dX7_findShares_66 ⟨Nat.zero_le _, Nat.zero_le _⟩) hP hD hS hA [] rfl rfl (fun H locs hP hD hS => ?_)
          refine lv_iload hx hb dX7_findShares_69 (lv_at hl 4 rfl) ?_
          refine xri0 (xrunS (As := [.int x4_7]) (rest := [.int (f_X7_bOf x4_7), .int (f_X7_aOf x4_7), .int (f_X7_kindOf x4_7), .ref a_t, .int x4_7, .ref a_t_said]) (c_X7_kOf l D cI cB cJ _ x4_7 (f_X7_kOf x4_7) rfl) hfix xw_1006 ys_X7_kOf ⟨rfl, rfl⟩ ⟨(Nat.le_of_ble_eq_true rfl), (Nat.le_of_ble_eq_true rfl)⟩ xKk_K (fun U hU hW => xK.warm hW hK) hP hD [] rfl rfl rfl hl.1 rfl (Nat.le_of_ble_eq_true rfl) dX7_findShares_71 ⟨Nat.zero_le _, Nat.zero_le _⟩) hP hD hS hA [] rfl rfl (fun H locs hP hD hS => ?_)
          refine lv_iload_n hx hb dX7_findShares_74 rfl (lv_at hl 1 rfl) ?_
          refine lv_aload_n hx hb dX7_findShares_75 rfl (lv_at hl 0 rfl) ?_
          refine xget (ci := 7) (C := RX7) (T := TX7) (N := 42) hfix xiX7 hK.1 hP 0 rfl rfl 0 (by decide) rfl xw_688 rfl dX7_findShares_76 ?_
          obtain ⟨r_24, hq_25, hF⟩ := bd1_e hF
          refine xri0 (xrunV (As := [.int (f_X7_kindOf x4_7), .int (f_X7_aOf x4_7), .int (f_X7_bOf x4_7), .int (f_X7_kOf x4_7), .int i1, .ref a_t_stand]) (rest := [.int x4_7, .ref a_t_said]) (c_X7_saysBy l D cI cB cJ a_t a_t_stand a_t_on a_t_marks a_t_rule a_t_tape a_t_freshStand a_t_freshMarks a_t_freshRule a_t_shares a_t_said a_t_rows a_t_must a_t_sorts a_t_sizes a_t_sheets a_t_holds a_t_heldNumber a_t_heldSize a_t_traced a_t_keptRow a_t_single a_t_stand _ 100 s_t_villages s_t_held s_t_z s_t_tapeMany s_t_sort s_t_begins s_t_tokenEnds s_t_word s_t_value s_t_good s_t_freshVillages s_t_freshHeld s_t_rowMany s_t_mustMany s_t_kind s_t_number s_t_own s_t_bodies s_t_isParted s_t_isKept s_t_movedTo v_t_stand v_t_marks (f_X7_kindOf x4_7) (f_X7_aOf x4_7) (f_X7_bOf x4_7) (f_X7_kOf x4_7) i1 r_24 hq_25) hfix xw_936 yv_X7_saysBy ⟨rfl, rfl⟩ ⟨(Nat.le_of_ble_eq_true rfl), (Nat.le_of_ble_eq_true rfl)⟩ xKk_K (fun U hU hW => xK.warm hW hK) hK.1 hP hD [0, 2, 3] rfl rfl 0 7 rfl rfl rfl rfl hl.1 rfl (Nat.le_of_ble_eq_true rfl) dX7_findShares_79 ⟨Nat.zero_le _, Nat.zero_le _⟩) hP hD hS hA [0, 2, 3] rfl rfl (fun H locs hP hD hS => ?_)
          refine lv_goto (tgt := 87) hx hb dX7_findShares_82 (by decide) ?_
          obtain rfl := Option.some.inj hF
          exact hN_87_16 _ _ _ hP hD hS (lv_sub hl [0, 1, 2, 3, 4] rfl)
  obtain ⟨y3_10, yv_t_shares_11, yv_t_said_12, hq, hF⟩ := bd3_e hF
  refine hL_29 _ _ _ _ _ _ _ _ hq _ _ _ hP hD hS (lv_sub hl [1, 2, 3, 4, 0] rfl) (fun H locs ls hP hD hS hl => ?_)
  refine lv_iload_n hx hb dX7_findShares_132 rfl (lv_at hl 0 rfl) ?_
  obtain ⟨rfl, rfl, rfl⟩ := pj3 hF
  exact hEnd _ _ _ _ _ dX7_findShares_133 hP hS rfl
def f_X7_partOf_L5 : Nat → Int32 → Int32 → Option (Int32)
  | 0, _, _ => none
  | n + 1, x3_1, x4_2 => (if x4_2 = (0 : Int32) then some (x3_1) else gz x4_2 (f_X7_partOf_L5 n x4_2 (xrem x3_1 x4_2)))
def f_X7_partOf (i1 : Int32) (i2 : Int32) (i3 : Int32) : Option (Int32) := bd1 (f_X7_partOf_L5 1000 i1 i2) (fun (y3_3 : Int32) => (if i3 = (0 : Int32) then gz y3_3 (some ((i1 / y3_3))) else gz y3_3 (some ((i2 / y3_3)))))
abbrev rmX7_partOf : Room := { frames := 0, cells := 0, slots := 0, locals := 0 }
set_option maxHeartbeats 400000 in
set_option maxRecDepth 100000 in
theorem c_X7_partOf (l : Launch) (D : va_G) (cI cB cJ : ClassId) (sz : Nat) (i1 : Int32) (i2 : Int32) (i3 : Int32) (r : Int32) (hF : f_X7_partOf i1 i2 i3 = some r) : xMi l yX7_partOf (.code yX7_partOf cX7_partOf 6 (some .int) :: xU) rmX7_partOf (xK D cI cB cJ) D sz [.int i1, .int i2, .int i3] [] [] r := by
  refine xMi.mk (own := "FairNextModel") (by decide +kernel) rfl (Nat.le_of_ble_eq_true rfl) ?_
  intro p e s m args below meth c A Q ls H hfix hK hP hD hA hS hl hEnd
  obtain ⟨hx, hb, hml, hown, hts⟩ := id hfix
  have hl : lv_has ls 6 [(0, .int i1), (1, .int i2), (2, .int i3)] := hl
  rw [f_X7_partOf] at hF
  refine lv_iload_n hx hb dX7_partOf_0 rfl (lv_at hl 0 rfl) ?_
  refine lv_istore_n (lv' := [(3, .int i1), (0, .int i1), (1, .int i2), (2, .int i3)]) hx hb dX7_partOf_1 rfl hl (by decide) rfl (fun ls hl => ?_)
  refine lv_iload_n hx hb dX7_partOf_2 rfl (lv_at hl 2 rfl) ?_
  refine lv_istore (lv' := [(4, .int i2), (3, .int i1), (0, .int i1), (1, .int i2), (2, .int i3)]) hx hb dX7_partOf_3 hl (by decide) rfl (fun ls hl => ?_)
  have hL_5 : ∀ (n : Nat) (x3_1 : Int32) (x4_2 : Int32) (y3_3 : Int32), f_X7_partOf_L5 n x3_1 x4_2 = some y3_3 → ∀ (H : Heap) (locs : List Loc) (ls : Array Slot), va_P D vwCl [] H → va_D A [] → va_S A s.heap H locs → lv_has ls 6 [(0, .int i1), (1, .int i2), (2, .int i3), (3, .int x3_1), (4, .int x4_2)] → (∀ (H : Heap) (locs : List Loc) (ls : Array Slot), va_P D vwCl [] H → va_D A [] → va_S A s.heap H locs → lv_has ls 6 [(0, .int i1), (1, .int i2), (2, .int i3), (3, .int y3_3)] → W p l e rmX7_partOf s m args below meth c H locs 0 0 Q (F0 m 26 ls [])) → W p l e rmX7_partOf s m args below meth c H locs 0 0 Q (F0 m 5 ls []) := by
    intro n
    induction n with
    | zero => intro x3_1 x4_2 y3_3 hF; exact (no_some hF).elim
    | succ n ih =>
      intro x3_1 x4_2 y3_3 hF H locs ls hP hD hS hl kexit
      rw [f_X7_partOf_L5] at hF
      refine lv_iload hx hb dX7_partOf_5 (lv_at hl 4 rfl) ?_
      refine lv_if_eq (tgt := 26) hx hb dX7_partOf_7 (by decide) (fun c_4 => ?_) (fun c_4 => ?_)
      · replace hF := if_t c_4 hF
        obtain rfl := Option.some.inj hF
        exact kexit _ _ _ hP hD hS (lv_sub hl [0, 1, 2, 3] rfl)
      · replace hF := if_f c_4 hF
        refine lv_iload_n hx hb dX7_partOf_10 rfl (lv_at hl 3 rfl) ?_
        refine lv_iload hx hb dX7_partOf_11 (lv_at hl 4 rfl) ?_
        obtain ⟨c_5, hF⟩ := gz_e hF
        refine lv_irem hx hb dX7_partOf_13 c_5 ?_
        refine lv_istore (lv' := [(5, .int (xrem x3_1 x4_2)), (0, .int i1), (1, .int i2), (2, .int i3), (3, .int x3_1), (4, .int x4_2)]) hx hb dX7_partOf_14 hl (by decide) rfl (fun ls hl => ?_)
        refine lv_iload hx hb dX7_partOf_16 (lv_at hl 5 rfl) ?_
        refine lv_istore_n (lv' := [(3, .int x4_2), (5, .int (xrem x3_1 x4_2)), (0, .int i1), (1, .int i2), (2, .int i3), (4, .int x4_2)]) hx hb dX7_partOf_18 rfl hl (by decide) rfl (fun ls hl => ?_)
        refine lv_iload hx hb dX7_partOf_19 (lv_at hl 1 rfl) ?_
        refine lv_istore (lv' := [(4, .int (xrem x3_1 x4_2)), (3, .int x4_2), (5, .int (xrem x3_1 x4_2)), (0, .int i1), (1, .int i2), (2, .int i3)]) hx hb dX7_partOf_21 hl (by decide) rfl (fun ls hl => ?_)
        refine lv_goto (tgt := 5) hx hb dX7_partOf_23 (by decide) ?_
        exact ih _ _ _ hF _ _ _ hP hD hS (lv_sub hl [3, 4, 5, 1, 0] rfl) kexit
  obtain ⟨y3_3, hq, hF⟩ := bd1_e hF
  refine hL_5 _ _ _ _ hq _ _ _ hP hD hS (lv_sub hl [2, 3, 4, 1, 0] rfl) (fun H locs ls hP hD hS hl => ?_)
  refine lv_iload_n hx hb dX7_partOf_26 rfl (lv_at hl 2 rfl) ?_
  refine lv_if_ne (tgt := 34) hx hb dX7_partOf_27 (by decide) (fun c_6 => ?_) (fun c_6 => ?_)
  · replace hF := if_f c_6 hF
    refine lv_iload_n hx hb dX7_partOf_34 rfl (lv_at hl 1 rfl) ?_
    refine lv_iload_n hx hb dX7_partOf_35 rfl (lv_at hl 3 rfl) ?_
    obtain ⟨c_7, hF⟩ := gz_e hF
    refine lv_idiv hx hb dX7_partOf_36 c_7 ?_
    obtain rfl := Option.some.inj hF
    exact hEnd _ _ _ _ _ dX7_partOf_37 hP hS rfl
  · replace hF := if_t c_6 hF
    refine lv_iload_n hx hb dX7_partOf_30 rfl (lv_at hl 0 rfl) ?_
    refine lv_goto (tgt := 35) hx hb dX7_partOf_31 (by decide) ?_
    refine lv_iload_n hx hb dX7_partOf_35 rfl (lv_at hl 3 rfl) ?_
    obtain ⟨c_8, hF⟩ := gz_e hF
    refine lv_idiv hx hb dX7_partOf_36 c_8 ?_
    obtain rfl := Option.some.inj hF
    exact hEnd _ _ _ _ _ dX7_partOf_37 hP hS rfl
def f_X7_odds (i1 : Int32) (i2 : Int32) (i3 : Int32) (i4 : Int32) (s_t_villages : Int32) (v_t_shares : (Nat → Int32)) (v_t_stand : (Nat → Int32)) (v_t_marks : (Nat → Int32)) (v_t_said : (Nat → Int32)) : Option (Int32 × (Nat → Int32) × (Nat → Int32)) := (if (f_X7_isLong i1) = (0 : Int32) then some (((-1 : Int32), v_t_shares, v_t_said)) else (if (f_X7_in i2 (0 : Int32) (9 : Int32)) = (0 : Int32) then some (((-1 : Int32), v_t_shares, v_t_said)) else (if (f_X7_isAllowed i3) = (0 : Int32) then some (((-1 : Int32), v_t_shares, v_t_said)) else (if (f_X7_isSide i4) = (0 : Int32) then some (((-1 : Int32), v_t_shares, v_t_said)) else bd3 (f_X7_findShares i1 i3 s_t_villages v_t_shares v_t_stand v_t_marks v_t_said) (fun (r_9 : Int32) (o_10 : (Nat → Int32)) (o_11 : (Nat → Int32)) => (if r_9 = (0 : Int32) then some (((-3 : Int32), o_10, o_11)) else gd i2 10 (bd1 (f_X7_partOf (o_10 i2.toNatClampNeg) r_9 i4) (fun (r_15 : Int32) => some ((r_15, o_10, o_11))))))))))
abbrev rmX7_odds : Room := { frames := 5, cells := 0, slots := 0, locals := 120 }
set_option maxHeartbeats 400000 in
set_option maxRecDepth 100000 in
theorem c_X7_odds (l : Launch) (D : va_G) (cI cB cJ : ClassId) (a_t : Nat) (a_t_stand : Nat) (a_t_on : Nat) (a_t_marks : Nat) (a_t_rule : Nat) (a_t_tape : Nat) (a_t_freshStand : Nat) (a_t_freshMarks : Nat) (a_t_freshRule : Nat) (a_t_shares : Nat) (a_t_said : Nat) (a_t_rows : Nat) (a_t_must : Nat) (a_t_sorts : Nat) (a_t_sizes : Nat) (a_t_sheets : Nat) (a_t_holds : Nat) (a_t_heldNumber : Nat) (a_t_heldSize : Nat) (a_t_traced : Nat) (a_t_keptRow : Nat) (a_t_single : Nat) (sz : Nat) (s_t_villages : Int32) (s_t_held : Int32) (s_t_z : Int32) (s_t_tapeMany : Int32) (s_t_sort : Int32) (s_t_begins : Int32) (s_t_tokenEnds : Int32) (s_t_word : Int64) (s_t_value : Int32) (s_t_good : Int32) (s_t_freshVillages : Int32) (s_t_freshHeld : Int32) (s_t_rowMany : Int32) (s_t_mustMany : Int32) (s_t_kind : Int32) (s_t_number : Int32) (s_t_own : Int32) (s_t_bodies : Int32) (s_t_isParted : Int32) (s_t_isKept : Int32) (s_t_movedTo : Int32) (v_t_shares : (Nat → Int32)) (v_t_stand : (Nat → Int32)) (v_t_marks : (Nat → Int32)) (v_t_said : (Nat → Int32)) (i1 : Int32) (i2 : Int32) (i3 : Int32) (i4 : Int32) (r : Int32) (o_v_t_shares : (Nat → Int32)) (o_v_t_said : (Nat → Int32)) (hF : f_X7_odds i1 i2 i3 i4 s_t_villages v_t_shares v_t_stand v_t_marks v_t_said = some (r, o_v_t_shares, o_v_t_said)) : xMi l yX7_odds (.code yX7_odds cX7_odds 6 (some .int) :: xU) rmX7_odds (xK D cI cB cJ) D sz [.ref a_t, .int i1, .int i2, .int i3, .int i4] [(a_t, .inr (7, [.ref a_t_stand, .ref a_t_on, .ref a_t_marks, .int s_t_villages, .int s_t_held, .ref a_t_rule, .int s_t_z, .ref a_t_tape, .int s_t_tapeMany, .int s_t_sort, .int s_t_begins, .int s_t_tokenEnds, .long s_t_word, .int s_t_value, .int s_t_good, .int s_t_freshVillages, .int s_t_freshHeld, .ref a_t_freshStand, .ref a_t_freshMarks, .ref a_t_freshRule, .ref a_t_shares, .ref a_t_said, .ref a_t_rows, .ref a_t_must, .int s_t_rowMany, .int s_t_mustMany, .ref a_t_sorts, .ref a_t_sizes, .ref a_t_sheets, .ref a_t_holds, .ref a_t_heldNumber, .ref a_t_heldSize, .int s_t_kind, .int s_t_number, .int s_t_own, .ref a_t_traced, .int s_t_bodies, .int s_t_isParted, .int s_t_isKept, .ref a_t_keptRow, .int s_t_movedTo, .ref a_t_single])), (a_t_shares, .inl (cI, 10, .inl v_t_shares)), (a_t_stand, .inl (cI, 100, .inl v_t_stand)), (a_t_marks, .inl (cI, 100, .inl v_t_marks)), (a_t_said, .inl (cI, 600, .inl v_t_said))] [(a_t, .inr (7, [.ref a_t_stand, .ref a_t_on, .ref a_t_marks, .int s_t_villages, .int s_t_held, .ref a_t_rule, .int s_t_z, .ref a_t_tape, .int s_t_tapeMany, .int s_t_sort, .int s_t_begins, .int s_t_tokenEnds, .long s_t_word, .int s_t_value, .int s_t_good, .int s_t_freshVillages, .int s_t_freshHeld, .ref a_t_freshStand, .ref a_t_freshMarks, .ref a_t_freshRule, .ref a_t_shares, .ref a_t_said, .ref a_t_rows, .ref a_t_must, .int s_t_rowMany, .int s_t_mustMany, .ref a_t_sorts, .ref a_t_sizes, .ref a_t_sheets, .ref a_t_holds, .ref a_t_heldNumber, .ref a_t_heldSize, .int s_t_kind, .int s_t_number, .int s_t_own, .ref a_t_traced, .int s_t_bodies, .int s_t_isParted, .int s_t_isKept, .ref a_t_keptRow, .int s_t_movedTo, .ref a_t_single])), (a_t_shares, .inl (cI, 10, .inl o_v_t_shares)), (a_t_stand, .inl (cI, 100, .inl v_t_stand)), (a_t_marks, .inl (cI, 100, .inl v_t_marks)), (a_t_said, .inl (cI, 600, .inl o_v_t_said))] r := by
  refine xMi.mk (own := "FairNextModel") (by decide +kernel) rfl (Nat.le_of_ble_eq_true rfl) ?_
  intro p e s m args below meth c A Q ls H hfix hK hP hD hA hS hl hEnd
  obtain ⟨hx, hb, hml, hown, hts⟩ := id hfix
  have hl : lv_has ls 6 [(0, .ref a_t), (1, .int i1), (2, .int i2), (3, .int i3), (4, .int i4)] := hl
  rw [f_X7_odds] at hF
  refine lv_iload_n hx hb dX7_odds_0 rfl (lv_at hl 1 rfl) ?_
  refine xrz0 (xrunS (As := [.int i1]) (rest := []) (c_X7_isLong l D cI cB cJ _ i1 (f_X7_isLong i1) rfl) hfix xw_951 ys_X7_isLong ⟨rfl, rfl⟩ ⟨(Nat.le_of_ble_eq_true rfl), (Nat.le_of_ble_eq_true rfl)⟩ xKk_K (fun U hU hW => xK.warm hW hK) hP hD [] rfl rfl rfl hl.1 rfl (Nat.le_of_ble_eq_true rfl) dX7_odds_1 ⟨Nat.zero_le _, Nat.zero_le _⟩) hP hD hS hA [] rfl rfl (fun H locs hP hD hS hz_1 => ?_)
  refine lv_if_eq (tgt := 32) hx hb dX7_odds_4 (by decide) (fun c_2 => ?_) (fun c_2 => ?_)
  · replace hF := if_t c_2 hF
    refine lv_iconst (v := (-1 : Int32)) hx hb dX7_odds_32 (by decide) ?_
    obtain ⟨rfl, rfl, rfl⟩ := pj3 hF
    exact hEnd _ _ _ _ _ dX7_odds_33 hP hS rfl
  · replace hF := if_f c_2 hF
    refine lv_iload_n hx hb dX7_odds_7 rfl (lv_at hl 2 rfl) ?_
    refine lv_iconst (v := (0 : Int32)) hx hb dX7_odds_8 (by decide) ?_
    refine lv_bipush (v := (9 : Int32)) hx hb dX7_odds_9 (by decide) ?_
    refine xrz0 (xrunS (As := [.int i2, .int (0 : Int32), .int (9 : Int32)]) (rest := []) (c_X7_in l D cI cB cJ _ i2 (0 : Int32) (9 : Int32) (f_X7_in i2 (0 : Int32) (9 : Int32)) rfl) hfix xw_819 ys_X7_in ⟨rfl, rfl⟩ ⟨(Nat.le_of_ble_eq_true rfl), (Nat.le_of_ble_eq_true rfl)⟩ xKk_K (fun U hU hW => xK.warm hW hK) hP hD [] rfl rfl rfl hl.1 rfl (Nat.le_of_ble_eq_true rfl) dX7_odds_11 ⟨Nat.zero_le _, Nat.zero_le _⟩) hP hD hS hA [] rfl rfl (fun H locs hP hD hS hz_3 => ?_)
    refine lv_if_eq (tgt := 32) hx hb dX7_odds_14 (by decide) (fun c_4 => ?_) (fun c_4 => ?_)
    · replace hF := if_t c_4 hF
      refine lv_iconst (v := (-1 : Int32)) hx hb dX7_odds_32 (by decide) ?_
      obtain ⟨rfl, rfl, rfl⟩ := pj3 hF
      exact hEnd _ _ _ _ _ dX7_odds_33 hP hS rfl
    · replace hF := if_f c_4 hF
      refine lv_iload_n hx hb dX7_odds_17 rfl (lv_at hl 3 rfl) ?_
      refine xrz0 (xrunS (As := [.int i3]) (rest := []) (c_X7_isAllowed l D cI cB cJ _ i3 (f_X7_isAllowed i3) rfl) hfix xw_990 ys_X7_isAllowed ⟨rfl, rfl⟩ ⟨(Nat.le_of_ble_eq_true rfl), (Nat.le_of_ble_eq_true rfl)⟩ xKk_K (fun U hU hW => xK.warm hW hK) hP hD [] rfl rfl rfl hl.1 rfl (Nat.le_of_ble_eq_true rfl) dX7_odds_18 ⟨Nat.zero_le _, Nat.zero_le _⟩) hP hD hS hA [] rfl rfl (fun H locs hP hD hS hz_5 => ?_)
      refine lv_if_eq (tgt := 32) hx hb dX7_odds_21 (by decide) (fun c_6 => ?_) (fun c_6 => ?_)
      · replace hF := if_t c_6 hF
        refine lv_iconst (v := (-1 : Int32)) hx hb dX7_odds_32 (by decide) ?_
        obtain ⟨rfl, rfl, rfl⟩ := pj3 hF
        exact hEnd _ _ _ _ _ dX7_odds_33 hP hS rfl
      · replace hF := if_f c_6 hF
        refine lv_iload hx hb dX7_odds_24 (lv_at hl 4 rfl) ?_
        refine xrz0 (xrunS (As := [.int i4]) (rest := []) (c_X7_isSide l D cI cB cJ _ i4 (f_X7_isSide i4) rfl) hfix xw_906 ys_X7_isSide ⟨rfl, rfl⟩ ⟨(Nat.le_of_ble_eq_true rfl), (Nat.le_of_ble_eq_true rfl)⟩ xKk_K (fun U hU hW => xK.warm hW hK) hP hD [] rfl rfl rfl hl.1 rfl (Nat.le_of_ble_eq_true rfl) dX7_odds_26 ⟨Nat.zero_le _, Nat.zero_le _⟩) hP hD hS hA [] rfl rfl (fun H locs hP hD hS hz_7 => ?_)
        refine lv_if_ne (tgt := 34) hx hb dX7_odds_29 (by decide) (fun c_8 => ?_) (fun c_8 => ?_)
        · replace hF := if_f c_8 hF
          refine lv_aload_n hx hb dX7_odds_34 rfl (lv_at hl 0 rfl) ?_
          refine lv_iload_n hx hb dX7_odds_35 rfl (lv_at hl 1 rfl) ?_
          refine lv_iload_n hx hb dX7_odds_36 rfl (lv_at hl 3 rfl) ?_
          obtain ⟨r_9, o_10, o_11, hq_12, hF⟩ := bd3_e hF
          refine xri (xrunV (As := [.int i1, .int i3]) (rest := []) (c_X7_findShares l D cI cB cJ a_t a_t_stand a_t_on a_t_marks a_t_rule a_t_tape a_t_freshStand a_t_freshMarks a_t_freshRule a_t_shares a_t_said a_t_rows a_t_must a_t_sorts a_t_sizes a_t_sheets a_t_holds a_t_heldNumber a_t_heldSize a_t_traced a_t_keptRow a_t_single _ s_t_villages s_t_held s_t_z s_t_tapeMany s_t_sort s_t_begins s_t_tokenEnds s_t_word s_t_value s_t_good s_t_freshVillages s_t_freshHeld s_t_rowMany s_t_mustMany s_t_kind s_t_number s_t_own s_t_bodies s_t_isParted s_t_isKept s_t_movedTo v_t_shares v_t_stand v_t_marks v_t_said i1 i3 r_9 o_10 o_11 hq_12) hfix xw_1024 yv_X7_findShares ⟨rfl, rfl⟩ ⟨(Nat.le_of_ble_eq_true rfl), (Nat.le_of_ble_eq_true rfl)⟩ xKk_K (fun U hU hW => xK.warm hW hK) hK.1 hP hD [0, 1, 2, 3, 4] rfl rfl 0 7 rfl rfl rfl rfl hl.1 rfl (Nat.le_of_ble_eq_true rfl) dX7_odds_37 ⟨Nat.zero_le _, Nat.zero_le _⟩) hP hD hS hA [0, 1, 2, 3, 4] rfl rfl rfl (wn := [(a_t, .inr (7, [.ref a_t_stand, .ref a_t_on, .ref a_t_marks, .int s_t_villages, .int s_t_held, .ref a_t_rule, .int s_t_z, .ref a_t_tape, .int s_t_tapeMany, .int s_t_sort, .int s_t_begins, .int s_t_tokenEnds, .long s_t_word, .int s_t_value, .int s_t_good, .int s_t_freshVillages, .int s_t_freshHeld, .ref a_t_freshStand, .ref a_t_freshMarks, .ref a_t_freshRule, .ref a_t_shares, .ref a_t_said, .ref a_t_rows, .ref a_t_must, .int s_t_rowMany, .int s_t_mustMany, .ref a_t_sorts, .ref a_t_sizes, .ref a_t_sheets, .ref a_t_holds, .ref a_t_heldNumber, .ref a_t_heldSize, .int s_t_kind, .int s_t_number, .int s_t_own, .ref a_t_traced, .int s_t_bodies, .int s_t_isParted, .int s_t_isKept, .ref a_t_keptRow, .int s_t_movedTo, .ref a_t_single])), (a_t_shares, .inl (cI, 10, .inl o_10)), (a_t_stand, .inl (cI, 100, .inl v_t_stand)), (a_t_marks, .inl (cI, 100, .inl v_t_marks)), (a_t_said, .inl (cI, 600, .inl o_11))]) rfl (fun H locs hP hD hS => ?_)
          refine lv_istore (lv' := [(5, .int r_9), (0, .ref a_t), (1, .int i1), (2, .int i2), (3, .int i3), (4, .int i4)]) hx hb dX7_odds_40 hl (by decide) rfl (fun ls hl => ?_)
          refine lv_iload hx hb dX7_odds_42 (lv_at hl 0 rfl) ?_
          refine lv_if_ne (tgt := 52) hx hb dX7_odds_44 (by decide) (fun c_13 => ?_) (fun c_13 => ?_)
          · replace hF := if_f c_13 hF
            refine lv_aload_n hx hb dX7_odds_52 rfl (lv_at hl 1 rfl) ?_
            refine xget (ci := 7) (C := RX7) (T := TX7) (N := 42) hfix xiX7 hK.1 hP 0 rfl rfl 20 (by decide) rfl xw_708 rfl dX7_odds_53 ?_
            refine lv_iload_n hx hb dX7_odds_56 rfl (lv_at hl 3 rfl) ?_
            obtain ⟨c_14, hF⟩ := gd_e hF
            refine va_iald hx hb hK.1 hP 1 0 rfl rfl c_14 dX7_odds_57 ?_
            refine lv_iload hx hb dX7_odds_58 (lv_at hl 0 rfl) ?_
            refine lv_iload hx hb dX7_odds_60 (lv_at hl 5 rfl) ?_
            obtain ⟨r_15, hq_16, hF⟩ := bd1_e hF
            refine xri0 (xrunS (As := [.int (o_10 i2.toNatClampNeg), .int r_9, .int i4]) (rest := []) (c_X7_partOf l D cI cB cJ _ (o_10 i2.toNatClampNeg) r_9 i4 r_15 hq_16) hfix xw_1031 ys_X7_partOf ⟨rfl, rfl⟩ ⟨(Nat.le_of_ble_eq_true rfl), (Nat.le_of_ble_eq_true rfl)⟩ xKk_K (fun U hU hW => xK.warm hW hK) hP hD [] rfl rfl rfl hl.1 rfl (Nat.le_of_ble_eq_true rfl) dX7_odds_62 ⟨Nat.zero_le _, Nat.zero_le _⟩) hP hD hS hA [] rfl rfl (fun H locs hP hD hS => ?_)
            obtain ⟨rfl, rfl, rfl⟩ := pj3 hF
            exact hEnd _ _ _ _ _ dX7_odds_65 hP hS rfl
          · replace hF := if_t c_13 hF
            refine lv_bipush (v := (-3 : Int32)) hx hb dX7_odds_47 (by decide) ?_
            refine lv_goto (tgt := 65) hx hb dX7_odds_49 (by decide) ?_
            obtain ⟨rfl, rfl, rfl⟩ := pj3 hF
            exact hEnd _ _ _ _ _ dX7_odds_65 hP hS rfl
        · replace hF := if_t c_8 hF
          refine lv_iconst (v := (-1 : Int32)) hx hb dX7_odds_32 (by decide) ?_
          obtain ⟨rfl, rfl, rfl⟩ := pj3 hF
          exact hEnd _ _ _ _ _ dX7_odds_33 hP hS rfl
def f_X7_bet_L33 (o_6 : (Nat → Int32)) : Nat → Int32 → Int32 → Option (Int32)
  | 0, _, _ => none
  | n + 1, x3_10, x4_11 => (if (10 : Int32) ≤ x4_11 then some (x3_10) else gd x4_11 10 (gd x3_10 10 ((if (o_6 x4_11.toNatClampNeg) ≤ (o_6 x3_10.toNatClampNeg) then f_X7_bet_L33 o_6 n x3_10 (x4_11 + (1 : Int32)) else f_X7_bet_L33 o_6 n x4_11 (x4_11 + (1 : Int32))))))
def f_X7_bet (i1 : Int32) (i2 : Int32) (s_t_villages : Int32) (v_t_shares : (Nat → Int32)) (v_t_stand : (Nat → Int32)) (v_t_marks : (Nat → Int32)) (v_t_said : (Nat → Int32)) : Option (Int32 × (Nat → Int32) × (Nat → Int32)) := (if (f_X7_isLong i1) = (0 : Int32) then some (((-1 : Int32), v_t_shares, v_t_said)) else (if (f_X7_isAllowed i2) = (0 : Int32) then some (((-1 : Int32), v_t_shares, v_t_said)) else bd3 (f_X7_findShares i1 i2 s_t_villages v_t_shares v_t_stand v_t_marks v_t_said) (fun (r_5 : Int32) (o_6 : (Nat → Int32)) (o_7 : (Nat → Int32)) => (if r_5 = (0 : Int32) then some (((-3 : Int32), o_6, o_7)) else bd1 (f_X7_bet_L33 o_6 1000 (0 : Int32) (1 : Int32)) (fun (y3_12 : Int32) => some ((y3_12, o_6, o_7)))))))
abbrev rmX7_bet : Room := { frames := 5, cells := 0, slots := 0, locals := 120 }
set_option maxHeartbeats 400000 in
set_option maxRecDepth 100000 in
theorem c_X7_bet (l : Launch) (D : va_G) (cI cB cJ : ClassId) (a_t : Nat) (a_t_stand : Nat) (a_t_on : Nat) (a_t_marks : Nat) (a_t_rule : Nat) (a_t_tape : Nat) (a_t_freshStand : Nat) (a_t_freshMarks : Nat) (a_t_freshRule : Nat) (a_t_shares : Nat) (a_t_said : Nat) (a_t_rows : Nat) (a_t_must : Nat) (a_t_sorts : Nat) (a_t_sizes : Nat) (a_t_sheets : Nat) (a_t_holds : Nat) (a_t_heldNumber : Nat) (a_t_heldSize : Nat) (a_t_traced : Nat) (a_t_keptRow : Nat) (a_t_single : Nat) (sz : Nat) (s_t_villages : Int32) (s_t_held : Int32) (s_t_z : Int32) (s_t_tapeMany : Int32) (s_t_sort : Int32) (s_t_begins : Int32) (s_t_tokenEnds : Int32) (s_t_word : Int64) (s_t_value : Int32) (s_t_good : Int32) (s_t_freshVillages : Int32) (s_t_freshHeld : Int32) (s_t_rowMany : Int32) (s_t_mustMany : Int32) (s_t_kind : Int32) (s_t_number : Int32) (s_t_own : Int32) (s_t_bodies : Int32) (s_t_isParted : Int32) (s_t_isKept : Int32) (s_t_movedTo : Int32) (v_t_shares : (Nat → Int32)) (v_t_stand : (Nat → Int32)) (v_t_marks : (Nat → Int32)) (v_t_said : (Nat → Int32)) (i1 : Int32) (i2 : Int32) (r : Int32) (o_v_t_shares : (Nat → Int32)) (o_v_t_said : (Nat → Int32)) (hF : f_X7_bet i1 i2 s_t_villages v_t_shares v_t_stand v_t_marks v_t_said = some (r, o_v_t_shares, o_v_t_said)) : xMi l yX7_bet (.code yX7_bet cX7_bet 5 (some .int) :: xU) rmX7_bet (xK D cI cB cJ) D sz [.ref a_t, .int i1, .int i2] [(a_t, .inr (7, [.ref a_t_stand, .ref a_t_on, .ref a_t_marks, .int s_t_villages, .int s_t_held, .ref a_t_rule, .int s_t_z, .ref a_t_tape, .int s_t_tapeMany, .int s_t_sort, .int s_t_begins, .int s_t_tokenEnds, .long s_t_word, .int s_t_value, .int s_t_good, .int s_t_freshVillages, .int s_t_freshHeld, .ref a_t_freshStand, .ref a_t_freshMarks, .ref a_t_freshRule, .ref a_t_shares, .ref a_t_said, .ref a_t_rows, .ref a_t_must, .int s_t_rowMany, .int s_t_mustMany, .ref a_t_sorts, .ref a_t_sizes, .ref a_t_sheets, .ref a_t_holds, .ref a_t_heldNumber, .ref a_t_heldSize, .int s_t_kind, .int s_t_number, .int s_t_own, .ref a_t_traced, .int s_t_bodies, .int s_t_isParted, .int s_t_isKept, .ref a_t_keptRow, .int s_t_movedTo, .ref a_t_single])), (a_t_shares, .inl (cI, 10, .inl v_t_shares)), (a_t_stand, .inl (cI, 100, .inl v_t_stand)), (a_t_marks, .inl (cI, 100, .inl v_t_marks)), (a_t_said, .inl (cI, 600, .inl v_t_said))] [(a_t, .inr (7, [.ref a_t_stand, .ref a_t_on, .ref a_t_marks, .int s_t_villages, .int s_t_held, .ref a_t_rule, .int s_t_z, .ref a_t_tape, .int s_t_tapeMany, .int s_t_sort, .int s_t_begins, .int s_t_tokenEnds, .long s_t_word, .int s_t_value, .int s_t_good, .int s_t_freshVillages, .int s_t_freshHeld, .ref a_t_freshStand, .ref a_t_freshMarks, .ref a_t_freshRule, .ref a_t_shares, .ref a_t_said, .ref a_t_rows, .ref a_t_must, .int s_t_rowMany, .int s_t_mustMany, .ref a_t_sorts, .ref a_t_sizes, .ref a_t_sheets, .ref a_t_holds, .ref a_t_heldNumber, .ref a_t_heldSize, .int s_t_kind, .int s_t_number, .int s_t_own, .ref a_t_traced, .int s_t_bodies, .int s_t_isParted, .int s_t_isKept, .ref a_t_keptRow, .int s_t_movedTo, .ref a_t_single])), (a_t_shares, .inl (cI, 10, .inl o_v_t_shares)), (a_t_stand, .inl (cI, 100, .inl v_t_stand)), (a_t_marks, .inl (cI, 100, .inl v_t_marks)), (a_t_said, .inl (cI, 600, .inl o_v_t_said))] r := by
  refine xMi.mk (own := "FairNextModel") (by decide +kernel) rfl (Nat.le_of_ble_eq_true rfl) ?_
  intro p e s m args below meth c A Q ls H hfix hK hP hD hA hS hl hEnd
  obtain ⟨hx, hb, hml, hown, hts⟩ := id hfix
  have hl : lv_has ls 5 [(0, .ref a_t), (1, .int i1), (2, .int i2)] := hl
  rw [f_X7_bet] at hF
  refine lv_iload_n hx hb dX7_bet_0 rfl (lv_at hl 1 rfl) ?_
  refine xrz0 (xrunS (As := [.int i1]) (rest := []) (c_X7_isLong l D cI cB cJ _ i1 (f_X7_isLong i1) rfl) hfix xw_951 ys_X7_isLong ⟨rfl, rfl⟩ ⟨(Nat.le_of_ble_eq_true rfl), (Nat.le_of_ble_eq_true rfl)⟩ xKk_K (fun U hU hW => xK.warm hW hK) hP hD [] rfl rfl rfl hl.1 rfl (Nat.le_of_ble_eq_true rfl) dX7_bet_1 ⟨Nat.zero_le _, Nat.zero_le _⟩) hP hD hS hA [] rfl rfl (fun H locs hP hD hS hz_1 => ?_)
  refine lv_if_eq (tgt := 14) hx hb dX7_bet_4 (by decide) (fun c_2 => ?_) (fun c_2 => ?_)
  · replace hF := if_t c_2 hF
    refine lv_iconst (v := (-1 : Int32)) hx hb dX7_bet_14 (by decide) ?_
    obtain ⟨rfl, rfl, rfl⟩ := pj3 hF
    exact hEnd _ _ _ _ _ dX7_bet_15 hP hS rfl
  · replace hF := if_f c_2 hF
    refine lv_iload_n hx hb dX7_bet_7 rfl (lv_at hl 2 rfl) ?_
    refine xrz0 (xrunS (As := [.int i2]) (rest := []) (c_X7_isAllowed l D cI cB cJ _ i2 (f_X7_isAllowed i2) rfl) hfix xw_990 ys_X7_isAllowed ⟨rfl, rfl⟩ ⟨(Nat.le_of_ble_eq_true rfl), (Nat.le_of_ble_eq_true rfl)⟩ xKk_K (fun U hU hW => xK.warm hW hK) hP hD [] rfl rfl rfl hl.1 rfl (Nat.le_of_ble_eq_true rfl) dX7_bet_8 ⟨Nat.zero_le _, Nat.zero_le _⟩) hP hD hS hA [] rfl rfl (fun H locs hP hD hS hz_3 => ?_)
    refine lv_if_ne (tgt := 16) hx hb dX7_bet_11 (by decide) (fun c_4 => ?_) (fun c_4 => ?_)
    · replace hF := if_f c_4 hF
      refine lv_aload_n hx hb dX7_bet_16 rfl (lv_at hl 0 rfl) ?_
      refine lv_iload_n hx hb dX7_bet_17 rfl (lv_at hl 1 rfl) ?_
      refine lv_iload_n hx hb dX7_bet_18 rfl (lv_at hl 2 rfl) ?_
      obtain ⟨r_5, o_6, o_7, hq_8, hF⟩ := bd3_e hF
      refine xri (xrunV (As := [.int i1, .int i2]) (rest := []) (c_X7_findShares l D cI cB cJ a_t a_t_stand a_t_on a_t_marks a_t_rule a_t_tape a_t_freshStand a_t_freshMarks a_t_freshRule a_t_shares a_t_said a_t_rows a_t_must a_t_sorts a_t_sizes a_t_sheets a_t_holds a_t_heldNumber a_t_heldSize a_t_traced a_t_keptRow a_t_single _ s_t_villages s_t_held s_t_z s_t_tapeMany s_t_sort s_t_begins s_t_tokenEnds s_t_word s_t_value s_t_good s_t_freshVillages s_t_freshHeld s_t_rowMany s_t_mustMany s_t_kind s_t_number s_t_own s_t_bodies s_t_isParted s_t_isKept s_t_movedTo v_t_shares v_t_stand v_t_marks v_t_said i1 i2 r_5 o_6 o_7 hq_8) hfix xw_1024 yv_X7_findShares ⟨rfl, rfl⟩ ⟨(Nat.le_of_ble_eq_true rfl), (Nat.le_of_ble_eq_true rfl)⟩ xKk_K (fun U hU hW => xK.warm hW hK) hK.1 hP hD [0, 1, 2, 3, 4] rfl rfl 0 7 rfl rfl rfl rfl hl.1 rfl (Nat.le_of_ble_eq_true rfl) dX7_bet_19 ⟨Nat.zero_le _, Nat.zero_le _⟩) hP hD hS hA [0, 1, 2, 3, 4] rfl rfl rfl (wn := [(a_t, .inr (7, [.ref a_t_stand, .ref a_t_on, .ref a_t_marks, .int s_t_villages, .int s_t_held, .ref a_t_rule, .int s_t_z, .ref a_t_tape, .int s_t_tapeMany, .int s_t_sort, .int s_t_begins, .int s_t_tokenEnds, .long s_t_word, .int s_t_value, .int s_t_good, .int s_t_freshVillages, .int s_t_freshHeld, .ref a_t_freshStand, .ref a_t_freshMarks, .ref a_t_freshRule, .ref a_t_shares, .ref a_t_said, .ref a_t_rows, .ref a_t_must, .int s_t_rowMany, .int s_t_mustMany, .ref a_t_sorts, .ref a_t_sizes, .ref a_t_sheets, .ref a_t_holds, .ref a_t_heldNumber, .ref a_t_heldSize, .int s_t_kind, .int s_t_number, .int s_t_own, .ref a_t_traced, .int s_t_bodies, .int s_t_isParted, .int s_t_isKept, .ref a_t_keptRow, .int s_t_movedTo, .ref a_t_single])), (a_t_shares, .inl (cI, 10, .inl o_6)), (a_t_stand, .inl (cI, 100, .inl v_t_stand)), (a_t_marks, .inl (cI, 100, .inl v_t_marks)), (a_t_said, .inl (cI, 600, .inl o_7))]) rfl (fun H locs hP hD hS => ?_)
      refine lv_if_ne (tgt := 28) hx hb dX7_bet_22 (by decide) (fun c_9 => ?_) (fun c_9 => ?_)
      · replace hF := if_f c_9 hF
        refine lv_iconst (v := (0 : Int32)) hx hb dX7_bet_28 (by decide) ?_
        refine lv_istore_n (lv' := [(3, .int (0 : Int32)), (0, .ref a_t), (1, .int i1), (2, .int i2)]) hx hb dX7_bet_29 rfl hl (by decide) rfl (fun ls hl => ?_)
        refine lv_iconst (v := (1 : Int32)) hx hb dX7_bet_30 (by decide) ?_
        refine lv_istore (lv' := [(4, .int (1 : Int32)), (3, .int (0 : Int32)), (0, .ref a_t), (1, .int i1), (2, .int i2)]) hx hb dX7_bet_31 hl (by decide) rfl (fun ls hl => ?_)
        have hL_33 : ∀ (n : Nat) (x3_10 : Int32) (x4_11 : Int32) (y3_12 : Int32), f_X7_bet_L33 o_6 n x3_10 x4_11 = some y3_12 → ∀ (H : Heap) (locs : List Loc) (ls : Array Slot), va_P D vwCl [(a_t, .inr (7, [.ref a_t_stand, .ref a_t_on, .ref a_t_marks, .int s_t_villages, .int s_t_held, .ref a_t_rule, .int s_t_z, .ref a_t_tape, .int s_t_tapeMany, .int s_t_sort, .int s_t_begins, .int s_t_tokenEnds, .long s_t_word, .int s_t_value, .int s_t_good, .int s_t_freshVillages, .int s_t_freshHeld, .ref a_t_freshStand, .ref a_t_freshMarks, .ref a_t_freshRule, .ref a_t_shares, .ref a_t_said, .ref a_t_rows, .ref a_t_must, .int s_t_rowMany, .int s_t_mustMany, .ref a_t_sorts, .ref a_t_sizes, .ref a_t_sheets, .ref a_t_holds, .ref a_t_heldNumber, .ref a_t_heldSize, .int s_t_kind, .int s_t_number, .int s_t_own, .ref a_t_traced, .int s_t_bodies, .int s_t_isParted, .int s_t_isKept, .ref a_t_keptRow, .int s_t_movedTo, .ref a_t_single])), (a_t_shares, .inl (cI, 10, .inl o_6)), (a_t_stand, .inl (cI, 100, .inl v_t_stand)), (a_t_marks, .inl (cI, 100, .inl v_t_marks)), (a_t_said, .inl (cI, 600, .inl o_7))] H → va_D A [(a_t, .inr (7, [.ref a_t_stand, .ref a_t_on, .ref a_t_marks, .int s_t_villages, .int s_t_held, .ref a_t_rule, .int s_t_z, .ref a_t_tape, .int s_t_tapeMany, .int s_t_sort, .int s_t_begins, .int s_t_tokenEnds, .long s_t_word, .int s_t_value, .int s_t_good, .int s_t_freshVillages, .int s_t_freshHeld, .ref a_t_freshStand, .ref a_t_freshMarks, .ref a_t_freshRule, .ref a_t_shares, .ref a_t_said, .ref a_t_rows, .ref a_t_must, .int s_t_rowMany, .int s_t_mustMany, .ref a_t_sorts, .ref a_t_sizes, .ref a_t_sheets, .ref a_t_holds, .ref a_t_heldNumber, .ref a_t_heldSize, .int s_t_kind, .int s_t_number, .int s_t_own, .ref a_t_traced, .int s_t_bodies, .int s_t_isParted, .int s_t_isKept, .ref a_t_keptRow, .int s_t_movedTo, .ref a_t_single])), (a_t_shares, .inl (cI, 10, .inl o_6)), (a_t_stand, .inl (cI, 100, .inl v_t_stand)), (a_t_marks, .inl (cI, 100, .inl v_t_marks)), (a_t_said, .inl (cI, 600, .inl o_7))] → va_S A s.heap H locs → lv_has ls 5 [(0, .ref a_t), (3, .int x3_10), (4, .int x4_11)] → (∀ (H : Heap) (locs : List Loc) (ls : Array Slot), va_P D vwCl [(a_t, .inr (7, [.ref a_t_stand, .ref a_t_on, .ref a_t_marks, .int s_t_villages, .int s_t_held, .ref a_t_rule, .int s_t_z, .ref a_t_tape, .int s_t_tapeMany, .int s_t_sort, .int s_t_begins, .int s_t_tokenEnds, .long s_t_word, .int s_t_value, .int s_t_good, .int s_t_freshVillages, .int s_t_freshHeld, .ref a_t_freshStand, .ref a_t_freshMarks, .ref a_t_freshRule, .ref a_t_shares, .ref a_t_said, .ref a_t_rows, .ref a_t_must, .int s_t_rowMany, .int s_t_mustMany, .ref a_t_sorts, .ref a_t_sizes, .ref a_t_sheets, .ref a_t_holds, .ref a_t_heldNumber, .ref a_t_heldSize, .int s_t_kind, .int s_t_number, .int s_t_own, .ref a_t_traced, .int s_t_bodies, .int s_t_isParted, .int s_t_isKept, .ref a_t_keptRow, .int s_t_movedTo, .ref a_t_single])), (a_t_shares, .inl (cI, 10, .inl o_6)), (a_t_stand, .inl (cI, 100, .inl v_t_stand)), (a_t_marks, .inl (cI, 100, .inl v_t_marks)), (a_t_said, .inl (cI, 600, .inl o_7))] H → va_D A [(a_t, .inr (7, [.ref a_t_stand, .ref a_t_on, .ref a_t_marks, .int s_t_villages, .int s_t_held, .ref a_t_rule, .int s_t_z, .ref a_t_tape, .int s_t_tapeMany, .int s_t_sort, .int s_t_begins, .int s_t_tokenEnds, .long s_t_word, .int s_t_value, .int s_t_good, .int s_t_freshVillages, .int s_t_freshHeld, .ref a_t_freshStand, .ref a_t_freshMarks, .ref a_t_freshRule, .ref a_t_shares, .ref a_t_said, .ref a_t_rows, .ref a_t_must, .int s_t_rowMany, .int s_t_mustMany, .ref a_t_sorts, .ref a_t_sizes, .ref a_t_sheets, .ref a_t_holds, .ref a_t_heldNumber, .ref a_t_heldSize, .int s_t_kind, .int s_t_number, .int s_t_own, .ref a_t_traced, .int s_t_bodies, .int s_t_isParted, .int s_t_isKept, .ref a_t_keptRow, .int s_t_movedTo, .ref a_t_single])), (a_t_shares, .inl (cI, 10, .inl o_6)), (a_t_stand, .inl (cI, 100, .inl v_t_stand)), (a_t_marks, .inl (cI, 100, .inl v_t_marks)), (a_t_said, .inl (cI, 600, .inl o_7))] → va_S A s.heap H locs → lv_has ls 5 [(3, .int y3_12)] → W p l e rmX7_bet s m args below meth c H locs 0 0 Q (F0 m 69 ls [])) → W p l e rmX7_bet s m args below meth c H locs 0 0 Q (F0 m 33 ls []) := by
          intro n
          induction n with
          | zero => intro x3_10 x4_11 y3_12 hF; exact (no_some hF).elim
          | succ n ih =>
            intro x3_10 x4_11 y3_12 hF H locs ls hP hD hS hl kexit
            rw [f_X7_bet_L33] at hF
            refine lv_iload hx hb dX7_bet_33 (lv_at hl 2 rfl) ?_
            refine lv_bipush (v := (10 : Int32)) hx hb dX7_bet_35 (by decide) ?_
            refine lv_icmp_ge (tgt := 69) hx hb dX7_bet_37 (by decide) (fun c_13 => ?_) (fun c_13 => ?_)
            · replace hF := if_t c_13 hF
              obtain rfl := Option.some.inj hF
              exact kexit _ _ _ hP hD hS (lv_sub hl [1] rfl)
            · replace hF := if_f c_13 hF
              refine lv_aload_n hx hb dX7_bet_40 rfl (lv_at hl 0 rfl) ?_
              refine xget (ci := 7) (C := RX7) (T := TX7) (N := 42) hfix xiX7 hK.1 hP 0 rfl rfl 20 (by decide) rfl xw_708 rfl dX7_bet_41 ?_
              refine lv_iload hx hb dX7_bet_44 (lv_at hl 2 rfl) ?_
              obtain ⟨c_14, hF⟩ := gd_e hF
              refine va_iald hx hb hK.1 hP 1 0 rfl rfl c_14 dX7_bet_46 ?_
              refine lv_aload_n hx hb dX7_bet_47 rfl (lv_at hl 0 rfl) ?_
              refine xget (ci := 7) (C := RX7) (T := TX7) (N := 42) hfix xiX7 hK.1 hP 0 rfl rfl 20 (by decide) rfl xw_708 rfl dX7_bet_48 ?_
              refine lv_iload_n hx hb dX7_bet_51 rfl (lv_at hl 1 rfl) ?_
              obtain ⟨c_15, hF⟩ := gd_e hF
              refine va_iald hx hb hK.1 hP 1 0 rfl rfl c_15 dX7_bet_52 ?_
              refine lv_icmp_le (tgt := 61) hx hb dX7_bet_53 (by decide) (fun c_16 => ?_) (fun c_16 => ?_)
              · replace hF := if_t c_16 hF
                refine lv_iload_n hx hb dX7_bet_61 rfl (lv_at hl 1 rfl) ?_
                refine lv_istore_n (lv' := [(3, .int x3_10), (0, .ref a_t), (4, .int x4_11)]) hx hb dX7_bet_62 rfl hl (by decide) rfl (fun ls hl => ?_)
                refine lv_iinc (v := (x4_11 + (1 : Int32))) (lv' := [(4, .int (x4_11 + (1 : Int32))), (3, .int x3_10), (0, .ref a_t)]) hx hb dX7_bet_63 hl (k := 2) rfl rfl (by decide) rfl (fun ls hl => ?_)
                refine lv_goto (tgt := 33) hx hb dX7_bet_66 (by decide) ?_
                exact ih _ _ _ hF _ _ _ hP hD hS (lv_sub hl [2, 1, 0] rfl) kexit
              · replace hF := if_f c_16 hF
                refine lv_iload hx hb dX7_bet_56 (lv_at hl 2 rfl) ?_
                refine lv_goto (tgt := 62) hx hb dX7_bet_58 (by decide) ?_
                refine lv_istore_n (lv' := [(3, .int x4_11), (0, .ref a_t), (4, .int x4_11)]) hx hb dX7_bet_62 rfl hl (by decide) rfl (fun ls hl => ?_)
                refine lv_iinc (v := (x4_11 + (1 : Int32))) (lv' := [(4, .int (x4_11 + (1 : Int32))), (3, .int x4_11), (0, .ref a_t)]) hx hb dX7_bet_63 hl (k := 2) rfl rfl (by decide) rfl (fun ls hl => ?_)
                refine lv_goto (tgt := 33) hx hb dX7_bet_66 (by decide) ?_
                exact ih _ _ _ hF _ _ _ hP hD hS (lv_sub hl [2, 1, 0] rfl) kexit
        obtain ⟨y3_12, hq, hF⟩ := bd1_e hF
        refine hL_33 _ _ _ _ hq _ _ _ hP hD hS (lv_sub hl [2, 1, 0] rfl) (fun H locs ls hP hD hS hl => ?_)
        refine lv_iload_n hx hb dX7_bet_69 rfl (lv_at hl 0 rfl) ?_
        obtain ⟨rfl, rfl, rfl⟩ := pj3 hF
        exact hEnd _ _ _ _ _ dX7_bet_70 hP hS rfl
      · replace hF := if_t c_9 hF
        refine lv_bipush (v := (-3 : Int32)) hx hb dX7_bet_25 (by decide) ?_
        obtain ⟨rfl, rfl, rfl⟩ := pj3 hF
        exact hEnd _ _ _ _ _ dX7_bet_27 hP hS rfl
    · replace hF := if_t c_4 hF
      refine lv_iconst (v := (-1 : Int32)) hx hb dX7_bet_14 (by decide) ?_
      obtain ⟨rfl, rfl, rfl⟩ := pj3 hF
      exact hEnd _ _ _ _ _ dX7_bet_15 hP hS rfl
def f_X7_hard_L33 (s_t_villages : Int32) (o_6 : (Nat → Int32)) : Nat → Int32 → Int32 → Option (Int32)
  | 0, _, _ => none
  | n + 1, x3_10, x4_11 => (if s_t_villages ≤ x4_11 then some (x3_10) else gd x4_11 10 (gd x3_10 10 ((if (o_6 x3_10.toNatClampNeg) ≤ (o_6 x4_11.toNatClampNeg) then f_X7_hard_L33 s_t_villages o_6 n x3_10 (x4_11 + (1 : Int32)) else f_X7_hard_L33 s_t_villages o_6 n x4_11 (x4_11 + (1 : Int32))))))
def f_X7_hard (i1 : Int32) (i2 : Int32) (s_t_villages : Int32) (v_t_shares : (Nat → Int32)) (v_t_stand : (Nat → Int32)) (v_t_marks : (Nat → Int32)) (v_t_said : (Nat → Int32)) : Option (Int32 × (Nat → Int32) × (Nat → Int32)) := (if (f_X7_isLong i1) = (0 : Int32) then some (((-1 : Int32), v_t_shares, v_t_said)) else (if (f_X7_isAllowed i2) = (0 : Int32) then some (((-1 : Int32), v_t_shares, v_t_said)) else bd3 (f_X7_findShares i1 i2 s_t_villages v_t_shares v_t_stand v_t_marks v_t_said) (fun (r_5 : Int32) (o_6 : (Nat → Int32)) (o_7 : (Nat → Int32)) => (if r_5 = (0 : Int32) then some (((-3 : Int32), o_6, o_7)) else bd1 (f_X7_hard_L33 s_t_villages o_6 1000 (0 : Int32) (1 : Int32)) (fun (y3_12 : Int32) => some ((y3_12, o_6, o_7)))))))
abbrev rmX7_hard : Room := { frames := 5, cells := 0, slots := 0, locals := 120 }
set_option maxHeartbeats 400000 in
set_option maxRecDepth 100000 in
theorem c_X7_hard (l : Launch) (D : va_G) (cI cB cJ : ClassId) (a_t : Nat) (a_t_stand : Nat) (a_t_on : Nat) (a_t_marks : Nat) (a_t_rule : Nat) (a_t_tape : Nat) (a_t_freshStand : Nat) (a_t_freshMarks : Nat) (a_t_freshRule : Nat) (a_t_shares : Nat) (a_t_said : Nat) (a_t_rows : Nat) (a_t_must : Nat) (a_t_sorts : Nat) (a_t_sizes : Nat) (a_t_sheets : Nat) (a_t_holds : Nat) (a_t_heldNumber : Nat) (a_t_heldSize : Nat) (a_t_traced : Nat) (a_t_keptRow : Nat) (a_t_single : Nat) (sz : Nat) (s_t_villages : Int32) (s_t_held : Int32) (s_t_z : Int32) (s_t_tapeMany : Int32) (s_t_sort : Int32) (s_t_begins : Int32) (s_t_tokenEnds : Int32) (s_t_word : Int64) (s_t_value : Int32) (s_t_good : Int32) (s_t_freshVillages : Int32) (s_t_freshHeld : Int32) (s_t_rowMany : Int32) (s_t_mustMany : Int32) (s_t_kind : Int32) (s_t_number : Int32) (s_t_own : Int32) (s_t_bodies : Int32) (s_t_isParted : Int32) (s_t_isKept : Int32) (s_t_movedTo : Int32) (v_t_shares : (Nat → Int32)) (v_t_stand : (Nat → Int32)) (v_t_marks : (Nat → Int32)) (v_t_said : (Nat → Int32)) (i1 : Int32) (i2 : Int32) (r : Int32) (o_v_t_shares : (Nat → Int32)) (o_v_t_said : (Nat → Int32)) (hF : f_X7_hard i1 i2 s_t_villages v_t_shares v_t_stand v_t_marks v_t_said = some (r, o_v_t_shares, o_v_t_said)) : xMi l yX7_hard (.code yX7_hard cX7_hard 5 (some .int) :: xU) rmX7_hard (xK D cI cB cJ) D sz [.ref a_t, .int i1, .int i2] [(a_t, .inr (7, [.ref a_t_stand, .ref a_t_on, .ref a_t_marks, .int s_t_villages, .int s_t_held, .ref a_t_rule, .int s_t_z, .ref a_t_tape, .int s_t_tapeMany, .int s_t_sort, .int s_t_begins, .int s_t_tokenEnds, .long s_t_word, .int s_t_value, .int s_t_good, .int s_t_freshVillages, .int s_t_freshHeld, .ref a_t_freshStand, .ref a_t_freshMarks, .ref a_t_freshRule, .ref a_t_shares, .ref a_t_said, .ref a_t_rows, .ref a_t_must, .int s_t_rowMany, .int s_t_mustMany, .ref a_t_sorts, .ref a_t_sizes, .ref a_t_sheets, .ref a_t_holds, .ref a_t_heldNumber, .ref a_t_heldSize, .int s_t_kind, .int s_t_number, .int s_t_own, .ref a_t_traced, .int s_t_bodies, .int s_t_isParted, .int s_t_isKept, .ref a_t_keptRow, .int s_t_movedTo, .ref a_t_single])), (a_t_shares, .inl (cI, 10, .inl v_t_shares)), (a_t_stand, .inl (cI, 100, .inl v_t_stand)), (a_t_marks, .inl (cI, 100, .inl v_t_marks)), (a_t_said, .inl (cI, 600, .inl v_t_said))] [(a_t, .inr (7, [.ref a_t_stand, .ref a_t_on, .ref a_t_marks, .int s_t_villages, .int s_t_held, .ref a_t_rule, .int s_t_z, .ref a_t_tape, .int s_t_tapeMany, .int s_t_sort, .int s_t_begins, .int s_t_tokenEnds, .long s_t_word, .int s_t_value, .int s_t_good, .int s_t_freshVillages, .int s_t_freshHeld, .ref a_t_freshStand, .ref a_t_freshMarks, .ref a_t_freshRule, .ref a_t_shares, .ref a_t_said, .ref a_t_rows, .ref a_t_must, .int s_t_rowMany, .int s_t_mustMany, .ref a_t_sorts, .ref a_t_sizes, .ref a_t_sheets, .ref a_t_holds, .ref a_t_heldNumber, .ref a_t_heldSize, .int s_t_kind, .int s_t_number, .int s_t_own, .ref a_t_traced, .int s_t_bodies, .int s_t_isParted, .int s_t_isKept, .ref a_t_keptRow, .int s_t_movedTo, .ref a_t_single])), (a_t_shares, .inl (cI, 10, .inl o_v_t_shares)), (a_t_stand, .inl (cI, 100, .inl v_t_stand)), (a_t_marks, .inl (cI, 100, .inl v_t_marks)), (a_t_said, .inl (cI, 600, .inl o_v_t_said))] r := by
  refine xMi.mk (own := "FairNextModel") (by decide +kernel) rfl (Nat.le_of_ble_eq_true rfl) ?_
  intro p e s m args below meth c A Q ls H hfix hK hP hD hA hS hl hEnd
  obtain ⟨hx, hb, hml, hown, hts⟩ := id hfix
  have hl : lv_has ls 5 [(0, .ref a_t), (1, .int i1), (2, .int i2)] := hl
  rw [f_X7_hard] at hF
  refine lv_iload_n hx hb dX7_hard_0 rfl (lv_at hl 1 rfl) ?_
  refine xrz0 (xrunS (As := [.int i1]) (rest := []) (c_X7_isLong l D cI cB cJ _ i1 (f_X7_isLong i1) rfl) hfix xw_951 ys_X7_isLong ⟨rfl, rfl⟩ ⟨(Nat.le_of_ble_eq_true rfl), (Nat.le_of_ble_eq_true rfl)⟩ xKk_K (fun U hU hW => xK.warm hW hK) hP hD [] rfl rfl rfl hl.1 rfl (Nat.le_of_ble_eq_true rfl) dX7_hard_1 ⟨Nat.zero_le _, Nat.zero_le _⟩) hP hD hS hA [] rfl rfl (fun H locs hP hD hS hz_1 => ?_)
  refine lv_if_eq (tgt := 14) hx hb dX7_hard_4 (by decide) (fun c_2 => ?_) (fun c_2 => ?_)
  · replace hF := if_t c_2 hF
    refine lv_iconst (v := (-1 : Int32)) hx hb dX7_hard_14 (by decide) ?_
    obtain ⟨rfl, rfl, rfl⟩ := pj3 hF
    exact hEnd _ _ _ _ _ dX7_hard_15 hP hS rfl
  · replace hF := if_f c_2 hF
    refine lv_iload_n hx hb dX7_hard_7 rfl (lv_at hl 2 rfl) ?_
    refine xrz0 (xrunS (As := [.int i2]) (rest := []) (c_X7_isAllowed l D cI cB cJ _ i2 (f_X7_isAllowed i2) rfl) hfix xw_990 ys_X7_isAllowed ⟨rfl, rfl⟩ ⟨(Nat.le_of_ble_eq_true rfl), (Nat.le_of_ble_eq_true rfl)⟩ xKk_K (fun U hU hW => xK.warm hW hK) hP hD [] rfl rfl rfl hl.1 rfl (Nat.le_of_ble_eq_true rfl) dX7_hard_8 ⟨Nat.zero_le _, Nat.zero_le _⟩) hP hD hS hA [] rfl rfl (fun H locs hP hD hS hz_3 => ?_)
    refine lv_if_ne (tgt := 16) hx hb dX7_hard_11 (by decide) (fun c_4 => ?_) (fun c_4 => ?_)
    · replace hF := if_f c_4 hF
      refine lv_aload_n hx hb dX7_hard_16 rfl (lv_at hl 0 rfl) ?_
      refine lv_iload_n hx hb dX7_hard_17 rfl (lv_at hl 1 rfl) ?_
      refine lv_iload_n hx hb dX7_hard_18 rfl (lv_at hl 2 rfl) ?_
      obtain ⟨r_5, o_6, o_7, hq_8, hF⟩ := bd3_e hF
      refine xri (xrunV (As := [.int i1, .int i2]) (rest := []) (c_X7_findShares l D cI cB cJ a_t a_t_stand a_t_on a_t_marks a_t_rule a_t_tape a_t_freshStand a_t_freshMarks a_t_freshRule a_t_shares a_t_said a_t_rows a_t_must a_t_sorts a_t_sizes a_t_sheets a_t_holds a_t_heldNumber a_t_heldSize a_t_traced a_t_keptRow a_t_single _ s_t_villages s_t_held s_t_z s_t_tapeMany s_t_sort s_t_begins s_t_tokenEnds s_t_word s_t_value s_t_good s_t_freshVillages s_t_freshHeld s_t_rowMany s_t_mustMany s_t_kind s_t_number s_t_own s_t_bodies s_t_isParted s_t_isKept s_t_movedTo v_t_shares v_t_stand v_t_marks v_t_said i1 i2 r_5 o_6 o_7 hq_8) hfix xw_1024 yv_X7_findShares ⟨rfl, rfl⟩ ⟨(Nat.le_of_ble_eq_true rfl), (Nat.le_of_ble_eq_true rfl)⟩ xKk_K (fun U hU hW => xK.warm hW hK) hK.1 hP hD [0, 1, 2, 3, 4] rfl rfl 0 7 rfl rfl rfl rfl hl.1 rfl (Nat.le_of_ble_eq_true rfl) dX7_hard_19 ⟨Nat.zero_le _, Nat.zero_le _⟩) hP hD hS hA [0, 1, 2, 3, 4] rfl rfl rfl (wn := [(a_t, .inr (7, [.ref a_t_stand, .ref a_t_on, .ref a_t_marks, .int s_t_villages, .int s_t_held, .ref a_t_rule, .int s_t_z, .ref a_t_tape, .int s_t_tapeMany, .int s_t_sort, .int s_t_begins, .int s_t_tokenEnds, .long s_t_word, .int s_t_value, .int s_t_good, .int s_t_freshVillages, .int s_t_freshHeld, .ref a_t_freshStand, .ref a_t_freshMarks, .ref a_t_freshRule, .ref a_t_shares, .ref a_t_said, .ref a_t_rows, .ref a_t_must, .int s_t_rowMany, .int s_t_mustMany, .ref a_t_sorts, .ref a_t_sizes, .ref a_t_sheets, .ref a_t_holds, .ref a_t_heldNumber, .ref a_t_heldSize, .int s_t_kind, .int s_t_number, .int s_t_own, .ref a_t_traced, .int s_t_bodies, .int s_t_isParted, .int s_t_isKept, .ref a_t_keptRow, .int s_t_movedTo, .ref a_t_single])), (a_t_shares, .inl (cI, 10, .inl o_6)), (a_t_stand, .inl (cI, 100, .inl v_t_stand)), (a_t_marks, .inl (cI, 100, .inl v_t_marks)), (a_t_said, .inl (cI, 600, .inl o_7))]) rfl (fun H locs hP hD hS => ?_)
      refine lv_if_ne (tgt := 28) hx hb dX7_hard_22 (by decide) (fun c_9 => ?_) (fun c_9 => ?_)
      · replace hF := if_f c_9 hF
        refine lv_iconst (v := (0 : Int32)) hx hb dX7_hard_28 (by decide) ?_
        refine lv_istore_n (lv' := [(3, .int (0 : Int32)), (0, .ref a_t), (1, .int i1), (2, .int i2)]) hx hb dX7_hard_29 rfl hl (by decide) rfl (fun ls hl => ?_)
        refine lv_iconst (v := (1 : Int32)) hx hb dX7_hard_30 (by decide) ?_
        refine lv_istore (lv' := [(4, .int (1 : Int32)), (3, .int (0 : Int32)), (0, .ref a_t), (1, .int i1), (2, .int i2)]) hx hb dX7_hard_31 hl (by decide) rfl (fun ls hl => ?_)
        have hL_33 : ∀ (n : Nat) (x3_10 : Int32) (x4_11 : Int32) (y3_12 : Int32), f_X7_hard_L33 s_t_villages o_6 n x3_10 x4_11 = some y3_12 → ∀ (H : Heap) (locs : List Loc) (ls : Array Slot), va_P D vwCl [(a_t, .inr (7, [.ref a_t_stand, .ref a_t_on, .ref a_t_marks, .int s_t_villages, .int s_t_held, .ref a_t_rule, .int s_t_z, .ref a_t_tape, .int s_t_tapeMany, .int s_t_sort, .int s_t_begins, .int s_t_tokenEnds, .long s_t_word, .int s_t_value, .int s_t_good, .int s_t_freshVillages, .int s_t_freshHeld, .ref a_t_freshStand, .ref a_t_freshMarks, .ref a_t_freshRule, .ref a_t_shares, .ref a_t_said, .ref a_t_rows, .ref a_t_must, .int s_t_rowMany, .int s_t_mustMany, .ref a_t_sorts, .ref a_t_sizes, .ref a_t_sheets, .ref a_t_holds, .ref a_t_heldNumber, .ref a_t_heldSize, .int s_t_kind, .int s_t_number, .int s_t_own, .ref a_t_traced, .int s_t_bodies, .int s_t_isParted, .int s_t_isKept, .ref a_t_keptRow, .int s_t_movedTo, .ref a_t_single])), (a_t_shares, .inl (cI, 10, .inl o_6)), (a_t_stand, .inl (cI, 100, .inl v_t_stand)), (a_t_marks, .inl (cI, 100, .inl v_t_marks)), (a_t_said, .inl (cI, 600, .inl o_7))] H → va_D A [(a_t, .inr (7, [.ref a_t_stand, .ref a_t_on, .ref a_t_marks, .int s_t_villages, .int s_t_held, .ref a_t_rule, .int s_t_z, .ref a_t_tape, .int s_t_tapeMany, .int s_t_sort, .int s_t_begins, .int s_t_tokenEnds, .long s_t_word, .int s_t_value, .int s_t_good, .int s_t_freshVillages, .int s_t_freshHeld, .ref a_t_freshStand, .ref a_t_freshMarks, .ref a_t_freshRule, .ref a_t_shares, .ref a_t_said, .ref a_t_rows, .ref a_t_must, .int s_t_rowMany, .int s_t_mustMany, .ref a_t_sorts, .ref a_t_sizes, .ref a_t_sheets, .ref a_t_holds, .ref a_t_heldNumber, .ref a_t_heldSize, .int s_t_kind, .int s_t_number, .int s_t_own, .ref a_t_traced, .int s_t_bodies, .int s_t_isParted, .int s_t_isKept, .ref a_t_keptRow, .int s_t_movedTo, .ref a_t_single])), (a_t_shares, .inl (cI, 10, .inl o_6)), (a_t_stand, .inl (cI, 100, .inl v_t_stand)), (a_t_marks, .inl (cI, 100, .inl v_t_marks)), (a_t_said, .inl (cI, 600, .inl o_7))] → va_S A s.heap H locs → lv_has ls 5 [(0, .ref a_t), (3, .int x3_10), (4, .int x4_11)] → (∀ (H : Heap) (locs : List Loc) (ls : Array Slot), va_P D vwCl [(a_t, .inr (7, [.ref a_t_stand, .ref a_t_on, .ref a_t_marks, .int s_t_villages, .int s_t_held, .ref a_t_rule, .int s_t_z, .ref a_t_tape, .int s_t_tapeMany, .int s_t_sort, .int s_t_begins, .int s_t_tokenEnds, .long s_t_word, .int s_t_value, .int s_t_good, .int s_t_freshVillages, .int s_t_freshHeld, .ref a_t_freshStand, .ref a_t_freshMarks, .ref a_t_freshRule, .ref a_t_shares, .ref a_t_said, .ref a_t_rows, .ref a_t_must, .int s_t_rowMany, .int s_t_mustMany, .ref a_t_sorts, .ref a_t_sizes, .ref a_t_sheets, .ref a_t_holds, .ref a_t_heldNumber, .ref a_t_heldSize, .int s_t_kind, .int s_t_number, .int s_t_own, .ref a_t_traced, .int s_t_bodies, .int s_t_isParted, .int s_t_isKept, .ref a_t_keptRow, .int s_t_movedTo, .ref a_t_single])), (a_t_shares, .inl (cI, 10, .inl o_6)), (a_t_stand, .inl (cI, 100, .inl v_t_stand)), (a_t_marks, .inl (cI, 100, .inl v_t_marks)), (a_t_said, .inl (cI, 600, .inl o_7))] H → va_D A [(a_t, .inr (7, [.ref a_t_stand, .ref a_t_on, .ref a_t_marks, .int s_t_villages, .int s_t_held, .ref a_t_rule, .int s_t_z, .ref a_t_tape, .int s_t_tapeMany, .int s_t_sort, .int s_t_begins, .int s_t_tokenEnds, .long s_t_word, .int s_t_value, .int s_t_good, .int s_t_freshVillages, .int s_t_freshHeld, .ref a_t_freshStand, .ref a_t_freshMarks, .ref a_t_freshRule, .ref a_t_shares, .ref a_t_said, .ref a_t_rows, .ref a_t_must, .int s_t_rowMany, .int s_t_mustMany, .ref a_t_sorts, .ref a_t_sizes, .ref a_t_sheets, .ref a_t_holds, .ref a_t_heldNumber, .ref a_t_heldSize, .int s_t_kind, .int s_t_number, .int s_t_own, .ref a_t_traced, .int s_t_bodies, .int s_t_isParted, .int s_t_isKept, .ref a_t_keptRow, .int s_t_movedTo, .ref a_t_single])), (a_t_shares, .inl (cI, 10, .inl o_6)), (a_t_stand, .inl (cI, 100, .inl v_t_stand)), (a_t_marks, .inl (cI, 100, .inl v_t_marks)), (a_t_said, .inl (cI, 600, .inl o_7))] → va_S A s.heap H locs → lv_has ls 5 [(3, .int y3_12)] → W p l e rmX7_hard s m args below meth c H locs 0 0 Q (F0 m 71 ls [])) → W p l e rmX7_hard s m args below meth c H locs 0 0 Q (F0 m 33 ls []) := by
          intro n
          induction n with
          | zero => intro x3_10 x4_11 y3_12 hF; exact (no_some hF).elim
          | succ n ih =>
            intro x3_10 x4_11 y3_12 hF H locs ls hP hD hS hl kexit
            rw [f_X7_hard_L33] at hF
            refine lv_iload hx hb dX7_hard_33 (lv_at hl 2 rfl) ?_
            refine lv_aload_n hx hb dX7_hard_35 rfl (lv_at hl 0 rfl) ?_
            refine xget (ci := 7) (C := RX7) (T := TX7) (N := 42) hfix xiX7 hK.1 hP 0 rfl rfl 3 (by decide) rfl xw_691 rfl dX7_hard_36 ?_
            refine lv_icmp_ge (tgt := 71) hx hb dX7_hard_39 (by decide) (fun c_13 => ?_) (fun c_13 => ?_)
            · replace hF := if_t c_13 hF
              obtain rfl := Option.some.inj hF
              exact kexit _ _ _ hP hD hS (lv_sub hl [1] rfl)
            · replace hF := if_f c_13 hF
              refine lv_aload_n hx hb dX7_hard_42 rfl (lv_at hl 0 rfl) ?_
              refine xget (ci := 7) (C := RX7) (T := TX7) (N := 42) hfix xiX7 hK.1 hP 0 rfl rfl 20 (by decide) rfl xw_708 rfl dX7_hard_43 ?_
              refine lv_iload hx hb dX7_hard_46 (lv_at hl 2 rfl) ?_
              obtain ⟨c_14, hF⟩ := gd_e hF
              refine va_iald hx hb hK.1 hP 1 0 rfl rfl c_14 dX7_hard_48 ?_
              refine lv_aload_n hx hb dX7_hard_49 rfl (lv_at hl 0 rfl) ?_
              refine xget (ci := 7) (C := RX7) (T := TX7) (N := 42) hfix xiX7 hK.1 hP 0 rfl rfl 20 (by decide) rfl xw_708 rfl dX7_hard_50 ?_
              refine lv_iload_n hx hb dX7_hard_53 rfl (lv_at hl 1 rfl) ?_
              obtain ⟨c_15, hF⟩ := gd_e hF
              refine va_iald hx hb hK.1 hP 1 0 rfl rfl c_15 dX7_hard_54 ?_
              refine lv_icmp_ge (tgt := 63) hx hb dX7_hard_55 (by decide) (fun c_16 => ?_) (fun c_16 => ?_)
              · replace hF := if_t c_16 hF
                refine lv_iload_n hx hb dX7_hard_63 rfl (lv_at hl 1 rfl) ?_
                refine lv_istore_n (lv' := [(3, .int x3_10), (0, .ref a_t), (4, .int x4_11)]) hx hb dX7_hard_64 rfl hl (by decide) rfl (fun ls hl => ?_)
                refine lv_iinc (v := (x4_11 + (1 : Int32))) (lv' := [(4, .int (x4_11 + (1 : Int32))), (3, .int x3_10), (0, .ref a_t)]) hx hb dX7_hard_65 hl (k := 2) rfl rfl (by decide) rfl (fun ls hl => ?_)
                refine lv_goto (tgt := 33) hx hb dX7_hard_68 (by decide) ?_
                exact ih _ _ _ hF _ _ _ hP hD hS (lv_sub hl [2, 1, 0] rfl) kexit
              · replace hF := if_f c_16 hF
                refine lv_iload hx hb dX7_hard_58 (lv_at hl 2 rfl) ?_
                refine lv_goto (tgt := 64) hx hb dX7_hard_60 (by decide) ?_
                refine lv_istore_n (lv' := [(3, .int x4_11), (0, .ref a_t), (4, .int x4_11)]) hx hb dX7_hard_64 rfl hl (by decide) rfl (fun ls hl => ?_)
                refine lv_iinc (v := (x4_11 + (1 : Int32))) (lv' := [(4, .int (x4_11 + (1 : Int32))), (3, .int x4_11), (0, .ref a_t)]) hx hb dX7_hard_65 hl (k := 2) rfl rfl (by decide) rfl (fun ls hl => ?_)
                refine lv_goto (tgt := 33) hx hb dX7_hard_68 (by decide) ?_
                exact ih _ _ _ hF _ _ _ hP hD hS (lv_sub hl [2, 1, 0] rfl) kexit
        obtain ⟨y3_12, hq, hF⟩ := bd1_e hF
        refine hL_33 _ _ _ _ hq _ _ _ hP hD hS (lv_sub hl [2, 1, 0] rfl) (fun H locs ls hP hD hS hl => ?_)
        refine lv_iload_n hx hb dX7_hard_71 rfl (lv_at hl 0 rfl) ?_
        obtain ⟨rfl, rfl, rfl⟩ := pj3 hF
        exact hEnd _ _ _ _ _ dX7_hard_72 hP hS rfl
      · replace hF := if_t c_9 hF
        refine lv_bipush (v := (-3 : Int32)) hx hb dX7_hard_25 (by decide) ?_
        obtain ⟨rfl, rfl, rfl⟩ := pj3 hF
        exact hEnd _ _ _ _ _ dX7_hard_27 hP hS rfl
    · replace hF := if_t c_4 hF
      refine lv_iconst (v := (-1 : Int32)) hx hb dX7_hard_14 (by decide) ?_
      obtain ⟨rfl, rfl, rfl⟩ := pj3 hF
      exact hEnd _ _ _ _ _ dX7_hard_15 hP hS rfl
def f_X7_sure_L30 (r_5 : Int32) (o_6 : (Nat → Int32)) : Nat → Int32 → Int32 → Option (Int32)
  | 0, _, _ => none
  | n + 1, x4_9, x5_10 => (if (10 : Int32) ≤ x5_10 then some (x4_9) else (if r_5 ≤ (0 : Int32) then f_X7_sure_L30 r_5 o_6 n x4_9 (x5_10 + (1 : Int32)) else gd x5_10 10 ((if (o_6 x5_10.toNatClampNeg) = r_5 then f_X7_sure_L30 r_5 o_6 n x5_10 (x5_10 + (1 : Int32)) else f_X7_sure_L30 r_5 o_6 n x4_9 (x5_10 + (1 : Int32))))))
def f_X7_sure (i1 : Int32) (i2 : Int32) (s_t_villages : Int32) (v_t_shares : (Nat → Int32)) (v_t_stand : (Nat → Int32)) (v_t_marks : (Nat → Int32)) (v_t_said : (Nat → Int32)) : Option (Int32 × (Nat → Int32) × (Nat → Int32)) := (if (f_X7_isLong i1) = (0 : Int32) then some (((-1 : Int32), v_t_shares, v_t_said)) else (if (f_X7_isAllowed i2) = (0 : Int32) then some (((-1 : Int32), v_t_shares, v_t_said)) else bd3 (f_X7_findShares i1 i2 s_t_villages v_t_shares v_t_stand v_t_marks v_t_said) (fun (r_5 : Int32) (o_6 : (Nat → Int32)) (o_7 : (Nat → Int32)) => bd1 (f_X7_sure_L30 r_5 o_6 1000 (-3 : Int32) (0 : Int32)) (fun (y4_11 : Int32) => some ((y4_11, o_6, o_7))))))
abbrev rmX7_sure : Room := { frames := 5, cells := 0, slots := 0, locals := 120 }
set_option maxHeartbeats 400000 in
set_option maxRecDepth 100000 in
theorem c_X7_sure (l : Launch) (D : va_G) (cI cB cJ : ClassId) (a_t : Nat) (a_t_stand : Nat) (a_t_on : Nat) (a_t_marks : Nat) (a_t_rule : Nat) (a_t_tape : Nat) (a_t_freshStand : Nat) (a_t_freshMarks : Nat) (a_t_freshRule : Nat) (a_t_shares : Nat) (a_t_said : Nat) (a_t_rows : Nat) (a_t_must : Nat) (a_t_sorts : Nat) (a_t_sizes : Nat) (a_t_sheets : Nat) (a_t_holds : Nat) (a_t_heldNumber : Nat) (a_t_heldSize : Nat) (a_t_traced : Nat) (a_t_keptRow : Nat) (a_t_single : Nat) (sz : Nat) (s_t_villages : Int32) (s_t_held : Int32) (s_t_z : Int32) (s_t_tapeMany : Int32) (s_t_sort : Int32) (s_t_begins : Int32) (s_t_tokenEnds : Int32) (s_t_word : Int64) (s_t_value : Int32) (s_t_good : Int32) (s_t_freshVillages : Int32) (s_t_freshHeld : Int32) (s_t_rowMany : Int32) (s_t_mustMany : Int32) (s_t_kind : Int32) (s_t_number : Int32) (s_t_own : Int32) (s_t_bodies : Int32) (s_t_isParted : Int32) (s_t_isKept : Int32) (s_t_movedTo : Int32) (v_t_shares : (Nat → Int32)) (v_t_stand : (Nat → Int32)) (v_t_marks : (Nat → Int32)) (v_t_said : (Nat → Int32)) (i1 : Int32) (i2 : Int32) (r : Int32) (o_v_t_shares : (Nat → Int32)) (o_v_t_said : (Nat → Int32)) (hF : f_X7_sure i1 i2 s_t_villages v_t_shares v_t_stand v_t_marks v_t_said = some (r, o_v_t_shares, o_v_t_said)) : xMi l yX7_sure (.code yX7_sure cX7_sure 6 (some .int) :: xU) rmX7_sure (xK D cI cB cJ) D sz [.ref a_t, .int i1, .int i2] [(a_t, .inr (7, [.ref a_t_stand, .ref a_t_on, .ref a_t_marks, .int s_t_villages, .int s_t_held, .ref a_t_rule, .int s_t_z, .ref a_t_tape, .int s_t_tapeMany, .int s_t_sort, .int s_t_begins, .int s_t_tokenEnds, .long s_t_word, .int s_t_value, .int s_t_good, .int s_t_freshVillages, .int s_t_freshHeld, .ref a_t_freshStand, .ref a_t_freshMarks, .ref a_t_freshRule, .ref a_t_shares, .ref a_t_said, .ref a_t_rows, .ref a_t_must, .int s_t_rowMany, .int s_t_mustMany, .ref a_t_sorts, .ref a_t_sizes, .ref a_t_sheets, .ref a_t_holds, .ref a_t_heldNumber, .ref a_t_heldSize, .int s_t_kind, .int s_t_number, .int s_t_own, .ref a_t_traced, .int s_t_bodies, .int s_t_isParted, .int s_t_isKept, .ref a_t_keptRow, .int s_t_movedTo, .ref a_t_single])), (a_t_shares, .inl (cI, 10, .inl v_t_shares)), (a_t_stand, .inl (cI, 100, .inl v_t_stand)), (a_t_marks, .inl (cI, 100, .inl v_t_marks)), (a_t_said, .inl (cI, 600, .inl v_t_said))] [(a_t, .inr (7, [.ref a_t_stand, .ref a_t_on, .ref a_t_marks, .int s_t_villages, .int s_t_held, .ref a_t_rule, .int s_t_z, .ref a_t_tape, .int s_t_tapeMany, .int s_t_sort, .int s_t_begins, .int s_t_tokenEnds, .long s_t_word, .int s_t_value, .int s_t_good, .int s_t_freshVillages, .int s_t_freshHeld, .ref a_t_freshStand, .ref a_t_freshMarks, .ref a_t_freshRule, .ref a_t_shares, .ref a_t_said, .ref a_t_rows, .ref a_t_must, .int s_t_rowMany, .int s_t_mustMany, .ref a_t_sorts, .ref a_t_sizes, .ref a_t_sheets, .ref a_t_holds, .ref a_t_heldNumber, .ref a_t_heldSize, .int s_t_kind, .int s_t_number, .int s_t_own, .ref a_t_traced, .int s_t_bodies, .int s_t_isParted, .int s_t_isKept, .ref a_t_keptRow, .int s_t_movedTo, .ref a_t_single])), (a_t_shares, .inl (cI, 10, .inl o_v_t_shares)), (a_t_stand, .inl (cI, 100, .inl v_t_stand)), (a_t_marks, .inl (cI, 100, .inl v_t_marks)), (a_t_said, .inl (cI, 600, .inl o_v_t_said))] r := by
  refine xMi.mk (own := "FairNextModel") (by decide +kernel) rfl (Nat.le_of_ble_eq_true rfl) ?_
  intro p e s m args below meth c A Q ls H hfix hK hP hD hA hS hl hEnd
  obtain ⟨hx, hb, hml, hown, hts⟩ := id hfix
  have hl : lv_has ls 6 [(0, .ref a_t), (1, .int i1), (2, .int i2)] := hl
  rw [f_X7_sure] at hF
  refine lv_iload_n hx hb dX7_sure_0 rfl (lv_at hl 1 rfl) ?_
  refine xrz0 (xrunS (As := [.int i1]) (rest := []) (c_X7_isLong l D cI cB cJ _ i1 (f_X7_isLong i1) rfl) hfix xw_951 ys_X7_isLong ⟨rfl, rfl⟩ ⟨(Nat.le_of_ble_eq_true rfl), (Nat.le_of_ble_eq_true rfl)⟩ xKk_K (fun U hU hW => xK.warm hW hK) hP hD [] rfl rfl rfl hl.1 rfl (Nat.le_of_ble_eq_true rfl) dX7_sure_1 ⟨Nat.zero_le _, Nat.zero_le _⟩) hP hD hS hA [] rfl rfl (fun H locs hP hD hS hz_1 => ?_)
  refine lv_if_eq (tgt := 14) hx hb dX7_sure_4 (by decide) (fun c_2 => ?_) (fun c_2 => ?_)
  · replace hF := if_t c_2 hF
    refine lv_iconst (v := (-1 : Int32)) hx hb dX7_sure_14 (by decide) ?_
    obtain ⟨rfl, rfl, rfl⟩ := pj3 hF
    exact hEnd _ _ _ _ _ dX7_sure_15 hP hS rfl
  · replace hF := if_f c_2 hF
    refine lv_iload_n hx hb dX7_sure_7 rfl (lv_at hl 2 rfl) ?_
    refine xrz0 (xrunS (As := [.int i2]) (rest := []) (c_X7_isAllowed l D cI cB cJ _ i2 (f_X7_isAllowed i2) rfl) hfix xw_990 ys_X7_isAllowed ⟨rfl, rfl⟩ ⟨(Nat.le_of_ble_eq_true rfl), (Nat.le_of_ble_eq_true rfl)⟩ xKk_K (fun U hU hW => xK.warm hW hK) hP hD [] rfl rfl rfl hl.1 rfl (Nat.le_of_ble_eq_true rfl) dX7_sure_8 ⟨Nat.zero_le _, Nat.zero_le _⟩) hP hD hS hA [] rfl rfl (fun H locs hP hD hS hz_3 => ?_)
    refine lv_if_ne (tgt := 16) hx hb dX7_sure_11 (by decide) (fun c_4 => ?_) (fun c_4 => ?_)
    · replace hF := if_f c_4 hF
      refine lv_aload_n hx hb dX7_sure_16 rfl (lv_at hl 0 rfl) ?_
      refine lv_iload_n hx hb dX7_sure_17 rfl (lv_at hl 1 rfl) ?_
      refine lv_iload_n hx hb dX7_sure_18 rfl (lv_at hl 2 rfl) ?_
      obtain ⟨r_5, o_6, o_7, hq_8, hF⟩ := bd3_e hF
      refine xri (xrunV (As := [.int i1, .int i2]) (rest := []) (c_X7_findShares l D cI cB cJ a_t a_t_stand a_t_on a_t_marks a_t_rule a_t_tape a_t_freshStand a_t_freshMarks a_t_freshRule a_t_shares a_t_said a_t_rows a_t_must a_t_sorts a_t_sizes a_t_sheets a_t_holds a_t_heldNumber a_t_heldSize a_t_traced a_t_keptRow a_t_single _ s_t_villages s_t_held s_t_z s_t_tapeMany s_t_sort s_t_begins s_t_tokenEnds s_t_word s_t_value s_t_good s_t_freshVillages s_t_freshHeld s_t_rowMany s_t_mustMany s_t_kind s_t_number s_t_own s_t_bodies s_t_isParted s_t_isKept s_t_movedTo v_t_shares v_t_stand v_t_marks v_t_said i1 i2 r_5 o_6 o_7 hq_8) hfix xw_1024 yv_X7_findShares ⟨rfl, rfl⟩ ⟨(Nat.le_of_ble_eq_true rfl), (Nat.le_of_ble_eq_true rfl)⟩ xKk_K (fun U hU hW => xK.warm hW hK) hK.1 hP hD [0, 1, 2, 3, 4] rfl rfl 0 7 rfl rfl rfl rfl hl.1 rfl (Nat.le_of_ble_eq_true rfl) dX7_sure_19 ⟨Nat.zero_le _, Nat.zero_le _⟩) hP hD hS hA [0, 1, 2, 3, 4] rfl rfl rfl (wn := [(a_t, .inr (7, [.ref a_t_stand, .ref a_t_on, .ref a_t_marks, .int s_t_villages, .int s_t_held, .ref a_t_rule, .int s_t_z, .ref a_t_tape, .int s_t_tapeMany, .int s_t_sort, .int s_t_begins, .int s_t_tokenEnds, .long s_t_word, .int s_t_value, .int s_t_good, .int s_t_freshVillages, .int s_t_freshHeld, .ref a_t_freshStand, .ref a_t_freshMarks, .ref a_t_freshRule, .ref a_t_shares, .ref a_t_said, .ref a_t_rows, .ref a_t_must, .int s_t_rowMany, .int s_t_mustMany, .ref a_t_sorts, .ref a_t_sizes, .ref a_t_sheets, .ref a_t_holds, .ref a_t_heldNumber, .ref a_t_heldSize, .int s_t_kind, .int s_t_number, .int s_t_own, .ref a_t_traced, .int s_t_bodies, .int s_t_isParted, .int s_t_isKept, .ref a_t_keptRow, .int s_t_movedTo, .ref a_t_single])), (a_t_shares, .inl (cI, 10, .inl o_6)), (a_t_stand, .inl (cI, 100, .inl v_t_stand)), (a_t_marks, .inl (cI, 100, .inl v_t_marks)), (a_t_said, .inl (cI, 600, .inl o_7))]) rfl (fun H locs hP hD hS => ?_)
      refine lv_istore_n (lv' := [(3, .int r_5), (0, .ref a_t), (1, .int i1), (2, .int i2)]) hx hb dX7_sure_22 rfl hl (by decide) rfl (fun ls hl => ?_)
      refine lv_bipush (v := (-3 : Int32)) hx hb dX7_sure_23 (by decide) ?_
      refine lv_istore (lv' := [(4, .int (-3 : Int32)), (3, .int r_5), (0, .ref a_t), (1, .int i1), (2, .int i2)]) hx hb dX7_sure_25 hl (by decide) rfl (fun ls hl => ?_)
      refine lv_iconst (v := (0 : Int32)) hx hb dX7_sure_27 (by decide) ?_
      refine lv_istore (lv' := [(5, .int (0 : Int32)), (4, .int (-3 : Int32)), (3, .int r_5), (0, .ref a_t), (1, .int i1), (2, .int i2)]) hx hb dX7_sure_28 hl (by decide) rfl (fun ls hl => ?_)
      have hL_30 : ∀ (n : Nat) (x4_9 : Int32) (x5_10 : Int32) (y4_11 : Int32), f_X7_sure_L30 r_5 o_6 n x4_9 x5_10 = some y4_11 → ∀ (H : Heap) (locs : List Loc) (ls : Array Slot), va_P D vwCl [(a_t, .inr (7, [.ref a_t_stand, .ref a_t_on, .ref a_t_marks, .int s_t_villages, .int s_t_held, .ref a_t_rule, .int s_t_z, .ref a_t_tape, .int s_t_tapeMany, .int s_t_sort, .int s_t_begins, .int s_t_tokenEnds, .long s_t_word, .int s_t_value, .int s_t_good, .int s_t_freshVillages, .int s_t_freshHeld, .ref a_t_freshStand, .ref a_t_freshMarks, .ref a_t_freshRule, .ref a_t_shares, .ref a_t_said, .ref a_t_rows, .ref a_t_must, .int s_t_rowMany, .int s_t_mustMany, .ref a_t_sorts, .ref a_t_sizes, .ref a_t_sheets, .ref a_t_holds, .ref a_t_heldNumber, .ref a_t_heldSize, .int s_t_kind, .int s_t_number, .int s_t_own, .ref a_t_traced, .int s_t_bodies, .int s_t_isParted, .int s_t_isKept, .ref a_t_keptRow, .int s_t_movedTo, .ref a_t_single])), (a_t_shares, .inl (cI, 10, .inl o_6)), (a_t_stand, .inl (cI, 100, .inl v_t_stand)), (a_t_marks, .inl (cI, 100, .inl v_t_marks)), (a_t_said, .inl (cI, 600, .inl o_7))] H → va_D A [(a_t, .inr (7, [.ref a_t_stand, .ref a_t_on, .ref a_t_marks, .int s_t_villages, .int s_t_held, .ref a_t_rule, .int s_t_z, .ref a_t_tape, .int s_t_tapeMany, .int s_t_sort, .int s_t_begins, .int s_t_tokenEnds, .long s_t_word, .int s_t_value, .int s_t_good, .int s_t_freshVillages, .int s_t_freshHeld, .ref a_t_freshStand, .ref a_t_freshMarks, .ref a_t_freshRule, .ref a_t_shares, .ref a_t_said, .ref a_t_rows, .ref a_t_must, .int s_t_rowMany, .int s_t_mustMany, .ref a_t_sorts, .ref a_t_sizes, .ref a_t_sheets, .ref a_t_holds, .ref a_t_heldNumber, .ref a_t_heldSize, .int s_t_kind, .int s_t_number, .int s_t_own, .ref a_t_traced, .int s_t_bodies, .int s_t_isParted, .int s_t_isKept, .ref a_t_keptRow, .int s_t_movedTo, .ref a_t_single])), (a_t_shares, .inl (cI, 10, .inl o_6)), (a_t_stand, .inl (cI, 100, .inl v_t_stand)), (a_t_marks, .inl (cI, 100, .inl v_t_marks)), (a_t_said, .inl (cI, 600, .inl o_7))] → va_S A s.heap H locs → lv_has ls 6 [(0, .ref a_t), (3, .int r_5), (4, .int x4_9), (5, .int x5_10)] → (∀ (H : Heap) (locs : List Loc) (ls : Array Slot), va_P D vwCl [(a_t, .inr (7, [.ref a_t_stand, .ref a_t_on, .ref a_t_marks, .int s_t_villages, .int s_t_held, .ref a_t_rule, .int s_t_z, .ref a_t_tape, .int s_t_tapeMany, .int s_t_sort, .int s_t_begins, .int s_t_tokenEnds, .long s_t_word, .int s_t_value, .int s_t_good, .int s_t_freshVillages, .int s_t_freshHeld, .ref a_t_freshStand, .ref a_t_freshMarks, .ref a_t_freshRule, .ref a_t_shares, .ref a_t_said, .ref a_t_rows, .ref a_t_must, .int s_t_rowMany, .int s_t_mustMany, .ref a_t_sorts, .ref a_t_sizes, .ref a_t_sheets, .ref a_t_holds, .ref a_t_heldNumber, .ref a_t_heldSize, .int s_t_kind, .int s_t_number, .int s_t_own, .ref a_t_traced, .int s_t_bodies, .int s_t_isParted, .int s_t_isKept, .ref a_t_keptRow, .int s_t_movedTo, .ref a_t_single])), (a_t_shares, .inl (cI, 10, .inl o_6)), (a_t_stand, .inl (cI, 100, .inl v_t_stand)), (a_t_marks, .inl (cI, 100, .inl v_t_marks)), (a_t_said, .inl (cI, 600, .inl o_7))] H → va_D A [(a_t, .inr (7, [.ref a_t_stand, .ref a_t_on, .ref a_t_marks, .int s_t_villages, .int s_t_held, .ref a_t_rule, .int s_t_z, .ref a_t_tape, .int s_t_tapeMany, .int s_t_sort, .int s_t_begins, .int s_t_tokenEnds, .long s_t_word, .int s_t_value, .int s_t_good, .int s_t_freshVillages, .int s_t_freshHeld, .ref a_t_freshStand, .ref a_t_freshMarks, .ref a_t_freshRule, .ref a_t_shares, .ref a_t_said, .ref a_t_rows, .ref a_t_must, .int s_t_rowMany, .int s_t_mustMany, .ref a_t_sorts, .ref a_t_sizes, .ref a_t_sheets, .ref a_t_holds, .ref a_t_heldNumber, .ref a_t_heldSize, .int s_t_kind, .int s_t_number, .int s_t_own, .ref a_t_traced, .int s_t_bodies, .int s_t_isParted, .int s_t_isKept, .ref a_t_keptRow, .int s_t_movedTo, .ref a_t_single])), (a_t_shares, .inl (cI, 10, .inl o_6)), (a_t_stand, .inl (cI, 100, .inl v_t_stand)), (a_t_marks, .inl (cI, 100, .inl v_t_marks)), (a_t_said, .inl (cI, 600, .inl o_7))] → va_S A s.heap H locs → lv_has ls 6 [(4, .int y4_11)] → W p l e rmX7_sure s m args below meth c H locs 0 0 Q (F0 m 67 ls [])) → W p l e rmX7_sure s m args below meth c H locs 0 0 Q (F0 m 30 ls []) := by
        intro n
        induction n with
        | zero => intro x4_9 x5_10 y4_11 hF; exact (no_some hF).elim
        | succ n ih =>
          intro x4_9 x5_10 y4_11 hF H locs ls hP hD hS hl kexit
          rw [f_X7_sure_L30] at hF
          refine lv_iload hx hb dX7_sure_30 (lv_at hl 3 rfl) ?_
          refine lv_bipush (v := (10 : Int32)) hx hb dX7_sure_32 (by decide) ?_
          refine lv_icmp_ge (tgt := 67) hx hb dX7_sure_34 (by decide) (fun c_12 => ?_) (fun c_12 => ?_)
          · replace hF := if_t c_12 hF
            obtain rfl := Option.some.inj hF
            exact kexit _ _ _ hP hD hS (lv_sub hl [2] rfl)
          · replace hF := if_f c_12 hF
            refine lv_iload_n hx hb dX7_sure_37 rfl (lv_at hl 1 rfl) ?_
            refine lv_if_le (tgt := 57) hx hb dX7_sure_38 (by decide) (fun c_13 => ?_) (fun c_13 => ?_)
            · replace hF := if_t c_13 hF
              refine lv_iload hx hb dX7_sure_57 (lv_at hl 2 rfl) ?_
              refine lv_istore (lv' := [(4, .int x4_9), (0, .ref a_t), (3, .int r_5), (5, .int x5_10)]) hx hb dX7_sure_59 hl (by decide) rfl (fun ls hl => ?_)
              refine lv_iinc (v := (x5_10 + (1 : Int32))) (lv' := [(5, .int (x5_10 + (1 : Int32))), (4, .int x4_9), (0, .ref a_t), (3, .int r_5)]) hx hb dX7_sure_61 hl (k := 3) rfl rfl (by decide) rfl (fun ls hl => ?_)
              refine lv_goto (tgt := 30) hx hb dX7_sure_64 (by decide) ?_
              exact ih _ _ _ hF _ _ _ hP hD hS (lv_sub hl [2, 3, 1, 0] rfl) kexit
            · replace hF := if_f c_13 hF
              refine lv_aload_n hx hb dX7_sure_41 rfl (lv_at hl 0 rfl) ?_
              refine xget (ci := 7) (C := RX7) (T := TX7) (N := 42) hfix xiX7 hK.1 hP 0 rfl rfl 20 (by decide) rfl xw_708 rfl dX7_sure_42 ?_
              refine lv_iload hx hb dX7_sure_45 (lv_at hl 3 rfl) ?_
              obtain ⟨c_14, hF⟩ := gd_e hF
              refine va_iald hx hb hK.1 hP 1 0 rfl rfl c_14 dX7_sure_47 ?_
              refine lv_iload_n hx hb dX7_sure_48 rfl (lv_at hl 1 rfl) ?_
              refine lv_icmp_ne (tgt := 57) hx hb dX7_sure_49 (by decide) (fun c_15 => ?_) (fun c_15 => ?_)
              · replace hF := if_f c_15 hF
                refine lv_iload hx hb dX7_sure_57 (lv_at hl 2 rfl) ?_
                refine lv_istore (lv' := [(4, .int x4_9), (0, .ref a_t), (3, .int r_5), (5, .int x5_10)]) hx hb dX7_sure_59 hl (by decide) rfl (fun ls hl => ?_)
                refine lv_iinc (v := (x5_10 + (1 : Int32))) (lv' := [(5, .int (x5_10 + (1 : Int32))), (4, .int x4_9), (0, .ref a_t), (3, .int r_5)]) hx hb dX7_sure_61 hl (k := 3) rfl rfl (by decide) rfl (fun ls hl => ?_)
                refine lv_goto (tgt := 30) hx hb dX7_sure_64 (by decide) ?_
                exact ih _ _ _ hF _ _ _ hP hD hS (lv_sub hl [2, 3, 1, 0] rfl) kexit
              · replace hF := if_t c_15 hF
                refine lv_iload hx hb dX7_sure_52 (lv_at hl 3 rfl) ?_
                refine lv_goto (tgt := 59) hx hb dX7_sure_54 (by decide) ?_
                refine lv_istore (lv' := [(4, .int x5_10), (0, .ref a_t), (3, .int r_5), (5, .int x5_10)]) hx hb dX7_sure_59 hl (by decide) rfl (fun ls hl => ?_)
                refine lv_iinc (v := (x5_10 + (1 : Int32))) (lv' := [(5, .int (x5_10 + (1 : Int32))), (4, .int x5_10), (0, .ref a_t), (3, .int r_5)]) hx hb dX7_sure_61 hl (k := 3) rfl rfl (by decide) rfl (fun ls hl => ?_)
                refine lv_goto (tgt := 30) hx hb dX7_sure_64 (by decide) ?_
                exact ih _ _ _ hF _ _ _ hP hD hS (lv_sub hl [2, 3, 1, 0] rfl) kexit
      obtain ⟨y4_11, hq, hF⟩ := bd1_e hF
      refine hL_30 _ _ _ _ hq _ _ _ hP hD hS (lv_sub hl [3, 2, 1, 0] rfl) (fun H locs ls hP hD hS hl => ?_)
      refine lv_iload hx hb dX7_sure_67 (lv_at hl 0 rfl) ?_
      obtain ⟨rfl, rfl, rfl⟩ := pj3 hF
      exact hEnd _ _ _ _ _ dX7_sure_69 hP hS rfl
    · replace hF := if_t c_4 hF
      refine lv_iconst (v := (-1 : Int32)) hx hb dX7_sure_14 (by decide) ?_
      obtain ⟨rfl, rfl, rfl⟩ := pj3 hF
      exact hEnd _ _ _ _ _ dX7_sure_15 hP hS rfl
