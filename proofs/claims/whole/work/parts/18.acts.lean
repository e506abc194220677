/-! the acts: bodies that call each other, by the fuel that stands -/
abbrev rmX5_body (n : Nat) : Room := { frames := 3 * n + 2, cells := 0, slots := 0, locals := 100 * n + 100 }
abbrev rmX5_own (n : Nat) : Room := { frames := 3 * n + 3, cells := 0, slots := 0, locals := 100 * n + 150 }
def f_X5_own (rec : Int32 → Int32 → Int32 → Int32 → Int32 → Int32 → Int32 → Int32 → (Nat → Int32) → Option (Int32 × Int32 × Int32 × (Nat → Int32))) (i1 : Int32) (i2 : Int32) (i3 : Int32) (s_t_ranCount : Int32) (s_t_kind : Int32) (s_t_number : Int32) (s_t_a : Int32) (s_t_parted : Int32) (v_t_ran : (Nat → Int32)) : Option (Int32 × Int32 × Int32 × (Nat → Int32)) := (if ((s_t_kind * (4 : Int32)) + i1) < (0 : Int32) then some (((0 : Int32), s_t_ranCount, s_t_parted, v_t_ran)) else (if ((s_t_kind * (4 : Int32)) + i1) < (24 : Int32) then gd ((s_t_kind * (4 : Int32)) + i1) 24 (bd4 (rec (tabB ((s_t_kind * (4 : Int32)) + i1).toNatClampNeg) i2 i3 s_t_ranCount s_t_kind s_t_number s_t_a s_t_parted v_t_ran) (fun (r_4 : Int32) (o_5 : Int32) (o_6 : Int32) (o_7 : (Nat → Int32)) => some ((r_4, o_5, o_6, o_7)))) else some (((0 : Int32), s_t_ranCount, s_t_parted, v_t_ran))))
set_option maxHeartbeats 400000 in
set_option maxRecDepth 100000 in
theorem c_X5_own (n : Nat) (rec : Int32 → Int32 → Int32 → Int32 → Int32 → Int32 → Int32 → Int32 → (Nat → Int32) → Option (Int32 × Int32 × Int32 × (Nat → Int32))) (l : Launch) (D : va_G) (cI cB cJ : ClassId) (tO tB : Nat) (adK adV : Nat → Nat) (vf : Value) (hvf : vf = .null ∨ ∃ q, vf = .ref q) (hrec : ∀ (a_t : Nat) (a_t_ran : Nat) (sz : Nat) (s_t_ranCount : Int32) (s_t_kind : Int32) (s_t_number : Int32) (s_t_a : Int32) (s_t_parted : Int32) (v_t_ran : (Nat → Int32)) (i1 : Int32) (i2 : Int32) (i3 : Int32) (r : Int32) (o_s_t_ranCount : Int32) (o_s_t_parted : Int32) (o_v_t_ran : (Nat → Int32)), rec i1 i2 i3 s_t_ranCount s_t_kind s_t_number s_t_a s_t_parted v_t_ran = some (r, o_s_t_ranCount, o_s_t_parted, o_v_t_ran) → xMi l yX5_body (.code yX5_body cX5_body 5 (some .int) :: xU) (rmX5_body n) (xKT D cI cB cJ tO tB adK adV vf [(a_t, .inr (5, [.ref a_t_ran, .int s_t_ranCount, .int s_t_kind, .int s_t_number, .int s_t_a, .int s_t_parted])), (a_t_ran, .inl (cI, 30, .inl v_t_ran))]) D sz [.ref a_t, .int i1, .int i2, .int i3] [(a_t, .inr (5, [.ref a_t_ran, .int s_t_ranCount, .int s_t_kind, .int s_t_number, .int s_t_a, .int s_t_parted])), (a_t_ran, .inl (cI, 30, .inl v_t_ran))] [(a_t, .inr (5, [.ref a_t_ran, .int o_s_t_ranCount, .int s_t_kind, .int s_t_number, .int s_t_a, .int o_s_t_parted])), (a_t_ran, .inl (cI, 30, .inl o_v_t_ran))] r) (a_t : Nat) (a_t_ran : Nat) (sz : Nat) (s_t_ranCount : Int32) (s_t_kind : Int32) (s_t_number : Int32) (s_t_a : Int32) (s_t_parted : Int32) (v_t_ran : (Nat → Int32)) (i1 : Int32) (i2 : Int32) (i3 : Int32) (r : Int32) (o_s_t_ranCount : Int32) (o_s_t_parted : Int32) (o_v_t_ran : (Nat → Int32)) (hF : f_X5_own rec i1 i2 i3 s_t_ranCount s_t_kind s_t_number s_t_a s_t_parted v_t_ran = some (r, o_s_t_ranCount, o_s_t_parted, o_v_t_ran)) : xMi l yX5_own (.code yX5_own cX5_own 5 (some .int) :: xU) (rmX5_own n) (xKT D cI cB cJ tO tB adK adV vf [(a_t, .inr (5, [.ref a_t_ran, .int s_t_ranCount, .int s_t_kind, .int s_t_number, .int s_t_a, .int s_t_parted])), (a_t_ran, .inl (cI, 30, .inl v_t_ran))]) D sz [.ref a_t, .int i1, .int i2, .int i3] [(a_t, .inr (5, [.ref a_t_ran, .int s_t_ranCount, .int s_t_kind, .int s_t_number, .int s_t_a, .int s_t_parted])), (a_t_ran, .inl (cI, 30, .inl v_t_ran))] [(a_t, .inr (5, [.ref a_t_ran, .int o_s_t_ranCount, .int s_t_kind, .int s_t_number, .int s_t_a, .int o_s_t_parted])), (a_t_ran, .inl (cI, 30, .inl o_v_t_ran))] r := by
  refine xMi.mkT (own := "FairNext$Thing") (by decide +kernel) rfl (Nat.le_of_ble_eq_true rfl) ?_
  intro p e s m args below meth c A Q ls H hfix hK hT hP hD hA hS hl hEnd
  obtain ⟨hx, hb, hml, hown, hts⟩ := id hfix
  have hl : lv_has ls 5 [(0, .ref a_t), (1, .int i1), (2, .int i2), (3, .int i3)] := hl
  rw [f_X5_own] at hF
  refine lv_aload_n hx hb dX5_own_0 rfl (lv_at hl 0 rfl) ?_
  refine xget (ci := 5) (C := RX5) (T := TX5) (N := 6) hfix xiX5 hK.1 hP 0 rfl rfl 2 (by decide) rfl xw_144 rfl dX5_own_1 ?_
  refine lv_iconst (v := (4 : Int32)) hx hb dX5_own_4 (by decide) ?_
  refine lv_imul hx hb dX5_own_5 ?_
  refine lv_iload_n hx hb dX5_own_6 rfl (lv_at hl 1 rfl) ?_
  refine lv_iadd hx hb dX5_own_7 ?_
  refine lv_istore (lv' := [(4, .int ((s_t_kind * (4 : Int32)) + i1)), (0, .ref a_t), (1, .int i1), (2, .int i2), (3, .int i3)]) hx hb dX5_own_8 hl (by decide) rfl (fun ls hl => ?_)
  refine lv_iload hx hb dX5_own_10 (lv_at hl 0 rfl) ?_
  refine lv_if_lt (tgt := 24) hx hb dX5_own_12 (by decide) (fun c_1 => ?_) (fun c_1 => ?_)
  · replace hF := if_t c_1 hF
    refine lv_iconst (v := (0 : Int32)) hx hb dX5_own_24 (by decide) ?_
    refine lv_goto (tgt := 40) hx hb dX5_own_25 (by decide) ?_
    obtain ⟨rfl, rfl, rfl, rfl⟩ := pj4 hF
    exact hEnd _ _ _ _ _ dX5_own_40 hP hS rfl
  · replace hF := if_f c_1 hF
    refine lv_iload hx hb dX5_own_15 (lv_at hl 0 rfl) ?_
    refine va_getsN (v := .ref tB) hx hb hT.2.2.1 hS hown (va_Nw.use rfl (hK.2 _ (List.mem_of_getElem? (i := 8) rfl))) (fun _ h9 => h9) dX5_own_17 ?_
    refine va_tlen (v := (24 : Int32)) hx hb hT.2.2.2.1 hS rfl dX5_own_20 ?_
    refine lv_icmp_lt (tgt := 28) hx hb dX5_own_21 (by decide) (fun c_2 => ?_) (fun c_2 => ?_)
    · replace hF := if_t c_2 hF
      refine lv_aload_n hx hb dX5_own_28 rfl (lv_at hl 1 rfl) ?_
      refine va_getsN (v := .ref tB) hx hb hT.2.2.1 hS hown (va_Nw.use rfl (hK.2 _ (List.mem_of_getElem? (i := 8) rfl))) (fun _ h9 => h9) dX5_own_29 ?_
      refine lv_iload hx hb dX5_own_32 (lv_at hl 0 rfl) ?_
      obtain ⟨c_3, hF⟩ := gd_e hF
      refine va_ti hx hb hT.2.2.2.1 hS c_3 (v := .int (tabB ((s_t_kind * (4 : Int32)) + i1).toNatClampNeg)) rfl dX5_own_34 ?_
      refine lv_iload_n hx hb dX5_own_35 rfl (lv_at hl 3 rfl) ?_
      refine lv_iload_n hx hb dX5_own_36 rfl (lv_at hl 4 rfl) ?_
      obtain ⟨r_4, o_5, o_6, o_7, hq_8, hF⟩ := bd4_e hF
      refine xri (xrunV (As := [.int (tabB ((s_t_kind * (4 : Int32)) + i1).toNatClampNeg), .int i2, .int i3]) (rest := []) (hrec a_t a_t_ran _ s_t_ranCount s_t_kind s_t_number s_t_a s_t_parted v_t_ran (tabB ((s_t_kind * (4 : Int32)) + i1).toNatClampNeg) i2 i3 r_4 o_5 o_6 o_7 hq_8) hfix xw_654 yv_X5_body ⟨rfl, rfl⟩ ⟨(by simp only [rmX5_own, rmX5_body, rmX5_note, rmX5_part]; omega), (by simp only [rmX5_own, rmX5_body, rmX5_note, rmX5_part]; omega)⟩ xKTk (fun U hU hW => xKT.at hK hT hS (va_free hD hS hA [0, 1] rfl) U hU hW) hK.1 hP hD [0, 1] rfl rfl 0 5 rfl rfl rfl rfl hl.1 rfl (Nat.le_of_ble_eq_true rfl) dX5_own_37 ⟨Nat.zero_le _, Nat.zero_le _⟩) hP hD hS hA [0, 1] rfl rfl rfl (wn := [(a_t, .inr (5, [.ref a_t_ran, .int o_5, .int s_t_kind, .int s_t_number, .int s_t_a, .int o_6])), (a_t_ran, .inl (cI, 30, .inl o_7))]) rfl (fun H locs hP hD hS => ?_)
      obtain ⟨rfl, rfl, rfl, rfl⟩ := pj4 hF
      exact hEnd _ _ _ _ _ dX5_own_40 hP hS rfl
    · replace hF := if_f c_2 hF
      refine lv_iconst (v := (0 : Int32)) hx hb dX5_own_24 (by decide) ?_
      refine lv_goto (tgt := 40) hx hb dX5_own_25 (by decide) ?_
      obtain ⟨rfl, rfl, rfl, rfl⟩ := pj4 hF
      exact hEnd _ _ _ _ _ dX5_own_40 hP hS rfl
def f_X5_body : Nat → Int32 → Int32 → Int32 → Int32 → Int32 → Int32 → Int32 → Int32 → (Nat → Int32) → Option (Int32 × Int32 × Int32 × (Nat → Int32))
  | 0, _, _, _, _, _, _, _, _, _ => none
  | n + 1, i1, i2, i3, s_t_ranCount, s_t_kind, s_t_number, s_t_a, s_t_parted, v_t_ran => (if s_t_parted = (0 : Int32) then (if i3 ≤ (20 : Int32) then bd2 (f_X5_note i1 s_t_ranCount v_t_ran) (fun (o_3 : Int32) (o_4 : (Nat → Int32)) => (if i1 = (10 : Int32) then some (((i2 + s_t_number), o_3, s_t_parted, o_4)) else (if i1 = (11 : Int32) then bd4 (f_X5_own (f_X5_body n) (0 : Int32) i2 (i3 + (1 : Int32)) o_3 s_t_kind s_t_number s_t_a s_t_parted o_4) (fun (r_8 : Int32) (o_9 : Int32) (o_10 : Int32) (o_11 : (Nat → Int32)) => some (((r_8 * (2 : Int32)), o_9, o_10, o_11))) else (if i1 = (12 : Int32) then bd2 (f_X5_part i2 s_t_number s_t_a s_t_parted) (fun (r_14 : Int32) (o_15 : Int32) => some ((r_14, o_3, o_15, o_4))) else (if i1 = (13 : Int32) then bd4 (f_X5_own (f_X5_body n) (1 : Int32) i2 (i3 + (1 : Int32)) o_3 s_t_kind s_t_number s_t_a s_t_parted o_4) (fun (r_18 : Int32) (o_19 : Int32) (o_20 : Int32) (o_21 : (Nat → Int32)) => some (((r_18 ^^^ s_t_a), o_19, o_20, o_21))) else (if i1 = (14 : Int32) then some (((0 : Int32), o_3, s_t_parted, o_4)) else (if i1 = (15 : Int32) then some (((0 : Int32), o_3, s_t_parted, o_4)) else (if i1 = (16 : Int32) then some (((0 : Int32), o_3, s_t_parted, o_4)) else (if i1 = (17 : Int32) then some (((0 : Int32), o_3, s_t_parted, o_4)) else (if i1 = (18 : Int32) then some (((0 : Int32), o_3, s_t_parted, o_4)) else (if i1 = (19 : Int32) then some (((0 : Int32), o_3, s_t_parted, o_4)) else (if i1 = (20 : Int32) then bd4 (f_X5_body n (11 : Int32) i2 (i3 + (1 : Int32)) o_3 s_t_kind s_t_number s_t_a s_t_parted o_4) (fun (r_30 : Int32) (o_31 : Int32) (o_32 : Int32) (o_33 : (Nat → Int32)) => some (((r_30 - s_t_a), o_31, o_32, o_33))) else (if i1 = (21 : Int32) then some (((0 : Int32), o_3, s_t_parted, o_4)) else (if i1 = (22 : Int32) then some (((0 : Int32), o_3, s_t_parted, o_4)) else (if i1 = (23 : Int32) then some (((0 : Int32), o_3, s_t_parted, o_4)) else (if i1 = (24 : Int32) then some (((0 : Int32), o_3, s_t_parted, o_4)) else (if i1 = (25 : Int32) then some (((0 : Int32), o_3, s_t_parted, o_4)) else (if i1 = (26 : Int32) then some (((0 : Int32), o_3, s_t_parted, o_4)) else (if i1 = (27 : Int32) then some (((0 : Int32), o_3, s_t_parted, o_4)) else (if i1 = (28 : Int32) then some (((0 : Int32), o_3, s_t_parted, o_4)) else (if i1 = (29 : Int32) then some (((0 : Int32), o_3, s_t_parted, o_4)) else (if i1 = (30 : Int32) then bd4 (f_X5_body n (10 : Int32) i2 (i3 + (1 : Int32)) o_3 s_t_kind s_t_number s_t_a s_t_parted o_4) (fun (r_45 : Int32) (o_46 : Int32) (o_47 : Int32) (o_48 : (Nat → Int32)) => some (((r_45 * (3 : Int32)), o_46, o_47, o_48))) else (if i1 = (31 : Int32) then bd4 (f_X5_body n (13 : Int32) i2 (i3 + (1 : Int32)) o_3 s_t_kind s_t_number s_t_a s_t_parted o_4) (fun (r_51 : Int32) (o_52 : Int32) (o_53 : Int32) (o_54 : (Nat → Int32)) => bd4 (f_X5_own (f_X5_body n) (2 : Int32) s_t_number (i3 + (1 : Int32)) o_52 s_t_kind s_t_number s_t_a o_53 o_54) (fun (r_56 : Int32) (o_57 : Int32) (o_58 : Int32) (o_59 : (Nat → Int32)) => some (((r_51 + r_56), o_57, o_58, o_59)))) else (if i1 = (32 : Int32) then some (((0 : Int32), o_3, s_t_parted, o_4)) else (if i1 = (33 : Int32) then some (((0 : Int32), o_3, s_t_parted, o_4)) else (if i1 = (34 : Int32) then some (((0 : Int32), o_3, s_t_parted, o_4)) else (if i1 = (35 : Int32) then some (((0 : Int32), o_3, s_t_parted, o_4)) else (if i1 = (36 : Int32) then some (((0 : Int32), o_3, s_t_parted, o_4)) else (if i1 = (37 : Int32) then some (((0 : Int32), o_3, s_t_parted, o_4)) else (if i1 = (38 : Int32) then some (((0 : Int32), o_3, s_t_parted, o_4)) else (if i1 = (39 : Int32) then some (((0 : Int32), o_3, s_t_parted, o_4)) else (if i1 = (40 : Int32) then bd4 (f_X5_body n (10 : Int32) i2 (i3 + (1 : Int32)) o_3 s_t_kind s_t_number s_t_a s_t_parted o_4) (fun (r_70 : Int32) (o_71 : Int32) (o_72 : Int32) (o_73 : (Nat → Int32)) => some ((((0 : Int32) - r_70), o_71, o_72, o_73))) else (if i1 = (41 : Int32) then bd4 (f_X5_body n (20 : Int32) i2 (i3 + (1 : Int32)) o_3 s_t_kind s_t_number s_t_a s_t_parted o_4) (fun (r_76 : Int32) (o_77 : Int32) (o_78 : Int32) (o_79 : (Nat → Int32)) => bd4 (f_X5_own (f_X5_body n) (0 : Int32) s_t_number (i3 + (1 : Int32)) o_77 s_t_kind s_t_number s_t_a o_78 o_79) (fun (r_81 : Int32) (o_82 : Int32) (o_83 : Int32) (o_84 : (Nat → Int32)) => some (((r_76 + r_81), o_82, o_83, o_84)))) else (if i1 = (42 : Int32) then some (((0 : Int32), o_3, s_t_parted, o_4)) else (if i1 = (43 : Int32) then some (((0 : Int32), o_3, s_t_parted, o_4)) else (if i1 = (44 : Int32) then some (((0 : Int32), o_3, s_t_parted, o_4)) else (if i1 = (45 : Int32) then some (((0 : Int32), o_3, s_t_parted, o_4)) else (if i1 = (46 : Int32) then some (((0 : Int32), o_3, s_t_parted, o_4)) else (if i1 = (47 : Int32) then some (((0 : Int32), o_3, s_t_parted, o_4)) else (if i1 = (48 : Int32) then some (((0 : Int32), o_3, s_t_parted, o_4)) else (if i1 = (49 : Int32) then some (((0 : Int32), o_3, s_t_parted, o_4)) else (if i1 = (50 : Int32) then bd4 (f_X5_body n (12 : Int32) (i2 + (2 : Int32)) (i3 + (1 : Int32)) o_3 s_t_kind s_t_number s_t_a s_t_parted o_4) (fun (r_95 : Int32) (o_96 : Int32) (o_97 : Int32) (o_98 : (Nat → Int32)) => some (((r_95 ^^^ (1 : Int32)), o_96, o_97, o_98))) else (if i1 = (51 : Int32) then bd4 (f_X5_body n (10 : Int32) i2 (i3 + (1 : Int32)) o_3 s_t_kind s_t_number s_t_a s_t_parted o_4) (fun (r_101 : Int32) (o_102 : Int32) (o_103 : Int32) (o_104 : (Nat → Int32)) => some (((r_101 - s_t_number), o_102, o_103, o_104))) else (if i1 = (52 : Int32) then some (((0 : Int32), o_3, s_t_parted, o_4)) else (if i1 = (53 : Int32) then some (((0 : Int32), o_3, s_t_parted, o_4)) else (if i1 = (54 : Int32) then some (((0 : Int32), o_3, s_t_parted, o_4)) else (if i1 = (55 : Int32) then some (((0 : Int32), o_3, s_t_parted, o_4)) else (if i1 = (56 : Int32) then some (((0 : Int32), o_3, s_t_parted, o_4)) else (if i1 = (57 : Int32) then some (((0 : Int32), o_3, s_t_parted, o_4)) else (if i1 = (58 : Int32) then some (((0 : Int32), o_3, s_t_parted, o_4)) else (if i1 = (59 : Int32) then some (((0 : Int32), o_3, s_t_parted, o_4)) else (if i1 = (60 : Int32) then bd4 (f_X5_body n (13 : Int32) i2 (i3 + (1 : Int32)) o_3 s_t_kind s_t_number s_t_a s_t_parted o_4) (fun (r_115 : Int32) (o_116 : Int32) (o_117 : Int32) (o_118 : (Nat → Int32)) => some (((r_115 * (2 : Int32)), o_116, o_117, o_118))) else (if i1 = (61 : Int32) then bd4 (f_X5_body n (12 : Int32) i2 (i3 + (1 : Int32)) o_3 s_t_kind s_t_number s_t_a s_t_parted o_4) (fun (r_121 : Int32) (o_122 : Int32) (o_123 : Int32) (o_124 : (Nat → Int32)) => bd4 (f_X5_own (f_X5_body n) (0 : Int32) s_t_a (i3 + (1 : Int32)) o_122 s_t_kind s_t_number s_t_a o_123 o_124) (fun (r_126 : Int32) (o_127 : Int32) (o_128 : Int32) (o_129 : (Nat → Int32)) => some (((r_121 + r_126), o_127, o_128, o_129)))) else some (((0 : Int32), o_3, s_t_parted, o_4))))))))))))))))))))))))))))))))))))))))))))))))))))))) else some (((0 : Int32), s_t_ranCount, s_t_parted, v_t_ran))) else some (((0 : Int32), s_t_ranCount, s_t_parted, v_t_ran)))
set_option maxHeartbeats 400000 in
set_option maxRecDepth 100000 in
theorem c_X5_body (l : Launch) (D : va_G) (cI cB cJ : ClassId) (tO tB : Nat) (adK adV : Nat → Nat) (vf : Value) (hvf : vf = .null ∨ ∃ q, vf = .ref q) : ∀ (n : Nat) (a_t : Nat) (a_t_ran : Nat) (sz : Nat) (s_t_ranCount : Int32) (s_t_kind : Int32) (s_t_number : Int32) (s_t_a : Int32) (s_t_parted : Int32) (v_t_ran : (Nat → Int32)) (i1 : Int32) (i2 : Int32) (i3 : Int32) (r : Int32) (o_s_t_ranCount : Int32) (o_s_t_parted : Int32) (o_v_t_ran : (Nat → Int32)), f_X5_body n i1 i2 i3 s_t_ranCount s_t_kind s_t_number s_t_a s_t_parted v_t_ran = some (r, o_s_t_ranCount, o_s_t_parted, o_v_t_ran) → xMi l yX5_body (.code yX5_body cX5_body 5 (some .int) :: xU) (rmX5_body n) (xKT D cI cB cJ tO tB adK adV vf [(a_t, .inr (5, [.ref a_t_ran, .int s_t_ranCount, .int s_t_kind, .int s_t_number, .int s_t_a, .int s_t_parted])), (a_t_ran, .inl (cI, 30, .inl v_t_ran))]) D sz [.ref a_t, .int i1, .int i2, .int i3] [(a_t, .inr (5, [.ref a_t_ran, .int s_t_ranCount, .int s_t_kind, .int s_t_number, .int s_t_a, .int s_t_parted])), (a_t_ran, .inl (cI, 30, .inl v_t_ran))] [(a_t, .inr (5, [.ref a_t_ran, .int o_s_t_ranCount, .int s_t_kind, .int s_t_number, .int s_t_a, .int o_s_t_parted])), (a_t_ran, .inl (cI, 30, .inl o_v_t_ran))] r := by
  intro n
  induction n with
  | zero => intro a_t a_t_ran sz s_t_ranCount s_t_kind s_t_number s_t_a s_t_parted v_t_ran i1 i2 i3 r o_s_t_ranCount o_s_t_parted o_v_t_ran hF; exact (no_some hF).elim
  | succ n ih =>
    intro a_t a_t_ran sz s_t_ranCount s_t_kind s_t_number s_t_a s_t_parted v_t_ran i1 i2 i3 r o_s_t_ranCount o_s_t_parted o_v_t_ran hF
    refine xMi.mkT (own := "FairNext$Thing") (by decide +kernel) rfl (Nat.le_of_ble_eq_true rfl) ?_
    intro p e s m args below meth c A Q ls H hfix hK hT hP hD hA hS hl hEnd
    obtain ⟨hx, hb, hml, hown, hts⟩ := id hfix
    have hl : lv_has ls 5 [(0, .ref a_t), (1, .int i1), (2, .int i2), (3, .int i3)] := hl
    rw [f_X5_body] at hF
    refine lv_aload_n hx hb dX5_body_0 rfl (lv_at hl 0 rfl) ?_
    refine xget (ci := 5) (C := RX5) (T := TX5) (N := 6) hfix xiX5 hK.1 hP 0 rfl rfl 5 (by decide) rfl xw_147 rfl dX5_body_1 ?_
    refine lv_if_ne (tgt := 13) hx hb dX5_body_4 (by decide) (fun c_1 => ?_) (fun c_1 => ?_)
    · replace hF := if_f c_1 hF
      refine lv_iconst (v := (0 : Int32)) hx hb dX5_body_13 (by decide) ?_
      obtain ⟨rfl, rfl, rfl, rfl⟩ := pj4 hF
      exact hEnd _ _ _ _ _ dX5_body_14 hP hS rfl
    · replace hF := if_t c_1 hF
      refine lv_iload_n hx hb dX5_body_7 rfl (lv_at hl 3 rfl) ?_
      refine lv_bipush (v := (20 : Int32)) hx hb dX5_body_8 (by decide) ?_
      refine lv_icmp_le (tgt := 15) hx hb dX5_body_10 (by decide) (fun c_2 => ?_) (fun c_2 => ?_)
      · replace hF := if_t c_2 hF
        refine lv_aload_n hx hb dX5_body_15 rfl (lv_at hl 0 rfl) ?_
        refine lv_iload_n hx hb dX5_body_16 rfl (lv_at hl 1 rfl) ?_
        obtain ⟨o_3, o_4, hq_5, hF⟩ := bd2_e hF
        refine xrv (xrunV (As := [.int i1]) (rest := []) (c_X5_note l D cI cB cJ a_t a_t_ran _ s_t_ranCount s_t_kind s_t_number s_t_a s_t_parted v_t_ran i1 o_3 o_4 hq_5) hfix xw_658 yv_X5_note ⟨rfl, rfl⟩ ⟨(by simp only [rmX5_own, rmX5_body, rmX5_note, rmX5_part]; omega), (by simp only [rmX5_own, rmX5_body, rmX5_note, rmX5_part]; omega)⟩ xKk_K (fun U hU hW => xK.warm hW hK) hK.1 hP hD [0, 1] rfl rfl 0 5 rfl rfl rfl rfl hl.1 rfl (Nat.le_of_ble_eq_true rfl) dX5_body_17 ⟨Nat.zero_le _, Nat.zero_le _⟩) hP hD hS hA [0, 1] rfl rfl rfl (wn := [(a_t, .inr (5, [.ref a_t_ran, .int o_3, .int s_t_kind, .int s_t_number, .int s_t_a, .int s_t_parted])), (a_t_ran, .inl (cI, 30, .inl o_4))]) rfl (fun H locs hP hD hS => ?_)
        refine lv_iload_n hx hb dX5_body_20 rfl (lv_at hl 3 rfl) ?_
        refine lv_iconst (v := (1 : Int32)) hx hb dX5_body_21 (by decide) ?_
        refine lv_iadd hx hb dX5_body_22 ?_
        refine lv_istore (lv' := [(4, .int (i3 + (1 : Int32))), (0, .ref a_t), (1, .int i1), (2, .int i2), (3, .int i3)]) hx hb dX5_body_23 hl (by decide) rfl (fun ls hl => ?_)
        refine lv_iload_n hx hb dX5_body_25 rfl (lv_at hl 2 rfl) ?_
        by_cases c_6 : i1 = (10 : Int32)
        · replace hF := if_t c_6 hF
          refine lv_tableIn (off := 222) (tgt := 248) hx hb dX5_body_26 (by rw [c_6]; decide) (by rw [c_6]; decide) (by rw [c_6]; decide) (by decide) ?_
          refine lv_iload_n hx hb dX5_body_248 rfl (lv_at hl 3 rfl) ?_
          refine lv_aload_n hx hb dX5_body_249 rfl (lv_at hl 1 rfl) ?_
          refine xget (ci := 5) (C := RX5) (T := TX5) (N := 6) hfix xiX5 hK.1 hP 0 rfl rfl 3 (by decide) rfl xw_145 rfl dX5_body_250 ?_
          refine lv_iadd hx hb dX5_body_253 ?_
          obtain ⟨rfl, rfl, rfl, rfl⟩ := pj4 hF
          exact hEnd _ _ _ _ _ dX5_body_254 hP hS rfl
        · replace hF := if_f c_6 hF
          by_cases c_7 : i1 = (11 : Int32)
          · replace hF := if_t c_7 hF
            refine lv_tableIn (off := 229) (tgt := 255) hx hb dX5_body_26 (by rw [c_7]; decide) (by rw [c_7]; decide) (by rw [c_7]; decide) (by decide) ?_
            refine lv_aload_n hx hb dX5_body_255 rfl (lv_at hl 1 rfl) ?_
            refine lv_iconst (v := (0 : Int32)) hx hb dX5_body_256 (by decide) ?_
            refine lv_iload_n hx hb dX5_body_257 rfl (lv_at hl 3 rfl) ?_
            refine lv_iload hx hb dX5_body_258 (lv_at hl 0 rfl) ?_
            obtain ⟨r_8, o_9, o_10, o_11, hq_12, hF⟩ := bd4_e hF
            refine xri (xrunV (As := [.int (0 : Int32), .int i2, .int (i3 + (1 : Int32))]) (rest := []) (c_X5_own n (f_X5_body n) l D cI cB cJ tO tB adK adV vf hvf ih a_t a_t_ran _ o_3 s_t_kind s_t_number s_t_a s_t_parted o_4 (0 : Int32) i2 (i3 + (1 : Int32)) r_8 o_9 o_10 o_11 hq_12) hfix xw_648 yv_X5_own ⟨rfl, rfl⟩ ⟨(by simp only [rmX5_own, rmX5_body, rmX5_note, rmX5_part]; omega), (by simp only [rmX5_own, rmX5_body, rmX5_note, rmX5_part]; omega)⟩ xKTk (fun U hU hW => xKT.at hK hT hS (va_free hD hS hA [0, 1] rfl) U hU hW) hK.1 hP hD [0, 1] rfl rfl 0 5 rfl rfl rfl rfl hl.1 rfl (Nat.le_of_ble_eq_true rfl) dX5_body_260 ⟨Nat.zero_le _, Nat.zero_le _⟩) hP hD hS hA [0, 1] rfl rfl rfl (wn := [(a_t, .inr (5, [.ref a_t_ran, .int o_9, .int s_t_kind, .int s_t_number, .int s_t_a, .int o_10])), (a_t_ran, .inl (cI, 30, .inl o_11))]) rfl (fun H locs hP hD hS => ?_)
            refine lv_iconst (v := (2 : Int32)) hx hb dX5_body_263 (by decide) ?_
            refine lv_imul hx hb dX5_body_264 ?_
            obtain ⟨rfl, rfl, rfl, rfl⟩ := pj4 hF
            exact hEnd _ _ _ _ _ dX5_body_265 hP hS rfl
          · replace hF := if_f c_7 hF
            by_cases c_13 : i1 = (12 : Int32)
            · replace hF := if_t c_13 hF
              refine lv_tableIn (off := 240) (tgt := 266) hx hb dX5_body_26 (by rw [c_13]; decide) (by rw [c_13]; decide) (by rw [c_13]; decide) (by decide) ?_
              refine lv_aload_n hx hb dX5_body_266 rfl (lv_at hl 1 rfl) ?_
              refine lv_iload_n hx hb dX5_body_267 rfl (lv_at hl 3 rfl) ?_
              obtain ⟨r_14, o_15, hq_16, hF⟩ := bd2_e hF
              refine xri (xrunV (As := [.int i2]) (rest := []) (c_X5_part l D cI cB cJ a_t a_t_ran _ o_3 s_t_kind s_t_number s_t_a s_t_parted i2 r_14 o_15 hq_16) hfix xw_662 yv_X5_part ⟨rfl, rfl⟩ ⟨(by simp only [rmX5_own, rmX5_body, rmX5_note, rmX5_part]; omega), (by simp only [rmX5_own, rmX5_body, rmX5_note, rmX5_part]; omega)⟩ xKk_K (fun U hU hW => xK.warm hW hK) hK.1 hP hD [0] rfl rfl 0 5 rfl rfl rfl rfl hl.1 rfl (Nat.le_of_ble_eq_true rfl) dX5_body_268 ⟨Nat.zero_le _, Nat.zero_le _⟩) hP hD hS hA [0] rfl rfl rfl (wn := [(a_t, .inr (5, [.ref a_t_ran, .int o_3, .int s_t_kind, .int s_t_number, .int s_t_a, .int o_15])), (a_t_ran, .inl (cI, 30, .inl o_4))]) rfl (fun H locs hP hD hS => ?_)
              obtain ⟨rfl, rfl, rfl, rfl⟩ := pj4 hF
              exact hEnd _ _ _ _ _ dX5_body_271 hP hS rfl
            · replace hF := if_f c_13 hF
              by_cases c_17 : i1 = (13 : Int32)
              · replace hF := if_t c_17 hF
                refine lv_tableIn (off := 246) (tgt := 272) hx hb dX5_body_26 (by rw [c_17]; decide) (by rw [c_17]; decide) (by rw [c_17]; decide) (by decide) ?_
                refine lv_aload_n hx hb dX5_body_272 rfl (lv_at hl 1 rfl) ?_
                refine lv_iconst (v := (1 : Int32)) hx hb dX5_body_273 (by decide) ?_
                refine lv_iload_n hx hb dX5_body_274 rfl (lv_at hl 3 rfl) ?_
                refine lv_iload hx hb dX5_body_275 (lv_at hl 0 rfl) ?_
                obtain ⟨r_18, o_19, o_20, o_21, hq_22, hF⟩ := bd4_e hF
                refine xri (xrunV (As := [.int (1 : Int32), .int i2, .int (i3 + (1 : Int32))]) (rest := []) (c_X5_own n (f_X5_body n) l D cI cB cJ tO tB adK adV vf hvf ih a_t a_t_ran _ o_3 s_t_kind s_t_number s_t_a s_t_parted o_4 (1 : Int32) i2 (i3 + (1 : Int32)) r_18 o_19 o_20 o_21 hq_22) hfix xw_648 yv_X5_own ⟨rfl, rfl⟩ ⟨(by simp only [rmX5_own, rmX5_body, rmX5_note, rmX5_part]; omega), (by simp only [rmX5_own, rmX5_body, rmX5_note, rmX5_part]; omega)⟩ xKTk (fun U hU hW => xKT.at hK hT hS (va_free hD hS hA [0, 1] rfl) U hU hW) hK.1 hP hD [0, 1] rfl rfl 0 5 rfl rfl rfl rfl hl.1 rfl (Nat.le_of_ble_eq_true rfl) dX5_body_277 ⟨Nat.zero_le _, Nat.zero_le _⟩) hP hD hS hA [0, 1] rfl rfl rfl (wn := [(a_t, .inr (5, [.ref a_t_ran, .int o_19, .int s_t_kind, .int s_t_number, .int s_t_a, .int o_20])), (a_t_ran, .inl (cI, 30, .inl o_21))]) rfl (fun H locs hP hD hS => ?_)
                refine lv_aload_n hx hb dX5_body_280 rfl (lv_at hl 1 rfl) ?_
                refine xget (ci := 5) (C := RX5) (T := TX5) (N := 6) hfix xiX5 hK.1 hP 0 rfl rfl 4 (by decide) rfl xw_146 rfl dX5_body_281 ?_
                refine lv_ixor hx hb dX5_body_284 ?_
                obtain ⟨rfl, rfl, rfl, rfl⟩ := pj4 hF
                exact hEnd _ _ _ _ _ dX5_body_285 hP hS rfl
              · replace hF := if_f c_17 hF
                by_cases c_23 : i1 = (14 : Int32)
                · replace hF := if_t c_23 hF
                  refine lv_tableIn (off := 406) (tgt := 432) hx hb dX5_body_26 (by rw [c_23]; decide) (by rw [c_23]; decide) (by rw [c_23]; decide) (by decide) ?_
                  refine lv_iconst (v := (0 : Int32)) hx hb dX5_body_432 (by decide) ?_
                  obtain ⟨rfl, rfl, rfl, rfl⟩ := pj4 hF
                  exact hEnd _ _ _ _ _ dX5_body_433 hP hS rfl
                · replace hF := if_f c_23 hF
                  by_cases c_24 : i1 = (15 : Int32)
                  · replace hF := if_t c_24 hF
                    refine lv_tableIn (off := 406) (tgt := 432) hx hb dX5_body_26 (by rw [c_24]; decide) (by rw [c_24]; decide) (by rw [c_24]; decide) (by decide) ?_
                    refine lv_iconst (v := (0 : Int32)) hx hb dX5_body_432 (by decide) ?_
                    obtain ⟨rfl, rfl, rfl, rfl⟩ := pj4 hF
                    exact hEnd _ _ _ _ _ dX5_body_433 hP hS rfl
                  · replace hF := if_f c_24 hF
                    by_cases c_25 : i1 = (16 : Int32)
                    · replace hF := if_t c_25 hF
                      refine lv_tableIn (off := 406) (tgt := 432) hx hb dX5_body_26 (by rw [c_25]; decide) (by rw [c_25]; decide) (by rw [c_25]; decide) (by decide) ?_
                      refine lv_iconst (v := (0 : Int32)) hx hb dX5_body_432 (by decide) ?_
                      obtain ⟨rfl, rfl, rfl, rfl⟩ := pj4 hF
                      exact hEnd _ _ _ _ _ dX5_body_433 hP hS rfl
                    · replace hF := if_f c_25 hF
                      by_cases c_26 : i1 = (17 : Int32)
                      · replace hF := if_t c_26 hF
                        refine lv_tableIn (off := 406) (tgt := 432) hx hb dX5_body_26 (by rw [c_26]; decide) (by rw [c_26]; decide) (by rw [c_26]; decide) (by decide) ?_
                        refine lv_iconst (v := (0 : Int32)) hx hb dX5_body_432 (by decide) ?_
                        obtain ⟨rfl, rfl, rfl, rfl⟩ := pj4 hF
                        exact hEnd _ _ _ _ _ dX5_body_433 hP hS rfl
                      · replace hF := if_f c_26 hF
                        by_cases c_27 : i1 = (18 : Int32)
                        · replace hF := if_t c_27 hF
                          refine lv_tableIn (off := 406) (tgt := 432) hx hb dX5_body_26 (by rw [c_27]; decide) (by rw [c_27]; decide) (by rw [c_27]; decide) (by decide) ?_
                          refine lv_iconst (v := (0 : Int32)) hx hb dX5_body_432 (by decide) ?_
                          obtain ⟨rfl, rfl, rfl, rfl⟩ := pj4 hF
                          exact hEnd _ _ _ _ _ dX5_body_433 hP hS rfl
                        · replace hF := if_f c_27 hF
                          by_cases c_28 : i1 = (19 : Int32)
                          · replace hF := if_t c_28 hF
                            refine lv_tableIn (off := 406) (tgt := 432) hx hb dX5_body_26 (by rw [c_28]; decide) (by rw [c_28]; decide) (by rw [c_28]; decide) (by decide) ?_
                            refine lv_iconst (v := (0 : Int32)) hx hb dX5_body_432 (by decide) ?_
                            obtain ⟨rfl, rfl, rfl, rfl⟩ := pj4 hF
                            exact hEnd _ _ _ _ _ dX5_body_433 hP hS rfl
                          · replace hF := if_f c_28 hF
                            by_cases c_29 : i1 = (20 : Int32)
                            · replace hF := if_t c_29 hF
                              refine lv_tableIn (off := 260) (tgt := 286) hx hb dX5_body_26 (by rw [c_29]; decide) (by rw [c_29]; decide) (by rw [c_29]; decide) (by decide) ?_
                              refine lv_aload_n hx hb dX5_body_286 rfl (lv_at hl 1 rfl) ?_
                              refine lv_bipush (v := (11 : Int32)) hx hb dX5_body_287 (by decide) ?_
                              refine lv_iload_n hx hb dX5_body_289 rfl (lv_at hl 3 rfl) ?_
                              refine lv_iload hx hb dX5_body_290 (lv_at hl 0 rfl) ?_
                              obtain ⟨r_30, o_31, o_32, o_33, hq_34, hF⟩ := bd4_e hF
                              refine xri (xrunV (As := [.int (11 : Int32), .int i2, .int (i3 + (1 : Int32))]) (rest := []) (ih a_t a_t_ran _ o_3 s_t_kind s_t_number s_t_a s_t_parted o_4 (11 : Int32) i2 (i3 + (1 : Int32)) r_30 o_31 o_32 o_33 hq_34) hfix xw_654 yv_X5_body ⟨rfl, rfl⟩ ⟨(by simp only [rmX5_own, rmX5_body, rmX5_note, rmX5_part]; omega), (by simp only [rmX5_own, rmX5_body, rmX5_note, rmX5_part]; omega)⟩ xKTk (fun U hU hW => xKT.at hK hT hS (va_free hD hS hA [0, 1] rfl) U hU hW) hK.1 hP hD [0, 1] rfl rfl 0 5 rfl rfl rfl rfl hl.1 rfl (Nat.le_of_ble_eq_true rfl) dX5_body_292 ⟨Nat.zero_le _, Nat.zero_le _⟩) hP hD hS hA [0, 1] rfl rfl rfl (wn := [(a_t, .inr (5, [.ref a_t_ran, .int o_31, .int s_t_kind, .int s_t_number, .int s_t_a, .int o_32])), (a_t_ran, .inl (cI, 30, .inl o_33))]) rfl (fun H locs hP hD hS => ?_)
                              refine lv_aload_n hx hb dX5_body_295 rfl (lv_at hl 1 rfl) ?_
                              refine xget (ci := 5) (C := RX5) (T := TX5) (N := 6) hfix xiX5 hK.1 hP 0 rfl rfl 4 (by decide) rfl xw_146 rfl dX5_body_296 ?_
                              refine lv_isub hx hb dX5_body_299 ?_
                              obtain ⟨rfl, rfl, rfl, rfl⟩ := pj4 hF
                              exact hEnd _ _ _ _ _ dX5_body_300 hP hS rfl
                            · replace hF := if_f c_29 hF
                              by_cases c_35 : i1 = (21 : Int32)
                              · replace hF := if_t c_35 hF
                                refine lv_tableIn (off := 406) (tgt := 432) hx hb dX5_body_26 (by rw [c_35]; decide) (by rw [c_35]; decide) (by rw [c_35]; decide) (by decide) ?_
                                refine lv_iconst (v := (0 : Int32)) hx hb dX5_body_432 (by decide) ?_
                                obtain ⟨rfl, rfl, rfl, rfl⟩ := pj4 hF
                                exact hEnd _ _ _ _ _ dX5_body_433 hP hS rfl
                              · replace hF := if_f c_35 hF
                                by_cases c_36 : i1 = (22 : Int32)
                                · replace hF := if_t c_36 hF
                                  refine lv_tableIn (off := 406) (tgt := 432) hx hb dX5_body_26 (by rw [c_36]; decide) (by rw [c_36]; decide) (by rw [c_36]; decide) (by decide) ?_
                                  refine lv_iconst (v := (0 : Int32)) hx hb dX5_body_432 (by decide) ?_
                                  obtain ⟨rfl, rfl, rfl, rfl⟩ := pj4 hF
                                  exact hEnd _ _ _ _ _ dX5_body_433 hP hS rfl
                                · replace hF := if_f c_36 hF
                                  by_cases c_37 : i1 = (23 : Int32)
                                  · replace hF := if_t c_37 hF
                                    refine lv_tableIn (off := 406) (tgt := 432) hx hb dX5_body_26 (by rw [c_37]; decide) (by rw [c_37]; decide) (by rw [c_37]; decide) (by decide) ?_
                                    refine lv_iconst (v := (0 : Int32)) hx hb dX5_body_432 (by decide) ?_
                                    obtain ⟨rfl, rfl, rfl, rfl⟩ := pj4 hF
                                    exact hEnd _ _ _ _ _ dX5_body_433 hP hS rfl
                                  · replace hF := if_f c_37 hF
                                    by_cases c_38 : i1 = (24 : Int32)
                                    · replace hF := if_t c_38 hF
                                      refine lv_tableIn (off := 406) (tgt := 432) hx hb dX5_body_26 (by rw [c_38]; decide) (by rw [c_38]; decide) (by rw [c_38]; decide) (by decide) ?_
                                      refine lv_iconst (v := (0 : Int32)) hx hb dX5_body_432 (by decide) ?_
                                      obtain ⟨rfl, rfl, rfl, rfl⟩ := pj4 hF
                                      exact hEnd _ _ _ _ _ dX5_body_433 hP hS rfl
                                    · replace hF := if_f c_38 hF
                                      by_cases c_39 : i1 = (25 : Int32)
                                      · replace hF := if_t c_39 hF
                                        refine lv_tableIn (off := 406) (tgt := 432) hx hb dX5_body_26 (by rw [c_39]; decide) (by rw [c_39]; decide) (by rw [c_39]; decide) (by decide) ?_
                                        refine lv_iconst (v := (0 : Int32)) hx hb dX5_body_432 (by decide) ?_
                                        obtain ⟨rfl, rfl, rfl, rfl⟩ := pj4 hF
                                        exact hEnd _ _ _ _ _ dX5_body_433 hP hS rfl
                                      · replace hF := if_f c_39 hF
                                        by_cases c_40 : i1 = (26 : Int32)
                                        · replace hF := if_t c_40 hF
                                          refine lv_tableIn (off := 406) (tgt := 432) hx hb dX5_body_26 (by rw [c_40]; decide) (by rw [c_40]; decide) (by rw [c_40]; decide) (by decide) ?_
                                          refine lv_iconst (v := (0 : Int32)) hx hb dX5_body_432 (by decide) ?_
                                          obtain ⟨rfl, rfl, rfl, rfl⟩ := pj4 hF
                                          exact hEnd _ _ _ _ _ dX5_body_433 hP hS rfl
                                        · replace hF := if_f c_40 hF
                                          by_cases c_41 : i1 = (27 : Int32)
                                          · replace hF := if_t c_41 hF
                                            refine lv_tableIn (off := 406) (tgt := 432) hx hb dX5_body_26 (by rw [c_41]; decide) (by rw [c_41]; decide) (by rw [c_41]; decide) (by decide) ?_
                                            refine lv_iconst (v := (0 : Int32)) hx hb dX5_body_432 (by decide) ?_
                                            obtain ⟨rfl, rfl, rfl, rfl⟩ := pj4 hF
                                            exact hEnd _ _ _ _ _ dX5_body_433 hP hS rfl
                                          · replace hF := if_f c_41 hF
                                            by_cases c_42 : i1 = (28 : Int32)
                                            · replace hF := if_t c_42 hF
                                              refine lv_tableIn (off := 406) (tgt := 432) hx hb dX5_body_26 (by rw [c_42]; decide) (by rw [c_42]; decide) (by rw [c_42]; decide) (by decide) ?_
                                              refine lv_iconst (v := (0 : Int32)) hx hb dX5_body_432 (by decide) ?_
                                              obtain ⟨rfl, rfl, rfl, rfl⟩ := pj4 hF
                                              exact hEnd _ _ _ _ _ dX5_body_433 hP hS rfl
                                            · replace hF := if_f c_42 hF
                                              by_cases c_43 : i1 = (29 : Int32)
                                              · replace hF := if_t c_43 hF
                                                refine lv_tableIn (off := 406) (tgt := 432) hx hb dX5_body_26 (by rw [c_43]; decide) (by rw [c_43]; decide) (by rw [c_43]; decide) (by decide) ?_
                                                refine lv_iconst (v := (0 : Int32)) hx hb dX5_body_432 (by decide) ?_
                                                obtain ⟨rfl, rfl, rfl, rfl⟩ := pj4 hF
                                                exact hEnd _ _ _ _ _ dX5_body_433 hP hS rfl
                                              · replace hF := if_f c_43 hF
                                                by_cases c_44 : i1 = (30 : Int32)
                                                · replace hF := if_t c_44 hF
                                                  refine lv_tableIn (off := 275) (tgt := 301) hx hb dX5_body_26 (by rw [c_44]; decide) (by rw [c_44]; decide) (by rw [c_44]; decide) (by decide) ?_
                                                  refine lv_aload_n hx hb dX5_body_301 rfl (lv_at hl 1 rfl) ?_
                                                  refine lv_bipush (v := (10 : Int32)) hx hb dX5_body_302 (by decide) ?_
                                                  refine lv_iload_n hx hb dX5_body_304 rfl (lv_at hl 3 rfl) ?_
                                                  refine lv_iload hx hb dX5_body_305 (lv_at hl 0 rfl) ?_
                                                  obtain ⟨r_45, o_46, o_47, o_48, hq_49, hF⟩ := bd4_e hF
                                                  refine xri (xrunV (As := [.int (10 : Int32), .int i2, .int (i3 + (1 : Int32))]) (rest := []) (ih a_t a_t_ran _ o_3 s_t_kind s_t_number s_t_a s_t_parted o_4 (10 : Int32) i2 (i3 + (1 : Int32)) r_45 o_46 o_47 o_48 hq_49) hfix xw_654 yv_X5_body ⟨rfl, rfl⟩ ⟨(by simp only [rmX5_own, rmX5_body, rmX5_note, rmX5_part]; omega), (by simp only [rmX5_own, rmX5_body, rmX5_note, rmX5_part]; omega)⟩ xKTk (fun U hU hW => xKT.at hK hT hS (va_free hD hS hA [0, 1] rfl) U hU hW) hK.1 hP hD [0, 1] rfl rfl 0 5 rfl rfl rfl rfl hl.1 rfl (Nat.le_of_ble_eq_true rfl) dX5_body_307 ⟨Nat.zero_le _, Nat.zero_le _⟩) hP hD hS hA [0, 1] rfl rfl rfl (wn := [(a_t, .inr (5, [.ref a_t_ran, .int o_46, .int s_t_kind, .int s_t_number, .int s_t_a, .int o_47])), (a_t_ran, .inl (cI, 30, .inl o_48))]) rfl (fun H locs hP hD hS => ?_)
                                                  refine lv_iconst (v := (3 : Int32)) hx hb dX5_body_310 (by decide) ?_
                                                  refine lv_imul hx hb dX5_body_311 ?_
                                                  obtain ⟨rfl, rfl, rfl, rfl⟩ := pj4 hF
                                                  exact hEnd _ _ _ _ _ dX5_body_312 hP hS rfl
                                                · replace hF := if_f c_44 hF
                                                  by_cases c_50 : i1 = (31 : Int32)
                                                  · replace hF := if_t c_50 hF
                                                    refine lv_tableIn (off := 287) (tgt := 313) hx hb dX5_body_26 (by rw [c_50]; decide) (by rw [c_50]; decide) (by rw [c_50]; decide) (by decide) ?_
                                                    refine lv_aload_n hx hb dX5_body_313 rfl (lv_at hl 1 rfl) ?_
                                                    refine lv_bipush (v := (13 : Int32)) hx hb dX5_body_314 (by decide) ?_
                                                    refine lv_iload_n hx hb dX5_body_316 rfl (lv_at hl 3 rfl) ?_
                                                    refine lv_iload hx hb dX5_body_317 (lv_at hl 0 rfl) ?_
                                                    obtain ⟨r_51, o_52, o_53, o_54, hq_55, hF⟩ := bd4_e hF
                                                    refine xri (xrunV (As := [.int (13 : Int32), .int i2, .int (i3 + (1 : Int32))]) (rest := []) (ih a_t a_t_ran _ o_3 s_t_kind s_t_number s_t_a s_t_parted o_4 (13 : Int32) i2 (i3 + (1 : Int32)) r_51 o_52 o_53 o_54 hq_55) hfix xw_654 yv_X5_body ⟨rfl, rfl⟩ ⟨(by simp only [rmX5_own, rmX5_body, rmX5_note, rmX5_part]; omega), (by simp only [rmX5_own, rmX5_body, rmX5_note, rmX5_part]; omega)⟩ xKTk (fun U hU hW => xKT.at hK hT hS (va_free hD hS hA [0, 1] rfl) U hU hW) hK.1 hP hD [0, 1] rfl rfl 0 5 rfl rfl rfl rfl hl.1 rfl (Nat.le_of_ble_eq_true rfl) dX5_body_319 ⟨Nat.zero_le _, Nat.zero_le _⟩) hP hD hS hA [0, 1] rfl rfl rfl (wn := [(a_t, .inr (5, [.ref a_t_ran, .int o_52, .int s_t_kind, .int s_t_number, .int s_t_a, .int o_53])), (a_t_ran, .inl (cI, 30, .inl o_54))]) rfl (fun H locs hP hD hS => ?_)
                                                    refine lv_aload_n hx hb dX5_body_322 rfl (lv_at hl 1 rfl) ?_
                                                    refine lv_iconst (v := (2 : Int32)) hx hb dX5_body_323 (by decide) ?_
                                                    refine lv_aload_n hx hb dX5_body_324 rfl (lv_at hl 1 rfl) ?_
                                                    refine xget (ci := 5) (C := RX5) (T := TX5) (N := 6) hfix xiX5 hK.1 hP 0 rfl rfl 3 (by decide) rfl xw_145 rfl dX5_body_325 ?_
                                                    refine lv_iload hx hb dX5_body_328 (lv_at hl 0 rfl) ?_
                                                    obtain ⟨r_56, o_57, o_58, o_59, hq_60, hF⟩ := bd4_e hF
                                                    refine xri (xrunV (As := [.int (2 : Int32), .int s_t_number, .int (i3 + (1 : Int32))]) (rest := [.int r_51]) (c_X5_own n (f_X5_body n) l D cI cB cJ tO tB adK adV vf hvf ih a_t a_t_ran _ o_52 s_t_kind s_t_number s_t_a o_53 o_54 (2 : Int32) s_t_number (i3 + (1 : Int32)) r_56 o_57 o_58 o_59 hq_60) hfix xw_648 yv_X5_own ⟨rfl, rfl⟩ ⟨(by simp only [rmX5_own, rmX5_body, rmX5_note, rmX5_part]; omega), (by simp only [rmX5_own, rmX5_body, rmX5_note, rmX5_part]; omega)⟩ xKTk (fun U hU hW => xKT.at hK hT hS (va_free hD hS hA [0, 1] rfl) U hU hW) hK.1 hP hD [0, 1] rfl rfl 0 5 rfl rfl rfl rfl hl.1 rfl (Nat.le_of_ble_eq_true rfl) dX5_body_330 ⟨Nat.zero_le _, Nat.zero_le _⟩) hP hD hS hA [0, 1] rfl rfl rfl (wn := [(a_t, .inr (5, [.ref a_t_ran, .int o_57, .int s_t_kind, .int s_t_number, .int s_t_a, .int o_58])), (a_t_ran, .inl (cI, 30, .inl o_59))]) rfl (fun H locs hP hD hS => ?_)
                                                    refine lv_iadd hx hb dX5_body_333 ?_
                                                    obtain ⟨rfl, rfl, rfl, rfl⟩ := pj4 hF
                                                    exact hEnd _ _ _ _ _ dX5_body_334 hP hS rfl
                                                  · replace hF := if_f c_50 hF
                                                    by_cases c_61 : i1 = (32 : Int32)
                                                    · replace hF := if_t c_61 hF
                                                      refine lv_tableIn (off := 406) (tgt := 432) hx hb dX5_body_26 (by rw [c_61]; decide) (by rw [c_61]; decide) (by rw [c_61]; decide) (by decide) ?_
                                                      refine lv_iconst (v := (0 : Int32)) hx hb dX5_body_432 (by decide) ?_
                                                      obtain ⟨rfl, rfl, rfl, rfl⟩ := pj4 hF
                                                      exact hEnd _ _ _ _ _ dX5_body_433 hP hS rfl
                                                    · replace hF := if_f c_61 hF
                                                      by_cases c_62 : i1 = (33 : Int32)
                                                      · replace hF := if_t c_62 hF
                                                        refine lv_tableIn (off := 406) (tgt := 432) hx hb dX5_body_26 (by rw [c_62]; decide) (by rw [c_62]; decide) (by rw [c_62]; decide) (by decide) ?_
                                                        refine lv_iconst (v := (0 : Int32)) hx hb dX5_body_432 (by decide) ?_
                                                        obtain ⟨rfl, rfl, rfl, rfl⟩ := pj4 hF
                                                        exact hEnd _ _ _ _ _ dX5_body_433 hP hS rfl
                                                      · replace hF := if_f c_62 hF
                                                        by_cases c_63 : i1 = (34 : Int32)
                                                        · replace hF := if_t c_63 hF
                                                          refine lv_tableIn (off := 406) (tgt := 432) hx hb dX5_body_26 (by rw [c_63]; decide) (by rw [c_63]; decide) (by rw [c_63]; decide) (by decide) ?_
                                                          refine lv_iconst (v := (0 : Int32)) hx hb dX5_body_432 (by decide) ?_
                                                          obtain ⟨rfl, rfl, rfl, rfl⟩ := pj4 hF
                                                          exact hEnd _ _ _ _ _ dX5_body_433 hP hS rfl
                                                        · replace hF := if_f c_63 hF
                                                          by_cases c_64 : i1 = (35 : Int32)
                                                          · replace hF := if_t c_64 hF
                                                            refine lv_tableIn (off := 406) (tgt := 432) hx hb dX5_body_26 (by rw [c_64]; decide) (by rw [c_64]; decide) (by rw [c_64]; decide) (by decide) ?_
                                                            refine lv_iconst (v := (0 : Int32)) hx hb dX5_body_432 (by decide) ?_
                                                            obtain ⟨rfl, rfl, rfl, rfl⟩ := pj4 hF
                                                            exact hEnd _ _ _ _ _ dX5_body_433 hP hS rfl
                                                          · replace hF := if_f c_64 hF
                                                            by_cases c_65 : i1 = (36 : Int32)
                                                            · replace hF := if_t c_65 hF
                                                              refine lv_tableIn (off := 406) (tgt := 432) hx hb dX5_body_26 (by rw [c_65]; decide) (by rw [c_65]; decide) (by rw [c_65]; decide) (by decide) ?_
                                                              refine lv_iconst (v := (0 : Int32)) hx hb dX5_body_432 (by decide) ?_
                                                              obtain ⟨rfl, rfl, rfl, rfl⟩ := pj4 hF
                                                              exact hEnd _ _ _ _ _ dX5_body_433 hP hS rfl
                                                            · replace hF := if_f c_65 hF
                                                              by_cases c_66 : i1 = (37 : Int32)
                                                              · replace hF := if_t c_66 hF
                                                                refine lv_tableIn (off := 406) (tgt := 432) hx hb dX5_body_26 (by rw [c_66]; decide) (by rw [c_66]; decide) (by rw [c_66]; decide) (by decide) ?_
                                                                refine lv_iconst (v := (0 : Int32)) hx hb dX5_body_432 (by decide) ?_
                                                                obtain ⟨rfl, rfl, rfl, rfl⟩ := pj4 hF
                                                                exact hEnd _ _ _ _ _ dX5_body_433 hP hS rfl
                                                              · replace hF := if_f c_66 hF
                                                                by_cases c_67 : i1 = (38 : Int32)
                                                                · replace hF := if_t c_67 hF
                                                                  refine lv_tableIn (off := 406) (tgt := 432) hx hb dX5_body_26 (by rw [c_67]; decide) (by rw [c_67]; decide) (by rw [c_67]; decide) (by decide) ?_
                                                                  refine lv_iconst (v := (0 : Int32)) hx hb dX5_body_432 (by decide) ?_
                                                                  obtain ⟨rfl, rfl, rfl, rfl⟩ := pj4 hF
                                                                  exact hEnd _ _ _ _ _ dX5_body_433 hP hS rfl
                                                                · replace hF := if_f c_67 hF
                                                                  by_cases c_68 : i1 = (39 : Int32)
                                                                  · replace hF := if_t c_68 hF
                                                                    refine lv_tableIn (off := 406) (tgt := 432) hx hb dX5_body_26 (by rw [c_68]; decide) (by rw [c_68]; decide) (by rw [c_68]; decide) (by decide) ?_
                                                                    refine lv_iconst (v := (0 : Int32)) hx hb dX5_body_432 (by decide) ?_
                                                                    obtain ⟨rfl, rfl, rfl, rfl⟩ := pj4 hF
                                                                    exact hEnd _ _ _ _ _ dX5_body_433 hP hS rfl
                                                                  · replace hF := if_f c_68 hF
                                                                    by_cases c_69 : i1 = (40 : Int32)
                                                                    · replace hF := if_t c_69 hF
                                                                      refine lv_tableIn (off := 309) (tgt := 335) hx hb dX5_body_26 (by rw [c_69]; decide) (by rw [c_69]; decide) (by rw [c_69]; decide) (by decide) ?_
                                                                      refine lv_iconst (v := (0 : Int32)) hx hb dX5_body_335 (by decide) ?_
                                                                      refine lv_aload_n hx hb dX5_body_336 rfl (lv_at hl 1 rfl) ?_
                                                                      refine lv_bipush (v := (10 : Int32)) hx hb dX5_body_337 (by decide) ?_
                                                                      refine lv_iload_n hx hb dX5_body_339 rfl (lv_at hl 3 rfl) ?_
                                                                      refine lv_iload hx hb dX5_body_340 (lv_at hl 0 rfl) ?_
                                                                      obtain ⟨r_70, o_71, o_72, o_73, hq_74, hF⟩ := bd4_e hF
                                                                      refine xri (xrunV (As := [.int (10 : Int32), .int i2, .int (i3 + (1 : Int32))]) (rest := [.int (0 : Int32)]) (ih a_t a_t_ran _ o_3 s_t_kind s_t_number s_t_a s_t_parted o_4 (10 : Int32) i2 (i3 + (1 : Int32)) r_70 o_71 o_72 o_73 hq_74) hfix xw_654 yv_X5_body ⟨rfl, rfl⟩ ⟨(by simp only [rmX5_own, rmX5_body, rmX5_note, rmX5_part]; omega), (by simp only [rmX5_own, rmX5_body, rmX5_note, rmX5_part]; omega)⟩ xKTk (fun U hU hW => xKT.at hK hT hS (va_free hD hS hA [0, 1] rfl) U hU hW) hK.1 hP hD [0, 1] rfl rfl 0 5 rfl rfl rfl rfl hl.1 rfl (Nat.le_of_ble_eq_true rfl) dX5_body_342 ⟨Nat.zero_le _, Nat.zero_le _⟩) hP hD hS hA [0, 1] rfl rfl rfl (wn := [(a_t, .inr (5, [.ref a_t_ran, .int o_71, .int s_t_kind, .int s_t_number, .int s_t_a, .int o_72])), (a_t_ran, .inl (cI, 30, .inl o_73))]) rfl (fun H locs hP hD hS => ?_)
                                                                      refine lv_isub hx hb dX5_body_345 ?_
                                                                      obtain ⟨rfl, rfl, rfl, rfl⟩ := pj4 hF
                                                                      exact hEnd _ _ _ _ _ dX5_body_346 hP hS rfl
                                                                    · replace hF := if_f c_69 hF
                                                                      by_cases c_75 : i1 = (41 : Int32)
                                                                      · replace hF := if_t c_75 hF
                                                                        refine lv_tableIn (off := 321) (tgt := 347) hx hb dX5_body_26 (by rw [c_75]; decide) (by rw [c_75]; decide) (by rw [c_75]; decide) (by decide) ?_
                                                                        refine lv_aload_n hx hb dX5_body_347 rfl (lv_at hl 1 rfl) ?_
                                                                        refine lv_bipush (v := (20 : Int32)) hx hb dX5_body_348 (by decide) ?_
                                                                        refine lv_iload_n hx hb dX5_body_350 rfl (lv_at hl 3 rfl) ?_
                                                                        refine lv_iload hx hb dX5_body_351 (lv_at hl 0 rfl) ?_
                                                                        obtain ⟨r_76, o_77, o_78, o_79, hq_80, hF⟩ := bd4_e hF
                                                                        refine xri (xrunV (As := [.int (20 : Int32), .int i2, .int (i3 + (1 : Int32))]) (rest := []) (ih a_t a_t_ran _ o_3 s_t_kind s_t_number s_t_a s_t_parted o_4 (20 : Int32) i2 (i3 + (1 : Int32)) r_76 o_77 o_78 o_79 hq_80) hfix xw_654 yv_X5_body ⟨rfl, rfl⟩ ⟨(by simp only [rmX5_own, rmX5_body, rmX5_note, rmX5_part]; omega), (by simp only [rmX5_own, rmX5_body, rmX5_note, rmX5_part]; omega)⟩ xKTk (fun U hU hW => xKT.at hK hT hS (va_free hD hS hA [0, 1] rfl) U hU hW) hK.1 hP hD [0, 1] rfl rfl 0 5 rfl rfl rfl rfl hl.1 rfl (Nat.le_of_ble_eq_true rfl) dX5_body_353 ⟨Nat.zero_le _, Nat.zero_le _⟩) hP hD hS hA [0, 1] rfl rfl rfl (wn := [(a_t, .inr (5, [.ref a_t_ran, .int o_77, .int s_t_kind, .int s_t_number, .int s_t_a, .int o_78])), (a_t_ran, .inl (cI, 30, .inl o_79))]) rfl (fun H locs hP hD hS => ?_)
                                                                        refine lv_aload_n hx hb dX5_body_356 rfl (lv_at hl 1 rfl) ?_
                                                                        refine lv_iconst (v := (0 : Int32)) hx hb dX5_body_357 (by decide) ?_
                                                                        refine lv_aload_n hx hb dX5_body_358 rfl (lv_at hl 1 rfl) ?_
                                                                        refine xget (ci := 5) (C := RX5) (T := TX5) (N := 6) hfix xiX5 hK.1 hP 0 rfl rfl 3 (by decide) rfl xw_145 rfl dX5_body_359 ?_
                                                                        refine lv_iload hx hb dX5_body_362 (lv_at hl 0 rfl) ?_
                                                                        obtain ⟨r_81, o_82, o_83, o_84, hq_85, hF⟩ := bd4_e hF
                                                                        refine xri (xrunV (As := [.int (0 : Int32), .int s_t_number, .int (i3 + (1 : Int32))]) (rest := [.int r_76]) (c_X5_own n (f_X5_body n) l D cI cB cJ tO tB adK adV vf hvf ih a_t a_t_ran _ o_77 s_t_kind s_t_number s_t_a o_78 o_79 (0 : Int32) s_t_number (i3 + (1 : Int32)) r_81 o_82 o_83 o_84 hq_85) hfix xw_648 yv_X5_own ⟨rfl, rfl⟩ ⟨(by simp only [rmX5_own, rmX5_body, rmX5_note, rmX5_part]; omega), (by simp only [rmX5_own, rmX5_body, rmX5_note, rmX5_part]; omega)⟩ xKTk (fun U hU hW => xKT.at hK hT hS (va_free hD hS hA [0, 1] rfl) U hU hW) hK.1 hP hD [0, 1] rfl rfl 0 5 rfl rfl rfl rfl hl.1 rfl (Nat.le_of_ble_eq_true rfl) dX5_body_364 ⟨Nat.zero_le _, Nat.zero_le _⟩) hP hD hS hA [0, 1] rfl rfl rfl (wn := [(a_t, .inr (5, [.ref a_t_ran, .int o_82, .int s_t_kind, .int s_t_number, .int s_t_a, .int o_83])), (a_t_ran, .inl (cI, 30, .inl o_84))]) rfl (fun H locs hP hD hS => ?_)
                                                                        refine lv_iadd hx hb dX5_body_367 ?_
                                                                        obtain ⟨rfl, rfl, rfl, rfl⟩ := pj4 hF
                                                                        exact hEnd _ _ _ _ _ dX5_body_368 hP hS rfl
                                                                      · replace hF := if_f c_75 hF
                                                                        by_cases c_86 : i1 = (42 : Int32)
                                                                        · replace hF := if_t c_86 hF
                                                                          refine lv_tableIn (off := 406) (tgt := 432) hx hb dX5_body_26 (by rw [c_86]; decide) (by rw [c_86]; decide) (by rw [c_86]; decide) (by decide) ?_
                                                                          refine lv_iconst (v := (0 : Int32)) hx hb dX5_body_432 (by decide) ?_
                                                                          obtain ⟨rfl, rfl, rfl, rfl⟩ := pj4 hF
                                                                          exact hEnd _ _ _ _ _ dX5_body_433 hP hS rfl
                                                                        · replace hF := if_f c_86 hF
                                                                          by_cases c_87 : i1 = (43 : Int32)
                                                                          · replace hF := if_t c_87 hF
                                                                            refine lv_tableIn (off := 406) (tgt := 432) hx hb dX5_body_26 (by rw [c_87]; decide) (by rw [c_87]; decide) (by rw [c_87]; decide) (by decide) ?_
                                                                            refine lv_iconst (v := (0 : Int32)) hx hb dX5_body_432 (by decide) ?_
                                                                            obtain ⟨rfl, rfl, rfl, rfl⟩ := pj4 hF
                                                                            exact hEnd _ _ _ _ _ dX5_body_433 hP hS rfl
                                                                          · replace hF := if_f c_87 hF
                                                                            by_cases c_88 : i1 = (44 : Int32)
                                                                            · replace hF := if_t c_88 hF
                                                                              refine lv_tableIn (off := 406) (tgt := 432) hx hb dX5_body_26 (by rw [c_88]; decide) (by rw [c_88]; decide) (by rw [c_88]; decide) (by decide) ?_
                                                                              refine lv_iconst (v := (0 : Int32)) hx hb dX5_body_432 (by decide) ?_
                                                                              obtain ⟨rfl, rfl, rfl, rfl⟩ := pj4 hF
                                                                              exact hEnd _ _ _ _ _ dX5_body_433 hP hS rfl
                                                                            · replace hF := if_f c_88 hF
                                                                              by_cases c_89 : i1 = (45 : Int32)
                                                                              · replace hF := if_t c_89 hF
                                                                                refine lv_tableIn (off := 406) (tgt := 432) hx hb dX5_body_26 (by rw [c_89]; decide) (by rw [c_89]; decide) (by rw [c_89]; decide) (by decide) ?_
                                                                                refine lv_iconst (v := (0 : Int32)) hx hb dX5_body_432 (by decide) ?_
                                                                                obtain ⟨rfl, rfl, rfl, rfl⟩ := pj4 hF
                                                                                exact hEnd _ _ _ _ _ dX5_body_433 hP hS rfl
                                                                              · replace hF := if_f c_89 hF
                                                                                by_cases c_90 : i1 = (46 : Int32)
                                                                                · replace hF := if_t c_90 hF
                                                                                  refine lv_tableIn (off := 406) (tgt := 432) hx hb dX5_body_26 (by rw [c_90]; decide) (by rw [c_90]; decide) (by rw [c_90]; decide) (by decide) ?_
                                                                                  refine lv_iconst (v := (0 : Int32)) hx hb dX5_body_432 (by decide) ?_
                                                                                  obtain ⟨rfl, rfl, rfl, rfl⟩ := pj4 hF
                                                                                  exact hEnd _ _ _ _ _ dX5_body_433 hP hS rfl
                                                                                · replace hF := if_f c_90 hF
                                                                                  by_cases c_91 : i1 = (47 : Int32)
                                                                                  · replace hF := if_t c_91 hF
                                                                                    refine lv_tableIn (off := 406) (tgt := 432) hx hb dX5_body_26 (by rw [c_91]; decide) (by rw [c_91]; decide) (by rw [c_91]; decide) (by decide) ?_
                                                                                    refine lv_iconst (v := (0 : Int32)) hx hb dX5_body_432 (by decide) ?_
                                                                                    obtain ⟨rfl, rfl, rfl, rfl⟩ := pj4 hF
                                                                                    exact hEnd _ _ _ _ _ dX5_body_433 hP hS rfl
                                                                                  · replace hF := if_f c_91 hF
                                                                                    by_cases c_92 : i1 = (48 : Int32)
                                                                                    · replace hF := if_t c_92 hF
                                                                                      refine lv_tableIn (off := 406) (tgt := 432) hx hb dX5_body_26 (by rw [c_92]; decide) (by rw [c_92]; decide) (by rw [c_92]; decide) (by decide) ?_
                                                                                      refine lv_iconst (v := (0 : Int32)) hx hb dX5_body_432 (by decide) ?_
                                                                                      obtain ⟨rfl, rfl, rfl, rfl⟩ := pj4 hF
                                                                                      exact hEnd _ _ _ _ _ dX5_body_433 hP hS rfl
                                                                                    · replace hF := if_f c_92 hF
                                                                                      by_cases c_93 : i1 = (49 : Int32)
                                                                                      · replace hF := if_t c_93 hF
                                                                                        refine lv_tableIn (off := 406) (tgt := 432) hx hb dX5_body_26 (by rw [c_93]; decide) (by rw [c_93]; decide) (by rw [c_93]; decide) (by decide) ?_
                                                                                        refine lv_iconst (v := (0 : Int32)) hx hb dX5_body_432 (by decide) ?_
                                                                                        obtain ⟨rfl, rfl, rfl, rfl⟩ := pj4 hF
                                                                                        exact hEnd _ _ _ _ _ dX5_body_433 hP hS rfl
                                                                                      · replace hF := if_f c_93 hF
                                                                                        by_cases c_94 : i1 = (50 : Int32)
                                                                                        · replace hF := if_t c_94 hF
                                                                                          refine lv_tableIn (off := 343) (tgt := 369) hx hb dX5_body_26 (by rw [c_94]; decide) (by rw [c_94]; decide) (by rw [c_94]; decide) (by decide) ?_
                                                                                          refine lv_aload_n hx hb dX5_body_369 rfl (lv_at hl 1 rfl) ?_
                                                                                          refine lv_bipush (v := (12 : Int32)) hx hb dX5_body_370 (by decide) ?_
                                                                                          refine lv_iload_n hx hb dX5_body_372 rfl (lv_at hl 3 rfl) ?_
                                                                                          refine lv_iconst (v := (2 : Int32)) hx hb dX5_body_373 (by decide) ?_
                                                                                          refine lv_iadd hx hb dX5_body_374 ?_
                                                                                          refine lv_iload hx hb dX5_body_375 (lv_at hl 0 rfl) ?_
                                                                                          obtain ⟨r_95, o_96, o_97, o_98, hq_99, hF⟩ := bd4_e hF
                                                                                          refine xri (xrunV (As := [.int (12 : Int32), .int (i2 + (2 : Int32)), .int (i3 + (1 : Int32))]) (rest := []) (ih a_t a_t_ran _ o_3 s_t_kind s_t_number s_t_a s_t_parted o_4 (12 : Int32) (i2 + (2 : Int32)) (i3 + (1 : Int32)) r_95 o_96 o_97 o_98 hq_99) hfix xw_654 yv_X5_body ⟨rfl, rfl⟩ ⟨(by simp only [rmX5_own, rmX5_body, rmX5_note, rmX5_part]; omega), (by simp only [rmX5_own, rmX5_body, rmX5_note, rmX5_part]; omega)⟩ xKTk (fun U hU hW => xKT.at hK hT hS (va_free hD hS hA [0, 1] rfl) U hU hW) hK.1 hP hD [0, 1] rfl rfl 0 5 rfl rfl rfl rfl hl.1 rfl (Nat.le_of_ble_eq_true rfl) dX5_body_377 ⟨Nat.zero_le _, Nat.zero_le _⟩) hP hD hS hA [0, 1] rfl rfl rfl (wn := [(a_t, .inr (5, [.ref a_t_ran, .int o_96, .int s_t_kind, .int s_t_number, .int s_t_a, .int o_97])), (a_t_ran, .inl (cI, 30, .inl o_98))]) rfl (fun H locs hP hD hS => ?_)
                                                                                          refine lv_iconst (v := (1 : Int32)) hx hb dX5_body_380 (by decide) ?_
                                                                                          refine lv_ixor hx hb dX5_body_381 ?_
                                                                                          obtain ⟨rfl, rfl, rfl, rfl⟩ := pj4 hF
                                                                                          exact hEnd _ _ _ _ _ dX5_body_382 hP hS rfl
                                                                                        · replace hF := if_f c_94 hF
                                                                                          by_cases c_100 : i1 = (51 : Int32)
                                                                                          · replace hF := if_t c_100 hF
                                                                                            refine lv_tableIn (off := 357) (tgt := 383) hx hb dX5_body_26 (by rw [c_100]; decide) (by rw [c_100]; decide) (by rw [c_100]; decide) (by decide) ?_
                                                                                            refine lv_aload_n hx hb dX5_body_383 rfl (lv_at hl 1 rfl) ?_
                                                                                            refine lv_bipush (v := (10 : Int32)) hx hb dX5_body_384 (by decide) ?_
                                                                                            refine lv_iload_n hx hb dX5_body_386 rfl (lv_at hl 3 rfl) ?_
                                                                                            refine lv_iload hx hb dX5_body_387 (lv_at hl 0 rfl) ?_
                                                                                            obtain ⟨r_101, o_102, o_103, o_104, hq_105, hF⟩ := bd4_e hF
                                                                                            refine xri (xrunV (As := [.int (10 : Int32), .int i2, .int (i3 + (1 : Int32))]) (rest := []) (ih a_t a_t_ran _ o_3 s_t_kind s_t_number s_t_a s_t_parted o_4 (10 : Int32) i2 (i3 + (1 : Int32)) r_101 o_102 o_103 o_104 hq_105) hfix xw_654 yv_X5_body ⟨rfl, rfl⟩ ⟨(by simp only [rmX5_own, rmX5_body, rmX5_note, rmX5_part]; omega), (by simp only [rmX5_own, rmX5_body, rmX5_note, rmX5_part]; omega)⟩ xKTk (fun U hU hW => xKT.at hK hT hS (va_free hD hS hA [0, 1] rfl) U hU hW) hK.1 hP hD [0, 1] rfl rfl 0 5 rfl rfl rfl rfl hl.1 rfl (Nat.le_of_ble_eq_true rfl) dX5_body_389 ⟨Nat.zero_le _, Nat.zero_le _⟩) hP hD hS hA [0, 1] rfl rfl rfl (wn := [(a_t, .inr (5, [.ref a_t_ran, .int o_102, .int s_t_kind, .int s_t_number, .int s_t_a, .int o_103])), (a_t_ran, .inl (cI, 30, .inl o_104))]) rfl (fun H locs hP hD hS => ?_)
                                                                                            refine lv_aload_n hx hb dX5_body_392 rfl (lv_at hl 1 rfl) ?_
                                                                                            refine xget (ci := 5) (C := RX5) (T := TX5) (N := 6) hfix xiX5 hK.1 hP 0 rfl rfl 3 (by decide) rfl xw_145 rfl dX5_body_393 ?_
                                                                                            refine lv_isub hx hb dX5_body_396 ?_
                                                                                            obtain ⟨rfl, rfl, rfl, rfl⟩ := pj4 hF
                                                                                            exact hEnd _ _ _ _ _ dX5_body_397 hP hS rfl
                                                                                          · replace hF := if_f c_100 hF
                                                                                            by_cases c_106 : i1 = (52 : Int32)
                                                                                            · replace hF := if_t c_106 hF
                                                                                              refine lv_tableIn (off := 406) (tgt := 432) hx hb dX5_body_26 (by rw [c_106]; decide) (by rw [c_106]; decide) (by rw [c_106]; decide) (by decide) ?_
                                                                                              refine lv_iconst (v := (0 : Int32)) hx hb dX5_body_432 (by decide) ?_
                                                                                              obtain ⟨rfl, rfl, rfl, rfl⟩ := pj4 hF
                                                                                              exact hEnd _ _ _ _ _ dX5_body_433 hP hS rfl
                                                                                            · replace hF := if_f c_106 hF
                                                                                              by_cases c_107 : i1 = (53 : Int32)
                                                                                              · replace hF := if_t c_107 hF
                                                                                                refine lv_tableIn (off := 406) (tgt := 432) hx hb dX5_body_26 (by rw [c_107]; decide) (by rw [c_107]; decide) (by rw [c_107]; decide) (by decide) ?_
                                                                                                refine lv_iconst (v := (0 : Int32)) hx hb dX5_body_432 (by decide) ?_
                                                                                                obtain ⟨rfl, rfl, rfl, rfl⟩ := pj4 hF
                                                                                                exact hEnd _ _ _ _ _ dX5_body_433 hP hS rfl
                                                                                              · replace hF := if_f c_107 hF
                                                                                                by_cases c_108 : i1 = (54 : Int32)
                                                                                                · replace hF := if_t c_108 hF
                                                                                                  refine lv_tableIn (off := 406) (tgt := 432) hx hb dX5_body_26 (by rw [c_108]; decide) (by rw [c_108]; decide) (by rw [c_108]; decide) (by decide) ?_
                                                                                                  refine lv_iconst (v := (0 : Int32)) hx hb dX5_body_432 (by decide) ?_
                                                                                                  obtain ⟨rfl, rfl, rfl, rfl⟩ := pj4 hF
                                                                                                  exact hEnd _ _ _ _ _ dX5_body_433 hP hS rfl
                                                                                                · replace hF := if_f c_108 hF
                                                                                                  by_cases c_109 : i1 = (55 : Int32)
                                                                                                  · replace hF := if_t c_109 hF
                                                                                                    refine lv_tableIn (off := 406) (tgt := 432) hx hb dX5_body_26 (by rw [c_109]; decide) (by rw [c_109]; decide) (by rw [c_109]; decide) (by decide) ?_
                                                                                                    refine lv_iconst (v := (0 : Int32)) hx hb dX5_body_432 (by decide) ?_
                                                                                                    obtain ⟨rfl, rfl, rfl, rfl⟩ := pj4 hF
                                                                                                    exact hEnd _ _ _ _ _ dX5_body_433 hP hS rfl
                                                                                                  · replace hF := if_f c_109 hF
                                                                                                    by_cases c_110 : i1 = (56 : Int32)
                                                                                                    · replace hF := if_t c_110 hF
                                                                                                      refine lv_tableIn (off := 406) (tgt := 432) hx hb dX5_body_26 (by rw [c_110]; decide) (by rw [c_110]; decide) (by rw [c_110]; decide) (by decide) ?_
                                                                                                      refine lv_iconst (v := (0 : Int32)) hx hb dX5_body_432 (by decide) ?_
                                                                                                      obtain ⟨rfl, rfl, rfl, rfl⟩ := pj4 hF
                                                                                                      exact hEnd _ _ _ _ _ dX5_body_433 hP hS rfl
                                                                                                    · replace hF := if_f c_110 hF
                                                                                                      by_cases c_111 : i1 = (57 : Int32)
                                                                                                      · replace hF := if_t c_111 hF
                                                                                                        refine lv_tableIn (off := 406) (tgt := 432) hx hb dX5_body_26 (by rw [c_111]; decide) (by rw [c_111]; decide) (by rw [c_111]; decide) (by decide) ?_
                                                                                                        refine lv_iconst (v := (0 : Int32)) hx hb dX5_body_432 (by decide) ?_
                                                                                                        obtain ⟨rfl, rfl, rfl, rfl⟩ := pj4 hF
                                                                                                        exact hEnd _ _ _ _ _ dX5_body_433 hP hS rfl
                                                                                                      · replace hF := if_f c_111 hF
                                                                                                        by_cases c_112 : i1 = (58 : Int32)
                                                                                                        · replace hF := if_t c_112 hF
                                                                                                          refine lv_tableIn (off := 406) (tgt := 432) hx hb dX5_body_26 (by rw [c_112]; decide) (by rw [c_112]; decide) (by rw [c_112]; decide) (by decide) ?_
                                                                                                          refine lv_iconst (v := (0 : Int32)) hx hb dX5_body_432 (by decide) ?_
                                                                                                          obtain ⟨rfl, rfl, rfl, rfl⟩ := pj4 hF
                                                                                                          exact hEnd _ _ _ _ _ dX5_body_433 hP hS rfl
                                                                                                        · replace hF := if_f c_112 hF
                                                                                                          by_cases c_113 : i1 = (59 : Int32)
                                                                                                          · replace hF := if_t c_113 hF
                                                                                                            refine lv_tableIn (off := 406) (tgt := 432) hx hb dX5_body_26 (by rw [c_113]; decide) (by rw [c_113]; decide) (by rw [c_113]; decide) (by decide) ?_
                                                                                                            refine lv_iconst (v := (0 : Int32)) hx hb dX5_body_432 (by decide) ?_
                                                                                                            obtain ⟨rfl, rfl, rfl, rfl⟩ := pj4 hF
                                                                                                            exact hEnd _ _ _ _ _ dX5_body_433 hP hS rfl
                                                                                                          · replace hF := if_f c_113 hF
                                                                                                            by_cases c_114 : i1 = (60 : Int32)
                                                                                                            · replace hF := if_t c_114 hF
                                                                                                              refine lv_tableIn (off := 372) (tgt := 398) hx hb dX5_body_26 (by rw [c_114]; decide) (by rw [c_114]; decide) (by rw [c_114]; decide) (by decide) ?_
                                                                                                              refine lv_aload_n hx hb dX5_body_398 rfl (lv_at hl 1 rfl) ?_
                                                                                                              refine lv_bipush (v := (13 : Int32)) hx hb dX5_body_399 (by decide) ?_
                                                                                                              refine lv_iload_n hx hb dX5_body_401 rfl (lv_at hl 3 rfl) ?_
                                                                                                              refine lv_iload hx hb dX5_body_402 (lv_at hl 0 rfl) ?_
                                                                                                              obtain ⟨r_115, o_116, o_117, o_118, hq_119, hF⟩ := bd4_e hF
                                                                                                              refine xri (xrunV (As := [.int (13 : Int32), .int i2, .int (i3 + (1 : Int32))]) (rest := []) (ih a_t a_t_ran _ o_3 s_t_kind s_t_number s_t_a s_t_parted o_4 (13 : Int32) i2 (i3 + (1 : Int32)) r_115 o_116 o_117 o_118 hq_119) hfix xw_654 yv_X5_body ⟨rfl, rfl⟩ ⟨(by simp only [rmX5_own, rmX5_body, rmX5_note, rmX5_part]; omega), (by simp only [rmX5_own, rmX5_body, rmX5_note, rmX5_part]; omega)⟩ xKTk (fun U hU hW => xKT.at hK hT hS (va_free hD hS hA [0, 1] rfl) U hU hW) hK.1 hP hD [0, 1] rfl rfl 0 5 rfl rfl rfl rfl hl.1 rfl (Nat.le_of_ble_eq_true rfl) dX5_body_404 ⟨Nat.zero_le _, Nat.zero_le _⟩) hP hD hS hA [0, 1] rfl rfl rfl (wn := [(a_t, .inr (5, [.ref a_t_ran, .int o_116, .int s_t_kind, .int s_t_number, .int s_t_a, .int o_117])), (a_t_ran, .inl (cI, 30, .inl o_118))]) rfl (fun H locs hP hD hS => ?_)
                                                                                                              refine lv_iconst (v := (2 : Int32)) hx hb dX5_body_407 (by decide) ?_
                                                                                                              refine lv_imul hx hb dX5_body_408 ?_
                                                                                                              obtain ⟨rfl, rfl, rfl, rfl⟩ := pj4 hF
                                                                                                              exact hEnd _ _ _ _ _ dX5_body_409 hP hS rfl
                                                                                                            · replace hF := if_f c_114 hF
                                                                                                              by_cases c_120 : i1 = (61 : Int32)
                                                                                                              · replace hF := if_t c_120 hF
                                                                                                                refine lv_tableIn (off := 384) (tgt := 410) hx hb dX5_body_26 (by rw [c_120]; decide) (by rw [c_120]; decide) (by rw [c_120]; decide) (by decide) ?_
                                                                                                                refine lv_aload_n hx hb dX5_body_410 rfl (lv_at hl 1 rfl) ?_
                                                                                                                refine lv_bipush (v := (12 : Int32)) hx hb dX5_body_411 (by decide) ?_
                                                                                                                refine lv_iload_n hx hb dX5_body_413 rfl (lv_at hl 3 rfl) ?_
                                                                                                                refine lv_iload hx hb dX5_body_414 (lv_at hl 0 rfl) ?_
                                                                                                                obtain ⟨r_121, o_122, o_123, o_124, hq_125, hF⟩ := bd4_e hF
                                                                                                                refine xri (xrunV (As := [.int (12 : Int32), .int i2, .int (i3 + (1 : Int32))]) (rest := []) (ih a_t a_t_ran _ o_3 s_t_kind s_t_number s_t_a s_t_parted o_4 (12 : Int32) i2 (i3 + (1 : Int32)) r_121 o_122 o_123 o_124 hq_125) hfix xw_654 yv_X5_body ⟨rfl, rfl⟩ ⟨(by simp only [rmX5_own, rmX5_body, rmX5_note, rmX5_part]; omega), (by simp only [rmX5_own, rmX5_body, rmX5_note, rmX5_part]; omega)⟩ xKTk (fun U hU hW => xKT.at hK hT hS (va_free hD hS hA [0, 1] rfl) U hU hW) hK.1 hP hD [0, 1] rfl rfl 0 5 rfl rfl rfl rfl hl.1 rfl (Nat.le_of_ble_eq_true rfl) dX5_body_416 ⟨Nat.zero_le _, Nat.zero_le _⟩) hP hD hS hA [0, 1] rfl rfl rfl (wn := [(a_t, .inr (5, [.ref a_t_ran, .int o_122, .int s_t_kind, .int s_t_number, .int s_t_a, .int o_123])), (a_t_ran, .inl (cI, 30, .inl o_124))]) rfl (fun H locs hP hD hS => ?_)
                                                                                                                refine lv_aload_n hx hb dX5_body_419 rfl (lv_at hl 1 rfl) ?_
                                                                                                                refine lv_iconst (v := (0 : Int32)) hx hb dX5_body_420 (by decide) ?_
                                                                                                                refine lv_aload_n hx hb dX5_body_421 rfl (lv_at hl 1 rfl) ?_
                                                                                                                refine xget (ci := 5) (C := RX5) (T := TX5) (N := 6) hfix xiX5 hK.1 hP 0 rfl rfl 4 (by decide) rfl xw_146 rfl dX5_body_422 ?_
                                                                                                                refine lv_iload hx hb dX5_body_425 (lv_at hl 0 rfl) ?_
                                                                                                                obtain ⟨r_126, o_127, o_128, o_129, hq_130, hF⟩ := bd4_e hF
                                                                                                                refine xri (xrunV (As := [.int (0 : Int32), .int s_t_a, .int (i3 + (1 : Int32))]) (rest := [.int r_121]) (c_X5_own n (f_X5_body n) l D cI cB cJ tO tB adK adV vf hvf ih a_t a_t_ran _ o_122 s_t_kind s_t_number s_t_a o_123 o_124 (0 : Int32) s_t_a (i3 + (1 : Int32)) r_126 o_127 o_128 o_129 hq_130) hfix xw_648 yv_X5_own ⟨rfl, rfl⟩ ⟨(by simp only [rmX5_own, rmX5_body, rmX5_note, rmX5_part]; omega), (by simp only [rmX5_own, rmX5_body, rmX5_note, rmX5_part]; omega)⟩ xKTk (fun U hU hW => xKT.at hK hT hS (va_free hD hS hA [0, 1] rfl) U hU hW) hK.1 hP hD [0, 1] rfl rfl 0 5 rfl rfl rfl rfl hl.1 rfl (Nat.le_of_ble_eq_true rfl) dX5_body_427 ⟨Nat.zero_le _, Nat.zero_le _⟩) hP hD hS hA [0, 1] rfl rfl rfl (wn := [(a_t, .inr (5, [.ref a_t_ran, .int o_127, .int s_t_kind, .int s_t_number, .int s_t_a, .int o_128])), (a_t_ran, .inl (cI, 30, .inl o_129))]) rfl (fun H locs hP hD hS => ?_)
                                                                                                                refine lv_iadd hx hb dX5_body_430 ?_
                                                                                                                obtain ⟨rfl, rfl, rfl, rfl⟩ := pj4 hF
                                                                                                                exact hEnd _ _ _ _ _ dX5_body_431 hP hS rfl
                                                                                                              · replace hF := if_f c_120 hF
                                                                                                                have hsw : (i1).toInt < 10 ∨ 61 < (i1).toInt := by
                                                                                                                  have z0 := lv_neT c_6 (a := 10) (by decide)
                                                                                                                  have z1 := lv_neT c_7 (a := 11) (by decide)
                                                                                                                  have z2 := lv_neT c_13 (a := 12) (by decide)
                                                                                                                  have z3 := lv_neT c_17 (a := 13) (by decide)
                                                                                                                  have z4 := lv_neT c_23 (a := 14) (by decide)
                                                                                                                  have z5 := lv_neT c_24 (a := 15) (by decide)
                                                                                                                  have z6 := lv_neT c_25 (a := 16) (by decide)
                                                                                                                  have z7 := lv_neT c_26 (a := 17) (by decide)
                                                                                                                  have z8 := lv_neT c_27 (a := 18) (by decide)
                                                                                                                  have z9 := lv_neT c_28 (a := 19) (by decide)
                                                                                                                  have z10 := lv_neT c_29 (a := 20) (by decide)
                                                                                                                  have z11 := lv_neT c_35 (a := 21) (by decide)
                                                                                                                  have z12 := lv_neT c_36 (a := 22) (by decide)
                                                                                                                  have z13 := lv_neT c_37 (a := 23) (by decide)
                                                                                                                  have z14 := lv_neT c_38 (a := 24) (by decide)
                                                                                                                  have z15 := lv_neT c_39 (a := 25) (by decide)
                                                                                                                  have z16 := lv_neT c_40 (a := 26) (by decide)
                                                                                                                  have z17 := lv_neT c_41 (a := 27) (by decide)
                                                                                                                  have z18 := lv_neT c_42 (a := 28) (by decide)
                                                                                                                  have z19 := lv_neT c_43 (a := 29) (by decide)
                                                                                                                  have z20 := lv_neT c_44 (a := 30) (by decide)
                                                                                                                  have z21 := lv_neT c_50 (a := 31) (by decide)
                                                                                                                  have z22 := lv_neT c_61 (a := 32) (by decide)
                                                                                                                  have z23 := lv_neT c_62 (a := 33) (by decide)
                                                                                                                  have z24 := lv_neT c_63 (a := 34) (by decide)
                                                                                                                  have z25 := lv_neT c_64 (a := 35) (by decide)
                                                                                                                  have z26 := lv_neT c_65 (a := 36) (by decide)
                                                                                                                  have z27 := lv_neT c_66 (a := 37) (by decide)
                                                                                                                  have z28 := lv_neT c_67 (a := 38) (by decide)
                                                                                                                  have z29 := lv_neT c_68 (a := 39) (by decide)
                                                                                                                  have z30 := lv_neT c_69 (a := 40) (by decide)
                                                                                                                  have z31 := lv_neT c_75 (a := 41) (by decide)
                                                                                                                  have z32 := lv_neT c_86 (a := 42) (by decide)
                                                                                                                  have z33 := lv_neT c_87 (a := 43) (by decide)
                                                                                                                  have z34 := lv_neT c_88 (a := 44) (by decide)
                                                                                                                  have z35 := lv_neT c_89 (a := 45) (by decide)
                                                                                                                  have z36 := lv_neT c_90 (a := 46) (by decide)
                                                                                                                  have z37 := lv_neT c_91 (a := 47) (by decide)
                                                                                                                  have z38 := lv_neT c_92 (a := 48) (by decide)
                                                                                                                  have z39 := lv_neT c_93 (a := 49) (by decide)
                                                                                                                  have z40 := lv_neT c_94 (a := 50) (by decide)
                                                                                                                  have z41 := lv_neT c_100 (a := 51) (by decide)
                                                                                                                  have z42 := lv_neT c_106 (a := 52) (by decide)
                                                                                                                  have z43 := lv_neT c_107 (a := 53) (by decide)
                                                                                                                  have z44 := lv_neT c_108 (a := 54) (by decide)
                                                                                                                  have z45 := lv_neT c_109 (a := 55) (by decide)
                                                                                                                  have z46 := lv_neT c_110 (a := 56) (by decide)
                                                                                                                  have z47 := lv_neT c_111 (a := 57) (by decide)
                                                                                                                  have z48 := lv_neT c_112 (a := 58) (by decide)
                                                                                                                  have z49 := lv_neT c_113 (a := 59) (by decide)
                                                                                                                  have z50 := lv_neT c_114 (a := 60) (by decide)
                                                                                                                  have z51 := lv_neT c_120 (a := 61) (by decide)
                                                                                                                  omega
                                                                                                                refine lv_tableOut (tgt := 432) hx hb dX5_body_26 hsw (by decide) ?_
                                                                                                                refine lv_iconst (v := (0 : Int32)) hx hb dX5_body_432 (by decide) ?_
                                                                                                                obtain ⟨rfl, rfl, rfl, rfl⟩ := pj4 hF
                                                                                                                exact hEnd _ _ _ _ _ dX5_body_433 hP hS rfl
      · replace hF := if_f c_2 hF
        refine lv_iconst (v := (0 : Int32)) hx hb dX5_body_13 (by decide) ?_
        obtain ⟨rfl, rfl, rfl, rfl⟩ := pj4 hF
        exact hEnd _ _ _ _ _ dX5_body_14 hP hS rfl
def f_X5_answer (i1 : Int32) (i2 : Int32) (s_t_ranCount : Int32) (s_t_kind : Int32) (s_t_number : Int32) (s_t_a : Int32) (s_t_parted : Int32) (v_t_ran : (Nat → Int32)) : Option (Int32 × Int32 × Int32 × (Nat → Int32)) := bd4 (f_X5_own (f_X5_body 30) i1 i2 (0 : Int32) s_t_ranCount s_t_kind s_t_number s_t_a (0 : Int32) v_t_ran) (fun (r_1 : Int32) (o_2 : Int32) (o_3 : Int32) (o_4 : (Nat → Int32)) => (if o_3 = (0 : Int32) then some ((r_1, o_2, o_3, o_4)) else some (((-15 : Int32), o_2, o_3, o_4))))
abbrev rmX5_answer : Room := { frames := 94, cells := 0, slots := 0, locals := 3174 }
set_option maxHeartbeats 400000 in
set_option maxRecDepth 100000 in
theorem c_X5_answer (l : Launch) (D : va_G) (cI cB cJ : ClassId) (tO tB : Nat) (adK adV : Nat → Nat) (vf : Value) (hvf : vf = .null ∨ ∃ q, vf = .ref q) (a_t : Nat) (a_t_ran : Nat) (sz : Nat) (s_t_ranCount : Int32) (s_t_kind : Int32) (s_t_number : Int32) (s_t_a : Int32) (s_t_parted : Int32) (v_t_ran : (Nat → Int32)) (i1 : Int32) (i2 : Int32) (r : Int32) (o_s_t_ranCount : Int32) (o_s_t_parted : Int32) (o_v_t_ran : (Nat → Int32)) (hF : f_X5_answer i1 i2 s_t_ranCount s_t_kind s_t_number s_t_a s_t_parted v_t_ran = some (r, o_s_t_ranCount, o_s_t_parted, o_v_t_ran)) : xMi l yX5_answer (.code yX5_answer cX5_answer 4 (some .int) :: xU) rmX5_answer (xKT D cI cB cJ tO tB adK adV vf [(a_t, .inr (5, [.ref a_t_ran, .int s_t_ranCount, .int s_t_kind, .int s_t_number, .int s_t_a, .int s_t_parted])), (a_t_ran, .inl (cI, 30, .inl v_t_ran))]) D sz [.ref a_t, .int i1, .int i2] [(a_t, .inr (5, [.ref a_t_ran, .int s_t_ranCount, .int s_t_kind, .int s_t_number, .int s_t_a, .int s_t_parted])), (a_t_ran, .inl (cI, 30, .inl v_t_ran))] [(a_t, .inr (5, [.ref a_t_ran, .int o_s_t_ranCount, .int s_t_kind, .int s_t_number, .int s_t_a, .int o_s_t_parted])), (a_t_ran, .inl (cI, 30, .inl o_v_t_ran))] r := by
  refine xMi.mkT (own := "FairNext$Thing") (by decide +kernel) rfl (Nat.le_of_ble_eq_true rfl) ?_
  intro p e s m args below meth c A Q ls H hfix hK hT hP hD hA hS hl hEnd
  obtain ⟨hx, hb, hml, hown, hts⟩ := id hfix
  have hl : lv_has ls 4 [(0, .ref a_t), (1, .int i1), (2, .int i2)] := hl
  rw [f_X5_answer] at hF
  refine lv_aload_n hx hb dX5_answer_0 rfl (lv_at hl 0 rfl) ?_
  refine lv_iconst (v := (0 : Int32)) hx hb dX5_answer_1 (by decide) ?_
  refine xput (ci := 5) (C := RX5) (T := TX5) (N := 6) hfix xiX5 tyX5 tyX5_ok nmX5 hK.1 hP hD hS 0 rfl rfl 5 (by decide) rfl rfl xw_147 (ty := .boolean) rfl (x01_n x01_0) (x01_f x01_0) (Nat.le_of_ble_eq_true rfl) dX5_answer_2 (wn := [(a_t, .inr (5, [.ref a_t_ran, .int s_t_ranCount, .int s_t_kind, .int s_t_number, .int s_t_a, .int (0 : Int32)])), (a_t_ran, .inl (cI, 30, .inl v_t_ran))]) rfl (fun H locs hP hD hS => ?_)
  refine lv_aload_n hx hb dX5_answer_5 rfl (lv_at hl 0 rfl) ?_
  refine lv_iload_n hx hb dX5_answer_6 rfl (lv_at hl 1 rfl) ?_
  refine lv_iload_n hx hb dX5_answer_7 rfl (lv_at hl 2 rfl) ?_
  refine lv_iconst (v := (0 : Int32)) hx hb dX5_answer_8 (by decide) ?_
  obtain ⟨r_1, o_2, o_3, o_4, hq_5, hF⟩ := bd4_e hF
  refine xri (xrunV (As := [.int i1, .int i2, .int (0 : Int32)]) (rest := []) (c_X5_own 30 (f_X5_body 30) l D cI cB cJ tO tB adK adV vf hvf (c_X5_body l D cI cB cJ tO tB adK adV vf hvf 30) a_t a_t_ran _ s_t_ranCount s_t_kind s_t_number s_t_a (0 : Int32) v_t_ran i1 i2 (0 : Int32) r_1 o_2 o_3 o_4 hq_5) hfix xw_648 yv_X5_own ⟨rfl, rfl⟩ ⟨(Nat.le_of_ble_eq_true rfl), (Nat.le_of_ble_eq_true rfl)⟩ xKTk (fun U hU hW => xKT.at hK hT hS (va_free hD hS hA [0, 1] rfl) U hU hW) hK.1 hP hD [0, 1] rfl rfl 0 5 rfl rfl rfl rfl hl.1 rfl (Nat.le_of_ble_eq_true rfl) dX5_answer_9 ⟨Nat.zero_le _, Nat.zero_le _⟩) hP hD hS hA [0, 1] rfl rfl rfl (wn := [(a_t, .inr (5, [.ref a_t_ran, .int o_2, .int s_t_kind, .int s_t_number, .int s_t_a, .int o_3])), (a_t_ran, .inl (cI, 30, .inl o_4))]) rfl (fun H locs hP hD hS => ?_)
  refine lv_istore_n (lv' := [(3, .int r_1), (0, .ref a_t), (1, .int i1), (2, .int i2)]) hx hb dX5_answer_12 rfl hl (by decide) rfl (fun ls hl => ?_)
  refine lv_aload_n hx hb dX5_answer_13 rfl (lv_at hl 1 rfl) ?_
  refine xget (ci := 5) (C := RX5) (T := TX5) (N := 6) hfix xiX5 hK.1 hP 0 rfl rfl 5 (by decide) rfl xw_147 rfl dX5_answer_14 ?_
  refine lv_if_eq (tgt := 25) hx hb dX5_answer_17 (by decide) (fun c_6 => ?_) (fun c_6 => ?_)
  · replace hF := if_t c_6 hF
    refine lv_iload_n hx hb dX5_answer_25 rfl (lv_at hl 0 rfl) ?_
    obtain ⟨rfl, rfl, rfl, rfl⟩ := pj4 hF
    exact hEnd _ _ _ _ _ dX5_answer_26 hP hS rfl
  · replace hF := if_f c_6 hF
    refine lv_bipush (v := (-15 : Int32)) hx hb dX5_answer_20 (by decide) ?_
    refine lv_goto (tgt := 26) hx hb dX5_answer_22 (by decide) ?_
    obtain ⟨rfl, rfl, rfl, rfl⟩ := pj4 hF
    exact hEnd _ _ _ _ _ dX5_answer_26 hP hS rfl
def f_X6_act (i1 : Int32) (i2 : Int32) (i3 : Int32) (s_t_thing_ranCount : Int32) (s_t_thing_kind : Int32) (s_t_thing_number : Int32) (s_t_thing_a : Int32) (s_t_thing_parted : Int32) (v_t_shelves_rule : (Nat → Int32)) (s_t_book_heldCount : Int32) (v_t_book_held : (Nat → Int32)) (v_t_thing_ran : (Nat → Int32)) : Option (Int32 × Int32 × Int32 × Int32 × Int32 × Int32 × (Nat → Int32)) := (if (f_X6_outside i1 (0 : Int32) (3 : Int32)) = (0 : Int32) then (if (f_X6_outside i2 (0 : Int32) (3 : Int32)) = (0 : Int32) then gd i1 4 ((if (f_X0_holds (v_t_shelves_rule i1.toNatClampNeg) s_t_book_heldCount) = (0 : Int32) then some (((0 : Int32), (0 : Int32), s_t_thing_kind, s_t_thing_number, s_t_thing_a, s_t_thing_parted, v_t_thing_ran)) else gd (v_t_shelves_rule i1.toNatClampNeg) 6 (gd (v_t_shelves_rule i1.toNatClampNeg) 6 (bd3 (f_X5_become (f_X6_kindOf (v_t_book_held (v_t_shelves_rule i1.toNatClampNeg).toNatClampNeg)) (v_t_shelves_rule i1.toNatClampNeg) (f_X6_aOf (v_t_book_held (v_t_shelves_rule i1.toNatClampNeg).toNatClampNeg)) s_t_thing_kind s_t_thing_number s_t_thing_a) (fun (o_10 : Int32) (o_11 : Int32) (o_12 : Int32) => bd4 (f_X5_answer i2 i3 (0 : Int32) o_10 o_11 o_12 s_t_thing_parted v_t_thing_ran) (fun (r_14 : Int32) (o_15 : Int32) (o_16 : Int32) (o_17 : (Nat → Int32)) => some ((r_14, o_15, o_10, o_11, o_12, o_16, o_17)))))))) else some (((0 : Int32), (0 : Int32), s_t_thing_kind, s_t_thing_number, s_t_thing_a, s_t_thing_parted, v_t_thing_ran))) else some (((0 : Int32), (0 : Int32), s_t_thing_kind, s_t_thing_number, s_t_thing_a, s_t_thing_parted, v_t_thing_ran)))
abbrev rmX6_act : Room := { frames := 95, cells := 0, slots := 0, locals := 3197 }
set_option maxHeartbeats 400000 in
set_option maxRecDepth 100000 in
theorem c_X6_act (l : Launch) (D : va_G) (cI cB cJ : ClassId) (tO tB : Nat) (adK adV : Nat → Nat) (vf : Value) (hvf : vf = .null ∨ ∃ q, vf = .ref q) (a_t : Nat) (a_t_book : Nat) (a_t_kept : Nat) (a_t_told : Nat) (a_t_tape : Nat) (a_t_rows : Nat) (a_t_sheets : Nat) (a_t_shelves : Nat) (a_t_thing : Nat) (a_t_shares : Nat) (a_t_ahead : Nat) (a_t_thing_ran : Nat) (a_t_shelves_rule : Nat) (a_t_shelves_sort : Nat) (a_t_shelves_size : Nat) (a_t_book_village : Nat) (a_t_book_mark : Nat) (a_t_book_held : Nat) (sz : Nat) (s_t_isKept : Int32) (s_t_z : Int32) (s_t_keptZ : Int32) (s_t_thing_ranCount : Int32) (s_t_thing_kind : Int32) (s_t_thing_number : Int32) (s_t_thing_a : Int32) (s_t_thing_parted : Int32) (s_t_book_heldCount : Int32) (s_t_book_villages : Int32) (v_t_shelves_rule : (Nat → Int32)) (v_t_book_held : (Nat → Int32)) (v_t_thing_ran : (Nat → Int32)) (i1 : Int32) (i2 : Int32) (i3 : Int32) (r : Int32) (o_s_t_thing_ranCount : Int32) (o_s_t_thing_kind : Int32) (o_s_t_thing_number : Int32) (o_s_t_thing_a : Int32) (o_s_t_thing_parted : Int32) (o_v_t_thing_ran : (Nat → Int32)) (hF : f_X6_act i1 i2 i3 s_t_thing_ranCount s_t_thing_kind s_t_thing_number s_t_thing_a s_t_thing_parted v_t_shelves_rule s_t_book_heldCount v_t_book_held v_t_thing_ran = some (r, o_s_t_thing_ranCount, o_s_t_thing_kind, o_s_t_thing_number, o_s_t_thing_a, o_s_t_thing_parted, o_v_t_thing_ran)) : xMi l yX6_act (.code yX6_act cX6_act 5 (some .int) :: xU) rmX6_act (xKT D cI cB cJ tO tB adK adV vf [(a_t, .inr (6, [.ref a_t_book, .ref a_t_kept, .ref a_t_told, .ref a_t_tape, .ref a_t_rows, .ref a_t_sheets, .ref a_t_shelves, .ref a_t_thing, .ref a_t_shares, .ref a_t_ahead, .int s_t_isKept, .int s_t_z, .int s_t_keptZ])), (a_t_thing, .inr (5, [.ref a_t_thing_ran, .int s_t_thing_ranCount, .int s_t_thing_kind, .int s_t_thing_number, .int s_t_thing_a, .int s_t_thing_parted])), (a_t_shelves, .inr (3, [.ref a_t_shelves_rule, .ref a_t_shelves_sort, .ref a_t_shelves_size])), (a_t_shelves_rule, .inl (cI, 4, .inl v_t_shelves_rule)), (a_t_book, .inr (0, [.ref a_t_book_village, .ref a_t_book_mark, .ref a_t_book_held, .int s_t_book_heldCount, .int s_t_book_villages])), (a_t_book_held, .inl (cI, 6, .inl v_t_book_held)), (a_t_thing_ran, .inl (cI, 30, .inl v_t_thing_ran))]) D sz [.ref a_t, .int i1, .int i2, .int i3] [(a_t, .inr (6, [.ref a_t_book, .ref a_t_kept, .ref a_t_told, .ref a_t_tape, .ref a_t_rows, .ref a_t_sheets, .ref a_t_shelves, .ref a_t_thing, .ref a_t_shares, .ref a_t_ahead, .int s_t_isKept, .int s_t_z, .int s_t_keptZ])), (a_t_thing, .inr (5, [.ref a_t_thing_ran, .int s_t_thing_ranCount, .int s_t_thing_kind, .int s_t_thing_number, .int s_t_thing_a, .int s_t_thing_parted])), (a_t_shelves, .inr (3, [.ref a_t_shelves_rule, .ref a_t_shelves_sort, .ref a_t_shelves_size])), (a_t_shelves_rule, .inl (cI, 4, .inl v_t_shelves_rule)), (a_t_book, .inr (0, [.ref a_t_book_village, .ref a_t_book_mark, .ref a_t_book_held, .int s_t_book_heldCount, .int s_t_book_villages])), (a_t_book_held, .inl (cI, 6, .inl v_t_book_held)), (a_t_thing_ran, .inl (cI, 30, .inl v_t_thing_ran))] [(a_t, .inr (6, [.ref a_t_book, .ref a_t_kept, .ref a_t_told, .ref a_t_tape, .ref a_t_rows, .ref a_t_sheets, .ref a_t_shelves, .ref a_t_thing, .ref a_t_shares, .ref a_t_ahead, .int s_t_isKept, .int s_t_z, .int s_t_keptZ])), (a_t_thing, .inr (5, [.ref a_t_thing_ran, .int o_s_t_thing_ranCount, .int o_s_t_thing_kind, .int o_s_t_thing_number, .int o_s_t_thing_a, .int o_s_t_thing_parted])), (a_t_shelves, .inr (3, [.ref a_t_shelves_rule, .ref a_t_shelves_sort, .ref a_t_shelves_size])), (a_t_shelves_rule, .inl (cI, 4, .inl v_t_shelves_rule)), (a_t_book, .inr (0, [.ref a_t_book_village, .ref a_t_book_mark, .ref a_t_book_held, .int s_t_book_heldCount, .int s_t_book_villages])), (a_t_book_held, .inl (cI, 6, .inl v_t_book_held)), (a_t_thing_ran, .inl (cI, 30, .inl o_v_t_thing_ran))] r := by
  refine xMi.mkT (own := "FairNext") (by decide +kernel) rfl (Nat.le_of_ble_eq_true rfl) ?_
  intro p e s m args below meth c A Q ls H hfix hK hT hP hD hA hS hl hEnd
  obtain ⟨hx, hb, hml, hown, hts⟩ := id hfix
  have hl : lv_has ls 5 [(0, .ref a_t), (1, .int i1), (2, .int i2), (3, .int i3)] := hl
  rw [f_X6_act] at hF
  refine lv_aload_n hx hb dX6_act_0 rfl (lv_at hl 0 rfl) ?_
  refine xget (ci := 6) (C := RX6) (T := TX6) (N := 13) hfix xiX6 hK.1 hP 0 rfl rfl 7 (by decide) rfl xw_168 rfl dX6_act_1 ?_
  refine lv_iconst (v := (0 : Int32)) hx hb dX6_act_4 (by decide) ?_
  refine xput (ci := 5) (C := RX5) (T := TX5) (N := 6) hfix xiX5 tyX5 tyX5_ok nmX5 hK.1 hP hD hS 1 rfl rfl 1 (by decide) rfl rfl xw_143 (ty := .int) rfl rfl rfl (Nat.le_of_ble_eq_true rfl) dX6_act_5 (wn := [(a_t, .inr (6, [.ref a_t_book, .ref a_t_kept, .ref a_t_told, .ref a_t_tape, .ref a_t_rows, .ref a_t_sheets, .ref a_t_shelves, .ref a_t_thing, .ref a_t_shares, .ref a_t_ahead, .int s_t_isKept, .int s_t_z, .int s_t_keptZ])), (a_t_thing, .inr (5, [.ref a_t_thing_ran, .int (0 : Int32), .int s_t_thing_kind, .int s_t_thing_number, .int s_t_thing_a, .int s_t_thing_parted])), (a_t_shelves, .inr (3, [.ref a_t_shelves_rule, .ref a_t_shelves_sort, .ref a_t_shelves_size])), (a_t_shelves_rule, .inl (cI, 4, .inl v_t_shelves_rule)), (a_t_book, .inr (0, [.ref a_t_book_village, .ref a_t_book_mark, .ref a_t_book_held, .int s_t_book_heldCount, .int s_t_book_villages])), (a_t_book_held, .inl (cI, 6, .inl v_t_book_held)), (a_t_thing_ran, .inl (cI, 30, .inl v_t_thing_ran))]) rfl (fun H locs hP hD hS => ?_)
  refine lv_iload_n hx hb dX6_act_8 rfl (lv_at hl 1 rfl) ?_
  refine lv_iconst (v := (0 : Int32)) hx hb dX6_act_9 (by decide) ?_
  refine lv_iconst (v := (3 : Int32)) hx hb dX6_act_10 (by decide) ?_
  refine xrz0 (xrunS (As := [.int i1, .int (0 : Int32), .int (3 : Int32)]) (rest := []) (c_X6_outside l D cI cB cJ _ i1 (0 : Int32) (3 : Int32) (f_X6_outside i1 (0 : Int32) (3 : Int32)) rfl) hfix xw_205 ys_X6_outside ⟨rfl, rfl⟩ ⟨(Nat.le_of_ble_eq_true rfl), (Nat.le_of_ble_eq_true rfl)⟩ xKk_K (fun U hU hW => xK.warm hW hK) hP hD [] rfl rfl rfl hl.1 rfl (Nat.le_of_ble_eq_true rfl) dX6_act_11 ⟨Nat.zero_le _, Nat.zero_le _⟩) hP hD hS hA [] rfl rfl (fun H locs hP hD hS hz_1 => ?_)
  refine lv_if_ne (tgt := 26) hx hb dX6_act_14 (by decide) (fun c_2 => ?_) (fun c_2 => ?_)
  · replace hF := if_f c_2 hF
    refine lv_iconst (v := (0 : Int32)) hx hb dX6_act_26 (by decide) ?_
    obtain ⟨rfl, rfl, rfl, rfl, rfl, rfl, rfl⟩ := pj7 hF
    exact hEnd _ _ _ _ _ dX6_act_27 hP hS rfl
  · replace hF := if_t c_2 hF
    refine lv_iload_n hx hb dX6_act_17 rfl (lv_at hl 2 rfl) ?_
    refine lv_iconst (v := (0 : Int32)) hx hb dX6_act_18 (by decide) ?_
    refine lv_iconst (v := (3 : Int32)) hx hb dX6_act_19 (by decide) ?_
    refine xrz0 (xrunS (As := [.int i2, .int (0 : Int32), .int (3 : Int32)]) (rest := []) (c_X6_outside l D cI cB cJ _ i2 (0 : Int32) (3 : Int32) (f_X6_outside i2 (0 : Int32) (3 : Int32)) rfl) hfix xw_205 ys_X6_outside ⟨rfl, rfl⟩ ⟨(Nat.le_of_ble_eq_true rfl), (Nat.le_of_ble_eq_true rfl)⟩ xKk_K (fun U hU hW => xK.warm hW hK) hP hD [] rfl rfl rfl hl.1 rfl (Nat.le_of_ble_eq_true rfl) dX6_act_20 ⟨Nat.zero_le _, Nat.zero_le _⟩) hP hD hS hA [] rfl rfl (fun H locs hP hD hS hz_3 => ?_)
    refine lv_if_eq (tgt := 28) hx hb dX6_act_23 (by decide) (fun c_4 => ?_) (fun c_4 => ?_)
    · replace hF := if_t c_4 hF
      refine lv_aload_n hx hb dX6_act_28 rfl (lv_at hl 0 rfl) ?_
      refine xget (ci := 6) (C := RX6) (T := TX6) (N := 13) hfix xiX6 hK.1 hP 0 rfl rfl 6 (by decide) rfl xw_167 rfl dX6_act_29 ?_
      refine xget (ci := 3) (C := RX3) (T := TX3) (N := 3) hfix xiX3 hK.1 hP 2 rfl rfl 0 (by decide) rfl xw_122 rfl dX6_act_32 ?_
      refine lv_iload_n hx hb dX6_act_35 rfl (lv_at hl 1 rfl) ?_
      obtain ⟨c_5, hF⟩ := gd_e hF
      refine va_iald hx hb hK.1 hP 3 0 rfl rfl c_5 dX6_act_36 ?_
      refine lv_istore (lv' := [(4, .int (v_t_shelves_rule i1.toNatClampNeg)), (0, .ref a_t), (1, .int i1), (2, .int i2), (3, .int i3)]) hx hb dX6_act_37 hl (by decide) rfl (fun ls hl => ?_)
      refine lv_aload_n hx hb dX6_act_39 rfl (lv_at hl 1 rfl) ?_
      refine xget (ci := 6) (C := RX6) (T := TX6) (N := 13) hfix xiX6 hK.1 hP 0 rfl rfl 0 (by decide) rfl xw_161 rfl dX6_act_40 ?_
      refine lv_iload hx hb dX6_act_43 (lv_at hl 0 rfl) ?_
      refine xrz0 (xrunV (As := [.int (v_t_shelves_rule i1.toNatClampNeg)]) (rest := []) (c_X0_holds l D cI cB cJ a_t_book a_t_book_village a_t_book_mark a_t_book_held _ s_t_book_heldCount s_t_book_villages (v_t_shelves_rule i1.toNatClampNeg) (f_X0_holds (v_t_shelves_rule i1.toNatClampNeg) s_t_book_heldCount) rfl) hfix xw_377 yv_X0_holds ⟨rfl, rfl⟩ ⟨(Nat.le_of_ble_eq_true rfl), (Nat.le_of_ble_eq_true rfl)⟩ xKk_K (fun U hU hW => xK.warm hW hK) hK.1 hP hD [4] rfl rfl 4 0 rfl rfl rfl rfl hl.1 rfl (Nat.le_of_ble_eq_true rfl) dX6_act_45 ⟨Nat.zero_le _, Nat.zero_le _⟩) hP hD hS hA [4] rfl rfl (fun H locs hP hD hS hz_6 => ?_)
      refine lv_if_ne (tgt := 53) hx hb dX6_act_48 (by decide) (fun c_7 => ?_) (fun c_7 => ?_)
      · replace hF := if_f c_7 hF
        refine lv_aload_n hx hb dX6_act_53 rfl (lv_at hl 1 rfl) ?_
        refine xget (ci := 6) (C := RX6) (T := TX6) (N := 13) hfix xiX6 hK.1 hP 0 rfl rfl 7 (by decide) rfl xw_168 rfl dX6_act_54 ?_
        refine lv_aload_n hx hb dX6_act_57 rfl (lv_at hl 1 rfl) ?_
        refine xget (ci := 6) (C := RX6) (T := TX6) (N := 13) hfix xiX6 hK.1 hP 0 rfl rfl 0 (by decide) rfl xw_161 rfl dX6_act_58 ?_
        refine xget (ci := 0) (C := RX0) (T := TX0) (N := 5) hfix xiX0 hK.1 hP 4 rfl rfl 2 (by decide) rfl xw_40 rfl dX6_act_61 ?_
        refine lv_iload hx hb dX6_act_64 (lv_at hl 0 rfl) ?_
        obtain ⟨c_8, hF⟩ := gd_e hF
        refine va_iald hx hb hK.1 hP 5 0 rfl rfl c_8 dX6_act_66 ?_
        refine xri0 (xrunS (As := [.int (v_t_book_held (v_t_shelves_rule i1.toNatClampNeg).toNatClampNeg)]) (rest := [.ref a_t_thing]) (c_X6_kindOf l D cI cB cJ _ (v_t_book_held (v_t_shelves_rule i1.toNatClampNeg).toNatClampNeg) (f_X6_kindOf (v_t_book_held (v_t_shelves_rule i1.toNatClampNeg).toNatClampNeg)) rfl) hfix xw_385 ys_X6_kindOf ⟨rfl, rfl⟩ ⟨(Nat.le_of_ble_eq_true rfl), (Nat.le_of_ble_eq_true rfl)⟩ xKk_K (fun U hU hW => xK.warm hW hK) hP hD [] rfl rfl rfl hl.1 rfl (Nat.le_of_ble_eq_true rfl) dX6_act_67 ⟨Nat.zero_le _, Nat.zero_le _⟩) hP hD hS hA [] rfl rfl (fun H locs hP hD hS => ?_)
        refine lv_iload hx hb dX6_act_70 (lv_at hl 0 rfl) ?_
        refine lv_aload_n hx hb dX6_act_72 rfl (lv_at hl 1 rfl) ?_
        refine xget (ci := 6) (C := RX6) (T := TX6) (N := 13) hfix xiX6 hK.1 hP 0 rfl rfl 0 (by decide) rfl xw_161 rfl dX6_act_73 ?_
        refine xget (ci := 0) (C := RX0) (T := TX0) (N := 5) hfix xiX0 hK.1 hP 4 rfl rfl 2 (by decide) rfl xw_40 rfl dX6_act_76 ?_
        refine lv_iload hx hb dX6_act_79 (lv_at hl 0 rfl) ?_
        obtain ⟨c_9, hF⟩ := gd_e hF
        refine va_iald hx hb hK.1 hP 5 0 rfl rfl c_9 dX6_act_81 ?_
        refine xri0 (xrunS (As := [.int (v_t_book_held (v_t_shelves_rule i1.toNatClampNeg).toNatClampNeg)]) (rest := [.int (v_t_shelves_rule i1.toNatClampNeg), .int (f_X6_kindOf (v_t_book_held (v_t_shelves_rule i1.toNatClampNeg).toNatClampNeg)), .ref a_t_thing]) (c_X6_aOf l D cI cB cJ _ (v_t_book_held (v_t_shelves_rule i1.toNatClampNeg).toNatClampNeg) (f_X6_aOf (v_t_book_held (v_t_shelves_rule i1.toNatClampNeg).toNatClampNeg)) rfl) hfix xw_388 ys_X6_aOf ⟨rfl, rfl⟩ ⟨(Nat.le_of_ble_eq_true rfl), (Nat.le_of_ble_eq_true rfl)⟩ xKk_K (fun U hU hW => xK.warm hW hK) hP hD [] rfl rfl rfl hl.1 rfl (Nat.le_of_ble_eq_true rfl) dX6_act_82 ⟨Nat.zero_le _, Nat.zero_le _⟩) hP hD hS hA [] rfl rfl (fun H locs hP hD hS => ?_)
        obtain ⟨o_10, o_11, o_12, hq_13, hF⟩ := bd3_e hF
        refine xrv (xrunV (As := [.int (f_X6_kindOf (v_t_book_held (v_t_shelves_rule i1.toNatClampNeg).toNatClampNeg)), .int (v_t_shelves_rule i1.toNatClampNeg), .int (f_X6_aOf (v_t_book_held (v_t_shelves_rule i1.toNatClampNeg).toNatClampNeg))]) (rest := []) (c_X5_become l D cI cB cJ a_t_thing a_t_thing_ran _ (0 : Int32) s_t_thing_kind s_t_thing_number s_t_thing_a s_t_thing_parted (f_X6_kindOf (v_t_book_held (v_t_shelves_rule i1.toNatClampNeg).toNatClampNeg)) (v_t_shelves_rule i1.toNatClampNeg) (f_X6_aOf (v_t_book_held (v_t_shelves_rule i1.toNatClampNeg).toNatClampNeg)) o_10 o_11 o_12 hq_13) hfix xw_640 yv_X5_become ⟨rfl, rfl⟩ ⟨(Nat.le_of_ble_eq_true rfl), (Nat.le_of_ble_eq_true rfl)⟩ xKk_K (fun U hU hW => xK.warm hW hK) hK.1 hP hD [1] rfl rfl 1 5 rfl rfl rfl rfl hl.1 rfl (Nat.le_of_ble_eq_true rfl) dX6_act_85 ⟨Nat.zero_le _, Nat.zero_le _⟩) hP hD hS hA [1] rfl rfl rfl (wn := [(a_t, .inr (6, [.ref a_t_book, .ref a_t_kept, .ref a_t_told, .ref a_t_tape, .ref a_t_rows, .ref a_t_sheets, .ref a_t_shelves, .ref a_t_thing, .ref a_t_shares, .ref a_t_ahead, .int s_t_isKept, .int s_t_z, .int s_t_keptZ])), (a_t_thing, .inr (5, [.ref a_t_thing_ran, .int (0 : Int32), .int o_10, .int o_11, .int o_12, .int s_t_thing_parted])), (a_t_shelves, .inr (3, [.ref a_t_shelves_rule, .ref a_t_shelves_sort, .ref a_t_shelves_size])), (a_t_shelves_rule, .inl (cI, 4, .inl v_t_shelves_rule)), (a_t_book, .inr (0, [.ref a_t_book_village, .ref a_t_book_mark, .ref a_t_book_held, .int s_t_book_heldCount, .int s_t_book_villages])), (a_t_book_held, .inl (cI, 6, .inl v_t_book_held)), (a_t_thing_ran, .inl (cI, 30, .inl v_t_thing_ran))]) rfl (fun H locs hP hD hS => ?_)
        refine lv_aload_n hx hb dX6_act_88 rfl (lv_at hl 1 rfl) ?_
        refine xget (ci := 6) (C := RX6) (T := TX6) (N := 13) hfix xiX6 hK.1 hP 0 rfl rfl 7 (by decide) rfl xw_168 rfl dX6_act_89 ?_
        refine lv_iload_n hx hb dX6_act_92 rfl (lv_at hl 3 rfl) ?_
        refine lv_iload_n hx hb dX6_act_93 rfl (lv_at hl 4 rfl) ?_
        obtain ⟨r_14, o_15, o_16, o_17, hq_18, hF⟩ := bd4_e hF
        refine xri (xrunV (As := [.int i2, .int i3]) (rest := []) (c_X5_answer l D cI cB cJ tO tB adK adV vf hvf a_t_thing a_t_thing_ran _ (0 : Int32) o_10 o_11 o_12 s_t_thing_parted v_t_thing_ran i2 i3 r_14 o_15 o_16 o_17 hq_18) hfix xw_644 yv_X5_answer ⟨rfl, rfl⟩ ⟨(Nat.le_of_ble_eq_true rfl), (Nat.le_of_ble_eq_true rfl)⟩ xKTk (fun U hU hW => xKT.at hK hT hS (va_free hD hS hA [1, 6] rfl) U hU hW) hK.1 hP hD [1, 6] rfl rfl 1 5 rfl rfl rfl rfl hl.1 rfl (Nat.le_of_ble_eq_true rfl) dX6_act_94 ⟨Nat.zero_le _, Nat.zero_le _⟩) hP hD hS hA [1, 6] rfl rfl rfl (wn := [(a_t, .inr (6, [.ref a_t_book, .ref a_t_kept, .ref a_t_told, .ref a_t_tape, .ref a_t_rows, .ref a_t_sheets, .ref a_t_shelves, .ref a_t_thing, .ref a_t_shares, .ref a_t_ahead, .int s_t_isKept, .int s_t_z, .int s_t_keptZ])), (a_t_thing, .inr (5, [.ref a_t_thing_ran, .int o_15, .int o_10, .int o_11, .int o_12, .int o_16])), (a_t_shelves, .inr (3, [.ref a_t_shelves_rule, .ref a_t_shelves_sort, .ref a_t_shelves_size])), (a_t_shelves_rule, .inl (cI, 4, .inl v_t_shelves_rule)), (a_t_book, .inr (0, [.ref a_t_book_village, .ref a_t_book_mark, .ref a_t_book_held, .int s_t_book_heldCount, .int s_t_book_villages])), (a_t_book_held, .inl (cI, 6, .inl v_t_book_held)), (a_t_thing_ran, .inl (cI, 30, .inl o_17))]) rfl (fun H locs hP hD hS => ?_)
        obtain ⟨rfl, rfl, rfl, rfl, rfl, rfl, rfl⟩ := pj7 hF
        exact hEnd _ _ _ _ _ dX6_act_97 hP hS rfl
      · replace hF := if_t c_7 hF
        refine lv_iconst (v := (0 : Int32)) hx hb dX6_act_51 (by decide) ?_
        obtain ⟨rfl, rfl, rfl, rfl, rfl, rfl, rfl⟩ := pj7 hF
        exact hEnd _ _ _ _ _ dX6_act_52 hP hS rfl
    · replace hF := if_f c_4 hF
      refine lv_iconst (v := (0 : Int32)) hx hb dX6_act_26 (by decide) ?_
      obtain ⟨rfl, rfl, rfl, rfl, rfl, rfl, rfl⟩ := pj7 hF
      exact hEnd _ _ _ _ _ dX6_act_27 hP hS rfl
