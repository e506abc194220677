/-! the methods that ask texts, tables or copies -/
def f_X4_named_L2 (si : Nat) (s_t_place : Int32) (s_t_count : Int32) (v_t_bytes : (Nat → Int32)) : Nat → Int32 → Option ((Unit) ⊕ (Int32 × Int32))
  | 0, _ => none
  | n + 1, x2_1 => (if (f_J0_length_8abf5 si) ≤ x2_1 then some (.inl ()) else bd1 (f_X4_byteAt (s_t_place + x2_1) s_t_count v_t_bytes) (fun (r_3 : Int32) => bd1 (f_J0_charAt_5068e si x2_1) (fun (r_5 : Int32) => (if r_3 = r_5 then f_X4_named_L2 si s_t_place s_t_count v_t_bytes n (x2_1 + (1 : Int32)) else some (.inr ((0 : Int32), s_t_place))))))
def f_X4_named (si : Nat) (s_t_count : Int32) (s_t_place : Int32) (v_t_bytes : (Nat → Int32)) : Option (Int32 × Int32) := bs0 (f_X4_named_L2 si s_t_place s_t_count v_t_bytes 1000 (0 : Int32)) (bd1 (f_X4_letterAt (s_t_place + (f_J0_length_8abf5 si)) s_t_count v_t_bytes) (fun (r_9 : Int32) => (if r_9 = (0 : Int32) then some (((1 : Int32), (s_t_place + (f_J0_length_8abf5 si)))) else some (((0 : Int32), s_t_place))))) (fun q => some (q))
abbrev rmX4_named : Room := { frames := 4, cells := 0, slots := 0, locals := 85 }
set_option maxHeartbeats 400000 in
set_option maxRecDepth 100000 in
theorem c_X4_named (l : Launch) (D : va_G) (cI cB cJ : ClassId) (tO tB : Nat) (adK adV : Nat → Nat) (vf : Value) (hvf : vf = .null ∨ ∃ q, vf = .ref q) (si : Nat) (hsi : si < 11) (a_t : Nat) (a_t_bytes : Nat) (sz : Nat) (s_t_count : Int32) (s_t_place : Int32) (s_t_fault : Int32) (v_t_bytes : (Nat → Int32)) (r : Int32) (o_s_t_place : Int32) (hF : f_X4_named si s_t_count s_t_place v_t_bytes = some (r, o_s_t_place)) : xMz l yX4_named (.code yX4_named cX4_named 3 (some .boolean) :: xU) rmX4_named (xKT D cI cB cJ tO tB adK adV vf [(a_t, .inr (4, [.ref a_t_bytes, .int s_t_count, .int s_t_place, .int s_t_fault])), (a_t_bytes, .inl (cB, 200, .inl v_t_bytes))]) D sz [.ref a_t, .ref (adK si)] [(a_t, .inr (4, [.ref a_t_bytes, .int s_t_count, .int s_t_place, .int s_t_fault])), (a_t_bytes, .inl (cB, 200, .inl v_t_bytes))] [(a_t, .inr (4, [.ref a_t_bytes, .int s_t_count, .int o_s_t_place, .int s_t_fault])), (a_t_bytes, .inl (cB, 200, .inl v_t_bytes))] r := by
  refine xMz.mkT (own := "FairNext$Tape") (by decide +kernel) rfl (Nat.le_of_ble_eq_true rfl) ?_
  intro p e s m args below meth c A Q ls H hfix hK hT hP hD hA hS hl hEnd
  obtain ⟨hx, hb, hml, hown, hts⟩ := id hfix
  have hl : lv_has ls 3 [(0, .ref a_t), (1, .ref (adK si))] := hl
  rw [f_X4_named] at hF
  refine lv_iconst (v := (0 : Int32)) hx hb dX4_named_0 (by decide) ?_
  refine lv_istore_n (lv' := [(2, .int (0 : Int32)), (0, .ref a_t), (1, .ref (adK si))]) hx hb dX4_named_1 rfl hl (by decide) rfl (fun ls hl => ?_)
  have hL_2 : ∀ (n : Nat) (x2_1 : Int32) (_res : (Unit) ⊕ (Int32 × Int32)), f_X4_named_L2 si s_t_place s_t_count v_t_bytes n x2_1 = some _res → ∀ (H : Heap) (locs : List Loc) (ls : Array Slot), va_P D vwCl [(a_t, .inr (4, [.ref a_t_bytes, .int s_t_count, .int s_t_place, .int s_t_fault])), (a_t_bytes, .inl (cB, 200, .inl v_t_bytes))] H → va_D A [(a_t, .inr (4, [.ref a_t_bytes, .int s_t_count, .int s_t_place, .int s_t_fault])), (a_t_bytes, .inl (cB, 200, .inl v_t_bytes))] → va_S A s.heap H locs → lv_has ls 3 [(0, .ref a_t), (1, .ref (adK si)), (2, .int x2_1)] → (_res = .inl () → ∀ (H : Heap) (locs : List Loc) (ls : Array Slot), va_P D vwCl [(a_t, .inr (4, [.ref a_t_bytes, .int s_t_count, .int s_t_place, .int s_t_fault])), (a_t_bytes, .inl (cB, 200, .inl v_t_bytes))] H → va_D A [(a_t, .inr (4, [.ref a_t_bytes, .int s_t_count, .int s_t_place, .int s_t_fault])), (a_t_bytes, .inl (cB, 200, .inl v_t_bytes))] → va_S A s.heap H locs → lv_has ls 3 [(0, .ref a_t), (1, .ref (adK si))] → W p l e rmX4_named s m args below meth c H locs 0 0 Q (F0 m 36 ls [])) → (∀ q : Int32 × Int32, _res = .inr q → q = (r, o_s_t_place)) → W p l e rmX4_named s m args below meth c H locs 0 0 Q (F0 m 2 ls []) := by
    intro n
    induction n with
    | zero => intro x2_1 _res hF; exact (no_some hF).elim
    | succ n ih =>
      intro x2_1 _res hF H locs ls hP hD hS hl kexit hret
      rw [f_X4_named_L2] at hF
      refine lv_iload_n hx hb dX4_named_2 rfl (lv_at hl 2 rfl) ?_
      refine lv_aload_n hx hb dX4_named_3 rfl (lv_at hl 1 rfl) ?_
      refine xri0 (xrunVr (As := []) (rest := [.int x2_1]) (c_J0_length_8abf5 l D cI cB cJ tO tB adK adV vf hvf si hsi _ (f_J0_length_8abf5 si) rfl) hfix xw_242 yv_J0_length_8abf5 ⟨rfl, rfl⟩ ⟨(Nat.le_of_ble_eq_true rfl), (Nat.le_of_ble_eq_true rfl)⟩ xKTk (fun U hU hW => xKT.at hK hT hS (va_free hD hS hA [] rfl) U hU hW) (vk_recv hT.2.2.2.2.1 hsi hS) hP hD [] rfl rfl rfl hl.1 rfl (Nat.le_of_ble_eq_true rfl) dX4_named_4 ⟨Nat.zero_le _, Nat.zero_le _⟩) hP hD hS hA [] rfl rfl (fun H locs hP hD hS => ?_)
      refine lv_icmp_ge (tgt := 36) hx hb dX4_named_7 (by decide) (fun c_2 => ?_) (fun c_2 => ?_)
      · replace hF := if_t c_2 hF
        obtain rfl := Option.some.inj hF
        exact kexit rfl _ _ _ hP hD hS (lv_sub hl [0, 1] rfl)
      · replace hF := if_f c_2 hF
        refine lv_aload_n hx hb dX4_named_10 rfl (lv_at hl 0 rfl) ?_
        refine lv_aload_n hx hb dX4_named_11 rfl (lv_at hl 0 rfl) ?_
        refine xget (ci := 4) (C := RX4) (T := TX4) (N := 4) hfix xiX4 hK.1 hP 0 rfl rfl 2 (by decide) rfl xw_68 rfl dX4_named_12 ?_
        refine lv_iload_n hx hb dX4_named_15 rfl (lv_at hl 2 rfl) ?_
        refine lv_iadd hx hb dX4_named_16 ?_
        obtain ⟨r_3, hq_4, hF⟩ := bd1_e hF
        refine xri0 (xrunV (As := [.int (s_t_place + x2_1)]) (rest := []) (c_X4_byteAt l D cI cB cJ a_t a_t_bytes _ s_t_count s_t_place s_t_fault v_t_bytes (s_t_place + x2_1) r_3 hq_4) hfix xw_225 yv_X4_byteAt ⟨rfl, rfl⟩ ⟨(Nat.le_of_ble_eq_true rfl), (Nat.le_of_ble_eq_true rfl)⟩ xKk_K (fun U hU hW => xK.warm hW hK) hK.1 hP hD [0, 1] rfl rfl 0 4 rfl rfl rfl rfl hl.1 rfl (Nat.le_of_ble_eq_true rfl) dX4_named_17 ⟨Nat.zero_le _, Nat.zero_le _⟩) hP hD hS hA [0, 1] rfl rfl (fun H locs hP hD hS => ?_)
        refine lv_aload_n hx hb dX4_named_20 rfl (lv_at hl 1 rfl) ?_
        refine lv_iload_n hx hb dX4_named_21 rfl (lv_at hl 2 rfl) ?_
        obtain ⟨r_5, hq_6, hF⟩ := bd1_e hF
        refine xrn0 (xrunVr (As := [.int x2_1]) (rest := [.int r_3]) (c_J0_charAt_5068e l D cI cB cJ tO tB adK adV vf hvf si hsi _ x2_1 r_5 hq_6) hfix xw_252 yv_J0_charAt_5068e ⟨rfl, rfl⟩ ⟨(Nat.le_of_ble_eq_true rfl), (Nat.le_of_ble_eq_true rfl)⟩ xKTk (fun U hU hW => xKT.at hK hT hS (va_free hD hS hA [] rfl) U hU hW) (vk_recv hT.2.2.2.2.1 hsi hS) hP hD [] rfl rfl rfl hl.1 rfl (Nat.le_of_ble_eq_true rfl) dX4_named_22 ⟨Nat.zero_le _, Nat.zero_le _⟩) hP hD hS hA [] rfl rfl (fun H locs hP hD hS hz_7 => ?_)
        refine lv_icmp_eq (tgt := 30) hx hb dX4_named_25 (by decide) (fun c_8 => ?_) (fun c_8 => ?_)
        · replace hF := if_t c_8 hF
          refine lv_iinc (v := (x2_1 + (1 : Int32))) (lv' := [(2, .int (x2_1 + (1 : Int32))), (0, .ref a_t), (1, .ref (adK si))]) hx hb dX4_named_30 hl (k := 2) rfl rfl (by decide) rfl (fun ls hl => ?_)
          refine lv_goto (tgt := 2) hx hb dX4_named_33 (by decide) ?_
          exact ih _ _ hF _ _ _ hP hD hS (lv_sub hl [1, 2, 0] rfl) kexit hret
        · replace hF := if_f c_8 hF
          refine lv_iconst (v := (0 : Int32)) hx hb dX4_named_28 (by decide) ?_
          obtain rfl := Option.some.inj hF
          have hF := hret _ rfl
          obtain ⟨rfl, rfl⟩ := tj2 hF
          exact hEnd _ _ _ _ _ dX4_named_29 hP hS x01_0 rfl
  rcases bs0_e hF with ⟨hq, hF⟩ | ⟨q, hq, hF⟩
  · refine hL_2 _ _ _ hq _ _ _ hP hD hS (lv_sub hl [1, 2, 0] rfl) (fun e H locs ls hP hD hS hl => ?_) (fun q e => nomatch e)
    cases e
    refine lv_aload_n hx hb dX4_named_36 rfl (lv_at hl 0 rfl) ?_
    refine lv_aload_n hx hb dX4_named_37 rfl (lv_at hl 0 rfl) ?_
    refine xget (ci := 4) (C := RX4) (T := TX4) (N := 4) hfix xiX4 hK.1 hP 0 rfl rfl 2 (by decide) rfl xw_68 rfl dX4_named_38 ?_
    refine lv_aload_n hx hb dX4_named_41 rfl (lv_at hl 1 rfl) ?_
    refine xri0 (xrunVr (As := []) (rest := [.int s_t_place, .ref a_t]) (c_J0_length_8abf5 l D cI cB cJ tO tB adK adV vf hvf si hsi _ (f_J0_length_8abf5 si) rfl) hfix xw_242 yv_J0_length_8abf5 ⟨rfl, rfl⟩ ⟨(Nat.le_of_ble_eq_true rfl), (Nat.le_of_ble_eq_true rfl)⟩ xKTk (fun U hU hW => xKT.at hK hT hS (va_free hD hS hA [] rfl) U hU hW) (vk_recv hT.2.2.2.2.1 hsi hS) hP hD [] rfl rfl rfl hl.1 rfl (Nat.le_of_ble_eq_true rfl) dX4_named_42 ⟨Nat.zero_le _, Nat.zero_le _⟩) hP hD hS hA [] rfl rfl (fun H locs hP hD hS => ?_)
    refine lv_iadd hx hb dX4_named_45 ?_
    obtain ⟨r_9, hq_10, hF⟩ := bd1_e hF
    refine xrz0 (xrunV (As := [.int (s_t_place + (f_J0_length_8abf5 si))]) (rest := []) (c_X4_letterAt l D cI cB cJ a_t a_t_bytes _ s_t_count s_t_place s_t_fault v_t_bytes (s_t_place + (f_J0_length_8abf5 si)) r_9 hq_10) hfix xw_290 yv_X4_letterAt ⟨rfl, rfl⟩ ⟨(Nat.le_of_ble_eq_true rfl), (Nat.le_of_ble_eq_true rfl)⟩ xKk_K (fun U hU hW => xK.warm hW hK) hK.1 hP hD [0, 1] rfl rfl 0 4 rfl rfl rfl rfl hl.1 rfl (Nat.le_of_ble_eq_true rfl) dX4_named_46 ⟨Nat.zero_le _, Nat.zero_le _⟩) hP hD hS hA [0, 1] rfl rfl (fun H locs hP hD hS hz_11 => ?_)
    refine lv_if_eq (tgt := 54) hx hb dX4_named_49 (by decide) (fun c_12 => ?_) (fun c_12 => ?_)
    · replace hF := if_t c_12 hF
      refine lv_aload_n hx hb dX4_named_54 rfl (lv_at hl 0 rfl) ?_
      refine lv_dup hx hb dX4_named_55 rfl ?_
      refine xget (ci := 4) (C := RX4) (T := TX4) (N := 4) hfix xiX4 hK.1 hP 0 rfl rfl 2 (by decide) rfl xw_68 rfl dX4_named_56 ?_
      refine lv_aload_n hx hb dX4_named_59 rfl (lv_at hl 1 rfl) ?_
      refine xri0 (xrunVr (As := []) (rest := [.int s_t_place, .ref a_t]) (c_J0_length_8abf5 l D cI cB cJ tO tB adK adV vf hvf si hsi _ (f_J0_length_8abf5 si) rfl) hfix xw_242 yv_J0_length_8abf5 ⟨rfl, rfl⟩ ⟨(Nat.le_of_ble_eq_true rfl), (Nat.le_of_ble_eq_true rfl)⟩ xKTk (fun U hU hW => xKT.at hK hT hS (va_free hD hS hA [] rfl) U hU hW) (vk_recv hT.2.2.2.2.1 hsi hS) hP hD [] rfl rfl rfl hl.1 rfl (Nat.le_of_ble_eq_true rfl) dX4_named_60 ⟨Nat.zero_le _, Nat.zero_le _⟩) hP hD hS hA [] rfl rfl (fun H locs hP hD hS => ?_)
      refine lv_iadd hx hb dX4_named_63 ?_
      refine xput (ci := 4) (C := RX4) (T := TX4) (N := 4) hfix xiX4 tyX4 tyX4_ok nmX4 hK.1 hP hD hS 0 rfl rfl 2 (by decide) rfl rfl xw_68 (ty := .int) rfl rfl rfl (Nat.le_of_ble_eq_true rfl) dX4_named_64 (wn := [(a_t, .inr (4, [.ref a_t_bytes, .int s_t_count, .int (s_t_place + (f_J0_length_8abf5 si)), .int s_t_fault])), (a_t_bytes, .inl (cB, 200, .inl v_t_bytes))]) rfl (fun H locs hP hD hS => ?_)
      refine lv_iconst (v := (1 : Int32)) hx hb dX4_named_67 (by decide) ?_
      obtain ⟨rfl, rfl⟩ := pj2 hF
      exact hEnd _ _ _ _ _ dX4_named_68 hP hS x01_1 rfl
    · replace hF := if_f c_12 hF
      refine lv_iconst (v := (0 : Int32)) hx hb dX4_named_52 (by decide) ?_
      obtain ⟨rfl, rfl⟩ := pj2 hF
      exact hEnd _ _ _ _ _ dX4_named_53 hP hS x01_0 rfl
  · exact hL_2 _ _ _ hq _ _ _ hP hD hS (lv_sub hl [1, 2, 0] rfl) (fun e => nomatch e) (fun q e => by cases e; cases hF; rfl)
def f_X4_kindNamed (s_t_count : Int32) (s_t_place : Int32) (v_t_bytes : (Nat → Int32)) : Option (Int32 × Int32) := bd2 (f_X4_named 0 s_t_count s_t_place v_t_bytes) (fun (r_1 : Int32) (o_2 : Int32) => (if r_1 = (0 : Int32) then bd2 (f_X4_named 1 s_t_count o_2 v_t_bytes) (fun (r_6 : Int32) (o_7 : Int32) => (if r_6 = (0 : Int32) then bd2 (f_X4_named 2 s_t_count o_7 v_t_bytes) (fun (r_11 : Int32) (o_12 : Int32) => (if r_11 = (0 : Int32) then bd2 (f_X4_named 3 s_t_count o_12 v_t_bytes) (fun (r_16 : Int32) (o_17 : Int32) => (if r_16 = (0 : Int32) then bd2 (f_X4_named 4 s_t_count o_17 v_t_bytes) (fun (r_21 : Int32) (o_22 : Int32) => (if r_21 = (0 : Int32) then bd2 (f_X4_named 5 s_t_count o_22 v_t_bytes) (fun (r_26 : Int32) (o_27 : Int32) => (if r_26 = (0 : Int32) then some (((-1 : Int32), o_27)) else some (((5 : Int32), o_27)))) else some (((4 : Int32), o_22)))) else some (((3 : Int32), o_17)))) else some (((2 : Int32), o_12)))) else some (((1 : Int32), o_7)))) else some (((0 : Int32), o_2))))
abbrev rmX4_kindNamed : Room := { frames := 5, cells := 0, slots := 0, locals := 107 }
set_option maxHeartbeats 400000 in
set_option maxRecDepth 100000 in
theorem c_X4_kindNamed (l : Launch) (D : va_G) (cI cB cJ : ClassId) (tO tB : Nat) (adK adV : Nat → Nat) (vf : Value) (hvf : vf = .null ∨ ∃ q, vf = .ref q) (a_t : Nat) (a_t_bytes : Nat) (sz : Nat) (s_t_count : Int32) (s_t_place : Int32) (s_t_fault : Int32) (v_t_bytes : (Nat → Int32)) (r : Int32) (o_s_t_place : Int32) (hF : f_X4_kindNamed s_t_count s_t_place v_t_bytes = some (r, o_s_t_place)) : xMi l yX4_kindNamed (.code yX4_kindNamed cX4_kindNamed 1 (some .int) :: xU) rmX4_kindNamed (xKT D cI cB cJ tO tB adK adV vf [(a_t, .inr (4, [.ref a_t_bytes, .int s_t_count, .int s_t_place, .int s_t_fault])), (a_t_bytes, .inl (cB, 200, .inl v_t_bytes))]) D sz [.ref a_t] [(a_t, .inr (4, [.ref a_t_bytes, .int s_t_count, .int s_t_place, .int s_t_fault])), (a_t_bytes, .inl (cB, 200, .inl v_t_bytes))] [(a_t, .inr (4, [.ref a_t_bytes, .int s_t_count, .int o_s_t_place, .int s_t_fault])), (a_t_bytes, .inl (cB, 200, .inl v_t_bytes))] r := by
  refine xMi.mkT (own := "FairNext$Tape") (by decide +kernel) rfl (Nat.le_of_ble_eq_true rfl) ?_
  intro p e s m args below meth c A Q ls H hfix hK hT hP hD hA hS hl hEnd
  obtain ⟨hx, hb, hml, hown, hts⟩ := id hfix
  have hl : lv_has ls 1 [(0, .ref a_t)] := hl
  rw [f_X4_kindNamed] at hF
  refine lv_aload_n hx hb dX4_kindNamed_0 rfl (lv_at hl 0 rfl) ?_
  refine va_ldcS hx hb hown (hT.2.2.2.2.2.2.2 0 (by decide)) dX4_kindNamed_1 ?_
  obtain ⟨r_1, o_2, hq_3, hF⟩ := bd2_e hF
  refine xrz (xrunV (As := [.ref (adK 0)]) (rest := []) (c_X4_named l D cI cB cJ tO tB adK adV vf hvf 0 (by decide) a_t a_t_bytes _ s_t_count s_t_place s_t_fault v_t_bytes r_1 o_2 hq_3) hfix xw_238 yv_X4_named ⟨rfl, rfl⟩ ⟨(Nat.le_of_ble_eq_true rfl), (Nat.le_of_ble_eq_true rfl)⟩ xKTk (fun U hU hW => xKT.at hK hT hS (va_free hD hS hA [0, 1] rfl) U hU hW) hK.1 hP hD [0, 1] rfl rfl 0 4 rfl rfl rfl rfl hl.1 rfl (Nat.le_of_ble_eq_true rfl) dX4_kindNamed_3 ⟨Nat.zero_le _, Nat.zero_le _⟩) hP hD hS hA [0, 1] rfl rfl rfl (wn := [(a_t, .inr (4, [.ref a_t_bytes, .int s_t_count, .int o_2, .int s_t_fault])), (a_t_bytes, .inl (cB, 200, .inl v_t_bytes))]) rfl (fun H locs hP hD hS hz_4 => ?_)
  refine lv_if_eq (tgt := 11) hx hb dX4_kindNamed_6 (by decide) (fun c_5 => ?_) (fun c_5 => ?_)
  · replace hF := if_t c_5 hF
    refine lv_aload_n hx hb dX4_kindNamed_11 rfl (lv_at hl 0 rfl) ?_
    refine va_ldcS hx hb hown (hT.2.2.2.2.2.2.2 1 (by decide)) dX4_kindNamed_12 ?_
    obtain ⟨r_6, o_7, hq_8, hF⟩ := bd2_e hF
    refine xrz (xrunV (As := [.ref (adK 1)]) (rest := []) (c_X4_named l D cI cB cJ tO tB adK adV vf hvf 1 (by decide) a_t a_t_bytes _ s_t_count o_2 s_t_fault v_t_bytes r_6 o_7 hq_8) hfix xw_238 yv_X4_named ⟨rfl, rfl⟩ ⟨(Nat.le_of_ble_eq_true rfl), (Nat.le_of_ble_eq_true rfl)⟩ xKTk (fun U hU hW => xKT.at hK hT hS (va_free hD hS hA [0, 1] rfl) U hU hW) hK.1 hP hD [0, 1] rfl rfl 0 4 rfl rfl rfl rfl hl.1 rfl (Nat.le_of_ble_eq_true rfl) dX4_kindNamed_14 ⟨Nat.zero_le _, Nat.zero_le _⟩) hP hD hS hA [0, 1] rfl rfl rfl (wn := [(a_t, .inr (4, [.ref a_t_bytes, .int s_t_count, .int o_7, .int s_t_fault])), (a_t_bytes, .inl (cB, 200, .inl v_t_bytes))]) rfl (fun H locs hP hD hS hz_9 => ?_)
    refine lv_if_eq (tgt := 22) hx hb dX4_kindNamed_17 (by decide) (fun c_10 => ?_) (fun c_10 => ?_)
    · replace hF := if_t c_10 hF
      refine lv_aload_n hx hb dX4_kindNamed_22 rfl (lv_at hl 0 rfl) ?_
      refine va_ldcS hx hb hown (hT.2.2.2.2.2.2.2 2 (by decide)) dX4_kindNamed_23 ?_
      obtain ⟨r_11, o_12, hq_13, hF⟩ := bd2_e hF
      refine xrz (xrunV (As := [.ref (adK 2)]) (rest := []) (c_X4_named l D cI cB cJ tO tB adK adV vf hvf 2 (by decide) a_t a_t_bytes _ s_t_count o_7 s_t_fault v_t_bytes r_11 o_12 hq_13) hfix xw_238 yv_X4_named ⟨rfl, rfl⟩ ⟨(Nat.le_of_ble_eq_true rfl), (Nat.le_of_ble_eq_true rfl)⟩ xKTk (fun U hU hW => xKT.at hK hT hS (va_free hD hS hA [0, 1] rfl) U hU hW) hK.1 hP hD [0, 1] rfl rfl 0 4 rfl rfl rfl rfl hl.1 rfl (Nat.le_of_ble_eq_true rfl) dX4_kindNamed_25 ⟨Nat.zero_le _, Nat.zero_le _⟩) hP hD hS hA [0, 1] rfl rfl rfl (wn := [(a_t, .inr (4, [.ref a_t_bytes, .int s_t_count, .int o_12, .int s_t_fault])), (a_t_bytes, .inl (cB, 200, .inl v_t_bytes))]) rfl (fun H locs hP hD hS hz_14 => ?_)
      refine lv_if_eq (tgt := 33) hx hb dX4_kindNamed_28 (by decide) (fun c_15 => ?_) (fun c_15 => ?_)
      · replace hF := if_t c_15 hF
        refine lv_aload_n hx hb dX4_kindNamed_33 rfl (lv_at hl 0 rfl) ?_
        refine va_ldcS hx hb hown (hT.2.2.2.2.2.2.2 3 (by decide)) dX4_kindNamed_34 ?_
        obtain ⟨r_16, o_17, hq_18, hF⟩ := bd2_e hF
        refine xrz (xrunV (As := [.ref (adK 3)]) (rest := []) (c_X4_named l D cI cB cJ tO tB adK adV vf hvf 3 (by decide) a_t a_t_bytes _ s_t_count o_12 s_t_fault v_t_bytes r_16 o_17 hq_18) hfix xw_238 yv_X4_named ⟨rfl, rfl⟩ ⟨(Nat.le_of_ble_eq_true rfl), (Nat.le_of_ble_eq_true rfl)⟩ xKTk (fun U hU hW => xKT.at hK hT hS (va_free hD hS hA [0, 1] rfl) U hU hW) hK.1 hP hD [0, 1] rfl rfl 0 4 rfl rfl rfl rfl hl.1 rfl (Nat.le_of_ble_eq_true rfl) dX4_kindNamed_36 ⟨Nat.zero_le _, Nat.zero_le _⟩) hP hD hS hA [0, 1] rfl rfl rfl (wn := [(a_t, .inr (4, [.ref a_t_bytes, .int s_t_count, .int o_17, .int s_t_fault])), (a_t_bytes, .inl (cB, 200, .inl v_t_bytes))]) rfl (fun H locs hP hD hS hz_19 => ?_)
        refine lv_if_eq (tgt := 44) hx hb dX4_kindNamed_39 (by decide) (fun c_20 => ?_) (fun c_20 => ?_)
        · replace hF := if_t c_20 hF
          refine lv_aload_n hx hb dX4_kindNamed_44 rfl (lv_at hl 0 rfl) ?_
          refine va_ldcS hx hb hown (hT.2.2.2.2.2.2.2 4 (by decide)) dX4_kindNamed_45 ?_
          obtain ⟨r_21, o_22, hq_23, hF⟩ := bd2_e hF
          refine xrz (xrunV (As := [.ref (adK 4)]) (rest := []) (c_X4_named l D cI cB cJ tO tB adK adV vf hvf 4 (by decide) a_t a_t_bytes _ s_t_count o_17 s_t_fault v_t_bytes r_21 o_22 hq_23) hfix xw_238 yv_X4_named ⟨rfl, rfl⟩ ⟨(Nat.le_of_ble_eq_true rfl), (Nat.le_of_ble_eq_true rfl)⟩ xKTk (fun U hU hW => xKT.at hK hT hS (va_free hD hS hA [0, 1] rfl) U hU hW) hK.1 hP hD [0, 1] rfl rfl 0 4 rfl rfl rfl rfl hl.1 rfl (Nat.le_of_ble_eq_true rfl) dX4_kindNamed_47 ⟨Nat.zero_le _, Nat.zero_le _⟩) hP hD hS hA [0, 1] rfl rfl rfl (wn := [(a_t, .inr (4, [.ref a_t_bytes, .int s_t_count, .int o_22, .int s_t_fault])), (a_t_bytes, .inl (cB, 200, .inl v_t_bytes))]) rfl (fun H locs hP hD hS hz_24 => ?_)
          refine lv_if_eq (tgt := 55) hx hb dX4_kindNamed_50 (by decide) (fun c_25 => ?_) (fun c_25 => ?_)
          · replace hF := if_t c_25 hF
            refine lv_aload_n hx hb dX4_kindNamed_55 rfl (lv_at hl 0 rfl) ?_
            refine va_ldcS hx hb hown (hT.2.2.2.2.2.2.2 5 (by decide)) dX4_kindNamed_56 ?_
            obtain ⟨r_26, o_27, hq_28, hF⟩ := bd2_e hF
            refine xrz (xrunV (As := [.ref (adK 5)]) (rest := []) (c_X4_named l D cI cB cJ tO tB adK adV vf hvf 5 (by decide) a_t a_t_bytes _ s_t_count o_22 s_t_fault v_t_bytes r_26 o_27 hq_28) hfix xw_238 yv_X4_named ⟨rfl, rfl⟩ ⟨(Nat.le_of_ble_eq_true rfl), (Nat.le_of_ble_eq_true rfl)⟩ xKTk (fun U hU hW => xKT.at hK hT hS (va_free hD hS hA [0, 1] rfl) U hU hW) hK.1 hP hD [0, 1] rfl rfl 0 4 rfl rfl rfl rfl hl.1 rfl (Nat.le_of_ble_eq_true rfl) dX4_kindNamed_58 ⟨Nat.zero_le _, Nat.zero_le _⟩) hP hD hS hA [0, 1] rfl rfl rfl (wn := [(a_t, .inr (4, [.ref a_t_bytes, .int s_t_count, .int o_27, .int s_t_fault])), (a_t_bytes, .inl (cB, 200, .inl v_t_bytes))]) rfl (fun H locs hP hD hS hz_29 => ?_)
            refine lv_if_eq (tgt := 68) hx hb dX4_kindNamed_61 (by decide) (fun c_30 => ?_) (fun c_30 => ?_)
            · replace hF := if_t c_30 hF
              refine lv_iconst (v := (-1 : Int32)) hx hb dX4_kindNamed_68 (by decide) ?_
              obtain ⟨rfl, rfl⟩ := pj2 hF
              exact hEnd _ _ _ _ _ dX4_kindNamed_69 hP hS rfl
            · replace hF := if_f c_30 hF
              refine lv_iconst (v := (5 : Int32)) hx hb dX4_kindNamed_64 (by decide) ?_
              refine lv_goto (tgt := 69) hx hb dX4_kindNamed_65 (by decide) ?_
              obtain ⟨rfl, rfl⟩ := pj2 hF
              exact hEnd _ _ _ _ _ dX4_kindNamed_69 hP hS rfl
          · replace hF := if_f c_25 hF
            refine lv_iconst (v := (4 : Int32)) hx hb dX4_kindNamed_53 (by decide) ?_
            obtain ⟨rfl, rfl⟩ := pj2 hF
            exact hEnd _ _ _ _ _ dX4_kindNamed_54 hP hS rfl
        · replace hF := if_f c_20 hF
          refine lv_iconst (v := (3 : Int32)) hx hb dX4_kindNamed_42 (by decide) ?_
          obtain ⟨rfl, rfl⟩ := pj2 hF
          exact hEnd _ _ _ _ _ dX4_kindNamed_43 hP hS rfl
      · replace hF := if_f c_15 hF
        refine lv_iconst (v := (2 : Int32)) hx hb dX4_kindNamed_31 (by decide) ?_
        obtain ⟨rfl, rfl⟩ := pj2 hF
        exact hEnd _ _ _ _ _ dX4_kindNamed_32 hP hS rfl
    · replace hF := if_f c_10 hF
      refine lv_iconst (v := (1 : Int32)) hx hb dX4_kindNamed_20 (by decide) ?_
      obtain ⟨rfl, rfl⟩ := pj2 hF
      exact hEnd _ _ _ _ _ dX4_kindNamed_21 hP hS rfl
  · replace hF := if_f c_5 hF
    refine lv_iconst (v := (0 : Int32)) hx hb dX4_kindNamed_9 (by decide) ?_
    obtain ⟨rfl, rfl⟩ := pj2 hF
    exact hEnd _ _ _ _ _ dX4_kindNamed_10 hP hS rfl
def f_X4_need (si : Nat) (s_t_count : Int32) (s_t_place : Int32) (s_t_fault : Int32) (v_t_bytes : (Nat → Int32)) : Option (Int32 × Int32) := bd1 (f_X4_skipBlanks s_t_count s_t_place v_t_bytes) (fun (o_1 : Int32) => (if (0 : Int32) ≤ s_t_fault then some ((o_1, s_t_fault)) else bd2 (f_X4_named si s_t_count o_1 v_t_bytes) (fun (r_4 : Int32) (o_5 : Int32) => (if r_4 = (0 : Int32) then some ((o_5, (f_X4_fail o_5 s_t_fault))) else some ((o_5, s_t_fault))))))
abbrev rmX4_need : Room := { frames := 5, cells := 0, slots := 0, locals := 107 }
set_option maxHeartbeats 400000 in
set_option maxRecDepth 100000 in
theorem c_X4_need (l : Launch) (D : va_G) (cI cB cJ : ClassId) (tO tB : Nat) (adK adV : Nat → Nat) (vf : Value) (hvf : vf = .null ∨ ∃ q, vf = .ref q) (si : Nat) (hsi : si < 11) (a_t : Nat) (a_t_bytes : Nat) (sz : Nat) (s_t_count : Int32) (s_t_place : Int32) (s_t_fault : Int32) (v_t_bytes : (Nat → Int32)) (o_s_t_place : Int32) (o_s_t_fault : Int32) (hF : f_X4_need si s_t_count s_t_place s_t_fault v_t_bytes = some (o_s_t_place, o_s_t_fault)) : xMv l yX4_need (.code yX4_need cX4_need 2 none :: xU) rmX4_need (xKT D cI cB cJ tO tB adK adV vf [(a_t, .inr (4, [.ref a_t_bytes, .int s_t_count, .int s_t_place, .int s_t_fault])), (a_t_bytes, .inl (cB, 200, .inl v_t_bytes))]) D sz [.ref a_t, .ref (adK si)] [(a_t, .inr (4, [.ref a_t_bytes, .int s_t_count, .int s_t_place, .int s_t_fault])), (a_t_bytes, .inl (cB, 200, .inl v_t_bytes))] [(a_t, .inr (4, [.ref a_t_bytes, .int s_t_count, .int o_s_t_place, .int o_s_t_fault])), (a_t_bytes, .inl (cB, 200, .inl v_t_bytes))] := by
  refine xMv.mkT (own := "FairNext$Tape") (by decide +kernel) rfl (Nat.le_of_ble_eq_true rfl) ?_
  intro p e s m args below meth c A Q ls H hfix hK hT hP hD hA hS hl hEnd
  obtain ⟨hx, hb, hml, hown, hts⟩ := id hfix
  have hl : lv_has ls 2 [(0, .ref a_t), (1, .ref (adK si))] := hl
  rw [f_X4_need] at hF
  refine lv_aload_n hx hb dX4_need_0 rfl (lv_at hl 0 rfl) ?_
  obtain ⟨o_1, hq_2, hF⟩ := bd1_e hF
  refine xrv (xrunV (As := []) (rest := []) (c_X4_skipBlanks l D cI cB cJ a_t a_t_bytes _ s_t_count s_t_place s_t_fault v_t_bytes o_1 hq_2) hfix xw_221 yv_X4_skipBlanks ⟨rfl, rfl⟩ ⟨(Nat.le_of_ble_eq_true rfl), (Nat.le_of_ble_eq_true rfl)⟩ xKk_K (fun U hU hW => xK.warm hW hK) hK.1 hP hD [0, 1] rfl rfl 0 4 rfl rfl rfl rfl hl.1 rfl (Nat.le_of_ble_eq_true rfl) dX4_need_1 ⟨Nat.zero_le _, Nat.zero_le _⟩) hP hD hS hA [0, 1] rfl rfl rfl (wn := [(a_t, .inr (4, [.ref a_t_bytes, .int s_t_count, .int o_1, .int s_t_fault])), (a_t_bytes, .inl (cB, 200, .inl v_t_bytes))]) rfl (fun H locs hP hD hS => ?_)
  refine lv_aload_n hx hb dX4_need_4 rfl (lv_at hl 0 rfl) ?_
  refine xget (ci := 4) (C := RX4) (T := TX4) (N := 4) hfix xiX4 hK.1 hP 0 rfl rfl 3 (by decide) rfl xw_69 rfl dX4_need_5 ?_
  refine lv_if_ge (tgt := 27) hx hb dX4_need_8 (by decide) (fun c_3 => ?_) (fun c_3 => ?_)
  · replace hF := if_t c_3 hF
    obtain ⟨rfl, rfl⟩ := pj2 hF
    exact hEnd _ _ _ _ dX4_need_27 hP hS
  · replace hF := if_f c_3 hF
    refine lv_aload_n hx hb dX4_need_11 rfl (lv_at hl 0 rfl) ?_
    refine lv_aload_n hx hb dX4_need_12 rfl (lv_at hl 1 rfl) ?_
    obtain ⟨r_4, o_5, hq_6, hF⟩ := bd2_e hF
    refine xrz (xrunV (As := [.ref (adK si)]) (rest := []) (c_X4_named l D cI cB cJ tO tB adK adV vf hvf si hsi a_t a_t_bytes _ s_t_count o_1 s_t_fault v_t_bytes r_4 o_5 hq_6) hfix xw_238 yv_X4_named ⟨rfl, rfl⟩ ⟨(Nat.le_of_ble_eq_true rfl), (Nat.le_of_ble_eq_true rfl)⟩ xKTk (fun U hU hW => xKT.at hK hT hS (va_free hD hS hA [0, 1] rfl) U hU hW) hK.1 hP hD [0, 1] rfl rfl 0 4 rfl rfl rfl rfl hl.1 rfl (Nat.le_of_ble_eq_true rfl) dX4_need_13 ⟨Nat.zero_le _, Nat.zero_le _⟩) hP hD hS hA [0, 1] rfl rfl rfl (wn := [(a_t, .inr (4, [.ref a_t_bytes, .int s_t_count, .int o_5, .int s_t_fault])), (a_t_bytes, .inl (cB, 200, .inl v_t_bytes))]) rfl (fun H locs hP hD hS hz_7 => ?_)
    refine lv_if_ne (tgt := 27) hx hb dX4_need_16 (by decide) (fun c_8 => ?_) (fun c_8 => ?_)
    · replace hF := if_f c_8 hF
      obtain ⟨rfl, rfl⟩ := pj2 hF
      exact hEnd _ _ _ _ dX4_need_27 hP hS
    · replace hF := if_t c_8 hF
      refine lv_aload_n hx hb dX4_need_19 rfl (lv_at hl 0 rfl) ?_
      refine lv_aload_n hx hb dX4_need_20 rfl (lv_at hl 0 rfl) ?_
      refine xget (ci := 4) (C := RX4) (T := TX4) (N := 4) hfix xiX4 hK.1 hP 0 rfl rfl 2 (by decide) rfl xw_68 rfl dX4_need_21 ?_
      refine xrv (xrunV (As := [.int o_5]) (rest := []) (c_X4_fail l D cI cB cJ a_t a_t_bytes _ s_t_count o_5 s_t_fault o_5 (f_X4_fail o_5 s_t_fault) rfl) hfix xw_303 yv_X4_fail ⟨rfl, rfl⟩ ⟨(Nat.le_of_ble_eq_true rfl), (Nat.le_of_ble_eq_true rfl)⟩ xKk_K (fun U hU hW => xK.warm hW hK) hK.1 hP hD [0] rfl rfl 0 4 rfl rfl rfl rfl hl.1 rfl (Nat.le_of_ble_eq_true rfl) dX4_need_24 ⟨Nat.zero_le _, Nat.zero_le _⟩) hP hD hS hA [0] rfl rfl rfl (wn := [(a_t, .inr (4, [.ref a_t_bytes, .int s_t_count, .int o_5, .int (f_X4_fail o_5 s_t_fault)])), (a_t_bytes, .inl (cB, 200, .inl v_t_bytes))]) rfl (fun H locs hP hD hS => ?_)
      obtain ⟨rfl, rfl⟩ := pj2 hF
      exact hEnd _ _ _ _ dX4_need_27 hP hS
def f_X4_readYear (i2 : Int32) (s_t_count : Int32) (s_t_place : Int32) (s_t_fault : Int32) (v_t_bytes : (Nat → Int32)) (v_p1_village : (Nat → Int32)) (v_p1_mark : (Nat → Int32)) : Option (Int32 × Int32 × (Nat → Int32) × (Nat → Int32)) := bd3 (f_X4_number (0 : Int32) (23 : Int32) s_t_count s_t_place s_t_fault v_t_bytes) (fun (r_1 : Int32) (o_2 : Int32) (o_3 : Int32) => bd3 ((if i2 = (0 : Int32) then some (((-9 : Int32), o_2, o_3)) else bd2 (f_X4_need 8 s_t_count o_2 o_3 v_t_bytes) (fun (o_29 : Int32) (o_30 : Int32) => bd3 (f_X4_number (0 : Int32) (9 : Int32) s_t_count o_29 o_30 v_t_bytes) (fun (r_32 : Int32) (o_33 : Int32) (o_34 : Int32) => some ((r_32, o_33, o_34)))))) (fun (j_5 : Int32) (j_6 : Int32) (j_7 : Int32) => bd1 (f_X4_skipBlanks s_t_count j_6 v_t_bytes) (fun (o_8 : Int32) => bd3 ((if (0 : Int32) ≤ j_7 then some (((0 : Int32), o_8, j_7)) else bd2 (f_X4_named 9 s_t_count o_8 v_t_bytes) (fun (r_19 : Int32) (o_20 : Int32) => (if r_19 = (0 : Int32) then some (((0 : Int32), o_20, j_7)) else bd3 (f_X4_number (0 : Int32) (9 : Int32) s_t_count o_20 j_7 v_t_bytes) (fun (r_24 : Int32) (o_25 : Int32) (o_26 : Int32) => some ((r_24, o_25, o_26))))))) (fun (j_10 : Int32) (j_11 : Int32) (j_12 : Int32) => (if (0 : Int32) ≤ j_12 then some ((j_11, j_12, v_p1_village, v_p1_mark)) else (if (f_X6_outside r_1 (0 : Int32) (23 : Int32)) = (0 : Int32) then gd r_1 24 (gd r_1 24 (some ((j_11, j_12, (upd v_p1_village r_1.toNatClampNeg j_5), (upd v_p1_mark r_1.toNatClampNeg j_10))))) else some ((j_11, j_12, v_p1_village, v_p1_mark))))))))
abbrev rmX4_readYear : Room := { frames := 6, cells := 0, slots := 0, locals := 128 }
set_option maxHeartbeats 400000 in
set_option maxRecDepth 100000 in
theorem c_X4_readYear (l : Launch) (D : va_G) (cI cB cJ : ClassId) (tO tB : Nat) (adK adV : Nat → Nat) (vf : Value) (hvf : vf = .null ∨ ∃ q, vf = .ref q) (a_t : Nat) (a_t_bytes : Nat) (a_p1 : Nat) (a_p1_village : Nat) (a_p1_mark : Nat) (a_p1_held : Nat) (sz : Nat) (s_t_count : Int32) (s_t_place : Int32) (s_t_fault : Int32) (s_p1_heldCount : Int32) (s_p1_villages : Int32) (v_t_bytes : (Nat → Int32)) (v_p1_village : (Nat → Int32)) (v_p1_mark : (Nat → Int32)) (i2 : Int32) (o_s_t_place : Int32) (o_s_t_fault : Int32) (o_v_p1_village : (Nat → Int32)) (o_v_p1_mark : (Nat → Int32)) (hF : f_X4_readYear i2 s_t_count s_t_place s_t_fault v_t_bytes v_p1_village v_p1_mark = some (o_s_t_place, o_s_t_fault, o_v_p1_village, o_v_p1_mark)) : xMv l yX4_readYear (.code yX4_readYear cX4_readYear 6 none :: xU) rmX4_readYear (xKT D cI cB cJ tO tB adK adV vf [(a_t, .inr (4, [.ref a_t_bytes, .int s_t_count, .int s_t_place, .int s_t_fault])), (a_t_bytes, .inl (cB, 200, .inl v_t_bytes)), (a_p1, .inr (0, [.ref a_p1_village, .ref a_p1_mark, .ref a_p1_held, .int s_p1_heldCount, .int s_p1_villages])), (a_p1_village, .inl (cI, 24, .inl v_p1_village)), (a_p1_mark, .inl (cI, 24, .inl v_p1_mark))]) D sz [.ref a_t, .ref a_p1, .int i2] [(a_t, .inr (4, [.ref a_t_bytes, .int s_t_count, .int s_t_place, .int s_t_fault])), (a_t_bytes, .inl (cB, 200, .inl v_t_bytes)), (a_p1, .inr (0, [.ref a_p1_village, .ref a_p1_mark, .ref a_p1_held, .int s_p1_heldCount, .int s_p1_villages])), (a_p1_village, .inl (cI, 24, .inl v_p1_village)), (a_p1_mark, .inl (cI, 24, .inl v_p1_mark))] [(a_t, .inr (4, [.ref a_t_bytes, .int s_t_count, .int o_s_t_place, .int o_s_t_fault])), (a_t_bytes, .inl (cB, 200, .inl v_t_bytes)), (a_p1, .inr (0, [.ref a_p1_village, .ref a_p1_mark, .ref a_p1_held, .int s_p1_heldCount, .int s_p1_villages])), (a_p1_village, .inl (cI, 24, .inl o_v_p1_village)), (a_p1_mark, .inl (cI, 24, .inl o_v_p1_mark))] := by
  refine xMv.mkT (own := "FairNext$Tape") (by decide +kernel) rfl (Nat.le_of_ble_eq_true rfl) ?_
  intro p e s m args below meth c A Q ls H hfix hK hT hP hD hA hS hl hEnd
  obtain ⟨hx, hb, hml, hown, hts⟩ := id hfix
  have hl : lv_has ls 6 [(0, .ref a_t), (1, .ref a_p1), (2, .int i2)] := hl
  rw [f_X4_readYear] at hF
  refine lv_aload_n hx hb dX4_readYear_0 rfl (lv_at hl 0 rfl) ?_
  refine lv_iconst (v := (0 : Int32)) hx hb dX4_readYear_1 (by decide) ?_
  refine lv_bipush (v := (23 : Int32)) hx hb dX4_readYear_2 (by decide) ?_
  obtain ⟨r_1, o_2, o_3, hq_4, hF⟩ := bd3_e hF
  refine xri (xrunV (As := [.int (0 : Int32), .int (23 : Int32)]) (rest := []) (c_X4_number l D cI cB cJ a_t a_t_bytes _ s_t_count s_t_place s_t_fault v_t_bytes (0 : Int32) (23 : Int32) r_1 o_2 o_3 hq_4) hfix xw_307 yv_X4_number ⟨rfl, rfl⟩ ⟨(Nat.le_of_ble_eq_true rfl), (Nat.le_of_ble_eq_true rfl)⟩ xKk_K (fun U hU hW => xK.warm hW hK) hK.1 hP hD [0, 1] rfl rfl 0 4 rfl rfl rfl rfl hl.1 rfl (Nat.le_of_ble_eq_true rfl) dX4_readYear_4 ⟨Nat.zero_le _, Nat.zero_le _⟩) hP hD hS hA [0, 1] rfl rfl rfl (wn := [(a_t, .inr (4, [.ref a_t_bytes, .int s_t_count, .int o_2, .int o_3])), (a_t_bytes, .inl (cB, 200, .inl v_t_bytes)), (a_p1, .inr (0, [.ref a_p1_village, .ref a_p1_mark, .ref a_p1_held, .int s_p1_heldCount, .int s_p1_villages])), (a_p1_village, .inl (cI, 24, .inl v_p1_village)), (a_p1_mark, .inl (cI, 24, .inl v_p1_mark))]) rfl (fun H locs hP hD hS => ?_)
  refine lv_istore_n (lv' := [(3, .int r_1), (0, .ref a_t), (1, .ref a_p1), (2, .int i2)]) hx hb dX4_readYear_7 rfl hl (by decide) rfl (fun ls hl => ?_)
  refine lv_bipush (v := (-9 : Int32)) hx hb dX4_readYear_8 (by decide) ?_
  refine lv_istore (lv' := [(4, .int (-9 : Int32)), (3, .int r_1), (0, .ref a_t), (1, .ref a_p1), (2, .int i2)]) hx hb dX4_readYear_10 hl (by decide) rfl (fun ls hl => ?_)
  refine lv_iload_n hx hb dX4_readYear_12 rfl (lv_at hl 4 rfl) ?_
  obtain ⟨j_5, j_6, j_7, hJ, hF⟩ := bd3_e hF
  have hN_31_7 : ∀ (H : Heap) (locs : List Loc) (ls : Array Slot), va_P D vwCl [(a_t, .inr (4, [.ref a_t_bytes, .int s_t_count, .int j_6, .int j_7])), (a_t_bytes, .inl (cB, 200, .inl v_t_bytes)), (a_p1, .inr (0, [.ref a_p1_village, .ref a_p1_mark, .ref a_p1_held, .int s_p1_heldCount, .int s_p1_villages])), (a_p1_village, .inl (cI, 24, .inl v_p1_village)), (a_p1_mark, .inl (cI, 24, .inl v_p1_mark))] H → va_D A [(a_t, .inr (4, [.ref a_t_bytes, .int s_t_count, .int j_6, .int j_7])), (a_t_bytes, .inl (cB, 200, .inl v_t_bytes)), (a_p1, .inr (0, [.ref a_p1_village, .ref a_p1_mark, .ref a_p1_held, .int s_p1_heldCount, .int s_p1_villages])), (a_p1_village, .inl (cI, 24, .inl v_p1_village)), (a_p1_mark, .inl (cI, 24, .inl v_p1_mark))] → va_S A s.heap H locs → lv_has ls 6 [(0, .ref a_t), (1, .ref a_p1), (3, .int r_1), (4, .int j_5)] → W p l e rmX4_readYear s m args below meth c H locs 0 0 Q (F0 m 31 ls []) := by
    intro H locs ls hP hD hS hl
    refine lv_aload_n hx hb dX4_readYear_31 rfl (lv_at hl 0 rfl) ?_
    obtain ⟨o_8, hq_9, hF⟩ := bd1_e hF
    refine xrv (xrunV (As := []) (rest := []) (c_X4_skipBlanks l D cI cB cJ a_t a_t_bytes _ s_t_count j_6 j_7 v_t_bytes o_8 hq_9) hfix xw_221 yv_X4_skipBlanks ⟨rfl, rfl⟩ ⟨(Nat.le_of_ble_eq_true rfl), (Nat.le_of_ble_eq_true rfl)⟩ xKk_K (fun U hU hW => xK.warm hW hK) hK.1 hP hD [0, 1] rfl rfl 0 4 rfl rfl rfl rfl hl.1 rfl (Nat.le_of_ble_eq_true rfl) dX4_readYear_32 ⟨Nat.zero_le _, Nat.zero_le _⟩) hP hD hS hA [0, 1] rfl rfl rfl (wn := [(a_t, .inr (4, [.ref a_t_bytes, .int s_t_count, .int o_8, .int j_7])), (a_t_bytes, .inl (cB, 200, .inl v_t_bytes)), (a_p1, .inr (0, [.ref a_p1_village, .ref a_p1_mark, .ref a_p1_held, .int s_p1_heldCount, .int s_p1_villages])), (a_p1_village, .inl (cI, 24, .inl v_p1_village)), (a_p1_mark, .inl (cI, 24, .inl v_p1_mark))]) rfl (fun H locs hP hD hS => ?_)
    refine lv_aload_n hx hb dX4_readYear_35 rfl (lv_at hl 0 rfl) ?_
    refine xget (ci := 4) (C := RX4) (T := TX4) (N := 4) hfix xiX4 hK.1 hP 0 rfl rfl 3 (by decide) rfl xw_69 rfl dX4_readYear_36 ?_
    obtain ⟨j_10, j_11, j_12, hJ, hF⟩ := bd3_e hF
    have hN_62_12 : ∀ (H : Heap) (locs : List Loc) (ls : Array Slot), va_P D vwCl [(a_t, .inr (4, [.ref a_t_bytes, .int s_t_count, .int j_11, .int j_12])), (a_t_bytes, .inl (cB, 200, .inl v_t_bytes)), (a_p1, .inr (0, [.ref a_p1_village, .ref a_p1_mark, .ref a_p1_held, .int s_p1_heldCount, .int s_p1_villages])), (a_p1_village, .inl (cI, 24, .inl v_p1_village)), (a_p1_mark, .inl (cI, 24, .inl v_p1_mark))] H → va_D A [(a_t, .inr (4, [.ref a_t_bytes, .int s_t_count, .int j_11, .int j_12])), (a_t_bytes, .inl (cB, 200, .inl v_t_bytes)), (a_p1, .inr (0, [.ref a_p1_village, .ref a_p1_mark, .ref a_p1_held, .int s_p1_heldCount, .int s_p1_villages])), (a_p1_village, .inl (cI, 24, .inl v_p1_village)), (a_p1_mark, .inl (cI, 24, .inl v_p1_mark))] → va_S A s.heap H locs → lv_has ls 6 [(0, .ref a_t), (1, .ref a_p1), (3, .int r_1), (4, .int j_5)] → W p l e rmX4_readYear s m args below meth c H locs 0 0 Q (F0 m 62 ls [.int j_10]) := by
      intro H locs ls hP hD hS hl
      refine lv_istore (lv' := [(5, .int j_10), (0, .ref a_t), (1, .ref a_p1), (3, .int r_1), (4, .int j_5)]) hx hb dX4_readYear_62 hl (by decide) rfl (fun ls hl => ?_)
      refine lv_aload_n hx hb dX4_readYear_64 rfl (lv_at hl 1 rfl) ?_
      refine xget (ci := 4) (C := RX4) (T := TX4) (N := 4) hfix xiX4 hK.1 hP 0 rfl rfl 3 (by decide) rfl xw_69 rfl dX4_readYear_65 ?_
      refine lv_if_ge (tgt := 97) hx hb dX4_readYear_68 (by decide) (fun c_13 => ?_) (fun c_13 => ?_)
      · replace hF := if_t c_13 hF
        obtain ⟨rfl, rfl, rfl, rfl⟩ := pj4 hF
        exact hEnd _ _ _ _ dX4_readYear_97 hP hS
      · replace hF := if_f c_13 hF
        refine lv_iload_n hx hb dX4_readYear_71 rfl (lv_at hl 3 rfl) ?_
        refine lv_iconst (v := (0 : Int32)) hx hb dX4_readYear_72 (by decide) ?_
        refine lv_bipush (v := (23 : Int32)) hx hb dX4_readYear_73 (by decide) ?_
        refine xrz0 (xrunN (As := [.int r_1, .int (0 : Int32), .int (23 : Int32)]) (rest := []) (c_X6_outside l D cI cB cJ _ r_1 (0 : Int32) (23 : Int32) (f_X6_outside r_1 (0 : Int32) (23 : Int32)) rfl) hfix (hK.2 _ (List.mem_of_getElem? (i := 0) rfl)) ys_X6_outside ⟨rfl, rfl⟩ ⟨(Nat.le_of_ble_eq_true rfl), (Nat.le_of_ble_eq_true rfl)⟩ xKk_K (fun U hU hW => xK.warm hW hK) hP hD [] rfl rfl rfl hl.1 rfl (Nat.le_of_ble_eq_true rfl) dX4_readYear_75 ⟨Nat.zero_le _, Nat.zero_le _⟩) hP hD hS hA [] rfl rfl (fun H locs hP hD hS hz_14 => ?_)
        refine lv_if_ne (tgt := 97) hx hb dX4_readYear_78 (by decide) (fun c_15 => ?_) (fun c_15 => ?_)
        · replace hF := if_f c_15 hF
          obtain ⟨rfl, rfl, rfl, rfl⟩ := pj4 hF
          exact hEnd _ _ _ _ dX4_readYear_97 hP hS
        · replace hF := if_t c_15 hF
          refine lv_aload_n hx hb dX4_readYear_81 rfl (lv_at hl 2 rfl) ?_
          refine xget (ci := 0) (C := RX0) (T := TX0) (N := 5) hfix xiX0 hK.1 hP 2 rfl rfl 0 (by decide) rfl xw_35 rfl dX4_readYear_82 ?_
          refine lv_iload_n hx hb dX4_readYear_85 rfl (lv_at hl 3 rfl) ?_
          refine lv_iload hx hb dX4_readYear_86 (lv_at hl 4 rfl) ?_
          obtain ⟨c_16, hF⟩ := gd_e hF
          refine va_iast hx hb hK.1 hP hD hS 3 0 rfl rfl c_16 dX4_readYear_88 (fun H locs hP hD hS => ?_)
          have hP : va_P D vwCl [(a_t, .inr (4, [.ref a_t_bytes, .int s_t_count, .int j_11, .int j_12])), (a_t_bytes, .inl (cB, 200, .inl v_t_bytes)), (a_p1, .inr (0, [.ref a_p1_village, .ref a_p1_mark, .ref a_p1_held, .int s_p1_heldCount, .int s_p1_villages])), (a_p1_village, .inl (cI, 24, .inl (upd v_p1_village r_1.toNatClampNeg j_5))), (a_p1_mark, .inl (cI, 24, .inl v_p1_mark))] H := hP
          have hD : va_D A [(a_t, .inr (4, [.ref a_t_bytes, .int s_t_count, .int j_11, .int j_12])), (a_t_bytes, .inl (cB, 200, .inl v_t_bytes)), (a_p1, .inr (0, [.ref a_p1_village, .ref a_p1_mark, .ref a_p1_held, .int s_p1_heldCount, .int s_p1_villages])), (a_p1_village, .inl (cI, 24, .inl (upd v_p1_village r_1.toNatClampNeg j_5))), (a_p1_mark, .inl (cI, 24, .inl v_p1_mark))] := hD
          refine lv_aload_n hx hb dX4_readYear_89 rfl (lv_at hl 2 rfl) ?_
          refine xget (ci := 0) (C := RX0) (T := TX0) (N := 5) hfix xiX0 hK.1 hP 2 rfl rfl 1 (by decide) rfl xw_38 rfl dX4_readYear_90 ?_
          refine lv_iload_n hx hb dX4_readYear_93 rfl (lv_at hl 3 rfl) ?_
          refine lv_iload hx hb dX4_readYear_94 (lv_at hl 0 rfl) ?_
          obtain ⟨c_17, hF⟩ := gd_e hF
          refine va_iast hx hb hK.1 hP hD hS 4 0 rfl rfl c_17 dX4_readYear_96 (fun H locs hP hD hS => ?_)
          have hP : va_P D vwCl [(a_t, .inr (4, [.ref a_t_bytes, .int s_t_count, .int j_11, .int j_12])), (a_t_bytes, .inl (cB, 200, .inl v_t_bytes)), (a_p1, .inr (0, [.ref a_p1_village, .ref a_p1_mark, .ref a_p1_held, .int s_p1_heldCount, .int s_p1_villages])), (a_p1_village, .inl (cI, 24, .inl (upd v_p1_village r_1.toNatClampNeg j_5))), (a_p1_mark, .inl (cI, 24, .inl (upd v_p1_mark r_1.toNatClampNeg j_10)))] H := hP
          have hD : va_D A [(a_t, .inr (4, [.ref a_t_bytes, .int s_t_count, .int j_11, .int j_12])), (a_t_bytes, .inl (cB, 200, .inl v_t_bytes)), (a_p1, .inr (0, [.ref a_p1_village, .ref a_p1_mark, .ref a_p1_held, .int s_p1_heldCount, .int s_p1_villages])), (a_p1_village, .inl (cI, 24, .inl (upd v_p1_village r_1.toNatClampNeg j_5))), (a_p1_mark, .inl (cI, 24, .inl (upd v_p1_mark r_1.toNatClampNeg j_10)))] := hD
          obtain ⟨rfl, rfl, rfl, rfl⟩ := pj4 hF
          exact hEnd _ _ _ _ dX4_readYear_97 hP hS
    replace hF := hJ
    refine lv_if_ge (tgt := 61) hx hb dX4_readYear_39 (by decide) (fun c_18 => ?_) (fun c_18 => ?_)
    · replace hF := if_t c_18 hF
      refine lv_iconst (v := (0 : Int32)) hx hb dX4_readYear_61 (by decide) ?_
      obtain ⟨rfl, rfl, rfl⟩ := pj3 hF
      exact hN_62_12 _ _ _ hP hD hS (lv_sub hl [0, 1, 2, 3] rfl)
    · replace hF := if_f c_18 hF
      refine lv_aload_n hx hb dX4_readYear_42 rfl (lv_at hl 0 rfl) ?_
      refine va_ldcS hx hb hown (hT.2.2.2.2.2.2.2 9 (by decide)) dX4_readYear_43 ?_
      obtain ⟨r_19, o_20, hq_21, hF⟩ := bd2_e hF
      refine xrz (xrunV (As := [.ref (adK 9)]) (rest := []) (c_X4_named l D cI cB cJ tO tB adK adV vf hvf 9 (by decide) a_t a_t_bytes _ s_t_count o_8 j_7 v_t_bytes r_19 o_20 hq_21) hfix xw_238 yv_X4_named ⟨rfl, rfl⟩ ⟨(Nat.le_of_ble_eq_true rfl), (Nat.le_of_ble_eq_true rfl)⟩ xKTk (fun U hU hW => xKT.at hK hT hS (va_free hD hS hA [0, 1] rfl) U hU hW) hK.1 hP hD [0, 1] rfl rfl 0 4 rfl rfl rfl rfl hl.1 rfl (Nat.le_of_ble_eq_true rfl) dX4_readYear_45 ⟨Nat.zero_le _, Nat.zero_le _⟩) hP hD hS hA [0, 1] rfl rfl rfl (wn := [(a_t, .inr (4, [.ref a_t_bytes, .int s_t_count, .int o_20, .int j_7])), (a_t_bytes, .inl (cB, 200, .inl v_t_bytes)), (a_p1, .inr (0, [.ref a_p1_village, .ref a_p1_mark, .ref a_p1_held, .int s_p1_heldCount, .int s_p1_villages])), (a_p1_village, .inl (cI, 24, .inl v_p1_village)), (a_p1_mark, .inl (cI, 24, .inl v_p1_mark))]) rfl (fun H locs hP hD hS hz_22 => ?_)
      refine lv_if_eq (tgt := 61) hx hb dX4_readYear_48 (by decide) (fun c_23 => ?_) (fun c_23 => ?_)
      · replace hF := if_t c_23 hF
        refine lv_iconst (v := (0 : Int32)) hx hb dX4_readYear_61 (by decide) ?_
        obtain ⟨rfl, rfl, rfl⟩ := pj3 hF
        exact hN_62_12 _ _ _ hP hD hS (lv_sub hl [0, 1, 2, 3] rfl)
      · replace hF := if_f c_23 hF
        refine lv_aload_n hx hb dX4_readYear_51 rfl (lv_at hl 0 rfl) ?_
        refine lv_iconst (v := (0 : Int32)) hx hb dX4_readYear_52 (by decide) ?_
        refine lv_bipush (v := (9 : Int32)) hx hb dX4_readYear_53 (by decide) ?_
        obtain ⟨r_24, o_25, o_26, hq_27, hF⟩ := bd3_e hF
        refine xri (xrunV (As := [.int (0 : Int32), .int (9 : Int32)]) (rest := []) (c_X4_number l D cI cB cJ a_t a_t_bytes _ s_t_count o_20 j_7 v_t_bytes (0 : Int32) (9 : Int32) r_24 o_25 o_26 hq_27) hfix xw_307 yv_X4_number ⟨rfl, rfl⟩ ⟨(Nat.le_of_ble_eq_true rfl), (Nat.le_of_ble_eq_true rfl)⟩ xKk_K (fun U hU hW => xK.warm hW hK) hK.1 hP hD [0, 1] rfl rfl 0 4 rfl rfl rfl rfl hl.1 rfl (Nat.le_of_ble_eq_true rfl) dX4_readYear_55 ⟨Nat.zero_le _, Nat.zero_le _⟩) hP hD hS hA [0, 1] rfl rfl rfl (wn := [(a_t, .inr (4, [.ref a_t_bytes, .int s_t_count, .int o_25, .int o_26])), (a_t_bytes, .inl (cB, 200, .inl v_t_bytes)), (a_p1, .inr (0, [.ref a_p1_village, .ref a_p1_mark, .ref a_p1_held, .int s_p1_heldCount, .int s_p1_villages])), (a_p1_village, .inl (cI, 24, .inl v_p1_village)), (a_p1_mark, .inl (cI, 24, .inl v_p1_mark))]) rfl (fun H locs hP hD hS => ?_)
        refine lv_goto (tgt := 62) hx hb dX4_readYear_58 (by decide) ?_
        obtain ⟨rfl, rfl, rfl⟩ := pj3 hF
        exact hN_62_12 _ _ _ hP hD hS (lv_sub hl [0, 1, 2, 3] rfl)
  replace hF := hJ
  refine lv_if_eq (tgt := 31) hx hb dX4_readYear_13 (by decide) (fun c_28 => ?_) (fun c_28 => ?_)
  · replace hF := if_t c_28 hF
    obtain ⟨rfl, rfl, rfl⟩ := pj3 hF
    exact hN_31_7 _ _ _ hP hD hS (lv_sub hl [2, 3, 1, 0] rfl)
  · replace hF := if_f c_28 hF
    refine lv_aload_n hx hb dX4_readYear_16 rfl (lv_at hl 2 rfl) ?_
    refine va_ldcS hx hb hown (hT.2.2.2.2.2.2.2 8 (by decide)) dX4_readYear_17 ?_
    obtain ⟨o_29, o_30, hq_31, hF⟩ := bd2_e hF
    refine xrv (xrunV (As := [.ref (adK 8)]) (rest := []) (c_X4_need l D cI cB cJ tO tB adK adV vf hvf 8 (by decide) a_t a_t_bytes _ s_t_count o_2 o_3 v_t_bytes o_29 o_30 hq_31) hfix xw_330 yv_X4_need ⟨rfl, rfl⟩ ⟨(Nat.le_of_ble_eq_true rfl), (Nat.le_of_ble_eq_true rfl)⟩ xKTk (fun U hU hW => xKT.at hK hT hS (va_free hD hS hA [0, 1] rfl) U hU hW) hK.1 hP hD [0, 1] rfl rfl 0 4 rfl rfl rfl rfl hl.1 rfl (Nat.le_of_ble_eq_true rfl) dX4_readYear_19 ⟨Nat.zero_le _, Nat.zero_le _⟩) hP hD hS hA [0, 1] rfl rfl rfl (wn := [(a_t, .inr (4, [.ref a_t_bytes, .int s_t_count, .int o_29, .int o_30])), (a_t_bytes, .inl (cB, 200, .inl v_t_bytes)), (a_p1, .inr (0, [.ref a_p1_village, .ref a_p1_mark, .ref a_p1_held, .int s_p1_heldCount, .int s_p1_villages])), (a_p1_village, .inl (cI, 24, .inl v_p1_village)), (a_p1_mark, .inl (cI, 24, .inl v_p1_mark))]) rfl (fun H locs hP hD hS => ?_)
    refine lv_aload_n hx hb dX4_readYear_22 rfl (lv_at hl 2 rfl) ?_
    refine lv_iconst (v := (0 : Int32)) hx hb dX4_readYear_23 (by decide) ?_
    refine lv_bipush (v := (9 : Int32)) hx hb dX4_readYear_24 (by decide) ?_
    obtain ⟨r_32, o_33, o_34, hq_35, hF⟩ := bd3_e hF
    refine xri (xrunV (As := [.int (0 : Int32), .int (9 : Int32)]) (rest := []) (c_X4_number l D cI cB cJ a_t a_t_bytes _ s_t_count o_29 o_30 v_t_bytes (0 : Int32) (9 : Int32) r_32 o_33 o_34 hq_35) hfix xw_307 yv_X4_number ⟨rfl, rfl⟩ ⟨(Nat.le_of_ble_eq_true rfl), (Nat.le_of_ble_eq_true rfl)⟩ xKk_K (fun U hU hW => xK.warm hW hK) hK.1 hP hD [0, 1] rfl rfl 0 4 rfl rfl rfl rfl hl.1 rfl (Nat.le_of_ble_eq_true rfl) dX4_readYear_26 ⟨Nat.zero_le _, Nat.zero_le _⟩) hP hD hS hA [0, 1] rfl rfl rfl (wn := [(a_t, .inr (4, [.ref a_t_bytes, .int s_t_count, .int o_33, .int o_34])), (a_t_bytes, .inl (cB, 200, .inl v_t_bytes)), (a_p1, .inr (0, [.ref a_p1_village, .ref a_p1_mark, .ref a_p1_held, .int s_p1_heldCount, .int s_p1_villages])), (a_p1_village, .inl (cI, 24, .inl v_p1_village)), (a_p1_mark, .inl (cI, 24, .inl v_p1_mark))]) rfl (fun H locs hP hD hS => ?_)
    refine lv_istore (lv' := [(4, .int r_32), (3, .int r_1), (0, .ref a_t), (1, .ref a_p1), (2, .int i2)]) hx hb dX4_readYear_29 hl (by decide) rfl (fun ls hl => ?_)
    obtain ⟨rfl, rfl, rfl⟩ := pj3 hF
    exact hN_31_7 _ _ _ hP hD hS (lv_sub hl [2, 3, 1, 0] rfl)
def f_X4_readOne (s_t_count : Int32) (s_t_place : Int32) (s_t_fault : Int32) (v_t_bytes : (Nat → Int32)) (s_p1_heldCount : Int32) (s_p1_villages : Int32) (v_p1_held : (Nat → Int32)) (v_p1_village : (Nat → Int32)) (v_p1_mark : (Nat → Int32)) : Option (Int32 × Int32 × Int32 × Int32 × (Nat → Int32) × (Nat → Int32) × (Nat → Int32)) := bd2 (f_X4_kindNamed s_t_count s_t_place v_t_bytes) (fun (r_1 : Int32) (o_2 : Int32) => (if r_1 < (0 : Int32) then bd2 (f_X4_named 6 s_t_count o_2 v_t_bytes) (fun (r_5 : Int32) (o_6 : Int32) => (if r_5 = (0 : Int32) then bd2 (f_X4_named 7 s_t_count o_6 v_t_bytes) (fun (r_10 : Int32) (o_11 : Int32) => (if r_10 = (0 : Int32) then bd2 (f_X4_named 10 s_t_count o_11 v_t_bytes) (fun (r_15 : Int32) (o_16 : Int32) => (if r_15 = (0 : Int32) then bd2 (f_X4_end s_t_count o_16 (f_X4_fail o_16 s_t_fault) v_t_bytes) (fun (o_20 : Int32) (o_21 : Int32) => some ((o_20, o_21, s_p1_heldCount, s_p1_villages, v_p1_held, v_p1_village, v_p1_mark))) else bd4 (f_X4_readYear (0 : Int32) s_t_count o_16 s_t_fault v_t_bytes v_p1_village v_p1_mark) (fun (o_23 : Int32) (o_24 : Int32) (o_25 : (Nat → Int32)) (o_26 : (Nat → Int32)) => bd2 (f_X4_end s_t_count o_23 o_24 v_t_bytes) (fun (o_28 : Int32) (o_29 : Int32) => some ((o_28, o_29, s_p1_heldCount, s_p1_villages, v_p1_held, o_25, o_26)))))) else bd4 (f_X4_readYear (1 : Int32) s_t_count o_11 s_t_fault v_t_bytes v_p1_village v_p1_mark) (fun (o_31 : Int32) (o_32 : Int32) (o_33 : (Nat → Int32)) (o_34 : (Nat → Int32)) => bd2 (f_X4_end s_t_count o_31 o_32 v_t_bytes) (fun (o_36 : Int32) (o_37 : Int32) => some ((o_36, o_37, s_p1_heldCount, s_p1_villages, v_p1_held, o_33, o_34)))))) else bd3 (f_X4_number (2 : Int32) (10 : Int32) s_t_count o_6 s_t_fault v_t_bytes) (fun (r_39 : Int32) (o_40 : Int32) (o_41 : Int32) => lt1 ((if (0 : Int32) ≤ o_41 then (s_p1_villages) else (r_39))) (fun (j_43 : Int32) => bd2 (f_X4_end s_t_count o_40 o_41 v_t_bytes) (fun (o_44 : Int32) (o_45 : Int32) => some ((o_44, o_45, s_p1_heldCount, j_43, v_p1_held, v_p1_village, v_p1_mark))))))) else bd4 (f_X4_readRule r_1 s_t_place s_t_count o_2 s_t_fault s_p1_heldCount v_t_bytes v_p1_held) (fun (o_48 : Int32) (o_49 : Int32) (o_50 : Int32) (o_51 : (Nat → Int32)) => bd2 (f_X4_end s_t_count o_48 o_49 v_t_bytes) (fun (o_53 : Int32) (o_54 : Int32) => some ((o_53, o_54, o_50, s_p1_villages, o_51, v_p1_village, v_p1_mark))))))
abbrev rmX4_readOne : Room := { frames := 7, cells := 0, slots := 0, locals := 153 }
set_option maxHeartbeats 400000 in
set_option maxRecDepth 100000 in
theorem c_X4_readOne (l : Launch) (D : va_G) (cI cB cJ : ClassId) (tO tB : Nat) (adK adV : Nat → Nat) (vf : Value) (hvf : vf = .null ∨ ∃ q, vf = .ref q) (a_t : Nat) (a_t_bytes : Nat) (a_p1 : Nat) (a_p1_village : Nat) (a_p1_mark : Nat) (a_p1_held : Nat) (sz : Nat) (s_t_count : Int32) (s_t_place : Int32) (s_t_fault : Int32) (s_p1_heldCount : Int32) (s_p1_villages : Int32) (v_t_bytes : (Nat → Int32)) (v_p1_held : (Nat → Int32)) (v_p1_village : (Nat → Int32)) (v_p1_mark : (Nat → Int32)) (o_s_t_place : Int32) (o_s_t_fault : Int32) (o_s_p1_heldCount : Int32) (o_s_p1_villages : Int32) (o_v_p1_held : (Nat → Int32)) (o_v_p1_village : (Nat → Int32)) (o_v_p1_mark : (Nat → Int32)) (hF : f_X4_readOne s_t_count s_t_place s_t_fault v_t_bytes s_p1_heldCount s_p1_villages v_p1_held v_p1_village v_p1_mark = some (o_s_t_place, o_s_t_fault, o_s_p1_heldCount, o_s_p1_villages, o_v_p1_held, o_v_p1_village, o_v_p1_mark)) : xMv l yX4_readOne (.code yX4_readOne cX4_readOne 5 none :: xU) rmX4_readOne (xKT D cI cB cJ tO tB adK adV vf [(a_t, .inr (4, [.ref a_t_bytes, .int s_t_count, .int s_t_place, .int s_t_fault])), (a_t_bytes, .inl (cB, 200, .inl v_t_bytes)), (a_p1, .inr (0, [.ref a_p1_village, .ref a_p1_mark, .ref a_p1_held, .int s_p1_heldCount, .int s_p1_villages])), (a_p1_held, .inl (cI, 6, .inl v_p1_held)), (a_p1_village, .inl (cI, 24, .inl v_p1_village)), (a_p1_mark, .inl (cI, 24, .inl v_p1_mark))]) D sz [.ref a_t, .ref a_p1] [(a_t, .inr (4, [.ref a_t_bytes, .int s_t_count, .int s_t_place, .int s_t_fault])), (a_t_bytes, .inl (cB, 200, .inl v_t_bytes)), (a_p1, .inr (0, [.ref a_p1_village, .ref a_p1_mark, .ref a_p1_held, .int s_p1_heldCount, .int s_p1_villages])), (a_p1_held, .inl (cI, 6, .inl v_p1_held)), (a_p1_village, .inl (cI, 24, .inl v_p1_village)), (a_p1_mark, .inl (cI, 24, .inl v_p1_mark))] [(a_t, .inr (4, [.ref a_t_bytes, .int s_t_count, .int o_s_t_place, .int o_s_t_fault])), (a_t_bytes, .inl (cB, 200, .inl v_t_bytes)), (a_p1, .inr (0, [.ref a_p1_village, .ref a_p1_mark, .ref a_p1_held, .int o_s_p1_heldCount, .int o_s_p1_villages])), (a_p1_held, .inl (cI, 6, .inl o_v_p1_held)), (a_p1_village, .inl (cI, 24, .inl o_v_p1_village)), (a_p1_mark, .inl (cI, 24, .inl o_v_p1_mark))] := by
  refine xMv.mkT (own := "FairNext$Tape") (by decide +kernel) rfl (Nat.le_of_ble_eq_true rfl) ?_
  intro p e s m args below meth c A Q ls H hfix hK hT hP hD hA hS hl hEnd
  obtain ⟨hx, hb, hml, hown, hts⟩ := id hfix
  have hl : lv_has ls 5 [(0, .ref a_t), (1, .ref a_p1)] := hl
  rw [f_X4_readOne] at hF
  refine lv_aload_n hx hb dX4_readOne_0 rfl (lv_at hl 0 rfl) ?_
  refine xget (ci := 4) (C := RX4) (T := TX4) (N := 4) hfix xiX4 hK.1 hP 0 rfl rfl 2 (by decide) rfl xw_68 rfl dX4_readOne_1 ?_
  refine lv_istore_n (lv' := [(2, .int s_t_place), (0, .ref a_t), (1, .ref a_p1)]) hx hb dX4_readOne_4 rfl hl (by decide) rfl (fun ls hl => ?_)
  refine lv_aload_n hx hb dX4_readOne_5 rfl (lv_at hl 1 rfl) ?_
  obtain ⟨r_1, o_2, hq_3, hF⟩ := bd2_e hF
  refine xri (xrunV (As := []) (rest := []) (c_X4_kindNamed l D cI cB cJ tO tB adK adV vf hvf a_t a_t_bytes _ s_t_count s_t_place s_t_fault v_t_bytes r_1 o_2 hq_3) hfix xw_233 yv_X4_kindNamed ⟨rfl, rfl⟩ ⟨(Nat.le_of_ble_eq_true rfl), (Nat.le_of_ble_eq_true rfl)⟩ xKTk (fun U hU hW => xKT.at hK hT hS (va_free hD hS hA [0, 1] rfl) U hU hW) hK.1 hP hD [0, 1] rfl rfl 0 4 rfl rfl rfl rfl hl.1 rfl (Nat.le_of_ble_eq_true rfl) dX4_readOne_6 ⟨Nat.zero_le _, Nat.zero_le _⟩) hP hD hS hA [0, 1] rfl rfl rfl (wn := [(a_t, .inr (4, [.ref a_t_bytes, .int s_t_count, .int o_2, .int s_t_fault])), (a_t_bytes, .inl (cB, 200, .inl v_t_bytes)), (a_p1, .inr (0, [.ref a_p1_village, .ref a_p1_mark, .ref a_p1_held, .int s_p1_heldCount, .int s_p1_villages])), (a_p1_held, .inl (cI, 6, .inl v_p1_held)), (a_p1_village, .inl (cI, 24, .inl v_p1_village)), (a_p1_mark, .inl (cI, 24, .inl v_p1_mark))]) rfl (fun H locs hP hD hS => ?_)
  refine lv_istore_n (lv' := [(3, .int r_1), (2, .int s_t_place), (0, .ref a_t), (1, .ref a_p1)]) hx hb dX4_readOne_9 rfl hl (by decide) rfl (fun ls hl => ?_)
  refine lv_iload_n hx hb dX4_readOne_10 rfl (lv_at hl 0 rfl) ?_
  refine lv_if_lt (tgt := 24) hx hb dX4_readOne_11 (by decide) (fun c_4 => ?_) (fun c_4 => ?_)
  · replace hF := if_t c_4 hF
    refine lv_aload_n hx hb dX4_readOne_24 rfl (lv_at hl 2 rfl) ?_
    refine va_ldcS hx hb hown (hT.2.2.2.2.2.2.2 6 (by decide)) dX4_readOne_25 ?_
    obtain ⟨r_5, o_6, hq_7, hF⟩ := bd2_e hF
    refine xrz (xrunV (As := [.ref (adK 6)]) (rest := []) (c_X4_named l D cI cB cJ tO tB adK adV vf hvf 6 (by decide) a_t a_t_bytes _ s_t_count o_2 s_t_fault v_t_bytes r_5 o_6 hq_7) hfix xw_238 yv_X4_named ⟨rfl, rfl⟩ ⟨(Nat.le_of_ble_eq_true rfl), (Nat.le_of_ble_eq_true rfl)⟩ xKTk (fun U hU hW => xKT.at hK hT hS (va_free hD hS hA [0, 1] rfl) U hU hW) hK.1 hP hD [0, 1] rfl rfl 0 4 rfl rfl rfl rfl hl.1 rfl (Nat.le_of_ble_eq_true rfl) dX4_readOne_27 ⟨Nat.zero_le _, Nat.zero_le _⟩) hP hD hS hA [0, 1] rfl rfl rfl (wn := [(a_t, .inr (4, [.ref a_t_bytes, .int s_t_count, .int o_6, .int s_t_fault])), (a_t_bytes, .inl (cB, 200, .inl v_t_bytes)), (a_p1, .inr (0, [.ref a_p1_village, .ref a_p1_mark, .ref a_p1_held, .int s_p1_heldCount, .int s_p1_villages])), (a_p1_held, .inl (cI, 6, .inl v_p1_held)), (a_p1_village, .inl (cI, 24, .inl v_p1_village)), (a_p1_mark, .inl (cI, 24, .inl v_p1_mark))]) rfl (fun H locs hP hD hS hz_8 => ?_)
    refine lv_if_eq (tgt := 65) hx hb dX4_readOne_30 (by decide) (fun c_9 => ?_) (fun c_9 => ?_)
    · replace hF := if_t c_9 hF
      refine lv_aload_n hx hb dX4_readOne_65 rfl (lv_at hl 2 rfl) ?_
      refine va_ldcS hx hb hown (hT.2.2.2.2.2.2.2 7 (by decide)) dX4_readOne_66 ?_
      obtain ⟨r_10, o_11, hq_12, hF⟩ := bd2_e hF
      refine xrz (xrunV (As := [.ref (adK 7)]) (rest := []) (c_X4_named l D cI cB cJ tO tB adK adV vf hvf 7 (by decide) a_t a_t_bytes _ s_t_count o_6 s_t_fault v_t_bytes r_10 o_11 hq_12) hfix xw_238 yv_X4_named ⟨rfl, rfl⟩ ⟨(Nat.le_of_ble_eq_true rfl), (Nat.le_of_ble_eq_true rfl)⟩ xKTk (fun U hU hW => xKT.at hK hT hS (va_free hD hS hA [0, 1] rfl) U hU hW) hK.1 hP hD [0, 1] rfl rfl 0 4 rfl rfl rfl rfl hl.1 rfl (Nat.le_of_ble_eq_true rfl) dX4_readOne_68 ⟨Nat.zero_le _, Nat.zero_le _⟩) hP hD hS hA [0, 1] rfl rfl rfl (wn := [(a_t, .inr (4, [.ref a_t_bytes, .int s_t_count, .int o_11, .int s_t_fault])), (a_t_bytes, .inl (cB, 200, .inl v_t_bytes)), (a_p1, .inr (0, [.ref a_p1_village, .ref a_p1_mark, .ref a_p1_held, .int s_p1_heldCount, .int s_p1_villages])), (a_p1_held, .inl (cI, 6, .inl v_p1_held)), (a_p1_village, .inl (cI, 24, .inl v_p1_village)), (a_p1_mark, .inl (cI, 24, .inl v_p1_mark))]) rfl (fun H locs hP hD hS hz_13 => ?_)
      refine lv_if_eq (tgt := 83) hx hb dX4_readOne_71 (by decide) (fun c_14 => ?_) (fun c_14 => ?_)
      · replace hF := if_t c_14 hF
        refine lv_aload_n hx hb dX4_readOne_83 rfl (lv_at hl 2 rfl) ?_
        refine va_ldcS hx hb hown (hT.2.2.2.2.2.2.2 10 (by decide)) dX4_readOne_84 ?_
        obtain ⟨r_15, o_16, hq_17, hF⟩ := bd2_e hF
        refine xrz (xrunV (As := [.ref (adK 10)]) (rest := []) (c_X4_named l D cI cB cJ tO tB adK adV vf hvf 10 (by decide) a_t a_t_bytes _ s_t_count o_11 s_t_fault v_t_bytes r_15 o_16 hq_17) hfix xw_238 yv_X4_named ⟨rfl, rfl⟩ ⟨(Nat.le_of_ble_eq_true rfl), (Nat.le_of_ble_eq_true rfl)⟩ xKTk (fun U hU hW => xKT.at hK hT hS (va_free hD hS hA [0, 1] rfl) U hU hW) hK.1 hP hD [0, 1] rfl rfl 0 4 rfl rfl rfl rfl hl.1 rfl (Nat.le_of_ble_eq_true rfl) dX4_readOne_86 ⟨Nat.zero_le _, Nat.zero_le _⟩) hP hD hS hA [0, 1] rfl rfl rfl (wn := [(a_t, .inr (4, [.ref a_t_bytes, .int s_t_count, .int o_16, .int s_t_fault])), (a_t_bytes, .inl (cB, 200, .inl v_t_bytes)), (a_p1, .inr (0, [.ref a_p1_village, .ref a_p1_mark, .ref a_p1_held, .int s_p1_heldCount, .int s_p1_villages])), (a_p1_held, .inl (cI, 6, .inl v_p1_held)), (a_p1_village, .inl (cI, 24, .inl v_p1_village)), (a_p1_mark, .inl (cI, 24, .inl v_p1_mark))]) rfl (fun H locs hP hD hS hz_18 => ?_)
        refine lv_if_eq (tgt := 101) hx hb dX4_readOne_89 (by decide) (fun c_19 => ?_) (fun c_19 => ?_)
        · replace hF := if_t c_19 hF
          refine lv_aload_n hx hb dX4_readOne_101 rfl (lv_at hl 2 rfl) ?_
          refine lv_aload_n hx hb dX4_readOne_102 rfl (lv_at hl 2 rfl) ?_
          refine xget (ci := 4) (C := RX4) (T := TX4) (N := 4) hfix xiX4 hK.1 hP 0 rfl rfl 2 (by decide) rfl xw_68 rfl dX4_readOne_103 ?_
          refine xrv (xrunV (As := [.int o_16]) (rest := []) (c_X4_fail l D cI cB cJ a_t a_t_bytes _ s_t_count o_16 s_t_fault o_16 (f_X4_fail o_16 s_t_fault) rfl) hfix xw_303 yv_X4_fail ⟨rfl, rfl⟩ ⟨(Nat.le_of_ble_eq_true rfl), (Nat.le_of_ble_eq_true rfl)⟩ xKk_K (fun U hU hW => xK.warm hW hK) hK.1 hP hD [0] rfl rfl 0 4 rfl rfl rfl rfl hl.1 rfl (Nat.le_of_ble_eq_true rfl) dX4_readOne_106 ⟨Nat.zero_le _, Nat.zero_le _⟩) hP hD hS hA [0] rfl rfl rfl (wn := [(a_t, .inr (4, [.ref a_t_bytes, .int s_t_count, .int o_16, .int (f_X4_fail o_16 s_t_fault)])), (a_t_bytes, .inl (cB, 200, .inl v_t_bytes)), (a_p1, .inr (0, [.ref a_p1_village, .ref a_p1_mark, .ref a_p1_held, .int s_p1_heldCount, .int s_p1_villages])), (a_p1_held, .inl (cI, 6, .inl v_p1_held)), (a_p1_village, .inl (cI, 24, .inl v_p1_village)), (a_p1_mark, .inl (cI, 24, .inl v_p1_mark))]) rfl (fun H locs hP hD hS => ?_)
          refine lv_aload_n hx hb dX4_readOne_109 rfl (lv_at hl 2 rfl) ?_
          obtain ⟨o_20, o_21, hq_22, hF⟩ := bd2_e hF
          refine xrv (xrunV (As := []) (rest := []) (c_X4_end l D cI cB cJ a_t a_t_bytes _ s_t_count o_16 (f_X4_fail o_16 s_t_fault) v_t_bytes o_20 o_21 hq_22) hfix xw_336 yv_X4_end ⟨rfl, rfl⟩ ⟨(Nat.le_of_ble_eq_true rfl), (Nat.le_of_ble_eq_true rfl)⟩ xKk_K (fun U hU hW => xK.warm hW hK) hK.1 hP hD [0, 1] rfl rfl 0 4 rfl rfl rfl rfl hl.1 rfl (Nat.le_of_ble_eq_true rfl) dX4_readOne_110 ⟨Nat.zero_le _, Nat.zero_le _⟩) hP hD hS hA [0, 1] rfl rfl rfl (wn := [(a_t, .inr (4, [.ref a_t_bytes, .int s_t_count, .int o_20, .int o_21])), (a_t_bytes, .inl (cB, 200, .inl v_t_bytes)), (a_p1, .inr (0, [.ref a_p1_village, .ref a_p1_mark, .ref a_p1_held, .int s_p1_heldCount, .int s_p1_villages])), (a_p1_held, .inl (cI, 6, .inl v_p1_held)), (a_p1_village, .inl (cI, 24, .inl v_p1_village)), (a_p1_mark, .inl (cI, 24, .inl v_p1_mark))]) rfl (fun H locs hP hD hS => ?_)
          obtain ⟨rfl, rfl, rfl, rfl, rfl, rfl, rfl⟩ := pj7 hF
          exact hEnd _ _ _ _ dX4_readOne_113 hP hS
        · replace hF := if_f c_19 hF
          refine lv_aload_n hx hb dX4_readOne_92 rfl (lv_at hl 2 rfl) ?_
          refine lv_aload_n hx hb dX4_readOne_93 rfl (lv_at hl 3 rfl) ?_
          refine lv_iconst (v := (0 : Int32)) hx hb dX4_readOne_94 (by decide) ?_
          obtain ⟨o_23, o_24, o_25, o_26, hq_27, hF⟩ := bd4_e hF
          refine xrv (xrunV (As := [.ref a_p1, .int (0 : Int32)]) (rest := []) (c_X4_readYear l D cI cB cJ tO tB adK adV vf hvf a_t a_t_bytes a_p1 a_p1_village a_p1_mark a_p1_held _ s_t_count o_16 s_t_fault s_p1_heldCount s_p1_villages v_t_bytes v_p1_village v_p1_mark (0 : Int32) o_23 o_24 o_25 o_26 hq_27) hfix xw_325 yv_X4_readYear ⟨rfl, rfl⟩ ⟨(Nat.le_of_ble_eq_true rfl), (Nat.le_of_ble_eq_true rfl)⟩ xKTk (fun U hU hW => xKT.at hK hT hS (va_free hD hS hA [0, 1, 2, 4, 5] rfl) U hU hW) hK.1 hP hD [0, 1, 2, 4, 5] rfl rfl 0 4 rfl rfl rfl rfl hl.1 rfl (Nat.le_of_ble_eq_true rfl) dX4_readOne_95 ⟨Nat.zero_le _, Nat.zero_le _⟩) hP hD hS hA [0, 1, 2, 4, 5] rfl rfl rfl (wn := [(a_t, .inr (4, [.ref a_t_bytes, .int s_t_count, .int o_23, .int o_24])), (a_t_bytes, .inl (cB, 200, .inl v_t_bytes)), (a_p1, .inr (0, [.ref a_p1_village, .ref a_p1_mark, .ref a_p1_held, .int s_p1_heldCount, .int s_p1_villages])), (a_p1_held, .inl (cI, 6, .inl v_p1_held)), (a_p1_village, .inl (cI, 24, .inl o_25)), (a_p1_mark, .inl (cI, 24, .inl o_26))]) rfl (fun H locs hP hD hS => ?_)
          refine lv_goto (tgt := 109) hx hb dX4_readOne_98 (by decide) ?_
          refine lv_aload_n hx hb dX4_readOne_109 rfl (lv_at hl 2 rfl) ?_
          obtain ⟨o_28, o_29, hq_30, hF⟩ := bd2_e hF
          refine xrv (xrunV (As := []) (rest := []) (c_X4_end l D cI cB cJ a_t a_t_bytes _ s_t_count o_23 o_24 v_t_bytes o_28 o_29 hq_30) hfix xw_336 yv_X4_end ⟨rfl, rfl⟩ ⟨(Nat.le_of_ble_eq_true rfl), (Nat.le_of_ble_eq_true rfl)⟩ xKk_K (fun U hU hW => xK.warm hW hK) hK.1 hP hD [0, 1] rfl rfl 0 4 rfl rfl rfl rfl hl.1 rfl (Nat.le_of_ble_eq_true rfl) dX4_readOne_110 ⟨Nat.zero_le _, Nat.zero_le _⟩) hP hD hS hA [0, 1] rfl rfl rfl (wn := [(a_t, .inr (4, [.ref a_t_bytes, .int s_t_count, .int o_28, .int o_29])), (a_t_bytes, .inl (cB, 200, .inl v_t_bytes)), (a_p1, .inr (0, [.ref a_p1_village, .ref a_p1_mark, .ref a_p1_held, .int s_p1_heldCount, .int s_p1_villages])), (a_p1_held, .inl (cI, 6, .inl v_p1_held)), (a_p1_village, .inl (cI, 24, .inl o_25)), (a_p1_mark, .inl (cI, 24, .inl o_26))]) rfl (fun H locs hP hD hS => ?_)
          obtain ⟨rfl, rfl, rfl, rfl, rfl, rfl, rfl⟩ := pj7 hF
          exact hEnd _ _ _ _ dX4_readOne_113 hP hS
      · replace hF := if_f c_14 hF
        refine lv_aload_n hx hb dX4_readOne_74 rfl (lv_at hl 2 rfl) ?_
        refine lv_aload_n hx hb dX4_readOne_75 rfl (lv_at hl 3 rfl) ?_
        refine lv_iconst (v := (1 : Int32)) hx hb dX4_readOne_76 (by decide) ?_
        obtain ⟨o_31, o_32, o_33, o_34, hq_35, hF⟩ := bd4_e hF
        refine xrv (xrunV (As := [.ref a_p1, .int (1 : Int32)]) (rest := []) (c_X4_readYear l D cI cB cJ tO tB adK adV vf hvf a_t a_t_bytes a_p1 a_p1_village a_p1_mark a_p1_held _ s_t_count o_11 s_t_fault s_p1_heldCount s_p1_villages v_t_bytes v_p1_village v_p1_mark (1 : Int32) o_31 o_32 o_33 o_34 hq_35) hfix xw_325 yv_X4_readYear ⟨rfl, rfl⟩ ⟨(Nat.le_of_ble_eq_true rfl), (Nat.le_of_ble_eq_true rfl)⟩ xKTk (fun U hU hW => xKT.at hK hT hS (va_free hD hS hA [0, 1, 2, 4, 5] rfl) U hU hW) hK.1 hP hD [0, 1, 2, 4, 5] rfl rfl 0 4 rfl rfl rfl rfl hl.1 rfl (Nat.le_of_ble_eq_true rfl) dX4_readOne_77 ⟨Nat.zero_le _, Nat.zero_le _⟩) hP hD hS hA [0, 1, 2, 4, 5] rfl rfl rfl (wn := [(a_t, .inr (4, [.ref a_t_bytes, .int s_t_count, .int o_31, .int o_32])), (a_t_bytes, .inl (cB, 200, .inl v_t_bytes)), (a_p1, .inr (0, [.ref a_p1_village, .ref a_p1_mark, .ref a_p1_held, .int s_p1_heldCount, .int s_p1_villages])), (a_p1_held, .inl (cI, 6, .inl v_p1_held)), (a_p1_village, .inl (cI, 24, .inl o_33)), (a_p1_mark, .inl (cI, 24, .inl o_34))]) rfl (fun H locs hP hD hS => ?_)
        refine lv_goto (tgt := 109) hx hb dX4_readOne_80 (by decide) ?_
        refine lv_aload_n hx hb dX4_readOne_109 rfl (lv_at hl 2 rfl) ?_
        obtain ⟨o_36, o_37, hq_38, hF⟩ := bd2_e hF
        refine xrv (xrunV (As := []) (rest := []) (c_X4_end l D cI cB cJ a_t a_t_bytes _ s_t_count o_31 o_32 v_t_bytes o_36 o_37 hq_38) hfix xw_336 yv_X4_end ⟨rfl, rfl⟩ ⟨(Nat.le_of_ble_eq_true rfl), (Nat.le_of_ble_eq_true rfl)⟩ xKk_K (fun U hU hW => xK.warm hW hK) hK.1 hP hD [0, 1] rfl rfl 0 4 rfl rfl rfl rfl hl.1 rfl (Nat.le_of_ble_eq_true rfl) dX4_readOne_110 ⟨Nat.zero_le _, Nat.zero_le _⟩) hP hD hS hA [0, 1] rfl rfl rfl (wn := [(a_t, .inr (4, [.ref a_t_bytes, .int s_t_count, .int o_36, .int o_37])), (a_t_bytes, .inl (cB, 200, .inl v_t_bytes)), (a_p1, .inr (0, [.ref a_p1_village, .ref a_p1_mark, .ref a_p1_held, .int s_p1_heldCount, .int s_p1_villages])), (a_p1_held, .inl (cI, 6, .inl v_p1_held)), (a_p1_village, .inl (cI, 24, .inl o_33)), (a_p1_mark, .inl (cI, 24, .inl o_34))]) rfl (fun H locs hP hD hS => ?_)
        obtain ⟨rfl, rfl, rfl, rfl, rfl, rfl, rfl⟩ := pj7 hF
        exact hEnd _ _ _ _ dX4_readOne_113 hP hS
    · replace hF := if_f c_9 hF
      refine lv_aload_n hx hb dX4_readOne_33 rfl (lv_at hl 2 rfl) ?_
      refine lv_iconst (v := (2 : Int32)) hx hb dX4_readOne_34 (by decide) ?_
      refine lv_bipush (v := (10 : Int32)) hx hb dX4_readOne_35 (by decide) ?_
      obtain ⟨r_39, o_40, o_41, hq_42, hF⟩ := bd3_e hF
      refine xri (xrunV (As := [.int (2 : Int32), .int (10 : Int32)]) (rest := []) (c_X4_number l D cI cB cJ a_t a_t_bytes _ s_t_count o_6 s_t_fault v_t_bytes (2 : Int32) (10 : Int32) r_39 o_40 o_41 hq_42) hfix xw_307 yv_X4_number ⟨rfl, rfl⟩ ⟨(Nat.le_of_ble_eq_true rfl), (Nat.le_of_ble_eq_true rfl)⟩ xKk_K (fun U hU hW => xK.warm hW hK) hK.1 hP hD [0, 1] rfl rfl 0 4 rfl rfl rfl rfl hl.1 rfl (Nat.le_of_ble_eq_true rfl) dX4_readOne_37 ⟨Nat.zero_le _, Nat.zero_le _⟩) hP hD hS hA [0, 1] rfl rfl rfl (wn := [(a_t, .inr (4, [.ref a_t_bytes, .int s_t_count, .int o_40, .int o_41])), (a_t_bytes, .inl (cB, 200, .inl v_t_bytes)), (a_p1, .inr (0, [.ref a_p1_village, .ref a_p1_mark, .ref a_p1_held, .int s_p1_heldCount, .int s_p1_villages])), (a_p1_held, .inl (cI, 6, .inl v_p1_held)), (a_p1_village, .inl (cI, 24, .inl v_p1_village)), (a_p1_mark, .inl (cI, 24, .inl v_p1_mark))]) rfl (fun H locs hP hD hS => ?_)
      refine lv_istore (lv' := [(4, .int r_39), (3, .int r_1), (2, .int s_t_place), (0, .ref a_t), (1, .ref a_p1)]) hx hb dX4_readOne_40 hl (by decide) rfl (fun ls hl => ?_)
      refine lv_aload_n hx hb dX4_readOne_42 rfl (lv_at hl 4 rfl) ?_
      refine lv_aload_n hx hb dX4_readOne_43 rfl (lv_at hl 3 rfl) ?_
      refine xget (ci := 4) (C := RX4) (T := TX4) (N := 4) hfix xiX4 hK.1 hP 0 rfl rfl 3 (by decide) rfl xw_69 rfl dX4_readOne_44 ?_
      obtain ⟨j_43, hJ, hF⟩ := lt1_e hF
      have hN_59_43 : ∀ (H : Heap) (locs : List Loc) (ls : Array Slot), va_P D vwCl [(a_t, .inr (4, [.ref a_t_bytes, .int s_t_count, .int o_40, .int o_41])), (a_t_bytes, .inl (cB, 200, .inl v_t_bytes)), (a_p1, .inr (0, [.ref a_p1_village, .ref a_p1_mark, .ref a_p1_held, .int s_p1_heldCount, .int s_p1_villages])), (a_p1_held, .inl (cI, 6, .inl v_p1_held)), (a_p1_village, .inl (cI, 24, .inl v_p1_village)), (a_p1_mark, .inl (cI, 24, .inl v_p1_mark))] H → va_D A [(a_t, .inr (4, [.ref a_t_bytes, .int s_t_count, .int o_40, .int o_41])), (a_t_bytes, .inl (cB, 200, .inl v_t_bytes)), (a_p1, .inr (0, [.ref a_p1_village, .ref a_p1_mark, .ref a_p1_held, .int s_p1_heldCount, .int s_p1_villages])), (a_p1_held, .inl (cI, 6, .inl v_p1_held)), (a_p1_village, .inl (cI, 24, .inl v_p1_village)), (a_p1_mark, .inl (cI, 24, .inl v_p1_mark))] → va_S A s.heap H locs → lv_has ls 5 [(0, .ref a_t)] → W p l e rmX4_readOne s m args below meth c H locs 0 0 Q (F0 m 59 ls [.int j_43, .ref a_p1]) := by
        intro H locs ls hP hD hS hl
        refine xput (ci := 0) (C := RX0) (T := TX0) (N := 5) hfix xiX0 tyX0 tyX0_ok nmX0 hK.1 hP hD hS 2 rfl rfl 4 (by decide) rfl rfl xw_45 (ty := .int) rfl rfl rfl (Nat.le_of_ble_eq_true rfl) dX4_readOne_59 (wn := [(a_t, .inr (4, [.ref a_t_bytes, .int s_t_count, .int o_40, .int o_41])), (a_t_bytes, .inl (cB, 200, .inl v_t_bytes)), (a_p1, .inr (0, [.ref a_p1_village, .ref a_p1_mark, .ref a_p1_held, .int s_p1_heldCount, .int j_43])), (a_p1_held, .inl (cI, 6, .inl v_p1_held)), (a_p1_village, .inl (cI, 24, .inl v_p1_village)), (a_p1_mark, .inl (cI, 24, .inl v_p1_mark))]) rfl (fun H locs hP hD hS => ?_)
        refine lv_goto (tgt := 109) hx hb dX4_readOne_62 (by decide) ?_
        refine lv_aload_n hx hb dX4_readOne_109 rfl (lv_at hl 0 rfl) ?_
        obtain ⟨o_44, o_45, hq_46, hF⟩ := bd2_e hF
        refine xrv (xrunV (As := []) (rest := []) (c_X4_end l D cI cB cJ a_t a_t_bytes _ s_t_count o_40 o_41 v_t_bytes o_44 o_45 hq_46) hfix xw_336 yv_X4_end ⟨rfl, rfl⟩ ⟨(Nat.le_of_ble_eq_true rfl), (Nat.le_of_ble_eq_true rfl)⟩ xKk_K (fun U hU hW => xK.warm hW hK) hK.1 hP hD [0, 1] rfl rfl 0 4 rfl rfl rfl rfl hl.1 rfl (Nat.le_of_ble_eq_true rfl) dX4_readOne_110 ⟨Nat.zero_le _, Nat.zero_le _⟩) hP hD hS hA [0, 1] rfl rfl rfl (wn := [(a_t, .inr (4, [.ref a_t_bytes, .int s_t_count, .int o_44, .int o_45])), (a_t_bytes, .inl (cB, 200, .inl v_t_bytes)), (a_p1, .inr (0, [.ref a_p1_village, .ref a_p1_mark, .ref a_p1_held, .int s_p1_heldCount, .int j_43])), (a_p1_held, .inl (cI, 6, .inl v_p1_held)), (a_p1_village, .inl (cI, 24, .inl v_p1_village)), (a_p1_mark, .inl (cI, 24, .inl v_p1_mark))]) rfl (fun H locs hP hD hS => ?_)
        obtain ⟨rfl, rfl, rfl, rfl, rfl, rfl, rfl⟩ := pj7 hF
        exact hEnd _ _ _ _ dX4_readOne_113 hP hS
      replace hF := hJ
      refine lv_if_ge (tgt := 55) hx hb dX4_readOne_47 (by decide) (fun c_47 => ?_) (fun c_47 => ?_)
      · replace hF := if_t c_47 hF
        refine lv_aload_n hx hb dX4_readOne_55 rfl (lv_at hl 4 rfl) ?_
        refine xget (ci := 0) (C := RX0) (T := TX0) (N := 5) hfix xiX0 hK.1 hP 2 rfl rfl 4 (by decide) rfl xw_45 rfl dX4_readOne_56 ?_
        subst hF
        exact hN_59_43 _ _ _ hP hD hS (lv_sub hl [3] rfl)
      · replace hF := if_f c_47 hF
        refine lv_iload hx hb dX4_readOne_50 (lv_at hl 0 rfl) ?_
        refine lv_goto (tgt := 59) hx hb dX4_readOne_52 (by decide) ?_
        subst hF
        exact hN_59_43 _ _ _ hP hD hS (lv_sub hl [3] rfl)
  · replace hF := if_f c_4 hF
    refine lv_aload_n hx hb dX4_readOne_14 rfl (lv_at hl 2 rfl) ?_
    refine lv_aload_n hx hb dX4_readOne_15 rfl (lv_at hl 3 rfl) ?_
    refine lv_iload_n hx hb dX4_readOne_16 rfl (lv_at hl 0 rfl) ?_
    refine lv_iload_n hx hb dX4_readOne_17 rfl (lv_at hl 1 rfl) ?_
    obtain ⟨o_48, o_49, o_50, o_51, hq_52, hF⟩ := bd4_e hF
    refine xrv (xrunV (As := [.ref a_p1, .int r_1, .int s_t_place]) (rest := []) (c_X4_readRule l D cI cB cJ a_t a_t_bytes a_p1 a_p1_village a_p1_mark a_p1_held _ s_t_count o_2 s_t_fault s_p1_heldCount s_p1_villages v_t_bytes v_p1_held r_1 s_t_place o_48 o_49 o_50 o_51 hq_52) hfix xw_299 yv_X4_readRule ⟨rfl, rfl⟩ ⟨(Nat.le_of_ble_eq_true rfl), (Nat.le_of_ble_eq_true rfl)⟩ xKk_K (fun U hU hW => xK.warm hW hK) hK.1 hP hD [0, 2, 1, 3] rfl rfl 0 4 rfl rfl rfl rfl hl.1 rfl (Nat.le_of_ble_eq_true rfl) dX4_readOne_18 ⟨Nat.zero_le _, Nat.zero_le _⟩) hP hD hS hA [0, 2, 1, 3] rfl rfl rfl (wn := [(a_t, .inr (4, [.ref a_t_bytes, .int s_t_count, .int o_48, .int o_49])), (a_t_bytes, .inl (cB, 200, .inl v_t_bytes)), (a_p1, .inr (0, [.ref a_p1_village, .ref a_p1_mark, .ref a_p1_held, .int o_50, .int s_p1_villages])), (a_p1_held, .inl (cI, 6, .inl o_51)), (a_p1_village, .inl (cI, 24, .inl v_p1_village)), (a_p1_mark, .inl (cI, 24, .inl v_p1_mark))]) rfl (fun H locs hP hD hS => ?_)
    refine lv_goto (tgt := 109) hx hb dX4_readOne_21 (by decide) ?_
    refine lv_aload_n hx hb dX4_readOne_109 rfl (lv_at hl 2 rfl) ?_
    obtain ⟨o_53, o_54, hq_55, hF⟩ := bd2_e hF
    refine xrv (xrunV (As := []) (rest := []) (c_X4_end l D cI cB cJ a_t a_t_bytes _ s_t_count o_48 o_49 v_t_bytes o_53 o_54 hq_55) hfix xw_336 yv_X4_end ⟨rfl, rfl⟩ ⟨(Nat.le_of_ble_eq_true rfl), (Nat.le_of_ble_eq_true rfl)⟩ xKk_K (fun U hU hW => xK.warm hW hK) hK.1 hP hD [0, 1] rfl rfl 0 4 rfl rfl rfl rfl hl.1 rfl (Nat.le_of_ble_eq_true rfl) dX4_readOne_110 ⟨Nat.zero_le _, Nat.zero_le _⟩) hP hD hS hA [0, 1] rfl rfl rfl (wn := [(a_t, .inr (4, [.ref a_t_bytes, .int s_t_count, .int o_53, .int o_54])), (a_t_bytes, .inl (cB, 200, .inl v_t_bytes)), (a_p1, .inr (0, [.ref a_p1_village, .ref a_p1_mark, .ref a_p1_held, .int o_50, .int s_p1_villages])), (a_p1_held, .inl (cI, 6, .inl o_51)), (a_p1_village, .inl (cI, 24, .inl v_p1_village)), (a_p1_mark, .inl (cI, 24, .inl v_p1_mark))]) rfl (fun H locs hP hD hS => ?_)
    obtain ⟨rfl, rfl, rfl, rfl, rfl, rfl, rfl⟩ := pj7 hF
    exact hEnd _ _ _ _ dX4_readOne_113 hP hS
def f_X4_readInto_L20 (s_t_count : Int32) (v_t_bytes : (Nat → Int32)) : Nat → Int32 → Int32 → Int32 → Int32 → Int32 → (Nat → Int32) → (Nat → Int32) → (Nat → Int32) → Option (Int32 × Int32 × Int32 × Int32 × (Nat → Int32) × (Nat → Int32) × (Nat → Int32))
  | 0, _, _, _, _, _, _, _, _ => none
  | n + 1, x2_8, xs_t_place_9, xs_t_fault_10, xs_p1_heldCount_11, xs_p1_villages_12, xv_p1_village_13, xv_p1_mark_14, xv_p1_held_15 => (if (200 : Int32) ≤ x2_8 then some ((xs_t_place_9, xs_t_fault_10, xs_p1_heldCount_11, xs_p1_villages_12, xv_p1_village_13, xv_p1_mark_14, xv_p1_held_15)) else (if s_t_count ≤ xs_t_place_9 then some ((xs_t_place_9, xs_t_fault_10, xs_p1_heldCount_11, xs_p1_villages_12, xv_p1_village_13, xv_p1_mark_14, xv_p1_held_15)) else (if (0 : Int32) ≤ xs_t_fault_10 then some ((xs_t_place_9, xs_t_fault_10, xs_p1_heldCount_11, xs_p1_villages_12, xv_p1_village_13, xv_p1_mark_14, xv_p1_held_15)) else bd7 (f_X4_readOne s_t_count xs_t_place_9 xs_t_fault_10 v_t_bytes xs_p1_heldCount_11 xs_p1_villages_12 xv_p1_held_15 xv_p1_village_13 xv_p1_mark_14) (fun (o_26 : Int32) (o_27 : Int32) (o_28 : Int32) (o_29 : Int32) (o_30 : (Nat → Int32)) (o_31 : (Nat → Int32)) (o_32 : (Nat → Int32)) => bd1 (f_X4_skipBlanks s_t_count o_26 v_t_bytes) (fun (o_34 : Int32) => f_X4_readInto_L20 s_t_count v_t_bytes n (x2_8 + (1 : Int32)) o_34 o_27 o_28 o_29 o_31 o_32 o_30)))))
def f_X4_readInto (s_t_count : Int32) (s_t_place : Int32) (s_t_fault : Int32) (s_p1_heldCount : Int32) (s_p1_villages : Int32) (v_p1_village : (Nat → Int32)) (v_p1_mark : (Nat → Int32)) (v_t_bytes : (Nat → Int32)) (v_p1_held : (Nat → Int32)) : Option (Int32 × Int32 × Int32 × Int32 × Int32 × (Nat → Int32) × (Nat → Int32) × (Nat → Int32)) := bd4 (f_X0_clear s_p1_heldCount s_p1_villages v_p1_village v_p1_mark) (fun (o_1 : Int32) (o_2 : Int32) (o_3 : (Nat → Int32)) (o_4 : (Nat → Int32)) => bd1 (f_X4_skipBlanks s_t_count (0 : Int32) v_t_bytes) (fun (o_6 : Int32) => bd7 (f_X4_readInto_L20 s_t_count v_t_bytes 1000 (0 : Int32) o_6 (-1 : Int32) o_1 o_2 o_3 o_4 v_p1_held) (fun (ys_t_place_16 : Int32) (ys_t_fault_17 : Int32) (ys_p1_heldCount_18 : Int32) (ys_p1_villages_19 : Int32) (yv_p1_village_20 : (Nat → Int32)) (yv_p1_mark_21 : (Nat → Int32)) (yv_p1_held_22 : (Nat → Int32)) => some ((ys_t_fault_17, ys_t_place_16, ys_t_fault_17, ys_p1_heldCount_18, ys_p1_villages_19, yv_p1_village_20, yv_p1_mark_21, yv_p1_held_22)))))
abbrev rmX4_readInto : Room := { frames := 8, cells := 0, slots := 0, locals := 177 }
set_option maxHeartbeats 400000 in
set_option maxRecDepth 100000 in
theorem c_X4_readInto (l : Launch) (D : va_G) (cI cB cJ : ClassId) (tO tB : Nat) (adK adV : Nat → Nat) (vf : Value) (hvf : vf = .null ∨ ∃ q, vf = .ref q) (a_t : Nat) (a_t_bytes : Nat) (a_p1 : Nat) (a_p1_village : Nat) (a_p1_mark : Nat) (a_p1_held : Nat) (sz : Nat) (s_t_count : Int32) (s_t_place : Int32) (s_t_fault : Int32) (s_p1_heldCount : Int32) (s_p1_villages : Int32) (v_p1_village : (Nat → Int32)) (v_p1_mark : (Nat → Int32)) (v_t_bytes : (Nat → Int32)) (v_p1_held : (Nat → Int32)) (r : Int32) (o_s_t_place : Int32) (o_s_t_fault : Int32) (o_s_p1_heldCount : Int32) (o_s_p1_villages : Int32) (o_v_p1_village : (Nat → Int32)) (o_v_p1_mark : (Nat → Int32)) (o_v_p1_held : (Nat → Int32)) (hF : f_X4_readInto s_t_count s_t_place s_t_fault s_p1_heldCount s_p1_villages v_p1_village v_p1_mark v_t_bytes v_p1_held = some (r, o_s_t_place, o_s_t_fault, o_s_p1_heldCount, o_s_p1_villages, o_v_p1_village, o_v_p1_mark, o_v_p1_held)) : xMi l yX4_readInto (.code yX4_readInto cX4_readInto 3 (some .int) :: xU) rmX4_readInto (xKT D cI cB cJ tO tB adK adV vf [(a_t, .inr (4, [.ref a_t_bytes, .int s_t_count, .int s_t_place, .int s_t_fault])), (a_p1, .inr (0, [.ref a_p1_village, .ref a_p1_mark, .ref a_p1_held, .int s_p1_heldCount, .int s_p1_villages])), (a_p1_village, .inl (cI, 24, .inl v_p1_village)), (a_p1_mark, .inl (cI, 24, .inl v_p1_mark)), (a_t_bytes, .inl (cB, 200, .inl v_t_bytes)), (a_p1_held, .inl (cI, 6, .inl v_p1_held))]) D sz [.ref a_t, .ref a_p1] [(a_t, .inr (4, [.ref a_t_bytes, .int s_t_count, .int s_t_place, .int s_t_fault])), (a_p1, .inr (0, [.ref a_p1_village, .ref a_p1_mark, .ref a_p1_held, .int s_p1_heldCount, .int s_p1_villages])), (a_p1_village, .inl (cI, 24, .inl v_p1_village)), (a_p1_mark, .inl (cI, 24, .inl v_p1_mark)), (a_t_bytes, .inl (cB, 200, .inl v_t_bytes)), (a_p1_held, .inl (cI, 6, .inl v_p1_held))] [(a_t, .inr (4, [.ref a_t_bytes, .int s_t_count, .int o_s_t_place, .int o_s_t_fault])), (a_p1, .inr (0, [.ref a_p1_village, .ref a_p1_mark, .ref a_p1_held, .int o_s_p1_heldCount, .int o_s_p1_villages])), (a_p1_village, .inl (cI, 24, .inl o_v_p1_village)), (a_p1_mark, .inl (cI, 24, .inl o_v_p1_mark)), (a_t_bytes, .inl (cB, 200, .inl v_t_bytes)), (a_p1_held, .inl (cI, 6, .inl o_v_p1_held))] r := by
  refine xMi.mkT (own := "FairNext$Tape") (by decide +kernel) rfl (Nat.le_of_ble_eq_true rfl) ?_
  intro p e s m args below meth c A Q ls H hfix hK hT hP hD hA hS hl hEnd
  obtain ⟨hx, hb, hml, hown, hts⟩ := id hfix
  have hl : lv_has ls 3 [(0, .ref a_t), (1, .ref a_p1)] := hl
  rw [f_X4_readInto] at hF
  refine lv_aload_n hx hb dX4_readInto_0 rfl (lv_at hl 1 rfl) ?_
  obtain ⟨o_1, o_2, o_3, o_4, hq_5, hF⟩ := bd4_e hF
  refine xrv (xrunV (As := []) (rest := []) (c_X0_clear l D cI cB cJ a_p1 a_p1_village a_p1_mark a_p1_held _ s_p1_heldCount s_p1_villages v_p1_village v_p1_mark o_1 o_2 o_3 o_4 hq_5) hfix xw_220 yv_X0_clear ⟨rfl, rfl⟩ ⟨(Nat.le_of_ble_eq_true rfl), (Nat.le_of_ble_eq_true rfl)⟩ xKk_K (fun U hU hW => xK.warm hW hK) hK.1 hP hD [1, 2, 3] rfl rfl 1 0 rfl rfl rfl rfl hl.1 rfl (Nat.le_of_ble_eq_true rfl) dX4_readInto_1 ⟨Nat.zero_le _, Nat.zero_le _⟩) hP hD hS hA [1, 2, 3] rfl rfl rfl (wn := [(a_t, .inr (4, [.ref a_t_bytes, .int s_t_count, .int s_t_place, .int s_t_fault])), (a_p1, .inr (0, [.ref a_p1_village, .ref a_p1_mark, .ref a_p1_held, .int o_1, .int o_2])), (a_p1_village, .inl (cI, 24, .inl o_3)), (a_p1_mark, .inl (cI, 24, .inl o_4)), (a_t_bytes, .inl (cB, 200, .inl v_t_bytes)), (a_p1_held, .inl (cI, 6, .inl v_p1_held))]) rfl (fun H locs hP hD hS => ?_)
  refine lv_aload_n hx hb dX4_readInto_4 rfl (lv_at hl 0 rfl) ?_
  refine lv_iconst (v := (0 : Int32)) hx hb dX4_readInto_5 (by decide) ?_
  refine xput (ci := 4) (C := RX4) (T := TX4) (N := 4) hfix xiX4 tyX4 tyX4_ok nmX4 hK.1 hP hD hS 0 rfl rfl 2 (by decide) rfl rfl xw_68 (ty := .int) rfl rfl rfl (Nat.le_of_ble_eq_true rfl) dX4_readInto_6 (wn := [(a_t, .inr (4, [.ref a_t_bytes, .int s_t_count, .int (0 : Int32), .int s_t_fault])), (a_p1, .inr (0, [.ref a_p1_village, .ref a_p1_mark, .ref a_p1_held, .int o_1, .int o_2])), (a_p1_village, .inl (cI, 24, .inl o_3)), (a_p1_mark, .inl (cI, 24, .inl o_4)), (a_t_bytes, .inl (cB, 200, .inl v_t_bytes)), (a_p1_held, .inl (cI, 6, .inl v_p1_held))]) rfl (fun H locs hP hD hS => ?_)
  refine lv_aload_n hx hb dX4_readInto_9 rfl (lv_at hl 0 rfl) ?_
  refine lv_iconst (v := (-1 : Int32)) hx hb dX4_readInto_10 (by decide) ?_
  refine xput (ci := 4) (C := RX4) (T := TX4) (N := 4) hfix xiX4 tyX4 tyX4_ok nmX4 hK.1 hP hD hS 0 rfl rfl 3 (by decide) rfl rfl xw_69 (ty := .int) rfl rfl rfl (Nat.le_of_ble_eq_true rfl) dX4_readInto_11 (wn := [(a_t, .inr (4, [.ref a_t_bytes, .int s_t_count, .int (0 : Int32), .int (-1 : Int32)])), (a_p1, .inr (0, [.ref a_p1_village, .ref a_p1_mark, .ref a_p1_held, .int o_1, .int o_2])), (a_p1_village, .inl (cI, 24, .inl o_3)), (a_p1_mark, .inl (cI, 24, .inl o_4)), (a_t_bytes, .inl (cB, 200, .inl v_t_bytes)), (a_p1_held, .inl (cI, 6, .inl v_p1_held))]) rfl (fun H locs hP hD hS => ?_)
  refine lv_aload_n hx hb dX4_readInto_14 rfl (lv_at hl 0 rfl) ?_
  obtain ⟨o_6, hq_7, hF⟩ := bd1_e hF
  refine xrv (xrunV (As := []) (rest := []) (c_X4_skipBlanks l D cI cB cJ a_t a_t_bytes _ s_t_count (0 : Int32) (-1 : Int32) v_t_bytes o_6 hq_7) hfix xw_221 yv_X4_skipBlanks ⟨rfl, rfl⟩ ⟨(Nat.le_of_ble_eq_true rfl), (Nat.le_of_ble_eq_true rfl)⟩ xKk_K (fun U hU hW => xK.warm hW hK) hK.1 hP hD [0, 4] rfl rfl 0 4 rfl rfl rfl rfl hl.1 rfl (Nat.le_of_ble_eq_true rfl) dX4_readInto_15 ⟨Nat.zero_le _, Nat.zero_le _⟩) hP hD hS hA [0, 4] rfl rfl rfl (wn := [(a_t, .inr (4, [.ref a_t_bytes, .int s_t_count, .int o_6, .int (-1 : Int32)])), (a_p1, .inr (0, [.ref a_p1_village, .ref a_p1_mark, .ref a_p1_held, .int o_1, .int o_2])), (a_p1_village, .inl (cI, 24, .inl o_3)), (a_p1_mark, .inl (cI, 24, .inl o_4)), (a_t_bytes, .inl (cB, 200, .inl v_t_bytes)), (a_p1_held, .inl (cI, 6, .inl v_p1_held))]) rfl (fun H locs hP hD hS => ?_)
  refine lv_iconst (v := (0 : Int32)) hx hb dX4_readInto_18 (by decide) ?_
  refine lv_istore_n (lv' := [(2, .int (0 : Int32)), (0, .ref a_t), (1, .ref a_p1)]) hx hb dX4_readInto_19 rfl hl (by decide) rfl (fun ls hl => ?_)
  have hL_20 : ∀ (n : Nat) (x2_8 : Int32) (xs_t_place_9 : Int32) (xs_t_fault_10 : Int32) (xs_p1_heldCount_11 : Int32) (xs_p1_villages_12 : Int32) (xv_p1_village_13 : (Nat → Int32)) (xv_p1_mark_14 : (Nat → Int32)) (xv_p1_held_15 : (Nat → Int32)) (ys_t_place_16 : Int32) (ys_t_fault_17 : Int32) (ys_p1_heldCount_18 : Int32) (ys_p1_villages_19 : Int32) (yv_p1_village_20 : (Nat → Int32)) (yv_p1_mark_21 : (Nat → Int32)) (yv_p1_held_22 : (Nat → Int32)), f_X4_readInto_L20 s_t_count v_t_bytes n x2_8 xs_t_place_9 xs_t_fault_10 xs_p1_heldCount_11 xs_p1_villages_12 xv_p1_village_13 xv_p1_mark_14 xv_p1_held_15 = some (ys_t_place_16, ys_t_fault_17, ys_p1_heldCount_18, ys_p1_villages_19, yv_p1_village_20, yv_p1_mark_21, yv_p1_held_22) → ∀ (H : Heap) (locs : List Loc) (ls : Array Slot), va_P D vwCl [(a_t, .inr (4, [.ref a_t_bytes, .int s_t_count, .int xs_t_place_9, .int xs_t_fault_10])), (a_p1, .inr (0, [.ref a_p1_village, .ref a_p1_mark, .ref a_p1_held, .int xs_p1_heldCount_11, .int xs_p1_villages_12])), (a_p1_village, .inl (cI, 24, .inl xv_p1_village_13)), (a_p1_mark, .inl (cI, 24, .inl xv_p1_mark_14)), (a_t_bytes, .inl (cB, 200, .inl v_t_bytes)), (a_p1_held, .inl (cI, 6, .inl xv_p1_held_15))] H → va_D A [(a_t, .inr (4, [.ref a_t_bytes, .int s_t_count, .int xs_t_place_9, .int xs_t_fault_10])), (a_p1, .inr (0, [.ref a_p1_village, .ref a_p1_mark, .ref a_p1_held, .int xs_p1_heldCount_11, .int xs_p1_villages_12])), (a_p1_village, .inl (cI, 24, .inl xv_p1_village_13)), (a_p1_mark, .inl (cI, 24, .inl xv_p1_mark_14)), (a_t_bytes, .inl (cB, 200, .inl v_t_bytes)), (a_p1_held, .inl (cI, 6, .inl xv_p1_held_15))] → va_S A s.heap H locs → lv_has ls 3 [(0, .ref a_t), (1, .ref a_p1), (2, .int x2_8)] → (∀ (H : Heap) (locs : List Loc) (ls : Array Slot), va_P D vwCl [(a_t, .inr (4, [.ref a_t_bytes, .int s_t_count, .int ys_t_place_16, .int ys_t_fault_17])), (a_p1, .inr (0, [.ref a_p1_village, .ref a_p1_mark, .ref a_p1_held, .int ys_p1_heldCount_18, .int ys_p1_villages_19])), (a_p1_village, .inl (cI, 24, .inl yv_p1_village_20)), (a_p1_mark, .inl (cI, 24, .inl yv_p1_mark_21)), (a_t_bytes, .inl (cB, 200, .inl v_t_bytes)), (a_p1_held, .inl (cI, 6, .inl yv_p1_held_22))] H → va_D A [(a_t, .inr (4, [.ref a_t_bytes, .int s_t_count, .int ys_t_place_16, .int ys_t_fault_17])), (a_p1, .inr (0, [.ref a_p1_village, .ref a_p1_mark, .ref a_p1_held, .int ys_p1_heldCount_18, .int ys_p1_villages_19])), (a_p1_village, .inl (cI, 24, .inl yv_p1_village_20)), (a_p1_mark, .inl (cI, 24, .inl yv_p1_mark_21)), (a_t_bytes, .inl (cB, 200, .inl v_t_bytes)), (a_p1_held, .inl (cI, 6, .inl yv_p1_held_22))] → va_S A s.heap H locs → lv_has ls 3 [(0, .ref a_t)] → W p l e rmX4_readInto s m args below meth c H locs 0 0 Q (F0 m 60 ls [])) → W p l e rmX4_readInto s m args below meth c H locs 0 0 Q (F0 m 20 ls []) := by
    intro n
    induction n with
    | zero => intro x2_8 xs_t_place_9 xs_t_fault_10 xs_p1_heldCount_11 xs_p1_villages_12 xv_p1_village_13 xv_p1_mark_14 xv_p1_held_15 ys_t_place_16 ys_t_fault_17 ys_p1_heldCount_18 ys_p1_villages_19 yv_p1_village_20 yv_p1_mark_21 yv_p1_held_22 hF; exact (no_some hF).elim
    | succ n ih =>
      intro x2_8 xs_t_place_9 xs_t_fault_10 xs_p1_heldCount_11 xs_p1_villages_12 xv_p1_village_13 xv_p1_mark_14 xv_p1_held_15 ys_t_place_16 ys_t_fault_17 ys_p1_heldCount_18 ys_p1_villages_19 yv_p1_village_20 yv_p1_mark_21 yv_p1_held_22 hF H locs ls hP hD hS hl kexit
      rw [f_X4_readInto_L20] at hF
      refine lv_iload_n hx hb dX4_readInto_20 rfl (lv_at hl 2 rfl) ?_
      refine lv_sipush (v := (200 : Int32)) hx hb dX4_readInto_21 (by decide) ?_
      refine lv_icmp_ge (tgt := 60) hx hb dX4_readInto_24 (by decide) (fun c_23 => ?_) (fun c_23 => ?_)
      · replace hF := if_t c_23 hF
        obtain ⟨rfl, rfl, rfl, rfl, rfl, rfl, rfl⟩ := pj7 hF
        exact kexit _ _ _ hP hD hS (lv_sub hl [0] rfl)
      · replace hF := if_f c_23 hF
        refine lv_aload_n hx hb dX4_readInto_27 rfl (lv_at hl 0 rfl) ?_
        refine xget (ci := 4) (C := RX4) (T := TX4) (N := 4) hfix xiX4 hK.1 hP 0 rfl rfl 2 (by decide) rfl xw_68 rfl dX4_readInto_28 ?_
        refine lv_aload_n hx hb dX4_readInto_31 rfl (lv_at hl 0 rfl) ?_
        refine xget (ci := 4) (C := RX4) (T := TX4) (N := 4) hfix xiX4 hK.1 hP 0 rfl rfl 1 (by decide) rfl xw_66 rfl dX4_readInto_32 ?_
        refine lv_icmp_ge (tgt := 60) hx hb dX4_readInto_35 (by decide) (fun c_24 => ?_) (fun c_24 => ?_)
        · replace hF := if_t c_24 hF
          obtain ⟨rfl, rfl, rfl, rfl, rfl, rfl, rfl⟩ := pj7 hF
          exact kexit _ _ _ hP hD hS (lv_sub hl [0] rfl)
        · replace hF := if_f c_24 hF
          refine lv_aload_n hx hb dX4_readInto_38 rfl (lv_at hl 0 rfl) ?_
          refine xget (ci := 4) (C := RX4) (T := TX4) (N := 4) hfix xiX4 hK.1 hP 0 rfl rfl 3 (by decide) rfl xw_69 rfl dX4_readInto_39 ?_
          refine lv_if_ge (tgt := 60) hx hb dX4_readInto_42 (by decide) (fun c_25 => ?_) (fun c_25 => ?_)
          · replace hF := if_t c_25 hF
            obtain ⟨rfl, rfl, rfl, rfl, rfl, rfl, rfl⟩ := pj7 hF
            exact kexit _ _ _ hP hD hS (lv_sub hl [0] rfl)
          · replace hF := if_f c_25 hF
            refine lv_aload_n hx hb dX4_readInto_45 rfl (lv_at hl 0 rfl) ?_
            refine lv_aload_n hx hb dX4_readInto_46 rfl (lv_at hl 1 rfl) ?_
            obtain ⟨o_26, o_27, o_28, o_29, o_30, o_31, o_32, hq_33, hF⟩ := bd7_e hF
            refine xrv (xrunV (As := [.ref a_p1]) (rest := []) (c_X4_readOne l D cI cB cJ tO tB adK adV vf hvf a_t a_t_bytes a_p1 a_p1_village a_p1_mark a_p1_held _ s_t_count xs_t_place_9 xs_t_fault_10 xs_p1_heldCount_11 xs_p1_villages_12 v_t_bytes xv_p1_held_15 xv_p1_village_13 xv_p1_mark_14 o_26 o_27 o_28 o_29 o_30 o_31 o_32 hq_33) hfix xw_229 yv_X4_readOne ⟨rfl, rfl⟩ ⟨(Nat.le_of_ble_eq_true rfl), (Nat.le_of_ble_eq_true rfl)⟩ xKTk (fun U hU hW => xKT.at hK hT hS (va_free hD hS hA [0, 4, 1, 5, 2, 3] rfl) U hU hW) hK.1 hP hD [0, 4, 1, 5, 2, 3] rfl rfl 0 4 rfl rfl rfl rfl hl.1 rfl (Nat.le_of_ble_eq_true rfl) dX4_readInto_47 ⟨Nat.zero_le _, Nat.zero_le _⟩) hP hD hS hA [0, 4, 1, 5, 2, 3] rfl rfl rfl (wn := [(a_t, .inr (4, [.ref a_t_bytes, .int s_t_count, .int o_26, .int o_27])), (a_p1, .inr (0, [.ref a_p1_village, .ref a_p1_mark, .ref a_p1_held, .int o_28, .int o_29])), (a_p1_village, .inl (cI, 24, .inl o_31)), (a_p1_mark, .inl (cI, 24, .inl o_32)), (a_t_bytes, .inl (cB, 200, .inl v_t_bytes)), (a_p1_held, .inl (cI, 6, .inl o_30))]) rfl (fun H locs hP hD hS => ?_)
            refine lv_aload_n hx hb dX4_readInto_50 rfl (lv_at hl 0 rfl) ?_
            obtain ⟨o_34, hq_35, hF⟩ := bd1_e hF
            refine xrv (xrunV (As := []) (rest := []) (c_X4_skipBlanks l D cI cB cJ a_t a_t_bytes _ s_t_count o_26 o_27 v_t_bytes o_34 hq_35) hfix xw_221 yv_X4_skipBlanks ⟨rfl, rfl⟩ ⟨(Nat.le_of_ble_eq_true rfl), (Nat.le_of_ble_eq_true rfl)⟩ xKk_K (fun U hU hW => xK.warm hW hK) hK.1 hP hD [0, 4] rfl rfl 0 4 rfl rfl rfl rfl hl.1 rfl (Nat.le_of_ble_eq_true rfl) dX4_readInto_51 ⟨Nat.zero_le _, Nat.zero_le _⟩) hP hD hS hA [0, 4] rfl rfl rfl (wn := [(a_t, .inr (4, [.ref a_t_bytes, .int s_t_count, .int o_34, .int o_27])), (a_p1, .inr (0, [.ref a_p1_village, .ref a_p1_mark, .ref a_p1_held, .int o_28, .int o_29])), (a_p1_village, .inl (cI, 24, .inl o_31)), (a_p1_mark, .inl (cI, 24, .inl o_32)), (a_t_bytes, .inl (cB, 200, .inl v_t_bytes)), (a_p1_held, .inl (cI, 6, .inl o_30))]) rfl (fun H locs hP hD hS => ?_)
            refine lv_iinc (v := (x2_8 + (1 : Int32))) (lv' := [(2, .int (x2_8 + (1 : Int32))), (0, .ref a_t), (1, .ref a_p1)]) hx hb dX4_readInto_54 hl (k := 2) rfl rfl (by decide) rfl (fun ls hl => ?_)
            refine lv_goto (tgt := 20) hx hb dX4_readInto_57 (by decide) ?_
            exact ih _ _ _ _ _ _ _ _ _ _ _ _ _ _ _ hF _ _ _ hP hD hS (lv_sub hl [1, 2, 0] rfl) kexit
  obtain ⟨ys_t_place_16, ys_t_fault_17, ys_p1_heldCount_18, ys_p1_villages_19, yv_p1_village_20, yv_p1_mark_21, yv_p1_held_22, hq, hF⟩ := bd7_e hF
  refine hL_20 _ _ _ _ _ _ _ _ _ _ _ _ _ _ _ _ hq _ _ _ hP hD hS (lv_sub hl [1, 2, 0] rfl) (fun H locs ls hP hD hS hl => ?_)
  refine lv_aload_n hx hb dX4_readInto_60 rfl (lv_at hl 0 rfl) ?_
  refine xget (ci := 4) (C := RX4) (T := TX4) (N := 4) hfix xiX4 hK.1 hP 0 rfl rfl 3 (by decide) rfl xw_69 rfl dX4_readInto_61 ?_
  obtain ⟨rfl, rfl, rfl, rfl, rfl, rfl, rfl, rfl⟩ := pj8 hF
  exact hEnd _ _ _ _ _ dX4_readInto_64 hP hS rfl
def f_X0_become (s_t_heldCount : Int32) (s_t_villages : Int32) (s_p1_heldCount : Int32) (s_p1_villages : Int32) (v_t_village : (Nat → Int32)) (v_p1_village : (Nat → Int32)) (v_t_mark : (Nat → Int32)) (v_p1_mark : (Nat → Int32)) (v_t_held : (Nat → Int32)) (v_p1_held : (Nat → Int32)) : Option (Int32 × Int32 × (Nat → Int32) × (Nat → Int32) × (Nat → Int32)) := some ((s_p1_heldCount, s_p1_villages, (va_cpy v_p1_village v_t_village (0 : Int32).toNatClampNeg (0 : Int32).toNatClampNeg (24 : Int32).toNatClampNeg), (va_cpy v_p1_mark v_t_mark (0 : Int32).toNatClampNeg (0 : Int32).toNatClampNeg (24 : Int32).toNatClampNeg), (va_cpy v_p1_held v_t_held (0 : Int32).toNatClampNeg (0 : Int32).toNatClampNeg (6 : Int32).toNatClampNeg)))
abbrev rmX0_become : Room := { frames := 1, cells := 0, slots := 0, locals := 200 }
set_option maxHeartbeats 400000 in
set_option maxRecDepth 100000 in
theorem c_X0_become (l : Launch) (D : va_G) (cI cB cJ : ClassId) (a_t : Nat) (a_t_village : Nat) (a_t_mark : Nat) (a_t_held : Nat) (a_p1 : Nat) (a_p1_village : Nat) (a_p1_mark : Nat) (a_p1_held : Nat) (sz : Nat) (s_t_heldCount : Int32) (s_t_villages : Int32) (s_p1_heldCount : Int32) (s_p1_villages : Int32) (v_t_village : (Nat → Int32)) (v_p1_village : (Nat → Int32)) (v_t_mark : (Nat → Int32)) (v_p1_mark : (Nat → Int32)) (v_t_held : (Nat → Int32)) (v_p1_held : (Nat → Int32)) (o_s_t_heldCount : Int32) (o_s_t_villages : Int32) (o_v_t_village : (Nat → Int32)) (o_v_t_mark : (Nat → Int32)) (o_v_t_held : (Nat → Int32)) (hF : f_X0_become s_t_heldCount s_t_villages s_p1_heldCount s_p1_villages v_t_village v_p1_village v_t_mark v_p1_mark v_t_held v_p1_held = some (o_s_t_heldCount, o_s_t_villages, o_v_t_village, o_v_t_mark, o_v_t_held)) : xMv l yX0_become (.code yX0_become cX0_become 2 none :: xU) rmX0_become (xK D cI cB cJ) D sz [.ref a_t, .ref a_p1] [(a_t, .inr (0, [.ref a_t_village, .ref a_t_mark, .ref a_t_held, .int s_t_heldCount, .int s_t_villages])), (a_p1, .inr (0, [.ref a_p1_village, .ref a_p1_mark, .ref a_p1_held, .int s_p1_heldCount, .int s_p1_villages])), (a_t_village, .inl (cI, 24, .inl v_t_village)), (a_p1_village, .inl (cI, 24, .inl v_p1_village)), (a_t_mark, .inl (cI, 24, .inl v_t_mark)), (a_p1_mark, .inl (cI, 24, .inl v_p1_mark)), (a_t_held, .inl (cI, 6, .inl v_t_held)), (a_p1_held, .inl (cI, 6, .inl v_p1_held))] [(a_t, .inr (0, [.ref a_t_village, .ref a_t_mark, .ref a_t_held, .int o_s_t_heldCount, .int o_s_t_villages])), (a_p1, .inr (0, [.ref a_p1_village, .ref a_p1_mark, .ref a_p1_held, .int s_p1_heldCount, .int s_p1_villages])), (a_t_village, .inl (cI, 24, .inl o_v_t_village)), (a_p1_village, .inl (cI, 24, .inl v_p1_village)), (a_t_mark, .inl (cI, 24, .inl o_v_t_mark)), (a_p1_mark, .inl (cI, 24, .inl v_p1_mark)), (a_t_held, .inl (cI, 6, .inl o_v_t_held)), (a_p1_held, .inl (cI, 6, .inl v_p1_held))] := by
  refine xMv.mk (own := "FairNext$Book") (by decide +kernel) rfl (Nat.le_of_ble_eq_true rfl) ?_
  intro p e s m args below meth c A Q ls H hfix hK hP hD hA hS hl hEnd
  obtain ⟨hx, hb, hml, hown, hts⟩ := id hfix
  have hl : lv_has ls 2 [(0, .ref a_t), (1, .ref a_p1)] := hl
  rw [f_X0_become] at hF
  refine lv_aload_n hx hb dX0_become_0 rfl (lv_at hl 1 rfl) ?_
  refine xget (ci := 0) (C := RX0) (T := TX0) (N := 5) hfix xiX0 hK.1 hP 1 rfl rfl 0 (by decide) rfl xw_33 rfl dX0_become_1 ?_
  refine lv_iconst (v := (0 : Int32)) hx hb dX0_become_4 (by decide) ?_
  refine lv_aload_n hx hb dX0_become_5 rfl (lv_at hl 0 rfl) ?_
  refine xget (ci := 0) (C := RX0) (T := TX0) (N := 5) hfix xiX0 hK.1 hP 0 rfl rfl 0 (by decide) rfl xw_33 rfl dX0_become_6 ?_
  refine lv_iconst (v := (0 : Int32)) hx hb dX0_become_9 (by decide) ?_
  refine lv_bipush (v := (24 : Int32)) hx hb dX0_become_10 (by decide) ?_
  refine va_copyi hx hb (hml.trans hl.1.symm) hown (hts _ (List.mem_cons_of_mem _ xa_344)) (hts _ (List.mem_cons_of_mem _ xa_346)) (hts _ (List.mem_cons_of_mem _ xa_345)) (hts _ (List.mem_cons_of_mem _ xw_13)) hK.1 hP hD hS 3 2 0 0 rfl rfl rfl rfl rfl (by decide) (by decide) (by decide) (by decide) (by decide) (fun _ _ => rfl) (Nat.le_of_ble_eq_true rfl) (Nat.le_of_ble_eq_true rfl) dX0_become_12 (fun H locs hP hD hS => ?_)
  have hP : va_P D vwCl [(a_t, .inr (0, [.ref a_t_village, .ref a_t_mark, .ref a_t_held, .int s_t_heldCount, .int s_t_villages])), (a_p1, .inr (0, [.ref a_p1_village, .ref a_p1_mark, .ref a_p1_held, .int s_p1_heldCount, .int s_p1_villages])), (a_t_village, .inl (cI, 24, .inl (va_cpy v_p1_village v_t_village (0 : Int32).toNatClampNeg (0 : Int32).toNatClampNeg (24 : Int32).toNatClampNeg))), (a_p1_village, .inl (cI, 24, .inl v_p1_village)), (a_t_mark, .inl (cI, 24, .inl v_t_mark)), (a_p1_mark, .inl (cI, 24, .inl v_p1_mark)), (a_t_held, .inl (cI, 6, .inl v_t_held)), (a_p1_held, .inl (cI, 6, .inl v_p1_held))] H := hP
  have hD : va_D A [(a_t, .inr (0, [.ref a_t_village, .ref a_t_mark, .ref a_t_held, .int s_t_heldCount, .int s_t_villages])), (a_p1, .inr (0, [.ref a_p1_village, .ref a_p1_mark, .ref a_p1_held, .int s_p1_heldCount, .int s_p1_villages])), (a_t_village, .inl (cI, 24, .inl (va_cpy v_p1_village v_t_village (0 : Int32).toNatClampNeg (0 : Int32).toNatClampNeg (24 : Int32).toNatClampNeg))), (a_p1_village, .inl (cI, 24, .inl v_p1_village)), (a_t_mark, .inl (cI, 24, .inl v_t_mark)), (a_p1_mark, .inl (cI, 24, .inl v_p1_mark)), (a_t_held, .inl (cI, 6, .inl v_t_held)), (a_p1_held, .inl (cI, 6, .inl v_p1_held))] := hD
  refine lv_aload_n hx hb dX0_become_15 rfl (lv_at hl 1 rfl) ?_
  refine xget (ci := 0) (C := RX0) (T := TX0) (N := 5) hfix xiX0 hK.1 hP 1 rfl rfl 1 (by decide) rfl xw_36 rfl dX0_become_16 ?_
  refine lv_iconst (v := (0 : Int32)) hx hb dX0_become_19 (by decide) ?_
  refine lv_aload_n hx hb dX0_become_20 rfl (lv_at hl 0 rfl) ?_
  refine xget (ci := 0) (C := RX0) (T := TX0) (N := 5) hfix xiX0 hK.1 hP 0 rfl rfl 1 (by decide) rfl xw_36 rfl dX0_become_21 ?_
  refine lv_iconst (v := (0 : Int32)) hx hb dX0_become_24 (by decide) ?_
  refine lv_bipush (v := (24 : Int32)) hx hb dX0_become_25 (by decide) ?_
  refine va_copyi hx hb (hml.trans hl.1.symm) hown (hts _ (List.mem_cons_of_mem _ xa_344)) (hts _ (List.mem_cons_of_mem _ xa_346)) (hts _ (List.mem_cons_of_mem _ xa_345)) (hts _ (List.mem_cons_of_mem _ xw_13)) hK.1 hP hD hS 5 4 0 0 rfl rfl rfl rfl rfl (by decide) (by decide) (by decide) (by decide) (by decide) (fun _ _ => rfl) (Nat.le_of_ble_eq_true rfl) (Nat.le_of_ble_eq_true rfl) dX0_become_27 (fun H locs hP hD hS => ?_)
  have hP : va_P D vwCl [(a_t, .inr (0, [.ref a_t_village, .ref a_t_mark, .ref a_t_held, .int s_t_heldCount, .int s_t_villages])), (a_p1, .inr (0, [.ref a_p1_village, .ref a_p1_mark, .ref a_p1_held, .int s_p1_heldCount, .int s_p1_villages])), (a_t_village, .inl (cI, 24, .inl (va_cpy v_p1_village v_t_village (0 : Int32).toNatClampNeg (0 : Int32).toNatClampNeg (24 : Int32).toNatClampNeg))), (a_p1_village, .inl (cI, 24, .inl v_p1_village)), (a_t_mark, .inl (cI, 24, .inl (va_cpy v_p1_mark v_t_mark (0 : Int32).toNatClampNeg (0 : Int32).toNatClampNeg (24 : Int32).toNatClampNeg))), (a_p1_mark, .inl (cI, 24, .inl v_p1_mark)), (a_t_held, .inl (cI, 6, .inl v_t_held)), (a_p1_held, .inl (cI, 6, .inl v_p1_held))] H := hP
  have hD : va_D A [(a_t, .inr (0, [.ref a_t_village, .ref a_t_mark, .ref a_t_held, .int s_t_heldCount, .int s_t_villages])), (a_p1, .inr (0, [.ref a_p1_village, .ref a_p1_mark, .ref a_p1_held, .int s_p1_heldCount, .int s_p1_villages])), (a_t_village, .inl (cI, 24, .inl (va_cpy v_p1_village v_t_village (0 : Int32).toNatClampNeg (0 : Int32).toNatClampNeg (24 : Int32).toNatClampNeg))), (a_p1_village, .inl (cI, 24, .inl v_p1_village)), (a_t_mark, .inl (cI, 24, .inl (va_cpy v_p1_mark v_t_mark (0 : Int32).toNatClampNeg (0 : Int32).toNatClampNeg (24 : Int32).toNatClampNeg))), (a_p1_mark, .inl (cI, 24, .inl v_p1_mark)), (a_t_held, .inl (cI, 6, .inl v_t_held)), (a_p1_held, .inl (cI, 6, .inl v_p1_held))] := hD
  refine lv_aload_n hx hb dX0_become_30 rfl (lv_at hl 1 rfl) ?_
  refine xget (ci := 0) (C := RX0) (T := TX0) (N := 5) hfix xiX0 hK.1 hP 1 rfl rfl 2 (by decide) rfl xw_39 rfl dX0_become_31 ?_
  refine lv_iconst (v := (0 : Int32)) hx hb dX0_become_34 (by decide) ?_
  refine lv_aload_n hx hb dX0_become_35 rfl (lv_at hl 0 rfl) ?_
  refine xget (ci := 0) (C := RX0) (T := TX0) (N := 5) hfix xiX0 hK.1 hP 0 rfl rfl 2 (by decide) rfl xw_39 rfl dX0_become_36 ?_
  refine lv_iconst (v := (0 : Int32)) hx hb dX0_become_39 (by decide) ?_
  refine lv_bipush (v := (6 : Int32)) hx hb dX0_become_40 (by decide) ?_
  refine va_copyi hx hb (hml.trans hl.1.symm) hown (hts _ (List.mem_cons_of_mem _ xa_344)) (hts _ (List.mem_cons_of_mem _ xa_346)) (hts _ (List.mem_cons_of_mem _ xa_345)) (hts _ (List.mem_cons_of_mem _ xw_13)) hK.1 hP hD hS 7 6 0 0 rfl rfl rfl rfl rfl (by decide) (by decide) (by decide) (by decide) (by decide) (fun _ _ => rfl) (Nat.le_of_ble_eq_true rfl) (Nat.le_of_ble_eq_true rfl) dX0_become_42 (fun H locs hP hD hS => ?_)
  have hP : va_P D vwCl [(a_t, .inr (0, [.ref a_t_village, .ref a_t_mark, .ref a_t_held, .int s_t_heldCount, .int s_t_villages])), (a_p1, .inr (0, [.ref a_p1_village, .ref a_p1_mark, .ref a_p1_held, .int s_p1_heldCount, .int s_p1_villages])), (a_t_village, .inl (cI, 24, .inl (va_cpy v_p1_village v_t_village (0 : Int32).toNatClampNeg (0 : Int32).toNatClampNeg (24 : Int32).toNatClampNeg))), (a_p1_village, .inl (cI, 24, .inl v_p1_village)), (a_t_mark, .inl (cI, 24, .inl (va_cpy v_p1_mark v_t_mark (0 : Int32).toNatClampNeg (0 : Int32).toNatClampNeg (24 : Int32).toNatClampNeg))), (a_p1_mark, .inl (cI, 24, .inl v_p1_mark)), (a_t_held, .inl (cI, 6, .inl (va_cpy v_p1_held v_t_held (0 : Int32).toNatClampNeg (0 : Int32).toNatClampNeg (6 : Int32).toNatClampNeg))), (a_p1_held, .inl (cI, 6, .inl v_p1_held))] H := hP
  have hD : va_D A [(a_t, .inr (0, [.ref a_t_village, .ref a_t_mark, .ref a_t_held, .int s_t_heldCount, .int s_t_villages])), (a_p1, .inr (0, [.ref a_p1_village, .ref a_p1_mark, .ref a_p1_held, .int s_p1_heldCount, .int s_p1_villages])), (a_t_village, .inl (cI, 24, .inl (va_cpy v_p1_village v_t_village (0 : Int32).toNatClampNeg (0 : Int32).toNatClampNeg (24 : Int32).toNatClampNeg))), (a_p1_village, .inl (cI, 24, .inl v_p1_village)), (a_t_mark, .inl (cI, 24, .inl (va_cpy v_p1_mark v_t_mark (0 : Int32).toNatClampNeg (0 : Int32).toNatClampNeg (24 : Int32).toNatClampNeg))), (a_p1_mark, .inl (cI, 24, .inl v_p1_mark)), (a_t_held, .inl (cI, 6, .inl (va_cpy v_p1_held v_t_held (0 : Int32).toNatClampNeg (0 : Int32).toNatClampNeg (6 : Int32).toNatClampNeg))), (a_p1_held, .inl (cI, 6, .inl v_p1_held))] := hD
  refine lv_aload_n hx hb dX0_become_45 rfl (lv_at hl 0 rfl) ?_
  refine lv_aload_n hx hb dX0_become_46 rfl (lv_at hl 1 rfl) ?_
  refine xget (ci := 0) (C := RX0) (T := TX0) (N := 5) hfix xiX0 hK.1 hP 1 rfl rfl 3 (by decide) rfl xw_41 rfl dX0_become_47 ?_
  refine xput (ci := 0) (C := RX0) (T := TX0) (N := 5) hfix xiX0 tyX0 tyX0_ok nmX0 hK.1 hP hD hS 0 rfl rfl 3 (by decide) rfl rfl xw_41 (ty := .int) rfl rfl rfl (Nat.le_of_ble_eq_true rfl) dX0_become_50 (wn := [(a_t, .inr (0, [.ref a_t_village, .ref a_t_mark, .ref a_t_held, .int s_p1_heldCount, .int s_t_villages])), (a_p1, .inr (0, [.ref a_p1_village, .ref a_p1_mark, .ref a_p1_held, .int s_p1_heldCount, .int s_p1_villages])), (a_t_village, .inl (cI, 24, .inl (va_cpy v_p1_village v_t_village (0 : Int32).toNatClampNeg (0 : Int32).toNatClampNeg (24 : Int32).toNatClampNeg))), (a_p1_village, .inl (cI, 24, .inl v_p1_village)), (a_t_mark, .inl (cI, 24, .inl (va_cpy v_p1_mark v_t_mark (0 : Int32).toNatClampNeg (0 : Int32).toNatClampNeg (24 : Int32).toNatClampNeg))), (a_p1_mark, .inl (cI, 24, .inl v_p1_mark)), (a_t_held, .inl (cI, 6, .inl (va_cpy v_p1_held v_t_held (0 : Int32).toNatClampNeg (0 : Int32).toNatClampNeg (6 : Int32).toNatClampNeg))), (a_p1_held, .inl (cI, 6, .inl v_p1_held))]) rfl (fun H locs hP hD hS => ?_)
  refine lv_aload_n hx hb dX0_become_53 rfl (lv_at hl 0 rfl) ?_
  refine lv_aload_n hx hb dX0_become_54 rfl (lv_at hl 1 rfl) ?_
  refine xget (ci := 0) (C := RX0) (T := TX0) (N := 5) hfix xiX0 hK.1 hP 1 rfl rfl 4 (by decide) rfl xw_44 rfl dX0_become_55 ?_
  refine xput (ci := 0) (C := RX0) (T := TX0) (N := 5) hfix xiX0 tyX0 tyX0_ok nmX0 hK.1 hP hD hS 0 rfl rfl 4 (by decide) rfl rfl xw_44 (ty := .int) rfl rfl rfl (Nat.le_of_ble_eq_true rfl) dX0_become_58 (wn := [(a_t, .inr (0, [.ref a_t_village, .ref a_t_mark, .ref a_t_held, .int s_p1_heldCount, .int s_p1_villages])), (a_p1, .inr (0, [.ref a_p1_village, .ref a_p1_mark, .ref a_p1_held, .int s_p1_heldCount, .int s_p1_villages])), (a_t_village, .inl (cI, 24, .inl (va_cpy v_p1_village v_t_village (0 : Int32).toNatClampNeg (0 : Int32).toNatClampNeg (24 : Int32).toNatClampNeg))), (a_p1_village, .inl (cI, 24, .inl v_p1_village)), (a_t_mark, .inl (cI, 24, .inl (va_cpy v_p1_mark v_t_mark (0 : Int32).toNatClampNeg (0 : Int32).toNatClampNeg (24 : Int32).toNatClampNeg))), (a_p1_mark, .inl (cI, 24, .inl v_p1_mark)), (a_t_held, .inl (cI, 6, .inl (va_cpy v_p1_held v_t_held (0 : Int32).toNatClampNeg (0 : Int32).toNatClampNeg (6 : Int32).toNatClampNeg))), (a_p1_held, .inl (cI, 6, .inl v_p1_held))]) rfl (fun H locs hP hD hS => ?_)
  obtain ⟨rfl, rfl, rfl, rfl, rfl⟩ := pj5 hF
  exact hEnd _ _ _ _ dX0_become_61 hP hS
def f_X6_book (s_t_tape_count : Int32) (s_t_tape_place : Int32) (s_t_tape_fault : Int32) (s_t_told_heldCount : Int32) (s_t_told_villages : Int32) (v_t_told_village : (Nat → Int32)) (v_t_told_mark : (Nat → Int32)) (v_t_tape_bytes : (Nat → Int32)) (v_t_told_held : (Nat → Int32)) (s_t_book_heldCount : Int32) (s_t_book_villages : Int32) (v_t_book_village : (Nat → Int32)) (v_t_book_mark : (Nat → Int32)) (v_t_book_held : (Nat → Int32)) (s_t_rows_count : Int32) : Option (Int32 × Int32 × Int32 × Int32 × Int32 × Int32 × (Nat → Int32) × (Nat → Int32) × (Nat → Int32) × Int32 × Int32 × (Nat → Int32) × (Nat → Int32) × (Nat → Int32) × Int32) := bd8 (f_X4_readInto s_t_tape_count s_t_tape_place s_t_tape_fault s_t_told_heldCount s_t_told_villages v_t_told_village v_t_told_mark v_t_tape_bytes v_t_told_held) (fun (r_1 : Int32) (o_2 : Int32) (o_3 : Int32) (o_4 : Int32) (o_5 : Int32) (o_6 : (Nat → Int32)) (o_7 : (Nat → Int32)) (o_8 : (Nat → Int32)) => (if r_1 < (0 : Int32) then bd5 (f_X0_become s_t_book_heldCount s_t_book_villages o_4 o_5 v_t_book_village o_6 v_t_book_mark o_7 v_t_book_held o_8) (fun (o_11 : Int32) (o_12 : Int32) (o_13 : (Nat → Int32)) (o_14 : (Nat → Int32)) (o_15 : (Nat → Int32)) => bd1 (f_X0_toldYears o_13) (fun (r_17 : Int32) => some ((r_17, (0 : Int32), o_2, o_3, o_4, o_5, o_6, o_7, o_8, o_11, o_12, o_13, o_14, o_15, (0 : Int32))))) else some ((((-100 : Int32) - r_1), (0 : Int32), o_2, o_3, o_4, o_5, o_6, o_7, o_8, s_t_book_heldCount, s_t_book_villages, v_t_book_village, v_t_book_mark, v_t_book_held, s_t_rows_count))))
abbrev rmX6_book : Room := { frames := 9, cells := 0, slots := 0, locals := 221 }
set_option maxHeartbeats 400000 in
set_option maxRecDepth 100000 in
theorem c_X6_book (l : Launch) (D : va_G) (cI cB cJ : ClassId) (tO tB : Nat) (adK adV : Nat → Nat) (vf : Value) (hvf : vf = .null ∨ ∃ q, vf = .ref q) (a_t : Nat) (a_t_book : Nat) (a_t_kept : Nat) (a_t_told : Nat) (a_t_tape : Nat) (a_t_rows : Nat) (a_t_sheets : Nat) (a_t_shelves : Nat) (a_t_thing : Nat) (a_t_shares : Nat) (a_t_ahead : Nat) (a_t_tape_bytes : Nat) (a_t_told_village : Nat) (a_t_told_mark : Nat) (a_t_told_held : Nat) (a_t_book_village : Nat) (a_t_book_mark : Nat) (a_t_book_held : Nat) (a_t_rows_cells : Nat) (sz : Nat) (s_t_isKept : Int32) (s_t_z : Int32) (s_t_keptZ : Int32) (s_t_tape_count : Int32) (s_t_tape_place : Int32) (s_t_tape_fault : Int32) (s_t_told_heldCount : Int32) (s_t_told_villages : Int32) (s_t_book_heldCount : Int32) (s_t_book_villages : Int32) (s_t_rows_count : Int32) (v_t_told_village : (Nat → Int32)) (v_t_told_mark : (Nat → Int32)) (v_t_tape_bytes : (Nat → Int32)) (v_t_told_held : (Nat → Int32)) (v_t_book_village : (Nat → Int32)) (v_t_book_mark : (Nat → Int32)) (v_t_book_held : (Nat → Int32)) (r : Int32) (o_s_t_tape_count : Int32) (o_s_t_tape_place : Int32) (o_s_t_tape_fault : Int32) (o_s_t_told_heldCount : Int32) (o_s_t_told_villages : Int32) (o_v_t_told_village : (Nat → Int32)) (o_v_t_told_mark : (Nat → Int32)) (o_v_t_told_held : (Nat → Int32)) (o_s_t_book_heldCount : Int32) (o_s_t_book_villages : Int32) (o_v_t_book_village : (Nat → Int32)) (o_v_t_book_mark : (Nat → Int32)) (o_v_t_book_held : (Nat → Int32)) (o_s_t_rows_count : Int32) (hF : f_X6_book s_t_tape_count s_t_tape_place s_t_tape_fault s_t_told_heldCount s_t_told_villages v_t_told_village v_t_told_mark v_t_tape_bytes v_t_told_held s_t_book_heldCount s_t_book_villages v_t_book_village v_t_book_mark v_t_book_held s_t_rows_count = some (r, o_s_t_tape_count, o_s_t_tape_place, o_s_t_tape_fault, o_s_t_told_heldCount, o_s_t_told_villages, o_v_t_told_village, o_v_t_told_mark, o_v_t_told_held, o_s_t_book_heldCount, o_s_t_book_villages, o_v_t_book_village, o_v_t_book_mark, o_v_t_book_held, o_s_t_rows_count)) : xMi l yX6_book (.code yX6_book cX6_book 2 (some .int) :: xU) rmX6_book (xKT D cI cB cJ tO tB adK adV vf [(a_t, .inr (6, [.ref a_t_book, .ref a_t_kept, .ref a_t_told, .ref a_t_tape, .ref a_t_rows, .ref a_t_sheets, .ref a_t_shelves, .ref a_t_thing, .ref a_t_shares, .ref a_t_ahead, .int s_t_isKept, .int s_t_z, .int s_t_keptZ])), (a_t_tape, .inr (4, [.ref a_t_tape_bytes, .int s_t_tape_count, .int s_t_tape_place, .int s_t_tape_fault])), (a_t_told, .inr (0, [.ref a_t_told_village, .ref a_t_told_mark, .ref a_t_told_held, .int s_t_told_heldCount, .int s_t_told_villages])), (a_t_told_village, .inl (cI, 24, .inl v_t_told_village)), (a_t_told_mark, .inl (cI, 24, .inl v_t_told_mark)), (a_t_tape_bytes, .inl (cB, 200, .inl v_t_tape_bytes)), (a_t_told_held, .inl (cI, 6, .inl v_t_told_held)), (a_t_book, .inr (0, [.ref a_t_book_village, .ref a_t_book_mark, .ref a_t_book_held, .int s_t_book_heldCount, .int s_t_book_villages])), (a_t_book_village, .inl (cI, 24, .inl v_t_book_village)), (a_t_book_mark, .inl (cI, 24, .inl v_t_book_mark)), (a_t_book_held, .inl (cI, 6, .inl v_t_book_held)), (a_t_rows, .inr (1, [.ref a_t_rows_cells, .int s_t_rows_count]))]) D sz [.ref a_t] [(a_t, .inr (6, [.ref a_t_book, .ref a_t_kept, .ref a_t_told, .ref a_t_tape, .ref a_t_rows, .ref a_t_sheets, .ref a_t_shelves, .ref a_t_thing, .ref a_t_shares, .ref a_t_ahead, .int s_t_isKept, .int s_t_z, .int s_t_keptZ])), (a_t_tape, .inr (4, [.ref a_t_tape_bytes, .int s_t_tape_count, .int s_t_tape_place, .int s_t_tape_fault])), (a_t_told, .inr (0, [.ref a_t_told_village, .ref a_t_told_mark, .ref a_t_told_held, .int s_t_told_heldCount, .int s_t_told_villages])), (a_t_told_village, .inl (cI, 24, .inl v_t_told_village)), (a_t_told_mark, .inl (cI, 24, .inl v_t_told_mark)), (a_t_tape_bytes, .inl (cB, 200, .inl v_t_tape_bytes)), (a_t_told_held, .inl (cI, 6, .inl v_t_told_held)), (a_t_book, .inr (0, [.ref a_t_book_village, .ref a_t_book_mark, .ref a_t_book_held, .int s_t_book_heldCount, .int s_t_book_villages])), (a_t_book_village, .inl (cI, 24, .inl v_t_book_village)), (a_t_book_mark, .inl (cI, 24, .inl v_t_book_mark)), (a_t_book_held, .inl (cI, 6, .inl v_t_book_held)), (a_t_rows, .inr (1, [.ref a_t_rows_cells, .int s_t_rows_count]))] [(a_t, .inr (6, [.ref a_t_book, .ref a_t_kept, .ref a_t_told, .ref a_t_tape, .ref a_t_rows, .ref a_t_sheets, .ref a_t_shelves, .ref a_t_thing, .ref a_t_shares, .ref a_t_ahead, .int s_t_isKept, .int s_t_z, .int s_t_keptZ])), (a_t_tape, .inr (4, [.ref a_t_tape_bytes, .int o_s_t_tape_count, .int o_s_t_tape_place, .int o_s_t_tape_fault])), (a_t_told, .inr (0, [.ref a_t_told_village, .ref a_t_told_mark, .ref a_t_told_held, .int o_s_t_told_heldCount, .int o_s_t_told_villages])), (a_t_told_village, .inl (cI, 24, .inl o_v_t_told_village)), (a_t_told_mark, .inl (cI, 24, .inl o_v_t_told_mark)), (a_t_tape_bytes, .inl (cB, 200, .inl v_t_tape_bytes)), (a_t_told_held, .inl (cI, 6, .inl o_v_t_told_held)), (a_t_book, .inr (0, [.ref a_t_book_village, .ref a_t_book_mark, .ref a_t_book_held, .int o_s_t_book_heldCount, .int o_s_t_book_villages])), (a_t_book_village, .inl (cI, 24, .inl o_v_t_book_village)), (a_t_book_mark, .inl (cI, 24, .inl o_v_t_book_mark)), (a_t_book_held, .inl (cI, 6, .inl o_v_t_book_held)), (a_t_rows, .inr (1, [.ref a_t_rows_cells, .int o_s_t_rows_count]))] r := by
  refine xMi.mkT (own := "FairNext") (by decide +kernel) rfl (Nat.le_of_ble_eq_true rfl) ?_
  intro p e s m args below meth c A Q ls H hfix hK hT hP hD hA hS hl hEnd
  obtain ⟨hx, hb, hml, hown, hts⟩ := id hfix
  have hl : lv_has ls 2 [(0, .ref a_t)] := hl
  rw [f_X6_book] at hF
  refine lv_aload_n hx hb dX6_book_0 rfl (lv_at hl 0 rfl) ?_
  refine xget (ci := 6) (C := RX6) (T := TX6) (N := 13) hfix xiX6 hK.1 hP 0 rfl rfl 3 (by decide) rfl xw_164 rfl dX6_book_1 ?_
  refine lv_aload_n hx hb dX6_book_4 rfl (lv_at hl 0 rfl) ?_
  refine xget (ci := 6) (C := RX6) (T := TX6) (N := 13) hfix xiX6 hK.1 hP 0 rfl rfl 2 (by decide) rfl xw_163 rfl dX6_book_5 ?_
  obtain ⟨r_1, o_2, o_3, o_4, o_5, o_6, o_7, o_8, hq_9, hF⟩ := bd8_e hF
  refine xri (xrunV (As := [.ref a_t_told]) (rest := []) (c_X4_readInto l D cI cB cJ tO tB adK adV vf hvf a_t_tape a_t_tape_bytes a_t_told a_t_told_village a_t_told_mark a_t_told_held _ s_t_tape_count s_t_tape_place s_t_tape_fault s_t_told_heldCount s_t_told_villages v_t_told_village v_t_told_mark v_t_tape_bytes v_t_told_held r_1 o_2 o_3 o_4 o_5 o_6 o_7 o_8 hq_9) hfix xw_216 yv_X4_readInto ⟨rfl, rfl⟩ ⟨(Nat.le_of_ble_eq_true rfl), (Nat.le_of_ble_eq_true rfl)⟩ xKTk (fun U hU hW => xKT.at hK hT hS (va_free hD hS hA [1, 2, 3, 4, 5, 6] rfl) U hU hW) hK.1 hP hD [1, 2, 3, 4, 5, 6] rfl rfl 1 4 rfl rfl rfl rfl hl.1 rfl (Nat.le_of_ble_eq_true rfl) dX6_book_8 ⟨Nat.zero_le _, Nat.zero_le _⟩) hP hD hS hA [1, 2, 3, 4, 5, 6] rfl rfl rfl (wn := [(a_t, .inr (6, [.ref a_t_book, .ref a_t_kept, .ref a_t_told, .ref a_t_tape, .ref a_t_rows, .ref a_t_sheets, .ref a_t_shelves, .ref a_t_thing, .ref a_t_shares, .ref a_t_ahead, .int s_t_isKept, .int s_t_z, .int s_t_keptZ])), (a_t_tape, .inr (4, [.ref a_t_tape_bytes, .int s_t_tape_count, .int o_2, .int o_3])), (a_t_told, .inr (0, [.ref a_t_told_village, .ref a_t_told_mark, .ref a_t_told_held, .int o_4, .int o_5])), (a_t_told_village, .inl (cI, 24, .inl o_6)), (a_t_told_mark, .inl (cI, 24, .inl o_7)), (a_t_tape_bytes, .inl (cB, 200, .inl v_t_tape_bytes)), (a_t_told_held, .inl (cI, 6, .inl o_8)), (a_t_book, .inr (0, [.ref a_t_book_village, .ref a_t_book_mark, .ref a_t_book_held, .int s_t_book_heldCount, .int s_t_book_villages])), (a_t_book_village, .inl (cI, 24, .inl v_t_book_village)), (a_t_book_mark, .inl (cI, 24, .inl v_t_book_mark)), (a_t_book_held, .inl (cI, 6, .inl v_t_book_held)), (a_t_rows, .inr (1, [.ref a_t_rows_cells, .int s_t_rows_count]))]) rfl (fun H locs hP hD hS => ?_)
  refine lv_istore_n (lv' := [(1, .int r_1), (0, .ref a_t)]) hx hb dX6_book_11 rfl hl (by decide) rfl (fun ls hl => ?_)
  refine lv_aload_n hx hb dX6_book_12 rfl (lv_at hl 1 rfl) ?_
  refine xget (ci := 6) (C := RX6) (T := TX6) (N := 13) hfix xiX6 hK.1 hP 0 rfl rfl 3 (by decide) rfl xw_164 rfl dX6_book_13 ?_
  refine lv_iconst (v := (0 : Int32)) hx hb dX6_book_16 (by decide) ?_
  refine xput (ci := 4) (C := RX4) (T := TX4) (N := 4) hfix xiX4 tyX4 tyX4_ok nmX4 hK.1 hP hD hS 1 rfl rfl 1 (by decide) rfl rfl xw_67 (ty := .int) rfl rfl rfl (Nat.le_of_ble_eq_true rfl) dX6_book_17 (wn := [(a_t, .inr (6, [.ref a_t_book, .ref a_t_kept, .ref a_t_told, .ref a_t_tape, .ref a_t_rows, .ref a_t_sheets, .ref a_t_shelves, .ref a_t_thing, .ref a_t_shares, .ref a_t_ahead, .int s_t_isKept, .int s_t_z, .int s_t_keptZ])), (a_t_tape, .inr (4, [.ref a_t_tape_bytes, .int (0 : Int32), .int o_2, .int o_3])), (a_t_told, .inr (0, [.ref a_t_told_village, .ref a_t_told_mark, .ref a_t_told_held, .int o_4, .int o_5])), (a_t_told_village, .inl (cI, 24, .inl o_6)), (a_t_told_mark, .inl (cI, 24, .inl o_7)), (a_t_tape_bytes, .inl (cB, 200, .inl v_t_tape_bytes)), (a_t_told_held, .inl (cI, 6, .inl o_8)), (a_t_book, .inr (0, [.ref a_t_book_village, .ref a_t_book_mark, .ref a_t_book_held, .int s_t_book_heldCount, .int s_t_book_villages])), (a_t_book_village, .inl (cI, 24, .inl v_t_book_village)), (a_t_book_mark, .inl (cI, 24, .inl v_t_book_mark)), (a_t_book_held, .inl (cI, 6, .inl v_t_book_held)), (a_t_rows, .inr (1, [.ref a_t_rows_cells, .int s_t_rows_count]))]) rfl (fun H locs hP hD hS => ?_)
  refine lv_iload_n hx hb dX6_book_20 rfl (lv_at hl 0 rfl) ?_
  refine lv_if_lt (tgt := 29) hx hb dX6_book_21 (by decide) (fun c_10 => ?_) (fun c_10 => ?_)
  · replace hF := if_t c_10 hF
    refine lv_aload_n hx hb dX6_book_29 rfl (lv_at hl 1 rfl) ?_
    refine xget (ci := 6) (C := RX6) (T := TX6) (N := 13) hfix xiX6 hK.1 hP 0 rfl rfl 0 (by decide) rfl xw_161 rfl dX6_book_30 ?_
    refine lv_aload_n hx hb dX6_book_33 rfl (lv_at hl 1 rfl) ?_
    refine xget (ci := 6) (C := RX6) (T := TX6) (N := 13) hfix xiX6 hK.1 hP 0 rfl rfl 2 (by decide) rfl xw_163 rfl dX6_book_34 ?_
    obtain ⟨o_11, o_12, o_13, o_14, o_15, hq_16, hF⟩ := bd5_e hF
    refine xrv (xrunV (As := [.ref a_t_told]) (rest := []) (c_X0_become l D cI cB cJ a_t_book a_t_book_village a_t_book_mark a_t_book_held a_t_told a_t_told_village a_t_told_mark a_t_told_held _ s_t_book_heldCount s_t_book_villages o_4 o_5 v_t_book_village o_6 v_t_book_mark o_7 v_t_book_held o_8 o_11 o_12 o_13 o_14 o_15 hq_16) hfix xw_340 yv_X0_become ⟨rfl, rfl⟩ ⟨(Nat.le_of_ble_eq_true rfl), (Nat.le_of_ble_eq_true rfl)⟩ xKk_K (fun U hU hW => xK.warm hW hK) hK.1 hP hD [7, 2, 8, 3, 9, 4, 10, 6] rfl rfl 7 0 rfl rfl rfl rfl hl.1 rfl (Nat.le_of_ble_eq_true rfl) dX6_book_37 ⟨Nat.zero_le _, Nat.zero_le _⟩) hP hD hS hA [7, 2, 8, 3, 9, 4, 10, 6] rfl rfl rfl (wn := [(a_t, .inr (6, [.ref a_t_book, .ref a_t_kept, .ref a_t_told, .ref a_t_tape, .ref a_t_rows, .ref a_t_sheets, .ref a_t_shelves, .ref a_t_thing, .ref a_t_shares, .ref a_t_ahead, .int s_t_isKept, .int s_t_z, .int s_t_keptZ])), (a_t_tape, .inr (4, [.ref a_t_tape_bytes, .int (0 : Int32), .int o_2, .int o_3])), (a_t_told, .inr (0, [.ref a_t_told_village, .ref a_t_told_mark, .ref a_t_told_held, .int o_4, .int o_5])), (a_t_told_village, .inl (cI, 24, .inl o_6)), (a_t_told_mark, .inl (cI, 24, .inl o_7)), (a_t_tape_bytes, .inl (cB, 200, .inl v_t_tape_bytes)), (a_t_told_held, .inl (cI, 6, .inl o_8)), (a_t_book, .inr (0, [.ref a_t_book_village, .ref a_t_book_mark, .ref a_t_book_held, .int o_11, .int o_12])), (a_t_book_village, .inl (cI, 24, .inl o_13)), (a_t_book_mark, .inl (cI, 24, .inl o_14)), (a_t_book_held, .inl (cI, 6, .inl o_15)), (a_t_rows, .inr (1, [.ref a_t_rows_cells, .int s_t_rows_count]))]) rfl (fun H locs hP hD hS => ?_)
    refine lv_aload_n hx hb dX6_book_40 rfl (lv_at hl 1 rfl) ?_
    refine xget (ci := 6) (C := RX6) (T := TX6) (N := 13) hfix xiX6 hK.1 hP 0 rfl rfl 4 (by decide) rfl xw_165 rfl dX6_book_41 ?_
    refine lv_iconst (v := (0 : Int32)) hx hb dX6_book_44 (by decide) ?_
    refine xput (ci := 1) (C := RX1) (T := TX1) (N := 2) hfix xiX1 tyX1 tyX1_ok nmX1 hK.1 hP hD hS 11 rfl rfl 1 (by decide) rfl rfl xw_89 (ty := .int) rfl rfl rfl (Nat.le_of_ble_eq_true rfl) dX6_book_45 (wn := [(a_t, .inr (6, [.ref a_t_book, .ref a_t_kept, .ref a_t_told, .ref a_t_tape, .ref a_t_rows, .ref a_t_sheets, .ref a_t_shelves, .ref a_t_thing, .ref a_t_shares, .ref a_t_ahead, .int s_t_isKept, .int s_t_z, .int s_t_keptZ])), (a_t_tape, .inr (4, [.ref a_t_tape_bytes, .int (0 : Int32), .int o_2, .int o_3])), (a_t_told, .inr (0, [.ref a_t_told_village, .ref a_t_told_mark, .ref a_t_told_held, .int o_4, .int o_5])), (a_t_told_village, .inl (cI, 24, .inl o_6)), (a_t_told_mark, .inl (cI, 24, .inl o_7)), (a_t_tape_bytes, .inl (cB, 200, .inl v_t_tape_bytes)), (a_t_told_held, .inl (cI, 6, .inl o_8)), (a_t_book, .inr (0, [.ref a_t_book_village, .ref a_t_book_mark, .ref a_t_book_held, .int o_11, .int o_12])), (a_t_book_village, .inl (cI, 24, .inl o_13)), (a_t_book_mark, .inl (cI, 24, .inl o_14)), (a_t_book_held, .inl (cI, 6, .inl o_15)), (a_t_rows, .inr (1, [.ref a_t_rows_cells, .int (0 : Int32)]))]) rfl (fun H locs hP hD hS => ?_)
    refine lv_aload_n hx hb dX6_book_48 rfl (lv_at hl 1 rfl) ?_
    refine xget (ci := 6) (C := RX6) (T := TX6) (N := 13) hfix xiX6 hK.1 hP 0 rfl rfl 0 (by decide) rfl xw_161 rfl dX6_book_49 ?_
    obtain ⟨r_17, hq_18, hF⟩ := bd1_e hF
    refine xri0 (xrunV (As := []) (rest := []) (c_X0_toldYears l D cI cB cJ a_t_book a_t_book_village a_t_book_mark a_t_book_held _ o_11 o_12 o_13 r_17 hq_18) hfix xw_347 yv_X0_toldYears ⟨rfl, rfl⟩ ⟨(Nat.le_of_ble_eq_true rfl), (Nat.le_of_ble_eq_true rfl)⟩ xKk_K (fun U hU hW => xK.warm hW hK) hK.1 hP hD [7, 8] rfl rfl 7 0 rfl rfl rfl rfl hl.1 rfl (Nat.le_of_ble_eq_true rfl) dX6_book_52 ⟨Nat.zero_le _, Nat.zero_le _⟩) hP hD hS hA [7, 8] rfl rfl (fun H locs hP hD hS => ?_)
    obtain ⟨rfl, rfl, rfl, rfl, rfl, rfl, rfl, rfl, rfl, rfl, rfl, rfl, rfl, rfl, rfl⟩ := pj15 hF
    exact hEnd _ _ _ _ _ dX6_book_55 hP hS rfl
  · replace hF := if_f c_10 hF
    refine lv_bipush (v := (-100 : Int32)) hx hb dX6_book_24 (by decide) ?_
    refine lv_iload_n hx hb dX6_book_26 rfl (lv_at hl 0 rfl) ?_
    refine lv_isub hx hb dX6_book_27 ?_
    obtain ⟨rfl, rfl, rfl, rfl, rfl, rfl, rfl, rfl, rfl, rfl, rfl, rfl, rfl, rfl, rfl⟩ := pj15 hF
    exact hEnd _ _ _ _ _ dX6_book_28 hP hS rfl
def f_X6_keep (s_t_isKept : Int32) (s_t_z : Int32) (s_t_keptZ : Int32) (s_t_kept_heldCount : Int32) (s_t_kept_villages : Int32) (s_t_book_heldCount : Int32) (s_t_book_villages : Int32) (v_t_kept_village : (Nat → Int32)) (v_t_book_village : (Nat → Int32)) (v_t_kept_mark : (Nat → Int32)) (v_t_book_mark : (Nat → Int32)) (v_t_kept_held : (Nat → Int32)) (v_t_book_held : (Nat → Int32)) : Option (Int32 × Int32 × Int32 × Int32 × Int32 × (Nat → Int32) × (Nat → Int32) × (Nat → Int32)) := bd5 (f_X0_become s_t_kept_heldCount s_t_kept_villages s_t_book_heldCount s_t_book_villages v_t_kept_village v_t_book_village v_t_kept_mark v_t_book_mark v_t_kept_held v_t_book_held) (fun (o_1 : Int32) (o_2 : Int32) (o_3 : (Nat → Int32)) (o_4 : (Nat → Int32)) (o_5 : (Nat → Int32)) => some (((1 : Int32), (1 : Int32), s_t_z, o_1, o_2, o_3, o_4, o_5)))
abbrev rmX6_keep : Room := { frames := 2, cells := 0, slots := 0, locals := 221 }
set_option maxHeartbeats 400000 in
set_option maxRecDepth 100000 in
theorem c_X6_keep (l : Launch) (D : va_G) (cI cB cJ : ClassId) (a_t : Nat) (a_t_book : Nat) (a_t_kept : Nat) (a_t_told : Nat) (a_t_tape : Nat) (a_t_rows : Nat) (a_t_sheets : Nat) (a_t_shelves : Nat) (a_t_thing : Nat) (a_t_shares : Nat) (a_t_ahead : Nat) (a_t_kept_village : Nat) (a_t_kept_mark : Nat) (a_t_kept_held : Nat) (a_t_book_village : Nat) (a_t_book_mark : Nat) (a_t_book_held : Nat) (sz : Nat) (s_t_isKept : Int32) (s_t_z : Int32) (s_t_keptZ : Int32) (s_t_kept_heldCount : Int32) (s_t_kept_villages : Int32) (s_t_book_heldCount : Int32) (s_t_book_villages : Int32) (v_t_kept_village : (Nat → Int32)) (v_t_book_village : (Nat → Int32)) (v_t_kept_mark : (Nat → Int32)) (v_t_book_mark : (Nat → Int32)) (v_t_kept_held : (Nat → Int32)) (v_t_book_held : (Nat → Int32)) (r : Int32) (o_s_t_isKept : Int32) (o_s_t_keptZ : Int32) (o_s_t_kept_heldCount : Int32) (o_s_t_kept_villages : Int32) (o_v_t_kept_village : (Nat → Int32)) (o_v_t_kept_mark : (Nat → Int32)) (o_v_t_kept_held : (Nat → Int32)) (hF : f_X6_keep s_t_isKept s_t_z s_t_keptZ s_t_kept_heldCount s_t_kept_villages s_t_book_heldCount s_t_book_villages v_t_kept_village v_t_book_village v_t_kept_mark v_t_book_mark v_t_kept_held v_t_book_held = some (r, o_s_t_isKept, o_s_t_keptZ, o_s_t_kept_heldCount, o_s_t_kept_villages, o_v_t_kept_village, o_v_t_kept_mark, o_v_t_kept_held)) : xMi l yX6_keep (.code yX6_keep cX6_keep 1 (some .int) :: xU) rmX6_keep (xK D cI cB cJ) D sz [.ref a_t] [(a_t, .inr (6, [.ref a_t_book, .ref a_t_kept, .ref a_t_told, .ref a_t_tape, .ref a_t_rows, .ref a_t_sheets, .ref a_t_shelves, .ref a_t_thing, .ref a_t_shares, .ref a_t_ahead, .int s_t_isKept, .int s_t_z, .int s_t_keptZ])), (a_t_kept, .inr (0, [.ref a_t_kept_village, .ref a_t_kept_mark, .ref a_t_kept_held, .int s_t_kept_heldCount, .int s_t_kept_villages])), (a_t_book, .inr (0, [.ref a_t_book_village, .ref a_t_book_mark, .ref a_t_book_held, .int s_t_book_heldCount, .int s_t_book_villages])), (a_t_kept_village, .inl (cI, 24, .inl v_t_kept_village)), (a_t_book_village, .inl (cI, 24, .inl v_t_book_village)), (a_t_kept_mark, .inl (cI, 24, .inl v_t_kept_mark)), (a_t_book_mark, .inl (cI, 24, .inl v_t_book_mark)), (a_t_kept_held, .inl (cI, 6, .inl v_t_kept_held)), (a_t_book_held, .inl (cI, 6, .inl v_t_book_held))] [(a_t, .inr (6, [.ref a_t_book, .ref a_t_kept, .ref a_t_told, .ref a_t_tape, .ref a_t_rows, .ref a_t_sheets, .ref a_t_shelves, .ref a_t_thing, .ref a_t_shares, .ref a_t_ahead, .int o_s_t_isKept, .int s_t_z, .int o_s_t_keptZ])), (a_t_kept, .inr (0, [.ref a_t_kept_village, .ref a_t_kept_mark, .ref a_t_kept_held, .int o_s_t_kept_heldCount, .int o_s_t_kept_villages])), (a_t_book, .inr (0, [.ref a_t_book_village, .ref a_t_book_mark, .ref a_t_book_held, .int s_t_book_heldCount, .int s_t_book_villages])), (a_t_kept_village, .inl (cI, 24, .inl o_v_t_kept_village)), (a_t_book_village, .inl (cI, 24, .inl v_t_book_village)), (a_t_kept_mark, .inl (cI, 24, .inl o_v_t_kept_mark)), (a_t_book_mark, .inl (cI, 24, .inl v_t_book_mark)), (a_t_kept_held, .inl (cI, 6, .inl o_v_t_kept_held)), (a_t_book_held, .inl (cI, 6, .inl v_t_book_held))] r := by
  refine xMi.mk (own := "FairNext") (by decide +kernel) rfl (Nat.le_of_ble_eq_true rfl) ?_
  intro p e s m args below meth c A Q ls H hfix hK hP hD hA hS hl hEnd
  obtain ⟨hx, hb, hml, hown, hts⟩ := id hfix
  have hl : lv_has ls 1 [(0, .ref a_t)] := hl
  rw [f_X6_keep] at hF
  refine lv_aload_n hx hb dX6_keep_0 rfl (lv_at hl 0 rfl) ?_
  refine xget (ci := 6) (C := RX6) (T := TX6) (N := 13) hfix xiX6 hK.1 hP 0 rfl rfl 1 (by decide) rfl xw_162 rfl dX6_keep_1 ?_
  refine lv_aload_n hx hb dX6_keep_4 rfl (lv_at hl 0 rfl) ?_
  refine xget (ci := 6) (C := RX6) (T := TX6) (N := 13) hfix xiX6 hK.1 hP 0 rfl rfl 0 (by decide) rfl xw_161 rfl dX6_keep_5 ?_
  obtain ⟨o_1, o_2, o_3, o_4, o_5, hq_6, hF⟩ := bd5_e hF
  refine xrv (xrunV (As := [.ref a_t_book]) (rest := []) (c_X0_become l D cI cB cJ a_t_kept a_t_kept_village a_t_kept_mark a_t_kept_held a_t_book a_t_book_village a_t_book_mark a_t_book_held _ s_t_kept_heldCount s_t_kept_villages s_t_book_heldCount s_t_book_villages v_t_kept_village v_t_book_village v_t_kept_mark v_t_book_mark v_t_kept_held v_t_book_held o_1 o_2 o_3 o_4 o_5 hq_6) hfix xw_340 yv_X0_become ⟨rfl, rfl⟩ ⟨(Nat.le_of_ble_eq_true rfl), (Nat.le_of_ble_eq_true rfl)⟩ xKk_K (fun U hU hW => xK.warm hW hK) hK.1 hP hD [1, 2, 3, 4, 5, 6, 7, 8] rfl rfl 1 0 rfl rfl rfl rfl hl.1 rfl (Nat.le_of_ble_eq_true rfl) dX6_keep_8 ⟨Nat.zero_le _, Nat.zero_le _⟩) hP hD hS hA [1, 2, 3, 4, 5, 6, 7, 8] rfl rfl rfl (wn := [(a_t, .inr (6, [.ref a_t_book, .ref a_t_kept, .ref a_t_told, .ref a_t_tape, .ref a_t_rows, .ref a_t_sheets, .ref a_t_shelves, .ref a_t_thing, .ref a_t_shares, .ref a_t_ahead, .int s_t_isKept, .int s_t_z, .int s_t_keptZ])), (a_t_kept, .inr (0, [.ref a_t_kept_village, .ref a_t_kept_mark, .ref a_t_kept_held, .int o_1, .int o_2])), (a_t_book, .inr (0, [.ref a_t_book_village, .ref a_t_book_mark, .ref a_t_book_held, .int s_t_book_heldCount, .int s_t_book_villages])), (a_t_kept_village, .inl (cI, 24, .inl o_3)), (a_t_book_village, .inl (cI, 24, .inl v_t_book_village)), (a_t_kept_mark, .inl (cI, 24, .inl o_4)), (a_t_book_mark, .inl (cI, 24, .inl v_t_book_mark)), (a_t_kept_held, .inl (cI, 6, .inl o_5)), (a_t_book_held, .inl (cI, 6, .inl v_t_book_held))]) rfl (fun H locs hP hD hS => ?_)
  refine lv_aload_n hx hb dX6_keep_11 rfl (lv_at hl 0 rfl) ?_
  refine lv_aload_n hx hb dX6_keep_12 rfl (lv_at hl 0 rfl) ?_
  refine xget (ci := 6) (C := RX6) (T := TX6) (N := 13) hfix xiX6 hK.1 hP 0 rfl rfl 11 (by decide) rfl xw_172 rfl dX6_keep_13 ?_
  refine xput (ci := 6) (C := RX6) (T := TX6) (N := 13) hfix xiX6 tyX6 tyX6_ok nmX6 hK.1 hP hD hS 0 rfl rfl 12 (by decide) rfl rfl xw_173 (ty := .int) rfl rfl rfl (Nat.le_of_ble_eq_true rfl) dX6_keep_16 (wn := [(a_t, .inr (6, [.ref a_t_book, .ref a_t_kept, .ref a_t_told, .ref a_t_tape, .ref a_t_rows, .ref a_t_sheets, .ref a_t_shelves, .ref a_t_thing, .ref a_t_shares, .ref a_t_ahead, .int s_t_isKept, .int s_t_z, .int s_t_z])), (a_t_kept, .inr (0, [.ref a_t_kept_village, .ref a_t_kept_mark, .ref a_t_kept_held, .int o_1, .int o_2])), (a_t_book, .inr (0, [.ref a_t_book_village, .ref a_t_book_mark, .ref a_t_book_held, .int s_t_book_heldCount, .int s_t_book_villages])), (a_t_kept_village, .inl (cI, 24, .inl o_3)), (a_t_book_village, .inl (cI, 24, .inl v_t_book_village)), (a_t_kept_mark, .inl (cI, 24, .inl o_4)), (a_t_book_mark, .inl (cI, 24, .inl v_t_book_mark)), (a_t_kept_held, .inl (cI, 6, .inl o_5)), (a_t_book_held, .inl (cI, 6, .inl v_t_book_held))]) rfl (fun H locs hP hD hS => ?_)
  refine lv_aload_n hx hb dX6_keep_19 rfl (lv_at hl 0 rfl) ?_
  refine lv_iconst (v := (1 : Int32)) hx hb dX6_keep_20 (by decide) ?_
  refine xput (ci := 6) (C := RX6) (T := TX6) (N := 13) hfix xiX6 tyX6 tyX6_ok nmX6 hK.1 hP hD hS 0 rfl rfl 10 (by decide) rfl rfl xw_171 (ty := .boolean) rfl (x01_n x01_1) (x01_f x01_1) (Nat.le_of_ble_eq_true rfl) dX6_keep_21 (wn := [(a_t, .inr (6, [.ref a_t_book, .ref a_t_kept, .ref a_t_told, .ref a_t_tape, .ref a_t_rows, .ref a_t_sheets, .ref a_t_shelves, .ref a_t_thing, .ref a_t_shares, .ref a_t_ahead, .int (1 : Int32), .int s_t_z, .int s_t_z])), (a_t_kept, .inr (0, [.ref a_t_kept_village, .ref a_t_kept_mark, .ref a_t_kept_held, .int o_1, .int o_2])), (a_t_book, .inr (0, [.ref a_t_book_village, .ref a_t_book_mark, .ref a_t_book_held, .int s_t_book_heldCount, .int s_t_book_villages])), (a_t_kept_village, .inl (cI, 24, .inl o_3)), (a_t_book_village, .inl (cI, 24, .inl v_t_book_village)), (a_t_kept_mark, .inl (cI, 24, .inl o_4)), (a_t_book_mark, .inl (cI, 24, .inl v_t_book_mark)), (a_t_kept_held, .inl (cI, 6, .inl o_5)), (a_t_book_held, .inl (cI, 6, .inl v_t_book_held))]) rfl (fun H locs hP hD hS => ?_)
  refine lv_iconst (v := (1 : Int32)) hx hb dX6_keep_24 (by decide) ?_
  obtain ⟨rfl, rfl, rfl, rfl, rfl, rfl, rfl, rfl⟩ := pj8 hF
  exact hEnd _ _ _ _ _ dX6_keep_25 hP hS rfl
def f_X6_again (s_t_isKept : Int32) (s_t_z : Int32) (s_t_keptZ : Int32) (s_t_book_heldCount : Int32) (s_t_book_villages : Int32) (s_t_kept_heldCount : Int32) (s_t_kept_villages : Int32) (v_t_book_village : (Nat → Int32)) (v_t_kept_village : (Nat → Int32)) (v_t_book_mark : (Nat → Int32)) (v_t_kept_mark : (Nat → Int32)) (v_t_book_held : (Nat → Int32)) (v_t_kept_held : (Nat → Int32)) : Option (Int32 × Int32 × Int32 × Int32 × (Nat → Int32) × (Nat → Int32) × (Nat → Int32)) := (if s_t_isKept = (0 : Int32) then some (((-3 : Int32), s_t_z, s_t_book_heldCount, s_t_book_villages, v_t_book_village, v_t_book_mark, v_t_book_held)) else bd5 (f_X0_become s_t_book_heldCount s_t_book_villages s_t_kept_heldCount s_t_kept_villages v_t_book_village v_t_kept_village v_t_book_mark v_t_kept_mark v_t_book_held v_t_kept_held) (fun (o_2 : Int32) (o_3 : Int32) (o_4 : (Nat → Int32)) (o_5 : (Nat → Int32)) (o_6 : (Nat → Int32)) => bd1 (f_X0_toldYears o_4) (fun (r_8 : Int32) => some ((r_8, s_t_keptZ, o_2, o_3, o_4, o_5, o_6)))))
abbrev rmX6_again : Room := { frames := 2, cells := 0, slots := 0, locals := 221 }
set_option maxHeartbeats 400000 in
set_option maxRecDepth 100000 in
theorem c_X6_again (l : Launch) (D : va_G) (cI cB cJ : ClassId) (a_t : Nat) (a_t_book : Nat) (a_t_kept : Nat) (a_t_told : Nat) (a_t_tape : Nat) (a_t_rows : Nat) (a_t_sheets : Nat) (a_t_shelves : Nat) (a_t_thing : Nat) (a_t_shares : Nat) (a_t_ahead : Nat) (a_t_book_village : Nat) (a_t_book_mark : Nat) (a_t_book_held : Nat) (a_t_kept_village : Nat) (a_t_kept_mark : Nat) (a_t_kept_held : Nat) (sz : Nat) (s_t_isKept : Int32) (s_t_z : Int32) (s_t_keptZ : Int32) (s_t_book_heldCount : Int32) (s_t_book_villages : Int32) (s_t_kept_heldCount : Int32) (s_t_kept_villages : Int32) (v_t_book_village : (Nat → Int32)) (v_t_kept_village : (Nat → Int32)) (v_t_book_mark : (Nat → Int32)) (v_t_kept_mark : (Nat → Int32)) (v_t_book_held : (Nat → Int32)) (v_t_kept_held : (Nat → Int32)) (r : Int32) (o_s_t_z : Int32) (o_s_t_book_heldCount : Int32) (o_s_t_book_villages : Int32) (o_v_t_book_village : (Nat → Int32)) (o_v_t_book_mark : (Nat → Int32)) (o_v_t_book_held : (Nat → Int32)) (hF : f_X6_again s_t_isKept s_t_z s_t_keptZ s_t_book_heldCount s_t_book_villages s_t_kept_heldCount s_t_kept_villages v_t_book_village v_t_kept_village v_t_book_mark v_t_kept_mark v_t_book_held v_t_kept_held = some (r, o_s_t_z, o_s_t_book_heldCount, o_s_t_book_villages, o_v_t_book_village, o_v_t_book_mark, o_v_t_book_held)) : xMi l yX6_again (.code yX6_again cX6_again 1 (some .int) :: xU) rmX6_again (xK D cI cB cJ) D sz [.ref a_t] [(a_t, .inr (6, [.ref a_t_book, .ref a_t_kept, .ref a_t_told, .ref a_t_tape, .ref a_t_rows, .ref a_t_sheets, .ref a_t_shelves, .ref a_t_thing, .ref a_t_shares, .ref a_t_ahead, .int s_t_isKept, .int s_t_z, .int s_t_keptZ])), (a_t_book, .inr (0, [.ref a_t_book_village, .ref a_t_book_mark, .ref a_t_book_held, .int s_t_book_heldCount, .int s_t_book_villages])), (a_t_kept, .inr (0, [.ref a_t_kept_village, .ref a_t_kept_mark, .ref a_t_kept_held, .int s_t_kept_heldCount, .int s_t_kept_villages])), (a_t_book_village, .inl (cI, 24, .inl v_t_book_village)), (a_t_kept_village, .inl (cI, 24, .inl v_t_kept_village)), (a_t_book_mark, .inl (cI, 24, .inl v_t_book_mark)), (a_t_kept_mark, .inl (cI, 24, .inl v_t_kept_mark)), (a_t_book_held, .inl (cI, 6, .inl v_t_book_held)), (a_t_kept_held, .inl (cI, 6, .inl v_t_kept_held))] [(a_t, .inr (6, [.ref a_t_book, .ref a_t_kept, .ref a_t_told, .ref a_t_tape, .ref a_t_rows, .ref a_t_sheets, .ref a_t_shelves, .ref a_t_thing, .ref a_t_shares, .ref a_t_ahead, .int s_t_isKept, .int o_s_t_z, .int s_t_keptZ])), (a_t_book, .inr (0, [.ref a_t_book_village, .ref a_t_book_mark, .ref a_t_book_held, .int o_s_t_book_heldCount, .int o_s_t_book_villages])), (a_t_kept, .inr (0, [.ref a_t_kept_village, .ref a_t_kept_mark, .ref a_t_kept_held, .int s_t_kept_heldCount, .int s_t_kept_villages])), (a_t_book_village, .inl (cI, 24, .inl o_v_t_book_village)), (a_t_kept_village, .inl (cI, 24, .inl v_t_kept_village)), (a_t_book_mark, .inl (cI, 24, .inl o_v_t_book_mark)), (a_t_kept_mark, .inl (cI, 24, .inl v_t_kept_mark)), (a_t_book_held, .inl (cI, 6, .inl o_v_t_book_held)), (a_t_kept_held, .inl (cI, 6, .inl v_t_kept_held))] r := by
  refine xMi.mk (own := "FairNext") (by decide +kernel) rfl (Nat.le_of_ble_eq_true rfl) ?_
  intro p e s m args below meth c A Q ls H hfix hK hP hD hA hS hl hEnd
  obtain ⟨hx, hb, hml, hown, hts⟩ := id hfix
  have hl : lv_has ls 1 [(0, .ref a_t)] := hl
  rw [f_X6_again] at hF
  refine lv_aload_n hx hb dX6_again_0 rfl (lv_at hl 0 rfl) ?_
  refine xget (ci := 6) (C := RX6) (T := TX6) (N := 13) hfix xiX6 hK.1 hP 0 rfl rfl 10 (by decide) rfl xw_171 rfl dX6_again_1 ?_
  refine lv_if_ne (tgt := 10) hx hb dX6_again_4 (by decide) (fun c_1 => ?_) (fun c_1 => ?_)
  · replace hF := if_f c_1 hF
    refine lv_aload_n hx hb dX6_again_10 rfl (lv_at hl 0 rfl) ?_
    refine xget (ci := 6) (C := RX6) (T := TX6) (N := 13) hfix xiX6 hK.1 hP 0 rfl rfl 0 (by decide) rfl xw_161 rfl dX6_again_11 ?_
    refine lv_aload_n hx hb dX6_again_14 rfl (lv_at hl 0 rfl) ?_
    refine xget (ci := 6) (C := RX6) (T := TX6) (N := 13) hfix xiX6 hK.1 hP 0 rfl rfl 1 (by decide) rfl xw_162 rfl dX6_again_15 ?_
    obtain ⟨o_2, o_3, o_4, o_5, o_6, hq_7, hF⟩ := bd5_e hF
    refine xrv (xrunV (As := [.ref a_t_kept]) (rest := []) (c_X0_become l D cI cB cJ a_t_book a_t_book_village a_t_book_mark a_t_book_held a_t_kept a_t_kept_village a_t_kept_mark a_t_kept_held _ s_t_book_heldCount s_t_book_villages s_t_kept_heldCount s_t_kept_villages v_t_book_village v_t_kept_village v_t_book_mark v_t_kept_mark v_t_book_held v_t_kept_held o_2 o_3 o_4 o_5 o_6 hq_7) hfix xw_340 yv_X0_become ⟨rfl, rfl⟩ ⟨(Nat.le_of_ble_eq_true rfl), (Nat.le_of_ble_eq_true rfl)⟩ xKk_K (fun U hU hW => xK.warm hW hK) hK.1 hP hD [1, 2, 3, 4, 5, 6, 7, 8] rfl rfl 1 0 rfl rfl rfl rfl hl.1 rfl (Nat.le_of_ble_eq_true rfl) dX6_again_18 ⟨Nat.zero_le _, Nat.zero_le _⟩) hP hD hS hA [1, 2, 3, 4, 5, 6, 7, 8] rfl rfl rfl (wn := [(a_t, .inr (6, [.ref a_t_book, .ref a_t_kept, .ref a_t_told, .ref a_t_tape, .ref a_t_rows, .ref a_t_sheets, .ref a_t_shelves, .ref a_t_thing, .ref a_t_shares, .ref a_t_ahead, .int s_t_isKept, .int s_t_z, .int s_t_keptZ])), (a_t_book, .inr (0, [.ref a_t_book_village, .ref a_t_book_mark, .ref a_t_book_held, .int o_2, .int o_3])), (a_t_kept, .inr (0, [.ref a_t_kept_village, .ref a_t_kept_mark, .ref a_t_kept_held, .int s_t_kept_heldCount, .int s_t_kept_villages])), (a_t_book_village, .inl (cI, 24, .inl o_4)), (a_t_kept_village, .inl (cI, 24, .inl v_t_kept_village)), (a_t_book_mark, .inl (cI, 24, .inl o_5)), (a_t_kept_mark, .inl (cI, 24, .inl v_t_kept_mark)), (a_t_book_held, .inl (cI, 6, .inl o_6)), (a_t_kept_held, .inl (cI, 6, .inl v_t_kept_held))]) rfl (fun H locs hP hD hS => ?_)
    refine lv_aload_n hx hb dX6_again_21 rfl (lv_at hl 0 rfl) ?_
    refine lv_aload_n hx hb dX6_again_22 rfl (lv_at hl 0 rfl) ?_
    refine xget (ci := 6) (C := RX6) (T := TX6) (N := 13) hfix xiX6 hK.1 hP 0 rfl rfl 12 (by decide) rfl xw_173 rfl dX6_again_23 ?_
    refine xput (ci := 6) (C := RX6) (T := TX6) (N := 13) hfix xiX6 tyX6 tyX6_ok nmX6 hK.1 hP hD hS 0 rfl rfl 11 (by decide) rfl rfl xw_172 (ty := .int) rfl rfl rfl (Nat.le_of_ble_eq_true rfl) dX6_again_26 (wn := [(a_t, .inr (6, [.ref a_t_book, .ref a_t_kept, .ref a_t_told, .ref a_t_tape, .ref a_t_rows, .ref a_t_sheets, .ref a_t_shelves, .ref a_t_thing, .ref a_t_shares, .ref a_t_ahead, .int s_t_isKept, .int s_t_keptZ, .int s_t_keptZ])), (a_t_book, .inr (0, [.ref a_t_book_village, .ref a_t_book_mark, .ref a_t_book_held, .int o_2, .int o_3])), (a_t_kept, .inr (0, [.ref a_t_kept_village, .ref a_t_kept_mark, .ref a_t_kept_held, .int s_t_kept_heldCount, .int s_t_kept_villages])), (a_t_book_village, .inl (cI, 24, .inl o_4)), (a_t_kept_village, .inl (cI, 24, .inl v_t_kept_village)), (a_t_book_mark, .inl (cI, 24, .inl o_5)), (a_t_kept_mark, .inl (cI, 24, .inl v_t_kept_mark)), (a_t_book_held, .inl (cI, 6, .inl o_6)), (a_t_kept_held, .inl (cI, 6, .inl v_t_kept_held))]) rfl (fun H locs hP hD hS => ?_)
    refine lv_aload_n hx hb dX6_again_29 rfl (lv_at hl 0 rfl) ?_
    refine xget (ci := 6) (C := RX6) (T := TX6) (N := 13) hfix xiX6 hK.1 hP 0 rfl rfl 0 (by decide) rfl xw_161 rfl dX6_again_30 ?_
    obtain ⟨r_8, hq_9, hF⟩ := bd1_e hF
    refine xri0 (xrunV (As := []) (rest := []) (c_X0_toldYears l D cI cB cJ a_t_book a_t_book_village a_t_book_mark a_t_book_held _ o_2 o_3 o_4 r_8 hq_9) hfix xw_347 yv_X0_toldYears ⟨rfl, rfl⟩ ⟨(Nat.le_of_ble_eq_true rfl), (Nat.le_of_ble_eq_true rfl)⟩ xKk_K (fun U hU hW => xK.warm hW hK) hK.1 hP hD [1, 3] rfl rfl 1 0 rfl rfl rfl rfl hl.1 rfl (Nat.le_of_ble_eq_true rfl) dX6_again_33 ⟨Nat.zero_le _, Nat.zero_le _⟩) hP hD hS hA [1, 3] rfl rfl (fun H locs hP hD hS => ?_)
    obtain ⟨rfl, rfl, rfl, rfl, rfl, rfl, rfl⟩ := pj7 hF
    exact hEnd _ _ _ _ _ dX6_again_36 hP hS rfl
  · replace hF := if_t c_1 hF
    refine lv_bipush (v := (-3 : Int32)) hx hb dX6_again_7 (by decide) ?_
    obtain ⟨rfl, rfl, rfl, rfl, rfl, rfl, rfl⟩ := pj7 hF
    exact hEnd _ _ _ _ _ dX6_again_9 hP hS rfl
def f_X6_isUnder_L4 (i2 : Int32) : Nat → Int32 → Int32 → Option ((Unit) ⊕ (Int32))
  | 0, _, _ => none
  | n + 1, x2_1, x3_2 => (if (6 : Int32) ≤ x3_2 then some (.inl ()) else (if x2_1 < (0 : Int32) then some (.inl ()) else (if (6 : Int32) ≤ x2_1 then some (.inl ()) else (if x2_1 = i2 then some (.inr ((1 : Int32))) else gd x2_1 6 (f_X6_isUnder_L4 i2 n (tabO x2_1.toNatClampNeg) (x3_2 + (1 : Int32)))))))
def f_X6_isUnder (i1 : Int32) (i2 : Int32) : Option (Int32) := bs0 (f_X6_isUnder_L4 i2 1000 i1 (0 : Int32)) (some ((0 : Int32))) (fun q => some (q))
abbrev rmX6_isUnder : Room := { frames := 0, cells := 0, slots := 0, locals := 0 }
set_option maxHeartbeats 400000 in
set_option maxRecDepth 100000 in
theorem c_X6_isUnder (l : Launch) (D : va_G) (cI cB cJ : ClassId) (tO tB : Nat) (adK adV : Nat → Nat) (vf : Value) (hvf : vf = .null ∨ ∃ q, vf = .ref q) (sz : Nat) (i1 : Int32) (i2 : Int32) (r : Int32) (hF : f_X6_isUnder i1 i2 = some r) : xMz l yX6_isUnder (.code yX6_isUnder cX6_isUnder 4 (some .boolean) :: xU) rmX6_isUnder (xKT D cI cB cJ tO tB adK adV vf []) D sz [.int i1, .int i2] [] [] r := by
  refine xMz.mkT (own := "FairNext") (by decide +kernel) rfl (Nat.le_of_ble_eq_true rfl) ?_
  intro p e s m args below meth c A Q ls H hfix hK hT hP hD hA hS hl hEnd
  obtain ⟨hx, hb, hml, hown, hts⟩ := id hfix
  have hl : lv_has ls 4 [(0, .int i1), (1, .int i2)] := hl
  rw [f_X6_isUnder] at hF
  refine lv_iload_n hx hb dX6_isUnder_0 rfl (lv_at hl 0 rfl) ?_
  refine lv_istore_n (lv' := [(2, .int i1), (0, .int i1), (1, .int i2)]) hx hb dX6_isUnder_1 rfl hl (by decide) rfl (fun ls hl => ?_)
  refine lv_iconst (v := (0 : Int32)) hx hb dX6_isUnder_2 (by decide) ?_
  refine lv_istore_n (lv' := [(3, .int (0 : Int32)), (2, .int i1), (0, .int i1), (1, .int i2)]) hx hb dX6_isUnder_3 rfl hl (by decide) rfl (fun ls hl => ?_)
  have hL_4 : ∀ (n : Nat) (x2_1 : Int32) (x3_2 : Int32) (_res : (Unit) ⊕ (Int32)), f_X6_isUnder_L4 i2 n x2_1 x3_2 = some _res → ∀ (H : Heap) (locs : List Loc) (ls : Array Slot), va_P D vwCl [] H → va_D A [] → va_S A s.heap H locs → lv_has ls 4 [(1, .int i2), (2, .int x2_1), (3, .int x3_2)] → (_res = .inl () → ∀ (H : Heap) (locs : List Loc) (ls : Array Slot), va_P D vwCl [] H → va_D A [] → va_S A s.heap H locs → lv_has ls 4 [] → W p l e rmX6_isUnder s m args below meth c H locs 0 0 Q (F0 m 43 ls [])) → (∀ q : Int32, _res = .inr q → q = r) → W p l e rmX6_isUnder s m args below meth c H locs 0 0 Q (F0 m 4 ls []) := by
    intro n
    induction n with
    | zero => intro x2_1 x3_2 _res hF; exact (no_some hF).elim
    | succ n ih =>
      intro x2_1 x3_2 _res hF H locs ls hP hD hS hl kexit hret
      rw [f_X6_isUnder_L4] at hF
      refine lv_iload_n hx hb dX6_isUnder_4 rfl (lv_at hl 2 rfl) ?_
      refine va_gets (v := .ref tO) hx hb hT.1 hS hown (hts _ (List.mem_cons_of_mem _ xw_634)) (fun _ h9 => h9) dX6_isUnder_5 ?_
      refine va_tlen (v := (6 : Int32)) hx hb hT.2.1 hS rfl dX6_isUnder_8 ?_
      refine lv_icmp_ge (tgt := 43) hx hb dX6_isUnder_9 (by decide) (fun c_3 => ?_) (fun c_3 => ?_)
      · replace hF := if_t c_3 hF
        obtain rfl := Option.some.inj hF
        exact kexit rfl _ _ _ hP hD hS (lv_sub hl [] rfl)
      · replace hF := if_f c_3 hF
        refine lv_iload_n hx hb dX6_isUnder_12 rfl (lv_at hl 1 rfl) ?_
        refine lv_if_lt (tgt := 43) hx hb dX6_isUnder_13 (by decide) (fun c_4 => ?_) (fun c_4 => ?_)
        · replace hF := if_t c_4 hF
          obtain rfl := Option.some.inj hF
          exact kexit rfl _ _ _ hP hD hS (lv_sub hl [] rfl)
        · replace hF := if_f c_4 hF
          refine lv_iload_n hx hb dX6_isUnder_16 rfl (lv_at hl 1 rfl) ?_
          refine va_gets (v := .ref tO) hx hb hT.1 hS hown (hts _ (List.mem_cons_of_mem _ xw_634)) (fun _ h9 => h9) dX6_isUnder_17 ?_
          refine va_tlen (v := (6 : Int32)) hx hb hT.2.1 hS rfl dX6_isUnder_20 ?_
          refine lv_icmp_ge (tgt := 43) hx hb dX6_isUnder_21 (by decide) (fun c_5 => ?_) (fun c_5 => ?_)
          · replace hF := if_t c_5 hF
            obtain rfl := Option.some.inj hF
            exact kexit rfl _ _ _ hP hD hS (lv_sub hl [] rfl)
          · replace hF := if_f c_5 hF
            refine lv_iload_n hx hb dX6_isUnder_24 rfl (lv_at hl 1 rfl) ?_
            refine lv_iload_n hx hb dX6_isUnder_25 rfl (lv_at hl 0 rfl) ?_
            refine lv_icmp_ne (tgt := 31) hx hb dX6_isUnder_26 (by decide) (fun c_6 => ?_) (fun c_6 => ?_)
            · replace hF := if_f c_6 hF
              refine va_gets (v := .ref tO) hx hb hT.1 hS hown (hts _ (List.mem_cons_of_mem _ xw_634)) (fun _ h9 => h9) dX6_isUnder_31 ?_
              refine lv_iload_n hx hb dX6_isUnder_34 rfl (lv_at hl 1 rfl) ?_
              obtain ⟨c_7, hF⟩ := gd_e hF
              refine va_ti hx hb hT.2.1 hS c_7 (v := .int (tabO x2_1.toNatClampNeg)) rfl dX6_isUnder_35 ?_
              refine lv_istore_n (lv' := [(2, .int (tabO x2_1.toNatClampNeg)), (1, .int i2), (3, .int x3_2)]) hx hb dX6_isUnder_36 rfl hl (by decide) rfl (fun ls hl => ?_)
              refine lv_iinc (v := (x3_2 + (1 : Int32))) (lv' := [(3, .int (x3_2 + (1 : Int32))), (2, .int (tabO x2_1.toNatClampNeg)), (1, .int i2)]) hx hb dX6_isUnder_37 hl (k := 2) rfl rfl (by decide) rfl (fun ls hl => ?_)
              refine lv_goto (tgt := 4) hx hb dX6_isUnder_40 (by decide) ?_
              exact ih _ _ _ hF _ _ _ hP hD hS (lv_sub hl [2, 1, 0] rfl) kexit hret
            · replace hF := if_t c_6 hF
              refine lv_iconst (v := (1 : Int32)) hx hb dX6_isUnder_29 (by decide) ?_
              obtain rfl := Option.some.inj hF
              have hF := hret _ rfl
              subst hF
              exact hEnd _ _ _ _ _ dX6_isUnder_30 hP hS x01_1 rfl
  rcases bs0_e hF with ⟨hq, hF⟩ | ⟨q, hq, hF⟩
  · refine hL_4 _ _ _ _ hq _ _ _ hP hD hS (lv_sub hl [3, 1, 0] rfl) (fun e H locs ls hP hD hS hl => ?_) (fun q e => nomatch e)
    cases e
    refine lv_iconst (v := (0 : Int32)) hx hb dX6_isUnder_43 (by decide) ?_
    obtain rfl := Option.some.inj hF
    exact hEnd _ _ _ _ _ dX6_isUnder_44 hP hS x01_0 rfl
  · exact hL_4 _ _ _ _ hq _ _ _ hP hD hS (lv_sub hl [3, 1, 0] rfl) (fun e => nomatch e) (fun q e => by cases e; cases hF; rfl)
def f_X6_taken (i1 : Int32) (i2 : Int32) (v_t_shelves_rule : (Nat → Int32)) (s_t_book_heldCount : Int32) (v_t_book_held : (Nat → Int32)) (v_t_shelves_sort : (Nat → Int32)) (v_t_shelves_size : (Nat → Int32)) : Option (Int32) := lt1 ((if (f_X6_outside i2 (0 : Int32) (5 : Int32)) = (0 : Int32) then ((1 : Int32)) else ((0 : Int32)))) (fun (j_2 : Int32) => lt1 ((if (f_X6_outside i2 (10 : Int32) (13 : Int32)) = (0 : Int32) then ((1 : Int32)) else ((0 : Int32)))) (fun (j_5 : Int32) => (if (f_X6_outside i1 (0 : Int32) (3 : Int32)) = (0 : Int32) then (if j_2 = (0 : Int32) then (if j_5 = (0 : Int32) then some ((-1 : Int32)) else gd i1 4 ((if (f_X0_holds (v_t_shelves_rule i1.toNatClampNeg) s_t_book_heldCount) = (0 : Int32) then gd i1 4 ((if (0 : Int32) ≤ (v_t_shelves_sort i1.toNatClampNeg) then gd i1 4 ((if (v_t_shelves_sort i1.toNatClampNeg) = (i2 - (10 : Int32)) then gd i1 4 (some ((v_t_shelves_size i1.toNatClampNeg))) else some ((-13 : Int32)))) else some ((-11 : Int32)))) else (if j_2 = (0 : Int32) then some ((-13 : Int32)) else gd (v_t_shelves_rule i1.toNatClampNeg) 6 (bd1 (f_X6_isUnder (f_X6_kindOf (v_t_book_held (v_t_shelves_rule i1.toNatClampNeg).toNatClampNeg)) i2) (fun (r_35 : Int32) => (if r_35 = (0 : Int32) then some ((-13 : Int32)) else some ((v_t_shelves_rule i1.toNatClampNeg))))))))) else gd i1 4 ((if (f_X0_holds (v_t_shelves_rule i1.toNatClampNeg) s_t_book_heldCount) = (0 : Int32) then gd i1 4 ((if (0 : Int32) ≤ (v_t_shelves_sort i1.toNatClampNeg) then gd i1 4 ((if (v_t_shelves_sort i1.toNatClampNeg) = (i2 - (10 : Int32)) then gd i1 4 (some ((v_t_shelves_size i1.toNatClampNeg))) else some ((-13 : Int32)))) else some ((-11 : Int32)))) else (if j_2 = (0 : Int32) then some ((-13 : Int32)) else gd (v_t_shelves_rule i1.toNatClampNeg) 6 (bd1 (f_X6_isUnder (f_X6_kindOf (v_t_book_held (v_t_shelves_rule i1.toNatClampNeg).toNatClampNeg)) i2) (fun (r_20 : Int32) => (if r_20 = (0 : Int32) then some ((-13 : Int32)) else some ((v_t_shelves_rule i1.toNatClampNeg))))))))) else some ((-1 : Int32)))))
abbrev rmX6_taken : Room := { frames := 1, cells := 0, slots := 0, locals := 23 }
set_option maxHeartbeats 400000 in
set_option maxRecDepth 100000 in
theorem c_X6_taken (l : Launch) (D : va_G) (cI cB cJ : ClassId) (tO tB : Nat) (adK adV : Nat → Nat) (vf : Value) (hvf : vf = .null ∨ ∃ q, vf = .ref q) (a_t : Nat) (a_t_book : Nat) (a_t_kept : Nat) (a_t_told : Nat) (a_t_tape : Nat) (a_t_rows : Nat) (a_t_sheets : Nat) (a_t_shelves : Nat) (a_t_thing : Nat) (a_t_shares : Nat) (a_t_ahead : Nat) (a_t_shelves_rule : Nat) (a_t_shelves_sort : Nat) (a_t_shelves_size : Nat) (a_t_book_village : Nat) (a_t_book_mark : Nat) (a_t_book_held : Nat) (sz : Nat) (s_t_isKept : Int32) (s_t_z : Int32) (s_t_keptZ : Int32) (s_t_book_heldCount : Int32) (s_t_book_villages : Int32) (v_t_shelves_rule : (Nat → Int32)) (v_t_book_held : (Nat → Int32)) (v_t_shelves_sort : (Nat → Int32)) (v_t_shelves_size : (Nat → Int32)) (i1 : Int32) (i2 : Int32) (r : Int32) (hF : f_X6_taken i1 i2 v_t_shelves_rule s_t_book_heldCount v_t_book_held v_t_shelves_sort v_t_shelves_size = some r) : xMi l yX6_taken (.code yX6_taken cX6_taken 6 (some .int) :: xU) rmX6_taken (xKT D cI cB cJ tO tB adK adV vf [(a_t, .inr (6, [.ref a_t_book, .ref a_t_kept, .ref a_t_told, .ref a_t_tape, .ref a_t_rows, .ref a_t_sheets, .ref a_t_shelves, .ref a_t_thing, .ref a_t_shares, .ref a_t_ahead, .int s_t_isKept, .int s_t_z, .int s_t_keptZ])), (a_t_shelves, .inr (3, [.ref a_t_shelves_rule, .ref a_t_shelves_sort, .ref a_t_shelves_size])), (a_t_shelves_rule, .inl (cI, 4, .inl v_t_shelves_rule)), (a_t_book, .inr (0, [.ref a_t_book_village, .ref a_t_book_mark, .ref a_t_book_held, .int s_t_book_heldCount, .int s_t_book_villages])), (a_t_book_held, .inl (cI, 6, .inl v_t_book_held)), (a_t_shelves_sort, .inl (cI, 4, .inl v_t_shelves_sort)), (a_t_shelves_size, .inl (cI, 4, .inl v_t_shelves_size))]) D sz [.ref a_t, .int i1, .int i2] [(a_t, .inr (6, [.ref a_t_book, .ref a_t_kept, .ref a_t_told, .ref a_t_tape, .ref a_t_rows, .ref a_t_sheets, .ref a_t_shelves, .ref a_t_thing, .ref a_t_shares, .ref a_t_ahead, .int s_t_isKept, .int s_t_z, .int s_t_keptZ])), (a_t_shelves, .inr (3, [.ref a_t_shelves_rule, .ref a_t_shelves_sort, .ref a_t_shelves_size])), (a_t_shelves_rule, .inl (cI, 4, .inl v_t_shelves_rule)), (a_t_book, .inr (0, [.ref a_t_book_village, .ref a_t_book_mark, .ref a_t_book_held, .int s_t_book_heldCount, .int s_t_book_villages])), (a_t_book_held, .inl (cI, 6, .inl v_t_book_held)), (a_t_shelves_sort, .inl (cI, 4, .inl v_t_shelves_sort)), (a_t_shelves_size, .inl (cI, 4, .inl v_t_shelves_size))] [(a_t, .inr (6, [.ref a_t_book, .ref a_t_kept, .ref a_t_told, .ref a_t_tape, .ref a_t_rows, .ref a_t_sheets, .ref a_t_shelves, .ref a_t_thing, .ref a_t_shares, .ref a_t_ahead, .int s_t_isKept, .int s_t_z, .int s_t_keptZ])), (a_t_shelves, .inr (3, [.ref a_t_shelves_rule, .ref a_t_shelves_sort, .ref a_t_shelves_size])), (a_t_shelves_rule, .inl (cI, 4, .inl v_t_shelves_rule)), (a_t_book, .inr (0, [.ref a_t_book_village, .ref a_t_book_mark, .ref a_t_book_held, .int s_t_book_heldCount, .int s_t_book_villages])), (a_t_book_held, .inl (cI, 6, .inl v_t_book_held)), (a_t_shelves_sort, .inl (cI, 4, .inl v_t_shelves_sort)), (a_t_shelves_size, .inl (cI, 4, .inl v_t_shelves_size))] r := by
  refine xMi.mkT (own := "FairNext") (by decide +kernel) rfl (Nat.le_of_ble_eq_true rfl) ?_
  intro p e s m args below meth c A Q ls H hfix hK hT hP hD hA hS hl hEnd
  obtain ⟨hx, hb, hml, hown, hts⟩ := id hfix
  have hl : lv_has ls 6 [(0, .ref a_t), (1, .int i1), (2, .int i2)] := hl
  rw [f_X6_taken] at hF
  refine lv_iload_n hx hb dX6_taken_0 rfl (lv_at hl 2 rfl) ?_
  refine lv_iconst (v := (0 : Int32)) hx hb dX6_taken_1 (by decide) ?_
  refine lv_iconst (v := (5 : Int32)) hx hb dX6_taken_2 (by decide) ?_
  refine xrz0 (xrunS (As := [.int i2, .int (0 : Int32), .int (5 : Int32)]) (rest := []) (c_X6_outside l D cI cB cJ _ i2 (0 : Int32) (5 : Int32) (f_X6_outside i2 (0 : Int32) (5 : Int32)) rfl) hfix xw_205 ys_X6_outside ⟨rfl, rfl⟩ ⟨(Nat.le_of_ble_eq_true rfl), (Nat.le_of_ble_eq_true rfl)⟩ xKk_K (fun U hU hW => xK.warm hW hK) hP hD [] rfl rfl rfl hl.1 rfl (Nat.le_of_ble_eq_true rfl) dX6_taken_3 ⟨Nat.zero_le _, Nat.zero_le _⟩) hP hD hS hA [] rfl rfl (fun H locs hP hD hS hz_1 => ?_)
  obtain ⟨j_2, hJ, hF⟩ := lt1_e hF
  have hN_14_3 : x01 j_2 → ∀ (H : Heap) (locs : List Loc) (ls : Array Slot), va_P D vwCl [(a_t, .inr (6, [.ref a_t_book, .ref a_t_kept, .ref a_t_told, .ref a_t_tape, .ref a_t_rows, .ref a_t_sheets, .ref a_t_shelves, .ref a_t_thing, .ref a_t_shares, .ref a_t_ahead, .int s_t_isKept, .int s_t_z, .int s_t_keptZ])), (a_t_shelves, .inr (3, [.ref a_t_shelves_rule, .ref a_t_shelves_sort, .ref a_t_shelves_size])), (a_t_shelves_rule, .inl (cI, 4, .inl v_t_shelves_rule)), (a_t_book, .inr (0, [.ref a_t_book_village, .ref a_t_book_mark, .ref a_t_book_held, .int s_t_book_heldCount, .int s_t_book_villages])), (a_t_book_held, .inl (cI, 6, .inl v_t_book_held)), (a_t_shelves_sort, .inl (cI, 4, .inl v_t_shelves_sort)), (a_t_shelves_size, .inl (cI, 4, .inl v_t_shelves_size))] H → va_D A [(a_t, .inr (6, [.ref a_t_book, .ref a_t_kept, .ref a_t_told, .ref a_t_tape, .ref a_t_rows, .ref a_t_sheets, .ref a_t_shelves, .ref a_t_thing, .ref a_t_shares, .ref a_t_ahead, .int s_t_isKept, .int s_t_z, .int s_t_keptZ])), (a_t_shelves, .inr (3, [.ref a_t_shelves_rule, .ref a_t_shelves_sort, .ref a_t_shelves_size])), (a_t_shelves_rule, .inl (cI, 4, .inl v_t_shelves_rule)), (a_t_book, .inr (0, [.ref a_t_book_village, .ref a_t_book_mark, .ref a_t_book_held, .int s_t_book_heldCount, .int s_t_book_villages])), (a_t_book_held, .inl (cI, 6, .inl v_t_book_held)), (a_t_shelves_sort, .inl (cI, 4, .inl v_t_shelves_sort)), (a_t_shelves_size, .inl (cI, 4, .inl v_t_shelves_size))] → va_S A s.heap H locs → lv_has ls 6 [(0, .ref a_t), (1, .int i1), (2, .int i2)] → W p l e rmX6_taken s m args below meth c H locs 0 0 Q (F0 m 14 ls [.int j_2]) := by
    intro h01_3 H locs ls hP hD hS hl
    refine lv_istore_n (lv' := [(3, .int j_2), (0, .ref a_t), (1, .int i1), (2, .int i2)]) hx hb dX6_taken_14 rfl hl (by decide) rfl (fun ls hl => ?_)
    refine lv_iload_n hx hb dX6_taken_15 rfl (lv_at hl 3 rfl) ?_
    refine lv_bipush (v := (10 : Int32)) hx hb dX6_taken_16 (by decide) ?_
    refine lv_bipush (v := (13 : Int32)) hx hb dX6_taken_18 (by decide) ?_
    refine xrz0 (xrunS (As := [.int i2, .int (10 : Int32), .int (13 : Int32)]) (rest := []) (c_X6_outside l D cI cB cJ _ i2 (10 : Int32) (13 : Int32) (f_X6_outside i2 (10 : Int32) (13 : Int32)) rfl) hfix xw_205 ys_X6_outside ⟨rfl, rfl⟩ ⟨(Nat.le_of_ble_eq_true rfl), (Nat.le_of_ble_eq_true rfl)⟩ xKk_K (fun U hU hW => xK.warm hW hK) hP hD [] rfl rfl rfl hl.1 rfl (Nat.le_of_ble_eq_true rfl) dX6_taken_20 ⟨Nat.zero_le _, Nat.zero_le _⟩) hP hD hS hA [] rfl rfl (fun H locs hP hD hS hz_4 => ?_)
    obtain ⟨j_5, hJ, hF⟩ := lt1_e hF
    have hN_31_6 : x01 j_5 → ∀ (H : Heap) (locs : List Loc) (ls : Array Slot), va_P D vwCl [(a_t, .inr (6, [.ref a_t_book, .ref a_t_kept, .ref a_t_told, .ref a_t_tape, .ref a_t_rows, .ref a_t_sheets, .ref a_t_shelves, .ref a_t_thing, .ref a_t_shares, .ref a_t_ahead, .int s_t_isKept, .int s_t_z, .int s_t_keptZ])), (a_t_shelves, .inr (3, [.ref a_t_shelves_rule, .ref a_t_shelves_sort, .ref a_t_shelves_size])), (a_t_shelves_rule, .inl (cI, 4, .inl v_t_shelves_rule)), (a_t_book, .inr (0, [.ref a_t_book_village, .ref a_t_book_mark, .ref a_t_book_held, .int s_t_book_heldCount, .int s_t_book_villages])), (a_t_book_held, .inl (cI, 6, .inl v_t_book_held)), (a_t_shelves_sort, .inl (cI, 4, .inl v_t_shelves_sort)), (a_t_shelves_size, .inl (cI, 4, .inl v_t_shelves_size))] H → va_D A [(a_t, .inr (6, [.ref a_t_book, .ref a_t_kept, .ref a_t_told, .ref a_t_tape, .ref a_t_rows, .ref a_t_sheets, .ref a_t_shelves, .ref a_t_thing, .ref a_t_shares, .ref a_t_ahead, .int s_t_isKept, .int s_t_z, .int s_t_keptZ])), (a_t_shelves, .inr (3, [.ref a_t_shelves_rule, .ref a_t_shelves_sort, .ref a_t_shelves_size])), (a_t_shelves_rule, .inl (cI, 4, .inl v_t_shelves_rule)), (a_t_book, .inr (0, [.ref a_t_book_village, .ref a_t_book_mark, .ref a_t_book_held, .int s_t_book_heldCount, .int s_t_book_villages])), (a_t_book_held, .inl (cI, 6, .inl v_t_book_held)), (a_t_shelves_sort, .inl (cI, 4, .inl v_t_shelves_sort)), (a_t_shelves_size, .inl (cI, 4, .inl v_t_shelves_size))] → va_S A s.heap H locs → lv_has ls 6 [(0, .ref a_t), (1, .int i1), (2, .int i2), (3, .int j_2)] → W p l e rmX6_taken s m args below meth c H locs 0 0 Q (F0 m 31 ls [.int j_5]) := by
      intro h01_6 H locs ls hP hD hS hl
      refine lv_istore (lv' := [(4, .int j_5), (0, .ref a_t), (1, .int i1), (2, .int i2), (3, .int j_2)]) hx hb dX6_taken_31 hl (by decide) rfl (fun ls hl => ?_)
      refine lv_iload_n hx hb dX6_taken_33 rfl (lv_at hl 2 rfl) ?_
      refine lv_iconst (v := (0 : Int32)) hx hb dX6_taken_34 (by decide) ?_
      refine lv_iconst (v := (3 : Int32)) hx hb dX6_taken_35 (by decide) ?_
      refine xrz0 (xrunS (As := [.int i1, .int (0 : Int32), .int (3 : Int32)]) (rest := []) (c_X6_outside l D cI cB cJ _ i1 (0 : Int32) (3 : Int32) (f_X6_outside i1 (0 : Int32) (3 : Int32)) rfl) hfix xw_205 ys_X6_outside ⟨rfl, rfl⟩ ⟨(Nat.le_of_ble_eq_true rfl), (Nat.le_of_ble_eq_true rfl)⟩ xKk_K (fun U hU hW => xK.warm hW hK) hP hD [] rfl rfl rfl hl.1 rfl (Nat.le_of_ble_eq_true rfl) dX6_taken_36 ⟨Nat.zero_le _, Nat.zero_le _⟩) hP hD hS hA [] rfl rfl (fun H locs hP hD hS hz_7 => ?_)
      refine lv_if_ne (tgt := 51) hx hb dX6_taken_39 (by decide) (fun c_8 => ?_) (fun c_8 => ?_)
      · replace hF := if_f c_8 hF
        refine lv_iconst (v := (-1 : Int32)) hx hb dX6_taken_51 (by decide) ?_
        obtain rfl := Option.some.inj hF
        exact hEnd _ _ _ _ _ dX6_taken_52 hP hS rfl
      · replace hF := if_t c_8 hF
        refine lv_iload_n hx hb dX6_taken_42 rfl (lv_at hl 4 rfl) ?_
        refine lv_if_ne (tgt := 53) hx hb dX6_taken_43 (by decide) (fun c_9 => ?_) (fun c_9 => ?_)
        · replace hF := if_f c_9 hF
          refine lv_aload_n hx hb dX6_taken_53 rfl (lv_at hl 1 rfl) ?_
          refine xget (ci := 6) (C := RX6) (T := TX6) (N := 13) hfix xiX6 hK.1 hP 0 rfl rfl 6 (by decide) rfl xw_167 rfl dX6_taken_54 ?_
          refine xget (ci := 3) (C := RX3) (T := TX3) (N := 3) hfix xiX3 hK.1 hP 1 rfl rfl 0 (by decide) rfl xw_122 rfl dX6_taken_57 ?_
          refine lv_iload_n hx hb dX6_taken_60 rfl (lv_at hl 2 rfl) ?_
          obtain ⟨c_10, hF⟩ := gd_e hF
          refine va_iald hx hb hK.1 hP 2 0 rfl rfl c_10 dX6_taken_61 ?_
          refine lv_istore (lv' := [(5, .int (v_t_shelves_rule i1.toNatClampNeg)), (4, .int j_5), (0, .ref a_t), (1, .int i1), (2, .int i2), (3, .int j_2)]) hx hb dX6_taken_62 hl (by decide) rfl (fun ls hl => ?_)
          refine lv_aload_n hx hb dX6_taken_64 rfl (lv_at hl 2 rfl) ?_
          refine xget (ci := 6) (C := RX6) (T := TX6) (N := 13) hfix xiX6 hK.1 hP 0 rfl rfl 0 (by decide) rfl xw_161 rfl dX6_taken_65 ?_
          refine lv_iload hx hb dX6_taken_68 (lv_at hl 0 rfl) ?_
          refine xrz0 (xrunV (As := [.int (v_t_shelves_rule i1.toNatClampNeg)]) (rest := []) (c_X0_holds l D cI cB cJ a_t_book a_t_book_village a_t_book_mark a_t_book_held _ s_t_book_heldCount s_t_book_villages (v_t_shelves_rule i1.toNatClampNeg) (f_X0_holds (v_t_shelves_rule i1.toNatClampNeg) s_t_book_heldCount) rfl) hfix xw_377 yv_X0_holds ⟨rfl, rfl⟩ ⟨(Nat.le_of_ble_eq_true rfl), (Nat.le_of_ble_eq_true rfl)⟩ xKk_K (fun U hU hW => xK.warm hW hK) hK.1 hP hD [3] rfl rfl 3 0 rfl rfl rfl rfl hl.1 rfl (Nat.le_of_ble_eq_true rfl) dX6_taken_70 ⟨Nat.zero_le _, Nat.zero_le _⟩) hP hD hS hA [3] rfl rfl (fun H locs hP hD hS hz_11 => ?_)
          refine lv_if_eq (tgt := 108) hx hb dX6_taken_73 (by decide) (fun c_12 => ?_) (fun c_12 => ?_)
          · replace hF := if_t c_12 hF
            refine lv_aload_n hx hb dX6_taken_108 rfl (lv_at hl 2 rfl) ?_
            refine xget (ci := 6) (C := RX6) (T := TX6) (N := 13) hfix xiX6 hK.1 hP 0 rfl rfl 6 (by decide) rfl xw_167 rfl dX6_taken_109 ?_
            refine xget (ci := 3) (C := RX3) (T := TX3) (N := 3) hfix xiX3 hK.1 hP 1 rfl rfl 1 (by decide) rfl xw_124 rfl dX6_taken_112 ?_
            refine lv_iload_n hx hb dX6_taken_115 rfl (lv_at hl 3 rfl) ?_
            obtain ⟨c_13, hF⟩ := gd_e hF
            refine va_iald hx hb hK.1 hP 5 0 rfl rfl c_13 dX6_taken_116 ?_
            refine lv_if_ge (tgt := 123) hx hb dX6_taken_117 (by decide) (fun c_14 => ?_) (fun c_14 => ?_)
            · replace hF := if_t c_14 hF
              refine lv_aload_n hx hb dX6_taken_123 rfl (lv_at hl 2 rfl) ?_
              refine xget (ci := 6) (C := RX6) (T := TX6) (N := 13) hfix xiX6 hK.1 hP 0 rfl rfl 6 (by decide) rfl xw_167 rfl dX6_taken_124 ?_
              refine xget (ci := 3) (C := RX3) (T := TX3) (N := 3) hfix xiX3 hK.1 hP 1 rfl rfl 1 (by decide) rfl xw_124 rfl dX6_taken_127 ?_
              refine lv_iload_n hx hb dX6_taken_130 rfl (lv_at hl 3 rfl) ?_
              obtain ⟨c_15, hF⟩ := gd_e hF
              refine va_iald hx hb hK.1 hP 5 0 rfl rfl c_15 dX6_taken_131 ?_
              refine lv_iload_n hx hb dX6_taken_132 rfl (lv_at hl 4 rfl) ?_
              refine lv_bipush (v := (10 : Int32)) hx hb dX6_taken_133 (by decide) ?_
              refine lv_isub hx hb dX6_taken_135 ?_
              refine lv_icmp_ne (tgt := 151) hx hb dX6_taken_136 (by decide) (fun c_16 => ?_) (fun c_16 => ?_)
              · replace hF := if_f c_16 hF
                refine lv_bipush (v := (-13 : Int32)) hx hb dX6_taken_151 (by decide) ?_
                obtain rfl := Option.some.inj hF
                exact hEnd _ _ _ _ _ dX6_taken_153 hP hS rfl
              · replace hF := if_t c_16 hF
                refine lv_aload_n hx hb dX6_taken_139 rfl (lv_at hl 2 rfl) ?_
                refine xget (ci := 6) (C := RX6) (T := TX6) (N := 13) hfix xiX6 hK.1 hP 0 rfl rfl 6 (by decide) rfl xw_167 rfl dX6_taken_140 ?_
                refine xget (ci := 3) (C := RX3) (T := TX3) (N := 3) hfix xiX3 hK.1 hP 1 rfl rfl 2 (by decide) rfl xw_126 rfl dX6_taken_143 ?_
                refine lv_iload_n hx hb dX6_taken_146 rfl (lv_at hl 3 rfl) ?_
                obtain ⟨c_17, hF⟩ := gd_e hF
                refine va_iald hx hb hK.1 hP 6 0 rfl rfl c_17 dX6_taken_147 ?_
                refine lv_goto (tgt := 153) hx hb dX6_taken_148 (by decide) ?_
                obtain rfl := Option.some.inj hF
                exact hEnd _ _ _ _ _ dX6_taken_153 hP hS rfl
            · replace hF := if_f c_14 hF
              refine lv_bipush (v := (-11 : Int32)) hx hb dX6_taken_120 (by decide) ?_
              obtain rfl := Option.some.inj hF
              exact hEnd _ _ _ _ _ dX6_taken_122 hP hS rfl
          · replace hF := if_f c_12 hF
            refine lv_iload_n hx hb dX6_taken_76 rfl (lv_at hl 5 rfl) ?_
            refine lv_if_eq (tgt := 105) hx hb dX6_taken_77 (by decide) (fun c_18 => ?_) (fun c_18 => ?_)
            · replace hF := if_t c_18 hF
              refine lv_bipush (v := (-13 : Int32)) hx hb dX6_taken_105 (by decide) ?_
              obtain rfl := Option.some.inj hF
              exact hEnd _ _ _ _ _ dX6_taken_107 hP hS rfl
            · replace hF := if_f c_18 hF
              refine lv_aload_n hx hb dX6_taken_80 rfl (lv_at hl 2 rfl) ?_
              refine xget (ci := 6) (C := RX6) (T := TX6) (N := 13) hfix xiX6 hK.1 hP 0 rfl rfl 0 (by decide) rfl xw_161 rfl dX6_taken_81 ?_
              refine xget (ci := 0) (C := RX0) (T := TX0) (N := 5) hfix xiX0 hK.1 hP 3 rfl rfl 2 (by decide) rfl xw_40 rfl dX6_taken_84 ?_
              refine lv_iload hx hb dX6_taken_87 (lv_at hl 0 rfl) ?_
              obtain ⟨c_19, hF⟩ := gd_e hF
              refine va_iald hx hb hK.1 hP 4 0 rfl rfl c_19 dX6_taken_89 ?_
              refine xri0 (xrunS (As := [.int (v_t_book_held (v_t_shelves_rule i1.toNatClampNeg).toNatClampNeg)]) (rest := []) (c_X6_kindOf l D cI cB cJ _ (v_t_book_held (v_t_shelves_rule i1.toNatClampNeg).toNatClampNeg) (f_X6_kindOf (v_t_book_held (v_t_shelves_rule i1.toNatClampNeg).toNatClampNeg)) rfl) hfix xw_385 ys_X6_kindOf ⟨rfl, rfl⟩ ⟨(Nat.le_of_ble_eq_true rfl), (Nat.le_of_ble_eq_true rfl)⟩ xKk_K (fun U hU hW => xK.warm hW hK) hP hD [] rfl rfl rfl hl.1 rfl (Nat.le_of_ble_eq_true rfl) dX6_taken_90 ⟨Nat.zero_le _, Nat.zero_le _⟩) hP hD hS hA [] rfl rfl (fun H locs hP hD hS => ?_)
              refine lv_iload_n hx hb dX6_taken_93 rfl (lv_at hl 4 rfl) ?_
              obtain ⟨r_20, hq_21, hF⟩ := bd1_e hF
              refine xrz0 (xrunS (As := [.int (f_X6_kindOf (v_t_book_held (v_t_shelves_rule i1.toNatClampNeg).toNatClampNeg)), .int i2]) (rest := []) (c_X6_isUnder l D cI cB cJ tO tB adK adV vf hvf _ (f_X6_kindOf (v_t_book_held (v_t_shelves_rule i1.toNatClampNeg).toNatClampNeg)) i2 r_20 hq_21) hfix xw_631 ys_X6_isUnder ⟨rfl, rfl⟩ ⟨(Nat.le_of_ble_eq_true rfl), (Nat.le_of_ble_eq_true rfl)⟩ xKTk (fun U hU hW => xKT.at hK hT hS (va_free hD hS hA [] rfl) U hU hW) hP hD [] rfl rfl rfl hl.1 rfl (Nat.le_of_ble_eq_true rfl) dX6_taken_94 ⟨Nat.zero_le _, Nat.zero_le _⟩) hP hD hS hA [] rfl rfl (fun H locs hP hD hS hz_22 => ?_)
              refine lv_if_eq (tgt := 105) hx hb dX6_taken_97 (by decide) (fun c_23 => ?_) (fun c_23 => ?_)
              · replace hF := if_t c_23 hF
                refine lv_bipush (v := (-13 : Int32)) hx hb dX6_taken_105 (by decide) ?_
                obtain rfl := Option.some.inj hF
                exact hEnd _ _ _ _ _ dX6_taken_107 hP hS rfl
              · replace hF := if_f c_23 hF
                refine lv_iload hx hb dX6_taken_100 (lv_at hl 0 rfl) ?_
                refine lv_goto (tgt := 107) hx hb dX6_taken_102 (by decide) ?_
                obtain rfl := Option.some.inj hF
                exact hEnd _ _ _ _ _ dX6_taken_107 hP hS rfl
        · replace hF := if_t c_9 hF
          refine lv_iload hx hb dX6_taken_46 (lv_at hl 0 rfl) ?_
          refine lv_if_ne (tgt := 53) hx hb dX6_taken_48 (by decide) (fun c_24 => ?_) (fun c_24 => ?_)
          · replace hF := if_f c_24 hF
            refine lv_aload_n hx hb dX6_taken_53 rfl (lv_at hl 1 rfl) ?_
            refine xget (ci := 6) (C := RX6) (T := TX6) (N := 13) hfix xiX6 hK.1 hP 0 rfl rfl 6 (by decide) rfl xw_167 rfl dX6_taken_54 ?_
            refine xget (ci := 3) (C := RX3) (T := TX3) (N := 3) hfix xiX3 hK.1 hP 1 rfl rfl 0 (by decide) rfl xw_122 rfl dX6_taken_57 ?_
            refine lv_iload_n hx hb dX6_taken_60 rfl (lv_at hl 2 rfl) ?_
            obtain ⟨c_25, hF⟩ := gd_e hF
            refine va_iald hx hb hK.1 hP 2 0 rfl rfl c_25 dX6_taken_61 ?_
            refine lv_istore (lv' := [(5, .int (v_t_shelves_rule i1.toNatClampNeg)), (4, .int j_5), (0, .ref a_t), (1, .int i1), (2, .int i2), (3, .int j_2)]) hx hb dX6_taken_62 hl (by decide) rfl (fun ls hl => ?_)
            refine lv_aload_n hx hb dX6_taken_64 rfl (lv_at hl 2 rfl) ?_
            refine xget (ci := 6) (C := RX6) (T := TX6) (N := 13) hfix xiX6 hK.1 hP 0 rfl rfl 0 (by decide) rfl xw_161 rfl dX6_taken_65 ?_
            refine lv_iload hx hb dX6_taken_68 (lv_at hl 0 rfl) ?_
            refine xrz0 (xrunV (As := [.int (v_t_shelves_rule i1.toNatClampNeg)]) (rest := []) (c_X0_holds l D cI cB cJ a_t_book a_t_book_village a_t_book_mark a_t_book_held _ s_t_book_heldCount s_t_book_villages (v_t_shelves_rule i1.toNatClampNeg) (f_X0_holds (v_t_shelves_rule i1.toNatClampNeg) s_t_book_heldCount) rfl) hfix xw_377 yv_X0_holds ⟨rfl, rfl⟩ ⟨(Nat.le_of_ble_eq_true rfl), (Nat.le_of_ble_eq_true rfl)⟩ xKk_K (fun U hU hW => xK.warm hW hK) hK.1 hP hD [3] rfl rfl 3 0 rfl rfl rfl rfl hl.1 rfl (Nat.le_of_ble_eq_true rfl) dX6_taken_70 ⟨Nat.zero_le _, Nat.zero_le _⟩) hP hD hS hA [3] rfl rfl (fun H locs hP hD hS hz_26 => ?_)
            refine lv_if_eq (tgt := 108) hx hb dX6_taken_73 (by decide) (fun c_27 => ?_) (fun c_27 => ?_)
            · replace hF := if_t c_27 hF
              refine lv_aload_n hx hb dX6_taken_108 rfl (lv_at hl 2 rfl) ?_
              refine xget (ci := 6) (C := RX6) (T := TX6) (N := 13) hfix xiX6 hK.1 hP 0 rfl rfl 6 (by decide) rfl xw_167 rfl dX6_taken_109 ?_
              refine xget (ci := 3) (C := RX3) (T := TX3) (N := 3) hfix xiX3 hK.1 hP 1 rfl rfl 1 (by decide) rfl xw_124 rfl dX6_taken_112 ?_
              refine lv_iload_n hx hb dX6_taken_115 rfl (lv_at hl 3 rfl) ?_
              obtain ⟨c_28, hF⟩ := gd_e hF
              refine va_iald hx hb hK.1 hP 5 0 rfl rfl c_28 dX6_taken_116 ?_
              refine lv_if_ge (tgt := 123) hx hb dX6_taken_117 (by decide) (fun c_29 => ?_) (fun c_29 => ?_)
              · replace hF := if_t c_29 hF
                refine lv_aload_n hx hb dX6_taken_123 rfl (lv_at hl 2 rfl) ?_
                refine xget (ci := 6) (C := RX6) (T := TX6) (N := 13) hfix xiX6 hK.1 hP 0 rfl rfl 6 (by decide) rfl xw_167 rfl dX6_taken_124 ?_
                refine xget (ci := 3) (C := RX3) (T := TX3) (N := 3) hfix xiX3 hK.1 hP 1 rfl rfl 1 (by decide) rfl xw_124 rfl dX6_taken_127 ?_
                refine lv_iload_n hx hb dX6_taken_130 rfl (lv_at hl 3 rfl) ?_
                obtain ⟨c_30, hF⟩ := gd_e hF
                refine va_iald hx hb hK.1 hP 5 0 rfl rfl c_30 dX6_taken_131 ?_
                refine lv_iload_n hx hb dX6_taken_132 rfl (lv_at hl 4 rfl) ?_
                refine lv_bipush (v := (10 : Int32)) hx hb dX6_taken_133 (by decide) ?_
                refine lv_isub hx hb dX6_taken_135 ?_
                refine lv_icmp_ne (tgt := 151) hx hb dX6_taken_136 (by decide) (fun c_31 => ?_) (fun c_31 => ?_)
                · replace hF := if_f c_31 hF
                  refine lv_bipush (v := (-13 : Int32)) hx hb dX6_taken_151 (by decide) ?_
                  obtain rfl := Option.some.inj hF
                  exact hEnd _ _ _ _ _ dX6_taken_153 hP hS rfl
                · replace hF := if_t c_31 hF
                  refine lv_aload_n hx hb dX6_taken_139 rfl (lv_at hl 2 rfl) ?_
                  refine xget (ci := 6) (C := RX6) (T := TX6) (N := 13) hfix xiX6 hK.1 hP 0 rfl rfl 6 (by decide) rfl xw_167 rfl dX6_taken_140 ?_
                  refine xget (ci := 3) (C := RX3) (T := TX3) (N := 3) hfix xiX3 hK.1 hP 1 rfl rfl 2 (by decide) rfl xw_126 rfl dX6_taken_143 ?_
                  refine lv_iload_n hx hb dX6_taken_146 rfl (lv_at hl 3 rfl) ?_
                  obtain ⟨c_32, hF⟩ := gd_e hF
                  refine va_iald hx hb hK.1 hP 6 0 rfl rfl c_32 dX6_taken_147 ?_
                  refine lv_goto (tgt := 153) hx hb dX6_taken_148 (by decide) ?_
                  obtain rfl := Option.some.inj hF
                  exact hEnd _ _ _ _ _ dX6_taken_153 hP hS rfl
              · replace hF := if_f c_29 hF
                refine lv_bipush (v := (-11 : Int32)) hx hb dX6_taken_120 (by decide) ?_
                obtain rfl := Option.some.inj hF
                exact hEnd _ _ _ _ _ dX6_taken_122 hP hS rfl
            · replace hF := if_f c_27 hF
              refine lv_iload_n hx hb dX6_taken_76 rfl (lv_at hl 5 rfl) ?_
              refine lv_if_eq (tgt := 105) hx hb dX6_taken_77 (by decide) (fun c_33 => ?_) (fun c_33 => ?_)
              · replace hF := if_t c_33 hF
                refine lv_bipush (v := (-13 : Int32)) hx hb dX6_taken_105 (by decide) ?_
                obtain rfl := Option.some.inj hF
                exact hEnd _ _ _ _ _ dX6_taken_107 hP hS rfl
              · replace hF := if_f c_33 hF
                refine lv_aload_n hx hb dX6_taken_80 rfl (lv_at hl 2 rfl) ?_
                refine xget (ci := 6) (C := RX6) (T := TX6) (N := 13) hfix xiX6 hK.1 hP 0 rfl rfl 0 (by decide) rfl xw_161 rfl dX6_taken_81 ?_
                refine xget (ci := 0) (C := RX0) (T := TX0) (N := 5) hfix xiX0 hK.1 hP 3 rfl rfl 2 (by decide) rfl xw_40 rfl dX6_taken_84 ?_
                refine lv_iload hx hb dX6_taken_87 (lv_at hl 0 rfl) ?_
                obtain ⟨c_34, hF⟩ := gd_e hF
                refine va_iald hx hb hK.1 hP 4 0 rfl rfl c_34 dX6_taken_89 ?_
                refine xri0 (xrunS (As := [.int (v_t_book_held (v_t_shelves_rule i1.toNatClampNeg).toNatClampNeg)]) (rest := []) (c_X6_kindOf l D cI cB cJ _ (v_t_book_held (v_t_shelves_rule i1.toNatClampNeg).toNatClampNeg) (f_X6_kindOf (v_t_book_held (v_t_shelves_rule i1.toNatClampNeg).toNatClampNeg)) rfl) hfix xw_385 ys_X6_kindOf ⟨rfl, rfl⟩ ⟨(Nat.le_of_ble_eq_true rfl), (Nat.le_of_ble_eq_true rfl)⟩ xKk_K (fun U hU hW => xK.warm hW hK) hP hD [] rfl rfl rfl hl.1 rfl (Nat.le_of_ble_eq_true rfl) dX6_taken_90 ⟨Nat.zero_le _, Nat.zero_le _⟩) hP hD hS hA [] rfl rfl (fun H locs hP hD hS => ?_)
                refine lv_iload_n hx hb dX6_taken_93 rfl (lv_at hl 4 rfl) ?_
                obtain ⟨r_35, hq_36, hF⟩ := bd1_e hF
                refine xrz0 (xrunS (As := [.int (f_X6_kindOf (v_t_book_held (v_t_shelves_rule i1.toNatClampNeg).toNatClampNeg)), .int i2]) (rest := []) (c_X6_isUnder l D cI cB cJ tO tB adK adV vf hvf _ (f_X6_kindOf (v_t_book_held (v_t_shelves_rule i1.toNatClampNeg).toNatClampNeg)) i2 r_35 hq_36) hfix xw_631 ys_X6_isUnder ⟨rfl, rfl⟩ ⟨(Nat.le_of_ble_eq_true rfl), (Nat.le_of_ble_eq_true rfl)⟩ xKTk (fun U hU hW => xKT.at hK hT hS (va_free hD hS hA [] rfl) U hU hW) hP hD [] rfl rfl rfl hl.1 rfl (Nat.le_of_ble_eq_true rfl) dX6_taken_94 ⟨Nat.zero_le _, Nat.zero_le _⟩) hP hD hS hA [] rfl rfl (fun H locs hP hD hS hz_37 => ?_)
                refine lv_if_eq (tgt := 105) hx hb dX6_taken_97 (by decide) (fun c_38 => ?_) (fun c_38 => ?_)
                · replace hF := if_t c_38 hF
                  refine lv_bipush (v := (-13 : Int32)) hx hb dX6_taken_105 (by decide) ?_
                  obtain rfl := Option.some.inj hF
                  exact hEnd _ _ _ _ _ dX6_taken_107 hP hS rfl
                · replace hF := if_f c_38 hF
                  refine lv_iload hx hb dX6_taken_100 (lv_at hl 0 rfl) ?_
                  refine lv_goto (tgt := 107) hx hb dX6_taken_102 (by decide) ?_
                  obtain rfl := Option.some.inj hF
                  exact hEnd _ _ _ _ _ dX6_taken_107 hP hS rfl
          · replace hF := if_t c_24 hF
            refine lv_iconst (v := (-1 : Int32)) hx hb dX6_taken_51 (by decide) ?_
            obtain rfl := Option.some.inj hF
            exact hEnd _ _ _ _ _ dX6_taken_52 hP hS rfl
    replace hF := hJ
    refine lv_if_ne (tgt := 30) hx hb dX6_taken_23 (by decide) (fun c_39 => ?_) (fun c_39 => ?_)
    · replace hF := if_f c_39 hF
      refine lv_iconst (v := (0 : Int32)) hx hb dX6_taken_30 (by decide) ?_
      subst hF
      exact hN_31_6 x01_0 _ _ _ hP hD hS (lv_sub hl [1, 2, 3, 0] rfl)
    · replace hF := if_t c_39 hF
      refine lv_iconst (v := (1 : Int32)) hx hb dX6_taken_26 (by decide) ?_
      refine lv_goto (tgt := 31) hx hb dX6_taken_27 (by decide) ?_
      subst hF
      exact hN_31_6 x01_1 _ _ _ hP hD hS (lv_sub hl [1, 2, 3, 0] rfl)
  replace hF := hJ
  refine lv_if_ne (tgt := 13) hx hb dX6_taken_6 (by decide) (fun c_40 => ?_) (fun c_40 => ?_)
  · replace hF := if_f c_40 hF
    refine lv_iconst (v := (0 : Int32)) hx hb dX6_taken_13 (by decide) ?_
    subst hF
    exact hN_14_3 x01_0 _ _ _ hP hD hS (lv_sub hl [0, 1, 2] rfl)
  · replace hF := if_t c_40 hF
    refine lv_iconst (v := (1 : Int32)) hx hb dX6_taken_9 (by decide) ?_
    refine lv_goto (tgt := 14) hx hb dX6_taken_10 (by decide) ?_
    subst hF
    exact hN_14_3 x01_1 _ _ _ hP hD hS (lv_sub hl [0, 1, 2] rfl)
