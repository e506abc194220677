/-! the texts' own methods; a copy -/
theorem xa_344 : Cond.methodLink "FairNext$Book" 31 ({ cls := "java/lang/System", name := "arraycopy", desc := "(Ljava/lang/Object;ILjava/lang/Object;II)V" } : MethodName) ∈ xU := xU_t 344 (by decide +kernel) (by decide +kernel)
theorem xa_345 : Cond.static ({ cls := "java/lang/System", name := "arraycopy", desc := "(Ljava/lang/Object;ILjava/lang/Object;II)V" } : MethodName) ∈ xU := xU_t 345 (by decide +kernel) (by decide +kernel)
theorem xa_346 : Cond.native ({ cls := "java/lang/System", name := "arraycopy", desc := "(Ljava/lang/Object;ILjava/lang/Object;II)V" } : MethodName) ∈ xU := xU_t 346 (by decide +kernel) (by decide +kernel)
theorem ys_J3_checkIndex_8e157 : xYS yJ3_checkIndex_8e157 cJ3_checkIndex_8e157 3 (some .int) 3 := ⟨⟨xw_269, xw_11, xw_270⟩, by decide +kernel⟩
theorem ys_J0_checkIndex_df160 : xYS yJ0_checkIndex_df160 cJ0_checkIndex_df160 2 none 2 := ⟨⟨xw_264, xw_9, xw_265⟩, by decide +kernel⟩
theorem ys_J1_charAt_3b067 : xYS yJ1_charAt_3b067 cJ1_charAt_3b067 2 (some .char) 2 := ⟨⟨xw_261, xw_10, xw_262⟩, by decide +kernel⟩
theorem yv_J0_coder_7d493 : xYV yJ0_coder_7d493 "java/lang/String" cJ0_coder_7d493 1 (some .byte) 0 := ⟨⟨xw_247, xw_248, xw_9, xw_249⟩, by decide +kernel⟩
theorem yv_J0_isLatin1_aae02 : xYV yJ0_isLatin1_aae02 "java/lang/String" cJ0_isLatin1_aae02 1 (some .boolean) 0 := ⟨⟨xw_257, xw_258, xw_9, xw_259⟩, by decide +kernel⟩
theorem yv_J0_charAt_5068e : xYV yJ0_charAt_5068e "java/lang/String" cJ0_charAt_5068e 2 (some .char) 1 := ⟨⟨xw_253, xw_254, xw_9, xw_255⟩, by decide +kernel⟩
theorem yv_J0_length_8abf5 : xYV yJ0_length_8abf5 "java/lang/String" cJ0_length_8abf5 1 (some .int) 0 := ⟨⟨xw_243, xw_244, xw_9, xw_245⟩, by decide +kernel⟩
def f_J3_checkIndex_8e157 (i1 : Int32) (i2 : Int32) : Option (Int32) := (if i1 < (0 : Int32) then none else (if i1 < i2 then some (i1) else none))
abbrev rmJ3_checkIndex_8e157 : Room := { frames := 0, cells := 0, slots := 0, locals := 0 }
set_option maxHeartbeats 400000 in
set_option maxRecDepth 100000 in
theorem c_J3_checkIndex_8e157 (l : Launch) (D : va_G) (cI cB cJ : ClassId) (tO tB : Nat) (adK adV : Nat → Nat) (vf : Value) (hvf : vf = .null ∨ ∃ q, vf = .ref q) (sz : Nat) (i1 : Int32) (i2 : Int32) (r : Int32) (hF : f_J3_checkIndex_8e157 i1 i2 = some r) : xMi l yJ3_checkIndex_8e157 (.code yJ3_checkIndex_8e157 cJ3_checkIndex_8e157 3 (some .int) :: xU) rmJ3_checkIndex_8e157 (xKT D cI cB cJ tO tB adK adV vf []) D sz [.int i1, .int i2, vf] [] [] r := by
  rcases hvf with rfl | ⟨vq, rfl⟩
  · refine xMi.mkT (own := "jdk/internal/util/Preconditions") (by decide +kernel) rfl (Nat.le_of_ble_eq_true rfl) ?_
    intro p e s m args below meth c A Q ls H hfix hK hT hP hD hA hS hl hEnd
    obtain ⟨hx, hb, hml, hown, hts⟩ := id hfix
    have hl : lv_has ls 3 [(0, .int i1), (1, .int i2)] := lv_sub hl [0, 1] rfl
    rw [f_J3_checkIndex_8e157] at hF
    refine lv_iload_n hx hb dJ3_checkIndex_8e157_0 rfl (lv_at hl 0 rfl) ?_
    refine lv_if_lt (tgt := 9) hx hb dJ3_checkIndex_8e157_1 (by decide) (fun c_1 => ?_) (fun c_1 => ?_)
    · replace hF := if_t c_1 hF
      exact (no_some hF).elim
    · replace hF := if_f c_1 hF
      refine lv_iload_n hx hb dJ3_checkIndex_8e157_4 rfl (lv_at hl 0 rfl) ?_
      refine lv_iload_n hx hb dJ3_checkIndex_8e157_5 rfl (lv_at hl 1 rfl) ?_
      refine lv_icmp_lt (tgt := 16) hx hb dJ3_checkIndex_8e157_6 (by decide) (fun c_2 => ?_) (fun c_2 => ?_)
      · replace hF := if_t c_2 hF
        refine lv_iload_n hx hb dJ3_checkIndex_8e157_16 rfl (lv_at hl 0 rfl) ?_
        obtain rfl := Option.some.inj hF
        exact hEnd _ _ _ _ _ dJ3_checkIndex_8e157_17 hP hS rfl
      · replace hF := if_f c_2 hF
        exact (no_some hF).elim
  · refine xMi.mkT (own := "jdk/internal/util/Preconditions") (by decide +kernel) rfl (Nat.le_of_ble_eq_true rfl) ?_
    intro p e s m args below meth c A Q ls H hfix hK hT hP hD hA hS hl hEnd
    obtain ⟨hx, hb, hml, hown, hts⟩ := id hfix
    have hl : lv_has ls 3 [(0, .int i1), (1, .int i2)] := lv_sub hl [0, 1] rfl
    rw [f_J3_checkIndex_8e157] at hF
    refine lv_iload_n hx hb dJ3_checkIndex_8e157_0 rfl (lv_at hl 0 rfl) ?_
    refine lv_if_lt (tgt := 9) hx hb dJ3_checkIndex_8e157_1 (by decide) (fun c_1 => ?_) (fun c_1 => ?_)
    · replace hF := if_t c_1 hF
      exact (no_some hF).elim
    · replace hF := if_f c_1 hF
      refine lv_iload_n hx hb dJ3_checkIndex_8e157_4 rfl (lv_at hl 0 rfl) ?_
      refine lv_iload_n hx hb dJ3_checkIndex_8e157_5 rfl (lv_at hl 1 rfl) ?_
      refine lv_icmp_lt (tgt := 16) hx hb dJ3_checkIndex_8e157_6 (by decide) (fun c_2 => ?_) (fun c_2 => ?_)
      · replace hF := if_t c_2 hF
        refine lv_iload_n hx hb dJ3_checkIndex_8e157_16 rfl (lv_at hl 0 rfl) ?_
        obtain rfl := Option.some.inj hF
        exact hEnd _ _ _ _ _ dJ3_checkIndex_8e157_17 hP hS rfl
      · replace hF := if_f c_2 hF
        exact (no_some hF).elim
def f_J0_checkIndex_df160 (i1 : Int32) (i2 : Int32) : Option (Unit) := bd1 (f_J3_checkIndex_8e157 i1 i2) (fun (r_1 : Int32) => some (()))
abbrev rmJ0_checkIndex_df160 : Room := { frames := 1, cells := 0, slots := 0, locals := 22 }
set_option maxHeartbeats 400000 in
set_option maxRecDepth 100000 in
theorem c_J0_checkIndex_df160 (l : Launch) (D : va_G) (cI cB cJ : ClassId) (tO tB : Nat) (adK adV : Nat → Nat) (vf : Value) (hvf : vf = .null ∨ ∃ q, vf = .ref q) (sz : Nat) (i1 : Int32) (i2 : Int32) (hF : f_J0_checkIndex_df160 i1 i2 = some ()) : xMv l yJ0_checkIndex_df160 (.code yJ0_checkIndex_df160 cJ0_checkIndex_df160 2 none :: xU) rmJ0_checkIndex_df160 (xKT D cI cB cJ tO tB adK adV vf []) D sz [.int i1, .int i2] [] [] := by
  refine xMv.mkT (own := "java/lang/String") (by decide +kernel) rfl (Nat.le_of_ble_eq_true rfl) ?_
  intro p e s m args below meth c A Q ls H hfix hK hT hP hD hA hS hl hEnd
  obtain ⟨hx, hb, hml, hown, hts⟩ := id hfix
  have hl : lv_has ls 2 [(0, .int i1), (1, .int i2)] := hl
  rw [f_J0_checkIndex_df160] at hF
  refine lv_iload_n hx hb dJ0_checkIndex_df160_0 rfl (lv_at hl 0 rfl) ?_
  refine lv_iload_n hx hb dJ0_checkIndex_df160_1 rfl (lv_at hl 1 rfl) ?_
  refine va_gets (v := vf) hx hb hT.2.2.2.2.2.2.1 hS hown (hts _ (List.mem_cons_of_mem _ xw_266)) (fun _ h9 => h9) dJ0_checkIndex_df160_2 ?_
  obtain ⟨r_1, hq_2, hF⟩ := bd1_e hF
  refine xri0 (xrunS (As := [.int i1, .int i2, vf]) (rest := []) (c_J3_checkIndex_8e157 l D cI cB cJ tO tB adK adV vf hvf _ i1 i2 r_1 hq_2) hfix xw_268 ys_J3_checkIndex_8e157 ⟨rfl, rfl⟩ ⟨(Nat.le_of_ble_eq_true rfl), (Nat.le_of_ble_eq_true rfl)⟩ xKTk (fun U hU hW => xKT.at hK hT hS (va_free hD hS hA [] rfl) U hU hW) hP hD [] rfl rfl rfl hl.1 rfl (Nat.le_of_ble_eq_true rfl) dJ0_checkIndex_df160_5 ⟨Nat.zero_le _, Nat.zero_le _⟩) hP hD hS hA [] rfl rfl (fun H locs hP hD hS => ?_)
  refine lv_pop hx hb dJ0_checkIndex_df160_8 rfl ?_
  exact hEnd _ _ _ _ dJ0_checkIndex_df160_9 hP hS
def f_J1_charAt_3b067 (si : Nat) (i2 : Int32) : Option (Int32) := bd1 (f_J0_checkIndex_df160 i2 (Int32.ofNat (lenS.getD si 0))) (fun (_ : Unit) => gd i2 (lenS.getD si 0) (some ((((((bytS.getD si []).getD i2.toNatClampNeg 0) &&& (255 : Int32)).toUInt32 % 65536).toInt32))))
abbrev rmJ1_charAt_3b067 : Room := { frames := 2, cells := 0, slots := 0, locals := 43 }
set_option maxHeartbeats 400000 in
set_option maxRecDepth 100000 in
theorem c_J1_charAt_3b067 (l : Launch) (D : va_G) (cI cB cJ : ClassId) (tO tB : Nat) (adK adV : Nat → Nat) (vf : Value) (hvf : vf = .null ∨ ∃ q, vf = .ref q) (si : Nat) (hsi : si < 11) (sz : Nat) (i2 : Int32) (r : Int32) (hF : f_J1_charAt_3b067 si i2 = some r) : xMn .char l yJ1_charAt_3b067 (.code yJ1_charAt_3b067 cJ1_charAt_3b067 2 (some .char) :: xU) rmJ1_charAt_3b067 (xKT D cI cB cJ tO tB adK adV vf []) D sz [.ref (adV si), .int i2] [] [] r := by
  refine xMn.mkT (own := "java/lang/StringLatin1") (by decide +kernel) rfl (Nat.le_of_ble_eq_true rfl) ?_
  intro p e s m args below meth c A Q ls H hfix hK hT hP hD hA hS hl hEnd
  obtain ⟨hx, hb, hml, hown, hts⟩ := id hfix
  have hl : lv_has ls 2 [(0, .ref (adV si)), (1, .int i2)] := hl
  rw [f_J1_charAt_3b067] at hF
  refine lv_iload_n hx hb dJ1_charAt_3b067_0 rfl (lv_at hl 1 rfl) ?_
  refine lv_aload_n hx hb dJ1_charAt_3b067_1 rfl (lv_at hl 0 rfl) ?_
  refine va_tlen (v := (Int32.ofNat (lenS.getD si 0))) hx hb (hT.tb hsi) hS rfl dJ1_charAt_3b067_2 ?_
  obtain ⟨_, hq_1, hF⟩ := bd1_e hF
  refine xrv0 (xrunS (As := [.int i2, .int (Int32.ofNat (lenS.getD si 0))]) (rest := []) (c_J0_checkIndex_df160 l D cI cB cJ tO tB adK adV vf hvf _ i2 (Int32.ofNat (lenS.getD si 0)) hq_1) hfix xw_263 ys_J0_checkIndex_df160 ⟨rfl, rfl⟩ ⟨(Nat.le_of_ble_eq_true rfl), (Nat.le_of_ble_eq_true rfl)⟩ xKTk (fun U hU hW => xKT.at hK hT hS (va_free hD hS hA [] rfl) U hU hW) hP hD [] rfl rfl rfl hl.1 rfl (Nat.le_of_ble_eq_true rfl) dJ1_charAt_3b067_3 ⟨Nat.zero_le _, Nat.zero_le _⟩) hP hD hS hA [] rfl rfl (fun H locs hP hD hS => ?_)
  refine lv_aload_n hx hb dJ1_charAt_3b067_6 rfl (lv_at hl 0 rfl) ?_
  refine lv_iload_n hx hb dJ1_charAt_3b067_7 rfl (lv_at hl 1 rfl) ?_
  obtain ⟨c_2, hF⟩ := gd_e hF
  refine va_tb hx hb (hT.tb hsi) hS c_2 (v := .int ((bytS.getD si []).getD i2.toNatClampNeg 0)) rfl dJ1_charAt_3b067_8 ?_
  refine lv_sipush (v := (255 : Int32)) hx hb dJ1_charAt_3b067_9 (by decide) ?_
  refine lv_iand hx hb dJ1_charAt_3b067_12 ?_
  refine lv_i2c (v := (((((bytS.getD si []).getD i2.toNatClampNeg 0) &&& (255 : Int32)).toUInt32 % 65536).toInt32)) hx hb dJ1_charAt_3b067_13 rfl ?_
  obtain rfl := Option.some.inj hF
  exact hEnd _ _ _ _ _ dJ1_charAt_3b067_14 hP hS (pk_nc _) rfl
def f_J0_coder_7d493 (si : Nat) : Int32 := ((0 : Int32))
abbrev rmJ0_coder_7d493 : Room := { frames := 0, cells := 0, slots := 0, locals := 0 }
set_option maxHeartbeats 400000 in
set_option maxRecDepth 100000 in
theorem c_J0_coder_7d493 (l : Launch) (D : va_G) (cI cB cJ : ClassId) (tO tB : Nat) (adK adV : Nat → Nat) (vf : Value) (hvf : vf = .null ∨ ∃ q, vf = .ref q) (si : Nat) (hsi : si < 11) (sz : Nat) (r : Int32) (hF : f_J0_coder_7d493 si = r) : xMn .byte l yJ0_coder_7d493 (.code yJ0_coder_7d493 cJ0_coder_7d493 1 (some .byte) :: xU) rmJ0_coder_7d493 (xKT D cI cB cJ tO tB adK adV vf []) D sz [.ref (adK si)] [] [] r := by
  refine xMn.mkT (own := "java/lang/String") (by decide +kernel) rfl (Nat.le_of_ble_eq_true rfl) ?_
  intro p e s m args below meth c A Q ls H hfix hK hT hP hD hA hS hl hEnd
  obtain ⟨hx, hb, hml, hown, hts⟩ := id hfix
  have hl : lv_has ls 1 [(0, .ref (adK si))] := hl
  rw [f_J0_coder_7d493] at hF
  refine va_gets (v := .int (1 : Int32)) hx hb hT.2.2.2.2.2.1 hS hown (hts _ (List.mem_cons_of_mem _ xw_250)) (fun _ h9 => h9) dJ0_coder_7d493_0 ?_
  refine lv_if_eq (tgt := 13) hx hb dJ0_coder_7d493_3 (by decide) (fun c_1 => absurd c_1 (by decide)) (fun c_1 => ?_)
  refine lv_aload_n hx hb dJ0_coder_7d493_6 rfl (lv_at hl 0 rfl) ?_
  refine vk_getf hx hb (hT.2.2.2.2.1.1 si hsi).2.1 hS hown (hts _ (List.mem_cons_of_mem _ xw_1208)) (fun _ h9 => h9) dJ0_coder_7d493_7 ?_
  refine lv_goto (tgt := 14) hx hb dJ0_coder_7d493_10 (by decide) ?_
  subst hF
  exact hEnd _ _ _ _ _ dJ0_coder_7d493_14 hP hS rfl rfl
def f_J0_isLatin1_aae02 (si : Nat) : Int32 := ((1 : Int32))
abbrev rmJ0_isLatin1_aae02 : Room := { frames := 0, cells := 0, slots := 0, locals := 0 }
set_option maxHeartbeats 400000 in
set_option maxRecDepth 100000 in
theorem c_J0_isLatin1_aae02 (l : Launch) (D : va_G) (cI cB cJ : ClassId) (tO tB : Nat) (adK adV : Nat → Nat) (vf : Value) (hvf : vf = .null ∨ ∃ q, vf = .ref q) (si : Nat) (hsi : si < 11) (sz : Nat) (r : Int32) (hF : f_J0_isLatin1_aae02 si = r) : xMz l yJ0_isLatin1_aae02 (.code yJ0_isLatin1_aae02 cJ0_isLatin1_aae02 1 (some .boolean) :: xU) rmJ0_isLatin1_aae02 (xKT D cI cB cJ tO tB adK adV vf []) D sz [.ref (adK si)] [] [] r := by
  refine xMz.mkT (own := "java/lang/String") (by decide +kernel) rfl (Nat.le_of_ble_eq_true rfl) ?_
  intro p e s m args below meth c A Q ls H hfix hK hT hP hD hA hS hl hEnd
  obtain ⟨hx, hb, hml, hown, hts⟩ := id hfix
  have hl : lv_has ls 1 [(0, .ref (adK si))] := hl
  rw [f_J0_isLatin1_aae02] at hF
  refine va_gets (v := .int (1 : Int32)) hx hb hT.2.2.2.2.2.1 hS hown (hts _ (List.mem_cons_of_mem _ xw_250)) (fun _ h9 => h9) dJ0_isLatin1_aae02_0 ?_
  refine lv_if_eq (tgt := 17) hx hb dJ0_isLatin1_aae02_3 (by decide) (fun c_1 => absurd c_1 (by decide)) (fun c_1 => ?_)
  refine lv_aload_n hx hb dJ0_isLatin1_aae02_6 rfl (lv_at hl 0 rfl) ?_
  refine vk_getf hx hb (hT.2.2.2.2.1.1 si hsi).2.1 hS hown (hts _ (List.mem_cons_of_mem _ xw_1208)) (fun _ h9 => h9) dJ0_isLatin1_aae02_7 ?_
  refine lv_if_ne (tgt := 17) hx hb dJ0_isLatin1_aae02_10 (by decide) (fun c_2 => absurd c_2 (by decide)) (fun c_2 => ?_)
  refine lv_iconst (v := (1 : Int32)) hx hb dJ0_isLatin1_aae02_13 (by decide) ?_
  refine lv_goto (tgt := 18) hx hb dJ0_isLatin1_aae02_14 (by decide) ?_
  subst hF
  exact hEnd _ _ _ _ _ dJ0_isLatin1_aae02_18 hP hS x01_1 rfl
def f_J0_charAt_5068e (si : Nat) (i1 : Int32) : Option (Int32) := (if (f_J0_isLatin1_aae02 si) = (0 : Int32) then none else bd1 (f_J1_charAt_3b067 si i1) (fun (r_3 : Int32) => some (r_3)))
abbrev rmJ0_charAt_5068e : Room := { frames := 3, cells := 0, slots := 0, locals := 64 }
set_option maxHeartbeats 400000 in
set_option maxRecDepth 100000 in
theorem c_J0_charAt_5068e (l : Launch) (D : va_G) (cI cB cJ : ClassId) (tO tB : Nat) (adK adV : Nat → Nat) (vf : Value) (hvf : vf = .null ∨ ∃ q, vf = .ref q) (si : Nat) (hsi : si < 11) (sz : Nat) (i1 : Int32) (r : Int32) (hF : f_J0_charAt_5068e si i1 = some r) : xMn .char l yJ0_charAt_5068e (.code yJ0_charAt_5068e cJ0_charAt_5068e 2 (some .char) :: xU) rmJ0_charAt_5068e (xKT D cI cB cJ tO tB adK adV vf []) D sz [.ref (adK si), .int i1] [] [] r := by
  refine xMn.mkT (own := "java/lang/String") (by decide +kernel) rfl (Nat.le_of_ble_eq_true rfl) ?_
  intro p e s m args below meth c A Q ls H hfix hK hT hP hD hA hS hl hEnd
  obtain ⟨hx, hb, hml, hown, hts⟩ := id hfix
  have hl : lv_has ls 2 [(0, .ref (adK si)), (1, .int i1)] := hl
  rw [f_J0_charAt_5068e] at hF
  refine lv_aload_n hx hb dJ0_charAt_5068e_0 rfl (lv_at hl 0 rfl) ?_
  refine xrz0 (xrunVr (As := []) (rest := []) (c_J0_isLatin1_aae02 l D cI cB cJ tO tB adK adV vf hvf si hsi _ (f_J0_isLatin1_aae02 si) rfl) hfix xw_256 yv_J0_isLatin1_aae02 ⟨rfl, rfl⟩ ⟨(Nat.le_of_ble_eq_true rfl), (Nat.le_of_ble_eq_true rfl)⟩ xKTk (fun U hU hW => xKT.at hK hT hS (va_free hD hS hA [] rfl) U hU hW) (vk_recv hT.2.2.2.2.1 hsi hS) hP hD [] rfl rfl rfl hl.1 rfl (Nat.le_of_ble_eq_true rfl) dJ0_charAt_5068e_1 ⟨Nat.zero_le _, Nat.zero_le _⟩) hP hD hS hA [] rfl rfl (fun H locs hP hD hS hz_1 => ?_)
  refine lv_if_eq (tgt := 16) hx hb dJ0_charAt_5068e_4 (by decide) (fun c_2 => ?_) (fun c_2 => ?_)
  · replace hF := if_t c_2 hF
    exact (no_some hF).elim
  · replace hF := if_f c_2 hF
    refine lv_aload_n hx hb dJ0_charAt_5068e_7 rfl (lv_at hl 0 rfl) ?_
    refine vk_getf hx hb (hT.2.2.2.2.1.1 si hsi).2.2.1 hS hown (hts _ (List.mem_cons_of_mem _ xw_1207)) (fun _ h9 => h9) dJ0_charAt_5068e_8 ?_
    refine lv_iload_n hx hb dJ0_charAt_5068e_11 rfl (lv_at hl 1 rfl) ?_
    obtain ⟨r_3, hq_4, hF⟩ := bd1_e hF
    refine xrn0 (xrunS (As := [.ref (adV si), .int i1]) (rest := []) (c_J1_charAt_3b067 l D cI cB cJ tO tB adK adV vf hvf si hsi _ i1 r_3 hq_4) hfix xw_260 ys_J1_charAt_3b067 ⟨rfl, rfl⟩ ⟨(Nat.le_of_ble_eq_true rfl), (Nat.le_of_ble_eq_true rfl)⟩ xKTk (fun U hU hW => xKT.at hK hT hS (va_free hD hS hA [] rfl) U hU hW) hP hD [] rfl rfl rfl hl.1 rfl (Nat.le_of_ble_eq_true rfl) dJ0_charAt_5068e_12 ⟨Nat.zero_le _, Nat.zero_le _⟩) hP hD hS hA [] rfl rfl (fun H locs hP hD hS hz_5 => ?_)
    obtain rfl := Option.some.inj hF
    exact hEnd _ _ _ _ _ dJ0_charAt_5068e_15 hP hS hz_5 rfl
def f_J0_length_8abf5 (si : Nat) : Int32 := (((Int32.ofNat (lenS.getD si 0)) >>> ((f_J0_coder_7d493 si) &&& 31)))
abbrev rmJ0_length_8abf5 : Room := { frames := 1, cells := 0, slots := 0, locals := 20 }
set_option maxHeartbeats 400000 in
set_option maxRecDepth 100000 in
theorem c_J0_length_8abf5 (l : Launch) (D : va_G) (cI cB cJ : ClassId) (tO tB : Nat) (adK adV : Nat → Nat) (vf : Value) (hvf : vf = .null ∨ ∃ q, vf = .ref q) (si : Nat) (hsi : si < 11) (sz : Nat) (r : Int32) (hF : f_J0_length_8abf5 si = r) : xMi l yJ0_length_8abf5 (.code yJ0_length_8abf5 cJ0_length_8abf5 1 (some .int) :: xU) rmJ0_length_8abf5 (xKT D cI cB cJ tO tB adK adV vf []) D sz [.ref (adK si)] [] [] r := by
  refine xMi.mkT (own := "java/lang/String") (by decide +kernel) rfl (Nat.le_of_ble_eq_true rfl) ?_
  intro p e s m args below meth c A Q ls H hfix hK hT hP hD hA hS hl hEnd
  obtain ⟨hx, hb, hml, hown, hts⟩ := id hfix
  have hl : lv_has ls 1 [(0, .ref (adK si))] := hl
  rw [f_J0_length_8abf5] at hF
  refine lv_aload_n hx hb dJ0_length_8abf5_0 rfl (lv_at hl 0 rfl) ?_
  refine vk_getf hx hb (hT.2.2.2.2.1.1 si hsi).2.2.1 hS hown (hts _ (List.mem_cons_of_mem _ xw_1207)) (fun _ h9 => h9) dJ0_length_8abf5_1 ?_
  refine va_tlen (v := (Int32.ofNat (lenS.getD si 0))) hx hb (hT.tb hsi) hS rfl dJ0_length_8abf5_4 ?_
  refine lv_aload_n hx hb dJ0_length_8abf5_5 rfl (lv_at hl 0 rfl) ?_
  refine xrn0 (xrunVr (As := []) (rest := [.int (Int32.ofNat (lenS.getD si 0))]) (c_J0_coder_7d493 l D cI cB cJ tO tB adK adV vf hvf si hsi _ (f_J0_coder_7d493 si) rfl) hfix xw_246 yv_J0_coder_7d493 ⟨rfl, rfl⟩ ⟨(Nat.le_of_ble_eq_true rfl), (Nat.le_of_ble_eq_true rfl)⟩ xKTk (fun U hU hW => xKT.at hK hT hS (va_free hD hS hA [] rfl) U hU hW) (vk_recv hT.2.2.2.2.1 hsi hS) hP hD [] rfl rfl rfl hl.1 rfl (Nat.le_of_ble_eq_true rfl) dJ0_length_8abf5_6 ⟨Nat.zero_le _, Nat.zero_le _⟩) hP hD hS hA [] rfl rfl (fun H locs hP hD hS hz_1 => ?_)
  refine lv_ishr hx hb dJ0_length_8abf5_9 ?_
  subst hF
  exact hEnd _ _ _ _ _ dJ0_length_8abf5_10 hP hS rfl
