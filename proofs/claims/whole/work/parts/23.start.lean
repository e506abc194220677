/-! ===== from the entry to the loop ===== -/
def f_law (L : Nat) (xs : Nat → Int32) : Option Int32 := bd12 (f_X6_init) (fun (o_2 : Int32) (o_3 : Int32) (o_4 : (Nat → Int32)) (o_5 : (Nat → Int32)) (o_6 : Int32) (o_7 : Int32) (o_8 : (Nat → Int32)) (o_9 : (Nat → Int32)) (o_10 : Int32) (o_11 : Int32) (o_12 : (Nat → Int32)) (o_13 : (Nat → Int32)) => bd1 (f_X7_init) (fun (o_17 : (Nat → Int32)) => f_law_L L xs 1000 (0 : Int32) (0 : Int32) (1 : Int32) (1 : Int32) o_2 o_3 o_4 o_5 (fun _ => 0) o_6 o_7 o_8 o_9 (fun _ => 0) o_10 o_11 o_12 o_13 (fun _ => 0) (0 : Int32) (0 : Int32) (-1 : Int32) (fun _ => 0) (0 : Int32) (fun _ => 0) (upd (upd (upd (upd (fun _ => 0) (0 : Int32).toNatClampNeg (-1 : Int32)) (1 : Int32).toNatClampNeg (-1 : Int32)) (2 : Int32).toNatClampNeg (-1 : Int32)) (3 : Int32).toNatClampNeg (-1 : Int32)) (fun _ => 0) (fun _ => 0) (upd (upd (upd (upd (fun _ => 0) (0 : Int32).toNatClampNeg (-1 : Int32)) (1 : Int32).toNatClampNeg (-1 : Int32)) (2 : Int32).toNatClampNeg (-1 : Int32)) (3 : Int32).toNatClampNeg (-1 : Int32)) (upd (upd (upd (upd (fun _ => 0) (0 : Int32).toNatClampNeg (-1 : Int32)) (1 : Int32).toNatClampNeg (-1 : Int32)) (2 : Int32).toNatClampNeg (-1 : Int32)) (3 : Int32).toNatClampNeg (-1 : Int32)) (fun _ => 0) (0 : Int32) (0 : Int32) (0 : Int32) (0 : Int32) (0 : Int32) (fun _ => 0) (fun _ => 0) (fun _ => 0) (10 : Int32) (0 : Int32) (1 : Int32) (0 : Int32) (0 : Int32) (0 : Int32) (0 : Int32) (0 : Int64) (0 : Int32) (0 : Int32) (0 : Int32) (0 : Int32) (0 : Int32) (0 : Int32) (0 : Int32) (0 : Int32) (0 : Int32) (0 : Int32) (0 : Int32) (0 : Int32) (0 : Int32) o_17 (fun _ => 0) (fun _ => 0) (fun _ => 0) (fun _ => 0) (fun _ => 0) (fun _ => 0) (fun _ => 0) (fun _ => 0) (fun _ => 0) (fun _ => 0) (fun _ => 0) (upd (upd (upd (upd (fun _ => 0) (0 : Int32).toNatClampNeg (-1 : Int32)) (1 : Int32).toNatClampNeg (-1 : Int32)) (2 : Int32).toNatClampNeg (-1 : Int32)) (3 : Int32).toNatClampNeg (-1 : Int32)) (fun _ => 0) (fun _ => 0) (upd (upd (upd (upd (fun _ => 0) (0 : Int32).toNatClampNeg (-1 : Int32)) (1 : Int32).toNatClampNeg (-1 : Int32)) (2 : Int32).toNatClampNeg (-1 : Int32)) (3 : Int32).toNatClampNeg (-1 : Int32)) (fun _ => 0) (fun _ => 0) (fun _ => 0) (fun _ => 0) (fun _ => 0)))
theorem law_K {p : Program} {s : State} {m : MethodId} {meth : Method} {c : Code} {b L : Nat} {xs : Nat → Int32} (C0 : lw_At p s m meth c b L xs) : ∃ (D : va_G) (cI cB cJ : ClassId), xK D cI cB cJ s := by
  obtain ⟨hx, hb, hr, hml, hown, hts0, hX, hbl, hlocks, hgv⟩ := C0
  obtain ⟨c0, iS0, hKn0⟩ := u_known (C := RX0) (T := TX0) (N := 5) (n := 5) hts0 (fun w h => xU_l w (xiX0 w h)) (hts0 _ (xU_l _ xw_24))
  obtain ⟨c1, iS1, hKn1⟩ := u_known (C := RX1) (T := TX1) (N := 2) (n := 2) hts0 (fun w h => xU_l w (xiX1 w h)) (hts0 _ (xU_l _ xw_81))
  obtain ⟨c2, iS2, hKn2⟩ := u_known (C := RX2) (T := TX2) (N := 3) (n := 3) hts0 (fun w h => xU_l w (xiX2 w h)) (hts0 _ (xU_l _ xw_96))
  obtain ⟨c3, iS3, hKn3⟩ := u_known (C := RX3) (T := TX3) (N := 3) (n := 3) hts0 (fun w h => xU_l w (xiX3 w h)) (hts0 _ (xU_l _ xw_116))
  obtain ⟨c4, iS4, hKn4⟩ := u_known (C := RX4) (T := TX4) (N := 4) (n := 4) hts0 (fun w h => xU_l w (xiX4 w h)) (hts0 _ (xU_l _ xw_60))
  obtain ⟨c5, iS5, hKn5⟩ := u_known (C := RX5) (T := TX5) (N := 6) (n := 6) hts0 (fun w h => xU_l w (xiX5 w h)) (hts0 _ (xU_l _ xw_135))
  obtain ⟨c6, iS6, hKn6⟩ := u_known (C := RX6) (T := TX6) (N := 13) (n := 13) hts0 (fun w h => xU_l w (xiX6 w h)) (hts0 _ (xU_l _ xw_16))
  obtain ⟨c7, iS7, hKn7⟩ := u_known (C := RX7) (T := TX7) (N := 42) (n := 42) hts0 (fun w h => xU_l w (xiX7 w h)) (hts0 _ (xU_l _ xw_683))
  obtain ⟨cI, kI, pI, fI, gI, eI⟩ := Cond.arrayClass_spec (hts0 _ (xU_l _ xw_58))
  obtain ⟨cB, kB, pB, fB, gB, eB⟩ := Cond.arrayClass_spec (hts0 _ (xU_l _ xw_79))
  obtain ⟨cJ, kJ, pJ, fJ, gJ, eJ⟩ := Cond.arrayClass_spec (hts0 _ (xU_l _ xw_114))
  refine ⟨(fun k => match k with | 0 => c0 | 1 => c1 | 2 => c2 | 3 => c3 | 4 => c4 | 5 => c5 | 6 => c6 | _ => c7, fun k => match k with | 0 => iS0 | 1 => iS1 | 2 => iS2 | 3 => iS3 | 4 => iS4 | 5 => iS5 | 6 => iS6 | _ => iS7), cI, cB, cJ, ⟨fun k q hq => ?_, fun k q hq => ?_⟩, fun w hw => ?_⟩
  · match k, hq with
    | 0, hq => cases hq; exact hKn0
    | 1, hq => cases hq; exact hKn1
    | 2, hq => cases hq; exact hKn2
    | 3, hq => cases hq; exact hKn3
    | 4, hq => cases hq; exact hKn4
    | 5, hq => cases hq; exact hKn5
    | 6, hq => cases hq; exact hKn6
    | 7, hq => cases hq; exact hKn7
    | k + 8, hq => simp [vwCl] at hq
  · match k, hq with
    | 0, hq => cases hq; exact ⟨fun n z => ⟨fun k h => (by cases h), kI, gI, pI, eI⟩, fI⟩
    | 1, hq => cases hq; exact ⟨fun n z => ⟨fun k h => (by cases h), kB, gB, pB, eB⟩, fB⟩
    | 2, hq => cases hq; exact ⟨fun n z => ⟨fun k h => (by cases h), kJ, gJ, pJ, eJ⟩, fJ⟩
    | k + 3, hq => simp at hq
  · simp only [xnest, List.mem_cons, List.not_mem_nil, or_false] at hw
    rcases hw with rfl | rfl | rfl | rfl | rfl | rfl | rfl | rfl | rfl
    · exact va_Nw.of rfl (hts0 _ (List.mem_append_right _ (List.mem_of_getElem? (i := 315) (by decide +kernel))))
    · exact va_Nw.of rfl (hts0 _ (List.mem_append_right _ (List.mem_of_getElem? (i := 316) (by decide +kernel))))
    · exact va_Nw.of rfl (hts0 _ (List.mem_append_right _ (List.mem_of_getElem? (i := 408) (by decide +kernel))))
    · exact va_Nw.of rfl (hts0 _ (List.mem_append_right _ (List.mem_of_getElem? (i := 409) (by decide +kernel))))
    · exact va_Nw.of rfl (hts0 _ (List.mem_append_right _ (List.mem_of_getElem? (i := 410) (by decide +kernel))))
    · exact va_Nw.of rfl (hts0 _ (List.mem_append_right _ (List.mem_of_getElem? (i := 413) (by decide +kernel))))
    · exact va_Nw.of rfl (hts0 _ (List.mem_append_right _ (List.mem_of_getElem? (i := 414) (by decide +kernel))))
    · exact va_Nw.of rfl (hts0 _ (List.mem_append_right _ (List.mem_of_getElem? (i := 496) (by decide +kernel))))
    · exact va_Nw.of rfl (hts0 _ (List.mem_append_right _ (List.mem_of_getElem? (i := 652) (by decide +kernel))))
set_option maxRecDepth 100000 in
theorem law_T {p : Program} {s : State} {m : MethodId} {meth : Method} {c : Code} {b L : Nat} {xs : Nat → Int32} (C0 : lw_At p s m meth c b L xs) : ∃ (tO tB : Nat) (adK adV : Nat → Nat) (vf : Value), (vf = .null ∨ ∃ q, vf = .ref q) ∧ xT tO tB adK adV vf (fun q : Nat => s.heap.size ≤ q) s := by
  obtain ⟨hx, hb, hr, hml, hown, hts0, hX, hbl, hlocks, hgv⟩ := C0
  have hs := flat_of_before _ hgv
  have hA : ∀ a : Nat, a < s.heap.size → ¬ (fun q : Nat => s.heap.size ≤ q) a := fun a h => Nat.not_le.mpr h
  obtain ⟨tOVER, eOVER, TOVER⟩ := va_Tof (tm := .static "FairNext" "OVER" "[I") (ty := .int) (N := 6) (f := fun j => .int (tabO j)) (A := fun q : Nat => s.heap.size ≤ q) (by decide) (hs _ (by decide +kernel)) (va_eqt (z := 6) (hs _ (by decide +kernel))) (fun j hj => by
    rcases (show j = 0 ∨ j = 1 ∨ j = 2 ∨ j = 3 ∨ j = 4 ∨ j = 5 by omega) with rfl | rfl | rfl | rfl | rfl | rfl
    · exact va_eqt (t := .elem (.static "FairNext" "OVER" "[I") (.int 0)) (z := -1) (hs _ (by decide +kernel))
    · exact va_eqt (t := .elem (.static "FairNext" "OVER" "[I") (.int 1)) (z := 0) (hs _ (by decide +kernel))
    · exact va_eqt (t := .elem (.static "FairNext" "OVER" "[I") (.int 2)) (z := 1) (hs _ (by decide +kernel))
    · exact va_eqt (t := .elem (.static "FairNext" "OVER" "[I") (.int 3)) (z := 0) (hs _ (by decide +kernel))
    · exact va_eqt (t := .elem (.static "FairNext" "OVER" "[I") (.int 4)) (z := 1) (hs _ (by decide +kernel))
    · exact va_eqt (t := .elem (.static "FairNext" "OVER" "[I") (.int 5)) (z := 2) (hs _ (by decide +kernel))) hA
  obtain ⟨tBODY, eBODY, TBODY⟩ := va_Tof (tm := .static "FairNext" "BODY" "[I") (ty := .int) (N := 24) (f := fun j => .int (tabB j)) (A := fun q : Nat => s.heap.size ≤ q) (by decide) (hs _ (by decide +kernel)) (va_eqt (z := 24) (hs _ (by decide +kernel))) (fun j hj => by
    rcases (show j = 0 ∨ j = 1 ∨ j = 2 ∨ j = 3 ∨ j = 4 ∨ j = 5 ∨ j = 6 ∨ j = 7 ∨ j = 8 ∨ j = 9 ∨ j = 10 ∨ j = 11 ∨ j = 12 ∨ j = 13 ∨ j = 14 ∨ j = 15 ∨ j = 16 ∨ j = 17 ∨ j = 18 ∨ j = 19 ∨ j = 20 ∨ j = 21 ∨ j = 22 ∨ j = 23 by omega) with rfl | rfl | rfl | rfl | rfl | rfl | rfl | rfl | rfl | rfl | rfl | rfl | rfl | rfl | rfl | rfl | rfl | rfl | rfl | rfl | rfl | rfl | rfl | rfl
    · exact va_eqt (t := .elem (.static "FairNext" "BODY" "[I") (.int 0)) (z := 10) (hs _ (by decide +kernel))
    · exact va_eqt (t := .elem (.static "FairNext" "BODY" "[I") (.int 1)) (z := 11) (hs _ (by decide +kernel))
    · exact va_eqt (t := .elem (.static "FairNext" "BODY" "[I") (.int 2)) (z := 12) (hs _ (by decide +kernel))
    · exact va_eqt (t := .elem (.static "FairNext" "BODY" "[I") (.int 3)) (z := 13) (hs _ (by decide +kernel))
    · exact va_eqt (t := .elem (.static "FairNext" "BODY" "[I") (.int 4)) (z := 10) (hs _ (by decide +kernel))
    · exact va_eqt (t := .elem (.static "FairNext" "BODY" "[I") (.int 5)) (z := 20) (hs _ (by decide +kernel))
    · exact va_eqt (t := .elem (.static "FairNext" "BODY" "[I") (.int 6)) (z := 12) (hs _ (by decide +kernel))
    · exact va_eqt (t := .elem (.static "FairNext" "BODY" "[I") (.int 7)) (z := 13) (hs _ (by decide +kernel))
    · exact va_eqt (t := .elem (.static "FairNext" "BODY" "[I") (.int 8)) (z := 40) (hs _ (by decide +kernel))
    · exact va_eqt (t := .elem (.static "FairNext" "BODY" "[I") (.int 9)) (z := 41) (hs _ (by decide +kernel))
    · exact va_eqt (t := .elem (.static "FairNext" "BODY" "[I") (.int 10)) (z := 12) (hs _ (by decide +kernel))
    · exact va_eqt (t := .elem (.static "FairNext" "BODY" "[I") (.int 11)) (z := 13) (hs _ (by decide +kernel))
    · exact va_eqt (t := .elem (.static "FairNext" "BODY" "[I") (.int 12)) (z := 30) (hs _ (by decide +kernel))
    · exact va_eqt (t := .elem (.static "FairNext" "BODY" "[I") (.int 13)) (z := 11) (hs _ (by decide +kernel))
    · exact va_eqt (t := .elem (.static "FairNext" "BODY" "[I") (.int 14)) (z := 12) (hs _ (by decide +kernel))
    · exact va_eqt (t := .elem (.static "FairNext" "BODY" "[I") (.int 15)) (z := 31) (hs _ (by decide +kernel))
    · exact va_eqt (t := .elem (.static "FairNext" "BODY" "[I") (.int 16)) (z := 51) (hs _ (by decide +kernel))
    · exact va_eqt (t := .elem (.static "FairNext" "BODY" "[I") (.int 17)) (z := 20) (hs _ (by decide +kernel))
    · exact va_eqt (t := .elem (.static "FairNext" "BODY" "[I") (.int 18)) (z := 50) (hs _ (by decide +kernel))
    · exact va_eqt (t := .elem (.static "FairNext" "BODY" "[I") (.int 19)) (z := 13) (hs _ (by decide +kernel))
    · exact va_eqt (t := .elem (.static "FairNext" "BODY" "[I") (.int 20)) (z := 40) (hs _ (by decide +kernel))
    · exact va_eqt (t := .elem (.static "FairNext" "BODY" "[I") (.int 21)) (z := 41) (hs _ (by decide +kernel))
    · exact va_eqt (t := .elem (.static "FairNext" "BODY" "[I") (.int 22)) (z := 61) (hs _ (by decide +kernel))
    · exact va_eqt (t := .elem (.static "FairNext" "BODY" "[I") (.int 23)) (z := 60) (hs _ (by decide +kernel))) hA
  obtain ⟨adK, adV, hSS, hSe⟩ := vk_Sof (N := 11) (tm := fun i => .string "FairNext$Tape" (txS.getD i (0, "", [])).1) (len := lenS) (byt := bytS) (A := fun q : Nat => s.heap.size ≤ q) (by decide +kernel)
    (fun i hi => by
    rcases (show i = 0 ∨ i = 1 ∨ i = 2 ∨ i = 3 ∨ i = 4 ∨ i = 5 ∨ i = 6 ∨ i = 7 ∨ i = 8 ∨ i = 9 ∨ i = 10 by omega) with rfl | rfl | rfl | rfl | rfl | rfl | rfl | rfl | rfl | rfl | rfl
    · exact hs _ (by decide +kernel)
    · exact hs _ (by decide +kernel)
    · exact hs _ (by decide +kernel)
    · exact hs _ (by decide +kernel)
    · exact hs _ (by decide +kernel)
    · exact hs _ (by decide +kernel)
    · exact hs _ (by decide +kernel)
    · exact hs _ (by decide +kernel)
    · exact hs _ (by decide +kernel)
    · exact hs _ (by decide +kernel)
    · exact hs _ (by decide +kernel))
    (fun i hi => by
    rcases (show i = 0 ∨ i = 1 ∨ i = 2 ∨ i = 3 ∨ i = 4 ∨ i = 5 ∨ i = 6 ∨ i = 7 ∨ i = 8 ∨ i = 9 ∨ i = 10 by omega) with rfl | rfl | rfl | rfl | rfl | rfl | rfl | rfl | rfl | rfl | rfl
    · exact hs _ (by decide +kernel)
    · exact hs _ (by decide +kernel)
    · exact hs _ (by decide +kernel)
    · exact hs _ (by decide +kernel)
    · exact hs _ (by decide +kernel)
    · exact hs _ (by decide +kernel)
    · exact hs _ (by decide +kernel)
    · exact hs _ (by decide +kernel)
    · exact hs _ (by decide +kernel)
    · exact hs _ (by decide +kernel)
    · exact hs _ (by decide +kernel))
    (fun i hi => by
    rcases (show i = 0 ∨ i = 1 ∨ i = 2 ∨ i = 3 ∨ i = 4 ∨ i = 5 ∨ i = 6 ∨ i = 7 ∨ i = 8 ∨ i = 9 ∨ i = 10 by omega) with rfl | rfl | rfl | rfl | rfl | rfl | rfl | rfl | rfl | rfl | rfl
    · exact hs _ (by decide +kernel)
    · exact hs _ (by decide +kernel)
    · exact hs _ (by decide +kernel)
    · exact hs _ (by decide +kernel)
    · exact hs _ (by decide +kernel)
    · exact hs _ (by decide +kernel)
    · exact hs _ (by decide +kernel)
    · exact hs _ (by decide +kernel)
    · exact hs _ (by decide +kernel)
    · exact hs _ (by decide +kernel)
    · exact hs _ (by decide +kernel))
    (fun i hi => by
    rcases (show i = 0 ∨ i = 1 ∨ i = 2 ∨ i = 3 ∨ i = 4 ∨ i = 5 ∨ i = 6 ∨ i = 7 ∨ i = 8 ∨ i = 9 ∨ i = 10 by omega) with rfl | rfl | rfl | rfl | rfl | rfl | rfl | rfl | rfl | rfl | rfl
    · exact hs _ (by decide +kernel)
    · exact hs _ (by decide +kernel)
    · exact hs _ (by decide +kernel)
    · exact hs _ (by decide +kernel)
    · exact hs _ (by decide +kernel)
    · exact hs _ (by decide +kernel)
    · exact hs _ (by decide +kernel)
    · exact hs _ (by decide +kernel)
    · exact hs _ (by decide +kernel)
    · exact hs _ (by decide +kernel)
    · exact hs _ (by decide +kernel))
    (fun i hi j hj => by
    rcases (show i = 0 ∨ i = 1 ∨ i = 2 ∨ i = 3 ∨ i = 4 ∨ i = 5 ∨ i = 6 ∨ i = 7 ∨ i = 8 ∨ i = 9 ∨ i = 10 by omega) with rfl | rfl | rfl | rfl | rfl | rfl | rfl | rfl | rfl | rfl | rfl
    · replace hj : j < 4 := hj
      rcases (show j = 0 ∨ j = 1 ∨ j = 2 ∨ j = 3 by omega) with rfl | rfl | rfl | rfl <;> exact hs _ (by decide +kernel)
    · replace hj : j < 4 := hj
      rcases (show j = 0 ∨ j = 1 ∨ j = 2 ∨ j = 3 by omega) with rfl | rfl | rfl | rfl <;> exact hs _ (by decide +kernel)
    · replace hj : j < 4 := hj
      rcases (show j = 0 ∨ j = 1 ∨ j = 2 ∨ j = 3 by omega) with rfl | rfl | rfl | rfl <;> exact hs _ (by decide +kernel)
    · replace hj : j < 5 := hj
      rcases (show j = 0 ∨ j = 1 ∨ j = 2 ∨ j = 3 ∨ j = 4 by omega) with rfl | rfl | rfl | rfl | rfl <;> exact hs _ (by decide +kernel)
    · replace hj : j < 6 := hj
      rcases (show j = 0 ∨ j = 1 ∨ j = 2 ∨ j = 3 ∨ j = 4 ∨ j = 5 by omega) with rfl | rfl | rfl | rfl | rfl | rfl <;> exact hs _ (by decide +kernel)
    · replace hj : j < 6 := hj
      rcases (show j = 0 ∨ j = 1 ∨ j = 2 ∨ j = 3 ∨ j = 4 ∨ j = 5 by omega) with rfl | rfl | rfl | rfl | rfl | rfl <;> exact hs _ (by decide +kernel)
    · replace hj : j < 8 := hj
      rcases (show j = 0 ∨ j = 1 ∨ j = 2 ∨ j = 3 ∨ j = 4 ∨ j = 5 ∨ j = 6 ∨ j = 7 by omega) with rfl | rfl | rfl | rfl | rfl | rfl | rfl | rfl <;> exact hs _ (by decide +kernel)
    · replace hj : j < 4 := hj
      rcases (show j = 0 ∨ j = 1 ∨ j = 2 ∨ j = 3 by omega) with rfl | rfl | rfl | rfl <;> exact hs _ (by decide +kernel)
    · replace hj : j < 2 := hj
      rcases (show j = 0 ∨ j = 1 by omega) with rfl | rfl <;> exact hs _ (by decide +kernel)
    · replace hj : j < 4 := hj
      rcases (show j = 0 ∨ j = 1 ∨ j = 2 ∨ j = 3 by omega) with rfl | rfl | rfl | rfl <;> exact hs _ (by decide +kernel)
    · replace hj : j < 4 := hj
      rcases (show j = 0 ∨ j = 1 ∨ j = 2 ∨ j = 3 by omega) with rfl | rfl | rfl | rfl <;> exact hs _ (by decide +kernel))
    (fun i j hi hj hij => by
    rcases (show i = 0 ∨ i = 1 ∨ i = 2 ∨ i = 3 ∨ i = 4 ∨ i = 5 ∨ i = 6 ∨ i = 7 ∨ i = 8 ∨ i = 9 ∨ i = 10 by omega) with rfl | rfl | rfl | rfl | rfl | rfl | rfl | rfl | rfl | rfl | rfl
    · rcases (show j = 1 ∨ j = 2 ∨ j = 3 ∨ j = 4 ∨ j = 5 ∨ j = 6 ∨ j = 7 ∨ j = 8 ∨ j = 9 ∨ j = 10 by omega) with rfl | rfl | rfl | rfl | rfl | rfl | rfl | rfl | rfl | rfl
      · exact Or.inl (hs _ (by decide +kernel))
      · exact Or.inl (hs _ (by decide +kernel))
      · exact Or.inl (hs _ (by decide +kernel))
      · exact Or.inl (hs _ (by decide +kernel))
      · exact Or.inl (hs _ (by decide +kernel))
      · exact Or.inl (hs _ (by decide +kernel))
      · exact Or.inl (hs _ (by decide +kernel))
      · exact Or.inl (hs _ (by decide +kernel))
      · exact Or.inl (hs _ (by decide +kernel))
      · exact Or.inl (hs _ (by decide +kernel))
    · rcases (show j = 0 ∨ j = 2 ∨ j = 3 ∨ j = 4 ∨ j = 5 ∨ j = 6 ∨ j = 7 ∨ j = 8 ∨ j = 9 ∨ j = 10 by omega) with rfl | rfl | rfl | rfl | rfl | rfl | rfl | rfl | rfl | rfl
      · exact Or.inr (hs _ (by decide +kernel))
      · exact Or.inl (hs _ (by decide +kernel))
      · exact Or.inl (hs _ (by decide +kernel))
      · exact Or.inl (hs _ (by decide +kernel))
      · exact Or.inl (hs _ (by decide +kernel))
      · exact Or.inl (hs _ (by decide +kernel))
      · exact Or.inl (hs _ (by decide +kernel))
      · exact Or.inl (hs _ (by decide +kernel))
      · exact Or.inl (hs _ (by decide +kernel))
      · exact Or.inl (hs _ (by decide +kernel))
    · rcases (show j = 0 ∨ j = 1 ∨ j = 3 ∨ j = 4 ∨ j = 5 ∨ j = 6 ∨ j = 7 ∨ j = 8 ∨ j = 9 ∨ j = 10 by omega) with rfl | rfl | rfl | rfl | rfl | rfl | rfl | rfl | rfl | rfl
      · exact Or.inr (hs _ (by decide +kernel))
      · exact Or.inr (hs _ (by decide +kernel))
      · exact Or.inl (hs _ (by decide +kernel))
      · exact Or.inl (hs _ (by decide +kernel))
      · exact Or.inl (hs _ (by decide +kernel))
      · exact Or.inl (hs _ (by decide +kernel))
      · exact Or.inl (hs _ (by decide +kernel))
      · exact Or.inl (hs _ (by decide +kernel))
      · exact Or.inl (hs _ (by decide +kernel))
      · exact Or.inl (hs _ (by decide +kernel))
    · rcases (show j = 0 ∨ j = 1 ∨ j = 2 ∨ j = 4 ∨ j = 5 ∨ j = 6 ∨ j = 7 ∨ j = 8 ∨ j = 9 ∨ j = 10 by omega) with rfl | rfl | rfl | rfl | rfl | rfl | rfl | rfl | rfl | rfl
      · exact Or.inr (hs _ (by decide +kernel))
      · exact Or.inr (hs _ (by decide +kernel))
      · exact Or.inr (hs _ (by decide +kernel))
      · exact Or.inl (hs _ (by decide +kernel))
      · exact Or.inl (hs _ (by decide +kernel))
      · exact Or.inl (hs _ (by decide +kernel))
      · exact Or.inl (hs _ (by decide +kernel))
      · exact Or.inl (hs _ (by decide +kernel))
      · exact Or.inl (hs _ (by decide +kernel))
      · exact Or.inl (hs _ (by decide +kernel))
    · rcases (show j = 0 ∨ j = 1 ∨ j = 2 ∨ j = 3 ∨ j = 5 ∨ j = 6 ∨ j = 7 ∨ j = 8 ∨ j = 9 ∨ j = 10 by omega) with rfl | rfl | rfl | rfl | rfl | rfl | rfl | rfl | rfl | rfl
      · exact Or.inr (hs _ (by decide +kernel))
      · exact Or.inr (hs _ (by decide +kernel))
      · exact Or.inr (hs _ (by decide +kernel))
      · exact Or.inr (hs _ (by decide +kernel))
      · exact Or.inl (hs _ (by decide +kernel))
      · exact Or.inl (hs _ (by decide +kernel))
      · exact Or.inl (hs _ (by decide +kernel))
      · exact Or.inl (hs _ (by decide +kernel))
      · exact Or.inl (hs _ (by decide +kernel))
      · exact Or.inl (hs _ (by decide +kernel))
    · rcases (show j = 0 ∨ j = 1 ∨ j = 2 ∨ j = 3 ∨ j = 4 ∨ j = 6 ∨ j = 7 ∨ j = 8 ∨ j = 9 ∨ j = 10 by omega) with rfl | rfl | rfl | rfl | rfl | rfl | rfl | rfl | rfl | rfl
      · exact Or.inr (hs _ (by decide +kernel))
      · exact Or.inr (hs _ (by decide +kernel))
      · exact Or.inr (hs _ (by decide +kernel))
      · exact Or.inr (hs _ (by decide +kernel))
      · exact Or.inr (hs _ (by decide +kernel))
      · exact Or.inl (hs _ (by decide +kernel))
      · exact Or.inl (hs _ (by decide +kernel))
      · exact Or.inl (hs _ (by decide +kernel))
      · exact Or.inl (hs _ (by decide +kernel))
      · exact Or.inl (hs _ (by decide +kernel))
    · rcases (show j = 0 ∨ j = 1 ∨ j = 2 ∨ j = 3 ∨ j = 4 ∨ j = 5 ∨ j = 7 ∨ j = 8 ∨ j = 9 ∨ j = 10 by omega) with rfl | rfl | rfl | rfl | rfl | rfl | rfl | rfl | rfl | rfl
      · exact Or.inr (hs _ (by decide +kernel))
      · exact Or.inr (hs _ (by decide +kernel))
      · exact Or.inr (hs _ (by decide +kernel))
      · exact Or.inr (hs _ (by decide +kernel))
      · exact Or.inr (hs _ (by decide +kernel))
      · exact Or.inr (hs _ (by decide +kernel))
      · exact Or.inl (hs _ (by decide +kernel))
      · exact Or.inl (hs _ (by decide +kernel))
      · exact Or.inl (hs _ (by decide +kernel))
      · exact Or.inl (hs _ (by decide +kernel))
    · rcases (show j = 0 ∨ j = 1 ∨ j = 2 ∨ j = 3 ∨ j = 4 ∨ j = 5 ∨ j = 6 ∨ j = 8 ∨ j = 9 ∨ j = 10 by omega) with rfl | rfl | rfl | rfl | rfl | rfl | rfl | rfl | rfl | rfl
      · exact Or.inr (hs _ (by decide +kernel))
      · exact Or.inr (hs _ (by decide +kernel))
      · exact Or.inr (hs _ (by decide +kernel))
      · exact Or.inr (hs _ (by decide +kernel))
      · exact Or.inr (hs _ (by decide +kernel))
      · exact Or.inr (hs _ (by decide +kernel))
      · exact Or.inr (hs _ (by decide +kernel))
      · exact Or.inl (hs _ (by decide +kernel))
      · exact Or.inl (hs _ (by decide +kernel))
      · exact Or.inl (hs _ (by decide +kernel))
    · rcases (show j = 0 ∨ j = 1 ∨ j = 2 ∨ j = 3 ∨ j = 4 ∨ j = 5 ∨ j = 6 ∨ j = 7 ∨ j = 9 ∨ j = 10 by omega) with rfl | rfl | rfl | rfl | rfl | rfl | rfl | rfl | rfl | rfl
      · exact Or.inr (hs _ (by decide +kernel))
      · exact Or.inr (hs _ (by decide +kernel))
      · exact Or.inr (hs _ (by decide +kernel))
      · exact Or.inr (hs _ (by decide +kernel))
      · exact Or.inr (hs _ (by decide +kernel))
      · exact Or.inr (hs _ (by decide +kernel))
      · exact Or.inr (hs _ (by decide +kernel))
      · exact Or.inr (hs _ (by decide +kernel))
      · exact Or.inl (hs _ (by decide +kernel))
      · exact Or.inl (hs _ (by decide +kernel))
    · rcases (show j = 0 ∨ j = 1 ∨ j = 2 ∨ j = 3 ∨ j = 4 ∨ j = 5 ∨ j = 6 ∨ j = 7 ∨ j = 8 ∨ j = 10 by omega) with rfl | rfl | rfl | rfl | rfl | rfl | rfl | rfl | rfl | rfl
      · exact Or.inr (hs _ (by decide +kernel))
      · exact Or.inr (hs _ (by decide +kernel))
      · exact Or.inr (hs _ (by decide +kernel))
      · exact Or.inr (hs _ (by decide +kernel))
      · exact Or.inr (hs _ (by decide +kernel))
      · exact Or.inr (hs _ (by decide +kernel))
      · exact Or.inr (hs _ (by decide +kernel))
      · exact Or.inr (hs _ (by decide +kernel))
      · exact Or.inr (hs _ (by decide +kernel))
      · exact Or.inl (hs _ (by decide +kernel))
    · rcases (show j = 0 ∨ j = 1 ∨ j = 2 ∨ j = 3 ∨ j = 4 ∨ j = 5 ∨ j = 6 ∨ j = 7 ∨ j = 8 ∨ j = 9 by omega) with rfl | rfl | rfl | rfl | rfl | rfl | rfl | rfl | rfl | rfl
      · exact Or.inr (hs _ (by decide +kernel))
      · exact Or.inr (hs _ (by decide +kernel))
      · exact Or.inr (hs _ (by decide +kernel))
      · exact Or.inr (hs _ (by decide +kernel))
      · exact Or.inr (hs _ (by decide +kernel))
      · exact Or.inr (hs _ (by decide +kernel))
      · exact Or.inr (hs _ (by decide +kernel))
      · exact Or.inr (hs _ (by decide +kernel))
      · exact Or.inr (hs _ (by decide +kernel))
      · exact Or.inr (hs _ (by decide +kernel))) hA
  have hC := va_Zof (A := fun q : Nat => s.heap.size ≤ q) (hts0 _ (List.mem_append_right _ (List.mem_of_getElem? (i := 251) (by decide +kernel)))) (hts0 _ (xU_l _ xw_9)) (va_eqi (z := 1) (hs (Cond.eq (.static "java/lang/String" "COMPACT_STRINGS" "Z") (.int 1)) (by decide +kernel))) hA
  have hq := va_Zqof (A := fun q : Nat => s.heap.size ≤ q) (hts0 _ (List.mem_append_right _ (List.mem_of_getElem? (i := 267) (by decide +kernel)))) (hts0 _ (xU_l _ xw_11)) (hs (Cond.isRef (.static "jdk/internal/util/Preconditions" "SIOOBE_FORMATTER" "Ljava/util/function/BiFunction;")) (by decide +kernel)) hA
  have hO := va_Zof (A := fun q : Nat => s.heap.size ≤ q) (hts0 _ (List.mem_append_right _ (List.mem_of_getElem? (i := 635) (by decide +kernel)))) (hts0 _ (xU_l _ xw_1)) eOVER hA
  have hB := va_Zof (A := fun q : Nat => s.heap.size ≤ q) (hts0 _ (List.mem_append_right _ (List.mem_of_getElem? (i := 653) (by decide +kernel)))) (hts0 _ (xU_l _ xw_1)) eBODY hA
  have hR : ∀ i, i < 11 → vk_R "FairNext$Tape" (txS.getD i (0, "", [])).1 (txS.getD i (0, "", [])).2.1 (adK i) s := by
    intro i hi
    have h9 := hSe i hi
    rcases (show i = 0 ∨ i = 1 ∨ i = 2 ∨ i = 3 ∨ i = 4 ∨ i = 5 ∨ i = 6 ∨ i = 7 ∨ i = 8 ∨ i = 9 ∨ i = 10 by omega) with rfl | rfl | rfl | rfl | rfl | rfl | rfl | rfl | rfl | rfl | rfl
    · exact vk_R.of (A := #[Value.ref b]) (hts0 _ (List.mem_append_right _ (List.mem_of_getElem? (i := 237) (by decide +kernel)))) h9
    · exact vk_R.of (A := #[Value.ref b]) (hts0 _ (List.mem_append_right _ (List.mem_of_getElem? (i := 294) (by decide +kernel)))) h9
    · exact vk_R.of (A := #[Value.ref b]) (hts0 _ (List.mem_append_right _ (List.mem_of_getElem? (i := 295) (by decide +kernel)))) h9
    · exact vk_R.of (A := #[Value.ref b]) (hts0 _ (List.mem_append_right _ (List.mem_of_getElem? (i := 296) (by decide +kernel)))) h9
    · exact vk_R.of (A := #[Value.ref b]) (hts0 _ (List.mem_append_right _ (List.mem_of_getElem? (i := 297) (by decide +kernel)))) h9
    · exact vk_R.of (A := #[Value.ref b]) (hts0 _ (List.mem_append_right _ (List.mem_of_getElem? (i := 298) (by decide +kernel)))) h9
    · exact vk_R.of (A := #[Value.ref b]) (hts0 _ (List.mem_append_right _ (List.mem_of_getElem? (i := 323) (by decide +kernel)))) h9
    · exact vk_R.of (A := #[Value.ref b]) (hts0 _ (List.mem_append_right _ (List.mem_of_getElem? (i := 324) (by decide +kernel)))) h9
    · exact vk_R.of (A := #[Value.ref b]) (hts0 _ (List.mem_append_right _ (List.mem_of_getElem? (i := 329) (by decide +kernel)))) h9
    · exact vk_R.of (A := #[Value.ref b]) (hts0 _ (List.mem_append_right _ (List.mem_of_getElem? (i := 334) (by decide +kernel)))) h9
    · exact vk_R.of (A := #[Value.ref b]) (hts0 _ (List.mem_append_right _ (List.mem_of_getElem? (i := 335) (by decide +kernel)))) h9
  rcases hq with hq | ⟨q, hq⟩
  · exact ⟨tOVER, tBODY, adK, adV, .null, Or.inl rfl, hO, TOVER, hB, TBODY, hSS, hC, hq, hR⟩
  · exact ⟨tOVER, tBODY, adK, adV, .ref q, Or.inr ⟨q, rfl⟩, hO, TOVER, hB, TBODY, hSS, hC, hq, hR⟩
set_option maxHeartbeats 4000000 in
set_option maxRecDepth 100000 in
theorem whole_open (hpure : ∀ (L : Nat) (xs : Nat → Int32), L ≤ 2560 → f_law L xs = some 1) {p : Program} {e : Env} {s : State} {m : MethodId} {below : List Frame} {meth : Method} {c : Code} (l : Launch) {b L : Nat} {xs : Nat → Int32} (hL : L ≤ 2560) (C0 : lw_At p s m meth c b L xs) : W p l e room_1 s m #[Value.ref b] below meth c s.heap [] 0 0 (lw_Z below #[Value.ref b] s) (entryFrame m ([Value.ref b] : List Value).toArray 4) := by
  have hF := hpure L xs hL
  obtain ⟨D, cI, cB, cJ, hK⟩ := law_K C0
  obtain ⟨tO, tB, adK, adV, vf, hvf, hT⟩ := law_T C0
  obtain ⟨hx, hb, hr, hml, hown, hts0, hX, hbl, hlocks, hgv⟩ := id C0
  have hA : ∀ q : Nat, s.heap.size ≤ q → (fun q : Nat => s.heap.size ≤ q) q := fun _ h => h
  have hts : ∀ w ∈ (.initialized "FairNext" :: xU : List Cond), w.before #[Value.ref b] s = true := fun w h => hts0 w ((List.mem_cons.mp h).elim (fun e => e ▸ xU_l _ xw_1) (xU_l w))
  have hfix : CallFix p m c code 4 s #[Value.ref b] (.initialized "FairNext" :: xU) "FairNextLaw" := ⟨hx, hb, hml, hown, hts⟩
  have hS : va_S (fun q : Nat => s.heap.size ≤ q) s.heap s.heap [] := va_S.rf
  have hP : va_P D vwCl [] s.heap := fun k q h => by simp at h
  have hD : va_D (fun q : Nat => s.heap.size ≤ q) [] := ⟨fun i j p q h => by simp at h, fun k q h => by simp at h⟩
  have hl := lv_entry ([.ref b]) (n := 4) (Nat.le_of_ble_eq_true rfl)
  rw [lg_entry_eq]
  generalize (lg_sl ([.ref b]) ++ List.replicate (4 - (lg_sl ([.ref b])).length) Slot.unset).toArray = ls at hl ⊢
  have hl : lv_has ls 4 [(0, .ref b)] := hl
  rw [f_law] at hF
  refine va_new (ci := 6) (fs := [.null, .null, .null, .null, .null, .null, .null, .null, .null, .null, .int (0 : Int32), .int (0 : Int32), .int (0 : Int32)]) (C := RX6) (T := TX6) (N := 13) hx hb hts (fun w h => List.mem_cons_of_mem _ (xiX6 w h)) tyX6 tyX6_ok hown (hts _ (List.mem_cons_of_mem _ xw_15)) (hts _ (List.mem_cons_of_mem _ xw_16)) (hts _ (List.mem_cons_of_mem _ xw_1)) hK.1 hP hD hS hA rfl (fun j hj => by rcases (show j = 0 ∨ j = 1 ∨ j = 2 ∨ j = 3 ∨ j = 4 ∨ j = 5 ∨ j = 6 ∨ j = 7 ∨ j = 8 ∨ j = 9 ∨ j = 10 ∨ j = 11 ∨ j = 12 by omega) with rfl | rfl | rfl | rfl | rfl | rfl | rfl | rfl | rfl | rfl | rfl | rfl | rfl <;> rfl) (Nat.le_of_ble_eq_true rfl) (Nat.le_of_ble_eq_true rfl) dL_law_0 (fun q_1 H hP hD hS => ?_)
  have hP : va_P D vwCl [(q_1, .inr (6, [.null, .null, .null, .null, .null, .null, .null, .null, .null, .null, .int (0 : Int32), .int (0 : Int32), .int (0 : Int32)]))] H := hP
  have hD : va_D (fun q : Nat => s.heap.size ≤ q) [(q_1, .inr (6, [.null, .null, .null, .null, .null, .null, .null, .null, .null, .null, .int (0 : Int32), .int (0 : Int32), .int (0 : Int32)]))] := hD
  refine lv_dup hx hb dL_law_3 rfl ?_
  obtain ⟨o_2, o_3, o_4, o_5, o_6, o_7, o_8, o_9, o_10, o_11, o_12, o_13, hq_14, hF⟩ := bd12_e hF
  refine xrc (wr := []) (xrunI (As := []) (rest := [.ref q_1]) (c_X6_init l D cI cB cJ q_1 _ o_2 o_3 o_4 o_5 o_6 o_7 o_8 o_9 o_10 o_11 o_12 o_13 hq_14) hfix xw_17 yi_X6_init ⟨rfl, rfl⟩ ⟨(Nat.le_of_ble_eq_true rfl), (Nat.le_of_ble_eq_true rfl)⟩ xKk_K (fun U hU hW => xK.warm hW hK) hP hD [0] rfl rfl rfl hl.1 rfl (Nat.le_of_ble_eq_true rfl) dL_law_4 ⟨(Nat.le_of_ble_eq_true rfl), (Nat.le_of_ble_eq_true rfl)⟩) hP hD hS hA [0] [] rfl rfl (by decide) (by decide) (fun qf_15 H locs hP hD hS => ?_)
  have hP : va_P D vwCl [(q_1, .inr (6, [.ref (qf_15 0), .ref (qf_15 4), .ref (qf_15 8), .ref (qf_15 12), .ref (qf_15 14), .ref (qf_15 16), .ref (qf_15 20), .ref (qf_15 24), .ref (qf_15 26), .ref (qf_15 27), .int (0 : Int32), .int (1 : Int32), .int (1 : Int32)])), ((qf_15 0), .inr (0, [.ref (qf_15 1), .ref (qf_15 2), .ref (qf_15 3), .int o_2, .int o_3])), ((qf_15 1), .inl (cI, 24, .inl o_4)), ((qf_15 2), .inl (cI, 24, .inl o_5)), ((qf_15 3), .inl (cI, 6, .inl (fun _ => 0))), ((qf_15 4), .inr (0, [.ref (qf_15 5), .ref (qf_15 6), .ref (qf_15 7), .int o_6, .int o_7])), ((qf_15 5), .inl (cI, 24, .inl o_8)), ((qf_15 6), .inl (cI, 24, .inl o_9)), ((qf_15 7), .inl (cI, 6, .inl (fun _ => 0))), ((qf_15 8), .inr (0, [.ref (qf_15 9), .ref (qf_15 10), .ref (qf_15 11), .int o_10, .int o_11])), ((qf_15 9), .inl (cI, 24, .inl o_12)), ((qf_15 10), .inl (cI, 24, .inl o_13)), ((qf_15 11), .inl (cI, 6, .inl (fun _ => 0))), ((qf_15 12), .inr (4, [.ref (qf_15 13), .int (0 : Int32), .int (0 : Int32), .int (-1 : Int32)])), ((qf_15 13), .inl (cB, 200, .inl (fun _ => 0))), ((qf_15 14), .inr (1, [.ref (qf_15 15), .int (0 : Int32)])), ((qf_15 15), .inl (cI, 72, .inl (fun _ => 0))), ((qf_15 16), .inr (2, [.ref (qf_15 17), .ref (qf_15 18), .ref (qf_15 19)])), ((qf_15 17), .inl (cI, 4, .inl (upd (upd (upd (upd (fun _ => 0) (0 : Int32).toNatClampNeg (-1 : Int32)) (1 : Int32).toNatClampNeg (-1 : Int32)) (2 : Int32).toNatClampNeg (-1 : Int32)) (3 : Int32).toNatClampNeg (-1 : Int32)))), ((qf_15 18), .inl (cI, 4, .inl (fun _ => 0))), ((qf_15 19), .inl (cJ, 160, .inr (.inl (fun _ => 0)))), ((qf_15 20), .inr (3, [.ref (qf_15 21), .ref (qf_15 22), .ref (qf_15 23)])), ((qf_15 21), .inl (cI, 4, .inl (upd (upd (upd (upd (fun _ => 0) (0 : Int32).toNatClampNeg (-1 : Int32)) (1 : Int32).toNatClampNeg (-1 : Int32)) (2 : Int32).toNatClampNeg (-1 : Int32)) (3 : Int32).toNatClampNeg (-1 : Int32)))), ((qf_15 22), .inl (cI, 4, .inl (upd (upd (upd (upd (fun _ => 0) (0 : Int32).toNatClampNeg (-1 : Int32)) (1 : Int32).toNatClampNeg (-1 : Int32)) (2 : Int32).toNatClampNeg (-1 : Int32)) (3 : Int32).toNatClampNeg (-1 : Int32)))), ((qf_15 23), .inl (cI, 4, .inl (fun _ => 0))), ((qf_15 24), .inr (5, [.ref (qf_15 25), .int (0 : Int32), .int (0 : Int32), .int (0 : Int32), .int (0 : Int32), .int (0 : Int32)])), ((qf_15 25), .inl (cI, 30, .inl (fun _ => 0))), ((qf_15 26), .inl (cI, 10, .inl (fun _ => 0))), ((qf_15 27), .inl (cI, 100, .inl (fun _ => 0)))] H := hP
  have hD : va_D (fun q : Nat => s.heap.size ≤ q) [(q_1, .inr (6, [.ref (qf_15 0), .ref (qf_15 4), .ref (qf_15 8), .ref (qf_15 12), .ref (qf_15 14), .ref (qf_15 16), .ref (qf_15 20), .ref (qf_15 24), .ref (qf_15 26), .ref (qf_15 27), .int (0 : Int32), .int (1 : Int32), .int (1 : Int32)])), ((qf_15 0), .inr (0, [.ref (qf_15 1), .ref (qf_15 2), .ref (qf_15 3), .int o_2, .int o_3])), ((qf_15 1), .inl (cI, 24, .inl o_4)), ((qf_15 2), .inl (cI, 24, .inl o_5)), ((qf_15 3), .inl (cI, 6, .inl (fun _ => 0))), ((qf_15 4), .inr (0, [.ref (qf_15 5), .ref (qf_15 6), .ref (qf_15 7), .int o_6, .int o_7])), ((qf_15 5), .inl (cI, 24, .inl o_8)), ((qf_15 6), .inl (cI, 24, .inl o_9)), ((qf_15 7), .inl (cI, 6, .inl (fun _ => 0))), ((qf_15 8), .inr (0, [.ref (qf_15 9), .ref (qf_15 10), .ref (qf_15 11), .int o_10, .int o_11])), ((qf_15 9), .inl (cI, 24, .inl o_12)), ((qf_15 10), .inl (cI, 24, .inl o_13)), ((qf_15 11), .inl (cI, 6, .inl (fun _ => 0))), ((qf_15 12), .inr (4, [.ref (qf_15 13), .int (0 : Int32), .int (0 : Int32), .int (-1 : Int32)])), ((qf_15 13), .inl (cB, 200, .inl (fun _ => 0))), ((qf_15 14), .inr (1, [.ref (qf_15 15), .int (0 : Int32)])), ((qf_15 15), .inl (cI, 72, .inl (fun _ => 0))), ((qf_15 16), .inr (2, [.ref (qf_15 17), .ref (qf_15 18), .ref (qf_15 19)])), ((qf_15 17), .inl (cI, 4, .inl (upd (upd (upd (upd (fun _ => 0) (0 : Int32).toNatClampNeg (-1 : Int32)) (1 : Int32).toNatClampNeg (-1 : Int32)) (2 : Int32).toNatClampNeg (-1 : Int32)) (3 : Int32).toNatClampNeg (-1 : Int32)))), ((qf_15 18), .inl (cI, 4, .inl (fun _ => 0))), ((qf_15 19), .inl (cJ, 160, .inr (.inl (fun _ => 0)))), ((qf_15 20), .inr (3, [.ref (qf_15 21), .ref (qf_15 22), .ref (qf_15 23)])), ((qf_15 21), .inl (cI, 4, .inl (upd (upd (upd (upd (fun _ => 0) (0 : Int32).toNatClampNeg (-1 : Int32)) (1 : Int32).toNatClampNeg (-1 : Int32)) (2 : Int32).toNatClampNeg (-1 : Int32)) (3 : Int32).toNatClampNeg (-1 : Int32)))), ((qf_15 22), .inl (cI, 4, .inl (upd (upd (upd (upd (fun _ => 0) (0 : Int32).toNatClampNeg (-1 : Int32)) (1 : Int32).toNatClampNeg (-1 : Int32)) (2 : Int32).toNatClampNeg (-1 : Int32)) (3 : Int32).toNatClampNeg (-1 : Int32)))), ((qf_15 23), .inl (cI, 4, .inl (fun _ => 0))), ((qf_15 24), .inr (5, [.ref (qf_15 25), .int (0 : Int32), .int (0 : Int32), .int (0 : Int32), .int (0 : Int32), .int (0 : Int32)])), ((qf_15 25), .inl (cI, 30, .inl (fun _ => 0))), ((qf_15 26), .inl (cI, 10, .inl (fun _ => 0))), ((qf_15 27), .inl (cI, 100, .inl (fun _ => 0)))] := hD
  refine lv_astore_n (lv' := [(1, .ref q_1), (0, .ref b)]) hx hb dL_law_7 rfl hl (by decide) rfl (fun ls hl => ?_)
  refine va_new (ci := 7) (fs := [.null, .null, .null, .int (0 : Int32), .int (0 : Int32), .null, .int (0 : Int32), .null, .int (0 : Int32), .int (0 : Int32), .int (0 : Int32), .int (0 : Int32), .long (0 : Int64), .int (0 : Int32), .int (0 : Int32), .int (0 : Int32), .int (0 : Int32), .null, .null, .null, .null, .null, .null, .null, .int (0 : Int32), .int (0 : Int32), .null, .null, .null, .null, .null, .null, .int (0 : Int32), .int (0 : Int32), .int (0 : Int32), .null, .int (0 : Int32), .int (0 : Int32), .int (0 : Int32), .null, .int (0 : Int32), .null]) (C := RX7) (T := TX7) (N := 42) hx hb hts (fun w h => List.mem_cons_of_mem _ (xiX7 w h)) tyX7 tyX7_ok hown (hts _ (List.mem_cons_of_mem _ xw_682)) (hts _ (List.mem_cons_of_mem _ xw_683)) (hts _ (List.mem_cons_of_mem _ xw_8)) hK.1 hP hD hS hA rfl (fun j hj => by rcases (show j = 0 ∨ j = 1 ∨ j = 2 ∨ j = 3 ∨ j = 4 ∨ j = 5 ∨ j = 6 ∨ j = 7 ∨ j = 8 ∨ j = 9 ∨ j = 10 ∨ j = 11 ∨ j = 12 ∨ j = 13 ∨ j = 14 ∨ j = 15 ∨ j = 16 ∨ j = 17 ∨ j = 18 ∨ j = 19 ∨ j = 20 ∨ j = 21 ∨ j = 22 ∨ j = 23 ∨ j = 24 ∨ j = 25 ∨ j = 26 ∨ j = 27 ∨ j = 28 ∨ j = 29 ∨ j = 30 ∨ j = 31 ∨ j = 32 ∨ j = 33 ∨ j = 34 ∨ j = 35 ∨ j = 36 ∨ j = 37 ∨ j = 38 ∨ j = 39 ∨ j = 40 ∨ j = 41 by omega) with rfl | rfl | rfl | rfl | rfl | rfl | rfl | rfl | rfl | rfl | rfl | rfl | rfl | rfl | rfl | rfl | rfl | rfl | rfl | rfl | rfl | rfl | rfl | rfl | rfl | rfl | rfl | rfl | rfl | rfl | rfl | rfl | rfl | rfl | rfl | rfl | rfl | rfl | rfl | rfl | rfl | rfl <;> rfl) (Nat.le_of_ble_eq_true rfl) (Nat.le_of_ble_eq_true rfl) dL_law_8 (fun q_16 H hP hD hS => ?_)
  have hP : va_P D vwCl [(q_1, .inr (6, [.ref (qf_15 0), .ref (qf_15 4), .ref (qf_15 8), .ref (qf_15 12), .ref (qf_15 14), .ref (qf_15 16), .ref (qf_15 20), .ref (qf_15 24), .ref (qf_15 26), .ref (qf_15 27), .int (0 : Int32), .int (1 : Int32), .int (1 : Int32)])), ((qf_15 0), .inr (0, [.ref (qf_15 1), .ref (qf_15 2), .ref (qf_15 3), .int o_2, .int o_3])), ((qf_15 1), .inl (cI, 24, .inl o_4)), ((qf_15 2), .inl (cI, 24, .inl o_5)), ((qf_15 3), .inl (cI, 6, .inl (fun _ => 0))), ((qf_15 4), .inr (0, [.ref (qf_15 5), .ref (qf_15 6), .ref (qf_15 7), .int o_6, .int o_7])), ((qf_15 5), .inl (cI, 24, .inl o_8)), ((qf_15 6), .inl (cI, 24, .inl o_9)), ((qf_15 7), .inl (cI, 6, .inl (fun _ => 0))), ((qf_15 8), .inr (0, [.ref (qf_15 9), .ref (qf_15 10), .ref (qf_15 11), .int o_10, .int o_11])), ((qf_15 9), .inl (cI, 24, .inl o_12)), ((qf_15 10), .inl (cI, 24, .inl o_13)), ((qf_15 11), .inl (cI, 6, .inl (fun _ => 0))), ((qf_15 12), .inr (4, [.ref (qf_15 13), .int (0 : Int32), .int (0 : Int32), .int (-1 : Int32)])), ((qf_15 13), .inl (cB, 200, .inl (fun _ => 0))), ((qf_15 14), .inr (1, [.ref (qf_15 15), .int (0 : Int32)])), ((qf_15 15), .inl (cI, 72, .inl (fun _ => 0))), ((qf_15 16), .inr (2, [.ref (qf_15 17), .ref (qf_15 18), .ref (qf_15 19)])), ((qf_15 17), .inl (cI, 4, .inl (upd (upd (upd (upd (fun _ => 0) (0 : Int32).toNatClampNeg (-1 : Int32)) (1 : Int32).toNatClampNeg (-1 : Int32)) (2 : Int32).toNatClampNeg (-1 : Int32)) (3 : Int32).toNatClampNeg (-1 : Int32)))), ((qf_15 18), .inl (cI, 4, .inl (fun _ => 0))), ((qf_15 19), .inl (cJ, 160, .inr (.inl (fun _ => 0)))), ((qf_15 20), .inr (3, [.ref (qf_15 21), .ref (qf_15 22), .ref (qf_15 23)])), ((qf_15 21), .inl (cI, 4, .inl (upd (upd (upd (upd (fun _ => 0) (0 : Int32).toNatClampNeg (-1 : Int32)) (1 : Int32).toNatClampNeg (-1 : Int32)) (2 : Int32).toNatClampNeg (-1 : Int32)) (3 : Int32).toNatClampNeg (-1 : Int32)))), ((qf_15 22), .inl (cI, 4, .inl (upd (upd (upd (upd (fun _ => 0) (0 : Int32).toNatClampNeg (-1 : Int32)) (1 : Int32).toNatClampNeg (-1 : Int32)) (2 : Int32).toNatClampNeg (-1 : Int32)) (3 : Int32).toNatClampNeg (-1 : Int32)))), ((qf_15 23), .inl (cI, 4, .inl (fun _ => 0))), ((qf_15 24), .inr (5, [.ref (qf_15 25), .int (0 : Int32), .int (0 : Int32), .int (0 : Int32), .int (0 : Int32), .int (0 : Int32)])), ((qf_15 25), .inl (cI, 30, .inl (fun _ => 0))), ((qf_15 26), .inl (cI, 10, .inl (fun _ => 0))), ((qf_15 27), .inl (cI, 100, .inl (fun _ => 0))), (q_16, .inr (7, [.null, .null, .null, .int (0 : Int32), .int (0 : Int32), .null, .int (0 : Int32), .null, .int (0 : Int32), .int (0 : Int32), .int (0 : Int32), .int (0 : Int32), .long (0 : Int64), .int (0 : Int32), .int (0 : Int32), .int (0 : Int32), .int (0 : Int32), .null, .null, .null, .null, .null, .null, .null, .int (0 : Int32), .int (0 : Int32), .null, .null, .null, .null, .null, .null, .int (0 : Int32), .int (0 : Int32), .int (0 : Int32), .null, .int (0 : Int32), .int (0 : Int32), .int (0 : Int32), .null, .int (0 : Int32), .null]))] H := hP
  have hD : va_D (fun q : Nat => s.heap.size ≤ q) [(q_1, .inr (6, [.ref (qf_15 0), .ref (qf_15 4), .ref (qf_15 8), .ref (qf_15 12), .ref (qf_15 14), .ref (qf_15 16), .ref (qf_15 20), .ref (qf_15 24), .ref (qf_15 26), .ref (qf_15 27), .int (0 : Int32), .int (1 : Int32), .int (1 : Int32)])), ((qf_15 0), .inr (0, [.ref (qf_15 1), .ref (qf_15 2), .ref (qf_15 3), .int o_2, .int o_3])), ((qf_15 1), .inl (cI, 24, .inl o_4)), ((qf_15 2), .inl (cI, 24, .inl o_5)), ((qf_15 3), .inl (cI, 6, .inl (fun _ => 0))), ((qf_15 4), .inr (0, [.ref (qf_15 5), .ref (qf_15 6), .ref (qf_15 7), .int o_6, .int o_7])), ((qf_15 5), .inl (cI, 24, .inl o_8)), ((qf_15 6), .inl (cI, 24, .inl o_9)), ((qf_15 7), .inl (cI, 6, .inl (fun _ => 0))), ((qf_15 8), .inr (0, [.ref (qf_15 9), .ref (qf_15 10), .ref (qf_15 11), .int o_10, .int o_11])), ((qf_15 9), .inl (cI, 24, .inl o_12)), ((qf_15 10), .inl (cI, 24, .inl o_13)), ((qf_15 11), .inl (cI, 6, .inl (fun _ => 0))), ((qf_15 12), .inr (4, [.ref (qf_15 13), .int (0 : Int32), .int (0 : Int32), .int (-1 : Int32)])), ((qf_15 13), .inl (cB, 200, .inl (fun _ => 0))), ((qf_15 14), .inr (1, [.ref (qf_15 15), .int (0 : Int32)])), ((qf_15 15), .inl (cI, 72, .inl (fun _ => 0))), ((qf_15 16), .inr (2, [.ref (qf_15 17), .ref (qf_15 18), .ref (qf_15 19)])), ((qf_15 17), .inl (cI, 4, .inl (upd (upd (upd (upd (fun _ => 0) (0 : Int32).toNatClampNeg (-1 : Int32)) (1 : Int32).toNatClampNeg (-1 : Int32)) (2 : Int32).toNatClampNeg (-1 : Int32)) (3 : Int32).toNatClampNeg (-1 : Int32)))), ((qf_15 18), .inl (cI, 4, .inl (fun _ => 0))), ((qf_15 19), .inl (cJ, 160, .inr (.inl (fun _ => 0)))), ((qf_15 20), .inr (3, [.ref (qf_15 21), .ref (qf_15 22), .ref (qf_15 23)])), ((qf_15 21), .inl (cI, 4, .inl (upd (upd (upd (upd (fun _ => 0) (0 : Int32).toNatClampNeg (-1 : Int32)) (1 : Int32).toNatClampNeg (-1 : Int32)) (2 : Int32).toNatClampNeg (-1 : Int32)) (3 : Int32).toNatClampNeg (-1 : Int32)))), ((qf_15 22), .inl (cI, 4, .inl (upd (upd (upd (upd (fun _ => 0) (0 : Int32).toNatClampNeg (-1 : Int32)) (1 : Int32).toNatClampNeg (-1 : Int32)) (2 : Int32).toNatClampNeg (-1 : Int32)) (3 : Int32).toNatClampNeg (-1 : Int32)))), ((qf_15 23), .inl (cI, 4, .inl (fun _ => 0))), ((qf_15 24), .inr (5, [.ref (qf_15 25), .int (0 : Int32), .int (0 : Int32), .int (0 : Int32), .int (0 : Int32), .int (0 : Int32)])), ((qf_15 25), .inl (cI, 30, .inl (fun _ => 0))), ((qf_15 26), .inl (cI, 10, .inl (fun _ => 0))), ((qf_15 27), .inl (cI, 100, .inl (fun _ => 0))), (q_16, .inr (7, [.null, .null, .null, .int (0 : Int32), .int (0 : Int32), .null, .int (0 : Int32), .null, .int (0 : Int32), .int (0 : Int32), .int (0 : Int32), .int (0 : Int32), .long (0 : Int64), .int (0 : Int32), .int (0 : Int32), .int (0 : Int32), .int (0 : Int32), .null, .null, .null, .null, .null, .null, .null, .int (0 : Int32), .int (0 : Int32), .null, .null, .null, .null, .null, .null, .int (0 : Int32), .int (0 : Int32), .int (0 : Int32), .null, .int (0 : Int32), .int (0 : Int32), .int (0 : Int32), .null, .int (0 : Int32), .null]))] := hD
  refine lv_dup hx hb dL_law_11 rfl ?_
  obtain ⟨o_17, hq_18, hF⟩ := bd1_e hF
  refine xrc (wr := [(q_1, .inr (6, [.ref (qf_15 0), .ref (qf_15 4), .ref (qf_15 8), .ref (qf_15 12), .ref (qf_15 14), .ref (qf_15 16), .ref (qf_15 20), .ref (qf_15 24), .ref (qf_15 26), .ref (qf_15 27), .int (0 : Int32), .int (1 : Int32), .int (1 : Int32)])), ((qf_15 0), .inr (0, [.ref (qf_15 1), .ref (qf_15 2), .ref (qf_15 3), .int o_2, .int o_3])), ((qf_15 1), .inl (cI, 24, .inl o_4)), ((qf_15 2), .inl (cI, 24, .inl o_5)), ((qf_15 3), .inl (cI, 6, .inl (fun _ => 0))), ((qf_15 4), .inr (0, [.ref (qf_15 5), .ref (qf_15 6), .ref (qf_15 7), .int o_6, .int o_7])), ((qf_15 5), .inl (cI, 24, .inl o_8)), ((qf_15 6), .inl (cI, 24, .inl o_9)), ((qf_15 7), .inl (cI, 6, .inl (fun _ => 0))), ((qf_15 8), .inr (0, [.ref (qf_15 9), .ref (qf_15 10), .ref (qf_15 11), .int o_10, .int o_11])), ((qf_15 9), .inl (cI, 24, .inl o_12)), ((qf_15 10), .inl (cI, 24, .inl o_13)), ((qf_15 11), .inl (cI, 6, .inl (fun _ => 0))), ((qf_15 12), .inr (4, [.ref (qf_15 13), .int (0 : Int32), .int (0 : Int32), .int (-1 : Int32)])), ((qf_15 13), .inl (cB, 200, .inl (fun _ => 0))), ((qf_15 14), .inr (1, [.ref (qf_15 15), .int (0 : Int32)])), ((qf_15 15), .inl (cI, 72, .inl (fun _ => 0))), ((qf_15 16), .inr (2, [.ref (qf_15 17), .ref (qf_15 18), .ref (qf_15 19)])), ((qf_15 17), .inl (cI, 4, .inl (upd (upd (upd (upd (fun _ => 0) (0 : Int32).toNatClampNeg (-1 : Int32)) (1 : Int32).toNatClampNeg (-1 : Int32)) (2 : Int32).toNatClampNeg (-1 : Int32)) (3 : Int32).toNatClampNeg (-1 : Int32)))), ((qf_15 18), .inl (cI, 4, .inl (fun _ => 0))), ((qf_15 19), .inl (cJ, 160, .inr (.inl (fun _ => 0)))), ((qf_15 20), .inr (3, [.ref (qf_15 21), .ref (qf_15 22), .ref (qf_15 23)])), ((qf_15 21), .inl (cI, 4, .inl (upd (upd (upd (upd (fun _ => 0) (0 : Int32).toNatClampNeg (-1 : Int32)) (1 : Int32).toNatClampNeg (-1 : Int32)) (2 : Int32).toNatClampNeg (-1 : Int32)) (3 : Int32).toNatClampNeg (-1 : Int32)))), ((qf_15 22), .inl (cI, 4, .inl (upd (upd (upd (upd (fun _ => 0) (0 : Int32).toNatClampNeg (-1 : Int32)) (1 : Int32).toNatClampNeg (-1 : Int32)) (2 : Int32).toNatClampNeg (-1 : Int32)) (3 : Int32).toNatClampNeg (-1 : Int32)))), ((qf_15 23), .inl (cI, 4, .inl (fun _ => 0))), ((qf_15 24), .inr (5, [.ref (qf_15 25), .int (0 : Int32), .int (0 : Int32), .int (0 : Int32), .int (0 : Int32), .int (0 : Int32)])), ((qf_15 25), .inl (cI, 30, .inl (fun _ => 0))), ((qf_15 26), .inl (cI, 10, .inl (fun _ => 0))), ((qf_15 27), .inl (cI, 100, .inl (fun _ => 0)))]) (xrunI (As := []) (rest := [.ref q_16]) (c_X7_init l D cI cB cJ q_16 _ o_17 hq_18) hfix xw_684 yi_X7_init ⟨rfl, rfl⟩ ⟨(Nat.le_of_ble_eq_true rfl), (Nat.le_of_ble_eq_true rfl)⟩ xKk_K (fun U hU hW => xK.warm hW hK) hP hD [29] rfl rfl rfl hl.1 rfl (Nat.le_of_ble_eq_true rfl) dL_law_12 ⟨(Nat.le_of_ble_eq_true rfl), (Nat.le_of_ble_eq_true rfl)⟩) hP hD hS hA [29] [0, 1, 2, 3, 4, 5, 6, 7, 8, 9, 10, 11, 12, 13, 14, 15, 16, 17, 18, 19, 20, 21, 22, 23, 24, 25, 26, 27, 28] rfl rfl (by decide) (by decide) (fun qf_19 H locs hP hD hS => ?_)
  have hP : va_P D vwCl [(q_1, .inr (6, [.ref (qf_15 0), .ref (qf_15 4), .ref (qf_15 8), .ref (qf_15 12), .ref (qf_15 14), .ref (qf_15 16), .ref (qf_15 20), .ref (qf_15 24), .ref (qf_15 26), .ref (qf_15 27), .int (0 : Int32), .int (1 : Int32), .int (1 : Int32)])), ((qf_15 0), .inr (0, [.ref (qf_15 1), .ref (qf_15 2), .ref (qf_15 3), .int o_2, .int o_3])), ((qf_15 1), .inl (cI, 24, .inl o_4)), ((qf_15 2), .inl (cI, 24, .inl o_5)), ((qf_15 3), .inl (cI, 6, .inl (fun _ => 0))), ((qf_15 4), .inr (0, [.ref (qf_15 5), .ref (qf_15 6), .ref (qf_15 7), .int o_6, .int o_7])), ((qf_15 5), .inl (cI, 24, .inl o_8)), ((qf_15 6), .inl (cI, 24, .inl o_9)), ((qf_15 7), .inl (cI, 6, .inl (fun _ => 0))), ((qf_15 8), .inr (0, [.ref (qf_15 9), .ref (qf_15 10), .ref (qf_15 11), .int o_10, .int o_11])), ((qf_15 9), .inl (cI, 24, .inl o_12)), ((qf_15 10), .inl (cI, 24, .inl o_13)), ((qf_15 11), .inl (cI, 6, .inl (fun _ => 0))), ((qf_15 12), .inr (4, [.ref (qf_15 13), .int (0 : Int32), .int (0 : Int32), .int (-1 : Int32)])), ((qf_15 13), .inl (cB, 200, .inl (fun _ => 0))), ((qf_15 14), .inr (1, [.ref (qf_15 15), .int (0 : Int32)])), ((qf_15 15), .inl (cI, 72, .inl (fun _ => 0))), ((qf_15 16), .inr (2, [.ref (qf_15 17), .ref (qf_15 18), .ref (qf_15 19)])), ((qf_15 17), .inl (cI, 4, .inl (upd (upd (upd (upd (fun _ => 0) (0 : Int32).toNatClampNeg (-1 : Int32)) (1 : Int32).toNatClampNeg (-1 : Int32)) (2 : Int32).toNatClampNeg (-1 : Int32)) (3 : Int32).toNatClampNeg (-1 : Int32)))), ((qf_15 18), .inl (cI, 4, .inl (fun _ => 0))), ((qf_15 19), .inl (cJ, 160, .inr (.inl (fun _ => 0)))), ((qf_15 20), .inr (3, [.ref (qf_15 21), .ref (qf_15 22), .ref (qf_15 23)])), ((qf_15 21), .inl (cI, 4, .inl (upd (upd (upd (upd (fun _ => 0) (0 : Int32).toNatClampNeg (-1 : Int32)) (1 : Int32).toNatClampNeg (-1 : Int32)) (2 : Int32).toNatClampNeg (-1 : Int32)) (3 : Int32).toNatClampNeg (-1 : Int32)))), ((qf_15 22), .inl (cI, 4, .inl (upd (upd (upd (upd (fun _ => 0) (0 : Int32).toNatClampNeg (-1 : Int32)) (1 : Int32).toNatClampNeg (-1 : Int32)) (2 : Int32).toNatClampNeg (-1 : Int32)) (3 : Int32).toNatClampNeg (-1 : Int32)))), ((qf_15 23), .inl (cI, 4, .inl (fun _ => 0))), ((qf_15 24), .inr (5, [.ref (qf_15 25), .int (0 : Int32), .int (0 : Int32), .int (0 : Int32), .int (0 : Int32), .int (0 : Int32)])), ((qf_15 25), .inl (cI, 30, .inl (fun _ => 0))), ((qf_15 26), .inl (cI, 10, .inl (fun _ => 0))), ((qf_15 27), .inl (cI, 100, .inl (fun _ => 0))), (q_16, .inr (7, [.ref (qf_19 0), .ref (qf_19 1), .ref (qf_19 2), .int (10 : Int32), .int (0 : Int32), .ref (qf_19 3), .int (1 : Int32), .ref (qf_19 4), .int (0 : Int32), .int (0 : Int32), .int (0 : Int32), .int (0 : Int32), .long (0 : Int64), .int (0 : Int32), .int (0 : Int32), .int (0 : Int32), .int (0 : Int32), .ref (qf_19 5), .ref (qf_19 6), .ref (qf_19 7), .ref (qf_19 8), .ref (qf_19 9), .ref (qf_19 10), .ref (qf_19 11), .int (0 : Int32), .int (0 : Int32), .ref (qf_19 12), .ref (qf_19 13), .ref (qf_19 14), .ref (qf_19 15), .ref (qf_19 16), .ref (qf_19 17), .int (0 : Int32), .int (0 : Int32), .int (0 : Int32), .ref (qf_19 18), .int (0 : Int32), .int (0 : Int32), .int (0 : Int32), .ref (qf_19 19), .int (0 : Int32), .ref (qf_19 20)])), ((qf_19 0), .inl (cI, 100, .inl o_17)), ((qf_19 1), .inl (cI, 100, .inl (fun _ => 0))), ((qf_19 2), .inl (cI, 100, .inl (fun _ => 0))), ((qf_19 3), .inl (cI, 24, .inl (fun _ => 0))), ((qf_19 4), .inl (cI, 200, .inl (fun _ => 0))), ((qf_19 5), .inl (cI, 24, .inl (fun _ => 0))), ((qf_19 6), .inl (cI, 24, .inl (fun _ => 0))), ((qf_19 7), .inl (cI, 24, .inl (fun _ => 0))), ((qf_19 8), .inl (cI, 10, .inl (fun _ => 0))), ((qf_19 9), .inl (cI, 600, .inl (fun _ => 0))), ((qf_19 10), .inl (cI, 72, .inl (fun _ => 0))), ((qf_19 11), .inl (cI, 72, .inl (fun _ => 0))), ((qf_19 12), .inl (cI, 4, .inl (upd (upd (upd (upd (fun _ => 0) (0 : Int32).toNatClampNeg (-1 : Int32)) (1 : Int32).toNatClampNeg (-1 : Int32)) (2 : Int32).toNatClampNeg (-1 : Int32)) (3 : Int32).toNatClampNeg (-1 : Int32)))), ((qf_19 13), .inl (cI, 4, .inl (fun _ => 0))), ((qf_19 14), .inl (cJ, 160, .inr (.inl (fun _ => 0)))), ((qf_19 15), .inl (cI, 4, .inl (upd (upd (upd (upd (fun _ => 0) (0 : Int32).toNatClampNeg (-1 : Int32)) (1 : Int32).toNatClampNeg (-1 : Int32)) (2 : Int32).toNatClampNeg (-1 : Int32)) (3 : Int32).toNatClampNeg (-1 : Int32)))), ((qf_19 16), .inl (cI, 4, .inl (fun _ => 0))), ((qf_19 17), .inl (cI, 4, .inl (fun _ => 0))), ((qf_19 18), .inl (cI, 30, .inl (fun _ => 0))), ((qf_19 19), .inl (cI, 80, .inl (fun _ => 0))), ((qf_19 20), .inl (cI, 3, .inl (fun _ => 0)))] H := hP
  have hD : va_D (fun q : Nat => s.heap.size ≤ q) [(q_1, .inr (6, [.ref (qf_15 0), .ref (qf_15 4), .ref (qf_15 8), .ref (qf_15 12), .ref (qf_15 14), .ref (qf_15 16), .ref (qf_15 20), .ref (qf_15 24), .ref (qf_15 26), .ref (qf_15 27), .int (0 : Int32), .int (1 : Int32), .int (1 : Int32)])), ((qf_15 0), .inr (0, [.ref (qf_15 1), .ref (qf_15 2), .ref (qf_15 3), .int o_2, .int o_3])), ((qf_15 1), .inl (cI, 24, .inl o_4)), ((qf_15 2), .inl (cI, 24, .inl o_5)), ((qf_15 3), .inl (cI, 6, .inl (fun _ => 0))), ((qf_15 4), .inr (0, [.ref (qf_15 5), .ref (qf_15 6), .ref (qf_15 7), .int o_6, .int o_7])), ((qf_15 5), .inl (cI, 24, .inl o_8)), ((qf_15 6), .inl (cI, 24, .inl o_9)), ((qf_15 7), .inl (cI, 6, .inl (fun _ => 0))), ((qf_15 8), .inr (0, [.ref (qf_15 9), .ref (qf_15 10), .ref (qf_15 11), .int o_10, .int o_11])), ((qf_15 9), .inl (cI, 24, .inl o_12)), ((qf_15 10), .inl (cI, 24, .inl o_13)), ((qf_15 11), .inl (cI, 6, .inl (fun _ => 0))), ((qf_15 12), .inr (4, [.ref (qf_15 13), .int (0 : Int32), .int (0 : Int32), .int (-1 : Int32)])), ((qf_15 13), .inl (cB, 200, .inl (fun _ => 0))), ((qf_15 14), .inr (1, [.ref (qf_15 15), .int (0 : Int32)])), ((qf_15 15), .inl (cI, 72, .inl (fun _ => 0))), ((qf_15 16), .inr (2, [.ref (qf_15 17), .ref (qf_15 18), .ref (qf_15 19)])), ((qf_15 17), .inl (cI, 4, .inl (upd (upd (upd (upd (fun _ => 0) (0 : Int32).toNatClampNeg (-1 : Int32)) (1 : Int32).toNatClampNeg (-1 : Int32)) (2 : Int32).toNatClampNeg (-1 : Int32)) (3 : Int32).toNatClampNeg (-1 : Int32)))), ((qf_15 18), .inl (cI, 4, .inl (fun _ => 0))), ((qf_15 19), .inl (cJ, 160, .inr (.inl (fun _ => 0)))), ((qf_15 20), .inr (3, [.ref (qf_15 21), .ref (qf_15 22), .ref (qf_15 23)])), ((qf_15 21), .inl (cI, 4, .inl (upd (upd (upd (upd (fun _ => 0) (0 : Int32).toNatClampNeg (-1 : Int32)) (1 : Int32).toNatClampNeg (-1 : Int32)) (2 : Int32).toNatClampNeg (-1 : Int32)) (3 : Int32).toNatClampNeg (-1 : Int32)))), ((qf_15 22), .inl (cI, 4, .inl (upd (upd (upd (upd (fun _ => 0) (0 : Int32).toNatClampNeg (-1 : Int32)) (1 : Int32).toNatClampNeg (-1 : Int32)) (2 : Int32).toNatClampNeg (-1 : Int32)) (3 : Int32).toNatClampNeg (-1 : Int32)))), ((qf_15 23), .inl (cI, 4, .inl (fun _ => 0))), ((qf_15 24), .inr (5, [.ref (qf_15 25), .int (0 : Int32), .int (0 : Int32), .int (0 : Int32), .int (0 : Int32), .int (0 : Int32)])), ((qf_15 25), .inl (cI, 30, .inl (fun _ => 0))), ((qf_15 26), .inl (cI, 10, .inl (fun _ => 0))), ((qf_15 27), .inl (cI, 100, .inl (fun _ => 0))), (q_16, .inr (7, [.ref (qf_19 0), .ref (qf_19 1), .ref (qf_19 2), .int (10 : Int32), .int (0 : Int32), .ref (qf_19 3), .int (1 : Int32), .ref (qf_19 4), .int (0 : Int32), .int (0 : Int32), .int (0 : Int32), .int (0 : Int32), .long (0 : Int64), .int (0 : Int32), .int (0 : Int32), .int (0 : Int32), .int (0 : Int32), .ref (qf_19 5), .ref (qf_19 6), .ref (qf_19 7), .ref (qf_19 8), .ref (qf_19 9), .ref (qf_19 10), .ref (qf_19 11), .int (0 : Int32), .int (0 : Int32), .ref (qf_19 12), .ref (qf_19 13), .ref (qf_19 14), .ref (qf_19 15), .ref (qf_19 16), .ref (qf_19 17), .int (0 : Int32), .int (0 : Int32), .int (0 : Int32), .ref (qf_19 18), .int (0 : Int32), .int (0 : Int32), .int (0 : Int32), .ref (qf_19 19), .int (0 : Int32), .ref (qf_19 20)])), ((qf_19 0), .inl (cI, 100, .inl o_17)), ((qf_19 1), .inl (cI, 100, .inl (fun _ => 0))), ((qf_19 2), .inl (cI, 100, .inl (fun _ => 0))), ((qf_19 3), .inl (cI, 24, .inl (fun _ => 0))), ((qf_19 4), .inl (cI, 200, .inl (fun _ => 0))), ((qf_19 5), .inl (cI, 24, .inl (fun _ => 0))), ((qf_19 6), .inl (cI, 24, .inl (fun _ => 0))), ((qf_19 7), .inl (cI, 24, .inl (fun _ => 0))), ((qf_19 8), .inl (cI, 10, .inl (fun _ => 0))), ((qf_19 9), .inl (cI, 600, .inl (fun _ => 0))), ((qf_19 10), .inl (cI, 72, .inl (fun _ => 0))), ((qf_19 11), .inl (cI, 72, .inl (fun _ => 0))), ((qf_19 12), .inl (cI, 4, .inl (upd (upd (upd (upd (fun _ => 0) (0 : Int32).toNatClampNeg (-1 : Int32)) (1 : Int32).toNatClampNeg (-1 : Int32)) (2 : Int32).toNatClampNeg (-1 : Int32)) (3 : Int32).toNatClampNeg (-1 : Int32)))), ((qf_19 13), .inl (cI, 4, .inl (fun _ => 0))), ((qf_19 14), .inl (cJ, 160, .inr (.inl (fun _ => 0)))), ((qf_19 15), .inl (cI, 4, .inl (upd (upd (upd (upd (fun _ => 0) (0 : Int32).toNatClampNeg (-1 : Int32)) (1 : Int32).toNatClampNeg (-1 : Int32)) (2 : Int32).toNatClampNeg (-1 : Int32)) (3 : Int32).toNatClampNeg (-1 : Int32)))), ((qf_19 16), .inl (cI, 4, .inl (fun _ => 0))), ((qf_19 17), .inl (cI, 4, .inl (fun _ => 0))), ((qf_19 18), .inl (cI, 30, .inl (fun _ => 0))), ((qf_19 19), .inl (cI, 80, .inl (fun _ => 0))), ((qf_19 20), .inl (cI, 3, .inl (fun _ => 0)))] := hD
  refine lv_astore_n (lv' := [(2, .ref q_16), (1, .ref q_1), (0, .ref b)]) hx hb dL_law_15 rfl hl (by decide) rfl (fun ls hl => ?_)
  refine lv_iconst (v := (0 : Int32)) hx hb dL_law_16 (by decide) ?_
  refine lv_istore_n (lv' := [(3, .int (0 : Int32)), (2, .ref q_16), (1, .ref q_1), (0, .ref b)]) hx hb dL_law_17 rfl hl (by decide) rfl (fun ls hl => ?_)
  have hP : va_P D vwCl [(q_1, .inr (6, [.ref (qf_15 0), .ref (qf_15 4), .ref (qf_15 8), .ref (qf_15 12), .ref (qf_15 14), .ref (qf_15 16), .ref (qf_15 20), .ref (qf_15 24), .ref (qf_15 26), .ref (qf_15 27), .int (0 : Int32), .int (1 : Int32), .int (1 : Int32)])), ((qf_15 0), .inr (0, [.ref (qf_15 1), .ref (qf_15 2), .ref (qf_15 3), .int o_2, .int o_3])), ((qf_15 1), .inl (cI, 24, .inl o_4)), ((qf_15 2), .inl (cI, 24, .inl o_5)), ((qf_15 3), .inl (cI, 6, .inl (fun _ => 0))), ((qf_15 4), .inr (0, [.ref (qf_15 5), .ref (qf_15 6), .ref (qf_15 7), .int o_6, .int o_7])), ((qf_15 5), .inl (cI, 24, .inl o_8)), ((qf_15 6), .inl (cI, 24, .inl o_9)), ((qf_15 7), .inl (cI, 6, .inl (fun _ => 0))), ((qf_15 8), .inr (0, [.ref (qf_15 9), .ref (qf_15 10), .ref (qf_15 11), .int o_10, .int o_11])), ((qf_15 9), .inl (cI, 24, .inl o_12)), ((qf_15 10), .inl (cI, 24, .inl o_13)), ((qf_15 11), .inl (cI, 6, .inl (fun _ => 0))), ((qf_15 12), .inr (4, [.ref (qf_15 13), .int (0 : Int32), .int (0 : Int32), .int (-1 : Int32)])), ((qf_15 13), .inl (cB, 200, .inl (fun _ => 0))), ((qf_15 14), .inr (1, [.ref (qf_15 15), .int (0 : Int32)])), ((qf_15 15), .inl (cI, 72, .inl (fun _ => 0))), ((qf_15 16), .inr (2, [.ref (qf_15 17), .ref (qf_15 18), .ref (qf_15 19)])), ((qf_15 17), .inl (cI, 4, .inl (upd (upd (upd (upd (fun _ => 0) (0 : Int32).toNatClampNeg (-1 : Int32)) (1 : Int32).toNatClampNeg (-1 : Int32)) (2 : Int32).toNatClampNeg (-1 : Int32)) (3 : Int32).toNatClampNeg (-1 : Int32)))), ((qf_15 18), .inl (cI, 4, .inl (fun _ => 0))), ((qf_15 19), .inl (cJ, 160, .inr (.inl (fun _ => 0)))), ((qf_15 20), .inr (3, [.ref (qf_15 21), .ref (qf_15 22), .ref (qf_15 23)])), ((qf_15 21), .inl (cI, 4, .inl (upd (upd (upd (upd (fun _ => 0) (0 : Int32).toNatClampNeg (-1 : Int32)) (1 : Int32).toNatClampNeg (-1 : Int32)) (2 : Int32).toNatClampNeg (-1 : Int32)) (3 : Int32).toNatClampNeg (-1 : Int32)))), ((qf_15 22), .inl (cI, 4, .inl (upd (upd (upd (upd (fun _ => 0) (0 : Int32).toNatClampNeg (-1 : Int32)) (1 : Int32).toNatClampNeg (-1 : Int32)) (2 : Int32).toNatClampNeg (-1 : Int32)) (3 : Int32).toNatClampNeg (-1 : Int32)))), ((qf_15 23), .inl (cI, 4, .inl (fun _ => 0))), ((qf_15 24), .inr (5, [.ref (qf_15 25), .int (0 : Int32), .int (0 : Int32), .int (0 : Int32), .int (0 : Int32), .int (0 : Int32)])), ((qf_15 25), .inl (cI, 30, .inl (fun _ => 0))), ((qf_15 26), .inl (cI, 10, .inl (fun _ => 0))), ((qf_15 27), .inl (cI, 100, .inl (fun _ => 0))), (q_16, .inr (7, [.ref (qf_19 0), .ref (qf_19 1), .ref (qf_19 2), .int (10 : Int32), .int (0 : Int32), .ref (qf_19 3), .int (1 : Int32), .ref (qf_19 4), .int (0 : Int32), .int (0 : Int32), .int (0 : Int32), .int (0 : Int32), .long (0 : Int64), .int (0 : Int32), .int (0 : Int32), .int (0 : Int32), .int (0 : Int32), .ref (qf_19 5), .ref (qf_19 6), .ref (qf_19 7), .ref (qf_19 8), .ref (qf_19 9), .ref (qf_19 10), .ref (qf_19 11), .int (0 : Int32), .int (0 : Int32), .ref (qf_19 12), .ref (qf_19 13), .ref (qf_19 14), .ref (qf_19 15), .ref (qf_19 16), .ref (qf_19 17), .int (0 : Int32), .int (0 : Int32), .int (0 : Int32), .ref (qf_19 18), .int (0 : Int32), .int (0 : Int32), .int (0 : Int32), .ref (qf_19 19), .int (0 : Int32), .ref (qf_19 20)])), ((qf_19 0), .inl (cI, 100, .inl o_17)), ((qf_19 1), .inl (cI, 100, .inl (fun _ => 0))), ((qf_19 2), .inl (cI, 100, .inl (fun _ => 0))), ((qf_19 3), .inl (cI, 24, .inl (fun _ => 0))), ((qf_19 4), .inl (cI, 200, .inl (fun _ => 0))), ((qf_19 5), .inl (cI, 24, .inl (fun _ => 0))), ((qf_19 6), .inl (cI, 24, .inl (fun _ => 0))), ((qf_19 7), .inl (cI, 24, .inl (fun _ => 0))), ((qf_19 8), .inl (cI, 10, .inl (fun _ => 0))), ((qf_19 9), .inl (cI, 600, .inl (fun _ => 0))), ((qf_19 10), .inl (cI, 72, .inl (fun _ => 0))), ((qf_19 11), .inl (cI, 72, .inl (fun _ => 0))), ((qf_19 12), .inl (cI, 4, .inl (upd (upd (upd (upd (fun _ => 0) (0 : Int32).toNatClampNeg (-1 : Int32)) (1 : Int32).toNatClampNeg (-1 : Int32)) (2 : Int32).toNatClampNeg (-1 : Int32)) (3 : Int32).toNatClampNeg (-1 : Int32)))), ((qf_19 13), .inl (cI, 4, .inl (fun _ => 0))), ((qf_19 14), .inl (cJ, 160, .inr (.inl (fun _ => 0)))), ((qf_19 15), .inl (cI, 4, .inl (upd (upd (upd (upd (fun _ => 0) (0 : Int32).toNatClampNeg (-1 : Int32)) (1 : Int32).toNatClampNeg (-1 : Int32)) (2 : Int32).toNatClampNeg (-1 : Int32)) (3 : Int32).toNatClampNeg (-1 : Int32)))), ((qf_19 16), .inl (cI, 4, .inl (fun _ => 0))), ((qf_19 17), .inl (cI, 4, .inl (fun _ => 0))), ((qf_19 18), .inl (cI, 30, .inl (fun _ => 0))), ((qf_19 19), .inl (cI, 80, .inl (fun _ => 0))), ((qf_19 20), .inl (cI, 3, .inl (fun _ => 0)))] H := hP.sub [0, 1, 2, 3, 4, 5, 6, 7, 8, 9, 10, 11, 12, 13, 14, 15, 16, 17, 18, 19, 20, 21, 22, 23, 24, 25, 26, 27, 28, 29, 30, 31, 32, 33, 34, 35, 36, 37, 38, 39, 40, 41, 42, 43, 44, 45, 46, 47, 48, 49, 50] rfl
  have hD : va_D (fun q : Nat => s.heap.size ≤ q) [(q_1, .inr (6, [.ref (qf_15 0), .ref (qf_15 4), .ref (qf_15 8), .ref (qf_15 12), .ref (qf_15 14), .ref (qf_15 16), .ref (qf_15 20), .ref (qf_15 24), .ref (qf_15 26), .ref (qf_15 27), .int (0 : Int32), .int (1 : Int32), .int (1 : Int32)])), ((qf_15 0), .inr (0, [.ref (qf_15 1), .ref (qf_15 2), .ref (qf_15 3), .int o_2, .int o_3])), ((qf_15 1), .inl (cI, 24, .inl o_4)), ((qf_15 2), .inl (cI, 24, .inl o_5)), ((qf_15 3), .inl (cI, 6, .inl (fun _ => 0))), ((qf_15 4), .inr (0, [.ref (qf_15 5), .ref (qf_15 6), .ref (qf_15 7), .int o_6, .int o_7])), ((qf_15 5), .inl (cI, 24, .inl o_8)), ((qf_15 6), .inl (cI, 24, .inl o_9)), ((qf_15 7), .inl (cI, 6, .inl (fun _ => 0))), ((qf_15 8), .inr (0, [.ref (qf_15 9), .ref (qf_15 10), .ref (qf_15 11), .int o_10, .int o_11])), ((qf_15 9), .inl (cI, 24, .inl o_12)), ((qf_15 10), .inl (cI, 24, .inl o_13)), ((qf_15 11), .inl (cI, 6, .inl (fun _ => 0))), ((qf_15 12), .inr (4, [.ref (qf_15 13), .int (0 : Int32), .int (0 : Int32), .int (-1 : Int32)])), ((qf_15 13), .inl (cB, 200, .inl (fun _ => 0))), ((qf_15 14), .inr (1, [.ref (qf_15 15), .int (0 : Int32)])), ((qf_15 15), .inl (cI, 72, .inl (fun _ => 0))), ((qf_15 16), .inr (2, [.ref (qf_15 17), .ref (qf_15 18), .ref (qf_15 19)])), ((qf_15 17), .inl (cI, 4, .inl (upd (upd (upd (upd (fun _ => 0) (0 : Int32).toNatClampNeg (-1 : Int32)) (1 : Int32).toNatClampNeg (-1 : Int32)) (2 : Int32).toNatClampNeg (-1 : Int32)) (3 : Int32).toNatClampNeg (-1 : Int32)))), ((qf_15 18), .inl (cI, 4, .inl (fun _ => 0))), ((qf_15 19), .inl (cJ, 160, .inr (.inl (fun _ => 0)))), ((qf_15 20), .inr (3, [.ref (qf_15 21), .ref (qf_15 22), .ref (qf_15 23)])), ((qf_15 21), .inl (cI, 4, .inl (upd (upd (upd (upd (fun _ => 0) (0 : Int32).toNatClampNeg (-1 : Int32)) (1 : Int32).toNatClampNeg (-1 : Int32)) (2 : Int32).toNatClampNeg (-1 : Int32)) (3 : Int32).toNatClampNeg (-1 : Int32)))), ((qf_15 22), .inl (cI, 4, .inl (upd (upd (upd (upd (fun _ => 0) (0 : Int32).toNatClampNeg (-1 : Int32)) (1 : Int32).toNatClampNeg (-1 : Int32)) (2 : Int32).toNatClampNeg (-1 : Int32)) (3 : Int32).toNatClampNeg (-1 : Int32)))), ((qf_15 23), .inl (cI, 4, .inl (fun _ => 0))), ((qf_15 24), .inr (5, [.ref (qf_15 25), .int (0 : Int32), .int (0 : Int32), .int (0 : Int32), .int (0 : Int32), .int (0 : Int32)])), ((qf_15 25), .inl (cI, 30, .inl (fun _ => 0))), ((qf_15 26), .inl (cI, 10, .inl (fun _ => 0))), ((qf_15 27), .inl (cI, 100, .inl (fun _ => 0))), (q_16, .inr (7, [.ref (qf_19 0), .ref (qf_19 1), .ref (qf_19 2), .int (10 : Int32), .int (0 : Int32), .ref (qf_19 3), .int (1 : Int32), .ref (qf_19 4), .int (0 : Int32), .int (0 : Int32), .int (0 : Int32), .int (0 : Int32), .long (0 : Int64), .int (0 : Int32), .int (0 : Int32), .int (0 : Int32), .int (0 : Int32), .ref (qf_19 5), .ref (qf_19 6), .ref (qf_19 7), .ref (qf_19 8), .ref (qf_19 9), .ref (qf_19 10), .ref (qf_19 11), .int (0 : Int32), .int (0 : Int32), .ref (qf_19 12), .ref (qf_19 13), .ref (qf_19 14), .ref (qf_19 15), .ref (qf_19 16), .ref (qf_19 17), .int (0 : Int32), .int (0 : Int32), .int (0 : Int32), .ref (qf_19 18), .int (0 : Int32), .int (0 : Int32), .int (0 : Int32), .ref (qf_19 19), .int (0 : Int32), .ref (qf_19 20)])), ((qf_19 0), .inl (cI, 100, .inl o_17)), ((qf_19 1), .inl (cI, 100, .inl (fun _ => 0))), ((qf_19 2), .inl (cI, 100, .inl (fun _ => 0))), ((qf_19 3), .inl (cI, 24, .inl (fun _ => 0))), ((qf_19 4), .inl (cI, 200, .inl (fun _ => 0))), ((qf_19 5), .inl (cI, 24, .inl (fun _ => 0))), ((qf_19 6), .inl (cI, 24, .inl (fun _ => 0))), ((qf_19 7), .inl (cI, 24, .inl (fun _ => 0))), ((qf_19 8), .inl (cI, 10, .inl (fun _ => 0))), ((qf_19 9), .inl (cI, 600, .inl (fun _ => 0))), ((qf_19 10), .inl (cI, 72, .inl (fun _ => 0))), ((qf_19 11), .inl (cI, 72, .inl (fun _ => 0))), ((qf_19 12), .inl (cI, 4, .inl (upd (upd (upd (upd (fun _ => 0) (0 : Int32).toNatClampNeg (-1 : Int32)) (1 : Int32).toNatClampNeg (-1 : Int32)) (2 : Int32).toNatClampNeg (-1 : Int32)) (3 : Int32).toNatClampNeg (-1 : Int32)))), ((qf_19 13), .inl (cI, 4, .inl (fun _ => 0))), ((qf_19 14), .inl (cJ, 160, .inr (.inl (fun _ => 0)))), ((qf_19 15), .inl (cI, 4, .inl (upd (upd (upd (upd (fun _ => 0) (0 : Int32).toNatClampNeg (-1 : Int32)) (1 : Int32).toNatClampNeg (-1 : Int32)) (2 : Int32).toNatClampNeg (-1 : Int32)) (3 : Int32).toNatClampNeg (-1 : Int32)))), ((qf_19 16), .inl (cI, 4, .inl (fun _ => 0))), ((qf_19 17), .inl (cI, 4, .inl (fun _ => 0))), ((qf_19 18), .inl (cI, 30, .inl (fun _ => 0))), ((qf_19 19), .inl (cI, 80, .inl (fun _ => 0))), ((qf_19 20), .inl (cI, 3, .inl (fun _ => 0)))] := hD.sub [0, 1, 2, 3, 4, 5, 6, 7, 8, 9, 10, 11, 12, 13, 14, 15, 16, 17, 18, 19, 20, 21, 22, 23, 24, 25, 26, 27, 28, 29, 30, 31, 32, 33, 34, 35, 36, 37, 38, 39, 40, 41, 42, 43, 44, 45, 46, 47, 48, 49, 50] (by decide) rfl
  exact law_loop l C0 hvf hK hT q_1 (qf_15 0) (qf_15 1) (qf_15 2) (qf_15 3) (qf_15 4) (qf_15 5) (qf_15 6) (qf_15 7) (qf_15 8) (qf_15 9) (qf_15 10) (qf_15 11) (qf_15 12) (qf_15 13) (qf_15 14) (qf_15 15) (qf_15 16) (qf_15 17) (qf_15 18) (qf_15 19) (qf_15 20) (qf_15 21) (qf_15 22) (qf_15 23) (qf_15 24) (qf_15 25) (qf_15 26) (qf_15 27) q_16 (qf_19 0) (qf_19 1) (qf_19 2) (qf_19 3) (qf_19 4) (qf_19 5) (qf_19 6) (qf_19 7) (qf_19 8) (qf_19 9) (qf_19 10) (qf_19 11) (qf_19 12) (qf_19 13) (qf_19 14) (qf_19 15) (qf_19 16) (qf_19 17) (qf_19 18) (qf_19 19) (qf_19 20) 1000 (0 : Int32) (0 : Int32) (1 : Int32) (1 : Int32) o_2 o_3 o_4 o_5 (fun _ => 0) o_6 o_7 o_8 o_9 (fun _ => 0) o_10 o_11 o_12 o_13 (fun _ => 0) (0 : Int32) (0 : Int32) (-1 : Int32) (fun _ => 0) (0 : Int32) (fun _ => 0) (upd (upd (upd (upd (fun _ => 0) (0 : Int32).toNatClampNeg (-1 : Int32)) (1 : Int32).toNatClampNeg (-1 : Int32)) (2 : Int32).toNatClampNeg (-1 : Int32)) (3 : Int32).toNatClampNeg (-1 : Int32)) (fun _ => 0) (fun _ => 0) (upd (upd (upd (upd (fun _ => 0) (0 : Int32).toNatClampNeg (-1 : Int32)) (1 : Int32).toNatClampNeg (-1 : Int32)) (2 : Int32).toNatClampNeg (-1 : Int32)) (3 : Int32).toNatClampNeg (-1 : Int32)) (upd (upd (upd (upd (fun _ => 0) (0 : Int32).toNatClampNeg (-1 : Int32)) (1 : Int32).toNatClampNeg (-1 : Int32)) (2 : Int32).toNatClampNeg (-1 : Int32)) (3 : Int32).toNatClampNeg (-1 : Int32)) (fun _ => 0) (0 : Int32) (0 : Int32) (0 : Int32) (0 : Int32) (0 : Int32) (fun _ => 0) (fun _ => 0) (fun _ => 0) (10 : Int32) (0 : Int32) (1 : Int32) (0 : Int32) (0 : Int32) (0 : Int32) (0 : Int32) (0 : Int64) (0 : Int32) (0 : Int32) (0 : Int32) (0 : Int32) (0 : Int32) (0 : Int32) (0 : Int32) (0 : Int32) (0 : Int32) (0 : Int32) (0 : Int32) (0 : Int32) (0 : Int32) o_17 (fun _ => 0) (fun _ => 0) (fun _ => 0) (fun _ => 0) (fun _ => 0) (fun _ => 0) (fun _ => 0) (fun _ => 0) (fun _ => 0) (fun _ => 0) (fun _ => 0) (upd (upd (upd (upd (fun _ => 0) (0 : Int32).toNatClampNeg (-1 : Int32)) (1 : Int32).toNatClampNeg (-1 : Int32)) (2 : Int32).toNatClampNeg (-1 : Int32)) (3 : Int32).toNatClampNeg (-1 : Int32)) (fun _ => 0) (fun _ => 0) (upd (upd (upd (upd (fun _ => 0) (0 : Int32).toNatClampNeg (-1 : Int32)) (1 : Int32).toNatClampNeg (-1 : Int32)) (2 : Int32).toNatClampNeg (-1 : Int32)) (3 : Int32).toNatClampNeg (-1 : Int32)) (fun _ => 0) (fun _ => 0) (fun _ => 0) (fun _ => 0) (fun _ => 0) hF H _ ls hP hD hS (lv_sub hl [3, 2, 1, 0] rfl)
