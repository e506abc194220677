/-! ===== what stands from the start and is never written: tables, texts, statics ===== -/
def tabO : Nat → Int32 := fun j => ([-1, 0, 1, 0, 1, 2] : List Int32).getD j 0
def tabB : Nat → Int32 := fun j => ([10, 11, 12, 13, 10, 20, 12, 13, 40, 41, 12, 13, 30, 11, 12, 31, 51, 20, 50, 13, 40, 41, 61, 60] : List Int32).getD j 0
def txS : List (Nat × String × List Int32) := [(72, "rule", [114, 117, 108, 101]), (74, "line", [108, 105, 110, 101]), (76, "back", [98, 97, 99, 107]), (78, "table", [116, 97, 98, 108, 101]), (80, "marked", [109, 97, 114, 107, 101, 100]), (82, "turned", [116, 117, 114, 110, 101, 100]), (45, "villages", [118, 105, 108, 108, 97, 103, 101, 115]), (57, "year", [121, 101, 97, 114]), (94, "at", [97, 116]), (100, "mark", [109, 97, 114, 107]), (63, "lost", [108, 111, 115, 116])]
def lenS : List Nat := [4, 4, 4, 5, 6, 6, 8, 4, 2, 4, 4]
def bytS : List (List Int32) := [[114, 117, 108, 101], [108, 105, 110, 101], [98, 97, 99, 107], [116, 97, 98, 108, 101], [109, 97, 114, 107, 101, 100], [116, 117, 114, 110, 101, 100], [118, 105, 108, 108, 97, 103, 101, 115], [121, 101, 97, 114], [97, 116], [109, 97, 114, 107], [108, 111, 115, 116]]
def xT (tO tB : Nat) (adK adV : Nat → Nat) (vf : Value) (A : Nat → Prop) (U : State) : Prop :=
  va_Z "FairNext" "OVER" "[I" (.ref tO) A U U.heap ∧ va_T .int tO 6 (fun j => .int (tabO j)) A U U.heap ∧ va_Z "FairNext" "BODY" "[I" (.ref tB) A U U.heap ∧ va_T .int tB 24 (fun j => .int (tabB j)) A U U.heap ∧
  vk_S 11 lenS bytS adK adV A U U.heap ∧ va_Z "java/lang/String" "COMPACT_STRINGS" "Z" (.int 1) A U U.heap ∧ va_Z "jdk/internal/util/Preconditions" "SIOOBE_FORMATTER" "Ljava/util/function/BiFunction;" vf A U U.heap ∧
  (∀ i, i < 11 → vk_R "FairNext$Tape" (txS.getD i (0, "", [])).1 (txS.getD i (0, "", [])).2.1 (adK i) U)
def xKT (D : va_G) (cI cB cJ : ClassId) (tO tB : Nat) (adK adV : Nat → Nat) (vf : Value) (wc : va_W) (U : State) : Prop := xK D cI cB cJ U ∧ xT tO tB adK adV vf (va_A wc U.heap.size) U
theorem xKTk {D : va_G} {cI cB cJ : ClassId} {tO tB : Nat} {adK adV : Nat → Nat} {vf : Value} {wc : va_W} : xKk (xKT D cI cB cJ tO tB adK adV vf wc) := fun U g mk a h => by
  have al : U.vm.Alike (U.calling g mk a).vm := Vm.Alike.refl U.vm
  obtain ⟨h0, h1, h2, h3, h4, h5, h6, h7, h8⟩ := h
  exact ⟨h0.calling, va_Z.moved (u := U) (U := U.calling g mk a) al h1, va_T.moved (u := U) (U := U.calling g mk a) al h2, va_Z.moved (u := U) (U := U.calling g mk a) al h3, va_T.moved (u := U) (U := U.calling g mk a) al h4, vk_S.moved (u := U) (U := U.calling g mk a) al h5, va_Z.moved (u := U) (U := U.calling g mk a) al h6, va_Z.moved (u := U) (U := U.calling g mk a) al h7, fun i hi => vk_R.same (u := U) (U := U.calling g mk a) rfl (h8 i hi)⟩
theorem xKT.at {D : va_G} {cI cB cJ : ClassId} {tO tB : Nat} {adK adV : Nat → Nat} {vf : Value} {wc : va_W} {A : Nat → Prop} {s : State} {H : Heap} {locs : List Loc} (hK : xK D cI cB cJ s) (hT : xT tO tB adK adV vf A s) (hS : va_S A s.heap H locs) (hF : ∀ q, va_A wc H.size q → A q) : ∀ U : State, U.heap = H → s.WarmedH U.vm → xKT D cI cB cJ tO tB adK adV vf wc U := by
  intro U hU hW
  subst hU
  obtain ⟨h1, h2, h3, h4, h5, h6, h7, h8⟩ := hT
  have al := hW.alike
  exact ⟨xK.warm hW hK, va_Z.moved al ((h1.kept hS.2.1).narrow hF), va_T.moved al ((h2.kept hS.2.1).narrow hF), va_Z.moved al ((h3.kept hS.2.1).narrow hF), va_T.moved al ((h4.kept hS.2.1).narrow hF), vk_S.moved al ((h5.kept hS.2.1).narrow hF), va_Z.moved al ((h6.kept hS.2.1).narrow hF), va_Z.moved al ((h7.kept hS.2.1).narrow hF), fun i hi => vk_R.warm hW (h8 i hi)⟩
theorem xT.tb {tO tB : Nat} {adK adV : Nat → Nat} {vf : Value} {A : Nat → Prop} {s : State} (h : xT tO tB adK adV vf A s) {i : Nat} (hi : i < 11) : va_T .byte (adV i) (lenS.getD i 0) (fun j => .int ((bytS.getD i []).getD j 0)) A s s.heap := (h.2.2.2.2.1.1 i hi).2.2.2
def xMn (ty : FieldType) (l : Launch) (y : MethodName) (ws : List Cond) (rm : Room) (K : State → Prop) (D : va_G) (sz : Nat) (av : List Value) (wc w1 : va_W) (r : Int32) : Prop := Met l y ws rm (va_Pc av (xPre K D sz wc)) (va_Qi (fun (r' : Int32) (_ : Unit) => r' = r ∧ narrow ty (.int r) = .int r) (fun _ t => va_P D vwCl w1 t.heap) (va_A wc sz)) 0 0 (va_A wc sz)
theorem xMi.mkT {l : Launch} {y : MethodName} {rm : Room} {D : va_G} {cI cB cJ : ClassId} {tO tB : Nat} {adK adV : Nat → Nat} {vf : Value} {sz : Nat} {av : List Value} {wc w1 : va_W} {r : Int32} {cc : ByteArray} {maxL : Nat} {own : String} (hy : plainName y.cls = true) (ho : y.cls = own) (hav : (lg_sl av).length ≤ maxL)
    (body : ∀ (p : Program) (e : Env) (s : State) (m : MethodId) (args : Array Value) (below : List Frame) (meth : Method) (c : Code) (A : Nat → Prop) (Q : State → Prop) (ls : Array Slot) (H : Heap), CallFix p m c cc maxL s args (.code y cc maxL (some .int) :: xU) own → xK D cI cB cJ s → xT tO tB adK adV vf A s → va_P D vwCl wc H → va_D A wc → (∀ q : Nat, s.heap.size ≤ q → A q) → va_S A s.heap H [] → lv_has ls maxL (lv_args 0 av) →
      (∀ (pc : Nat) (H : Heap) (locs : List Loc) (ls : Array Slot) (r' : Int32), decode cc pc = .ok (.ireturn, 1) → va_P D vwCl w1 H → va_S A s.heap H locs → r' = r → W p l e rm s m args below meth c H locs 0 0 Q (F0 m pc ls [.int r'])) →
      W p l e rm s m args below meth c H [] 0 0 Q (F0 m 0 ls [])) : xMi l y (.code y cc maxL (some .int) :: xU) rm (xKT D cI cB cJ tO tB adK adV vf wc) D sz av wc w1 r := by
  refine Met.ofW (cc := cc) (maxL := maxL) (ret := some .int) hy rfl ?_
  intro p e s m args below meth c s₁ B hml hv
  obtain ⟨rfl, hsz, hP, hK, hD0⟩ := hv
  have hts := atoms_spec (ws := .code y cc maxL (some .int) :: xU) B.pre
  have hown : s.vm.findClass own = some m.cls := ho ▸ findClass_of_methodNamed B.named
  have hlocks := B.notSynchronized
  subst hsz
  have hl := lv_entry av (n := maxL) hav
  rw [lg_entry_eq]
  generalize (lg_sl av ++ List.replicate (maxL - (lg_sl av).length) Slot.unset).toArray = ls at hl ⊢
  refine body p e s m av.toArray below meth c (va_A wc s.heap.size) _ ls s.heap ⟨B.exec, B.bytes, hml, hown, hts⟩ hK.1 hK.2 hP hD0.self (fun q h => Or.inr h) va_S.rf hl ?_
  intro pc H locs ls r' hd hP hS hr
  exact W.iret B.exec B.bytes B.returns (fun t ht hW => ⟨⟨r', (), rfl, hr, (by show va_P D vwCl w1 t.heap; rw [ht]; exact hP)⟩, hS.F ht⟩) hS.2.2 hd
theorem xMz.mkT {l : Launch} {y : MethodName} {rm : Room} {D : va_G} {cI cB cJ : ClassId} {tO tB : Nat} {adK adV : Nat → Nat} {vf : Value} {sz : Nat} {av : List Value} {wc w1 : va_W} {r : Int32} {cc : ByteArray} {maxL : Nat} {own : String} (hy : plainName y.cls = true) (ho : y.cls = own) (hav : (lg_sl av).length ≤ maxL)
    (body : ∀ (p : Program) (e : Env) (s : State) (m : MethodId) (args : Array Value) (below : List Frame) (meth : Method) (c : Code) (A : Nat → Prop) (Q : State → Prop) (ls : Array Slot) (H : Heap), CallFix p m c cc maxL s args (.code y cc maxL (some .boolean) :: xU) own → xK D cI cB cJ s → xT tO tB adK adV vf A s → va_P D vwCl wc H → va_D A wc → (∀ q : Nat, s.heap.size ≤ q → A q) → va_S A s.heap H [] → lv_has ls maxL (lv_args 0 av) →
      (∀ (pc : Nat) (H : Heap) (locs : List Loc) (ls : Array Slot) (r' : Int32), decode cc pc = .ok (.ireturn, 1) → va_P D vwCl w1 H → va_S A s.heap H locs → x01 r' → r' = r → W p l e rm s m args below meth c H locs 0 0 Q (F0 m pc ls [.int r'])) →
      W p l e rm s m args below meth c H [] 0 0 Q (F0 m 0 ls [])) : xMz l y (.code y cc maxL (some .boolean) :: xU) rm (xKT D cI cB cJ tO tB adK adV vf wc) D sz av wc w1 r := by
  refine Met.ofW (cc := cc) (maxL := maxL) (ret := some .boolean) hy rfl ?_
  intro p e s m args below meth c s₁ B hml hv
  obtain ⟨rfl, hsz, hP, hK, hD0⟩ := hv
  have hts := atoms_spec (ws := .code y cc maxL (some .boolean) :: xU) B.pre
  have hown : s.vm.findClass own = some m.cls := ho ▸ findClass_of_methodNamed B.named
  have hlocks := B.notSynchronized
  subst hsz
  have hl := lv_entry av (n := maxL) hav
  rw [lg_entry_eq]
  generalize (lg_sl av ++ List.replicate (maxL - (lg_sl av).length) Slot.unset).toArray = ls at hl ⊢
  refine body p e s m av.toArray below meth c (va_A wc s.heap.size) _ ls s.heap ⟨B.exec, B.bytes, hml, hown, hts⟩ hK.1 hK.2 hP hD0.self (fun q h => Or.inr h) va_S.rf hl ?_
  intro pc H locs ls r' hd hP hS h1 hr
  exact W.zret B.exec B.bytes B.returns (x01_n h1) (fun t ht hW => ⟨⟨r', (), rfl, ⟨hr, hr ▸ h1⟩, (by show va_P D vwCl w1 t.heap; rw [ht]; exact hP)⟩, hS.F ht⟩) hS.2.2 hd
theorem xMv.mkT {l : Launch} {y : MethodName} {rm : Room} {D : va_G} {cI cB cJ : ClassId} {tO tB : Nat} {adK adV : Nat → Nat} {vf : Value} {sz : Nat} {av : List Value} {wc w1 : va_W} {cc : ByteArray} {maxL : Nat} {own : String} (hy : plainName y.cls = true) (ho : y.cls = own) (hav : (lg_sl av).length ≤ maxL)
    (body : ∀ (p : Program) (e : Env) (s : State) (m : MethodId) (args : Array Value) (below : List Frame) (meth : Method) (c : Code) (A : Nat → Prop) (Q : State → Prop) (ls : Array Slot) (H : Heap), CallFix p m c cc maxL s args (.code y cc maxL none :: xU) own → xK D cI cB cJ s → xT tO tB adK adV vf A s → va_P D vwCl wc H → va_D A wc → (∀ q : Nat, s.heap.size ≤ q → A q) → va_S A s.heap H [] → lv_has ls maxL (lv_args 0 av) →
      (∀ (pc : Nat) (H : Heap) (locs : List Loc) (ls : Array Slot), decode cc pc = .ok (.return_, 1) → va_P D vwCl w1 H → va_S A s.heap H locs → W p l e rm s m args below meth c H locs 0 0 Q (F0 m pc ls [])) →
      W p l e rm s m args below meth c H [] 0 0 Q (F0 m 0 ls [])) : xMv l y (.code y cc maxL none :: xU) rm (xKT D cI cB cJ tO tB adK adV vf wc) D sz av wc w1 := by
  refine Met.ofW (cc := cc) (maxL := maxL) (ret := none) hy rfl ?_
  intro p e s m args below meth c s₁ B hml hv
  obtain ⟨rfl, hsz, hP, hK, hD0⟩ := hv
  have hts := atoms_spec (ws := .code y cc maxL none :: xU) B.pre
  have hown : s.vm.findClass own = some m.cls := ho ▸ findClass_of_methodNamed B.named
  have hlocks := B.notSynchronized
  subst hsz
  have hl := lv_entry av (n := maxL) hav
  rw [lg_entry_eq]
  generalize (lg_sl av ++ List.replicate (maxL - (lg_sl av).length) Slot.unset).toArray = ls at hl ⊢
  refine body p e s m av.toArray below meth c (va_A wc s.heap.size) _ ls s.heap ⟨B.exec, B.bytes, hml, hown, hts⟩ hK.1 hK.2 hP hD0.self (fun q h => Or.inr h) va_S.rf hl ?_
  intro pc H locs ls hd hP hS
  exact W.vret B.exec B.bytes B.returns (fun t ht hW => ⟨⟨(), rfl, trivial, (by show va_P D vwCl w1 t.heap; rw [ht]; exact hP)⟩, hS.F ht⟩) hS.2.2 hd
theorem xMn.mkT {l : Launch} {y : MethodName} {rm : Room} {D : va_G} {cI cB cJ : ClassId} {ty : FieldType} {tO tB : Nat} {adK adV : Nat → Nat} {vf : Value} {sz : Nat} {av : List Value} {wc w1 : va_W} {r : Int32} {cc : ByteArray} {maxL : Nat} {own : String} (hy : plainName y.cls = true) (ho : y.cls = own) (hav : (lg_sl av).length ≤ maxL)
    (body : ∀ (p : Program) (e : Env) (s : State) (m : MethodId) (args : Array Value) (below : List Frame) (meth : Method) (c : Code) (A : Nat → Prop) (Q : State → Prop) (ls : Array Slot) (H : Heap), CallFix p m c cc maxL s args (.code y cc maxL (some ty) :: xU) own → xK D cI cB cJ s → xT tO tB adK adV vf A s → va_P D vwCl wc H → va_D A wc → (∀ q : Nat, s.heap.size ≤ q → A q) → va_S A s.heap H [] → lv_has ls maxL (lv_args 0 av) →
      (∀ (pc : Nat) (H : Heap) (locs : List Loc) (ls : Array Slot) (r' : Int32), decode cc pc = .ok (.ireturn, 1) → va_P D vwCl w1 H → va_S A s.heap H locs → narrow ty (.int r') = .int r' → r' = r → W p l e rm s m args below meth c H locs 0 0 Q (F0 m pc ls [.int r'])) →
      W p l e rm s m args below meth c H [] 0 0 Q (F0 m 0 ls [])) : xMn ty l y (.code y cc maxL (some ty) :: xU) rm (xKT D cI cB cJ tO tB adK adV vf wc) D sz av wc w1 r := by
  refine Met.ofW (cc := cc) (maxL := maxL) (ret := some ty) hy rfl ?_
  intro p e s m args below meth c s₁ B hml hv
  obtain ⟨rfl, hsz, hP, hK, hD0⟩ := hv
  have hts := atoms_spec (ws := .code y cc maxL (some ty) :: xU) B.pre
  have hown : s.vm.findClass own = some m.cls := ho ▸ findClass_of_methodNamed B.named
  have hlocks := B.notSynchronized
  subst hsz
  have hl := lv_entry av (n := maxL) hav
  rw [lg_entry_eq]
  generalize (lg_sl av ++ List.replicate (maxL - (lg_sl av).length) Slot.unset).toArray = ls at hl ⊢
  refine body p e s m av.toArray below meth c (va_A wc s.heap.size) _ ls s.heap ⟨B.exec, B.bytes, hml, hown, hts⟩ hK.1 hK.2 hP hD0.self (fun q h => Or.inr h) va_S.rf hl ?_
  intro pc H locs ls r' hd hP hS h1 hr
  exact W.zret B.exec B.bytes B.returns h1 (fun t ht hW => ⟨⟨r', (), rfl, ⟨hr, hr ▸ h1⟩, (by show va_P D vwCl w1 t.heap; rw [ht]; exact hP)⟩, hS.F ht⟩) hS.2.2 hd
section XCT
variable {p : Program} {l : Launch} {e : Env} {R : Room} {s : State} {m : MethodId} {args : Array Value} {below : List Frame} {meth : Method} {c : Code} {H : Heap} {locs : List Loc} {cells slots : Nat} {Q : State → Prop}
variable {cc : ByteArray} {nL pc : Nat} {ls : Array Slot} {rest st0 : List Value} {a : Array Value} {A : Nat → Prop} {D : va_G} {w wc w1 wn : va_W} {K : State → Prop}
theorem xrn0 {r : Int32} {ty : FieldType} (hr : va_Run p l e R s m args below meth c H locs cells slots 0 0 (F0 m pc ls st0) rest (va_Qi (fun (r' : Int32) (_ : Unit) => r' = r ∧ narrow ty (.int r) = .int r) (fun _ t => va_P D vwCl wc t.heap) (va_A wc H.size) a) (va_A wc H.size)) (hP : va_P D vwCl w H) (hD : va_D A w) (hS : va_S A s.heap H locs) (hA : ∀ q : Nat, s.heap.size ≤ q → A q) (is : List Nat) (hC : is.map (fun i => w[i]?) = wc.map some) (hn : va_nd is = true)
    (kk : ∀ (H1 : Heap) (locs1 : List Loc), va_P D vwCl w H1 → va_D A w → va_S A s.heap H1 locs1 → narrow ty (.int r) = .int r → W p l e R s m args below meth c H1 locs1 cells slots Q (F0 m (pc + 3) ls (.int r :: rest))) : W p l e R s m args below meth c H locs cells slots Q (F0 m pc ls st0) := by
  have hFc := va_free hD hS hA is hC
  refine va_calli hr hS (fun q _ h => hFc q h) hFc (fun r' u t H1 locs1 ht hvm hw hB hz hk hS1 => ?_)
  obtain ⟨hw, h01⟩ := hw
  subst hw
  have hB : va_P D vwCl wc H1 := by rw [← ht]; exact hB
  obtain ⟨hP', hD'⟩ := xset_ok hP hD is hC hn rfl hk hB
  rw [xset_id is wc w hC] at hP' hD'
  exact kk H1 locs1 hP' hD' hS1 h01
theorem xrv0 (hr : va_Run p l e R s m args below meth c H locs cells slots 0 0 (F0 m pc ls st0) rest (va_Qv (fun (_ : Unit) => True) (fun _ t => va_P D vwCl wc t.heap) (va_A wc H.size) a) (va_A wc H.size)) (hP : va_P D vwCl w H) (hD : va_D A w) (hS : va_S A s.heap H locs) (hA : ∀ q : Nat, s.heap.size ≤ q → A q) (is : List Nat) (hC : is.map (fun i => w[i]?) = wc.map some) (hn : va_nd is = true)
    (kk : ∀ (H1 : Heap) (locs1 : List Loc), va_P D vwCl w H1 → va_D A w → va_S A s.heap H1 locs1 → W p l e R s m args below meth c H1 locs1 cells slots Q (F0 m (pc + 3) ls rest)) : W p l e R s m args below meth c H locs cells slots Q (F0 m pc ls st0) := xrv hr hP hD hS hA is hC hn rfl (xset_id is wc w hC) kk
/-- a call of an instance method whose receiver is known otherwise -/
theorem xrunVr {w0 : Cond} {y : MethodName} {bytes : ByteArray} {maxL index n : Nat} {ret : Option FieldType} {rm : Room} {Qc : Array Value → State → Outcome → State → Prop} {free : Addr → Prop} {own C : String} {b : Addr} {As : List Value} (hM : Met l y (.code y bytes maxL ret :: xU) rm (va_Pc (.ref b :: As) (xPre K D H.size wc)) Qc 0 0 free) (hfix : CallFix p m c cc nL s args (w0 :: xU) own) (hl : Cond.methodLink own index y ∈ xU) (hy : xYV y C bytes maxL ret n) (hrm : rm.cells = 0 ∧ rm.slots = 0) (hR : rm.frames + 1 ≤ R.frames ∧ 8 + (maxL + 11) + rm.locals ≤ R.locals)
    (hKb : xKk K) (hKU : ∀ U : State, U.heap = H → s.WarmedH U.vm → K U) (hrec : ∃ cell : Cell, H[b]? = some cell ∧ cell.vm.isStatics = false ∧ s.vm.findClass C = some cell.cls) (hP : va_P D vwCl w H) (hD : va_D A w) (is : List Nat) (hC : is.map (fun i => w[i]?) = wc.map some) (hn : va_nd is = true)
    (hAs : As.length = n) (hsize : ls.size = nL) (hst : st0 = As.reverse ++ .ref b :: rest) (hW : (rest.map fun v => v.category).sum ≤ 8) (hdg : decode cc pc = .ok (.invokevirtual index, 3)) (hf : cells ≤ R.cells ∧ slots ≤ R.slots) :
    va_Run p l e R s m args below meth c H locs cells slots 0 0 (F0 m pc ls st0) rest (Qc (Value.ref b :: As).toArray) free :=
  va_runV hfix hM (cwV n hfix.2.2.2.2 (xgV hl hy) rfl hrm.1 hrm.2 hy.2 hR) ⟨xpre_blind hKb, hrec, xpre_at hKU hP hD is hC hn⟩ rfl hAs hsize hst (by show 2 * 0 + _ ≤ 8; omega) hdg hf
end XCT
