/-! ===== programs that may fail: none = the machine would throw, or the fuel is gone ===== -/
def gd {α : Type} (i : Int32) (n : Nat) (k : Option α) : Option α := if i < 0 ∨ n ≤ i.toNatClampNeg then none else k
theorem gd_e {α : Type} {i : Int32} {n : Nat} {k : Option α} {r : α} (h : gd i n k = some r) : vp_in i n ∧ k = some r := by
  unfold gd at h
  by_cases c : i < 0 ∨ n ≤ i.toNatClampNeg
  · rw [if_pos c] at h; cases h
  · rw [if_neg c] at h; exact ⟨c, h⟩
theorem gd_i {α : Type} {i : Int32} {n : Nat} {k : Option α} (h : vp_in i n) : gd i n k = k := if_neg h
def gz {α : Type} (y : Int32) (k : Option α) : Option α := if y = 0 then none else k
theorem gz_e {α : Type} {y : Int32} {k : Option α} {r : α} (h : gz y k = some r) : ¬ y = 0 ∧ k = some r := by
  unfold gz at h
  by_cases c : y = 0
  · rw [if_pos c] at h; cases h
  · rw [if_neg c] at h; exact ⟨c, h⟩
theorem gz_i {α : Type} {y : Int32} {k : Option α} (h : ¬ y = 0) : gz y k = k := if_neg h
theorem if_t {α : Type} {c : Prop} [Decidable c] {a b r : α} (h : c) (hF : (if c then a else b) = r) : a = r := (if_pos h).symm.trans hF
theorem if_f {α : Type} {c : Prop} [Decidable c] {a b r : α} (h : ¬ c) (hF : (if c then a else b) = r) : b = r := (if_neg h).symm.trans hF
def bd1 {α γ : Type} (x : Option α) (k : α → Option γ) : Option γ := match x with | some a => k a | none => none
def bd2 {α β γ : Type} (x : Option (α × β)) (k : α → β → Option γ) : Option γ := match x with | some (a, b) => k a b | none => none
def bd3 {α β δ γ : Type} (x : Option (α × β × δ)) (k : α → β → δ → Option γ) : Option γ := match x with | some (a, b, d) => k a b d | none => none
def bd4 {α β δ ε γ : Type} (x : Option (α × β × δ × ε)) (k : α → β → δ → ε → Option γ) : Option γ := match x with | some (a, b, d, e) => k a b d e | none => none
def bd5 {α β δ ε ζ γ : Type} (x : Option (α × β × δ × ε × ζ)) (k : α → β → δ → ε → ζ → Option γ) : Option γ := match x with | some (a, b, d, e, f) => k a b d e f | none => none
def bd6 {α β δ ε ζ η γ : Type} (x : Option (α × β × δ × ε × ζ × η)) (k : α → β → δ → ε → ζ → η → Option γ) : Option γ := match x with | some (a, b, d, e, f, g) => k a b d e f g | none => none
def bd7 {α β δ ε ζ η θ γ : Type} (x : Option (α × β × δ × ε × ζ × η × θ)) (k : α → β → δ → ε → ζ → η → θ → Option γ) : Option γ := match x with | some (a, b, d, e, f, g, h) => k a b d e f g h | none => none
def bd8 {α β δ ε ζ η θ ι γ : Type} (x : Option (α × β × δ × ε × ζ × η × θ × ι)) (k : α → β → δ → ε → ζ → η → θ → ι → Option γ) : Option γ := match x with | some (a, b, d, e, f, g, h, i) => k a b d e f g h i | none => none
def bd9 {α β δ ε ζ η θ ι κ γ : Type} (x : Option (α × β × δ × ε × ζ × η × θ × ι × κ)) (k : α → β → δ → ε → ζ → η → θ → ι → κ → Option γ) : Option γ := match x with | some (a, b, d, e, f, g, h, i, j) => k a b d e f g h i j | none => none
theorem bd1_e {α γ : Type} {x : Option α} {k : α → Option γ} {r : γ} (h : bd1 x k = some r) : ∃ a, x = some a ∧ k a = some r := by
  cases x with
  | none => cases h
  | some a => exact ⟨a, rfl, h⟩
theorem bd2_e {α β γ : Type} {x : Option (α × β)} {k : α → β → Option γ} {r : γ} (h : bd2 x k = some r) : ∃ a b, x = some (a, b) ∧ k a b = some r := by
  cases x with
  | none => cases h
  | some a => obtain ⟨a, b⟩ := a; exact ⟨a, b, rfl, h⟩
theorem bd3_e {α β δ γ : Type} {x : Option (α × β × δ)} {k : α → β → δ → Option γ} {r : γ} (h : bd3 x k = some r) : ∃ a b d, x = some (a, b, d) ∧ k a b d = some r := by
  cases x with
  | none => cases h
  | some a => obtain ⟨a, b, d⟩ := a; exact ⟨a, b, d, rfl, h⟩
theorem bd4_e {α β δ ε γ : Type} {x : Option (α × β × δ × ε)} {k : α → β → δ → ε → Option γ} {r : γ} (h : bd4 x k = some r) : ∃ a b d e, x = some (a, b, d, e) ∧ k a b d e = some r := by
  cases x with
  | none => cases h
  | some a => obtain ⟨a, b, d, e⟩ := a; exact ⟨a, b, d, e, rfl, h⟩
theorem bd5_e {α β δ ε ζ γ : Type} {x : Option (α × β × δ × ε × ζ)} {k : α → β → δ → ε → ζ → Option γ} {r : γ} (h : bd5 x k = some r) : ∃ a b d e f, x = some (a, b, d, e, f) ∧ k a b d e f = some r := by
  cases x with
  | none => cases h
  | some a => obtain ⟨a, b, d, e, f⟩ := a; exact ⟨a, b, d, e, f, rfl, h⟩
theorem bd6_e {α β δ ε ζ η γ : Type} {x : Option (α × β × δ × ε × ζ × η)} {k : α → β → δ → ε → ζ → η → Option γ} {r : γ} (h : bd6 x k = some r) : ∃ a b d e f g, x = some (a, b, d, e, f, g) ∧ k a b d e f g = some r := by
  cases x with
  | none => cases h
  | some a => obtain ⟨a, b, d, e, f, g⟩ := a; exact ⟨a, b, d, e, f, g, rfl, h⟩
theorem bd7_e {α β δ ε ζ η θ γ : Type} {x : Option (α × β × δ × ε × ζ × η × θ)} {k : α → β → δ → ε → ζ → η → θ → Option γ} {r : γ} (h : bd7 x k = some r) : ∃ a b d e f g i, x = some (a, b, d, e, f, g, i) ∧ k a b d e f g i = some r := by
  cases x with
  | none => cases h
  | some a => obtain ⟨a, b, d, e, f, g, i⟩ := a; exact ⟨a, b, d, e, f, g, i, rfl, h⟩
theorem bd8_e {α β δ ε ζ η θ ι γ : Type} {x : Option (α × β × δ × ε × ζ × η × θ × ι)} {k : α → β → δ → ε → ζ → η → θ → ι → Option γ} {r : γ} (h : bd8 x k = some r) : ∃ a b d e f g i j, x = some (a, b, d, e, f, g, i, j) ∧ k a b d e f g i j = some r := by
  cases x with
  | none => cases h
  | some a => obtain ⟨a, b, d, e, f, g, i, j⟩ := a; exact ⟨a, b, d, e, f, g, i, j, rfl, h⟩
theorem bd9_e {α β δ ε ζ η θ ι κ γ : Type} {x : Option (α × β × δ × ε × ζ × η × θ × ι × κ)} {k : α → β → δ → ε → ζ → η → θ → ι → κ → Option γ} {r : γ} (h : bd9 x k = some r) : ∃ a b d e f g i j m, x = some (a, b, d, e, f, g, i, j, m) ∧ k a b d e f g i j m = some r := by
  cases x with
  | none => cases h
  | some a => obtain ⟨a, b, d, e, f, g, i, j, m⟩ := a; exact ⟨a, b, d, e, f, g, i, j, m, rfl, h⟩
theorem no_some {α : Type} {r : α} (h : (none : Option α) = some r) : False := by cases h
/-- booleans of the machine -/
def x01 (v : Int32) : Prop := v = 0 ∨ v = 1
theorem x01_0 : x01 0 := Or.inl rfl
theorem x01_1 : x01 1 := Or.inr rfl
theorem x01_n {v : Int32} (h : x01 v) : narrow .boolean (.int v) = .int v := by rcases h with rfl | rfl <;> decide +kernel
theorem x01_f {v : Int32} (h : x01 v) : fits .boolean (.int v) = true := by rcases h with rfl | rfl <;> decide +kernel
/-! ===== what the tables say, for every method alike ===== -/
def xnest : List Cond := [Cond.methodLinkNest "FairNext$Tape" 102 yX6_outside "FairNext", Cond.methodLinkNest "FairNext$Tape" 87 yX6_codeOf "FairNext", Cond.methodLinkNest "FairNext$Book" 37 yX6_bOf "FairNext", Cond.methodLinkNest "FairNext$Book" 41 yX6_kindOf "FairNext", Cond.methodLinkNest "FairNext$Book" 44 yX6_rest "FairNext", Cond.methodLinkNest "FairNext$Book" 48 yX6_aOf "FairNext", Cond.methodLinkNest "FairNext$Book" 51 yX6_kOf "FairNext", Cond.methodLinkNest "FairNext$Book" 72 yX6_wordsOf "FairNext", Cond.fieldLinkNest "FairNext$Thing" 36 "FairNext" "BODY" "[I" "FairNext"]
def xK (D : va_G) (cI cB cJ : ClassId) (U : State) : Prop := va_K D vwCl [(cI, .int), (cB, .byte), (cJ, .long)] U ∧ ∀ w ∈ xnest, va_Nw w U
theorem xnest_on : ∀ w ∈ xnest, w.onTables = true := by decide +kernel
theorem xnest_warm {s U : State} (hW : s.WarmedH U.vm) : ∀ w ∈ xnest, va_Nw w s → va_Nw w U := by
  intro w hw
  simp only [xnest, List.mem_cons, List.not_mem_nil, or_false] at hw
  rcases hw with rfl | rfl | rfl | rfl | rfl | rfl | rfl | rfl | rfl <;> first | exact va_Nw.warmM hW | exact va_Nw.warmF hW
theorem xK.warm {D : va_G} {cI cB cJ : ClassId} {s U : State} (hW : s.WarmedH U.vm) (h : xK D cI cB cJ s) : xK D cI cB cJ U := ⟨va_K.moved hW.alike h.1, fun w hw => xnest_warm hW w hw (h.2 w hw)⟩
theorem xK.calling {D : va_G} {cI cB cJ : ClassId} {U : State} {g : JFrame} {mk : MethodId} {a : Array Value} (h : xK D cI cB cJ U) : xK D cI cB cJ (U.calling g mk a) := ⟨va_K.moved (u := U) (U := U.calling g mk a) (Vm.Alike.refl U.vm) h.1, fun w hw => va_Nw.same (xnest_on w hw) (u := U) (U := U.calling g mk a) rfl (h.2 w hw)⟩
/-- what a contract may ask of the state besides the cells: stays over a call -/
def xKk (K : State → Prop) : Prop := ∀ (U : State) (g : JFrame) (mk : MethodId) (a : Array Value), K U → K (U.calling g mk a)
theorem xKk_K {D : va_G} {cI cB cJ : ClassId} : xKk (xK D cI cB cJ) := fun _ _ _ _ h => h.calling
/-! ===== contracts ===== -/
def xPre (K : State → Prop) (D : va_G) (sz : Nat) (wc : va_W) : State → Prop := fun U => U.heap.size = sz ∧ va_P D vwCl wc U.heap ∧ K U ∧ va_D (fun _ => True) wc
def xMi (l : Launch) (y : MethodName) (ws : List Cond) (rm : Room) (K : State → Prop) (D : va_G) (sz : Nat) (av : List Value) (wc w1 : va_W) (r : Int32) : Prop := Met l y ws rm (va_Pc av (xPre K D sz wc)) (va_Qi (fun (r' : Int32) (_ : Unit) => r' = r) (fun _ t => va_P D vwCl w1 t.heap) (va_A wc sz)) 0 0 (va_A wc sz)
def xMz (l : Launch) (y : MethodName) (ws : List Cond) (rm : Room) (K : State → Prop) (D : va_G) (sz : Nat) (av : List Value) (wc w1 : va_W) (r : Int32) : Prop := Met l y ws rm (va_Pc av (xPre K D sz wc)) (va_Qi (fun (r' : Int32) (_ : Unit) => r' = r ∧ x01 r) (fun _ t => va_P D vwCl w1 t.heap) (va_A wc sz)) 0 0 (va_A wc sz)
def xMl (l : Launch) (y : MethodName) (ws : List Cond) (rm : Room) (K : State → Prop) (D : va_G) (sz : Nat) (av : List Value) (wc w1 : va_W) (r : Int64) : Prop := Met l y ws rm (va_Pc av (xPre K D sz wc)) (va_Ql (fun (r' : Int64) (_ : Unit) => r' = r) (fun _ t => va_P D vwCl w1 t.heap) (va_A wc sz)) 0 0 (va_A wc sz)
def xMv (l : Launch) (y : MethodName) (ws : List Cond) (rm : Room) (K : State → Prop) (D : va_G) (sz : Nat) (av : List Value) (wc w1 : va_W) : Prop := Met l y ws rm (va_Pc av (xPre K D sz wc)) (va_Qv (fun (_ : Unit) => True) (fun _ t => va_P D vwCl w1 t.heap) (va_A wc sz)) 0 0 (va_A wc sz)
theorem xMi.mk {l : Launch} {y : MethodName} {rm : Room} {K : State → Prop} {D : va_G} {sz : Nat} {av : List Value} {wc w1 : va_W} {r : Int32} {cc : ByteArray} {maxL : Nat} {own : String} (hy : plainName y.cls = true) (ho : y.cls = own) (hav : (lg_sl av).length ≤ maxL)
    (body : ∀ (p : Program) (e : Env) (s : State) (m : MethodId) (args : Array Value) (below : List Frame) (meth : Method) (c : Code) (A : Nat → Prop) (Q : State → Prop) (ls : Array Slot) (H : Heap), CallFix p m c cc maxL s args (.code y cc maxL (some .int) :: xU) own → K s → va_P D vwCl wc H → va_D A wc → (∀ q : Nat, s.heap.size ≤ q → A q) → va_S A s.heap H [] → lv_has ls maxL (lv_args 0 av) →
      (∀ (pc : Nat) (H : Heap) (locs : List Loc) (ls : Array Slot) (r' : Int32), decode cc pc = .ok (.ireturn, 1) → va_P D vwCl w1 H → va_S A s.heap H locs → r' = r → W p l e rm s m args below meth c H locs 0 0 Q (F0 m pc ls [.int r'])) →
      W p l e rm s m args below meth c H [] 0 0 Q (F0 m 0 ls [])) : xMi l y (.code y cc maxL (some .int) :: xU) rm K D sz av wc w1 r := by
  refine Met.ofW (cc := cc) (maxL := maxL) (ret := some .int) hy rfl ?_
  intro p e s m args below meth c s₁ B hml hv
  obtain ⟨rfl, hsz, hP, hK, hD0⟩ := hv
  have hts := atoms_spec (ws := .code y cc maxL (some .int) :: xU) B.pre
  have hown : s.vm.findClass own = some m.cls := ho ▸ findClass_of_methodNamed B.named
  have hlocks := B.notSynchronized
  subst hsz
  have hl := lv_entry av (n := maxL) hav
  rw [lg_entry_eq]
  generalize (lg_sl av ++ List.replicate (maxL - (lg_sl av).length) Slot.unset).toArray = ls at hl ⊢
  refine body p e s m av.toArray below meth c (va_A wc s.heap.size) _ ls s.heap ⟨B.exec, B.bytes, hml, hown, hts⟩ hK hP hD0.self (fun q h => Or.inr h) va_S.rf hl ?_
  intro pc H locs ls r' hd hP hS hr
  exact W.iret B.exec B.bytes B.returns (fun t ht hW => ⟨⟨r', (), rfl, hr, (by show va_P D vwCl w1 t.heap; rw [ht]; exact hP)⟩, hS.F ht⟩) hS.2.2 hd
theorem xMz.mk {l : Launch} {y : MethodName} {rm : Room} {K : State → Prop} {D : va_G} {sz : Nat} {av : List Value} {wc w1 : va_W} {r : Int32} {cc : ByteArray} {maxL : Nat} {own : String} (hy : plainName y.cls = true) (ho : y.cls = own) (hav : (lg_sl av).length ≤ maxL)
    (body : ∀ (p : Program) (e : Env) (s : State) (m : MethodId) (args : Array Value) (below : List Frame) (meth : Method) (c : Code) (A : Nat → Prop) (Q : State → Prop) (ls : Array Slot) (H : Heap), CallFix p m c cc maxL s args (.code y cc maxL (some .boolean) :: xU) own → K s → va_P D vwCl wc H → va_D A wc → (∀ q : Nat, s.heap.size ≤ q → A q) → va_S A s.heap H [] → lv_has ls maxL (lv_args 0 av) →
      (∀ (pc : Nat) (H : Heap) (locs : List Loc) (ls : Array Slot) (r' : Int32), decode cc pc = .ok (.ireturn, 1) → va_P D vwCl w1 H → va_S A s.heap H locs → x01 r' → r' = r → W p l e rm s m args below meth c H locs 0 0 Q (F0 m pc ls [.int r'])) →
      W p l e rm s m args below meth c H [] 0 0 Q (F0 m 0 ls [])) : xMz l y (.code y cc maxL (some .boolean) :: xU) rm K D sz av wc w1 r := by
  refine Met.ofW (cc := cc) (maxL := maxL) (ret := some .boolean) hy rfl ?_
  intro p e s m args below meth c s₁ B hml hv
  obtain ⟨rfl, hsz, hP, hK, hD0⟩ := hv
  have hts := atoms_spec (ws := .code y cc maxL (some .boolean) :: xU) B.pre
  have hown : s.vm.findClass own = some m.cls := ho ▸ findClass_of_methodNamed B.named
  have hlocks := B.notSynchronized
  subst hsz
  have hl := lv_entry av (n := maxL) hav
  rw [lg_entry_eq]
  generalize (lg_sl av ++ List.replicate (maxL - (lg_sl av).length) Slot.unset).toArray = ls at hl ⊢
  refine body p e s m av.toArray below meth c (va_A wc s.heap.size) _ ls s.heap ⟨B.exec, B.bytes, hml, hown, hts⟩ hK hP hD0.self (fun q h => Or.inr h) va_S.rf hl ?_
  intro pc H locs ls r' hd hP hS h1 hr
  exact W.zret B.exec B.bytes B.returns (x01_n h1) (fun t ht hW => ⟨⟨r', (), rfl, ⟨hr, hr ▸ h1⟩, (by show va_P D vwCl w1 t.heap; rw [ht]; exact hP)⟩, hS.F ht⟩) hS.2.2 hd
theorem xMl.mk {l : Launch} {y : MethodName} {rm : Room} {K : State → Prop} {D : va_G} {sz : Nat} {av : List Value} {wc w1 : va_W} {r : Int64} {cc : ByteArray} {maxL : Nat} {own : String} (hy : plainName y.cls = true) (ho : y.cls = own) (hav : (lg_sl av).length ≤ maxL)
    (body : ∀ (p : Program) (e : Env) (s : State) (m : MethodId) (args : Array Value) (below : List Frame) (meth : Method) (c : Code) (A : Nat → Prop) (Q : State → Prop) (ls : Array Slot) (H : Heap), CallFix p m c cc maxL s args (.code y cc maxL (some .long) :: xU) own → K s → va_P D vwCl wc H → va_D A wc → (∀ q : Nat, s.heap.size ≤ q → A q) → va_S A s.heap H [] → lv_has ls maxL (lv_args 0 av) →
      (∀ (pc : Nat) (H : Heap) (locs : List Loc) (ls : Array Slot) (r' : Int64), decode cc pc = .ok (.lreturn, 1) → va_P D vwCl w1 H → va_S A s.heap H locs → r' = r → W p l e rm s m args below meth c H locs 0 0 Q (F0 m pc ls [.long r'])) →
      W p l e rm s m args below meth c H [] 0 0 Q (F0 m 0 ls [])) : xMl l y (.code y cc maxL (some .long) :: xU) rm K D sz av wc w1 r := by
  refine Met.ofW (cc := cc) (maxL := maxL) (ret := some .long) hy rfl ?_
  intro p e s m args below meth c s₁ B hml hv
  obtain ⟨rfl, hsz, hP, hK, hD0⟩ := hv
  have hts := atoms_spec (ws := .code y cc maxL (some .long) :: xU) B.pre
  have hown : s.vm.findClass own = some m.cls := ho ▸ findClass_of_methodNamed B.named
  have hlocks := B.notSynchronized
  subst hsz
  have hl := lv_entry av (n := maxL) hav
  rw [lg_entry_eq]
  generalize (lg_sl av ++ List.replicate (maxL - (lg_sl av).length) Slot.unset).toArray = ls at hl ⊢
  refine body p e s m av.toArray below meth c (va_A wc s.heap.size) _ ls s.heap ⟨B.exec, B.bytes, hml, hown, hts⟩ hK hP hD0.self (fun q h => Or.inr h) va_S.rf hl ?_
  intro pc H locs ls r' hd hP hS hr
  exact W.lret B.exec B.bytes B.returns (fun t ht hW => ⟨⟨r', (), rfl, hr, (by show va_P D vwCl w1 t.heap; rw [ht]; exact hP)⟩, hS.F ht⟩) hS.2.2 hd
theorem xMv.mk {l : Launch} {y : MethodName} {rm : Room} {K : State → Prop} {D : va_G} {sz : Nat} {av : List Value} {wc w1 : va_W} {cc : ByteArray} {maxL : Nat} {own : String} (hy : plainName y.cls = true) (ho : y.cls = own) (hav : (lg_sl av).length ≤ maxL)
    (body : ∀ (p : Program) (e : Env) (s : State) (m : MethodId) (args : Array Value) (below : List Frame) (meth : Method) (c : Code) (A : Nat → Prop) (Q : State → Prop) (ls : Array Slot) (H : Heap), CallFix p m c cc maxL s args (.code y cc maxL none :: xU) own → K s → va_P D vwCl wc H → va_D A wc → (∀ q : Nat, s.heap.size ≤ q → A q) → va_S A s.heap H [] → lv_has ls maxL (lv_args 0 av) →
      (∀ (pc : Nat) (H : Heap) (locs : List Loc) (ls : Array Slot), decode cc pc = .ok (.return_, 1) → va_P D vwCl w1 H → va_S A s.heap H locs → W p l e rm s m args below meth c H locs 0 0 Q (F0 m pc ls [])) →
      W p l e rm s m args below meth c H [] 0 0 Q (F0 m 0 ls [])) : xMv l y (.code y cc maxL none :: xU) rm K D sz av wc w1 := by
  refine Met.ofW (cc := cc) (maxL := maxL) (ret := none) hy rfl ?_
  intro p e s m args below meth c s₁ B hml hv
  obtain ⟨rfl, hsz, hP, hK, hD0⟩ := hv
  have hts := atoms_spec (ws := .code y cc maxL none :: xU) B.pre
  have hown : s.vm.findClass own = some m.cls := ho ▸ findClass_of_methodNamed B.named
  have hlocks := B.notSynchronized
  subst hsz
  have hl := lv_entry av (n := maxL) hav
  rw [lg_entry_eq]
  generalize (lg_sl av ++ List.replicate (maxL - (lg_sl av).length) Slot.unset).toArray = ls at hl ⊢
  refine body p e s m av.toArray below meth c (va_A wc s.heap.size) _ ls s.heap ⟨B.exec, B.bytes, hml, hown, hts⟩ hK hP hD0.self (fun q h => Or.inr h) va_S.rf hl ?_
  intro pc H locs ls hd hP hS
  exact W.vret B.exec B.bytes B.returns (fun t ht hW => ⟨⟨(), rfl, trivial, (by show va_P D vwCl w1 t.heap; rw [ht]; exact hP)⟩, hS.F ht⟩) hS.2.2 hd
/-! ===== cells put back by their places ===== -/
def xset (w : va_W) (is : List Nat) (qs : va_W) : va_W := match is with
  | [] => w
  | i :: is => match qs with
    | [] => w
    | q :: qs => xset (w.set i q) is qs
theorem xset_get : ∀ (is : List Nat) (w1 w : va_W), is.length = w1.length → va_nd is = true → ∀ (k : Nat) (q : Nat × va_E), (xset w is w1)[k]? = some q → (∃ j : Nat, is[j]? = some k ∧ w1[j]? = some q) ∨ (k ∉ is ∧ w[k]? = some q)
  | [], w1, w, _, _, k, q, h => Or.inr ⟨List.not_mem_nil, by cases w1 <;> simpa [xset] using h⟩
  | i :: is, [], w, hl, _, _, _, _ => by simp at hl
  | i :: is, q1 :: w1, w, hl, hn, k, q, h => by
    simp only [va_nd, Bool.and_eq_true, decide_eq_true_eq] at hn
    have hl' : is.length = w1.length := by simpa using hl
    rcases xset_get is w1 (w.set i q1) hl' hn.2 k q h with ⟨j, h1, h2⟩ | ⟨h1, h2⟩
    · exact Or.inl ⟨j + 1, by simpa using h1, by simpa using h2⟩
    · by_cases hk : i = k
      · subst hk
        rw [List.getElem?_set] at h2
        simp only [if_true] at h2
        split at h2
        · exact Or.inl ⟨0, rfl, h2⟩
        · cases h2
      · rw [List.getElem?_set_ne hk] at h2
        exact Or.inr ⟨fun z => (List.mem_cons.mp z).elim (fun e => hk e.symm) h1, h2⟩
theorem xset_ok {A : Nat → Prop} {D : va_G} {w wc w1 : va_W} {H H1 : Heap} (hP : va_P D vwCl w H) (hD : va_D A w) (is : List Nat) (hC : is.map (fun i => w[i]?) = wc.map some) (hn : va_nd is = true) (had : w1.map Prod.fst = wc.map Prod.fst)
    (hk : ∀ q : Nat, q < H.size → ¬ va_A wc H.size q → H1[q]? = H[q]?) (hP1 : va_P D vwCl w1 H1) : va_P D vwCl (xset w is w1) H1 ∧ va_D A (xset w is w1) := by
  have hlen : is.length = w1.length := by
    have h1 : is.length = wc.length := by simpa using congrArg List.length hC
    have h2 : w1.length = wc.length := by simpa using congrArg List.length had
    omega
  have atC : ∀ (j k : Nat), is[j]? = some k → ∃ q, wc[j]? = some q ∧ w[k]? = some q := by
    intro j k h
    have h1 : (is.map (fun i => w[i]?))[j]? = some (w[k]?) := by rw [List.getElem?_map, h]; rfl
    rw [hC, List.getElem?_map] at h1
    cases hq : wc[j]? with
    | none => rw [hq] at h1; cases h1
    | some q => rw [hq] at h1; exact ⟨q, rfl, (Option.some.inj h1).symm⟩
  have inC : ∀ (k2 : Nat) (q : Nat × va_E), wc[k2]? = some q → ∃ i, is[k2]? = some i ∧ w[i]? = some q := by
    intro k2 q h
    have h1 : (is.map (fun i => w[i]?))[k2]? = some (some q) := by rw [hC, List.getElem?_map, h]; rfl
    rw [List.getElem?_map] at h1
    cases hi : is[k2]? with
    | none => rw [hi] at h1; cases h1
    | some i => rw [hi] at h1; exact ⟨i, rfl, Option.some.inj h1⟩
  have old : ∀ (k : Nat) (q : Nat × va_E), (xset w is w1)[k]? = some q → ∃ q0, w[k]? = some q0 ∧ q0.1 = q.1 := by
    intro k q h
    rcases xset_get is w1 w hlen hn k q h with ⟨j, h1, h2⟩ | ⟨h1, h2⟩
    · obtain ⟨q0, h3, h4⟩ := atC j k h1
      refine ⟨q0, h4, ?_⟩
      have e1 : (w1.map Prod.fst)[j]? = some q.1 := by rw [List.getElem?_map, h2]; rfl
      rw [had, List.getElem?_map, h3] at e1
      exact Option.some.inj e1
    · exact ⟨q, h2, rfl⟩
  refine ⟨fun k q h => ?_, fun i j x y hi hj hxy => ?_, fun k q h => ?_⟩
  · rcases xset_get is w1 w hlen hn k q h with ⟨j, h1, h2⟩ | ⟨h1, h2⟩
    · exact hP1 j q h2
    · have hl := (hP k q h2).lt
      refine (hP k q h2).kept (hk q.1 hl (fun z => ?_))
      rcases z with ⟨k2, e, z⟩ | z
      · obtain ⟨i, h3, h4⟩ := inC k2 (q.1, e) z
        have hik := hD.1 k i q (q.1, e) h2 h4 rfl
        subst hik
        exact h1 (List.mem_of_getElem? h3)
      · omega
  · obtain ⟨x0, h1, h2⟩ := old i x hi
    obtain ⟨y0, h3, h4⟩ := old j y hj
    exact hD.1 i j x0 y0 h1 h3 (h2.trans (hxy.trans h4.symm))
  · obtain ⟨q0, h1, h2⟩ := old k q h
    rw [← h2]
    exact hD.2 k q0 h1
/-! ===== calls ===== -/
theorem xpre_blind {K : State → Prop} (hKb : xKk K) {D : va_G} {sz : Nat} {wc : va_W} {av : List Value} : FrameBlind (va_Pc av (xPre K D sz wc)) := fun _ _ _ _ q => ⟨q.1, q.2.1, q.2.2.1, hKb _ _ _ _ q.2.2.2.1, q.2.2.2.2⟩
theorem xpre_at {K : State → Prop} {D : va_G} {A : Nat → Prop} {w wc : va_W} {H : Heap} {s : State} {av : List Value} (hKU : ∀ U : State, U.heap = H → s.WarmedH U.vm → K U) (hP : va_P D vwCl w H) (hD : va_D A w) (is : List Nat) (hC : is.map (fun i => w[i]?) = wc.map some) (hn : va_nd is = true) : ∀ U : State, U.heap = H → s.WarmedH U.vm → va_Pc av (xPre K D H.size wc) av.toArray U := by
  intro U hU hW
  have hPs : va_P D vwCl wc H := by
    intro k q h
    have h1 : (is.map (fun i => w[i]?))[k]? = some (some q) := by rw [hC, List.getElem?_map, h]; rfl
    rw [List.getElem?_map] at h1
    cases hi : is[k]? with
    | none => rw [hi] at h1; cases h1
    | some i => rw [hi] at h1; exact hP i q (Option.some.inj h1)
  exact ⟨rfl, by rw [hU], by rw [hU]; exact hPs, hKU U hU hW, (hD.sub is hn hC).weaken (fun _ _ _ _ => trivial)⟩
def xYV (y : MethodName) (C : String) (bytes : ByteArray) (maxL : Nat) (ret : Option FieldType) (n : Nat) : Prop := (Cond.instanceMethod y ∈ xU ∧ Cond.selects C y y ∈ xU ∧ Cond.initialized C ∈ xU ∧ Cond.code y bytes maxL ret ∈ xU) ∧ y.cls = C ∧ y.cls ≠ "java/lang/invoke/MethodHandle" ∧ y.cls ≠ "java/lang/invoke/VarHandle" ∧ (parseMethodDescriptor y.desc).map (fun d => d.parameters.length) = some n
def xYS (y : MethodName) (bytes : ByteArray) (maxL : Nat) (ret : Option FieldType) (n : Nat) : Prop := (Cond.static y ∈ xU ∧ Cond.initialized y.cls ∈ xU ∧ Cond.code y bytes maxL ret ∈ xU) ∧ y.cls ≠ "java/lang/invoke/MethodHandle" ∧ y.cls ≠ "java/lang/invoke/VarHandle" ∧ (parseMethodDescriptor y.desc).map (fun d => d.parameters.length) = some n
theorem xgood {w0 : Cond} {w : Cond} (h : w ∈ xU) : w ∈ w0 :: xU ∧ ((w.onTables && w.keeps) = true ∨ ∃ ty, w = .arrayClass ty) := ⟨List.mem_cons_of_mem _ h, good_of_word (xU_g w h)⟩
theorem xgV {w0 : Cond} {own C : String} {index n maxL : Nat} {y : MethodName} {bytes : ByteArray} {ret : Option FieldType} (hl : Cond.methodLink own index y ∈ xU) (hy : xYV y C bytes maxL ret n) : GoodIn (w0 :: xU) (wsV own index C y (.code y bytes maxL ret :: xU)) := by
  intro w hw
  rcases List.mem_append.mp hw with hw | hw
  · simp only [List.mem_cons, List.not_mem_nil, or_false] at hw
    rcases hw with rfl | rfl | rfl | rfl
    · exact xgood hl
    · exact xgood hy.1.1
    · exact xgood hy.1.2.1
    · exact xgood hy.1.2.2.1
  · rcases List.mem_cons.mp hw with rfl | hw
    · exact xgood hy.1.2.2.2
    · exact xgood hw
theorem xgS {w0 : Cond} {own : String} {index n maxL : Nat} {y : MethodName} {bytes : ByteArray} {ret : Option FieldType} (hl : Cond.methodLink own index y ∈ xU) (hy : xYS y bytes maxL ret n) : GoodIn (w0 :: xU) (va_wsS own index y (.code y bytes maxL ret :: xU)) := by
  intro w hw
  rcases List.mem_append.mp hw with hw | hw
  · simp only [List.mem_cons, List.not_mem_nil, or_false] at hw
    rcases hw with rfl | rfl | rfl
    · exact xgood hl
    · exact xgood hy.1.1
    · exact xgood hy.1.2.1
  · rcases List.mem_cons.mp hw with rfl | hw
    · exact xgood hy.1.2.2
    · exact xgood hw
theorem xgN {w0 : Cond} {n maxL : Nat} {y : MethodName} {bytes : ByteArray} {ret : Option FieldType} (hy : xYS y bytes maxL ret n) : GoodIn (w0 :: xU) (.code y bytes maxL ret :: xU) := by
  intro w hw
  rcases List.mem_cons.mp hw with rfl | hw
  · exact xgood hy.1.2.2
  · exact xgood hw
section XC
variable {p : Program} {l : Launch} {e : Env} {R : Room} {s : State} {m : MethodId} {args : Array Value} {below : List Frame} {meth : Method} {c : Code} {H : Heap} {locs : List Loc} {cells slots : Nat} {Q : State → Prop}
variable {cc : ByteArray} {nL pc : Nat} {ls : Array Slot} {rest st0 : List Value} {a : Array Value} {A : Nat → Prop} {D : va_G} {w wc w1 wn : va_W} {K : State → Prop}
theorem xri {r : Int32} (hr : va_Run p l e R s m args below meth c H locs cells slots 0 0 (F0 m pc ls st0) rest (va_Qi (fun (r' : Int32) (_ : Unit) => r' = r) (fun _ t => va_P D vwCl w1 t.heap) (va_A wc H.size) a) (va_A wc H.size)) (hP : va_P D vwCl w H) (hD : va_D A w) (hS : va_S A s.heap H locs) (hA : ∀ q : Nat, s.heap.size ≤ q → A q)
    (is : List Nat) (hC : is.map (fun i => w[i]?) = wc.map some) (hn : va_nd is = true) (had : w1.map Prod.fst = wc.map Prod.fst) (hwn : xset w is w1 = wn)
    (kk : ∀ (H1 : Heap) (locs1 : List Loc), va_P D vwCl wn H1 → va_D A wn → va_S A s.heap H1 locs1 → W p l e R s m args below meth c H1 locs1 cells slots Q (F0 m (pc + 3) ls (.int r :: rest))) : W p l e R s m args below meth c H locs cells slots Q (F0 m pc ls st0) := by
  have hFc := va_free hD hS hA is hC
  refine va_calli hr hS (fun q _ h => hFc q h) hFc (fun r' u t H1 locs1 ht hvm hw hB hz hk hS1 => ?_)
  subst hw
  have hB : va_P D vwCl w1 H1 := by rw [← ht]; exact hB
  obtain ⟨hP', hD'⟩ := xset_ok hP hD is hC hn had hk hB
  rw [hwn] at hP' hD'
  exact kk H1 locs1 hP' hD' hS1
theorem xrz {r : Int32} (hr : va_Run p l e R s m args below meth c H locs cells slots 0 0 (F0 m pc ls st0) rest (va_Qi (fun (r' : Int32) (_ : Unit) => r' = r ∧ x01 r) (fun _ t => va_P D vwCl w1 t.heap) (va_A wc H.size) a) (va_A wc H.size)) (hP : va_P D vwCl w H) (hD : va_D A w) (hS : va_S A s.heap H locs) (hA : ∀ q : Nat, s.heap.size ≤ q → A q)
    (is : List Nat) (hC : is.map (fun i => w[i]?) = wc.map some) (hn : va_nd is = true) (had : w1.map Prod.fst = wc.map Prod.fst) (hwn : xset w is w1 = wn)
    (kk : ∀ (H1 : Heap) (locs1 : List Loc), va_P D vwCl wn H1 → va_D A wn → va_S A s.heap H1 locs1 → x01 r → W p l e R s m args below meth c H1 locs1 cells slots Q (F0 m (pc + 3) ls (.int r :: rest))) : W p l e R s m args below meth c H locs cells slots Q (F0 m pc ls st0) := by
  have hFc := va_free hD hS hA is hC
  refine va_calli hr hS (fun q _ h => hFc q h) hFc (fun r' u t H1 locs1 ht hvm hw hB hz hk hS1 => ?_)
  obtain ⟨hw, h01⟩ := hw
  subst hw
  have hB : va_P D vwCl w1 H1 := by rw [← ht]; exact hB
  obtain ⟨hP', hD'⟩ := xset_ok hP hD is hC hn had hk hB
  rw [hwn] at hP' hD'
  exact kk H1 locs1 hP' hD' hS1 h01
theorem xrl {r : Int64} (hr : va_Run p l e R s m args below meth c H locs cells slots 0 0 (F0 m pc ls st0) rest (va_Ql (fun (r' : Int64) (_ : Unit) => r' = r) (fun _ t => va_P D vwCl w1 t.heap) (va_A wc H.size) a) (va_A wc H.size)) (hP : va_P D vwCl w H) (hD : va_D A w) (hS : va_S A s.heap H locs) (hA : ∀ q : Nat, s.heap.size ≤ q → A q)
    (is : List Nat) (hC : is.map (fun i => w[i]?) = wc.map some) (hn : va_nd is = true) (had : w1.map Prod.fst = wc.map Prod.fst) (hwn : xset w is w1 = wn)
    (kk : ∀ (H1 : Heap) (locs1 : List Loc), va_P D vwCl wn H1 → va_D A wn → va_S A s.heap H1 locs1 → W p l e R s m args below meth c H1 locs1 cells slots Q (F0 m (pc + 3) ls (.long r :: rest))) : W p l e R s m args below meth c H locs cells slots Q (F0 m pc ls st0) := by
  have hFc := va_free hD hS hA is hC
  refine va_calll hr hS (fun q _ h => hFc q h) hFc (fun r' u t H1 locs1 ht hvm hw hB hz hk hS1 => ?_)
  subst hw
  have hB : va_P D vwCl w1 H1 := by rw [← ht]; exact hB
  obtain ⟨hP', hD'⟩ := xset_ok hP hD is hC hn had hk hB
  rw [hwn] at hP' hD'
  exact kk H1 locs1 hP' hD' hS1
theorem xrv (hr : va_Run p l e R s m args below meth c H locs cells slots 0 0 (F0 m pc ls st0) rest (va_Qv (fun (_ : Unit) => True) (fun _ t => va_P D vwCl w1 t.heap) (va_A wc H.size) a) (va_A wc H.size)) (hP : va_P D vwCl w H) (hD : va_D A w) (hS : va_S A s.heap H locs) (hA : ∀ q : Nat, s.heap.size ≤ q → A q)
    (is : List Nat) (hC : is.map (fun i => w[i]?) = wc.map some) (hn : va_nd is = true) (had : w1.map Prod.fst = wc.map Prod.fst) (hwn : xset w is w1 = wn)
    (kk : ∀ (H1 : Heap) (locs1 : List Loc), va_P D vwCl wn H1 → va_D A wn → va_S A s.heap H1 locs1 → W p l e R s m args below meth c H1 locs1 cells slots Q (F0 m (pc + 3) ls rest)) : W p l e R s m args below meth c H locs cells slots Q (F0 m pc ls st0) := by
  have hFc := va_free hD hS hA is hC
  refine va_callv hr hS (fun q _ h => hFc q h) hFc (fun u t H1 locs1 ht hvm hw hB hz hk hS1 => ?_)
  have hB : va_P D vwCl w1 H1 := by rw [← ht]; exact hB
  obtain ⟨hP', hD'⟩ := xset_ok hP hD is hC hn had hk hB
  rw [hwn] at hP' hD'
  exact kk H1 locs1 hP' hD' hS1
/-- a call of an instance method, ready to run -/
theorem xrunV {w0 : Cond} {y : MethodName} {bytes : ByteArray} {maxL index n : Nat} {ret : Option FieldType} {rm : Room} {Qc : Array Value → State → Outcome → State → Prop} {free : Addr → Prop} {own C : String} {b : Addr} {As : List Value} {tys : List (ClassId × FieldType)} (hM : Met l y (.code y bytes maxL ret :: xU) rm (va_Pc (.ref b :: As) (xPre K D H.size wc)) Qc 0 0 free) (hfix : CallFix p m c cc nL s args (w0 :: xU) own) (hl : Cond.methodLink own index y ∈ xU) (hy : xYV y C bytes maxL ret n) (hrm : rm.cells = 0 ∧ rm.slots = 0) (hR : rm.frames + 1 ≤ R.frames ∧ 8 + (maxL + 11) + rm.locals ≤ R.locals)
    (hKb : xKk K) (hKU : ∀ U : State, U.heap = H → s.WarmedH U.vm → K U) (hK : va_K D vwCl tys s) (hP : va_P D vwCl w H) (hD : va_D A w) (is : List Nat) (hC : is.map (fun i => w[i]?) = wc.map some) (hn : va_nd is = true) (q0 ci : Nat) {fs : List Value} {qc : vw_C} (he : w[q0]? = some (b, .inr (ci, fs))) (hc : vwCl[ci]? = some qc) (hcn : qc.1 = C)
    (hAs : As.length = n) (hsize : ls.size = nL) (hst : st0 = As.reverse ++ .ref b :: rest) (hW : (rest.map fun v => v.category).sum ≤ 8) (hdg : decode cc pc = .ok (.invokevirtual index, 3)) (hf : cells ≤ R.cells ∧ slots ≤ R.slots) :
    va_Run p l e R s m args below meth c H locs cells slots 0 0 (F0 m pc ls st0) rest (Qc (Value.ref b :: As).toArray) free :=
  va_runV hfix hM (cwV n hfix.2.2.2.2 (xgV hl hy) rfl hrm.1 hrm.2 hy.2 hR) ⟨xpre_blind hKb, by obtain ⟨cell, h1, h2, h3⟩ := va_recv hK hP hc he; exact ⟨cell, h1, h2, hcn ▸ h3⟩, xpre_at hKU hP hD is hC hn⟩ rfl hAs hsize hst (by show 2 * 0 + _ ≤ 8; omega) hdg hf
theorem xrunS {w0 : Cond} {y : MethodName} {bytes : ByteArray} {maxL index n : Nat} {ret : Option FieldType} {rm : Room} {Qc : Array Value → State → Outcome → State → Prop} {free : Addr → Prop} {own : String} {As : List Value} (hM : Met l y (.code y bytes maxL ret :: xU) rm (va_Pc As (xPre K D H.size wc)) Qc 0 0 free) (hfix : CallFix p m c cc nL s args (w0 :: xU) own) (hl : Cond.methodLink own index y ∈ xU) (hy : xYS y bytes maxL ret n) (hrm : rm.cells = 0 ∧ rm.slots = 0) (hR : rm.frames + 1 ≤ R.frames ∧ 8 + (maxL + 11) + rm.locals ≤ R.locals)
    (hKb : xKk K) (hKU : ∀ U : State, U.heap = H → s.WarmedH U.vm → K U) (hP : va_P D vwCl w H) (hD : va_D A w) (is : List Nat) (hC : is.map (fun i => w[i]?) = wc.map some) (hn : va_nd is = true)
    (hAs : As.length = n) (hsize : ls.size = nL) (hst : st0 = As.reverse ++ rest) (hW : (rest.map fun v => v.category).sum ≤ 8) (hdg : decode cc pc = .ok (.invokestatic index, 3)) (hf : cells ≤ R.cells ∧ slots ≤ R.slots) :
    va_Run p l e R s m args below meth c H locs cells slots 0 0 (F0 m pc ls st0) rest (Qc As.toArray) free :=
  va_runS hfix hM (va_cwS n hfix.2.2.2.2 (xgS hl hy) rfl hrm.1 hrm.2 hy.2 hR) ⟨xpre_blind hKb, xpre_at hKU hP hD is hC hn⟩ rfl hAs hsize hst (by show 2 * 0 + _ ≤ 8; omega) hdg hf
theorem xrunN {w0 : Cond} {y : MethodName} {bytes : ByteArray} {maxL index n : Nat} {ret : Option FieldType} {rm : Room} {Qc : Array Value → State → Outcome → State → Prop} {free : Addr → Prop} {own : String} {As : List Value} (hM : Met l y (.code y bytes maxL ret :: xU) rm (va_Pc As (xPre K D H.size wc)) Qc 0 0 free) (hfix : CallFix p m c cc nL s args (w0 :: xU) own) (hl : va_Nw (.methodLinkNest own index y "FairNext") s) (hy : xYS y bytes maxL ret n) (hrm : rm.cells = 0 ∧ rm.slots = 0) (hR : rm.frames + 1 ≤ R.frames ∧ 8 + (maxL + 11) + rm.locals ≤ R.locals)
    (hKb : xKk K) (hKU : ∀ U : State, U.heap = H → s.WarmedH U.vm → K U) (hP : va_P D vwCl w H) (hD : va_D A w) (is : List Nat) (hC : is.map (fun i => w[i]?) = wc.map some) (hn : va_nd is = true)
    (hAs : As.length = n) (hsize : ls.size = nL) (hst : st0 = As.reverse ++ rest) (hW : (rest.map fun v => v.category).sum ≤ 8) (hdg : decode cc pc = .ok (.invokestatic index, 3)) (hf : cells ≤ R.cells ∧ slots ≤ R.slots) :
    va_Run p l e R s m args below meth c H locs cells slots 0 0 (F0 m pc ls st0) rest (Qc As.toArray) free :=
  va_runSN hfix hM ⟨va_cnB n hfix.2.2.2.2 (xgN hy) rfl hrm.1 hrm.2 hl (hfix.2.2.2.2 _ (List.mem_cons_of_mem _ hy.1.2.1)) hy.2 hR, hfix.2.2.2.2 _ (List.mem_cons_of_mem _ hy.1.1), trivial⟩ ⟨xpre_blind hKb, xpre_at hKU hP hD is hC hn⟩ rfl hAs hsize hst (by show 2 * 0 + _ ≤ 8; omega) hdg hf
/-! fields and rows -/
theorem xget {w0 : Cond} {own ref C n d : String} {T : u_T} {N ci index ad : Nat} {tys : List (ClassId × FieldType)} (hfix : CallFix p m c cc nL s args (w0 :: xU) own) (hin : ∀ w ∈ u_ws C T N, w ∈ xU) (hK : va_K D vwCl tys s) (hP : va_P D vwCl w H) (q0 : Nat) {fs : List Value} (he : w[q0]? = some (ad, .inr (ci, fs))) (hc : vwCl[ci]? = some (C, T, N)) (k : Nat) (hk : k < N) (hT : ((T k).1, (T k).2.1, (T k).2.2.1) = (ref, n, d)) (hlink : Cond.fieldLink own index ref n d ∈ xU) {v : Value} (hv : fs[k]? = some v) (hdg : decode cc pc = .ok (.getfield index, 3))
    (kk : W p l e R s m args below meth c H locs cells slots Q (F0 m (pc + 3) ls (v :: rest))) : W p l e R s m args below meth c H locs cells slots Q (F0 m pc ls (.ref ad :: rest)) := by
  have e1 : (T k).1 = ref := congrArg Prod.fst hT
  have e2 : (T k).2.1 = n := congrArg (fun z => z.2.1) hT
  have e3 : (T k).2.2.1 = d := congrArg (fun z => z.2.2) hT
  exact va_get (D := D) (ci := ci) (v := v) (C := C) (T := T) (N := N) (ref := ref) hfix.1 hfix.2.1 hfix.2.2.2.2 (fun w h => List.mem_cons_of_mem _ (hin w h)) hfix.2.2.2.1 hK hP q0 he hc k hk (hfix.2.2.2.2 _ (List.mem_cons_of_mem _ (by rw [e2, e3]; exact hlink))) (fun _ h9 => by rw [← e1]; exact h9) hv hdg kk
theorem xput {w0 : Cond} {own ref C n d : String} {T : u_T} {N ci index ad : Nat} {tys : List (ClassId × FieldType)} (hfix : CallFix p m c cc nL s args (w0 :: xU) own) (hin : ∀ w ∈ u_ws C T N, w ∈ xU) (ty0 : Nat → FieldType) (hty : ∀ k, k < N → parseFieldDescriptor (T k).2.2.1 = some (ty0 k)) (hnm : ∀ a, a < N → ∀ b, b < N → a ≠ b → (T a).2.1 ≠ (T b).2.1) (hK : va_K D vwCl tys s) (hP : va_P D vwCl w H) (hD : va_D A w) (hS : va_S A s.heap H locs) (q0 : Nat) {fs : List Value} (he : w[q0]? = some (ad, .inr (ci, fs))) (hc : vwCl[ci]? = some (C, T, N)) (k : Nat) (hk : k < N) (hT : ((T k).1, (T k).2.1, (T k).2.2.1) = (ref, n, d)) (hfin : (T k).2.2.2 = false) (hlink : Cond.fieldLink own index ref n d ∈ xU) {ty : FieldType} {v : Value} (hd : ty0 k = ty) (hn : narrow ty v = v) (hfit : fits ty v = true) (hlen : k < fs.length) (hdg : decode cc pc = .ok (.putfield index, 3)) (hwn : w.set q0 (ad, .inr (ci, fs.set k v)) = wn)
    (kk : ∀ (H1 : Heap) (locs1 : List Loc), va_P D vwCl wn H1 → va_D A wn → va_S A s.heap H1 locs1 → W p l e R s m args below meth c H1 locs1 cells slots Q (F0 m (pc + 3) ls rest)) : W p l e R s m args below meth c H locs cells slots Q (F0 m pc ls (v :: .ref ad :: rest)) := by
  have e1 : (T k).1 = ref := congrArg Prod.fst hT
  have e2 : (T k).2.1 = n := congrArg (fun z => z.2.1) hT
  have e3 : (T k).2.2.1 = d := congrArg (fun z => z.2.2) hT
  subst hwn
  exact va_put (D := D) (ci := ci) (v := v) (ty := ty) (C := C) (T := T) (N := N) (ref := ref) hfix.1 hfix.2.1 hfix.2.2.2.2 (fun w h => List.mem_cons_of_mem _ (hin w h)) ty0 hty hnm hfix.2.2.2.1 hK hP hD hS q0 he hc k hk (hfix.2.2.2.2 _ (List.mem_cons_of_mem _ (by rw [e2, e3]; exact hlink))) (fun _ h9 => by rw [← e1]; exact h9) hfin (by rw [← hd]; exact hty k hk) hn hfit hlen hdg kk
end XC
/-! calls that change no cell -/
theorem xset_id : ∀ (is : List Nat) (wc w : va_W), is.map (fun i => w[i]?) = wc.map some → xset w is wc = w
  | [], wc, w, _ => by cases wc <;> simp [xset]
  | i :: is, [], w, _ => by simp [xset]
  | i :: is, q :: wc, w, h => by
    simp only [List.map_cons, List.cons.injEq] at h
    have e : w.set i q = w := by
      apply List.ext_getElem?
      intro n
      rw [List.getElem?_set]
      split
      · rename_i e
        subst e
        split
        · exact h.1.symm
        · rename_i hlt
          rw [List.getElem?_eq_none (by omega)] at h
          cases h.1
      · rfl
    rw [xset, e]
    exact xset_id is wc w h.2
section XC0
variable {p : Program} {l : Launch} {e : Env} {R : Room} {s : State} {m : MethodId} {args : Array Value} {below : List Frame} {meth : Method} {c : Code} {H : Heap} {locs : List Loc} {cells slots : Nat} {Q : State → Prop}
variable {pc : Nat} {ls : Array Slot} {rest st0 : List Value} {a : Array Value} {A : Nat → Prop} {D : va_G} {w wc : va_W}
theorem xri0 {r : Int32} (hr : va_Run p l e R s m args below meth c H locs cells slots 0 0 (F0 m pc ls st0) rest (va_Qi (fun (r' : Int32) (_ : Unit) => r' = r) (fun _ t => va_P D vwCl wc t.heap) (va_A wc H.size) a) (va_A wc H.size)) (hP : va_P D vwCl w H) (hD : va_D A w) (hS : va_S A s.heap H locs) (hA : ∀ q : Nat, s.heap.size ≤ q → A q) (is : List Nat) (hC : is.map (fun i => w[i]?) = wc.map some) (hn : va_nd is = true)
    (kk : ∀ (H1 : Heap) (locs1 : List Loc), va_P D vwCl w H1 → va_D A w → va_S A s.heap H1 locs1 → W p l e R s m args below meth c H1 locs1 cells slots Q (F0 m (pc + 3) ls (.int r :: rest))) : W p l e R s m args below meth c H locs cells slots Q (F0 m pc ls st0) := xri hr hP hD hS hA is hC hn rfl (xset_id is wc w hC) kk
theorem xrz0 {r : Int32} (hr : va_Run p l e R s m args below meth c H locs cells slots 0 0 (F0 m pc ls st0) rest (va_Qi (fun (r' : Int32) (_ : Unit) => r' = r ∧ x01 r) (fun _ t => va_P D vwCl wc t.heap) (va_A wc H.size) a) (va_A wc H.size)) (hP : va_P D vwCl w H) (hD : va_D A w) (hS : va_S A s.heap H locs) (hA : ∀ q : Nat, s.heap.size ≤ q → A q) (is : List Nat) (hC : is.map (fun i => w[i]?) = wc.map some) (hn : va_nd is = true)
    (kk : ∀ (H1 : Heap) (locs1 : List Loc), va_P D vwCl w H1 → va_D A w → va_S A s.heap H1 locs1 → x01 r → W p l e R s m args below meth c H1 locs1 cells slots Q (F0 m (pc + 3) ls (.int r :: rest))) : W p l e R s m args below meth c H locs cells slots Q (F0 m pc ls st0) := xrz hr hP hD hS hA is hC hn rfl (xset_id is wc w hC) kk
theorem xrl0 {r : Int64} (hr : va_Run p l e R s m args below meth c H locs cells slots 0 0 (F0 m pc ls st0) rest (va_Ql (fun (r' : Int64) (_ : Unit) => r' = r) (fun _ t => va_P D vwCl wc t.heap) (va_A wc H.size) a) (va_A wc H.size)) (hP : va_P D vwCl w H) (hD : va_D A w) (hS : va_S A s.heap H locs) (hA : ∀ q : Nat, s.heap.size ≤ q → A q) (is : List Nat) (hC : is.map (fun i => w[i]?) = wc.map some) (hn : va_nd is = true)
    (kk : ∀ (H1 : Heap) (locs1 : List Loc), va_P D vwCl w H1 → va_D A w → va_S A s.heap H1 locs1 → W p l e R s m args below meth c H1 locs1 cells slots Q (F0 m (pc + 3) ls (.long r :: rest))) : W p l e R s m args below meth c H locs cells slots Q (F0 m pc ls st0) := xrl hr hP hD hS hA is hC hn rfl (xset_id is wc w hC) kk
end XC0
/-! early ends of loops, joins without checks -/
def bs0 {ρ τ : Type} (x : Option (Unit ⊕ ρ)) (k : Option τ) (kr : ρ → Option τ) : Option τ := match x with | some (.inl _) => k | some (.inr q) => kr q | none => none
def bs1 {α ρ τ : Type} (x : Option (α ⊕ ρ)) (k : α → Option τ) (kr : ρ → Option τ) : Option τ := match x with | some (.inl a) => k a | some (.inr q) => kr q | none => none
def bs2 {α β ρ τ : Type} (x : Option ((α × β) ⊕ ρ)) (k : α → β → Option τ) (kr : ρ → Option τ) : Option τ := match x with | some (.inl (a, b)) => k a b | some (.inr q) => kr q | none => none
def bs3 {α β δ ρ τ : Type} (x : Option ((α × β × δ) ⊕ ρ)) (k : α → β → δ → Option τ) (kr : ρ → Option τ) : Option τ := match x with | some (.inl (a, b, d)) => k a b d | some (.inr q) => kr q | none => none
theorem bs0_e {ρ τ : Type} {x : Option (Unit ⊕ ρ)} {k : Option τ} {kr : ρ → Option τ} {r : τ} (h : bs0 x k kr = some r) : (x = some (.inl ()) ∧ k = some r) ∨ ∃ q, x = some (.inr q) ∧ kr q = some r := by
  cases x with
  | none => cases h
  | some a => cases a with
    | inl a => exact Or.inl ⟨rfl, h⟩
    | inr q => exact Or.inr ⟨q, rfl, h⟩
theorem bs1_e {α ρ τ : Type} {x : Option (α ⊕ ρ)} {k : α → Option τ} {kr : ρ → Option τ} {r : τ} (h : bs1 x k kr = some r) : (∃ a, x = some (.inl a) ∧ k a = some r) ∨ ∃ q, x = some (.inr q) ∧ kr q = some r := by
  cases x with
  | none => cases h
  | some a => cases a with
    | inl a => exact Or.inl ⟨a, rfl, h⟩
    | inr q => exact Or.inr ⟨q, rfl, h⟩
theorem bs2_e {α β ρ τ : Type} {x : Option ((α × β) ⊕ ρ)} {k : α → β → Option τ} {kr : ρ → Option τ} {r : τ} (h : bs2 x k kr = some r) : (∃ a b, x = some (.inl (a, b)) ∧ k a b = some r) ∨ ∃ q, x = some (.inr q) ∧ kr q = some r := by
  cases x with
  | none => cases h
  | some a => cases a with
    | inl a => obtain ⟨a, b⟩ := a; exact Or.inl ⟨a, b, rfl, h⟩
    | inr q => exact Or.inr ⟨q, rfl, h⟩
theorem bs3_e {α β δ ρ τ : Type} {x : Option ((α × β × δ) ⊕ ρ)} {k : α → β → δ → Option τ} {kr : ρ → Option τ} {r : τ} (h : bs3 x k kr = some r) : (∃ a b d, x = some (.inl (a, b, d)) ∧ k a b d = some r) ∨ ∃ q, x = some (.inr q) ∧ kr q = some r := by
  cases x with
  | none => cases h
  | some a => cases a with
    | inl a => obtain ⟨a, b, d⟩ := a; exact Or.inl ⟨a, b, d, rfl, h⟩
    | inr q => exact Or.inr ⟨q, rfl, h⟩
def lt1 {α γ : Type} (x : α) (k : α → γ) : γ := k x
def lt2 {α β γ : Type} (x : α × β) (k : α → β → γ) : γ := k x.1 x.2
def lt3 {α β δ γ : Type} (x : α × β × δ) (k : α → β → δ → γ) : γ := k x.1 x.2.1 x.2.2
def lt4 {α β δ ε γ : Type} (x : α × β × δ × ε) (k : α → β → δ → ε → γ) : γ := k x.1 x.2.1 x.2.2.1 x.2.2.2
theorem lt1_e {α γ : Type} {x : α} {k : α → γ} {r : γ} (h : lt1 x k = r) : ∃ a, x = a ∧ k a = r := ⟨x, rfl, h⟩
theorem lt2_e {α β γ : Type} {x : α × β} {k : α → β → γ} {r : γ} (h : lt2 x k = r) : ∃ a b, x = (a, b) ∧ k a b = r := ⟨x.1, x.2, rfl, h⟩
theorem lt3_e {α β δ γ : Type} {x : α × β × δ} {k : α → β → δ → γ} {r : γ} (h : lt3 x k = r) : ∃ a b d, x = (a, b, d) ∧ k a b d = r := ⟨x.1, x.2.1, x.2.2, rfl, h⟩
theorem lt4_e {α β δ ε γ : Type} {x : α × β × δ × ε} {k : α → β → δ → ε → γ} {r : γ} (h : lt4 x k = r) : ∃ a b d e, x = (a, b, d, e) ∧ k a b d e = r := ⟨x.1, x.2.1, x.2.2.1, x.2.2.2, rfl, h⟩
def xrem (x y : Int32) : Int32 := x - x / y * y
