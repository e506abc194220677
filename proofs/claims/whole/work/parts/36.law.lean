/-! ===== the law: every step keeps both sides alike ===== -/
theorem bd1_t {T0 γ : Type} {x : Option (T0)} {k : T0 → Option γ} {a0 : T0} {y : Option γ} (e : x = some a0) (h : k a0 = y) : bd1 x k = y := by
  rw [e]; exact h
theorem bd2_t {T0 T1 γ : Type} {x : Option (T0 × T1)} {k : T0 → T1 → Option γ} {a0 : T0} {a1 : T1} {y : Option γ} (e : x = some (a0, a1)) (h : k a0 a1 = y) : bd2 x k = y := by
  rw [e]; exact h
theorem bd3_t {T0 T1 T2 γ : Type} {x : Option (T0 × T1 × T2)} {k : T0 → T1 → T2 → Option γ} {a0 : T0} {a1 : T1} {a2 : T2} {y : Option γ} (e : x = some (a0, a1, a2)) (h : k a0 a1 a2 = y) : bd3 x k = y := by
  rw [e]; exact h
theorem bd4_t {T0 T1 T2 T3 γ : Type} {x : Option (T0 × T1 × T2 × T3)} {k : T0 → T1 → T2 → T3 → Option γ} {a0 : T0} {a1 : T1} {a2 : T2} {a3 : T3} {y : Option γ} (e : x = some (a0, a1, a2, a3)) (h : k a0 a1 a2 a3 = y) : bd4 x k = y := by
  rw [e]; exact h
theorem bd5_t {T0 T1 T2 T3 T4 γ : Type} {x : Option (T0 × T1 × T2 × T3 × T4)} {k : T0 → T1 → T2 → T3 → T4 → Option γ} {a0 : T0} {a1 : T1} {a2 : T2} {a3 : T3} {a4 : T4} {y : Option γ} (e : x = some (a0, a1, a2, a3, a4)) (h : k a0 a1 a2 a3 a4 = y) : bd5 x k = y := by
  rw [e]; exact h
theorem bd7_t {T0 T1 T2 T3 T4 T5 T6 γ : Type} {x : Option (T0 × T1 × T2 × T3 × T4 × T5 × T6)} {k : T0 → T1 → T2 → T3 → T4 → T5 → T6 → Option γ} {a0 : T0} {a1 : T1} {a2 : T2} {a3 : T3} {a4 : T4} {a5 : T5} {a6 : T6} {y : Option γ} (e : x = some (a0, a1, a2, a3, a4, a5, a6)) (h : k a0 a1 a2 a3 a4 a5 a6 = y) : bd7 x k = y := by
  rw [e]; exact h
theorem bd8_t {T0 T1 T2 T3 T4 T5 T6 T7 γ : Type} {x : Option (T0 × T1 × T2 × T3 × T4 × T5 × T6 × T7)} {k : T0 → T1 → T2 → T3 → T4 → T5 → T6 → T7 → Option γ} {a0 : T0} {a1 : T1} {a2 : T2} {a3 : T3} {a4 : T4} {a5 : T5} {a6 : T6} {a7 : T7} {y : Option γ} (e : x = some (a0, a1, a2, a3, a4, a5, a6, a7)) (h : k a0 a1 a2 a3 a4 a5 a6 a7 = y) : bd8 x k = y := by
  rw [e]; exact h
theorem bd10_t {T0 T1 T2 T3 T4 T5 T6 T7 T8 T9 γ : Type} {x : Option (T0 × T1 × T2 × T3 × T4 × T5 × T6 × T7 × T8 × T9)} {k : T0 → T1 → T2 → T3 → T4 → T5 → T6 → T7 → T8 → T9 → Option γ} {a0 : T0} {a1 : T1} {a2 : T2} {a3 : T3} {a4 : T4} {a5 : T5} {a6 : T6} {a7 : T7} {a8 : T8} {a9 : T9} {y : Option γ} (e : x = some (a0, a1, a2, a3, a4, a5, a6, a7, a8, a9)) (h : k a0 a1 a2 a3 a4 a5 a6 a7 a8 a9 = y) : bd10 x k = y := by
  rw [e]; exact h
theorem bd15_t {T0 T1 T2 T3 T4 T5 T6 T7 T8 T9 T10 T11 T12 T13 T14 γ : Type} {x : Option (T0 × T1 × T2 × T3 × T4 × T5 × T6 × T7 × T8 × T9 × T10 × T11 × T12 × T13 × T14)} {k : T0 → T1 → T2 → T3 → T4 → T5 → T6 → T7 → T8 → T9 → T10 → T11 → T12 → T13 → T14 → Option γ} {a0 : T0} {a1 : T1} {a2 : T2} {a3 : T3} {a4 : T4} {a5 : T5} {a6 : T6} {a7 : T7} {a8 : T8} {a9 : T9} {a10 : T10} {a11 : T11} {a12 : T12} {a13 : T13} {a14 : T14} {y : Option γ} (e : x = some (a0, a1, a2, a3, a4, a5, a6, a7, a8, a9, a10, a11, a12, a13, a14)) (h : k a0 a1 a2 a3 a4 a5 a6 a7 a8 a9 a10 a11 a12 a13 a14 = y) : bd15 x k = y := by
  rw [e]; exact h
theorem bd19_t {T0 T1 T2 T3 T4 T5 T6 T7 T8 T9 T10 T11 T12 T13 T14 T15 T16 T17 T18 γ : Type} {x : Option (T0 × T1 × T2 × T3 × T4 × T5 × T6 × T7 × T8 × T9 × T10 × T11 × T12 × T13 × T14 × T15 × T16 × T17 × T18)} {k : T0 → T1 → T2 → T3 → T4 → T5 → T6 → T7 → T8 → T9 → T10 → T11 → T12 → T13 → T14 → T15 → T16 → T17 → T18 → Option γ} {a0 : T0} {a1 : T1} {a2 : T2} {a3 : T3} {a4 : T4} {a5 : T5} {a6 : T6} {a7 : T7} {a8 : T8} {a9 : T9} {a10 : T10} {a11 : T11} {a12 : T12} {a13 : T13} {a14 : T14} {a15 : T15} {a16 : T16} {a17 : T17} {a18 : T18} {y : Option γ} (e : x = some (a0, a1, a2, a3, a4, a5, a6, a7, a8, a9, a10, a11, a12, a13, a14, a15, a16, a17, a18)) (h : k a0 a1 a2 a3 a4 a5 a6 a7 a8 a9 a10 a11 a12 a13 a14 a15 a16 a17 a18 = y) : bd19 x k = y := by
  rw [e]; exact h
theorem ite_or {α : Type} {c : Prop} [Decidable c] {A B x : α} (h1 : c → A = x) (h2 : ¬ c → B = x) : (if c then A else B) = x := by
  by_cases h : c
  · rw [if_pos h]; exact h1 h
  · rw [if_neg h]; exact h2 h
theorem ifs_t {α : Type} {c : Prop} [Decidable c] {A B x : α} (h : c) (e : A = x) : (if c then A else B) = x := by
  rw [if_pos h]; exact e
theorem gd_t0 {α : Type} {j L : Nat} {K x : Option α} (h : j + 5 ≤ L) (hL : L ≤ 2560) (e : K = x) : gd (nI j) L K = x := by
  rw [gd_nI (by omega) (by omega)]; exact e
theorem gd_t1 {α : Type} {j L : Nat} {K x : Option α} (h : j + 5 ≤ L) (hL : L ≤ 2560) (e : K = x) : gd (nI j + (1 : Int32)) L K = x := by
  rw [show nI j + (1 : Int32) = nI (j + 1) from nI_add j 1, gd_nI (by omega) (by omega)]; exact e
theorem gd_t2 {α : Type} {j L : Nat} {K x : Option α} (h : j + 5 ≤ L) (hL : L ≤ 2560) (e : K = x) : gd (nI j + (2 : Int32)) L K = x := by
  rw [show nI j + (2 : Int32) = nI (j + 2) from nI_add j 2, gd_nI (by omega) (by omega)]; exact e
theorem gd_t3 {α : Type} {j L : Nat} {K x : Option α} (h : j + 5 ≤ L) (hL : L ≤ 2560) (e : K = x) : gd (nI j + (3 : Int32)) L K = x := by
  rw [show nI j + (3 : Int32) = nI (j + 3) from nI_add j 3, gd_nI (by omega) (by omega)]; exact e
theorem gd_t4 {α : Type} {j L : Nat} {K x : Option α} (h : j + 5 ≤ L) (hL : L ≤ 2560) (e : K = x) : gd (nI j + (4 : Int32)) L K = x := by
  rw [show nI j + (4 : Int32) = nI (j + 4) from nI_add j 4, gd_nI (by omega) (by omega)]; exact e
/-- whatever state both sides are alike in, k ends with 1 from it at j -/
def GK (j : Nat) (k : Int32 → Int32 → Int32 → Int32 → Int32 → Int32 → (Nat → Int32) → (Nat → Int32) → (Nat → Int32) → Int32 → Int32 → (Nat → Int32) → (Nat → Int32) → (Nat → Int32) → Int32 → Int32 → (Nat → Int32) → (Nat → Int32) → (Nat → Int32) → Int32 → Int32 → Int32 → (Nat → Int32) → Int32 → (Nat → Int32) → (Nat → Int32) → (Nat → Int32) → (Nat → Int64) → (Nat → Int32) → (Nat → Int32) → (Nat → Int32) → Int32 → Int32 → Int32 → Int32 → Int32 → (Nat → Int32) → (Nat → Int32) → (Nat → Int32) → Int32 → Int32 → Int32 → Int32 → Int32 → Int32 → Int32 → Int64 → Int32 → Int32 → Int32 → Int32 → Int32 → Int32 → Int32 → Int32 → Int32 → Int32 → Int32 → Int32 → Int32 → (Nat → Int32) → (Nat → Int32) → (Nat → Int32) → (Nat → Int32) → (Nat → Int32) → (Nat → Int32) → (Nat → Int32) → (Nat → Int32) → (Nat → Int32) → (Nat → Int32) → (Nat → Int32) → (Nat → Int32) → (Nat → Int32) → (Nat → Int32) → (Nat → Int64) → (Nat → Int32) → (Nat → Int32) → (Nat → Int32) → (Nat → Int32) → (Nat → Int32) → (Nat → Int32) → Option Int32) : Prop :=
  ∀ x : Int32, x = nI j → ∀ (n hc t rc c0 : Nat) (cd : Nat → Nat) (g : Nat → Option Nat) (mk : Nat → Nat) (vil mar hld sta mks rul : Nat → Int32) (z ik kz khc kn : Int32) (kvil kmar khld kr by6 by7 ce ro so si so2 si2 : Nat → Int32) (it it2 : Nat → Int64) (sr ss sz ho hu hz ra tr : Nat → Int32) (ch cn cp cf k1 k2 k3 k4 r0 r1 r2 r4 r5 r6 r7 mm m1 m2 m3 m5 mv : Int32) (r3 : Int64) (cv cm cl sa ah on rs rm rr sb sd mu sg : Nat → Int32), PX n hc cd g mk vil mar hld sta mks rul → PK ik kz khc kn kvil kmar khld kr → TP t by6 by7 → (rc ≤ 24 ∧ ∀ j, j < 3 * rc → ce j = ro j) → SH so si it so2 si2 it2 → SV sr ss sz ho hu hz → (c0 ≤ 30 ∧ AG c0 ra tr) → k x ik z kz (nI hc) (nI n) vil mar hld khc kn kvil kmar khld ch cn cv cm cl (nI t) cp cf by6 (nI rc) ce so si it sr ss sz (nI c0) k1 k2 k3 k4 ra sa ah (nI n) (nI hc) z (nI t) r0 r1 r2 r3 r4 r5 r6 r7 (nI rc) mm m1 m2 m3 (nI c0) m5 ik mv sta on mks rul by7 rs rm rr sb sd ro mu so2 si2 it2 ho hu hz tr kr sg = some 1
theorem GK_use {j : Nat} {k : Int32 → Int32 → Int32 → Int32 → Int32 → Int32 → (Nat → Int32) → (Nat → Int32) → (Nat → Int32) → Int32 → Int32 → (Nat → Int32) → (Nat → Int32) → (Nat → Int32) → Int32 → Int32 → (Nat → Int32) → (Nat → Int32) → (Nat → Int32) → Int32 → Int32 → Int32 → (Nat → Int32) → Int32 → (Nat → Int32) → (Nat → Int32) → (Nat → Int32) → (Nat → Int64) → (Nat → Int32) → (Nat → Int32) → (Nat → Int32) → Int32 → Int32 → Int32 → Int32 → Int32 → (Nat → Int32) → (Nat → Int32) → (Nat → Int32) → Int32 → Int32 → Int32 → Int32 → Int32 → Int32 → Int32 → Int64 → Int32 → Int32 → Int32 → Int32 → Int32 → Int32 → Int32 → Int32 → Int32 → Int32 → Int32 → Int32 → Int32 → (Nat → Int32) → (Nat → Int32) → (Nat → Int32) → (Nat → Int32) → (Nat → Int32) → (Nat → Int32) → (Nat → Int32) → (Nat → Int32) → (Nat → Int32) → (Nat → Int32) → (Nat → Int32) → (Nat → Int32) → (Nat → Int32) → (Nat → Int32) → (Nat → Int64) → (Nat → Int32) → (Nat → Int32) → (Nat → Int32) → (Nat → Int32) → (Nat → Int32) → (Nat → Int32) → Option Int32} (H : GK j k) {x : Int32} (hx : x = nI j) {n hc t rc c0 : Nat} {cd : Nat → Nat} {g : Nat → Option Nat} {mk : Nat → Nat} {vil mar hld sta mks rul : Nat → Int32} {z ik kz khc kn : Int32} {kvil kmar khld kr by6 by7 ce ro so si so2 si2 : Nat → Int32} {it it2 : Nat → Int64} {sr ss sz ho hu hz ra tr : Nat → Int32} {ch cn cp cf k1 k2 k3 k4 r0 r1 r2 r4 r5 r6 r7 mm m1 m2 m3 m5 mv : Int32} {r3 : Int64} {cv cm cl sa ah on rs rm rr sb sd mu sg : Nat → Int32} (P : PX n hc cd g mk vil mar hld sta mks rul) (K : PK ik kz khc kn kvil kmar khld kr) (T : TP t by6 by7) (R : rc ≤ 24 ∧ ∀ j, j < 3 * rc → ce j = ro j) (S : SH so si it so2 si2 it2) (Z : SV sr ss sz ho hu hz) (A : c0 ≤ 30 ∧ AG c0 ra tr) : k x ik z kz (nI hc) (nI n) vil mar hld khc kn kvil kmar khld ch cn cv cm cl (nI t) cp cf by6 (nI rc) ce so si it sr ss sz (nI c0) k1 k2 k3 k4 ra sa ah (nI n) (nI hc) z (nI t) r0 r1 r2 r3 r4 r5 r6 r7 (nI rc) mm m1 m2 m3 (nI c0) m5 ik mv sta on mks rul by7 rs rm rr sb sd ro mu so2 si2 it2 ho hu hz tr kr sg = some 1 :=
  H x hx n hc t rc c0 cd g mk vil mar hld sta mks rul z ik kz khc kn kvil kmar khld kr by6 by7 ce ro so si so2 si2 it it2 sr ss sz ho hu hz ra tr ch cn cp cf k1 k2 k3 k4 r0 r1 r2 r4 r5 r6 r7 mm m1 m2 m3 m5 mv r3 cv cm cl sa ah on rs rm rr sb sd mu sg P K T R S Z A
theorem T0 (a b : Nat → Int32) : TP 0 a b := ⟨by omega, fun j hj => by omega⟩
theorem rc_e {rc rc1 : Nat} {ce ro : Nat → Int32} (R : rc ≤ 24 ∧ ∀ j, j < 3 * rc → ce j = ro j) (h : rc1 = rc ∨ rc1 = 0) : rc1 ≤ 24 ∧ ∀ j, j < 3 * rc1 → ce j = ro j := by
  rcases h with rfl | rfl
  · exact R
  · exact ⟨by omega, fun j hj => by omega⟩
theorem law_in {L j : Nat} (h1 : L < 100000) (h2 : j < 100000) (h : ¬ Int32.ofNat L - 5 < nI j) : j + 5 ≤ L := by
  apply Classical.byContradiction
  intro c
  apply h
  show nI L - nI 5 < nI j
  by_cases c5 : L < 5
  · exact Int32.lt_of_lt_of_le (pk_sneg (by omega) c5) (nI_pos' (by omega))
  · rw [pk_sub (by omega)]
    exact nI_lt (by omega) (by omega)
set_option maxHeartbeats 8000000 in
set_option maxRecDepth 10000 in
theorem law_step {L j : Nat} {xs : Nat → Int32} {k : Int32 → Int32 → Int32 → Int32 → Int32 → Int32 → (Nat → Int32) → (Nat → Int32) → (Nat → Int32) → Int32 → Int32 → (Nat → Int32) → (Nat → Int32) → (Nat → Int32) → Int32 → Int32 → (Nat → Int32) → (Nat → Int32) → (Nat → Int32) → Int32 → Int32 → Int32 → (Nat → Int32) → Int32 → (Nat → Int32) → (Nat → Int32) → (Nat → Int32) → (Nat → Int64) → (Nat → Int32) → (Nat → Int32) → (Nat → Int32) → Int32 → Int32 → Int32 → Int32 → Int32 → (Nat → Int32) → (Nat → Int32) → (Nat → Int32) → Int32 → Int32 → Int32 → Int32 → Int32 → Int32 → Int32 → Int64 → Int32 → Int32 → Int32 → Int32 → Int32 → Int32 → Int32 → Int32 → Int32 → Int32 → Int32 → Int32 → Int32 → (Nat → Int32) → (Nat → Int32) → (Nat → Int32) → (Nat → Int32) → (Nat → Int32) → (Nat → Int32) → (Nat → Int32) → (Nat → Int32) → (Nat → Int32) → (Nat → Int32) → (Nat → Int32) → (Nat → Int32) → (Nat → Int32) → (Nat → Int32) → (Nat → Int64) → (Nat → Int32) → (Nat → Int32) → (Nat → Int32) → (Nat → Int32) → (Nat → Int32) → (Nat → Int32) → Option Int32} (hL : L ≤ 2560) (hj0 : j ≤ 2600) (hk : j + 5 ≤ L → GK (j + 5) k) : GK j (f_law_S L xs k) := by
  intro x hx n hc t rc c0 cd g mk vil mar hld sta mks rul z ik kz khc kn kvil kmar khld kr by6 by7 ce ro so si so2 si2 it it2 sr ss sz ho hu hz ra tr ch cn cp cf k1 k2 k3 k4 r0 r1 r2 r4 r5 r6 r7 mm m1 m2 m3 m5 mv r3 cv cm cl sa ah on rs rm rr sb sd mu sg P K T R S Z A
  subst hx
  unfold f_law_S
  refine ite_or (fun _ => rfl) (fun h0 => ?_)
  have hj : j + 5 ≤ L := law_in (by omega) (by omega) h0
  have HK := hk hj
  refine gd_t0 hj hL ?_
  refine ite_or (fun _ => ?_) (fun _ => ?_)
  · obtain ⟨r, t1, d1, d2, e1, e2, T1⟩ := op_feed T ((((xs (nI j + (1 : Int32)).toNatClampNeg).toInt64) <<< (((32 : Int32)).toInt64 &&& 63)) ||| (((xs (nI j + (2 : Int32)).toNatClampNeg).toInt64) &&& (4294967295 : Int64))) (xs (nI j + (3 : Int32)).toNatClampNeg)
    exact gd_t1 hj hL (gd_t2 hj hL (gd_t3 hj hL (bd3_t e1 (gd_t1 hj hL (gd_t2 hj hL (gd_t3 hj hL (bd3_t e2 (ifs_t rfl (GK_use HK (nI_add j 5) P K T1 R S Z A)))))))))
  refine ite_or (fun _ => ?_) (fun _ => ?_)
  · obtain ⟨r, n1, hc1, cd1, g1, mk1, rc1, vil1, mar1, hld1, sta1, mks1, rul1, cp1, cf1, ch1, cn1, cv1, cm1, cl1, s0, s1, s2, s3, s4, s5, s6, s7, rs1, rm1, rr1, e1, e2, P1, hrc⟩ := op_book (rc := rc) P T cp cf ch cn cv cm cl r0 r1 r2 r3 r4 r5 r6 r7 rs rm rr
    exact bd15_t e1 (bd19_t e2 (ifs_t rfl (GK_use HK (nI_add j 5) (t := 0) P1 K (T0 by6 by7) (rc_e R hrc) S Z A)))
  refine ite_or (fun _ => ?_) (fun _ => ?_)
  · obtain ⟨r, d1, d2, g1, e1, e2, P1⟩ := op_year P (xs (nI j + (1 : Int32)).toNatClampNeg) (xs (nI j + (2 : Int32)).toNatClampNeg)
    exact gd_t1 hj hL (gd_t2 hj hL (bd2_t e1 (gd_t1 hj hL (gd_t2 hj hL (bd2_t e2 (ifs_t rfl (GK_use HK (nI_add j 5) P1 K T R S Z A)))))))
  refine ite_or (fun _ => ?_) (fun _ => ?_)
  · obtain ⟨r, d1, d2, g1, e1, e2, P1⟩ := op_mark P (xs (nI j + (1 : Int32)).toNatClampNeg) (xs (nI j + (2 : Int32)).toNatClampNeg)
    exact gd_t1 hj hL (gd_t2 hj hL (bd2_t e1 (gd_t1 hj hL (gd_t2 hj hL (bd2_t e2 (ifs_t rfl (GK_use HK (nI_add j 5) P1 K T R S Z A)))))))
  refine ite_or (fun _ => ?_) (fun _ => ?_)
  · obtain ⟨r, e1, e2⟩ := op_yearOf P (xs (nI j + (1 : Int32)).toNatClampNeg) (xs (nI j + (2 : Int32)).toNatClampNeg)
    exact gd_t1 hj hL (gd_t2 hj hL (bd1_t e1 (gd_t1 hj hL (gd_t2 hj hL (bd1_t e2 (ifs_t rfl (GK_use HK (nI_add j 5) P K T R S Z A)))))))
  refine ite_or (fun _ => ?_) (fun _ => ?_)
  · obtain ⟨r, n1, e1, e2, P1⟩ := op_villages P (xs (nI j + (1 : Int32)).toNatClampNeg)
    exact gd_t1 hj hL (bd2_t e1 (gd_t1 hj hL (bd2_t e2 (ifs_t rfl (GK_use HK (nI_add j 5) P1 K T R S Z A)))))
  refine ite_or (fun _ => ?_) (fun _ => ?_)
  · obtain ⟨r, h1, c1, d1, d2, e1, e2, P1⟩ := op_hold P (xs (nI j + (1 : Int32)).toNatClampNeg) (xs (nI j + (2 : Int32)).toNatClampNeg) (xs (nI j + (3 : Int32)).toNatClampNeg) (xs (nI j + (4 : Int32)).toNatClampNeg)
    exact gd_t1 hj hL (gd_t2 hj hL (gd_t3 hj hL (gd_t4 hj hL (bd3_t e1 (gd_t1 hj hL (gd_t2 hj hL (gd_t3 hj hL (gd_t4 hj hL (bd3_t e2 (ifs_t rfl (GK_use HK (nI_add j 5) P1 K T R S Z A)))))))))))
  refine ite_or (fun _ => ?_) (fun _ => ?_)
  · obtain ⟨r, e1, e2⟩ := op_ruleOf P (xs (nI j + (1 : Int32)).toNatClampNeg) (xs (nI j + (2 : Int32)).toNatClampNeg)
    exact gd_t1 hj hL (gd_t2 hj hL (bd1_t e1 (gd_t1 hj hL (gd_t2 hj hL (bd1_t e2 (ifs_t rfl (GK_use HK (nI_add j 5) P K T R S Z A)))))))
  refine ite_or (fun _ => ?_) (fun _ => ?_)
  · obtain ⟨r, h1, c1, d1, d2, e1, e2, P1⟩ := op_drop P (xs (nI j + (1 : Int32)).toNatClampNeg)
    exact gd_t1 hj hL (bd3_t e1 (gd_t1 hj hL (bd3_t e2 (ifs_t rfl (GK_use HK (nI_add j 5) P1 K T R S Z A)))))
  refine ite_or (fun _ => ?_) (fun _ => ?_)
  · obtain ⟨r, e1, e2⟩ := op_says P (xs (nI j + (1 : Int32)).toNatClampNeg) (xs (nI j + (2 : Int32)).toNatClampNeg)
    exact gd_t1 hj hL (gd_t2 hj hL (bd1_t e1 (gd_t1 hj hL (gd_t2 hj hL (bd1_t e2 (ifs_t rfl (GK_use HK (nI_add j 5) P K T R S Z A)))))))
  refine ite_or (fun _ => ?_) (fun _ => ?_)
  · obtain ⟨r, e1, e2⟩ := op_run P (xs (nI j + (1 : Int32)).toNatClampNeg)
    exact gd_t1 hj hL (bd1_t e1 (gd_t1 hj hL (bd1_t e2 (ifs_t rfl (GK_use HK (nI_add j 5) P K T R S Z A)))))
  refine ite_or (fun _ => ?_) (fun _ => ?_)
  · obtain ⟨r, e1, e2⟩ := op_believed P (xs (nI j + (1 : Int32)).toNatClampNeg) (xs (nI j + (2 : Int32)).toNatClampNeg)
    exact gd_t1 hj hL (gd_t2 hj hL (bd1_t e1 (gd_t1 hj hL (gd_t2 hj hL (bd1_t e2 (ifs_t rfl (GK_use HK (nI_add j 5) P K T R S Z A)))))))
  refine ite_or (fun _ => ?_) (fun _ => ?_)
  · obtain ⟨r, d1, d2, e1, e2⟩ := op_on P (xs (nI j + (1 : Int32)).toNatClampNeg) (xs (nI j + (2 : Int32)).toNatClampNeg) ah on
    exact gd_t1 hj hL (gd_t2 hj hL (bd2_t e1 (gd_t1 hj hL (gd_t2 hj hL (bd2_t e2 (ifs_t rfl (GK_use HK (nI_add j 5) P K T R S Z A)))))))
  refine ite_or (fun _ => ?_) (fun _ => ?_)
  · obtain ⟨r, d1, d2, e1, e2⟩ := op_here P (xs (nI j + (1 : Int32)).toNatClampNeg) (xs (nI j + (2 : Int32)).toNatClampNeg) (xs (nI j + (3 : Int32)).toNatClampNeg) ah on
    exact gd_t1 hj hL (gd_t2 hj hL (gd_t3 hj hL (bd2_t e1 (gd_t1 hj hL (gd_t2 hj hL (gd_t3 hj hL (bd2_t e2 (ifs_t rfl (GK_use HK (nI_add j 5) P K T R S Z A)))))))))
  refine ite_or (fun _ => ?_) (fun _ => ?_)
  · obtain ⟨r, d1, d2, e1, e2⟩ := op_never P (xs (nI j + (1 : Int32)).toNatClampNeg) ah on
    exact gd_t1 hj hL (bd2_t e1 (gd_t1 hj hL (bd2_t e2 (ifs_t rfl (GK_use HK (nI_add j 5) P K T R S Z A)))))
  refine ite_or (fun _ => ?_) (fun _ => ?_)
  · obtain ⟨r, e1, e2⟩ := op_fits P (xs (nI j + (1 : Int32)).toNatClampNeg)
    exact gd_t1 hj hL (bd1_t e1 (gd_t1 hj hL (bd1_t e2 (ifs_t rfl (GK_use HK (nI_add j 5) P K T R S Z A)))))
  refine ite_or (fun _ => ?_) (fun _ => ?_)
  · obtain ⟨r, e1, e2⟩ := op_plainest P (xs (nI j + (1 : Int32)).toNatClampNeg) (xs (nI j + (2 : Int32)).toNatClampNeg)
    exact gd_t1 hj hL (gd_t2 hj hL (bd1_t e1 (gd_t1 hj hL (gd_t2 hj hL (bd1_t e2 (ifs_t rfl (GK_use HK (nI_add j 5) P K T R S Z A)))))))
  refine ite_or (fun _ => ?_) (fun _ => ?_)
  · obtain ⟨r, d1, d2, d3, e1, e2⟩ := op_odds P (xs (nI j + (1 : Int32)).toNatClampNeg) (xs (nI j + (2 : Int32)).toNatClampNeg) (xs (nI j + (3 : Int32)).toNatClampNeg) (xs (nI j + (4 : Int32)).toNatClampNeg) sa sb sd
    exact gd_t1 hj hL (gd_t2 hj hL (gd_t3 hj hL (gd_t4 hj hL (bd2_t e1 (gd_t1 hj hL (gd_t2 hj hL (gd_t3 hj hL (gd_t4 hj hL (bd3_t e2 (ifs_t rfl (GK_use HK (nI_add j 5) P K T R S Z A)))))))))))
  refine ite_or (fun _ => ?_) (fun _ => ?_)
  · obtain ⟨r, d1, d2, d3, e1, e2⟩ := op_bet P (xs (nI j + (1 : Int32)).toNatClampNeg) (xs (nI j + (2 : Int32)).toNatClampNeg) sa sb sd
    exact gd_t1 hj hL (gd_t2 hj hL (bd2_t e1 (gd_t1 hj hL (gd_t2 hj hL (bd3_t e2 (ifs_t rfl (GK_use HK (nI_add j 5) P K T R S Z A)))))))
  refine ite_or (fun _ => ?_) (fun _ => ?_)
  · obtain ⟨r, d1, d2, d3, e1, e2⟩ := op_hard P (xs (nI j + (1 : Int32)).toNatClampNeg) (xs (nI j + (2 : Int32)).toNatClampNeg) sa sb sd
    exact gd_t1 hj hL (gd_t2 hj hL (bd2_t e1 (gd_t1 hj hL (gd_t2 hj hL (bd3_t e2 (ifs_t rfl (GK_use HK (nI_add j 5) P K T R S Z A)))))))
  refine ite_or (fun _ => ?_) (fun _ => ?_)
  · obtain ⟨r, d1, d2, d3, e1, e2⟩ := op_sure P (xs (nI j + (1 : Int32)).toNatClampNeg) (xs (nI j + (2 : Int32)).toNatClampNeg) sa sb sd
    exact gd_t1 hj hL (gd_t2 hj hL (bd2_t e1 (gd_t1 hj hL (gd_t2 hj hL (bd3_t e2 (ifs_t rfl (GK_use HK (nI_add j 5) P K T R S Z A)))))))
  refine ite_or (fun _ => ?_) (fun _ => ?_)
  · obtain ⟨r, d1, d2, e1, e2, P1⟩ := op_leave P (xs (nI j + (1 : Int32)).toNatClampNeg)
    exact gd_t1 hj hL (bd2_t e1 (gd_t1 hj hL (bd2_t e2 (ifs_t rfl (GK_use HK (nI_add j 5) P1 K T R S Z A)))))
  refine ite_or (fun _ => ?_) (fun _ => ?_)
  · obtain ⟨r, d1, d2, d3, e1, e2⟩ := op_camp P (xs (nI j + (1 : Int32)).toNatClampNeg) (xs (nI j + (2 : Int32)).toNatClampNeg) sa sb sd
    exact gd_t1 hj hL (gd_t2 hj hL (bd2_t e1 (gd_t1 hj hL (gd_t2 hj hL (bd3_t e2 (ifs_t rfl (GK_use HK (nI_add j 5) P K T R S Z A)))))))
  refine ite_or (fun _ => ?_) (fun _ => ?_)
  · have e1 : f_X6_seed (xs (nI j + (1 : Int32)).toNatClampNeg) z = some (z, (xs (nI j + (1 : Int32)).toNatClampNeg)) := rfl
    have e2 : f_X7_seed (xs (nI j + (1 : Int32)).toNatClampNeg) z = some (z, (xs (nI j + (1 : Int32)).toNatClampNeg)) := rfl
    exact gd_t1 hj hL (bd2_t e1 (gd_t1 hj hL (bd2_t e2 (ifs_t rfl (GK_use HK (nI_add j 5) P K T R S Z A)))))
  refine ite_or (fun _ => ?_) (fun _ => ?_)
  · obtain ⟨r, z1, d1, d2, d3, e1, e2⟩ := op_draw P (xs (nI j + (1 : Int32)).toNatClampNeg) (xs (nI j + (2 : Int32)).toNatClampNeg) z sa sb sd
    exact gd_t1 hj hL (gd_t2 hj hL (bd3_t e1 (gd_t1 hj hL (gd_t2 hj hL (bd4_t e2 (ifs_t rfl (GK_use HK (nI_add j 5) P K T R S Z A)))))))
  refine ite_or (fun _ => ?_) (fun _ => ?_)
  · obtain ⟨r, rc1, d1, q1, d2, d3, e1, e2, R1, R2⟩ := op_prove P R.1 R.2 (xs (nI j + (1 : Int32)).toNatClampNeg) mm mu
    exact gd_t1 hj hL (bd3_t e1 (gd_t1 hj hL (bd5_t e2 (ifs_t rfl (GK_use HK (nI_add j 5) P K T ⟨R1, R2⟩ S Z A)))))
  refine ite_or (fun _ => ?_) (fun _ => ?_)
  · obtain ⟨r, e1, e2⟩ := op_row R.1 R.2 (xs (nI j + (1 : Int32)).toNatClampNeg) (xs (nI j + (2 : Int32)).toNatClampNeg)
    exact gd_t1 hj hL (gd_t2 hj hL (bd1_t e1 (gd_t1 hj hL (gd_t2 hj hL (bd1_t e2 (ifs_t rfl (GK_use HK (nI_add j 5) P K T R S Z A)))))))
  refine ite_or (fun _ => ?_) (fun _ => ?_)
  · obtain ⟨r, d1, d2, e1, e2, R2⟩ := op_alterRow R.1 R.2 (xs (nI j + (1 : Int32)).toNatClampNeg) (xs (nI j + (2 : Int32)).toNatClampNeg) (xs (nI j + (3 : Int32)).toNatClampNeg)
    exact gd_t1 hj hL (gd_t2 hj hL (gd_t3 hj hL (bd2_t e1 (gd_t1 hj hL (gd_t2 hj hL (gd_t3 hj hL (bd2_t e2 (ifs_t rfl (GK_use HK (nI_add j 5) P K T ⟨R.1, R2⟩ S Z A)))))))))
  refine ite_or (fun _ => ?_) (fun _ => ?_)
  · obtain ⟨r, q1, d1, e1, e2⟩ := op_judge P R.1 R.2 (xs (nI j + (1 : Int32)).toNatClampNeg) mm mu
    exact gd_t1 hj hL (bd1_t e1 (gd_t1 hj hL (bd3_t e2 (ifs_t rfl (GK_use HK (nI_add j 5) P K T R S Z A)))))
  refine ite_or (fun _ => ?_) (fun _ => ?_)
  · obtain ⟨r, d1, d2, g1, e1, e2, P1⟩ := op_years P S (xs (nI j + (1 : Int32)).toNatClampNeg) (xs (nI j + (2 : Int32)).toNatClampNeg) (xs (nI j + (3 : Int32)).toNatClampNeg) (xs (nI j + (4 : Int32)).toNatClampNeg)
    exact gd_t1 hj hL (gd_t2 hj hL (gd_t3 hj hL (gd_t4 hj hL (bd2_t e1 (gd_t1 hj hL (gd_t2 hj hL (gd_t3 hj hL (gd_t4 hj hL (bd2_t e2 (ifs_t rfl (GK_use HK (nI_add j 5) P1 K T R S Z A)))))))))))
  refine ite_or (fun _ => ?_) (fun _ => ?_)
  · obtain ⟨r, d1, d2, d3, d4, d5, d6, e1, e2, S1⟩ := op_sheet S (xs (nI j + (1 : Int32)).toNatClampNeg) (xs (nI j + (2 : Int32)).toNatClampNeg) (xs (nI j + (3 : Int32)).toNatClampNeg)
    exact gd_t1 hj hL (gd_t2 hj hL (gd_t3 hj hL (bd4_t e1 (gd_t1 hj hL (gd_t2 hj hL (gd_t3 hj hL (bd4_t e2 (ifs_t rfl (GK_use HK (nI_add j 5) P K T R S1 Z A)))))))))
  refine ite_or (fun _ => ?_) (fun _ => ?_)
  · obtain ⟨r, d1, d2, e1, e2, S1⟩ := op_put S (xs (nI j + (1 : Int32)).toNatClampNeg) (xs (nI j + (2 : Int32)).toNatClampNeg) (xs (nI j + (3 : Int32)).toNatClampNeg)
    exact gd_t1 hj hL (gd_t2 hj hL (gd_t3 hj hL (bd2_t e1 (gd_t1 hj hL (gd_t2 hj hL (gd_t3 hj hL (bd2_t e2 (ifs_t rfl (GK_use HK (nI_add j 5) P K T R S1 Z A)))))))))
  refine ite_or (fun _ => ?_) (fun _ => ?_)
  · obtain ⟨r, e1, e2⟩ := op_item S (xs (nI j + (1 : Int32)).toNatClampNeg) (xs (nI j + (2 : Int32)).toNatClampNeg) (xs (nI j + (3 : Int32)).toNatClampNeg)
    exact gd_t1 hj hL (gd_t2 hj hL (gd_t3 hj hL (bd1_t e1 (gd_t1 hj hL (gd_t2 hj hL (gd_t3 hj hL (bd1_t e2 (ifs_t rfl (GK_use HK (nI_add j 5) P K T R S Z A)))))))))
  refine ite_or (fun _ => ?_) (fun _ => ?_)
  · obtain ⟨r, d1, d2, d3, d4, d5, d6, e1, e2, Z1⟩ := op_shelf P.2.1 S Z (xs (nI j + (1 : Int32)).toNatClampNeg) (xs (nI j + (2 : Int32)).toNatClampNeg) (xs (nI j + (3 : Int32)).toNatClampNeg)
    exact gd_t1 hj hL (gd_t2 hj hL (gd_t3 hj hL (bd4_t e1 (gd_t1 hj hL (gd_t2 hj hL (gd_t3 hj hL (bd4_t e2 (ifs_t rfl (GK_use HK (nI_add j 5) P K T R S Z1 A)))))))))
  refine ite_or (fun _ => ?_) (fun _ => ?_)
  · obtain ⟨r, e1, e2⟩ := op_taken P Z (xs (nI j + (1 : Int32)).toNatClampNeg) (xs (nI j + (2 : Int32)).toNatClampNeg)
    exact gd_t1 hj hL (gd_t2 hj hL (bd1_t e1 (gd_t1 hj hL (gd_t2 hj hL (bd1_t e2 (ifs_t rfl (GK_use HK (nI_add j 5) P K T R S Z A)))))))
  refine ite_or (fun _ => ?_) (fun _ => ?_)
  · obtain ⟨r, t1, u1, u2, u3, u4, w1, w2, w3, w4, d1, d2, e1, e2, A1, A2⟩ := op_act P Z (xs (nI j + (1 : Int32)).toNatClampNeg) (xs (nI j + (2 : Int32)).toNatClampNeg) (xs (nI j + (3 : Int32)).toNatClampNeg) k1 k2 k3 k4 m1 m2 m3 (nI c0) m5 (nI c0) ra tr
    exact gd_t1 hj hL (gd_t2 hj hL (gd_t3 hj hL (bd7_t e1 (gd_t1 hj hL (gd_t2 hj hL (gd_t3 hj hL (bd7_t e2 (ifs_t rfl (GK_use HK (nI_add j 5) P K T R S Z ⟨A1, A2⟩)))))))))
  refine ite_or (fun _ => ?_) (fun _ => ?_)
  · obtain ⟨r, e1, e2⟩ := op_trace A.1 A.2 (xs (nI j + (1 : Int32)).toNatClampNeg)
    exact gd_t1 hj hL (bd1_t e1 (gd_t1 hj hL (bd1_t e2 (ifs_t rfl (GK_use HK (nI_add j 5) P K T R S Z A)))))
  refine ite_or (fun _ => ?_) (fun _ => ?_)
  · obtain ⟨r, e1, e2⟩ := op_many P (xs (nI j + (1 : Int32)).toNatClampNeg) (nI c0) (nI t) (nI rc)
    exact gd_t1 hj hL (bd1_t e1 (gd_t1 hj hL (bd1_t e2 (ifs_t rfl (GK_use HK (nI_add j 5) P K T R S Z A)))))
  refine ite_or (fun _ => ?_) (fun _ => ?_)
  · obtain ⟨d1, d2, d3, d4, d5, q1, e1, e2, K1⟩ := op_keep P z ik kz khc kn mv kvil kmar khld sg kr
    exact bd8_t e1 (bd8_t e2 (ifs_t rfl (GK_use HK (nI_add j 5) P K1 T R S Z A)))
  refine ite_or (fun _ => ?_) (fun _ => ?_)
  · obtain ⟨r, z1, n1, h1, c1, g1, k1_, d1, d2, d3, d4, d5, d6, d7, q1, e1, e2, P1⟩ := op_again P z ik kz khc kn mv kvil kmar khld sg kr K
    exact bd7_t e1 (bd10_t e2 (ifs_t rfl (GK_use HK (nI_add j 5) P1 K T R S Z A)))
  exact GK_use HK (nI_add j 5) P K T R S Z A
