/-! ===== a text: its clauses ===== -/
/-- a book as it is told so far, on both sides -/
def FR (n hc : Nat) (cd : Nat → Nat) (g : Nat → Option Nat) (mk : Nat → Nat) (vil mar hld sta mks rul : Nat → Int32) : Prop :=
  (2 ≤ n ∧ n ≤ 10) ∧ hc ≤ 6 ∧ (∀ i, i < hc → cd i < 600) ∧ BkO g mk ∧ BkC g mk vil mar ∧ ((∀ y, y < 24 → sta y = rv (g y)) ∧ ∀ y, y < 24 → mks y = nI (mk y)) ∧ (∀ i, i < hc → hld i = nI (cd i)) ∧ HdR hc cd rul
theorem hdr_put {hc x a b k : Nat} {cd : Nat → Nat} {rul : Nat → Int32} (hr : HdR hc cd rul) (hx : x ≤ 5) (ha : a ≤ 4) (hb : b ≤ 4) (hk : 1 ≤ k ∧ k ≤ 4) :
    HdR (hc + 1) (fun i => if i = hc then x * 100 + a * 20 + b * 4 + (k - 1) else cd i) (upd (upd (upd (upd rul (4 * hc) (nI x)) (4 * hc + 1) (nI a)) (4 * hc + 2) (nI b)) (4 * hc + 3) (nI k)) := by
  intro i hi
  by_cases e : i = hc
  · subst e
    simp only [if_true]
    refine ⟨?_, ?_, ?_, ?_⟩
    · rw [pk_un (by omega), pk_un (by omega), pk_un (by omega), pk_us]; congr 1; omega
    · rw [pk_un (by omega), pk_un (by omega), pk_us]; congr 1; omega
    · rw [pk_un (by omega), pk_us]; congr 1; omega
    · rw [pk_us]; congr 1; omega
  · simp only [if_neg e]
    have := hr i (by omega)
    refine ⟨?_, ?_, ?_, ?_⟩
    · rw [pk_un (by omega), pk_un (by omega), pk_un (by omega), pk_un (by omega)]; exact this.1
    · rw [pk_un (by omega), pk_un (by omega), pk_un (by omega), pk_un (by omega)]; exact this.2.1
    · rw [pk_un (by omega), pk_un (by omega), pk_un (by omega), pk_un (by omega)]; exact this.2.2.1
    · rw [pk_un (by omega), pk_un (by omega), pk_un (by omega), pk_un (by omega)]; exact this.2.2.2
theorem code_e {x a b k : Nat} (hk : 1 ≤ k) : f_X6_codeOf (nI x) (nI a) (nI b) (nI k) = nI (x * 100 + a * 20 + b * 4 + (k - 1)) := by
  unfold f_X6_codeOf
  rw [show nI x * (100 : Int32) = nI (x * 100) from pk_mul x 100, show nI a * (20 : Int32) = nI (a * 20) from pk_mul a 20, show nI b * (4 : Int32) = nI (b * 4) from pk_mul b 4, nI_add, nI_add, nI_add,
    show nI (x * 100 + a * 20 + b * 4 + k) - (1 : Int32) = nI (x * 100 + a * 20 + b * 4 + k - 1) from pk_sub (b := 1) (by omega), show x * 100 + a * 20 + b * 4 + k - 1 = x * 100 + a * 20 + b * 4 + (k - 1) by omega]
theorem bkO_put {g : Nat → Option Nat} {mk : Nat → Nat} {k m : Nat} {u : Option Nat} (ho : BkO g mk) (hk : k < 24) (hu : sm u) (hm : m ≤ 9) : BkO (fun y => if y = k then u else g y) (fun y => if y = k then m else mk y) := by
  have h := bkO_set ho hk hu
  refine ⟨h.1, h.2.1, fun y => ?_, fun y hy => ?_⟩
  · show (if y = k then m else mk y) ≤ 9
    split
    · exact hm
    · exact ho.2.2.1 y
  · show (if y = k then m else mk y) = 0
    rw [if_neg (by omega)]; exact ho.2.2.2 y hy
theorem upd_pt {α : Type} {f : Nat → Int32} {G : Nat → α} (R : α → Int32) {k N : Nat} {u : α} (h : ∀ y, y < N → f y = R (G y)) : ∀ y, y < N → upd f k (R u) y = R (if y = k then u else G y) := by
  intro y hy
  by_cases e : y = k
  · rw [if_pos e, e, pk_us]
  · rw [if_neg e, pk_un e, h y hy]
section
variable {t : Nat} {bt : Nat → Nat} {a b : Nat → Int32} {n hc : Nat} {cd : Nat → Nat} {g : Nat → Option Nat} {mk : Nat → Nat} {vil mar hld sta mks rul : Nat → Int32}
theorem year_e (T : TB t bt a b) {p i : Nat} (hi : i < 2) (hp : p ≤ t) (F : FR n hc cd g mk vil mar hld sta mks rul) (srt beg v : Int32) (w : Int64) :
    ∃ p1 f1 vil' mar' p' o' srt' beg' te' w' v' good' sta' mks', f_X4_readYear (nI i) (nI t) (nI p) (rv none) a vil mar = some (p1, f1, vil', mar') ∧ f_X4_end (nI t) p1 f1 a = some (nI p', rv o') ∧ f_X7_wantYear (nI i) (nI t) srt beg (nI p) w v 1 b sta mks = some (srt', beg', te', w', v', good', sta', mks') ∧
      EN t bt p' o' srt' beg' te' w' v' good' ∧ p < p' ∧ (o' = none → ∃ g' mk', FR n hc cd g' mk' vil' mar' hld sta' mks' rul) := by
  unfold f_X4_readYear f_X7_wantYear
  obtain ⟨s0, b0, t0, w0, v0, a1, a2⟩ := adv7 T hp srt beg w v
  rw [a1]
  simp only [bd5]
  have R0 : RS t bt p none s0 b0 t0 w0 v0 1 := ⟨hp, fun _ => ⟨rfl, a2⟩, fun z h => (by cases h)⟩
  obtain ⟨y1, p1, o1, z1, s1, b1, t1, w1, v1, g1, e1, e2, e3, e4, e5⟩ := num_e T (lo := 0) (hi := 23) R0 (by omega)
  rw [show f_X4_number (0 : Int32) (23 : Int32) (nI t) (nI p) (rv none) a = _ from e1, show f_X7_wantNumber (0 : Int32) (23 : Int32) (nI t) s0 b0 t0 w0 v0 1 b = _ from e2]
  simp only [bd3, bd7]
  obtain ⟨y2, p2, o2, z2, s2, b2, t2, w2, v2, g2, c1, c2, c3, c4, c5⟩ := yat_e T hi e3
  simp only [bd3, bd5, bd7] at c1 c2
  rw [c1, c2]
  simp only
  obtain ⟨y3, p3, o3, z3, s3, b3, t3, w3, v3, g3, d1, d2, d3, d4, d5, d6⟩ := mk_e T c3
  simp only [bd3, bd5, bd7] at d2 d3
  rw [d1]
  simp only [bd1]
  rw [d2, d3]
  simp only
  obtain ⟨p4, o4, s4, b4, t4, w4, v4, g4, f1, f2, f3, f4, f5⟩ := end_e T d4
  rw [f2]
  simp only [bd6]
  cases o3 with
  | some z =>
    rw [if_pos (rv0 (by have := (d4.2.2 z rfl).1; have := T.1; omega))]
    cases o4 with
    | none => exact absurd (f5 rfl) (by intro h; cases h)
    | some z' =>
      rw [if_pos (f3.2.2 z' rfl).2.1]
      exact ⟨_, _, _, _, p4, some z', s4, b4, t4, w4, v4, g4, _, _, rfl, f1, rfl, f3, by omega, fun h => (by cases h)⟩
  | none =>
    obtain ⟨u1, m, hm, rfl, rfl⟩ := d6 rfl
    obtain ⟨u2, u, hu, rfl, rfl⟩ := c5 u1
    obtain ⟨_, _, k, _, hk, rfl, rfl⟩ := e5 u2
    have h24 : k < 24 := by omega
    rw [if_neg (show ¬ (0 : Int32) ≤ rv none by decide), if_pos (show f_X6_outside (nI k) 0 23 = 0 from out_p ⟨nI_pos' (by omega), nI_le (b := 23) (by omega) (by omega)⟩)]
    simp only [gd_nI h24 (by decide), clp h24 (by decide)]
    cases o4 with
    | some z' =>
      rw [if_pos (f3.2.2 z' rfl).2.1]
      exact ⟨_, _, _, _, p4, some z', s4, b4, t4, w4, v4, g4, _, _, rfl, f1, rfl, f3, by omega, fun h => (by cases h)⟩
    | none =>
      have hg : g4 = 1 := (f3.2.1 rfl).2.1
      rw [if_neg (show ¬ g4 = 0 by rw [hg]; decide)]
      refine ⟨_, _, _, _, p4, none, s4, b4, t4, w4, v4, g4, _, _, rfl, f1, rfl, f3, by omega, fun _ => ⟨fun y => if y = k then u else g y, fun y => if y = k then m else mk y, ?_⟩⟩
      obtain ⟨hn, hh, hcd, ho, hC, hR, hl, hr⟩ := F
      refine ⟨hn, hh, hcd, bkO_put ho h24 hu hm, ⟨upd_pt ov hC.1, upd_pt nI hC.2⟩, ⟨upd_pt rv hR.1, upd_pt nI hR.2⟩, hl, hr⟩
theorem rule_e (T : TB t bt a b) {p q k : Nat} (hk : k ≤ 5) (hp : p ≤ t) (hq : q ≤ t) (F : FR n hc cd g mk vil mar hld sta mks rul) (srt v : Int32) (w : Int64) :
    ∃ p1 f1 h1 hld' p' o' srt' beg' te' w' v' good' h7 rul', f_X4_readRule (nI k) (nI q) (nI t) (nI p) (rv none) (nI hc) a hld = some (p1, f1, h1, hld') ∧ f_X4_end (nI t) p1 f1 a = some (nI p', rv o') ∧ f_X7_wantRule (nI k) (nI t) srt (nI q) (nI p) w v 1 (nI hc) b rul = some (srt', beg', te', w', v', good', h7, rul') ∧
      EN t bt p' o' srt' beg' te' w' v' good' ∧ p < p' ∧ (o' = none → ∃ hc' cd', h1 = nI hc' ∧ h7 = nI hc' ∧ FR n hc' cd' g mk vil mar hld' sta mks rul') := by
  have ht := T.1
  have hh : hc ≤ 6 := F.2.1
  unfold f_X4_readRule f_X7_wantRule
  -- the seventh rule's fault is the place where its clause begins
  have h0 : ∃ o0 s0 b0 t0 w0 v0 g0, (if nI hc < (6 : Int32) then rv none else f_X4_fail (nI q) (rv none)) = rv o0 ∧ (if (6 : Int32) ≤ nI hc then (0 : Int32) else 1) = g0 ∧
      (if g0 = (0 : Int32) then some (srt, nI q, nI p, w, v) else bd5 (f_X7_advance (nI t) srt (nI q) (nI p) w v b) (fun (o_45 : Int32) (o_46 : Int32) (o_47 : Int32) (o_48 : Int64) (o_49 : Int32) => some (o_45, o_46, o_47, o_48, o_49))) = some (s0, b0, t0, w0, v0) ∧ RS t bt p o0 s0 b0 t0 w0 v0 g0 ∧ (o0 = none → hc < 6) := by
    by_cases h6 : hc < 6
    · rw [if_pos (show nI hc < (6 : Int32) from nI_lt h6 (by decide)), if_neg (nl6 h6)]
      obtain ⟨s0, b0, t0, w0, v0, a1, a2⟩ := adv7 T hp srt (nI q) w v
      exact ⟨none, s0, b0, t0, w0, v0, 1, rfl, rfl, by rw [if_neg (by decide), a1]; rfl, ⟨hp, fun _ => ⟨rfl, a2⟩, fun z h => (by cases h)⟩, fun _ => h6⟩
    · obtain rfl : hc = 6 := by omega
      rw [if_neg (show ¬ nI 6 < (6 : Int32) by decide), if_pos (show (6 : Int32) ≤ nI 6 by decide), fail_e (fun z h => by cases h)]
      exact ⟨some q, _, _, _, _, _, 0, rfl, rfl, if_pos rfl, ⟨hp, fun h => (by cases h), fun z' h' => by cases h'; exact ⟨hq, rfl, rfl⟩⟩, fun h => (by cases h)⟩
  obtain ⟨o0, s0, b0, t0, w0, v0, g0, i1, i2, i3, R0, i5⟩ := h0
  simp only [lt1]
  rw [i1, i2, i3]
  simp only [bd5]
  obtain ⟨y1, p1, o1, z1, s1, b1, t1, w1, v1, g1, e1, e2, e3, e4, e5⟩ := num_e T (lo := 0) (hi := 4) R0 (by omega)
  rw [show f_X4_number (0 : Int32) (4 : Int32) (nI t) (nI p) (rv o0) a = _ from e1, show f_X7_wantNumber (0 : Int32) (4 : Int32) (nI t) s0 b0 t0 w0 v0 g0 b = _ from e2]
  simp only [bd3, bd7]
  obtain ⟨y2, p2, o2, z2, s2, b2, t2, w2, v2, g2, c1, c2, c3, c4, c5⟩ := num_e T (lo := 0) (hi := 4) e3 (by omega)
  rw [show f_X4_number (0 : Int32) (4 : Int32) (nI t) (nI p1) (rv o1) a = _ from c1, show f_X7_wantNumber (0 : Int32) (4 : Int32) (nI t) s1 b1 t1 w1 v1 g1 b = _ from c2]
  simp only
  obtain ⟨y3, p3, o3, z3, s3, b3, t3, w3, v3, g3, d1, d2, d3, d4, d5⟩ := num_e T (lo := 1) (hi := 4) c3 (by omega)
  rw [show f_X4_number (1 : Int32) (4 : Int32) (nI t) (nI p2) (rv o2) a = _ from d1, show f_X7_wantNumber (1 : Int32) (4 : Int32) (nI t) s2 b2 t2 w2 v2 g2 b = _ from d2]
  simp only
  obtain ⟨p4, o4, s4, b4, t4, w4, v4, g4, f1, f2, f3, f4, f5⟩ := end_e T d3
  rw [f2]
  simp only [bd6]
  cases o3 with
  | some z =>
    rw [if_pos (rv0 (by have := (d3.2.2 z rfl).1; omega))]
    cases o4 with
    | none => exact absurd (f5 rfl) (by intro h; cases h)
    | some z' =>
      rw [if_pos (f3.2.2 z' rfl).2.1]
      exact ⟨_, _, _, _, p4, some z', s4, b4, t4, w4, v4, g4, _, _, rfl, f1, rfl, f3, by omega, fun h => (by cases h)⟩
  | none =>
    obtain ⟨u1, _, m3, l3, h3, rfl, rfl⟩ := d5 rfl
    obtain ⟨u2, _, m2, _, h2, rfl, rfl⟩ := c5 u1
    obtain ⟨u3, _, m1, _, h1, rfl, rfl⟩ := e5 u2
    have h6 := i5 u3
    rw [if_neg (show ¬ (0 : Int32) ≤ rv none by decide), code_e l3]
    unfold f_X0_holdRule
    rw [if_neg (nl6 h6), gd_nI h6 (by decide), clp h6 (by decide), nI_1]
    simp only [bd2]
    cases o4 with
    | some z' =>
      rw [if_pos (f3.2.2 z' rfl).2.1]
      exact ⟨_, _, _, _, p4, some z', s4, b4, t4, w4, v4, g4, _, _, rfl, f1, rfl, f3, by omega, fun h => (by cases h)⟩
    | none =>
      have hg : g4 = 1 := (f3.2.1 rfl).2.1
      rw [if_neg (show ¬ g4 = 0 by rw [hg]; decide)]
      have q0 : 4 * hc < 24 := by omega
      have q1 : 4 * hc + 1 < 24 := by omega
      have q2 : 4 * hc + 2 < 24 := by omega
      have q3 : 4 * hc + 3 < 24 := by omega
      rw [show (4 : Int32) * nI hc = nI (4 * hc) from pk_mul 4 hc, show nI (4 * hc) + (1 : Int32) = nI (4 * hc + 1) from nI_1 _, show nI (4 * hc) + (2 : Int32) = nI (4 * hc + 2) from nI_add _ 2, show nI (4 * hc) + (3 : Int32) = nI (4 * hc + 3) from nI_add _ 3]
      simp only [gd_nI q0 (by decide), gd_nI q1 (by decide), gd_nI q2 (by decide), gd_nI q3 (by decide), clp q0 (by decide), clp q1 (by decide), clp q2 (by decide), clp q3 (by decide)]
      refine ⟨_, _, _, _, p4, none, s4, b4, t4, w4, v4, g4, _, _, rfl, f1, rfl, f3, by omega, fun _ => ⟨hc + 1, fun i => if i = hc then k * 100 + m1 * 20 + m2 * 4 + (m3 - 1) else cd i, rfl, rfl, ?_⟩⟩
      obtain ⟨hn, hh, hcd, ho, hC, hR, hl, hr⟩ := F
      refine ⟨hn, by omega, fun i hi => ?_, ho, hC, hR, fun i hi => ?_, hdr_put hr hk h1 h2 ⟨l3, h3⟩⟩
      · show (if i = hc then k * 100 + m1 * 20 + m2 * 4 + (m3 - 1) else cd i) < 600
        split
        · omega
        · exact hcd i (by omega)
      · show upd hld hc (nI (k * 100 + m1 * 20 + m2 * 4 + (m3 - 1))) i = nI (if i = hc then k * 100 + m1 * 20 + m2 * 4 + (m3 - 1) else cd i)
        by_cases e : i = hc
        · rw [if_pos e, e, pk_us]
        · rw [if_neg e, pk_un e, hl i (by omega)]
end
