/-! ===== a text: a book told in it ===== -/
section
variable {t : Nat} {bt : Nat → Nat} {a b : Nat → Int32}
theorem nw (T : TB t bt a b) {q si : Nat} {srt beg te v : Int32} {w : Int64} (hs : si < 11) (hq : q ≤ t) (K : Tk t bt q srt beg te w v) :
    (nm t bt si q ∧ f_X4_named si (nI t) (nI q) a = some (1, nI (q + wln si)) ∧ f_X7_isWord (lN (wcd si)) srt w = 1) ∨ (¬ nm t bt si q ∧ f_X4_named si (nI t) (nI q) a = some (0, nI q) ∧ f_X7_isWord (lN (wcd si)) srt w = 0) := by
  rcases nam6 T hs hq with ⟨c, e⟩ | ⟨c, e⟩
  · rcases wrd7 hs hq K with ⟨_, f⟩ | ⟨c2, _⟩
    · exact Or.inl ⟨c, e, f⟩
    · exact absurd c c2
  · rcases wrd7 hs hq K with ⟨c2, _⟩ | ⟨_, f⟩
    · exact absurd c2 c
    · exact Or.inr ⟨c, e, f⟩
theorem n10 : ¬ (1 : Int32) = 0 := by decide
theorem kind_e (T : TB t bt a b) {q : Nat} {srt beg te v : Int32} {w : Int64} (hq : q ≤ t) (K : Tk t bt q srt beg te w v) :
    (∃ i, i ≤ 5 ∧ nm t bt i q ∧ f_X4_kindNamed (nI t) (nI q) a = some (nI i, nI (q + wln i)) ∧ f_X7_kindHere srt w = nI i) ∨ ((∀ i, i ≤ 5 → ¬ nm t bt i q) ∧ f_X4_kindNamed (nI t) (nI q) a = some (-1, nI q) ∧ f_X7_kindHere srt w = -1) := by
  unfold f_X4_kindNamed f_X7_kindHere
  rw [show (369932 : Int64) = lN (wcd 0) by decide +kernel, show (243140 : Int64) = lN (wcd 1) by decide +kernel, show (40187 : Int64) = lN (wcd 2) by decide +kernel, show (10650290 : Int64) = lN (wcd 3) by decide +kernel, show (187429684 : Int64) = lN (wcd 4) by decide +kernel, show (298503040 : Int64) = lN (wcd 5) by decide +kernel]
  rcases nw T (si := 0) (by omega) hq K with ⟨c0, e, f⟩ | ⟨c0, e, f⟩
  · rw [e, f]; simp only [bd2, if_neg n10]
    exact Or.inl ⟨0, by omega, c0, rfl, rfl⟩
  rw [e, f]; simp only [bd2, if_true]
  rcases nw T (si := 1) (by omega) hq K with ⟨c1, e, f⟩ | ⟨c1, e, f⟩
  · rw [e, f]; simp only [if_neg n10]
    exact Or.inl ⟨1, by omega, c1, rfl, rfl⟩
  rw [e, f]; simp only [if_true]
  rcases nw T (si := 2) (by omega) hq K with ⟨c2, e, f⟩ | ⟨c2, e, f⟩
  · rw [e, f]; simp only [if_neg n10]
    exact Or.inl ⟨2, by omega, c2, rfl, rfl⟩
  rw [e, f]; simp only [if_true]
  rcases nw T (si := 3) (by omega) hq K with ⟨c3, e, f⟩ | ⟨c3, e, f⟩
  · rw [e, f]; simp only [if_neg n10]
    exact Or.inl ⟨3, by omega, c3, rfl, rfl⟩
  rw [e, f]; simp only [if_true]
  rcases nw T (si := 4) (by omega) hq K with ⟨c4, e, f⟩ | ⟨c4, e, f⟩
  · rw [e, f]; simp only [if_neg n10]
    exact Or.inl ⟨4, by omega, c4, rfl, rfl⟩
  rw [e, f]; simp only [if_true]
  rcases nw T (si := 5) (by omega) hq K with ⟨c5, e, f⟩ | ⟨c5, e, f⟩
  · rw [e, f]; simp only [if_neg n10]
    exact Or.inl ⟨5, by omega, c5, rfl, rfl⟩
  rw [e, f]; simp only [if_true]
  refine Or.inr ⟨fun i hi => ?_, by first | trivial | rfl, by first | trivial | rfl⟩
  rcases (show i = 0 ∨ i = 1 ∨ i = 2 ∨ i = 3 ∨ i = 4 ∨ i = 5 by omega) with rfl | rfl | rfl | rfl | rfl | rfl <;> assumption
theorem nw0 (T : TB t bt a b) {q si sj : Nat} {srt beg te v : Int32} {w : Int64} (hs : si < 11) (hj : sj < 11) (hn : ¬ si = sj) (hq : q ≤ t) (K : Tk t bt q srt beg te w v) (h : nm t bt sj q) : f_X7_isWord (lN (wcd si)) srt w = 0 := by
  rcases nw T hs hq K with ⟨c, _⟩ | ⟨_, _, f⟩
  · exact absurd (nm_u hs hj c h) hn
  · exact f
variable {n hc : Nat} {cd : Nat → Nat} {g : Nat → Option Nat} {mk : Nat → Nat} {vil mar hld sta mks rul : Nat → Int32}
theorem clause_e (T : TB t bt a b) {q : Nat} (hq : q ≤ t) {srt beg te v : Int32} {w : Int64} (K : Tk t bt q srt beg te w v) (F : FR n hc cd g mk vil mar hld sta mks rul) :
    ∃ p' o' srt' beg' te' w' v' good' h1 n1 hld' vil' mar' n7 h7 sta' mks' rul', f_X4_readOne (nI t) (nI q) (rv none) a (nI hc) (nI n) hld vil mar = some (nI p', rv o', h1, n1, hld', vil', mar') ∧ f_X7_wantClause (nI t) srt beg te w v 1 (nI n) (nI hc) b sta mks rul = some (srt', beg', te', w', v', good', n7, h7, sta', mks', rul') ∧
      EN t bt p' o' srt' beg' te' w' v' good' ∧ q < p' ∧ (o' = none → ∃ n' hc' cd' g' mk', h1 = nI hc' ∧ h7 = nI hc' ∧ n1 = nI n' ∧ n7 = nI n' ∧ FR n' hc' cd' g' mk' vil' mar' hld' sta' mks' rul') := by
  have ht := T.1
  unfold f_X4_readOne f_X7_wantClause
  rw [show (495765 : Int64) = lN (wcd 7) by decide +kernel, show (247664 : Int64) = lN (wcd 10) by decide +kernel, show (233793143983 : Int64) = lN (wcd 6) by decide +kernel]
  rcases kind_e T hq K with ⟨i, hi, c, e, f⟩ | ⟨c, e, f⟩
  · rw [e, f, nw0 T (si := 7) (sj := i) (by omega) (by omega) (by omega) hq K c, nw0 T (si := 10) (sj := i) (by omega) (by omega) (by omega) hq K c, nw0 T (si := 6) (sj := i) (by omega) (by omega) (by omega) hq K c]
    simp only [bd2, if_true, if_neg (nI_pos (show i < 2147483648 by omega))]
    obtain ⟨b1, b2, _⟩ := adv_w T (si := i) (by omega) hq K c
    obtain ⟨p1, f1, h1, hld', p', o', srt', beg', te', w', v', good', h7, rul', e1, e2, e3, e4, e5, e6⟩ := rule_e T hi b1 hq F srt v w
    rw [K.1, b2, e1, e3]
    simp only [bd4, bd8]
    rw [e2]
    exact ⟨p', o', srt', beg', te', w', v', good', h1, nI n, hld', vil, mar, nI n, h7, sta, mks, rul', rfl, rfl, e4, by omega, fun z => by
      obtain ⟨hc', cd', x1, x2, x3⟩ := e6 z
      exact ⟨n, hc', cd', g, mk, x1, x2, rfl, rfl, x3⟩⟩
  · rw [e, f]
    simp only [bd2, if_pos (show (-1 : Int32) < 0 by decide)]
    rcases nw T (si := 6) (by omega) hq K with ⟨c6, e, f⟩ | ⟨c6, e, f⟩
    · rw [e, f, nw0 T (si := 7) (sj := 6) (by omega) (by omega) (by omega) hq K c6, nw0 T (si := 10) (sj := 6) (by omega) (by omega) (by omega) hq K c6]
      simp only [if_true, if_neg n10]
      obtain ⟨b1, b2, s0, g0, t0, w0, v0, a1, a2⟩ := adv_w T (si := 6) (by omega) hq K c6
      rw [a1]
      simp only [bd5]
      obtain ⟨y, p1, o1, y7, s1, b1', t1, w1, v1, g1, e1, e2, e3, e4, e5⟩ := num_e T (p := q + wln 6) (lo := 2) (hi := 10) (o := none) (srt := s0) (beg := g0) (te := t0) (w := w0) (v := v0) (good := 1) ⟨b1, fun _ => ⟨rfl, a2⟩, fun z h => (by cases h)⟩ (by omega)
      rw [show f_X4_number (2 : Int32) (10 : Int32) (nI t) (nI (q + wln 6)) (rv none) a = _ from e1, show f_X7_wantNumber (2 : Int32) (10 : Int32) (nI t) s0 g0 t0 w0 v0 1 b = _ from e2]
      simp only [bd3, bd7, lt1]
      obtain ⟨p4, o4, s4, b4, t4, w4, v4, g4, f1, f2, f3, f4, f5⟩ := end_e T e3
      rw [f1, f2]
      refine ⟨p4, o4, s4, b4, t4, w4, v4, g4, nI hc, _, hld, vil, mar, y7, nI hc, sta, mks, rul, rfl, rfl, f3, by omega, fun z => ?_⟩
      have z1 := f5 z
      obtain ⟨_, _, k, k1, k2, k3, k4⟩ := e5 z1
      obtain ⟨hn, hh, hcd, ho, hC, hR, hl, hr⟩ := F
      refine ⟨k, hc, cd, g, mk, rfl, rfl, ?_, k4, ⟨k1, k2⟩, hh, hcd, ho, hC, hR, hl, hr⟩
      rw [z1, if_neg (show ¬ (0 : Int32) ≤ rv none by decide)]
      exact k3
    · rw [e, f]
      simp only [if_true]
      rcases nw T (si := 7) (by omega) hq K with ⟨c7, e, f⟩ | ⟨c7, e, f⟩
      · rw [e, f]
        simp only [if_neg n10]
        obtain ⟨b1, b2, _⟩ := adv_w T (si := 7) (by omega) hq K c7
        obtain ⟨p1, f1, vil', mar', p', o', srt', beg', te', w', v', good', sta', mks', e1, e2, e3, e4, e5, e6⟩ := year_e T (i := 1) (by omega) b1 F srt beg v w
        rw [b2, show f_X4_readYear (1 : Int32) (nI t) (nI (q + wln 7)) (rv none) a vil mar = _ from e1, show f_X7_wantYear (1 : Int32) (nI t) srt beg (nI (q + wln 7)) w v 1 b sta mks = _ from e3]
        simp only [bd4, bd8]
        rw [e2]
        exact ⟨p', o', srt', beg', te', w', v', good', nI hc, nI n, hld, vil', mar', nI n, nI hc, sta', mks', rul, rfl, rfl, e4, by omega, fun z => by
          obtain ⟨g', mk', x⟩ := e6 z
          exact ⟨n, hc, cd, g', mk', rfl, rfl, rfl, rfl, x⟩⟩
      · rw [e, f]
        simp only [if_true]
        rcases nw T (si := 10) (by omega) hq K with ⟨c10, e, f⟩ | ⟨c10, e, f⟩
        · rw [e, f]
          simp only [if_neg n10]
          obtain ⟨b1, b2, _⟩ := adv_w T (si := 10) (by omega) hq K c10
          obtain ⟨p1, f1, vil', mar', p', o', srt', beg', te', w', v', good', sta', mks', e1, e2, e3, e4, e5, e6⟩ := year_e T (i := 0) (by omega) b1 F srt beg v w
          rw [b2, show f_X4_readYear (0 : Int32) (nI t) (nI (q + wln 10)) (rv none) a vil mar = _ from e1, show f_X7_wantYear (0 : Int32) (nI t) srt beg (nI (q + wln 10)) w v 1 b sta mks = _ from e3]
          simp only [bd4, bd8]
          rw [e2]
          exact ⟨p', o', srt', beg', te', w', v', good', nI hc, nI n, hld, vil', mar', nI n, nI hc, sta', mks', rul, rfl, rfl, e4, by omega, fun z => by
            obtain ⟨g', mk', x⟩ := e6 z
            exact ⟨n, hc, cd, g', mk', rfl, rfl, rfl, rfl, x⟩⟩
        · rw [e, f]
          simp only [if_true]
          rw [fail_e (fun z h => by cases h)]
          obtain ⟨p4, o4, s4, b4, t4, w4, v4, g4, f1, f2, f3, f4, f5⟩ := end_e T (p := q) (o := some q) (srt := srt) (beg := nI q) (te := te) (w := w) (v := v) (good := 0) ⟨hq, fun h => (by cases h), fun z' h' => by cases h'; exact ⟨hq, rfl, rfl⟩⟩
          rw [show fl none q = some q from rfl, f1]
          have e4 : o4 = some q := by
            cases o4 with
            | none => exact absurd (f5 rfl) (by intro h; cases h)
            | some z =>
              unfold f_X7_wantEnd at f2
              simp only [lt1, if_true] at f2
              have h2 := (f3.2.2 z rfl).2.2
              cases f2
              have hz := (f3.2.2 z rfl).1
              rw [(nI_eq (by omega) (by omega)).mp h2]
          subst e4
          exact ⟨p4, some q, srt, beg, te, w, v, 0, nI hc, nI n, hld, vil, mar, nI n, nI hc, sta, mks, rul, rfl, rfl, ⟨f3.1, fun h => (by cases h), fun z' h' => by cases h'; exact ⟨hq, rfl, K.1⟩⟩, f4, fun h => (by cases h)⟩
theorem sk_any (T : TB t bt a b) {p : Nat} (hp : p ≤ t + 1) : ∃ y, f_X4_skipBlanks (nI t) (nI p) a = some (nI y) := by
  have ht := T.1
  by_cases c : p ≤ t
  · exact ⟨_, (sk_sp T c).2.2.2.1⟩
  · refine ⟨p, ?_⟩
    unfold f_X4_skipBlanks
    have h : ∀ f, 0 < f → f_X4_skipBlanks_L0 (nI t) a f (nI p) = some (nI p) := fun f hf => by
      obtain ⟨f, rfl⟩ : ∃ m, f = m + 1 := ⟨f - 1, by omega⟩
      rw [f_X4_skipBlanks_L0, if_pos (nI_le (by omega) (by omega))]
    rw [h 1000 (by omega)]
    rfl
theorem loop_e (T : TB t bt a b) : ∀ d q x f6 f7 n hc cd g mk vil mar hld sta mks rul srt beg te w v, t ≤ q + d → q ≤ t → sk t bt q = q → x ≤ q → d < f6 → d < f7 → Tk t bt q srt beg te w v → FR n hc cd g mk vil mar hld sta mks rul →
    ∃ p1 o' h1 n1 vil' mar' hld' srt' beg' te' w' v' good' n7 h7 sta' mks' rul', f_X4_readInto_L20 (nI t) a f6 (nI x) (nI q) (-1) (nI hc) (nI n) vil mar hld = some (p1, rv o', h1, n1, vil', mar', hld') ∧ f_X7_book_L53 (nI t) b f7 srt beg te w v 1 (nI n) (nI hc) sta mks rul = some (srt', beg', te', w', v', good', n7, h7, sta', mks', rul') ∧
      (o' = none → good' = 1 ∧ ∃ n' hc' cd' g' mk', h1 = nI hc' ∧ h7 = nI hc' ∧ n1 = nI n' ∧ n7 = nI n' ∧ FR n' hc' cd' g' mk' vil' mar' hld' sta' mks' rul') ∧ (∀ z, o' = some z → z ≤ t ∧ good' = 0 ∧ beg' = nI z) := by
  have ht := T.1
  intro d
  induction d with
  | zero =>
    intro q x f6 f7 n hc cd g mk vil mar hld sta mks rul srt beg te w v h1 h2 h3 h4 h5 h6 K F
    obtain ⟨f6, rfl⟩ : ∃ m, f6 = m + 1 := ⟨f6 - 1, by omega⟩
    obtain ⟨f7, rfl⟩ : ∃ m, f7 = m + 1 := ⟨f7 - 1, by omega⟩
    have hs : srt = 0 := by rw [K.2.2.1, tso_0.mpr (show ¬ q < t by omega)]; rfl
    refine ⟨nI q, none, nI hc, nI n, vil, mar, hld, srt, beg, te, w, v, 1, nI n, nI hc, sta, mks, rul, ?_, ?_, fun _ => ⟨rfl, n, hc, cd, g, mk, rfl, rfl, rfl, rfl, F⟩, fun z h => (by cases h)⟩
    · rw [f_X4_readInto_L20]
      by_cases c : (200 : Int32) ≤ nI x
      · rw [if_pos c]; rfl
      · rw [if_neg c, if_pos (nI_le (show t ≤ q by omega) (by omega))]; rfl
    · rw [f_X7_book_L53, if_neg n10, if_pos hs]
  | succ d ih =>
    intro q x f6 f7 n hc cd g mk vil mar hld sta mks rul srt beg te w v h1 h2 h3 h4 h5 h6 K F
    by_cases c : t ≤ q + d
    · exact ih q x f6 f7 n hc cd g mk vil mar hld sta mks rul srt beg te w v c h2 h3 h4 (by omega) (by omega) K F
    obtain ⟨f6, rfl⟩ : ∃ m, f6 = m + 1 := ⟨f6 - 1, by omega⟩
    obtain ⟨f7, rfl⟩ : ∃ m, f7 = m + 1 := ⟨f7 - 1, by omega⟩
    have hs : ¬ srt = 0 := by
      rw [K.2.2.1]
      intro z
      have hb := tso_b (t := t) (bt := bt) q
      have := (nI_eq (b := 0) (by omega) (by omega)).mp z
      exact tso_0.mp this (by omega)
    obtain ⟨p', o', s1, b1, t1, w1, v1, g1, k1, n1, hld', vil', mar', n7, k7, sta', mks', rul', e1, e2, e3, e4, e5⟩ := clause_e T h2 K F
    rw [f_X4_readInto_L20, if_neg (nl200 (show x < 200 by omega)), if_neg (nl (show q < t by omega) (by omega)), if_neg (show ¬ (0 : Int32) ≤ -1 by decide), show f_X4_readOne (nI t) (nI q) (-1) a (nI hc) (nI n) hld vil mar = _ from e1, f_X7_book_L53, if_neg n10, if_neg hs, e2]
    simp only [bd7, bd11]
    cases o' with
    | none =>
      obtain ⟨i1, i2, i3⟩ := e3.2.1 rfl
      obtain ⟨n', hc', cd', g', mk', x1, x2, x3, x4, F'⟩ := e5 rfl
      obtain ⟨r1, r2, r3, r4, _⟩ := sk_sp T i1
      rw [r4, i2, x1, x2, x3, x4, nI_1]
      simp only [bd1]
      exact ih (sk t bt p') (x + 1) f6 f7 n' hc' cd' g' mk' vil' mar' hld' sta' mks' rul' s1 b1 t1 w1 v1 (by omega) r2 (sk_id r3) (by omega) (by omega) (by omega) i3 F'
    | some z =>
      obtain ⟨z1, z2, z3⟩ := e3.2.2 z rfl
      obtain ⟨y, hy⟩ := sk_any T e3.1
      rw [hy, z2]
      simp only [bd1]
      obtain ⟨f6, rfl⟩ : ∃ m, f6 = m + 1 := ⟨f6 - 1, by omega⟩
      obtain ⟨f7, rfl⟩ : ∃ m, f7 = m + 1 := ⟨f7 - 1, by omega⟩
      rw [f_X7_book_L53, if_pos rfl, f_X4_readInto_L20, if_pos (rv0 (show z < 2147483648 by omega)), ite_k, ite_k]
      exact ⟨_, some z, _, _, _, _, _, _, _, _, _, _, _, _, _, _, _, _, rfl, rfl, fun h => (by cases h), fun z' h' => by cases h'; exact ⟨z1, rfl, z3⟩⟩
end
/-! the first state of a book told, and its end -/
theorem clr6_j : ∀ c k f (v m : Nat → Int32), k + c = 24 → c < f → (∀ y, y < k → v y = -9 ∧ m y = 0) → ∃ v' m', f_X0_clear_L2 f (nI k) v m = some (v', m') ∧ ∀ y, y < 24 → v' y = -9 ∧ m' y = 0 := by
  intro c
  induction c with
  | zero =>
    intro k f v m hk hf h
    obtain ⟨f, rfl⟩ : ∃ m, f = m + 1 := ⟨f - 1, by omega⟩
    obtain rfl : k = 24 := by omega
    exact ⟨v, m, by rw [f_X0_clear_L2, if_pos (show (24 : Int32) ≤ nI 24 by decide)], h⟩
  | succ c ih =>
    intro k f v m hk hf h
    obtain ⟨f, rfl⟩ : ∃ m, f = m + 1 := ⟨f - 1, by omega⟩
    have h24 : k < 24 := by omega
    simp only [f_X0_clear_L2, if_neg (nl24 h24), gd_nI h24 (by decide), clp h24 (by decide), nI_1]
    refine ih (k + 1) f _ _ (by omega) (by omega) (fun y hy => ?_)
    by_cases e : y = k
    · rw [e, pk_us, pk_us]; exact ⟨rfl, rfl⟩
    · rw [pk_un e, pk_un e]; exact h y (by omega)
theorem clr7_j : ∀ c k f (v m : Nat → Int32), k + c = 24 → c < f → (∀ y, y < k → v y = -1 ∧ m y = 0) → ∃ v' m', f_X7_book_L23 f (nI k) v m = some (v', m') ∧ ∀ y, y < 24 → v' y = -1 ∧ m' y = 0 := by
  intro c
  induction c with
  | zero =>
    intro k f v m hk hf h
    obtain ⟨f, rfl⟩ : ∃ m, f = m + 1 := ⟨f - 1, by omega⟩
    obtain rfl : k = 24 := by omega
    exact ⟨v, m, by rw [f_X7_book_L23, if_pos (show (24 : Int32) ≤ nI 24 by decide)], h⟩
  | succ c ih =>
    intro k f v m hk hf h
    obtain ⟨f, rfl⟩ : ∃ m, f = m + 1 := ⟨f - 1, by omega⟩
    have h24 : k < 24 := by omega
    simp only [f_X7_book_L23, if_neg (nl24 h24), gd_nI h24 (by decide), clp h24 (by decide), nI_1]
    refine ih (k + 1) f _ _ (by omega) (by omega) (fun y hy => ?_)
    by_cases e : y = k
    · rw [e, pk_us, pk_us]; exact ⟨rfl, rfl⟩
    · rw [pk_un e, pk_un e]; exact h y (by omega)
theorem cpy7_j {fs fm fr : Nat → Int32} : ∀ c k f (s m r : Nat → Int32), k + c = 24 → c < f → (∀ y, y < k → s y = fs y ∧ m y = fm y ∧ r y = fr y) → ∃ s' m' r', f_X7_book_L112 fs fm fr f (nI k) s m r = some (s', m', r') ∧ (∀ y, y < 24 → s' y = fs y ∧ m' y = fm y ∧ r' y = fr y) ∧ ∀ y, 24 ≤ y → s' y = s y ∧ m' y = m y := by
  intro c
  induction c with
  | zero =>
    intro k f s m r hk hf h
    obtain ⟨f, rfl⟩ : ∃ m, f = m + 1 := ⟨f - 1, by omega⟩
    obtain rfl : k = 24 := by omega
    exact ⟨s, m, r, by rw [f_X7_book_L112, if_pos (show (24 : Int32) ≤ nI 24 by decide)], h, fun y _ => ⟨rfl, rfl⟩⟩
  | succ c ih =>
    intro k f s m r hk hf h
    obtain ⟨f, rfl⟩ : ∃ m, f = m + 1 := ⟨f - 1, by omega⟩
    have h24 : k < 24 := by omega
    have h100 : k < 100 := by omega
    simp only [f_X7_book_L112, if_neg (nl24 h24), gd_nI h24 (by decide), gd_nI h100 (by decide), clp h24 (by decide), nI_1]
    obtain ⟨s', m', r', e1, e2, e3⟩ := ih (k + 1) f (upd s k (fs k)) (upd m k (fm k)) (upd r k (fr k)) (by omega) (by omega) (fun y hy => by
      by_cases e : y = k
      · rw [e, pk_us, pk_us, pk_us]; exact ⟨rfl, rfl, rfl⟩
      · rw [pk_un e, pk_un e, pk_un e]; exact h y (by omega))
    refine ⟨s', m', r', e1, e2, fun y hy => ?_⟩
    have := e3 y hy
    rw [pk_un (by omega), pk_un (by omega)] at this
    exact this
