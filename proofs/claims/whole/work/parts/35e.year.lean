/-! ===== a text: an end, a word wanted, a year ===== -/
section
variable {t : Nat} {bt : Nat → Nat} {a b : Nat → Int32}
theorem tso_3 {q : Nat} (h : q < t) (h2 : bt q = 59) : tso t bt q = 3 ∧ ten t bt q = q + 1 := by
  constructor
  · unfold tso; rw [if_pos h, if_neg (by omega), if_neg (by omega)]
  · unfold ten; rw [if_pos h, if_neg (by omega), if_neg (by omega)]
theorem end_e (T : TB t bt a b) {p : Nat} {o : Option Nat} {srt beg te v good : Int32} {w : Int64} (R : RS t bt p o srt beg te w v good) :
    ∃ p' o' srt' beg' te' w' v' good', f_X4_end (nI t) (nI p) (rv o) a = some (nI p', rv o') ∧ f_X7_wantEnd (nI t) srt beg te w v good b = some (srt', beg', te', w', v', good') ∧ EN t bt p' o' srt' beg' te' w' v' good' ∧ p < p' ∧ (o' = none → o = none) := by
  have ht := T.1
  obtain ⟨hp, R1, R2⟩ := R
  obtain ⟨h1, h2, h3, h4, h5⟩ := sk_sp T hp
  unfold f_X4_end f_X7_wantEnd
  rw [h4]
  simp only [bd1, lt1]
  generalize hq : sk t bt p = q at *
  have ho : ∀ z, o = some z → z < 1000 := fun z hz => by have := (R2 z hz).1; omega
  obtain ⟨x, e1, e2⟩ := b6_eq T (j := q) (c := 59) (by omega) (by omega)
  rw [e1]
  simp only
  rw [fail_e ho, nI_1]
  cases o with
  | some z =>
    obtain ⟨z1, z2, z3⟩ := R2 z rfl
    rw [if_pos z2, if_pos rfl]
    simp only [fl, ite_k]
    exact ⟨q + 1, some z, _, _, _, _, _, _, rfl, rfl, ⟨by omega, fun h => (by cases h), fun z' h' => by cases h'; exact ⟨z1, rfl, z3⟩⟩, by omega, fun h => (by cases h)⟩
  | none =>
    obtain ⟨g1, k1, k2, k3, k4, k5, k6⟩ := R1 rfl
    subst g1
    rw [if_neg (show ¬ (1 : Int32) = 0 by decide)]
    rw [show fl none q = some q from rfl]
    unfold f_X7_isMark
    by_cases c : q < t ∧ bt q = 59
    · obtain ⟨s1, s2⟩ := tso_3 c.1 c.2
      rw [if_pos (show x = 59 from e2.mpr c), if_pos (show srt = 3 by rw [k3, s1]; rfl), if_pos (show v = 59 by rw [k6 s1, c.2]; rfl), if_neg (show ¬ (1 : Int32) = 0 by decide), if_neg (show ¬ (1 : Int32) = 0 by decide), k2, s2]
      obtain ⟨srt', beg', te', w', v', a1, a2⟩ := adv7 T (show q + 1 ≤ t by omega) srt beg w v
      rw [a1]
      exact ⟨q + 1, none, srt', beg', te', w', v', 1, rfl, rfl, ⟨by omega, fun _ => ⟨by omega, rfl, a2⟩, fun z h => (by cases h)⟩, by omega, fun _ => rfl⟩
    · rw [if_neg (show ¬ x = 59 from fun z => c (e2.mp z))]
      have hz : (if srt = (3 : Int32) then (if v = (59 : Int32) then (1 : Int32) else 0) else 0) = 0 := by
        by_cases s : srt = 3
        · rw [if_pos s]
          by_cases s2 : v = 59
          · exfalso
            have t3 : tso t bt q = 3 := by
              rw [k3] at s
              exact (nI_eq (b := 3) (by have := tso_b (t := t) (bt := bt) q; omega) (by omega)).mp s
            have hqt : q < t := by
              apply Classical.byContradiction
              intro z
              have := (tso_0 (t := t) (bt := bt)).mpr z
              omega
            have hb := (T.2 q hqt).1
            rw [k6 t3] at s2
            exact c ⟨hqt, (nI_eq (b := 59) (by omega) (by omega)).mp s2⟩
          · rw [if_neg s2]
        · rw [if_neg s]
      rw [if_pos hz, if_pos rfl]
      exact ⟨q + 1, some q, _, _, _, _, _, _, rfl, rfl, ⟨by omega, fun h => (by cases h), fun z' h' => by cases h'; exact ⟨h2, rfl, k1⟩⟩, by omega, fun h => (by cases h)⟩
/-- past a word that is there -/
theorem adv_w (T : TB t bt a b) {q si : Nat} {srt beg te v : Int32} {w : Int64} (hs : si < 11) (hq : q ≤ t) (K : Tk t bt q srt beg te w v) (h : nm t bt si q) : q + wln si ≤ t ∧ te = nI (q + wln si) ∧ ∃ srt' beg' te' w' v', f_X7_advance (nI t) srt beg te w v b = some (srt', beg', te', w', v') ∧ Tk t bt (sk t bt (q + wln si)) srt' beg' te' w' v' := by
  obtain ⟨c0, c1, c2, c3⟩ := nm_sp hs h
  have hb := (ten_b (t := t) (bt := bt) hq).2.1
  rw [c2] at hb
  have e : te = nI (q + wln si) := by rw [K.2.1, c2]
  refine ⟨hb, e, ?_⟩
  rw [e]
  exact adv7 T hb srt beg w v
theorem need_e (T : TB t bt a b) {p : Nat} {o : Option Nat} {srt beg te v good : Int32} {w : Int64} (R : RS t bt p o srt beg te w v good) :
    ∃ p' o' good' srt' beg' te' w' v', f_X4_need 8 (nI t) (nI p) (rv o) a = some (nI p', rv o') ∧ (if good = (0 : Int32) then (0 : Int32) else (if f_X7_isWord (47 : Int64) srt w = (0 : Int32) then (0 : Int32) else 1)) = good' ∧
      (if good' = (0 : Int32) then some (srt, beg, te, w, v) else bd5 (f_X7_advance (nI t) srt beg te w v b) (fun (o_73 : Int32) (o_74 : Int32) (o_75 : Int32) (o_76 : Int64) (o_77 : Int32) => some (o_73, o_74, o_75, o_76, o_77))) = some (srt', beg', te', w', v') ∧ RS t bt p' o' srt' beg' te' w' v' good' ∧ p ≤ p' ∧ (o' = none → o = none) := by
  have ht := T.1
  obtain ⟨hp, R1, R2⟩ := R
  obtain ⟨h1, h2, h3, h4, h5⟩ := sk_sp T hp
  unfold f_X4_need
  rw [h4]
  simp only [bd1]
  generalize hq : sk t bt p = q at *
  cases o with
  | some z =>
    obtain ⟨z1, z2, z3⟩ := R2 z rfl
    rw [if_pos (rv0 (show z < 2147483648 by omega)), if_pos z2]
    exact ⟨q, some z, 0, _, _, _, _, _, rfl, rfl, if_pos rfl, ⟨h2, fun h => (by cases h), fun z' h' => by cases h'; exact ⟨z1, rfl, z3⟩⟩, h1, fun h => (by cases h)⟩
  | none =>
    obtain ⟨g1, K⟩ := R1 rfl
    subst g1
    rw [if_neg (show ¬ (0 : Int32) ≤ rv none by decide), if_neg (show ¬ (1 : Int32) = 0 by decide)]
    rcases nam6 T (si := 8) (by omega) h2 with ⟨c, e⟩ | ⟨c, e⟩
    · rcases wrd7 (si := 8) (by omega) h2 K with ⟨_, e2⟩ | ⟨c2, _⟩
      · rw [show (47 : Int64) = lN (wcd 8) by decide +kernel, e2, e]
        simp only [bd2]
        rw [if_neg (show ¬ (1 : Int32) = 0 by decide), if_neg (show ¬ (1 : Int32) = 0 by decide)]
        obtain ⟨b1, b2, srt', beg', te', w', v', a1, a2⟩ := adv_w T (si := 8) (by omega) h2 K c
        exact ⟨q + wln 8, none, 1, srt', beg', te', w', v', rfl, rfl, by rw [if_neg (by decide), a1]; rfl, ⟨b1, fun _ => ⟨rfl, a2⟩, fun z h => (by cases h)⟩, by omega, fun _ => (by first | trivial | rfl)⟩
      · exact absurd c c2
    · rcases wrd7 (si := 8) (by omega) h2 K with ⟨c2, _⟩ | ⟨_, e2⟩
      · exact absurd c2 c
      · rw [show (47 : Int64) = lN (wcd 8) by decide +kernel, e2, e]
        simp only [bd2, if_true]
        rw [fail_e (fun z h => (by cases h))]
        exact ⟨q, some q, 0, _, _, _, _, _, rfl, rfl, if_pos rfl, ⟨h2, fun h => (by cases h), fun z' h' => by cases h'; exact ⟨h2, rfl, K.1⟩⟩, h1, fun h => (by cases h)⟩
theorem mk_e (T : TB t bt a b) {p : Nat} {o : Option Nat} {srt beg te v good : Int32} {w : Int64} (R : RS t bt p o srt beg te w v good) :
    ∃ y p' o' y7 srt' beg' te' w' v' good', f_X4_skipBlanks (nI t) (nI p) a = some (nI (sk t bt p)) ∧
      (if (0 : Int32) ≤ rv o then some ((0 : Int32), nI (sk t bt p), rv o) else bd2 (f_X4_named 9 (nI t) (nI (sk t bt p)) a) (fun (r_19 : Int32) (o_20 : Int32) => (if r_19 = (0 : Int32) then some ((0 : Int32), o_20, rv o) else bd3 (f_X4_number (0 : Int32) (9 : Int32) (nI t) o_20 (rv o) a) (fun (r_24 : Int32) (o_25 : Int32) (o_26 : Int32) => some (r_24, o_25, o_26))))) = some (y, nI p', rv o') ∧
      (if good = (0 : Int32) then some ((0 : Int32), srt, beg, te, w, v, good) else (if (f_X7_isWord (257105 : Int64) srt w) = (0 : Int32) then some ((0 : Int32), srt, beg, te, w, v, good) else bd5 (f_X7_advance (nI t) srt beg te w v b) (fun (o_42 : Int32) (o_43 : Int32) (o_44 : Int32) (o_45 : Int64) (o_46 : Int32) => bd7 (f_X7_wantNumber (0 : Int32) (9 : Int32) (nI t) o_42 o_43 o_44 o_45 o_46 good b) (fun (r_48 : Int32) (o_49 : Int32) (o_50 : Int32) (o_51 : Int32) (o_52 : Int64) (o_53 : Int32) (o_54 : Int32) => some (r_48, o_49, o_50, o_51, o_52, o_53, o_54))))) = some (y7, srt', beg', te', w', v', good') ∧
      RS t bt p' o' srt' beg' te' w' v' good' ∧ p ≤ p' ∧ (o' = none → o = none ∧ ∃ k, k ≤ 9 ∧ y = nI k ∧ y7 = nI k) := by
  have ht := T.1
  obtain ⟨hp, R1, R2⟩ := R
  obtain ⟨h1, h2, h3, h4, h5⟩ := sk_sp T hp
  have hid := sk_id h3
  rw [h4]
  generalize hq : sk t bt p = q at *
  cases o with
  | some z =>
    obtain ⟨z1, z2, z3⟩ := R2 z rfl
    rw [if_pos (rv0 (show z < 2147483648 by omega)), if_pos z2]
    exact ⟨_, q, some z, _, _, _, _, _, _, _, rfl, rfl, rfl, ⟨h2, fun h => (by cases h), fun z' h' => by cases h'; exact ⟨z1, z2, z3⟩⟩, h1, fun h => (by cases h)⟩
  | none =>
    obtain ⟨g1, K⟩ := R1 rfl
    subst g1
    rw [if_neg (show ¬ (0 : Int32) ≤ rv none by decide), if_neg (show ¬ (1 : Int32) = 0 by decide)]
    rcases nam6 T (si := 9) (by omega) h2 with ⟨c, e⟩ | ⟨c, e⟩
    · rcases wrd7 (si := 9) (by omega) h2 K with ⟨_, e2⟩ | ⟨c2, _⟩
      · rw [show (257105 : Int64) = lN (wcd 9) by decide +kernel, e2, e]
        simp only [bd2]
        rw [if_neg (show ¬ (1 : Int32) = 0 by decide), if_neg (show ¬ (1 : Int32) = 0 by decide)]
        obtain ⟨b1, b2, srt', beg', te', w', v', a1, a2⟩ := adv_w T (si := 9) (by omega) h2 K c
        rw [a1]
        simp only [bd5]
        obtain ⟨y, p', o', y7, s2, g2, t2, w2, v2, d2, f1, f2, f3, f4, f5⟩ := num_e T (p := q + wln 9) (lo := 0) (hi := 9) (o := none) (srt := srt') (beg := beg') (te := te') (w := w') (v := v') (good := 1) ⟨b1, fun _ => ⟨rfl, a2⟩, fun z h => (by cases h)⟩ (by omega)
        rw [show f_X4_number (0 : Int32) (9 : Int32) (nI t) (nI (q + wln 9)) (rv none) a = _ from f1, show f_X7_wantNumber (0 : Int32) (9 : Int32) (nI t) srt' beg' te' w' v' 1 b = _ from f2]
        exact ⟨y, p', o', y7, s2, g2, t2, w2, v2, d2, by first | trivial | rfl, rfl, rfl, f3, by omega, fun h => ⟨by first | trivial | rfl, by obtain ⟨_, _, k, _, k2, k3, k4⟩ := f5 h; exact ⟨k, k2, k3, k4⟩⟩⟩
      · exact absurd c c2
    · rcases wrd7 (si := 9) (by omega) h2 K with ⟨c2, _⟩ | ⟨_, e2⟩
      · exact absurd c2 c
      · rw [show (257105 : Int64) = lN (wcd 9) by decide +kernel, e2, e]
        simp only [bd2, if_true]
        exact ⟨0, q, none, 0, srt, beg, te, w, v, 1, by first | trivial | rfl, rfl, rfl, ⟨h2, fun _ => ⟨rfl, by rw [hid]; exact K⟩, fun z h => (by cases h)⟩, h1, fun _ => ⟨by first | trivial | rfl, 0, by omega, rfl, rfl⟩⟩
/-- at which village -/
theorem yat_e (T : TB t bt a b) {p i : Nat} (hi : i < 2) {o : Option Nat} {srt beg te v good : Int32} {w : Int64} (R : RS t bt p o srt beg te w v good) :
    ∃ y p' o' y7 srt' beg' te' w' v' good',
      (if nI i = (0 : Int32) then some ((-9 : Int32), nI p, rv o) else bd2 (f_X4_need 8 (nI t) (nI p) (rv o) a) (fun (o_29 : Int32) (o_30 : Int32) => bd3 (f_X4_number (0 : Int32) (9 : Int32) (nI t) o_29 o_30 a) (fun (r_32 : Int32) (o_33 : Int32) (o_34 : Int32) => some (r_32, o_33, o_34)))) = some (y, nI p', rv o') ∧
      (if nI i = (0 : Int32) then some ((-1 : Int32), srt, beg, te, w, v, good) else lt1 (if good = (0 : Int32) then (0 : Int32) else (if (f_X7_isWord (47 : Int64) srt w) = (0 : Int32) then (0 : Int32) else (1 : Int32))) (fun (j_57 : Int32) => bd5 (if j_57 = (0 : Int32) then some (srt, beg, te, w, v) else bd5 (f_X7_advance (nI t) srt beg te w v b) (fun (o_73 : Int32) (o_74 : Int32) (o_75 : Int32) (o_76 : Int64) (o_77 : Int32) => some (o_73, o_74, o_75, o_76, o_77))) (fun (j_59 : Int32) (j_60 : Int32) (j_61 : Int32) (j_62 : Int64) (j_63 : Int32) => bd7 (f_X7_wantNumber (0 : Int32) (9 : Int32) (nI t) j_59 j_60 j_61 j_62 j_63 j_57 b) (fun (r_64 : Int32) (o_65 : Int32) (o_66 : Int32) (o_67 : Int32) (o_68 : Int64) (o_69 : Int32) (o_70 : Int32) => some (r_64, o_65, o_66, o_67, o_68, o_69, o_70))))) = some (y7, srt', beg', te', w', v', good') ∧
      RS t bt p' o' srt' beg' te' w' v' good' ∧ p ≤ p' ∧ (o' = none → o = none ∧ ∃ u, sm u ∧ y = ov u ∧ y7 = rv u) := by
  rcases (show i = 0 ∨ i = 1 by omega) with rfl | rfl
  · rw [if_pos (show nI 0 = (0 : Int32) from rfl), if_pos (show nI 0 = (0 : Int32) from rfl)]
    exact ⟨_, p, o, _, _, _, _, _, _, _, rfl, rfl, R, Nat.le_refl p, fun h => ⟨h, none, sm_n, rfl, rfl⟩⟩
  · rw [if_neg (show ¬ nI 1 = (0 : Int32) by decide), if_neg (show ¬ nI 1 = (0 : Int32) by decide)]
    obtain ⟨p1, o1, g1, s1, b1, t1, w1, v1, e1, e2, e3, e4, e5, e6⟩ := need_e T R
    rw [e1]
    simp only [lt1, bd2]
    rw [e2, e3]
    simp only [bd5]
    obtain ⟨y, p', o', y7, s2, g2, t2, w2, v2, d2, f1, f2, f3, f4, f5⟩ := num_e T (lo := 0) (hi := 9) e4 (by omega)
    rw [show f_X4_number (0 : Int32) (9 : Int32) (nI t) (nI p1) (rv o1) a = _ from f1, show f_X7_wantNumber (0 : Int32) (9 : Int32) (nI t) s1 b1 t1 w1 v1 g1 b = _ from f2]
    exact ⟨y, p', o', y7, s2, g2, t2, w2, v2, d2, rfl, rfl, f3, by omega, fun h => by
      obtain ⟨q1, _, k, _, k2, k3, k4⟩ := f5 h
      exact ⟨e6 q1, some k, sm_s (by omega), k3, k4⟩⟩
end
