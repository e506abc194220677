/-! ===== the call of a book told in a text ===== -/
theorem op_book {n hc t rc : Nat} {cd : Nat → Nat} {g : Nat → Option Nat} {mk : Nat → Nat} {vil mar hld sta mks rul by6 by7 : Nat → Int32} (P : PX n hc cd g mk vil mar hld sta mks rul) (T : TP t by6 by7)
    (cp cf ch cn : Int32) (cv cm cl : Nat → Int32) (r0 r1 r2 : Int32) (r3 : Int64) (r4 r5 r6 r7 : Int32) (rs rm rr : Nat → Int32) :
    ∃ r n' hc' cd' g' mk' rc' vil' mar' hld' sta' mks' rul' cp' cf' ch' cn' cv' cm' cl' s0 s1 s2 s3 s4 s5 s6 s7 rs' rm' rr',
      f_X6_book (nI t) cp cf ch cn cv cm by6 cl (nI hc) (nI n) vil mar hld (nI rc) = some (r, 0, cp', cf', ch', cn', cv', cm', cl', nI hc', nI n', vil', mar', hld', nI rc') ∧
      f_X7_book (nI n) (nI hc) (nI t) r0 r1 r2 r3 r4 r5 r6 r7 (nI rc) rs rm by7 rr sta mks rul = some (r, nI n', nI hc', 0, s0, s1, s2, s3, s4, s5, s6, s7, nI rc', rs', rm', rr', sta', mks', rul') ∧
      PX n' hc' cd' g' mk' vil' mar' hld' sta' mks' rul' ∧ (rc' = rc ∨ rc' = 0) := by
  have B := tb_of T
  have ht := B.1
  generalize hbt : (fun j => (by7 j).toNatClampNeg) = bt at B
  obtain ⟨v6, m6, e1, e2⟩ := clr6_j 24 0 1000 cv cm (by omega) (by omega) (fun y hy => by omega)
  obtain ⟨v7, m7, e3, e4⟩ := clr7_j 24 0 1000 rs rm (by omega) (by omega) (fun y hy => by omega)
  have F : FR 10 0 (fun _ => 0) (fun _ => none) (fun _ => 0) v6 m6 cl v7 m7 rr := by
    refine ⟨by omega, by omega, fun i hi => by omega, ⟨fun y => sm_n, fun y _ => rfl, fun y => Nat.zero_le 9, fun y _ => rfl⟩, ⟨fun y hy => ?_, fun y hy => ?_⟩, ⟨fun y hy => ?_, fun y hy => ?_⟩, fun i hi => by omega, fun i hi => by omega⟩
    · exact (e2 y hy).1
    · exact (e2 y hy).2
    · exact (e4 y hy).1
    · exact (e4 y hy).2
  unfold f_X6_book f_X7_book f_X4_readInto f_X0_clear
  rw [show f_X0_clear_L2 1000 0 cv cm = _ from e1, show f_X7_book_L23 1000 0 rs rm = _ from e3]
  simp only [bd2, bd4]
  obtain ⟨q1, q2, q3, q4, _⟩ := sk_sp B (p := 0) (by omega)
  obtain ⟨a0, a1, a2, a3, a4, i1, i2⟩ := adv7 B (p := 0) (by omega) r0 r1 r3 r4
  rw [show f_X4_skipBlanks (nI t) 0 by6 = _ from q4, show f_X7_advance (nI t) r0 r1 0 r3 r4 by7 = _ from i1]
  simp only [bd1, bd5]
  obtain ⟨p1, o, h1, n1, vil1, mar1, hld1, s0, s1, s2, s3, s4, s5, n7, h7, sta1, mks1, rul1, l1, l2, l3, l4⟩ := loop_e B 200 (sk t bt 0) 0 1000 1000 10 0 (fun _ => 0) (fun _ => none) (fun _ => 0) v6 m6 cl v7 m7 rr a0 a1 a2 a3 a4 (by omega) q2 (sk_id q3) (by omega) (by omega) (by omega) i2 F
  rw [show f_X4_readInto_L20 (nI t) by6 1000 0 (nI (sk t bt 0)) (-1) 0 10 v6 m6 cl = _ from l1, show f_X7_book_L53 (nI t) by7 1000 a0 a1 a2 a3 a4 1 10 0 v7 m7 rr = _ from l2]
  simp only [bd7, bd8, bd11]
  cases o with
  | some z =>
    obtain ⟨z1, z2, z3⟩ := l4 z rfl
    rw [if_neg (show ¬ rv (some z) < 0 from nI_pos (by omega)), if_pos z2, z3]
    exact ⟨_, n, hc, cd, g, mk, rc, vil, mar, hld, sta, mks, rul, _, _, _, _, _, _, _, _, _, _, _, _, _, _, _, _, _, _, rfl, rfl, P, Or.inl rfl⟩
  | none =>
    obtain ⟨z1, n', hc', cd', g', mk', x1, x2, x3, x4, F'⟩ := l3 rfl
    obtain ⟨hn, hh, hcd, ho, hC, hR, hl, hr⟩ := F'
    obtain ⟨_, _, _, ho0, _, hR0, _, _⟩ := P
    rw [if_pos (show rv none < 0 by decide), if_neg (show ¬ s5 = 0 by rw [z1]; decide), x1, x2, x3, x4]
    obtain ⟨st2, mk2, ru2, c1, c2, c3⟩ := cpy7_j (fs := sta1) (fm := mks1) (fr := rul1) 24 0 1000 sta mks rul (by omega) (by omega) (fun y hy => by omega)
    rw [show f_X7_book_L112 sta1 mks1 rul1 1000 0 sta mks rul = _ from c1]
    unfold f_X0_become
    simp only [bd3, bd5]
    have PB : BkR g' mk' st2 mk2 := by
      constructor
      · intro y hy
        by_cases c : y < 24
        · rw [(c2 y c).1, hR.1 y c]
        · rw [(c3 y (by omega)).1, hR0.1 y hy, ho0.2.1 y (by omega), ho.2.1 y (by omega)]
      · intro y hy
        by_cases c : y < 24
        · rw [(c2 y c).2.1, hR.2 y c]
        · rw [(c3 y (by omega)).2, hR0.2 y hy, ho0.2.2.2 y (by omega), ho.2.2.2 y (by omega)]
    have PC : BkC g' mk' (va_cpy vil1 vil (0 : Int32).toNatClampNeg (0 : Int32).toNatClampNeg (24 : Int32).toNatClampNeg) (va_cpy mar1 mar (0 : Int32).toNatClampNeg (0 : Int32).toNatClampNeg (24 : Int32).toNatClampNeg) := by
      constructor
      · intro y hy
        rw [cpyN (show y < (24 : Int32).toNatClampNeg from hy), hC.1 y hy]
      · intro y hy
        rw [cpyN (show y < (24 : Int32).toNatClampNeg from hy), hC.2 y hy]
    obtain ⟨r, y1, y2, y3⟩ := told_e (v := va_cpy vil1 vil (0 : Int32).toNatClampNeg (0 : Int32).toNatClampNeg (24 : Int32).toNatClampNeg) (s := st2) PC.1 PB.1 ho.1
    rw [y2, y3]
    refine ⟨nI r, n', hc', cd', g', mk', 0, _, _, _, st2, mk2, ru2, _, _, _, _, _, _, _, _, _, _, _, _, _, _, _, _, _, _, rfl, rfl, ⟨hn, hh, hcd, ho, PC, PB, fun i hi => ?_, fun i hi => ?_⟩, Or.inr rfl⟩
    · rw [cpyN (show i < (6 : Int32).toNatClampNeg by rw [show (6 : Int32).toNatClampNeg = 6 by decide]; omega), hl i hi]
    · have hx := hr i hi
      rw [(c2 (4 * i) (by omega)).2.2, (c2 (4 * i + 1) (by omega)).2.2, (c2 (4 * i + 2) (by omega)).2.2, (c2 (4 * i + 3) (by omega)).2.2]
      exact hx
