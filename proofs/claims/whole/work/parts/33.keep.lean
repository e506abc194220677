/-! ===== books kept ===== -/
def PK (ik kz khc kn : Int32) (kvil kmar khld kr : Nat → Int32) : Prop := ik = 0 ∨ (¬ ik = 0 ∧ ∃ (n hc : Nat) (cd : Nat → Nat) (g : Nat → Option Nat) (mk : Nat → Nat), khc = nI hc ∧ kn = nI n ∧ (2 ≤ n ∧ n ≤ 10) ∧ hc ≤ 6 ∧ (∀ i, i < hc → cd i < 600) ∧ BkO g mk ∧ BkC g mk kvil kmar ∧ (∀ i, i < hc → khld i = nI (cd i)) ∧
  kr 0 = nI n ∧ kr 1 = nI hc ∧ kr 2 = kz ∧ (∀ j, j < 24 → kr (3 + j) = rv (g j)) ∧ (∀ j, j < 24 → kr (27 + j) = nI (mk j)) ∧ HdR hc cd (fun j => kr (51 + j)))
theorem mv1_j {N np : Nat} {p : Nat → Int32} (hN : N ≤ np) (hnp : np < 1000) : ∀ (d x f mv : Nat) (kr : Nat → Int32), x + d = N → mv + d ≤ 80 → d < f → ∃ (kr' : Nat → Int32), f_X7_moveRow_L3 (nI N) 1 np f (nI x) (nI mv) p kr = some (nI (mv + d), p, kr') ∧ ∀ j, kr' j = if mv ≤ j ∧ j < mv + d then p (x + (j - mv)) else kr j := by
  intro d
  induction d with
  | zero =>
    intro x f mv kr hx hm hf
    obtain ⟨f, rfl⟩ : ∃ q, f = q + 1 := ⟨f - 1, by omega⟩
    obtain rfl : x = N := by omega
    exact ⟨kr, by rw [f_X7_moveRow_L3, if_pos (nI_le (Nat.le_refl x) (by omega))]; rfl, fun j => by rw [if_neg (by omega)]⟩
  | succ d ih =>
    intro x f mv kr hx hm hf
    obtain ⟨f, rfl⟩ : ∃ q, f = q + 1 := ⟨f - 1, by omega⟩
    have h80 : mv < 80 := by omega
    have hxn : x < np := by omega
    obtain ⟨kr', e1, e2⟩ := ih (x + 1) f (mv + 1) (upd kr mv (p x)) (by omega) (by omega) (by omega)
    refine ⟨kr', ?_, fun j => ?_⟩
    · rw [f_X7_moveRow_L3, if_neg (nl (show x < N by omega) (by omega)), if_neg (show ¬ (1 : Int32) = 0 by decide), gd_nI hxn (by omega), gd_nI h80 (by decide), clp hxn (by omega), clp h80 (by decide)]
      simp only [bd2, nI_1, e1]
      rw [show mv + 1 + d = mv + (d + 1) by omega]
    · rw [e2 j]
      by_cases c : j = mv
      · rw [if_neg (by omega), if_pos (by omega), c, pk_us, Nat.sub_self, Nat.add_zero]
      · by_cases c2 : mv ≤ j ∧ j < mv + (d + 1)
        · rw [if_pos (by omega), if_pos c2, show x + 1 + (j - (mv + 1)) = x + (j - mv) by omega]
        · rw [if_neg (by omega), if_neg c2, pk_un c]
theorem mv0_j {N np : Nat} {kr : Nat → Int32} (hN : N ≤ np) (hnp : np < 1000) : ∀ (d x f mv : Nat) (p : Nat → Int32), x + d = N → mv + d ≤ 80 → d < f → ∃ (p' : Nat → Int32), f_X7_moveRow_L3 (nI N) 0 np f (nI x) (nI mv) p kr = some (nI (mv + d), p', kr) ∧ ∀ j, p' j = if x ≤ j ∧ j < N then kr (mv + (j - x)) else p j := by
  intro d
  induction d with
  | zero =>
    intro x f mv p hx hm hf
    obtain ⟨f, rfl⟩ : ∃ q, f = q + 1 := ⟨f - 1, by omega⟩
    obtain rfl : x = N := by omega
    exact ⟨p, by rw [f_X7_moveRow_L3, if_pos (nI_le (Nat.le_refl x) (by omega))]; rfl, fun j => by rw [if_neg (by omega)]⟩
  | succ d ih =>
    intro x f mv p hx hm hf
    obtain ⟨f, rfl⟩ : ∃ q, f = q + 1 := ⟨f - 1, by omega⟩
    have h80 : mv < 80 := by omega
    have hxn : x < np := by omega
    obtain ⟨p', e1, e2⟩ := ih (x + 1) f (mv + 1) (upd p x (kr mv)) (by omega) (by omega) (by omega)
    refine ⟨p', ?_, fun j => ?_⟩
    · rw [f_X7_moveRow_L3, if_neg (nl (show x < N by omega) (by omega)), if_pos rfl, gd_nI h80 (by decide), gd_nI hxn (by omega), clp hxn (by omega), clp h80 (by decide)]
      simp only [bd2, nI_1, e1]
      rw [show mv + 1 + d = mv + (d + 1) by omega]
    · rw [e2 j]
      by_cases c : j = x
      · rw [if_neg (by omega), if_pos (by omega), c, pk_us, Nat.sub_self, Nat.add_zero]
      · by_cases c2 : x ≤ j ∧ j < N
        · rw [if_pos (by omega), if_pos c2, show mv + 1 + (j - (x + 1)) = mv + (j - x) by omega]
        · rw [if_neg (by omega), if_neg c2, pk_un c]
theorem row1_e {N np mv : Nat} {p : Nat → Int32} (hN : N ≤ np) (hnp : np < 1000) (hm : mv + N ≤ 80) (kr : Nat → Int32) : ∃ (kr' : Nat → Int32), f_X7_moveRow (nI N) 1 np (nI mv) p kr = some (nI (mv + N), p, kr') ∧ ∀ j, kr' j = if mv ≤ j ∧ j < mv + N then p (j - mv) else kr j := by
  obtain ⟨kr', e1, e2⟩ := mv1_j (p := p) hN hnp N 0 1000 mv kr (by omega) hm (by omega)
  refine ⟨kr', ?_, fun j => by rw [e2 j, Nat.zero_add]⟩
  unfold f_X7_moveRow
  rw [show f_X7_moveRow_L3 (nI N) 1 np 1000 0 (nI mv) p kr = _ from e1]; rfl
theorem row0_e {N np mv : Nat} {kr : Nat → Int32} (hN : N ≤ np) (hnp : np < 1000) (hm : mv + N ≤ 80) (p : Nat → Int32) : ∃ (p' : Nat → Int32), f_X7_moveRow (nI N) 0 np (nI mv) p kr = some (nI (mv + N), p', kr) ∧ ∀ j, p' j = if j < N then kr (mv + j) else p j := by
  obtain ⟨p', e1, e2⟩ := mv0_j (kr := kr) hN hnp N 0 1000 mv p (by omega) hm (by omega)
  refine ⟨p', ?_, fun j => ?_⟩
  · unfold f_X7_moveRow
    rw [show f_X7_moveRow_L3 (nI N) 0 np 1000 0 (nI mv) p kr = _ from e1]; rfl
  · rw [e2 j]
    by_cases c : j < N
    · rw [if_pos (by omega), if_pos c, Nat.sub_zero]
    · rw [if_neg (by omega), if_neg c]
theorem cpyN {f g : Nat → Int32} {N j : Nat} (h : j < N) : va_cpy f g (0 : Int32).toNatClampNeg (0 : Int32).toNatClampNeg N j = f j := sb_cpy0 h
section
variable {n hc : Nat} {cd : Nat → Nat} {g : Nat → Option Nat} {mk : Nat → Nat} {vil mar hld sta mks rul : Nat → Int32}
theorem op_keep (P : PX n hc cd g mk vil mar hld sta mks rul) (z ik kz khc kn mv : Int32) (kvil kmar khld si kr : Nat → Int32) :
    ∃ (kvil' kmar' khld' si' kr' : Nat → Int32) (mv' : Int32), f_X6_keep ik z kz khc kn (nI hc) (nI n) kvil vil kmar mar khld hld = some (1, 1, z, nI hc, nI n, kvil', kmar', khld') ∧
      f_X7_keep (nI n) (nI hc) z ik mv si kr sta mks rul = some (1, 1, mv', si', kr', sta, mks, rul) ∧ PK 1 z (nI hc) (nI n) kvil' kmar' khld' kr' := by
  obtain ⟨hn, hh, hcd, ho, hC, hR, hl, hr⟩ := P
  unfold f_X6_keep f_X7_keep f_X7_moveAll f_X0_become
  obtain ⟨k1, e1, e2⟩ := row1_e (N := 3) (np := 3) (mv := 0) (p := upd (upd (upd si (0 : Int32).toNatClampNeg (nI n)) (1 : Int32).toNatClampNeg (nI hc)) (2 : Int32).toNatClampNeg z) (by omega) (by omega) (by omega) kr
  obtain ⟨k2, e3, e4⟩ := row1_e (N := 24) (np := 100) (mv := 3) (p := sta) (by omega) (by omega) (by omega) k1
  obtain ⟨k3, e5, e6⟩ := row1_e (N := 24) (np := 100) (mv := 27) (p := mks) (by omega) (by omega) (by omega) k2
  obtain ⟨k4, e7, e8⟩ := row1_e (N := 24) (np := 24) (mv := 51) (p := rul) (by omega) (by omega) (by omega) k3
  rw [show f_X7_moveRow 3 1 3 0 _ kr = _ from e1]
  simp only [bd3, bd5, bd6]
  rw [show f_X7_moveRow 24 1 100 (nI (0 + 3)) sta k1 = _ from e3]
  simp only [bd3]
  rw [show f_X7_moveRow 24 1 100 (nI (3 + 24)) mks k2 = _ from e5]
  simp only [bd3]
  rw [show f_X7_moveRow 24 1 24 (nI (27 + 24)) rul k3 = _ from e7]
  have t0 : (0 : Int32).toNatClampNeg = 0 := by decide
  have t1 : (1 : Int32).toNatClampNeg = 1 := by decide
  have t2 : (2 : Int32).toNatClampNeg = 2 := by decide
  have t24 : (24 : Int32).toNatClampNeg = 24 := by decide
  have t6 : (6 : Int32).toNatClampNeg = 6 := by decide
  have q : ∀ j, j < 3 → k4 j = upd (upd (upd si 0 (nI n)) 1 (nI hc)) 2 z j := fun j hj => by
    rw [e8, if_neg (by omega), e6, if_neg (by omega), e4, if_neg (by omega), e2, if_pos (by omega), t0, t1, t2, Nat.sub_zero]
  refine ⟨_, _, _, _, k4, _, rfl, rfl, Or.inr ⟨by decide, n, hc, cd, g, mk, rfl, rfl, hn, hh, hcd, ho, ⟨fun y hy => ?_, fun y hy => ?_⟩, fun i hi => ?_, ?_, ?_, ?_, fun j hj => ?_, fun j hj => ?_, fun i hi => ?_⟩⟩
  · rw [t24, cpyN hy, hC.1 y hy]
  · rw [t24, cpyN hy, hC.2 y hy]
  · rw [t6, cpyN (by omega), hl i hi]
  · rw [q 0 (by omega), pk_un (by omega), pk_un (by omega), pk_us]
  · rw [q 1 (by omega), pk_un (by omega), pk_us]
  · rw [q 2 (by omega), pk_us]
  · rw [e8, if_neg (by omega), e6, if_neg (by omega), e4, if_pos (by omega), show 3 + j - 3 = j by omega, hR.1 j (by omega)]
  · rw [e8, if_neg (by omega), e6, if_pos (by omega), show 27 + j - 27 = j by omega, hR.2 j (by omega)]
  · have hk : ∀ j, j < 24 → k4 (51 + j) = rul j := fun j hj => by rw [e8, if_pos (by omega), show 51 + j - 51 = j by omega]
    have := hr i hi
    show k4 (51 + 4 * i) = _ ∧ k4 (51 + (4 * i + 1)) = _ ∧ k4 (51 + (4 * i + 2)) = _ ∧ k4 (51 + (4 * i + 3)) = _
    rw [hk _ (by omega), hk _ (by omega), hk _ (by omega), hk _ (by omega)]
    exact this
theorem op_again (P : PX n hc cd g mk vil mar hld sta mks rul) (z ik kz khc kn mv : Int32) (kvil kmar khld si kr : Nat → Int32) (K : PK ik kz khc kn kvil kmar khld kr) :
    ∃ (r z' : Int32) (n' hc' : Nat) (cd' : Nat → Nat) (g' : Nat → Option Nat) (mk' : Nat → Nat) (vil' mar' hld' si' sta' mks' rul' : Nat → Int32) (mv' : Int32),
      f_X6_again ik z kz (nI hc) (nI n) khc kn vil kvil mar kmar hld khld = some (r, z', nI hc', nI n', vil', mar', hld') ∧
      f_X7_again (nI n) (nI hc) z ik mv si kr sta mks rul = some (r, nI n', nI hc', z', mv', si', kr, sta', mks', rul') ∧ PX n' hc' cd' g' mk' vil' mar' hld' sta' mks' rul' := by
  have P0 := P
  obtain ⟨hn, hh, hcd, ho, hC, hR, hl, hr⟩ := P
  unfold f_X6_again f_X7_again
  rcases K with rfl | ⟨c, n', hc', cd', g', mk', rfl, rfl, p1, p2, p3, p4, p5, p6, p7, p8, p9, p10, p11, p12⟩
  · rw [if_pos rfl, if_pos rfl]
    exact ⟨_, _, n, hc, cd, g, mk, _, _, _, _, _, _, _, _, rfl, rfl, P0⟩
  · rw [if_neg c, if_neg c]
    unfold f_X7_moveAll f_X0_become
    obtain ⟨k1, e1, e2⟩ := row0_e (kr := kr) (N := 3) (np := 3) (mv := 0) (by omega) (by omega) (by omega) (upd (upd (upd si (0 : Int32).toNatClampNeg (nI n)) (1 : Int32).toNatClampNeg (nI hc)) (2 : Int32).toNatClampNeg z)
    obtain ⟨k2, e3, e4⟩ := row0_e (kr := kr) (N := 24) (np := 100) (mv := 3) (by omega) (by omega) (by omega) sta
    obtain ⟨k3, e5, e6⟩ := row0_e (kr := kr) (N := 24) (np := 100) (mv := 27) (by omega) (by omega) (by omega) mks
    obtain ⟨k4, e7, e8⟩ := row0_e (kr := kr) (N := 24) (np := 24) (mv := 51) (by omega) (by omega) (by omega) rul
    rw [show f_X7_moveRow 3 0 3 0 _ kr = _ from e1]
    simp only [bd3, bd5, bd6]
    rw [show f_X7_moveRow 24 0 100 (nI (0 + 3)) sta kr = _ from e3]
    simp only [bd3]
    rw [show f_X7_moveRow 24 0 100 (nI (3 + 24)) mks kr = _ from e5]
    simp only [bd3]
    rw [show f_X7_moveRow 24 0 24 (nI (27 + 24)) rul kr = _ from e7]
    have t0 : (0 : Int32).toNatClampNeg = 0 := by decide
    have t1 : (1 : Int32).toNatClampNeg = 1 := by decide
    have t2 : (2 : Int32).toNatClampNeg = 2 := by decide
    have t24 : (24 : Int32).toNatClampNeg = 24 := by decide
    have t6 : (6 : Int32).toNatClampNeg = 6 := by decide
    have hv : BkC g' mk' (va_cpy kvil vil (0 : Int32).toNatClampNeg (0 : Int32).toNatClampNeg (24 : Int32).toNatClampNeg) (va_cpy kmar mar (0 : Int32).toNatClampNeg (0 : Int32).toNatClampNeg (24 : Int32).toNatClampNeg) := ⟨fun y hy => by rw [t24, cpyN hy, p5.1 y hy], fun y hy => by rw [t24, cpyN hy, p5.2 y hy]⟩
    have hs : BkR g' mk' k2 k3 := ⟨fun y hy => by
      rw [e4 y]
      by_cases d : y < 24
      · rw [if_pos d, p10 y d]
      · rw [if_neg d, hR.1 y hy, ho.2.1 y (by omega), p4.2.1 y (by omega)], fun y hy => by
      rw [e6 y]
      by_cases d : y < 24
      · rw [if_pos d, p11 y d]
      · rw [if_neg d, hR.2 y hy, ho.2.2.2 y (by omega), p4.2.2.2 y (by omega)]⟩
    obtain ⟨r, _, w1, w2⟩ := told_e hv.1 hs.1 p4.1
    simp only [bd1, bd3, bd6]
    rw [w1, w2]
    refine ⟨nI r, kz, n', hc', cd', g', mk', _, _, _, k1, k2, k3, k4, nI (51 + 24), rfl, ?_, p1, p2, p3, p4, hv, hs, fun i hi => ?_, fun i hi => ?_⟩
    · have q0 : k1 0 = nI n' := by rw [e2 0, if_pos (by omega), Nat.add_zero, p7]
      have q1 : k1 1 = nI hc' := by rw [e2 1, if_pos (by omega), show 0 + 1 = 1 from rfl, p8]
      have q2 : k1 2 = kz := by rw [e2 2, if_pos (by omega), show 0 + 2 = 2 from rfl, p9]
      simp only [bd1, t0, t1, t2, q0, q1, q2]
    · rw [t6, cpyN (by omega), p6 i hi]
    · have hk : ∀ j, j < 24 → k4 j = kr (51 + j) := fun j hj => by rw [e8, if_pos hj]
      rw [hk _ (by omega), hk _ (by omega), hk _ (by omega), hk _ (by omega)]
      exact p12 i hi
end
