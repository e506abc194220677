/-! ===== the tape ===== -/
theorem bvk (V : BitVec 64) (k i : Nat) (hk : k ≤ 56) (hi : i < 8) : (BitVec.signExtend 8 (V >>> k))[i] = ((BitVec.signExtend 8 (V.sshiftRight k))[i] && (255#8)[i]) := by
  have h255 : (255#8)[i] = true := by
    rcases (show i = 0 ∨ i = 1 ∨ i = 2 ∨ i = 3 ∨ i = 4 ∨ i = 5 ∨ i = 6 ∨ i = 7 by omega) with rfl | rfl | rfl | rfl | rfl | rfl | rfl | rfl <;> simp
  have h1 : i < 64 := by omega
  have h2 : k + i < 64 := by omega
  rw [h255, Bool.and_true, BitVec.getElem_signExtend, BitVec.getElem_signExtend]
  simp [h1, h2, BitVec.getElem_sshiftRight]
theorem bv0 (V : BitVec 64) (i : Nat) (hi : i < 8) : (BitVec.signExtend 8 V)[i] = true → (255#8)[i] = true := by
  intro _
  rcases (show i = 0 ∨ i = 1 ∨ i = 2 ∨ i = 3 ∨ i = 4 ∨ i = 5 ∨ i = 6 ∨ i = 7 by omega) with rfl | rfl | rfl | rfl | rfl | rfl | rfl | rfl <;> simp
theorem byt_e (v : Int64) (x : Nat) (hx : x < 8) : ((v.toUInt64 >>> (((8 : Int32) * nI x).toInt64.toUInt64 &&& Int64.toUInt64 63)).toInt64.toInt32.toInt8) = ((v >>> (((8 : Int32) * nI x).toInt64 &&& 63)) &&& (255 : Int64)).toInt32.toInt8 := by
  rcases (show x = 0 ∨ x = 1 ∨ x = 2 ∨ x = 3 ∨ x = 4 ∨ x = 5 ∨ x = 6 ∨ x = 7 by omega) with rfl | rfl | rfl | rfl | rfl | rfl | rfl | rfl
  · rw [show (((8 : Int32) * nI 0).toInt64.toUInt64 &&& Int64.toUInt64 63) = 0 by decide, show (((8 : Int32) * nI 0).toInt64 &&& 63) = 0 by decide]
    apply Int8.toBitVec_inj.mp
    ext i hi
    simp
    exact bv0 _ _ hi
  · rw [show (((8 : Int32) * nI 1).toInt64.toUInt64 &&& Int64.toUInt64 63) = 8 by decide, show (((8 : Int32) * nI 1).toInt64 &&& 63) = 8 by decide]
    apply Int8.toBitVec_inj.mp
    ext i hi
    simp
    exact bvk _ 8 i (by omega) hi
  · rw [show (((8 : Int32) * nI 2).toInt64.toUInt64 &&& Int64.toUInt64 63) = 16 by decide, show (((8 : Int32) * nI 2).toInt64 &&& 63) = 16 by decide]
    apply Int8.toBitVec_inj.mp
    ext i hi
    simp
    exact bvk _ 16 i (by omega) hi
  · rw [show (((8 : Int32) * nI 3).toInt64.toUInt64 &&& Int64.toUInt64 63) = 24 by decide, show (((8 : Int32) * nI 3).toInt64 &&& 63) = 24 by decide]
    apply Int8.toBitVec_inj.mp
    ext i hi
    simp
    exact bvk _ 24 i (by omega) hi
  · rw [show (((8 : Int32) * nI 4).toInt64.toUInt64 &&& Int64.toUInt64 63) = 32 by decide, show (((8 : Int32) * nI 4).toInt64 &&& 63) = 32 by decide]
    apply Int8.toBitVec_inj.mp
    ext i hi
    simp
    exact bvk _ 32 i (by omega) hi
  · rw [show (((8 : Int32) * nI 5).toInt64.toUInt64 &&& Int64.toUInt64 63) = 40 by decide, show (((8 : Int32) * nI 5).toInt64 &&& 63) = 40 by decide]
    apply Int8.toBitVec_inj.mp
    ext i hi
    simp
    exact bvk _ 40 i (by omega) hi
  · rw [show (((8 : Int32) * nI 6).toInt64.toUInt64 &&& Int64.toUInt64 63) = 48 by decide, show (((8 : Int32) * nI 6).toInt64 &&& 63) = 48 by decide]
    apply Int8.toBitVec_inj.mp
    ext i hi
    simp
    exact bvk _ 48 i (by omega) hi
  · rw [show (((8 : Int32) * nI 7).toInt64.toUInt64 &&& Int64.toUInt64 63) = 56 by decide, show (((8 : Int32) * nI 7).toInt64 &&& 63) = 56 by decide]
    apply Int8.toBitVec_inj.mp
    ext i hi
    simp
    exact bvk _ 56 i (by omega) hi
theorem and255 (w : Int64) : ∃ b, b < 256 ∧ (w &&& (255 : Int64)).toInt32 = nI b := by
  have h : (w &&& (255 : Int64)).toBitVec.toNat < 256 := by
    rw [Int64.toBitVec_and, BitVec.toNat_and]
    exact Nat.lt_of_le_of_lt Nat.and_le_right (by decide)
  refine ⟨(w &&& (255 : Int64)).toBitVec.toNat, h, ?_⟩
  apply Int32.toBitVec_inj.mp
  apply BitVec.eq_of_toNat_eq
  rw [pk_tn (by omega)]
  have h2 : ((w &&& (255 : Int64)).toBitVec.toNat) < 2 ^ 31 := by omega
  rw [Int64.toBitVec_toInt32, BitVec.signExtend_eq_setWidth_of_le _ (by omega), BitVec.toNat_setWidth]
  omega
/-- the tape on both sides: the class's bytes are signed -/
def TP (t : Nat) (by6 by7 : Nat → Int32) : Prop := t ≤ 200 ∧ ∀ j, j < t → ∃ b, b < 256 ∧ by7 j = nI b ∧ by6 j = (nI b).toInt8.toInt32
theorem tp_u {t : Nat} {a b : Nat → Int32} (h : TP t a b) (ht : t < 200) {q : Nat} (hq : q < 256) {x : Int32} (hx : x = (nI q).toInt8.toInt32) : TP (t + 1) (upd a t x) (upd b t (nI q)) := by
  refine ⟨by omega, fun j hj => ?_⟩
  by_cases c : j = t
  · rw [c, pk_us, pk_us]; exact ⟨q, hq, rfl, hx⟩
  · rw [pk_un c, pk_un c]; exact h.2 j (by omega)
theorem feed_j (v : Int64) {w t0 : Nat} (hw : w ≤ 8) (ht : t0 + w ≤ 200) : ∀ (d x f : Nat) (a b : Nat → Int32), x + d = w → d < f → TP (t0 + x) a b → ∃ (a' b' : Nat → Int32), f_X4_take_L21 (nI w) (nI t0) v f (nI x) a = some a' ∧ f_X7_feed_L30 (nI w) v f (nI x) (nI (t0 + x)) b = some (nI (t0 + w), b') ∧ TP (t0 + w) a' b' := by
  intro d
  induction d with
  | zero =>
    intro x f a b hx hf h
    obtain ⟨f, rfl⟩ : ∃ q, f = q + 1 := ⟨f - 1, by omega⟩
    obtain rfl : x = w := by omega
    exact ⟨a, b, by rw [f_X4_take_L21, if_pos (nI_le (Nat.le_refl x) (by omega))], by rw [f_X7_feed_L30, if_pos (nI_le (Nat.le_refl x) (by omega))], h⟩
  | succ d ih =>
    intro x f a b hx hf h
    obtain ⟨f, rfl⟩ : ∃ q, f = q + 1 := ⟨f - 1, by omega⟩
    have h200 : t0 + x < 200 := by omega
    obtain ⟨q, hq, eq⟩ := and255 (v >>> (((8 : Int32) * nI x).toInt64 &&& 63))
    have hb := byt_e v x (by omega)
    rw [f_X4_take_L21, f_X7_feed_L30, if_neg (nl (show x < w by omega) (by omega)), if_neg (nl (show x < w by omega) (by omega)), nI_add, gd_nI h200 (by decide), gd_nI h200 (by decide), clp h200 (by decide), nI_1, nI_1, pk_vb, eq]
    refine ih (x + 1) f _ _ (by omega) (by omega) (tp_u h h200 hq ?_)
    rw [hb, eq]
theorem op_feed {t : Nat} {a b : Nat → Int32} (h : TP t a b) (v : Int64) (i2 : Int32) : ∃ (r : Int32) (t' : Nat) (a' b' : Nat → Int32), f_X6_feed v i2 (nI t) a = some (r, nI t', a') ∧ f_X7_feed v i2 (nI t) b = some (r, nI t', b') ∧ TP t' a' b' := by
  have ht := h.1
  unfold f_X6_feed f_X7_feed f_X4_take
  rcases rngN i2 1 8 (by omega) (by omega) with ⟨w, hw1, hw, rfl, a1, a2⟩ | ⟨a1, a2⟩
  rotate_left
  · rw [if_neg (show ¬ f_X6_outside i2 1 8 = 0 from a1), if_pos (show f_X7_in i2 1 8 = 0 from a2)]; exact ⟨_, t, _, _, rfl, rfl, h⟩
  rw [if_pos (show f_X6_outside (nI w) 1 8 = 0 from a1), if_neg (show ¬ f_X7_in (nI w) 1 8 = 0 from a2), if_neg (nI_pos (by omega)), show (200 : Int32) - nI t = nI (200 - t) from pk_sub (a := 200) ht, nI_add]
  by_cases c : t + w ≤ 200
  · obtain ⟨a', b', e1, e2, e3⟩ := feed_j v hw c w 0 1000 a b (by omega) (by omega) h
    rw [if_pos (nI_le (by omega) (by omega)), if_pos (show nI (t + w) ≤ (200 : Int32) from nI_le (b := 200) c (by omega)), show f_X4_take_L21 (nI w) (nI t) v 1000 0 a = _ from e1, show f_X7_feed_L30 (nI w) v 1000 0 (nI t) b = _ from e2]
    simp only [bd1, bd2, bd3]
    rw [if_neg (show ¬ (1 : Int32) = 0 by decide)]
    exact ⟨_, t + w, _, _, rfl, rfl, e3⟩
  · rw [if_neg (nI_ge (by omega) (by omega)), if_neg (show ¬ nI (t + w) ≤ (200 : Int32) from nI_ge (a := 200) (by omega) (by omega))]
    simp only [bd3]
    simp only [if_true]
    exact ⟨_, t, _, _, rfl, rfl, h⟩
