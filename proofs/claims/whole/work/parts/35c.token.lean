/-! ===== a text: the token at a place ===== -/
theorem ltr_n {j y x tm : Int32} {w : Int64} {v : Nat → Int32} (h : ¬ j = 1) {f : Nat} (hf : 0 < f) : f_X7_advance_L126 j tm v y f x w = some (x, w) := by
  obtain ⟨f, rfl⟩ : ∃ m, f = m + 1 := ⟨f - 1, by omega⟩
  rw [f_X7_advance_L126, if_neg h]
theorem dig_n {j y x tm w : Int32} {v : Nat → Int32} (h : ¬ j = 2) {f : Nat} (hf : 0 < f) : f_X7_advance_L207 j tm v y f x w = some (x, w) := by
  obtain ⟨f, rfl⟩ : ∃ m, f = m + 1 := ⟨f - 1, by omega⟩
  rw [f_X7_advance_L207, if_neg h]
def tso (t : Nat) (bt : Nat → Nat) (q : Nat) : Nat := if q < t then (if 97 ≤ bt q ∧ bt q ≤ 122 then 1 else if 48 ≤ bt q ∧ bt q ≤ 57 then 2 else 3) else 0
def ten (t : Nat) (bt : Nat → Nat) (q : Nat) : Nat := if q < t then (if 97 ≤ bt q ∧ bt q ≤ 122 then rn t bt 97 122 q else if 48 ≤ bt q ∧ bt q ≤ 57 then rn t bt 48 57 q else q + 1) else q
def Tk (t : Nat) (bt : Nat → Nat) (q : Nat) (srt beg te : Int32) (w : Int64) (v : Int32) : Prop :=
  beg = nI q ∧ te = nI (ten t bt q) ∧ srt = nI (tso t bt q) ∧ (tso t bt q = 1 → w = wval bt q (ten t bt q - q)) ∧ (tso t bt q = 2 → v = dvl bt q (ten t bt q - q)) ∧ (tso t bt q = 3 → v = nI (bt q))
section
variable {t : Nat} {bt : Nat → Nat} {a b : Nat → Int32}
theorem tso_b (q : Nat) : tso t bt q < 4 := by
  unfold tso
  repeat' split
  all_goals omega
theorem tso_0 {q : Nat} : tso t bt q = 0 ↔ ¬ q < t := by
  unfold tso
  by_cases c : q < t
  · rw [if_pos c]
    refine ⟨fun h => ?_, fun h => absurd c h⟩
    split at h
    · omega
    · split at h <;> omega
  · rw [if_neg c]
    exact ⟨fun _ => c, fun _ => rfl⟩
theorem ten_b {q : Nat} (h : q ≤ t) : q ≤ ten t bt q ∧ ten t bt q ≤ t ∧ (q < t → q < ten t bt q) := by
  unfold ten
  by_cases c : q < t
  · rw [if_pos c]
    by_cases l : 97 ≤ bt q ∧ bt q ≤ 122
    · rw [if_pos l]
      have h1 := rn_sp (t := t) (bt := bt) (lo := 97) (hi := 122) h
      have h2 := (rn_up c l).2
      exact ⟨h1.1, h1.2.1, fun _ => h2⟩
    · rw [if_neg l]
      by_cases d : 48 ≤ bt q ∧ bt q ≤ 57
      · rw [if_pos d]
        have h1 := rn_sp (t := t) (bt := bt) (lo := 48) (hi := 57) h
        have h2 := (rn_up c d).2
        exact ⟨h1.1, h1.2.1, fun _ => h2⟩
      · rw [if_neg d]
        exact ⟨by omega, by omega, fun _ => by omega⟩
  · rw [if_neg c]
    exact ⟨by omega, by omega, fun z => absurd z c⟩
theorem adv7 (T : TB t bt a b) {p : Nat} (hp : p ≤ t) (s0 b0 : Int32) (w0 : Int64) (v0 : Int32) : ∃ srt beg te w v, f_X7_advance (nI t) s0 b0 (nI p) w0 v0 b = some (srt, beg, te, w, v) ∧ Tk t bt (sk t bt p) srt beg te w v := by
  have ht := T.1
  obtain ⟨h1, h2, h3, h4, h5⟩ := sk_sp T hp
  unfold f_X7_advance
  rw [h5]
  clear h3 h4 h5
  generalize sk t bt p = q at *
  simp only [bd1, lt1]
  rw [b7 T (show q < 1000 by omega)]
  simp only
  by_cases c : q < t
  · have hb := (T.2 q c).1
    rw [if_pos c, if_pos (nI_pos' (show bt q < 2147483648 by omega))]
    by_cases l : 97 ≤ bt q ∧ bt q ≤ 122
    · have e := ltr7 T (q := q) (t - q) q 1000 (by omega) (Nat.le_refl q) (by omega)
      rw [Nat.sub_self, show wval bt q 0 = (0 : Int64) from rfl] at e
      have hs : tso t bt q = 1 := by unfold tso; rw [if_pos c, if_pos l]
      have he : ten t bt q = rn t bt 97 122 q := by unfold ten; rw [if_pos c, if_pos l]
      rw [if_neg (show ¬ f_X7_isLetter (nI (bt q)) = 0 from fun z => (isLet hb).mp z l), if_neg (show ¬ (1 : Int32) = 2 by decide), if_neg (show ¬ (1 : Int32) = 3 by decide), e]
      simp only [bd2]
      rw [dig_n (by decide) (by omega)]
      refine ⟨_, _, _, _, _, rfl, rfl, ?_, ?_, ?_, ?_, ?_⟩
      · rw [he]
      · rw [hs]; rfl
      · intro _; rw [he]
      · intro z; omega
      · intro z; omega
    · rw [if_pos (show f_X7_isLetter (nI (bt q)) = 0 from (isLet hb).mpr l)]
      by_cases d : 48 ≤ bt q ∧ bt q ≤ 57
      · have e := dig7 T (q := q) (t - q) q 1000 (by omega) (Nat.le_refl q) (by omega)
        rw [Nat.sub_self, show dvl bt q 0 = (0 : Int32) from rfl] at e
        have hs : tso t bt q = 2 := by unfold tso; rw [if_pos c, if_neg l, if_pos d]
        have he : ten t bt q = rn t bt 48 57 q := by unfold ten; rw [if_pos c, if_neg l, if_pos d]
        rw [if_neg (show ¬ f_X7_isDigit (nI (bt q)) = 0 from fun z => (isDig hb).mp z d), if_pos rfl, if_neg (show ¬ (2 : Int32) = 3 by decide), ltr_n (by decide) (by omega)]
        simp only [bd2]
        rw [e]
        refine ⟨_, _, _, _, _, rfl, rfl, ?_, ?_, ?_, ?_, ?_⟩
        · rw [he]
        · rw [hs]; rfl
        · intro z; omega
        · intro _; rw [he]
        · intro z; omega
      · have hs : tso t bt q = 3 := by unfold tso; rw [if_pos c, if_neg l, if_neg d]
        have he : ten t bt q = q + 1 := by unfold ten; rw [if_pos c, if_neg l, if_neg d]
        rw [if_pos (show f_X7_isDigit (nI (bt q)) = 0 from (isDig hb).mpr d), if_neg (show ¬ (3 : Int32) = 2 by decide), if_pos rfl, ltr_n (by decide) (by omega)]
        simp only [bd2]
        rw [dig_n (by decide) (by omega)]
        refine ⟨_, _, _, _, _, rfl, rfl, ?_, ?_, ?_, ?_, ?_⟩
        · rw [he, nI_1]
        · rw [hs]; rfl
        · intro z; omega
        · intro z; omega
        · intro _; rfl
  · have hs : tso t bt q = 0 := tso_0.mpr c
    have he : ten t bt q = q := by unfold ten; rw [if_neg c]
    rw [if_neg c, if_neg (show ¬ (0 : Int32) ≤ -1 by decide), if_neg (show ¬ (0 : Int32) = 2 by decide), if_neg (show ¬ (0 : Int32) = 3 by decide), ltr_n (by decide) (by omega)]
    simp only [bd2]
    rw [dig_n (by decide) (by omega)]
    refine ⟨_, _, _, _, _, rfl, rfl, ?_, ?_, ?_, ?_, ?_⟩
    · rw [he]
    · rw [hs]; rfl
    · intro z; omega
    · intro z; omega
    · intro z; omega
/-! words by name -/
def wch (si i : Nat) : Nat := ((bytS.getD si []).getD i 0).toNatClampNeg
def wln (si : Nat) : Nat := lenS.getD si 0
def wcd (si : Nat) : Nat := wv (fun i => wch si i - 96) (wln si)
theorem wch_e : ∀ si, si < 11 → ∀ i, i < 8 → i < wln si → f_J0_charAt_5068e si (nI i) = some (nI (wch si i)) ∧ 97 ≤ wch si i ∧ wch si i ≤ 122 := by decide +kernel
theorem wln_e : ∀ si, si < 11 → f_J0_length_8abf5 si = nI (wln si) ∧ 2 ≤ wln si ∧ wln si ≤ 8 := by decide +kernel
theorem wcd_i : ∀ i, i < 11 → ∀ j, j < 11 → wcd i = wcd j → i = j := by decide +kernel
def nm (t : Nat) (bt : Nat → Nat) (si q : Nat) : Prop := (∀ i, i < wln si → q + i < t ∧ bt (q + i) = wch si i) ∧ ¬ isL t bt (q + wln si)
theorem nam_j (T : TB t bt a b) {si q : Nat} (hs : si < 11) (hq : q ≤ t) : ∀ d k f, k + d = wln si → d < f →
    ((∀ i, k ≤ i → i < wln si → q + i < t ∧ bt (q + i) = wch si i) ∧ f_X4_named_L2 si (nI q) (nI t) a f (nI k) = some (.inl ())) ∨
    (¬ (∀ i, k ≤ i → i < wln si → q + i < t ∧ bt (q + i) = wch si i) ∧ f_X4_named_L2 si (nI q) (nI t) a f (nI k) = some (.inr (0, nI q))) := by
  have ht := T.1
  obtain ⟨el, l2, l8⟩ := wln_e si hs
  intro d
  induction d with
  | zero =>
    intro k f hk hf
    obtain ⟨f, rfl⟩ : ∃ m, f = m + 1 := ⟨f - 1, by omega⟩
    left
    refine ⟨fun i h1 h2 => by omega, ?_⟩
    rw [f_X4_named_L2, el, if_pos (nI_le (by omega) (by omega))]
  | succ d ih =>
    intro k f hk hf
    obtain ⟨f, rfl⟩ : ∃ m, f = m + 1 := ⟨f - 1, by omega⟩
    obtain ⟨ec, c1, c2⟩ := wch_e si hs k (by omega) (by omega)
    obtain ⟨x, e1, e2⟩ := b6_eq T (j := q + k) (c := wch si k) (by omega) (by omega)
    rw [f_X4_named_L2, el, if_neg (nl (show k < wln si by omega) (by omega)), nI_add, e1, ec]
    simp only [bd1]
    by_cases c : x = nI (wch si k)
    · rw [if_pos c, nI_1]
      have hc := e2.mp c
      rcases ih (k + 1) f (by omega) (by omega) with ⟨h1, h2⟩ | ⟨h1, h2⟩
      · left
        refine ⟨fun i a1 a2 => ?_, h2⟩
        by_cases e : i = k
        · rw [e]; exact hc
        · exact h1 i (by omega) a2
      · right
        exact ⟨fun z => h1 (fun i a1 a2 => z i (by omega) a2), h2⟩
    · rw [if_neg c]
      right
      exact ⟨fun z => c (e2.mpr (z k (Nat.le_refl k) (by omega))), rfl⟩
theorem nam6 (T : TB t bt a b) {si q : Nat} (hs : si < 11) (hq : q ≤ t) : (nm t bt si q ∧ f_X4_named si (nI t) (nI q) a = some (1, nI (q + wln si))) ∨ (¬ nm t bt si q ∧ f_X4_named si (nI t) (nI q) a = some (0, nI q)) := by
  have ht := T.1
  obtain ⟨el, l2, l8⟩ := wln_e si hs
  unfold f_X4_named
  rcases nam_j T hs hq (wln si) 0 1000 (by omega) (by omega) with ⟨h1, h2⟩ | ⟨h1, h2⟩
  · obtain ⟨x, e1, e2⟩ := letter6 T (j := q + wln si) (by omega)
    rw [show f_X4_named_L2 si (nI q) (nI t) a 1000 0 = some (.inl ()) from h2]
    simp only [bs0, el, nI_add, e1, bd1]
    by_cases c : x = 0
    · rw [if_pos c]
      left
      exact ⟨⟨fun i hi => h1 i (by omega) hi, fun z => e2.mpr z c⟩, rfl⟩
    · rw [if_neg c]
      right
      exact ⟨fun z => z.2 (e2.mp c), rfl⟩
  · rw [show f_X4_named_L2 si (nI q) (nI t) a 1000 0 = some (.inr (0, nI q)) from h2]
    right
    exact ⟨fun z => h1 (fun i _ hi => z.1 i hi), rfl⟩
theorem wv_c {d e : Nat → Nat} : ∀ l, (∀ i, i < l → d i = e i) → wv d l = wv e l := by
  intro l
  induction l with
  | zero => intro _; rfl
  | succ l ih =>
    intro h
    rw [wv, wv, ih (fun i hi => h i (by omega)), h l (by omega)]
theorem nm_sp {si q : Nat} (hs : si < 11) (h : nm t bt si q) : q < t ∧ tso t bt q = 1 ∧ ten t bt q = q + wln si ∧ wv (fun i => bt (q + i) - 96) (wln si) = wcd si := by
  obtain ⟨_, l2, l8⟩ := wln_e si hs
  have h0 := h.1 0 (by omega)
  rw [Nat.add_zero] at h0
  have hc := (wch_e si hs 0 (by omega) (by omega)).2
  have l : 97 ≤ bt q ∧ bt q ≤ 122 := by rw [h0.2]; exact hc
  have hl := h.1 (wln si - 1) (by omega)
  refine ⟨h0.1, by unfold tso; rw [if_pos h0.1, if_pos l], ?_, wv_c _ (fun i hi => by show bt (q + i) - 96 = wch si i - 96; rw [(h.1 i hi).2])⟩
  unfold ten
  rw [if_pos h0.1, if_pos l]
  refine rn_un (by omega) (by omega) (fun j a1 a2 => ?_) (fun z1 z2 => h.2 ⟨z1, z2⟩)
  have h3 := (h.1 (j - q) (by omega)).2
  rw [show q + (j - q) = j by omega] at h3
  rw [h3]
  exact (wch_e si hs (j - q) (by omega) (by omega)).2
theorem nm_u {si sj q : Nat} (hi : si < 11) (hj : sj < 11) (h : nm t bt si q) (h2 : nm t bt sj q) : si = sj := by
  obtain ⟨_, _, a1, a2⟩ := nm_sp hi h
  obtain ⟨_, _, b1, b2⟩ := nm_sp hj h2
  have e : wln si = wln sj := by omega
  rw [e] at a2
  exact wcd_i si hi sj hj (a2.symm.trans b2)
theorem wrd7 {q si : Nat} {srt beg te v : Int32} {w : Int64} (hs : si < 11) (hq : q ≤ t) (K : Tk t bt q srt beg te w v) : (nm t bt si q ∧ f_X7_isWord (lN (wcd si)) srt w = 1) ∨ (¬ nm t bt si q ∧ f_X7_isWord (lN (wcd si)) srt w = 0) := by
  obtain ⟨_, l2, l8⟩ := wln_e si hs
  obtain ⟨k1, k2, k3, k4, _, _⟩ := K
  unfold f_X7_isWord
  by_cases c : nm t bt si q
  · left
    refine ⟨c, ?_⟩
    obtain ⟨c0, c1, c2, c3⟩ := nm_sp hs c
    rw [k3, c1, if_pos (show nI 1 = (1 : Int32) from rfl), k4 c1, c2, show q + wln si - q = wln si by omega]
    unfold wval
    rw [if_pos l8, c3, if_pos ((lg_cmp_eq _ _).mpr rfl)]
  · right
    refine ⟨c, ?_⟩
    by_cases s1 : srt = 1
    · rw [if_pos s1]
      by_cases s2 : lg_cmp w (lN (wcd si)) = 0
      · exfalso
        have s3 := (lg_cmp_eq _ _).mp s2
        have t1 : tso t bt q = 1 := by
          have := tso_b (t := t) (bt := bt) q
          rw [k3] at s1
          exact (nI_eq (b := 1) (by omega) (by omega)).mp s1
        rw [k4 t1] at s3
        have hqt : q < t := by
          rcases Nat.lt_or_ge q t with h | h
          · exact h
          · have := (tso_0 (t := t) (bt := bt)).mpr (show ¬ q < t by omega); omega
        have lq : 97 ≤ bt q ∧ bt q ≤ 122 := by
          apply Classical.byContradiction
          intro z
          unfold tso at t1
          rw [if_pos hqt, if_neg z] at t1
          split at t1 <;> omega
        have he : ten t bt q = rn t bt 97 122 q := by unfold ten; rw [if_pos hqt, if_pos lq]
        obtain ⟨r1, r2, r3, r4⟩ := rn_sp (t := t) (bt := bt) (lo := 97) (hi := 122) hq
        rw [he] at s3
        unfold wval at s3
        have hd : ∀ i, i < wln si → 1 ≤ wch si i - 96 ∧ wch si i - 96 ≤ 26 := fun i hi => by
          have := (wch_e si hs i (by omega) hi).2; omega
        have wb : wcd si < 9223372036854775808 := wv_8 l8 (fun i hi => (hd i hi).2)
        by_cases k8 : rn t bt 97 122 q - q ≤ 8
        · rw [if_pos k8] at s3
          have hd2 : ∀ i, i < rn t bt 97 122 q - q → 1 ≤ bt (q + i) - 96 ∧ bt (q + i) - 96 ≤ 26 := fun i hi => by
            have := r3 (q + i) (by omega) (by omega); omega
          have s4 := (lNb (wv_8 k8 (fun i hi => (hd2 i hi).2)) wb).mp s3
          obtain ⟨u1, u2⟩ := wv_inj _ _ hd2 hd s4
          apply c
          refine ⟨fun i hi => ?_, fun z => r4 ?_ ?_⟩
          · have a1 := u2 i (by omega)
            have a2 := r3 (q + i) (by omega) (by omega)
            have a3 := (wch_e si hs i (by omega) hi).2
            exact ⟨by omega, by omega⟩
          · have := z.1; omega
          · have := z.2
            rw [show q + wln si = rn t bt 97 122 q by omega] at this
            exact this
        · rw [if_neg k8] at s3
          exact lNm wb s3
      · rw [if_neg s2]
    · rw [if_neg s1]
end
