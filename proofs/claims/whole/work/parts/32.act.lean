/-! ===== acts ===== -/
theorem note1 {c : Nat} (hc : c < 30) (b : Int32) (ran : Nat → Int32) : f_X5_note b (nI c) ran = some (nI (c + 1), upd ran c b) := by
  unfold f_X5_note
  rw [if_neg (nI_pos (by omega)), if_neg (nl30 hc), gd_nI hc (by decide), clp hc (by decide), nI_1]
theorem ran1 {c : Nat} (hc : c < 30) (b : Int32) (ran : Nat → Int32) : f_X7_ran b (nI c) ran = some (nI (c + 1), upd ran c b) := by
  unfold f_X7_ran
  rw [if_neg (nl30 hc), gd_nI hc (by decide), clp hc (by decide), nI_1]
theorem own_e (rec : Int32 → Int32 → Int32 → Int32 → Int32 → Int32 → Int32 → Int32 → (Nat → Int32) → Option (Int32 × Int32 × Int32 × (Nat → Int32))) {ki ac : Nat} (hk : ki < 6) (ha : ac < 4) (x d c nu a p : Int32) (ran : Nat → Int32) :
    f_X5_own rec (nI ac) x d c (nI ki) nu a p ran = rec (tabB (ki * 4 + ac)) x d c (nI ki) nu a p ran := by
  unfold f_X5_own
  have h24 : ki * 4 + ac < 24 := by omega
  rw [show nI ki * (4 : Int32) = nI (ki * 4) from pk_mul ki 4, nI_add, if_neg (nI_pos (by omega)), if_pos (show nI (ki * 4 + ac) < (24 : Int32) from nI_lt h24 (by decide)), gd_nI h24 (by decide), clp h24 (by decide)]
  cases rec (tabB (ki * 4 + ac)) x d c (nI ki) nu a p ran with
  | none => rfl
  | some q => obtain ⟨q1, q2, q3, q4⟩ := q; rfl
theorem parted1 (f : Nat) (b x d c ki nu a : Int32) (ran : Nat → Int32) : f_X5_body (f + 1) b x d c ki nu a 1 ran = some (0, c, 1, ran) := by
  rw [f_X5_body, if_neg (by decide)]
theorem d20 {d : Nat} (h : d ≤ 20) : nI d ≤ (20 : Int32) := nI_le (b := 20) h (by decide)
section
variable {f d c : Nat} {x ki nu a : Int32} {ran : Nat → Int32}
theorem bo10 (hd : d ≤ 20) (hc : c < 30) : f_X5_body (f + 1) 10 x (nI d) (nI c) ki nu a 0 ran = some (x + nu, nI (c + 1), 0, upd ran c 10) := by
  rw [f_X5_body, if_pos rfl, if_pos (d20 hd), note1 hc]; rfl
theorem bo11 (hd : d ≤ 20) (hc : c < 30) : f_X5_body (f + 1) 11 x (nI d) (nI c) ki nu a 0 ran = bd4 (f_X5_own (f_X5_body f) (nI 0) x (nI (d + 1)) (nI (c + 1)) ki nu a 0 (upd ran c 11)) (fun r o p w => some (r * 2, o, p, w)) := by
  rw [f_X5_body, if_pos rfl, if_pos (d20 hd), note1 hc, nI_1]; rfl
theorem bo12 (hd : d ≤ 20) (hc : c < 30) : f_X5_body (f + 1) 12 x (nI d) (nI c) ki nu a 0 ran = bd2 (f_X5_part x nu a 0) (fun r p => some (r, nI (c + 1), p, upd ran c 12)) := by
  rw [f_X5_body, if_pos rfl, if_pos (d20 hd), note1 hc]; rfl
theorem bo13 (hd : d ≤ 20) (hc : c < 30) : f_X5_body (f + 1) 13 x (nI d) (nI c) ki nu a 0 ran = bd4 (f_X5_own (f_X5_body f) (nI 1) x (nI (d + 1)) (nI (c + 1)) ki nu a 0 (upd ran c 13)) (fun r o p w => some (r ^^^ a, o, p, w)) := by
  rw [f_X5_body, if_pos rfl, if_pos (d20 hd), note1 hc, nI_1]; rfl
theorem bo20 (hd : d ≤ 20) (hc : c < 30) : f_X5_body (f + 1) 20 x (nI d) (nI c) ki nu a 0 ran = bd4 (f_X5_body f 11 x (nI (d + 1)) (nI (c + 1)) ki nu a 0 (upd ran c 20)) (fun r o p w => some (r - a, o, p, w)) := by
  rw [f_X5_body, if_pos rfl, if_pos (d20 hd), note1 hc, nI_1]; rfl
theorem bo30 (hd : d ≤ 20) (hc : c < 30) : f_X5_body (f + 1) 30 x (nI d) (nI c) ki nu a 0 ran = bd4 (f_X5_body f 10 x (nI (d + 1)) (nI (c + 1)) ki nu a 0 (upd ran c 30)) (fun r o p w => some (r * 3, o, p, w)) := by
  rw [f_X5_body, if_pos rfl, if_pos (d20 hd), note1 hc, nI_1]; rfl
theorem bo31 (hd : d ≤ 20) (hc : c < 30) : f_X5_body (f + 1) 31 x (nI d) (nI c) ki nu a 0 ran = bd4 (f_X5_body f 13 x (nI (d + 1)) (nI (c + 1)) ki nu a 0 (upd ran c 31)) (fun r o p w => bd4 (f_X5_own (f_X5_body f) (nI 2) nu (nI (d + 1)) o ki nu a p w) (fun r2 o2 p2 w2 => some (r + r2, o2, p2, w2))) := by
  rw [f_X5_body, if_pos rfl, if_pos (d20 hd), note1 hc, nI_1]; rfl
theorem bo40 (hd : d ≤ 20) (hc : c < 30) : f_X5_body (f + 1) 40 x (nI d) (nI c) ki nu a 0 ran = bd4 (f_X5_body f 10 x (nI (d + 1)) (nI (c + 1)) ki nu a 0 (upd ran c 40)) (fun r o p w => some (0 - r, o, p, w)) := by
  rw [f_X5_body, if_pos rfl, if_pos (d20 hd), note1 hc, nI_1]; rfl
theorem bo41 (hd : d ≤ 20) (hc : c < 30) : f_X5_body (f + 1) 41 x (nI d) (nI c) ki nu a 0 ran = bd4 (f_X5_body f 20 x (nI (d + 1)) (nI (c + 1)) ki nu a 0 (upd ran c 41)) (fun r o p w => bd4 (f_X5_own (f_X5_body f) (nI 0) nu (nI (d + 1)) o ki nu a p w) (fun r2 o2 p2 w2 => some (r + r2, o2, p2, w2))) := by
  rw [f_X5_body, if_pos rfl, if_pos (d20 hd), note1 hc, nI_1]; rfl
theorem bo50 (hd : d ≤ 20) (hc : c < 30) : f_X5_body (f + 1) 50 x (nI d) (nI c) ki nu a 0 ran = bd4 (f_X5_body f 12 (x + 2) (nI (d + 1)) (nI (c + 1)) ki nu a 0 (upd ran c 50)) (fun r o p w => some (r ^^^ 1, o, p, w)) := by
  rw [f_X5_body, if_pos rfl, if_pos (d20 hd), note1 hc, nI_1]; rfl
theorem bo51 (hd : d ≤ 20) (hc : c < 30) : f_X5_body (f + 1) 51 x (nI d) (nI c) ki nu a 0 ran = bd4 (f_X5_body f 10 x (nI (d + 1)) (nI (c + 1)) ki nu a 0 (upd ran c 51)) (fun r o p w => some (r - nu, o, p, w)) := by
  rw [f_X5_body, if_pos rfl, if_pos (d20 hd), note1 hc, nI_1]; rfl
theorem bo60 (hd : d ≤ 20) (hc : c < 30) : f_X5_body (f + 1) 60 x (nI d) (nI c) ki nu a 0 ran = bd4 (f_X5_body f 13 x (nI (d + 1)) (nI (c + 1)) ki nu a 0 (upd ran c 60)) (fun r o p w => some (r * 2, o, p, w)) := by
  rw [f_X5_body, if_pos rfl, if_pos (d20 hd), note1 hc, nI_1]; rfl
theorem bo61 (hd : d ≤ 20) (hc : c < 30) : f_X5_body (f + 1) 61 x (nI d) (nI c) ki nu a 0 ran = bd4 (f_X5_body f 12 x (nI (d + 1)) (nI (c + 1)) ki nu a 0 (upd ran c 61)) (fun r o p w => bd4 (f_X5_own (f_X5_body f) (nI 0) a (nI (d + 1)) o ki nu a p w) (fun r2 o2 p2 w2 => some (r + r2, o2, p2, w2))) := by
  rw [f_X5_body, if_pos rfl, if_pos (d20 hd), note1 hc, nI_1]; rfl
end
