/-! the state at the start -/
theorem fr_M {S : Nat → Nat → Bool} {σ : St} {a n : Nat} (h : ∀ x k, a ≤ x → x < a + n → S x k = true) : Fr S σ (zM σ a n) := by
  refine ⟨fun o k q => ?_, fun o k q => ?_, fun o k q => ?_⟩
  · show (if a ≤ o ∧ o < a + n then 0 else gI σ o k) = _
    rw [if_neg (fun e => by rw [h o k e.1 e.2] at q; cases q)]
  · show (if a ≤ o ∧ o < a + n then 0 else gJ σ o k) = _
    rw [if_neg (fun e => by rw [h o k e.1 e.2] at q; cases q)]
  · show (if a ≤ o ∧ o < a + n then none else gR σ o k) = _
    rw [if_neg (fun e => by rw [h o k e.1 e.2] at q; cases q)]
section STA
variable {o b : Nat} {S : Nat → Nat → Bool}
theorem itS_f (hS : ∀ a k, b ≤ a → S a k = true) : ∀ n i q, b ≤ q.2.1 → Fr S q.1 (itS o n i q).1
  | 0, _, q, _ => Fr.rf q.1
  | n + 1, i, q, h => by
    refine Fr.tr ?_ (itS_f hS n (i + 1) (stS o i q) (by show b ≤ q.2.1 + 1 + 1; omega))
    exact (fr_Z (fun k => hS _ k h)).tr (fr_Z (fun k => hS _ k (by show b ≤ q.2.1 + 1; omega)))
theorem itW_f (hS : ∀ a k, b ≤ a → S a k = true) : ∀ n i q, b ≤ q.2.1 → Fr S q.1 (itW o n i q).1
  | 0, _, q, _ => Fr.rf q.1
  | n + 1, i, q, h => by
    refine Fr.tr ?_ (itW_f hS n (i + 1) (stW o i q) (by show b ≤ q.2.1 + 1 + 1 + 1 + 1; omega))
    exact (((fr_Z (fun k => hS _ k h)).tr (fr_Z (fun k => hS _ k (by show b ≤ q.2.1 + 1; omega)))).tr (fr_Z (fun k => hS _ k (by show b ≤ q.2.1 + 1 + 1; omega)))).tr (fr_Z (fun k => hS _ k (by show b ≤ q.2.1 + 1 + 2; omega)))
theorem mkP_f {σ : St} {w : Wd} (hS : ∀ a k, w.1 ≤ a → S a k = true) : Fr S σ (mkP o σ w).1 := by
  have w1 : (wX4 w o).1 = w.1 + 19 := rfl
  unfold mkP
  refine Fr.tr (Fr.tr ?_ (itS_f (b := w.1) hS 20 0 (sX4 σ w o, wX4 w o) (by show w.1 ≤ (wX4 w o).1; omega))) (itW_f (b := w.1) hS 24 0 _ (by rw [itS_1]; show w.1 ≤ (wX4 w o).1 + _; omega))
  unfold sX4 sX8
  have z : ∀ {s : St} (j : Nat), Fr S s (zS s (w.1 + j)) := fun j => fr_Z (fun k => hS _ k (by omega))
  exact (((((((((((z 0).tr (z 1)).tr (z 2)).tr (z 3)).tr (z 4)).tr (fr_M (fun x k q _ => hS x k (by omega)))).tr (z 14)).tr (z 15)).tr (z 16)).tr (z 17)).tr (z 18))
end STA
section STB
variable {σ s : St} {w : Wd} {o a k : Nat}
theorem sX5_g : gI (sX5 σ w o) a k = if w.1 ≤ a ∧ a < w.1 + 6 then 0 else gI σ a k := by
  have e : gI (sX5 σ w o) a k = (if a = w.1 + 5 then 0 else if a = w.1 + 4 then 0 else if a = w.1 + 3 then 0 else if a = w.1 + 2 then 0 else if a = w.1 + 1 then 0 else if a = w.1 then 0 else gI σ a k) := rfl
  rw [e]
  by_cases q : w.1 ≤ a ∧ a < w.1 + 6
  · rw [if_pos q]
    repeat' split
    all_goals first | rfl | (exfalso; omega)
  · rw [if_neg q]
    repeat' split
    all_goals first | rfl | (exfalso; omega)
theorem sX6_g : gI (sX6 σ w o) a k = if a = o ∧ k = 1 then 3 else if w.1 ≤ a ∧ a < w.1 + 22 then 0 else gI σ a k := by
  unfold sX6
  rw [gI_uI, sX5_g, gI_zS, sX5_g, gI_zS, sX5_g, gI_zS, gI_zS]
  show (if a = o ∧ k = 1 then 3 else if w.1 + 16 ≤ a ∧ a < w.1 + 16 + 6 then 0 else if a = w.1 + 15 then 0 else if w.1 + 9 ≤ a ∧ a < w.1 + 9 + 6 then 0 else if a = w.1 + 8 then 0 else if w.1 + 2 ≤ a ∧ a < w.1 + 2 + 6 then 0 else if a = w.1 + 1 then 0 else if a = w.1 then 0 else gI σ a k) = _
  by_cases q0 : a = o ∧ k = 1
  · rw [if_pos q0, if_pos q0]
  · rw [if_neg q0, if_neg q0]
    by_cases q : w.1 ≤ a ∧ a < w.1 + 22
    · rw [if_pos q]
      repeat' split
      all_goals first | rfl | (exfalso; omega)
    · rw [if_neg q]
      repeat' split
      all_goals first | rfl | (exfalso; omega)
theorem w05_z : (zW w05).1 = 321 := by decide +kernel
theorem w06_z : (zW (zW w06)).1 = 345 := by decide +kernel
theorem w07_z : (zW w07).1 = 368 := by decide +kernel
theorem w04_z : (zW w04).1 = 318 := by decide +kernel
theorem w03_z : (zW w03).1 = 316 := by decide +kernel
theorem a5_g (h : a < 315) : gI (a5 s) a k = gI s a k := by
  have e : gI (a5 s) a k = (if a = (zW w04).1 + 1 then 0 else if a = (zW w04).1 then 0 else if a = 317 then 0 else if a = (zW w03).1 then 0 else if a = 315 then 0 else gI s a k) := rfl
  rw [e, w04_z, w03_z, if_neg (by omega), if_neg (by omega), if_neg (by omega), if_neg (by omega), if_neg (by omega)]
theorem a8_g (h : a < 343) : gI (a8 s) a k = if a = 320 ∧ k = 1 then 3 else if 320 ≤ a then 0 else gI (a5 s) a k := by
  unfold a8 a7 a6
  rw [sX6_g, w07_z, gI_zS, sX6_g, w06_z, gI_zS, gI_zS, sX6_g, w05_z, gI_zS]
  rw [if_neg (by omega), if_neg (by omega), if_neg (by omega), if_neg (by omega), if_neg (by omega), if_neg (by omega), if_neg (by omega)]
  by_cases q0 : a = 320 ∧ k = 1
  · rw [if_pos q0, if_pos q0]
  · rw [if_neg q0, if_neg q0]
    by_cases q : 320 ≤ a
    · rw [if_pos q]
      by_cases q1 : a = 320
      · rw [if_neg (by omega), if_pos q1]
      · rw [if_pos (by omega)]
    · rw [if_neg q, if_neg (by omega), if_neg (by omega)]
end STB
