/-! the state at the start -/
theorem fr_M {S : Nat → Nat → Bool} {σ : St} {a n : Nat} (h : ∀ x k, a ≤ x → x < a + n → S x k = true) : Fr S σ (zM σ a n) := by
  refine ⟨fun o k q => ?_, fun o k q => ?_, fun o k q => ?_⟩
  · show (if a ≤ o ∧ o < a + n then 0 else gI σ o k) = _
    rw [if_neg (fun e => by rw [h o k e.1 e.2] at q; cases q)]
  · show (if a ≤ o ∧ o < a + n then 0 else gJ σ o k) = _
    rw [if_neg (fun e => by rw [h o k e.1 e.2] at q; cases q)]
  · show (if a ≤ o ∧ o < a + n then none else gR σ o k) = _
    rw [if_neg (fun e => by rw [h o k e.1 e.2] at q; cases q)]
section STA
variable {o b : Nat} {S : Nat → Nat → Bool}
theorem itS_f (hS : ∀ a k, b ≤ a → S a k = true) : ∀ n i q, b ≤ q.2.1 → Fr S q.1 (itS o n i q).1
  | 0, _, q, _ => Fr.rf q.1
  | n + 1, i, q, h => by
    refine Fr.tr ?_ (itS_f hS n (i + 1) (stS o i q) (by show b ≤ q.2.1 + 1 + 1; omega))
    exact (fr_Z (fun k => hS _ k h)).tr (fr_Z (fun k => hS _ k (by show b ≤ q.2.1 + 1; omega)))
theorem itW_f (hS : ∀ a k, b ≤ a → S a k = true) : ∀ n i q, b ≤ q.2.1 → Fr S q.1 (itW o n i q).1
  | 0, _, q, _ => Fr.rf q.1
  | n + 1, i, q, h => by
    refine Fr.tr ?_ (itW_f hS n (i + 1) (stW o i q) (by show b ≤ q.2.1 + 1 + 1 + 1 + 1; omega))
    exact (((fr_Z (fun k => hS _ k h)).tr (fr_Z (fun k => hS _ k (by show b ≤ q.2.1 + 1; omega)))).tr (fr_Z (fun k => hS _ k (by show b ≤ q.2.1 + 1 + 1; omega)))).tr (fr_Z (fun k => hS _ k (by show b ≤ q.2.1 + 1 + 2; omega)))
theorem mkP_f {σ : St} {w : Wd} (hS : ∀ a k, w.1 ≤ a → S a k = true) : Fr S σ (mkP o σ w).1 := by
  have w1 : (wX4 w o).1 = w.1 + 19 := rfl
  unfold mkP
  refine Fr.tr (Fr.tr ?_ (itS_f (b := w.1) hS 20 0 (sX4 σ w o, wX4 w o) (by show w.1 ≤ (wX4 w o).1; omega))) (itW_f (b := w.1) hS 24 0 _ (by rw [itS_1]; show w.1 ≤ (wX4 w o).1 + _; omega))
  unfold sX4 sX8
  have z : ∀ {s : St} (j : Nat), Fr S s (zS s (w.1 + j)) := fun j => fr_Z (fun k => hS _ k (by omega))
  exact (((((((((((z 0).tr (z 1)).tr (z 2)).tr (z 3)).tr (z 4)).tr (fr_M (fun x k q _ => hS x k (by omega)))).tr (z 14)).tr (z 15)).tr (z 16)).tr (z 17)).tr (z 18))
end STA
