/-! the state at the start: the reference -/
theorem sX12_f {F : St} : Fr (fun a _ => decide (390 ≤ a)) F (sX12 (zS F 390)) := by
  have z : ∀ {s : St} (j : Nat), 390 ≤ j → Fr (fun (a _k : Nat) => decide (390 ≤ a)) s (zS s j) := fun j q => fr_Z (fun k => by simp [q])
  unfold sX12
  refine Fr.tr ?_ (z 424 (by decide))
  refine Fr.tr ?_ (z 423 (by decide))
  refine Fr.tr ?_ (z 422 (by decide))
  refine Fr.tr ?_ (z 421 (by decide))
  refine Fr.tr ?_ (z 420 (by decide))
  refine Fr.tr ?_ (z 419 (by decide))
  refine Fr.tr ?_ (fr_I (by decide))
  refine Fr.tr ?_ (z 418 (by decide))
  refine Fr.tr ?_ (z 417 (by decide))
  refine Fr.tr ?_ (z 416 (by decide))
  refine Fr.tr ?_ (z 415 (by decide))
  refine Fr.tr ?_ (z 414 (by decide))
  refine Fr.tr ?_ (z 413 (by decide))
  refine Fr.tr ?_ (z 412 (by decide))
  refine Fr.tr ?_ (z 411 (by decide))
  refine Fr.tr ?_ (z 410 (by decide))
  refine Fr.tr ?_ (z 409 (by decide))
  refine Fr.tr ?_ (z 408 (by decide))
  refine Fr.tr ?_ (z 407 (by decide))
  refine Fr.tr ?_ (z 406 (by decide))
  refine Fr.tr ?_ (z 405 (by decide))
  refine Fr.tr ?_ (z 404 (by decide))
  refine Fr.tr ?_ (fr_I (by decide))
  refine Fr.tr ?_ (z 403 (by decide))
  refine Fr.tr ?_ (z 402 (by decide))
  refine Fr.tr ?_ (z 401 (by decide))
  refine Fr.tr ?_ (z 400 (by decide))
  refine Fr.tr ?_ (z 399 (by decide))
  refine Fr.tr ?_ (z 398 (by decide))
  refine Fr.tr ?_ (z 397 (by decide))
  refine Fr.tr ?_ (z 396 (by decide))
  refine Fr.tr ?_ (z 395 (by decide))
  refine Fr.tr ?_ (z 394 (by decide))
  refine Fr.tr ?_ (z 393 (by decide))
  refine Fr.tr ?_ (z 392 (by decide))
  refine Fr.tr ?_ (z 391 (by decide))
  exact z 390 (by decide)
theorem start_M {F σ' : St} (hE : EqU (sX12 (zS F 390)) σ') (hK : KM σ' = begK (KM (sX12 (zS F 390)))) : zeroP (MV σ') ∧ KM σ' = κ0 ∧ IS σ' = im0 ∧ TxM σ' [] ∧ gI σ' 390 18 = -1 ∧ ∀ o k, o < 390 → gI σ' o k = gI F o k ∧ gR σ' o k = gR F o k := by
  have z : ∀ k, k ≠ 42 → k ≠ 43 → k ≠ 44 → k ≠ 47 → k ≠ 52 → gI σ' 390 k = gI (sX12 (zS F 390)) 390 k := fun k a b c d e => hE.1 390 k (by simp [scrU, scrC, scrM, a, b, c, d, e])
  refine ⟨⟨?_, ?_, ?_, ?_⟩, ?_, ?_, ⟨?_, by decide, fun i hi => absurd hi (Nat.not_lt_zero i)⟩, ?_, fun o k h => ⟨?_, ?_⟩⟩
  · show gI σ' 390 0 = 0
    rw [z 0 (by decide) (by decide) (by decide) (by decide) (by decide)]; rfl
  · show gI σ' 390 5 = 0
    rw [z 5 (by decide) (by decide) (by decide) (by decide) (by decide)]; rfl
  · show gI σ' 390 10 = 0
    rw [z 10 (by decide) (by decide) (by decide) (by decide) (by decide)]; rfl
  · show gI σ' 390 12 = 0
    rw [z 12 (by decide) (by decide) (by decide) (by decide) (by decide)]; rfl
  · rw [hK]
    funext t i
    rfl
  · rw [hE.is]
    funext k
    have : gI (sX12 (zS F 390)) 424 k = 0 := rfl
    unfold IS im0
    rw [this]
    simp
  · rw [z 17 (by decide) (by decide) (by decide) (by decide) (by decide)]; rfl
  · rw [z 18 (by decide) (by decide) (by decide) (by decide) (by decide)]; rfl
  · rw [hE.1 o k (by simp [scrU, scrC, scrM]; omega), sX12_f.1 o k (by simp; omega)]
  · rw [hE.2.2 o k, sX12_f.2.2 o k (by simp; omega)]
