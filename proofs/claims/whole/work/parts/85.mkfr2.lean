/-! what makes the reader: its run -/
theorem fk_60 {t k : Nat} (h : 60 ≤ k) : fk t k ≠ 2 := by
  intro e
  have key : ∀ t, t < 13 → (fkL.getD t []).length ≤ 60 := by decide +kernel
  rcases Nat.lt_or_ge t 13 with q | q
  · unfold fk at e
    rw [List.getD_eq_getElem?_getD (i := k), List.getElem?_eq_none (Nat.le_trans (key t q) h)] at e
    cases e
  · have : fkL.length = 13 := by decide +kernel
    unfold fk at e
    rw [List.getD_eq_getElem?_getD (l := fkL), List.getElem?_eq_none (by omega)] at e
    cases e
theorem sz_60 : ∀ i, i < 430 → 24 ≤ (kd i).1 → (kd i).1 ≤ 28 → (kd i).2 ≤ 60 := by decide +kernel
theorem tg_28 : ∀ i, i < 430 → (kd i).1 ≤ 28 := by decide +kernel
theorem fnK_60 {i k : Nat} (hi : i < 430) (h : fnK i k = true) : k < 60 := by
  unfold fnK at h
  simp only [Bool.or_eq_true, Bool.and_eq_true, decide_eq_true_eq, beq_iff_eq] at h
  rcases Nat.lt_or_ge k 60 with q | q
  · exact q
  · rcases h with ⟨-, h⟩ | ⟨h1, h2⟩
    · exact absurd h (fk_60 q)
    · have := sz_60 i hi h1 (tg_28 i hi)
      omega
theorem wde09 : WdE w09 (390, rfS) := ⟨w09_1.symm, fun i k hi hf => by
  rw [w09_1] at hi
  exact w09_c i hi k (fnK_60 (by omega) hf) hf⟩
theorem kc9 : ∀ q, q < 1 → kd (316 + q) = kd (316 + q) := fun _ _ => rfl
theorem kc1 : ∀ q, q < 2 → kd (318 + q) = kd (318 + q) := fun _ _ => rfl
theorem vp_in_c {j : Int32} {n : Nat} (h1 : ¬ j < 0) (h2 : ¬ n ≤ j.toNatClampNeg) : vp_in j n := fun q => q.elim h1 h2
section MKF
variable {Γ : Gx} {d : Nat} {Q : St → Wd → Prop}
def a1 (σ : St) : St := sX3 (zS σ 1) (zW w00) 1
def a4 (σ : St) : St := sX9 (zS (uR σ 0 2 (some 159)) 315) (zW w03) 315
def a5 (σ : St) : St := sX1 (zS (a4 σ) 317) (zW w04) 317
def a6 (σ : St) : St := sX6 (zS (a5 σ) 320) (zW w05) 320
def a7 (σ : St) : St := sX6 (zS (zS (a6 σ) 343) 344) (zW (zW w06)) 344
def a8 (σ : St) : St := sX6 (zS (a7 σ) 367) (zW w07) 367
set_option maxRecDepth 100000 in
theorem i_X11 {σ : St} (h : ∀ s1 s2, Fr (scO 22) (mkP 3 (zS (a1 σ) 3) (zW w01)).1 s1 → (∀ a, a < 128 → gI s1 22 a = -1) → Fr (scO 178) (mkP 159 (zS (uR s1 0 1 (some 3)) 159) (zW w02)).1 s2 → (∀ a, a < 128 → gI s2 178 a = -1) → Q (a8 s2) (390, rfS)) : SpC Γ (d + 4) mX11_init [.ref 0] σ w00 Q := by
  refine Sp.of pnX11 (Nat.le_of_ble_eq_true rfl) (wp_sound (μ := mX11_init) (T := tbX11) (is := isX11_init) (sw := swX11_init) (cu := cuX11_init) tbX11_ok msX11_init 48 _ _ _ _ _ _ _ ?_)
  refine And.intro (by omega) (And.intro (Nat.le_of_ble_eq_true rfl) ?_)
  -- the parser
  refine And.intro (by decide +kernel) (And.intro (by decide +kernel) (And.intro (by decide +kernel) ?_))
  refine And.intro rfl (And.intro (Nat.le_of_ble_eq_true rfl) (And.intro (by decide +kernel) (And.intro (by decide +kernel) (i_X3 (And.intro (by decide +kernel) (by decide +kernel)) (fun q hq => ?_) ?_))))
  · rfl
  refine And.intro (And.intro (by decide +kernel) (by decide +kernel)) (And.intro (And.intro rfl rfl) ?_)
  -- the primers
  refine And.intro (by decide +kernel) (And.intro (by decide +kernel) (And.intro (by decide +kernel) ?_))
  refine And.intro rfl (And.intro (Nat.le_of_ble_eq_true rfl) (And.intro (by decide +kernel) (And.intro (by decide +kernel) (i_X4 (o := 3) (Or.inl rfl) (by decide +kernel) (fun s1 f1 n1 => ?_)))))
  refine And.intro (And.intro (by decide +kernel) (by decide +kernel)) ?_
  refine And.intro (by decide +kernel) (And.intro (by decide +kernel) (And.intro (by decide +kernel) ?_))
  refine And.intro rfl (And.intro (Nat.le_of_ble_eq_true rfl) (And.intro (by decide +kernel) (And.intro (by decide +kernel) (i_X4 (o := 159) (Or.inr rfl) (by decide +kernel) (fun s2 f2 n2 => ?_)))))
  refine And.intro (And.intro (by decide +kernel) (by decide +kernel)) ?_
  -- spelling, cuts, school
  refine And.intro (by decide +kernel) (And.intro (by decide +kernel) (And.intro (by decide +kernel) ?_))
  refine And.intro rfl (And.intro (Nat.le_of_ble_eq_true rfl) (And.intro (by decide +kernel) (And.intro (by decide +kernel) (i_X9 (And.intro (by decide +kernel) (by decide +kernel)) (fun q hq => ?_) ?_))))
  · exact kc9 q hq
  refine And.intro (And.intro (by decide +kernel) (by decide +kernel)) (And.intro (And.intro rfl rfl) ?_)
  refine And.intro (by decide +kernel) (And.intro (by decide +kernel) (And.intro (by decide +kernel) ?_))
  refine And.intro rfl (And.intro (Nat.le_of_ble_eq_true rfl) (And.intro (by decide +kernel) (And.intro (by decide +kernel) (i_X1 (And.intro (by decide +kernel) (by decide +kernel)) (fun q hq => ?_) ?_))))
  · exact kc1 q hq
  refine And.intro (And.intro (by decide +kernel) (by decide +kernel)) (And.intro (And.intro rfl rfl) ?_)
  refine And.intro (by decide +kernel) (And.intro (by decide +kernel) (And.intro (by decide +kernel) ?_))
  refine And.intro rfl (And.intro (Nat.le_of_ble_eq_true rfl) (And.intro (by decide +kernel) (And.intro (by decide +kernel) (i_X6 (And.intro (by decide +kernel) (by decide +kernel)) (fun q hq => ?_) ?_))))
  · exact kc6_a q hq
  refine And.intro (And.intro (by decide +kernel) (by decide +kernel)) (And.intro (And.intro rfl rfl) ?_)
  -- images
  refine And.intro (by decide +kernel) (And.intro (Nat.le_of_ble_eq_true rfl) (And.intro (Nat.le_of_ble_eq_true rfl) (And.intro (by decide +kernel) (And.intro (by decide +kernel) (And.intro (by decide +kernel) (And.intro (by decide +kernel) ?_))))))
  refine And.intro (by decide +kernel) (And.intro (by decide +kernel) (And.intro (by decide +kernel) ?_))
  refine And.intro rfl (And.intro (Nat.le_of_ble_eq_true rfl) (And.intro (by decide +kernel) (And.intro (by decide +kernel) (i_X6 (And.intro (by decide +kernel) (by decide +kernel)) (fun q hq => ?_) ?_))))
  · exact kc6_b q hq
  refine And.intro (by decide +kernel) (And.intro (by decide +kernel) (And.intro (Or.inr (Or.inr (Or.inr (And.intro (by decide +kernel) (by decide +kernel))))) (And.intro (vp_in_c (by decide +kernel) (by decide +kernel)) ?_)))
  refine And.intro (by decide +kernel) (And.intro (by decide +kernel) (And.intro (by decide +kernel) ?_))
  refine And.intro rfl (And.intro (Nat.le_of_ble_eq_true rfl) (And.intro (by decide +kernel) (And.intro (by decide +kernel) (i_X6 (And.intro (by decide +kernel) (by decide +kernel)) (fun q hq => ?_) ?_))))
  · exact kc6_c q hq
  refine And.intro (by decide +kernel) (And.intro (by decide +kernel) (And.intro (Or.inr (Or.inr (Or.inr (And.intro (by decide +kernel) (by decide +kernel))))) (And.intro (vp_in_c (by decide +kernel) (by decide +kernel)) ?_)))
  refine And.intro (And.intro (by decide +kernel) (by decide +kernel)) (And.intro (And.intro rfl rfl) ?_)
  refine AW.wd wde09 (wp_sound (μ := mX11_init) (T := tbX11) (is := isX11_init) (sw := swX11_init) (cu := cuX11_init) tbX11_ok msX11_init 1 _ _ _ _ _ _ _ (And.intro rfl (And.intro rfl (h s1 s2 f1 n1 f2 n2))))
end MKF
