/-! what makes the small objects -/
theorem pnX10 : plainName RX10 = true := by decide +kernel
theorem pnX0 : plainName RX0 = true := pnX0'
theorem vkn {a t n : Nat} (h : kd a = (t, n)) {j : Int32} (hj : vp_in j n) : vp_in j (kd a).2 := by rw [h]; exact hj
def sX7 (σ : St) (w : Wd) (o : Nat) : St := (zS σ w.1)
def wX7 (w : Wd) (o : Nat) : Wd := (uW (zW w) o 0 (some w.1))
set_option maxRecDepth 100000 in
theorem i_X7 {Γ : Gx} {d : Nat} {w : Wd} {σ : St} {Q : St → Wd → Prop} {o : Nat} (ho : okO w o 7) (hk : ∀ q, q < 1 → kd (w.1 + q) = kd (24 + q)) (h : Q (sX7 σ w o) (wX7 w o)) : SpC Γ (d + 1) mX7_init [.ref o] σ w Q := by
  have k0 : kd w.1 = (20, 4) := (hk 0 (by decide)).trans (by decide +kernel)
  have z1 : 0 + (kd w.1).2 = 4 := by rw [k0] <;> rfl
  exact Sp.of pnX7 (Nat.le_of_ble_eq_true rfl) (wp_sound (μ := mX7_init) (T := tbX7) (is := isX7_init) (sw := swX7_init) (cu := cuX7_init) tbX7_ok msX7_init 8 _ _ _ _ _ _ _ (And.intro (by omega) (And.intro (Nat.le_of_ble_eq_true rfl) (And.intro (Or.inl (And.intro (congrArg Prod.fst k0) rfl)) (And.intro (by decide) (And.intro ((congrArg Prod.snd k0).trans (by decide)) (And.intro (Nat.le_of_ble_eq_true rfl) (And.intro (Nat.le_trans (Nat.le_of_eq z1) (by decide)) (And.intro (And.intro (show o < w.1 + 1 by have := ho.1; omega) ho.2) (And.intro (And.intro rfl rfl) (And.intro rfl (And.intro rfl h))))))))))))
def sX8 (σ : St) (w : Wd) (o : Nat) : St := (zS σ w.1)
def wX8 (w : Wd) (o : Nat) : Wd := (uW (zW w) o 0 (some w.1))
set_option maxRecDepth 100000 in
theorem i_X8 {Γ : Gx} {d : Nat} {w : Wd} {σ : St} {Q : St → Wd → Prop} {o : Nat} (ho : okO w o 8) (hk : ∀ q, q < 1 → kd (w.1 + q) = kd (21 + q)) (h : Q (sX8 σ w o) (wX8 w o)) : SpC Γ (d + 1) mX8_init [.ref o] σ w Q := by
  have k0 : kd w.1 = (20, 8) := (hk 0 (by decide)).trans (by decide +kernel)
  have z1 : 0 + (kd w.1).2 = 8 := by rw [k0] <;> rfl
  exact Sp.of pnX8 (Nat.le_of_ble_eq_true rfl) (wp_sound (μ := mX8_init) (T := tbX8) (is := isX8_init) (sw := swX8_init) (cu := cuX8_init) tbX8_ok msX8_init 8 _ _ _ _ _ _ _ (And.intro (by omega) (And.intro (Nat.le_of_ble_eq_true rfl) (And.intro (Or.inl (And.intro (congrArg Prod.fst k0) rfl)) (And.intro (by decide) (And.intro ((congrArg Prod.snd k0).trans (by decide)) (And.intro (Nat.le_of_ble_eq_true rfl) (And.intro (Nat.le_trans (Nat.le_of_eq z1) (by decide)) (And.intro (And.intro (show o < w.1 + 1 by have := ho.1; omega) ho.2) (And.intro (And.intro rfl rfl) (And.intro rfl (And.intro rfl h))))))))))))
def sX9 (σ : St) (w : Wd) (o : Nat) : St := (zS σ w.1)
def wX9 (w : Wd) (o : Nat) : Wd := (uW (zW w) o 0 (some w.1))
set_option maxRecDepth 100000 in
theorem i_X9 {Γ : Gx} {d : Nat} {w : Wd} {σ : St} {Q : St → Wd → Prop} {o : Nat} (ho : okO w o 9) (hk : ∀ q, q < 1 → kd (w.1 + q) = kd (316 + q)) (h : Q (sX9 σ w o) (wX9 w o)) : SpC Γ (d + 1) mX9_init [.ref o] σ w Q := by
  have k0 : kd w.1 = (20, 32) := (hk 0 (by decide)).trans (by decide +kernel)
  have z1 : 0 + (kd w.1).2 = 32 := by rw [k0] <;> rfl
  exact Sp.of pnX9 (Nat.le_of_ble_eq_true rfl) (wp_sound (μ := mX9_init) (T := tbX9) (is := isX9_init) (sw := swX9_init) (cu := cuX9_init) tbX9_ok msX9_init 8 _ _ _ _ _ _ _ (And.intro (by omega) (And.intro (Nat.le_of_ble_eq_true rfl) (And.intro (Or.inl (And.intro (congrArg Prod.fst k0) rfl)) (And.intro (by decide) (And.intro ((congrArg Prod.snd k0).trans (by decide)) (And.intro (Nat.le_of_ble_eq_true rfl) (And.intro (Nat.le_trans (Nat.le_of_eq z1) (by decide)) (And.intro (And.intro (show o < w.1 + 1 by have := ho.1; omega) ho.2) (And.intro (And.intro rfl rfl) (And.intro rfl (And.intro rfl h))))))))))))
def sX10 (σ : St) (w : Wd) (o : Nat) : St := (zS (zS (zS σ w.1) (w.1 + 1)) (w.1 + 2))
def wX10 (w : Wd) (o : Nat) : Wd := (uW (zW (uW (zW (uW (zW w) o 0 (some w.1))) o 2 (some (w.1 + 1)))) o 4 (some (w.1 + 2)))
set_option maxRecDepth 100000 in
theorem i_X10 {Γ : Gx} {d : Nat} {w : Wd} {σ : St} {Q : St → Wd → Prop} {o : Nat} (ho : okO w o 10) (hk : ∀ q, q < 3 → kd (w.1 + q) = kd (64 + q)) (h : Q (sX10 σ w o) (wX10 w o)) : SpC Γ (d + 1) mX10_init [.ref o] σ w Q := by
  have k0 : kd w.1 = (20, 8) := (hk 0 (by decide)).trans (by decide +kernel)
  have k1 : kd (w.1 + 1) = (20, 8) := (hk 1 (by decide)).trans (by decide +kernel)
  have k2 : kd (w.1 + 2) = (20, 8) := (hk 2 (by decide)).trans (by decide +kernel)
  have z1 : 0 + (kd w.1).2 = 8 := by rw [k0] <;> rfl
  have z2 : 0 + (kd w.1).2 + (kd (w.1 + 1)).2 = 16 := by rw [z1, k1] <;> rfl
  have z3 : 0 + (kd w.1).2 + (kd (w.1 + 1)).2 + (kd (w.1 + 2)).2 = 24 := by rw [z2, k2] <;> rfl
  exact Sp.of pnX10 (Nat.le_of_ble_eq_true rfl) (wp_sound (μ := mX10_init) (T := tbX10) (is := isX10_init) (sw := swX10_init) (cu := cuX10_init) tbX10_ok msX10_init 16 _ _ _ _ _ _ _ (And.intro (by omega) (And.intro (Nat.le_of_ble_eq_true rfl) (And.intro (Or.inl (And.intro (congrArg Prod.fst k0) rfl)) (And.intro (by decide) (And.intro ((congrArg Prod.snd k0).trans (by decide)) (And.intro (Nat.le_of_ble_eq_true rfl) (And.intro (Nat.le_trans (Nat.le_of_eq z1) (by decide)) (And.intro (And.intro (show o < w.1 + 1 by have := ho.1; omega) ho.2) (And.intro (And.intro rfl rfl) (And.intro (Or.inl (And.intro (congrArg Prod.fst k1) rfl)) (And.intro (by decide) (And.intro ((congrArg Prod.snd k1).trans (by decide)) (And.intro (Nat.le_of_ble_eq_true rfl) (And.intro (Nat.le_trans (Nat.le_of_eq z2) (by decide)) (And.intro (And.intro (show o < w.1 + 2 by have := ho.1; omega) ho.2) (And.intro (And.intro rfl rfl) (And.intro (Or.inl (And.intro (congrArg Prod.fst k2) rfl)) (And.intro (by decide) (And.intro ((congrArg Prod.snd k2).trans (by decide)) (And.intro (Nat.le_of_ble_eq_true rfl) (And.intro (Nat.le_trans (Nat.le_of_eq z3) (by decide)) (And.intro (And.intro (show o < w.1 + 3 by have := ho.1; omega) ho.2) (And.intro (And.intro rfl rfl) (And.intro rfl (And.intro rfl h))))))))))))))))))))))))))
def sX1 (σ : St) (w : Wd) (o : Nat) : St := (zS (zS σ w.1) (w.1 + 1))
def wX1 (w : Wd) (o : Nat) : Wd := (uW (zW (uW (zW w) o 0 (some w.1))) o 1 (some (w.1 + 1)))
set_option maxRecDepth 100000 in
theorem i_X1 {Γ : Gx} {d : Nat} {w : Wd} {σ : St} {Q : St → Wd → Prop} {o : Nat} (ho : okO w o 1) (hk : ∀ q, q < 2 → kd (w.1 + q) = kd (318 + q)) (h : Q (sX1 σ w o) (wX1 w o)) : SpC Γ (d + 1) mX1_init [.ref o] σ w Q := by
  have k0 : kd w.1 = (21, 81) := (hk 0 (by decide)).trans (by decide +kernel)
  have k1 : kd (w.1 + 1) = (20, 8) := (hk 1 (by decide)).trans (by decide +kernel)
  have z1 : 0 + (kd w.1).2 = 81 := by rw [k0] <;> rfl
  have z2 : 0 + (kd w.1).2 + (kd (w.1 + 1)).2 = 89 := by rw [z1, k1] <;> rfl
  exact Sp.of pnX1 (Nat.le_of_ble_eq_true rfl) (wp_sound (μ := mX1_init) (T := tbX1) (is := isX1_init) (sw := swX1_init) (cu := cuX1_init) tbX1_ok msX1_init 12 _ _ _ _ _ _ _ (And.intro (by omega) (And.intro (Nat.le_of_ble_eq_true rfl) (And.intro (Or.inr (Or.inl (And.intro (congrArg Prod.fst k0) rfl))) (And.intro (by decide) (And.intro ((congrArg Prod.snd k0).trans (by decide)) (And.intro (Nat.le_of_ble_eq_true rfl) (And.intro (Nat.le_trans (Nat.le_of_eq z1) (by decide)) (And.intro (And.intro (show o < w.1 + 1 by have := ho.1; omega) ho.2) (And.intro (And.intro rfl rfl) (And.intro (Or.inl (And.intro (congrArg Prod.fst k1) rfl)) (And.intro (by decide) (And.intro ((congrArg Prod.snd k1).trans (by decide)) (And.intro (Nat.le_of_ble_eq_true rfl) (And.intro (Nat.le_trans (Nat.le_of_eq z2) (by decide)) (And.intro (And.intro (show o < w.1 + 2 by have := ho.1; omega) ho.2) (And.intro (And.intro rfl rfl) (And.intro rfl (And.intro rfl h)))))))))))))))))))
def sX2 (σ : St) (w : Wd) (o : Nat) : St := (zS (zS σ w.1) (w.1 + 1))
def wX2 (w : Wd) (o : Nat) : Wd := (uW (zW (uW (zW w) o 0 (some w.1))) o 1 (some (w.1 + 1)))
set_option maxRecDepth 100000 in
theorem i_X2 {Γ : Gx} {d : Nat} {w : Wd} {σ : St} {Q : St → Wd → Prop} {o : Nat} {x : Int32} {n : Nat} (ho : okO w o 2) (k0 : kd w.1 = (20, n)) (k1 : kd (w.1 + 1) = (20, n)) (hx : ¬ x < 0) (hn : n = x.toNatClampNeg) (h24 : n ≤ 24) (h : Q (sX2 σ w o) (wX2 w o)) : SpC Γ (d + 1) mX2_init [.ref o, .int x] σ w Q := by
  have z1 : 0 + (kd w.1).2 ≤ 48 := by rw [k0]; omega
  have z2 : 0 + (kd w.1).2 + (kd (w.1 + 1)).2 ≤ 48 := by rw [k0, k1]; omega
  exact Sp.of pnX2 (Nat.le_of_ble_eq_true rfl) (wp_sound (μ := mX2_init) (T := tbX2) (is := isX2_init) (sw := swX2_init) (cu := cuX2_init) tbX2_ok msX2_init 12 _ _ _ _ _ _ _ (And.intro (by omega) (And.intro (Nat.le_of_ble_eq_true rfl) (And.intro (Or.inl (And.intro (congrArg Prod.fst k0) rfl)) (And.intro hx (And.intro ((congrArg Prod.snd k0).trans hn) (And.intro (Nat.le_of_ble_eq_true rfl) (And.intro z1 (And.intro (And.intro (show o < w.1 + 1 by have := ho.1; omega) ho.2) (And.intro (And.intro rfl rfl) (And.intro (Or.inl (And.intro (congrArg Prod.fst k1) rfl)) (And.intro hx (And.intro ((congrArg Prod.snd k1).trans hn) (And.intro (Nat.le_of_ble_eq_true rfl) (And.intro z2 (And.intro (And.intro (show o < w.1 + 2 by have := ho.1; omega) ho.2) (And.intro (And.intro rfl rfl) (And.intro rfl (And.intro rfl h)))))))))))))))))))
def sX3 (σ : St) (w : Wd) (o : Nat) : St := (uI (zS σ w.1) o 7 (-1 : Int32))
def wX3 (w : Wd) (o : Nat) : Wd := (uW (zW w) o 0 (some w.1))
set_option maxRecDepth 100000 in
theorem i_X3 {Γ : Gx} {d : Nat} {w : Wd} {σ : St} {Q : St → Wd → Prop} {o : Nat} (ho : okO w o 3) (hk : ∀ q, q < 1 → kd (w.1 + q) = kd (2 + q)) (h : Q (sX3 σ w o) (wX3 w o)) : SpC Γ (d + 1) mX3_init [.ref o] σ w Q := by
  have k0 : kd w.1 = (22, 600) := (hk 0 (by decide)).trans (by decide +kernel)
  have z1 : 0 + (kd w.1).2 = 600 := by rw [k0] <;> rfl
  exact Sp.of pnX3 (Nat.le_of_ble_eq_true rfl) (wp_sound (μ := mX3_init) (T := tbX3) (is := isX3_init) (sw := swX3_init) (cu := cuX3_init) tbX3_ok msX3_init 11 _ _ _ _ _ _ _ (And.intro (by omega) (And.intro (Nat.le_of_ble_eq_true rfl) (And.intro (Or.inr (Or.inr (Or.inl (And.intro (congrArg Prod.fst k0) rfl)))) (And.intro (by decide) (And.intro ((congrArg Prod.snd k0).trans (by decide)) (And.intro (Nat.le_of_ble_eq_true rfl) (And.intro (Nat.le_trans (Nat.le_of_eq z1) (by decide)) (And.intro (And.intro (show o < w.1 + 1 by have := ho.1; omega) ho.2) (And.intro (And.intro rfl rfl) (And.intro (And.intro (show o < w.1 + 1 by have := ho.1; omega) ho.2) (And.intro rfl (And.intro rfl h)))))))))))))
def sX0 (σ : St) (w : Wd) (o : Nat) : St := (zS (uI (zS (zS (zS σ w.1) (w.1 + 1)) (w.1 + 2)) o 5 (-1 : Int32)) (w.1 + 3))
def wX0 (w : Wd) (o : Nat) : Wd := (uW (zW (uW (zW (uW (zW (uW (zW w) o 0 (some w.1))) o 1 (some (w.1 + 1)))) o 2 (some (w.1 + 2)))) o 8 (some (w.1 + 3)))
set_option maxRecDepth 100000 in
theorem i_X0 {Γ : Gx} {d : Nat} {w : Wd} {σ : St} {Q : St → Wd → Prop} {o : Nat} (ho : okO w o 0) (hk : ∀ q, q < 4 → kd (w.1 + q) = kd (426 + q)) (h : Q (sX0 σ w o) (wX0 w o)) : SpC Γ (d + 1) mX0_init [.ref o] σ w Q := by
  have k0 : kd w.1 = (20, 16384) := (hk 0 (by decide)).trans (by decide +kernel)
  have k1 : kd (w.1 + 1) = (20, 16384) := (hk 1 (by decide)).trans (by decide +kernel)
  have k2 : kd (w.1 + 2) = (21, 512) := (hk 2 (by decide)).trans (by decide +kernel)
  have k3 : kd (w.1 + 3) = (20, 15) := (hk 3 (by decide)).trans (by decide +kernel)
  have z1 : 0 + (kd w.1).2 = 16384 := by rw [k0] <;> rfl
  have z2 : 0 + (kd w.1).2 + (kd (w.1 + 1)).2 = 32768 := by rw [z1, k1] <;> rfl
  have z3 : 0 + (kd w.1).2 + (kd (w.1 + 1)).2 + (kd (w.1 + 2)).2 = 33280 := by rw [z2, k2] <;> rfl
  have z4 : 0 + (kd w.1).2 + (kd (w.1 + 1)).2 + (kd (w.1 + 2)).2 + (kd (w.1 + 3)).2 = 33295 := by rw [z3, k3] <;> rfl
  exact Sp.of pnX0 (Nat.le_of_ble_eq_true rfl) (wp_sound (μ := mX0_init) (T := tbX0) (is := isX0_init) (sw := swX0_init) (cu := cuX0_init) tbX0_ok msX0_init 23 _ _ _ _ _ _ _ (And.intro (by omega) (And.intro (Nat.le_of_ble_eq_true rfl) (And.intro (Or.inl (And.intro (congrArg Prod.fst k0) rfl)) (And.intro (by decide) (And.intro ((congrArg Prod.snd k0).trans (by decide)) (And.intro (Nat.le_of_ble_eq_true rfl) (And.intro (Nat.le_trans (Nat.le_of_eq z1) (by decide)) (And.intro (And.intro (show o < w.1 + 1 by have := ho.1; omega) ho.2) (And.intro (And.intro rfl rfl) (And.intro (Or.inl (And.intro (congrArg Prod.fst k1) rfl)) (And.intro (by decide) (And.intro ((congrArg Prod.snd k1).trans (by decide)) (And.intro (Nat.le_of_ble_eq_true rfl) (And.intro (Nat.le_trans (Nat.le_of_eq z2) (by decide)) (And.intro (And.intro (show o < w.1 + 2 by have := ho.1; omega) ho.2) (And.intro (And.intro rfl rfl) (And.intro (Or.inr (Or.inl (And.intro (congrArg Prod.fst k2) rfl))) (And.intro (by decide) (And.intro ((congrArg Prod.snd k2).trans (by decide)) (And.intro (Nat.le_of_ble_eq_true rfl) (And.intro (Nat.le_trans (Nat.le_of_eq z3) (by decide)) (And.intro (And.intro (show o < w.1 + 3 by have := ho.1; omega) ho.2) (And.intro (And.intro rfl rfl) (And.intro (And.intro (show o < w.1 + 3 by have := ho.1; omega) ho.2) (And.intro (Or.inl (And.intro (congrArg Prod.fst k3) rfl)) (And.intro (by decide) (And.intro ((congrArg Prod.snd k3).trans (by decide)) (And.intro (Nat.le_of_ble_eq_true rfl) (And.intro (Nat.le_trans (Nat.le_of_eq z4) (by decide)) (And.intro (And.intro (show o < w.1 + 4 by have := ho.1; omega) ho.2) (And.intro (And.intro rfl rfl) (And.intro rfl (And.intro rfl h))))))))))))))))))))))))))))))))))
def sX5 (σ : St) (w : Wd) (o : Nat) : St := (sX2 (zS (sX2 (zS σ w.1) (zW w) w.1) (w.1 + 3)) (zW (uW (wX2 (zW w) w.1) o 2 (some w.1))) (w.1 + 3))
def wX5 (w : Wd) (o : Nat) : Wd := (uW (wX2 (zW (uW (wX2 (zW w) w.1) o 2 (some w.1))) (w.1 + 3)) o 3 (some (w.1 + 3)))
set_option maxRecDepth 100000 in
theorem i_X5 {Γ : Gx} {d : Nat} {w : Wd} {σ : St} {Q : St → Wd → Prop} {o : Nat} (ho : okO w o 5) (hk : ∀ q, q < 6 → kd (w.1 + q) = kd (323 + q)) (h : Q (sX5 σ w o) (wX5 w o)) : SpC Γ (d + 2) mX5_init [.ref o] σ w Q := by
  have k0 : kd w.1 = (2, 2) := (hk 0 (by decide)).trans (by decide +kernel)
  have k1 : kd (w.1 + 1) = (20, 20) := (hk 1 (by decide)).trans (by decide +kernel)
  have k2 : kd (w.1 + 2) = (20, 20) := (hk 2 (by decide)).trans (by decide +kernel)
  have k3 : kd (w.1 + 3) = (2, 2) := (hk 3 (by decide)).trans (by decide +kernel)
  have k4 : kd (w.1 + 4) = (20, 24) := (hk 4 (by decide)).trans (by decide +kernel)
  have k5 : kd (w.1 + 5) = (20, 24) := (hk 5 (by decide)).trans (by decide +kernel)
  have z1 : 0 + (kd w.1).2 = 2 := by rw [k0] <;> rfl
  have z2 : 0 + (kd w.1).2 + 48 = 50 := by rw [z1] <;> rfl
  have z3 : 0 + (kd w.1).2 + 48 + (kd (w.1 + 3)).2 = 52 := by rw [z2, k3] <;> rfl
  have z4 : 0 + (kd w.1).2 + 48 + (kd (w.1 + 3)).2 + 48 = 100 := by rw [z3] <;> rfl
  exact Sp.of pnX5 (Nat.le_of_ble_eq_true rfl) (wp_sound (μ := mX5_init) (T := tbX5) (is := isX5_init) (sw := swX5_init) (cu := cuX5_init) tbX5_ok msX5_init 16 _ _ _ _ _ _ _ (And.intro (by omega) (And.intro (Nat.le_of_ble_eq_true rfl) (And.intro (And.intro (congrArg Prod.fst k0) (Nat.le_of_ble_eq_true rfl)) (And.intro (Nat.le_of_ble_eq_true rfl) (And.intro (Nat.le_trans (Nat.le_of_eq z1) (by decide)) (And.intro rfl (And.intro (Nat.le_of_ble_eq_true rfl) (And.intro (Nat.le_of_ble_eq_true rfl) (And.intro (Nat.le_trans (Nat.le_of_eq z2) (by decide)) (i_X2 (And.intro (show w.1 < w.1 + 1 by omega) (congrArg Prod.fst k0)) k1 k2 (x := (20 : Int32)) (n := 20) (by decide) (by decide) (by decide) (And.intro (And.intro (show o < w.1 + 3 by have := ho.1; omega) ho.2) (And.intro (And.intro rfl rfl) (And.intro (And.intro (congrArg Prod.fst k3) (Nat.le_of_ble_eq_true rfl)) (And.intro (Nat.le_of_ble_eq_true rfl) (And.intro (Nat.le_trans (Nat.le_of_eq z3) (by decide)) (And.intro rfl (And.intro (Nat.le_of_ble_eq_true rfl) (And.intro (Nat.le_of_ble_eq_true rfl) (And.intro (Nat.le_trans (Nat.le_of_eq z4) (by decide)) (i_X2 (And.intro (show (w.1 + 3) < w.1 + 4 by omega) (congrArg Prod.fst k3)) k4 k5 (x := (24 : Int32)) (n := 24) (by decide) (by decide) (by decide) (And.intro (And.intro (show o < w.1 + 6 by have := ho.1; omega) ho.2) (And.intro (And.intro rfl rfl) (And.intro rfl (And.intro rfl h)))))))))))))))))))))))))
theorem kq_X6_2 : ∀ q, q < 6 → kd (321 + (2 + q)) = kd (323 + q) := by decide +kernel
theorem kq_X6_9 : ∀ q, q < 6 → kd (321 + (9 + q)) = kd (323 + q) := by decide +kernel
theorem kq_X6_16 : ∀ q, q < 6 → kd (321 + (16 + q)) = kd (323 + q) := by decide +kernel
def sX6 (σ : St) (w : Wd) (o : Nat) : St := (uI (sX5 (zS (sX5 (zS (sX5 (zS (zS σ w.1) (w.1 + 1)) (zW (zW w)) (w.1 + 1)) (w.1 + 8)) (zW (uW (wX5 (zW (zW w)) (w.1 + 1)) w.1 0 (some (w.1 + 1)))) (w.1 + 8)) (w.1 + 15)) (zW (uW (wX5 (zW (uW (wX5 (zW (zW w)) (w.1 + 1)) w.1 0 (some (w.1 + 1)))) (w.1 + 8)) w.1 1 (some (w.1 + 8)))) (w.1 + 15)) o 1 (3 : Int32))
def wX6 (w : Wd) (o : Nat) : Wd := (uW (uW (wX5 (zW (uW (wX5 (zW (uW (wX5 (zW (zW w)) (w.1 + 1)) w.1 0 (some (w.1 + 1)))) (w.1 + 8)) w.1 1 (some (w.1 + 8)))) (w.1 + 15)) w.1 2 (some (w.1 + 15))) o 0 (some w.1))
set_option maxRecDepth 100000 in
theorem i_X6 {Γ : Gx} {d : Nat} {w : Wd} {σ : St} {Q : St → Wd → Prop} {o : Nat} (ho : okO w o 6) (hk : ∀ q, q < 22 → kd (w.1 + q) = kd (321 + q)) (h : Q (sX6 σ w o) (wX6 w o)) : SpC Γ (d + 3) mX6_init [.ref o] σ w Q := by
  have k0 : kd w.1 = (26, 3) := (hk 0 (by decide)).trans (by decide +kernel)
  have k1 : kd (w.1 + 1) = (5, 4) := (hk 1 (by decide)).trans (by decide +kernel)
  have k2 : kd (w.1 + 2) = (2, 2) := (hk 2 (by decide)).trans (by decide +kernel)
  have k3 : kd (w.1 + 3) = (20, 20) := (hk 3 (by decide)).trans (by decide +kernel)
  have k4 : kd (w.1 + 4) = (20, 20) := (hk 4 (by decide)).trans (by decide +kernel)
  have k5 : kd (w.1 + 5) = (2, 2) := (hk 5 (by decide)).trans (by decide +kernel)
  have k6 : kd (w.1 + 6) = (20, 24) := (hk 6 (by decide)).trans (by decide +kernel)
  have k7 : kd (w.1 + 7) = (20, 24) := (hk 7 (by decide)).trans (by decide +kernel)
  have k8 : kd (w.1 + 8) = (5, 4) := (hk 8 (by decide)).trans (by decide +kernel)
  have k9 : kd (w.1 + 9) = (2, 2) := (hk 9 (by decide)).trans (by decide +kernel)
  have k10 : kd (w.1 + 10) = (20, 20) := (hk 10 (by decide)).trans (by decide +kernel)
  have k11 : kd (w.1 + 11) = (20, 20) := (hk 11 (by decide)).trans (by decide +kernel)
  have k12 : kd (w.1 + 12) = (2, 2) := (hk 12 (by decide)).trans (by decide +kernel)
  have k13 : kd (w.1 + 13) = (20, 24) := (hk 13 (by decide)).trans (by decide +kernel)
  have k14 : kd (w.1 + 14) = (20, 24) := (hk 14 (by decide)).trans (by decide +kernel)
  have k15 : kd (w.1 + 15) = (5, 4) := (hk 15 (by decide)).trans (by decide +kernel)
  have k16 : kd (w.1 + 16) = (2, 2) := (hk 16 (by decide)).trans (by decide +kernel)
  have k17 : kd (w.1 + 17) = (20, 20) := (hk 17 (by decide)).trans (by decide +kernel)
  have k18 : kd (w.1 + 18) = (20, 20) := (hk 18 (by decide)).trans (by decide +kernel)
  have k19 : kd (w.1 + 19) = (2, 2) := (hk 19 (by decide)).trans (by decide +kernel)
  have k20 : kd (w.1 + 20) = (20, 24) := (hk 20 (by decide)).trans (by decide +kernel)
  have k21 : kd (w.1 + 21) = (20, 24) := (hk 21 (by decide)).trans (by decide +kernel)
  have z1 : 0 + (kd w.1).2 = 3 := by rw [k0] <;> rfl
  have z2 : 0 + (kd w.1).2 + (kd (w.1 + 1)).2 = 7 := by rw [z1, k1] <;> rfl
  have z3 : 0 + (kd w.1).2 + (kd (w.1 + 1)).2 + 100 = 107 := by rw [z2] <;> rfl
  have z4 : 0 + (kd w.1).2 + (kd (w.1 + 1)).2 + 100 + (kd (w.1 + 8)).2 = 111 := by rw [z3, k8] <;> rfl
  have z5 : 0 + (kd w.1).2 + (kd (w.1 + 1)).2 + 100 + (kd (w.1 + 8)).2 + 100 = 211 := by rw [z4] <;> rfl
  have z6 : 0 + (kd w.1).2 + (kd (w.1 + 1)).2 + 100 + (kd (w.1 + 8)).2 + 100 + (kd (w.1 + 15)).2 = 215 := by rw [z5, k15] <;> rfl
  have z7 : 0 + (kd w.1).2 + (kd (w.1 + 1)).2 + 100 + (kd (w.1 + 8)).2 + 100 + (kd (w.1 + 15)).2 + 100 = 315 := by rw [z6] <;> rfl
  exact Sp.of pnX6 (Nat.le_of_ble_eq_true rfl) (wp_sound (μ := mX6_init) (T := tbX6) (is := isX6_init) (sw := swX6_init) (cu := cuX6_init) tbX6_ok msX6_init 29 _ _ _ _ _ _ _ (And.intro (by omega) (And.intro (Nat.le_of_ble_eq_true rfl) (And.intro (congrArg Prod.fst k0) (And.intro (Nat.le_of_ble_eq_true rfl) (And.intro (Nat.le_of_ble_eq_true rfl) (And.intro (by decide) (And.intro ((congrArg Prod.snd k0).trans (by decide)) (And.intro (Nat.le_of_ble_eq_true rfl) (And.intro (Nat.le_trans (Nat.le_of_eq z1) (by decide)) (And.intro (And.intro (congrArg Prod.fst k1) (Nat.le_of_ble_eq_true rfl)) (And.intro (Nat.le_of_ble_eq_true rfl) (And.intro (Nat.le_trans (Nat.le_of_eq z2) (by decide)) (And.intro rfl (And.intro (Nat.le_of_ble_eq_true rfl) (And.intro (Nat.le_of_ble_eq_true rfl) (And.intro (Nat.le_trans (Nat.le_of_eq z3) (by decide)) (i_X5 (And.intro (show (w.1 + 1) < w.1 + 2 by omega) (congrArg Prod.fst k1)) (fun q hq => (congrArg kd (Nat.add_assoc w.1 2 q)).trans ((hk (2 + q) (by omega)).trans (kq_X6_2 q hq))) (And.intro (show w.1 < w.1 + 8 by omega) (And.intro (show (w.1 + 1) < w.1 + 8 by omega) (And.intro (Or.inr (Or.inr (Or.inl (And.intro (congrArg Prod.fst k0) (congrArg Prod.fst k1))))) (And.intro (vkn k0 (vp_in_nI (show 0 < 3 by decide) (by decide))) (And.intro (And.intro (congrArg Prod.fst k8) (Nat.le_of_ble_eq_true rfl)) (And.intro (Nat.le_of_ble_eq_true rfl) (And.intro (Nat.le_trans (Nat.le_of_eq z4) (by decide)) (And.intro rfl (And.intro (Nat.le_of_ble_eq_true rfl) (And.intro (Nat.le_of_ble_eq_true rfl) (And.intro (Nat.le_trans (Nat.le_of_eq z5) (by decide)) (i_X5 (And.intro (show (w.1 + 8) < w.1 + 9 by omega) (congrArg Prod.fst k8)) (fun q hq => (congrArg kd (Nat.add_assoc w.1 9 q)).trans ((hk (9 + q) (by omega)).trans (kq_X6_9 q hq))) (And.intro (show w.1 < w.1 + 15 by omega) (And.intro (show (w.1 + 8) < w.1 + 15 by omega) (And.intro (Or.inr (Or.inr (Or.inl (And.intro (congrArg Prod.fst k0) (congrArg Prod.fst k8))))) (And.intro (vkn k0 (vp_in_nI (show 1 < 3 by decide) (by decide))) (And.intro (And.intro (congrArg Prod.fst k15) (Nat.le_of_ble_eq_true rfl)) (And.intro (Nat.le_of_ble_eq_true rfl) (And.intro (Nat.le_trans (Nat.le_of_eq z6) (by decide)) (And.intro rfl (And.intro (Nat.le_of_ble_eq_true rfl) (And.intro (Nat.le_of_ble_eq_true rfl) (And.intro (Nat.le_trans (Nat.le_of_eq z7) (by decide)) (i_X5 (And.intro (show (w.1 + 15) < w.1 + 16 by omega) (congrArg Prod.fst k15)) (fun q hq => (congrArg kd (Nat.add_assoc w.1 16 q)).trans ((hk (16 + q) (by omega)).trans (kq_X6_16 q hq))) (And.intro (show w.1 < w.1 + 22 by omega) (And.intro (show (w.1 + 15) < w.1 + 22 by omega) (And.intro (Or.inr (Or.inr (Or.inl (And.intro (congrArg Prod.fst k0) (congrArg Prod.fst k15))))) (And.intro (vkn k0 (vp_in_nI (show 2 < 3 by decide) (by decide))) (And.intro (And.intro (show o < w.1 + 22 by have := ho.1; omega) ho.2) (And.intro (And.intro rfl rfl) (And.intro (And.intro (show o < w.1 + 22 by have := ho.1; omega) ho.2) (And.intro rfl (And.intro rfl h)))))))))))))))))))))))))))))))))))))))))))))))))))
