/-! what makes the small objects -/
theorem oz {w : Wd} {o c : Nat} (h : okO w o c) : okO (zW w) o c := ⟨Nat.lt_succ_of_lt h.1, h.2⟩
theorem ou {w : Wd} {o c a k : Nat} {v : Option Nat} (h : okO w o c) : okO (uW w a k v) o c := h
section MK0
variable {Γ : Gx} {d : Nat} {w : Wd} {σ : St} {Q : St → Wd → Prop} {o : Nat}
theorem i_X7 (ho : okO w o 7) (hk : kd w.1 = (20, 4)) (h : Q (zS σ w.1) (uW (zW w) o 0 (some w.1))) : SpC Γ (d + 1) mX7_init [.ref o] σ w Q := by
  refine Sp.of pnX7 (Nat.le_of_ble_eq_true rfl) (wp_sound (μ := mX7_init) (T := tbX7) (is := isX7_init) (sw := swX7_init) (cu := cuX7_init) tbX7_ok msX7_init 8 _ _ _ _ _ _ _ ?_)
  refine And.intro (Nat.le_add_left 1 d) (And.intro (Nat.le_of_ble_eq_true rfl) (And.intro (Or.inl (And.intro (by rw [hk]) rfl)) (And.intro (by decide) (And.intro (by rw [hk]; decide) (And.intro (Nat.le_of_ble_eq_true rfl) (And.intro (by rw [hk]; decide) (And.intro (oz ho) (And.intro (And.intro rfl rfl) (And.intro rfl (And.intro rfl h))))))))))
end MK0
