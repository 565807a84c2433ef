/-! the reference: small contracts -/
theorem pnX12 : plainName RX12 = true := by decide +kernel
theorem i64_0 : (0 : Int64).toInt = 0 := by decide
theorem i32_0 : (0 : Int32).toInt = 0 := by decide
theorem nI_sub1 {n : Nat} (h : n < 2 ^ 31) : (nI n - 1).toInt = (n : Int) - 1 := by
  by_cases e : n = 0
  · subst e; decide
  · obtain ⟨m, rfl⟩ : ∃ m, n = m + 1 := ⟨n - 1, by omega⟩
    rw [nI_pred, nI_toInt (by omega)]
    omega
/-- a number that may stand for one of n things -/
def inB (x : Int32) (n : Nat) : Bool := decide (0 ≤ x.toInt) && decide (x.toInt < n)
theorem inB_of {x : Int32} {n : Nat} (h : inB x n = true) : ∃ j, j < n ∧ x = nI j := by
  unfold inB at h
  simp only [Bool.and_eq_true, decide_eq_true_eq] at h
  have hb : x.toInt < 2 ^ 31 := Int32.toInt_lt x
  refine ⟨x.toInt.toNat, by omega, Int32.toInt_inj.mp ?_⟩
  rw [nI_toInt (by omega)]
  omega
theorem inB_nI {j n : Nat} (hj : j < 2 ^ 31) : inB (nI j) n = decide (j < n) := by
  unfold inB
  rw [nI_toInt hj]
  have : (0 : Int) ≤ (j : Int) := by omega
  simp [this]
theorem in_sgn {x : Int32} {n : Nat} (hn : n < 2 ^ 31) : (decide ((0 : Int64) ≤ x.toInt64) && decide (x.toInt64 ≤ (nI n - 1).toInt64)) = inB x n := by
  unfold inB
  congr 1
  · rw [decide_eq_decide, Int64.le_iff_toInt_le, Int32.toInt_toInt64, i64_0]
  · rw [decide_eq_decide, Int64.le_iff_toInt_le, Int32.toInt_toInt64, Int32.toInt_toInt64, nI_sub1 hn]
    omega
theorem in_lit {x : Int32} {a b : Nat} (ha : a < 2 ^ 31) (hb : b < 2 ^ 31) : (decide (lN a ≤ x.toInt64) && decide (x.toInt64 ≤ lN b)) = (decide ((a : Int) ≤ x.toInt) && decide (x.toInt ≤ b)) := by
  congr 1
  · rw [decide_eq_decide, Int64.le_iff_toInt_le, Int32.toInt_toInt64, lN_toInt ha]
  · rw [decide_eq_decide, Int64.le_iff_toInt_le, Int32.toInt_toInt64, lN_toInt hb]
section MB
variable {Γ : Gx} {d : Nat} {w : Wd} {σ : St}
theorem c_in {Q : Int32 → St → Prop} {a b c : Int64} (h : Q (b2i (decide (b ≤ a) && decide (a ≤ c))) σ) : SpI Γ d mX12_in [.long a, .long b, .long c] σ w Q := by
  refine SpI.of pnX12 (Nat.le_of_ble_eq_true rfl) (vX12_in_0 ⟨fun q => ?_, fun q => ⟨fun q2 => ?_, fun q2 => ?_⟩⟩)
  · have e : ¬ b ≤ a := Int64.not_le.mpr ((lg_cmp_lt _ _).mp q)
    simpa [e, b2i] using h
  · have e : ¬ a ≤ c := Int64.not_le.mpr ((lg_cmp_gt _ _).mp q2)
    simpa [e, b2i] using h
  · have e1 : b ≤ a := Int64.not_lt.mp (fun e => q ((lg_cmp_lt _ _).mpr e))
    have e2 : a ≤ c := Int64.not_lt.mp (fun e => q2 ((lg_cmp_gt _ _).mpr e))
    simpa [e1, e2, b2i] using h
theorem c_has {Q : Int32 → St → Prop} {x : Int32} {k : Nat} (hk : k < 32) (h : Q (b2i (bt x k)) σ) : SpI Γ d mX12_has [.int x, .int (nI k)] σ w Q := by
  refine SpI.of pnX12 (Nat.le_of_ble_eq_true rfl) (vX12_has_0 ⟨fun q => ?_, fun q => ?_⟩)
  · rw [bit_1 x hk] at q
    have e : bt x k = false := by simpa using q
    simpa [e, b2i] using h
  · rw [bit_1 x hk] at q
    simpa [q, b2i] using h
theorem lp_bits {Q : Int32 → St → Prop} {x : Int32} (hQ : Q (nI (cntB x 24)) σ) : ∀ n k, k + n = 24 → AI Γ d mX12_bits w Q 4 [(0, .int x), (1, .int (nI (cntB x k))), (2, .int (nI k))] σ
  | 0, k, h => vX12_bits_4 ⟨fun _ => by have : k = 24 := h; subst this; exact hQ, fun q => absurd (nI_le (a := 24) (by omega) (by omega)) q⟩
  | n + 1, k, h => vX12_bits_4 ⟨fun q => absurd q (nI_ge (b := 24) (by omega) (by decide)), fun _ => by
      have := lp_bits hQ n (k + 1) (by omega)
      rw [bit_v x (by omega), nI_bit, nI_add, nI_1]
      exact this⟩
theorem c_bits {Q : Int32 → St → Prop} {x : Int32} (h : Q (nI (cntB x 24)) σ) : SpI Γ d mX12_bits [.int x] σ w Q :=
  SpI.of pnX12 (Nat.le_of_ble_eq_true rfl) (vX12_bits_0 (lp_bits h 24 0 rfl))
theorem c_isSign {Q : Int32 → St → Prop} {x : Int32} {n : Nat} (hw : RunW w) (hn : gI σ 390 0 = nI n) (hn2 : n < 2 ^ 31) (h : Q (b2i (inB x n)) σ) : SpI Γ (d + 1) mX12_isSign [.ref 390, .int x] σ w Q := by
  refine SpI.of pnX12 (Nat.le_of_ble_eq_true rfl) (vX12_isSign_0 hw (c_in ?_))
  rw [hn, in_sgn hn2]
  exact ⟨b2i_01 _, h⟩
theorem c_isWord {Q : Int32 → St → Prop} {x : Int32} {n : Nat} (hw : RunW w) (hn : gI σ 390 5 = nI n) (hn2 : n < 2 ^ 31) (h : Q (b2i (inB x n)) σ) : SpI Γ (d + 1) mX12_isWord [.ref 390, .int x] σ w Q := by
  refine SpI.of pnX12 (Nat.le_of_ble_eq_true rfl) (vX12_isWord_0 hw (c_in ?_))
  rw [hn, in_sgn hn2]
  exact ⟨b2i_01 _, h⟩
theorem c_isLesson {Q : Int32 → St → Prop} {x : Int32} {n : Nat} (hw : RunW w) (hn : gI σ 390 10 = nI n) (hn2 : n < 2 ^ 31) (h : Q (b2i (inB x n)) σ) : SpI Γ (d + 1) mX12_isLesson [.ref 390, .int x] σ w Q := by
  refine SpI.of pnX12 (Nat.le_of_ble_eq_true rfl) (vX12_isLesson_0 hw (c_in ?_))
  rw [hn, in_sgn hn2]
  exact ⟨b2i_01 _, h⟩
theorem c_isPage {Q : Int32 → St → Prop} {x : Int32} {n : Nat} (hw : RunW w) (hn : gI σ 390 12 = nI n) (hn2 : n < 2 ^ 31) (h : Q (b2i (inB x n)) σ) : SpI Γ (d + 1) mX12_isPage [.ref 390, .int x] σ w Q := by
  refine SpI.of pnX12 (Nat.le_of_ble_eq_true rfl) (vX12_isPage_0 hw (c_in ?_))
  rw [hn, in_sgn hn2]
  exact ⟨b2i_01 _, h⟩
/-- a set of some of n things -/
theorem shl_sub1 : ∀ n, n ≤ 30 → (1 <<< (nI n &&& 31) - 1 : Int32) = nI (2 ^ n) - 1 := by decide +kernel
theorem c_areSigns {Q : Int32 → St → Prop} {x : Int32} {n : Nat} (hw : RunW w) (hn : gI σ 390 0 = nI n) (hn2 : n ≤ 30) (h : Q (b2i (inB x (2 ^ n))) σ) : SpI Γ (d + 1) mX12_areSigns [.ref 390, .int x] σ w Q := by
  refine SpI.of pnX12 (Nat.le_of_ble_eq_true rfl) (vX12_areSigns_0 hw (c_in ?_))
  have h2 : 2 ^ n ≤ 2 ^ 30 := Nat.pow_le_pow_right (by decide) hn2
  rw [hn, shl_sub1 n hn2, in_sgn (by omega)]
  exact ⟨b2i_01 _, h⟩
theorem c_areLessons {Q : Int32 → St → Prop} {x : Int32} {n : Nat} (hw : RunW w) (hn : gI σ 390 10 = nI n) (hn2 : n ≤ 30) (h : Q (b2i (inB x (2 ^ n))) σ) : SpI Γ (d + 1) mX12_areLessons [.ref 390, .int x] σ w Q := by
  refine SpI.of pnX12 (Nat.le_of_ble_eq_true rfl) (vX12_areLessons_0 hw (c_in ?_))
  have h2 : 2 ^ n ≤ 2 ^ 30 := Nat.pow_le_pow_right (by decide) hn2
  rw [hn, shl_sub1 n hn2, in_sgn (by omega)]
  exact ⟨b2i_01 _, h⟩
theorem c_isFew {Q : Int32 → St → Prop} {x : Int32} (h : Q (b2i (inB x 17)) σ) : SpI Γ (d + 1) mX12_isFew [.int x] σ w Q := by
  refine SpI.of pnX12 (Nat.le_of_ble_eq_true rfl) (vX12_isFew_0 (c_in ?_))
  refine ⟨b2i_01 _, ?_⟩
  have e : (decide ((0 : Int64) ≤ x.toInt64) && decide (x.toInt64 ≤ (16 : Int64))) = inB x 17 := in_sgn (n := 17) (by decide)
  rw [e]
  exact h
theorem c_isPupil {Q : Int32 → St → Prop} {x : Int32} (h : Q (b2i (inB x 3)) σ) : SpI Γ (d + 1) mX12_isPupil [.int x] σ w Q := by
  refine SpI.of pnX12 (Nat.le_of_ble_eq_true rfl) (vX12_isPupil_0 (c_in ?_))
  refine ⟨b2i_01 _, ?_⟩
  have e : (decide ((0 : Int64) ≤ x.toInt64) && decide (x.toInt64 ≤ (2 : Int64))) = inB x 3 := in_sgn (n := 3) (by decide)
  rw [e]
  exact h
end MB
