/-! how many bits a set has, as the JDK counts them -/
theorem and_nI (a b : Nat) : nI a &&& nI b = nI (a &&& b) := b_ext fun i hi => by rw [b_and, b_nI _ hi, b_nI _ hi, b_nI _ hi, Nat.testBit_and]
theorem and_split (x y : Nat) : x &&& y = ((x % 256) &&& (y % 256)) + 256 * ((x / 256) &&& (y / 256)) := by
  have h1 : (x &&& y) % 256 = (x % 256) &&& (y % 256) := Nat.eq_of_testBit_eq fun i => by
    rw [show (256 : Nat) = 2 ^ 8 from rfl, Nat.testBit_mod_two_pow, Nat.testBit_and, Nat.testBit_and, Nat.testBit_mod_two_pow, Nat.testBit_mod_two_pow]
    cases decide (i < 8) <;> simp
  have h2 : (x &&& y) / 256 = (x / 256) &&& (y / 256) := Nat.eq_of_testBit_eq fun i => by
    rw [show (256 : Nat) = 2 ^ 8 from rfl, Nat.testBit_div_two_pow, Nat.testBit_and, Nat.testBit_and, Nat.testBit_div_two_pow, Nat.testBit_div_two_pow]
  have h3 := Nat.mod_add_div (x &&& y) 256
  rw [h1, h2] at h3
  exact h3.symm
theorem and_4 (x y x0 x1 x2 x3 y0 y1 y2 y3 : Nat) (h0 : x % 256 = x0) (h1 : x / 256 % 256 = x1) (h2 : x / 256 / 256 % 256 = x2) (h3 : x / 256 / 256 / 256 = x3) (k0 : y % 256 = y0) (k1 : y / 256 % 256 = y1) (k2 : y / 256 / 256 % 256 = y2) (k3 : y / 256 / 256 / 256 = y3) : x &&& y = (x0 &&& y0) + 256 * ((x1 &&& y1) + 256 * ((x2 &&& y2) + 256 * (x3 &&& y3))) := by
  rw [and_split x y, and_split (x / 256) (y / 256), and_split (x / 256 / 256) (y / 256 / 256), h0, h1, h2, h3, k0, k1, k2, k3]
def b_m (b : Nat) : Nat := b / 2 &&& 85
def b_g (b : Nat) : Nat := b - b_m b
def b_h (b : Nat) : Nat := (b_g b &&& 51) + (b_g b / 4 &&& 51)
def cN (X : Nat) : Nat → Nat
  | 0 => 0
  | n + 1 => cN X n + (if X.testBit n then 1 else 0)
theorem b_f1 : ∀ b, b < 256 → b_m b ≤ b ∧ b_g b < 256 ∧ b_h b ≤ 68 ∧ b_h b % 16 ≤ 4 ∧ (b_h b + b_h b / 16) % 16 = cN b 8 ∧ cN b 8 ≤ 8 := by decide +kernel
theorem b_f2 : ∀ b, b < 256 → ∀ c, c < 2 → (b / 2 + 128 * c) &&& 85 = b_m b := by decide +kernel
theorem b_f3 : ∀ b, b < 256 → ∀ c, c < 4 → (b / 4 + 64 * c) &&& 51 = b / 4 &&& 51 := by decide +kernel
theorem b_f4 (x : Nat) : x &&& 15 = x % 16 := Nat.and_two_pow_sub_one_eq_mod x 4
theorem b_f5 (x : Nat) : x &&& 63 = x % 64 := Nat.and_two_pow_sub_one_eq_mod x 6
theorem swar1 {X b0 b1 b2 b3 : Nat} (h0 : b0 < 256) (h1 : b1 < 256) (h2 : b2 < 256) (h3 : b3 < 256) (hX : X = b0 + 256 * (b1 + 256 * (b2 + 256 * b3))) : X - (X / 2 &&& 1431655765) = b_g b0 + 256 * (b_g b1 + 256 * (b_g b2 + 256 * b_g b3)) := by
  have e := and_4 (X / 2) 1431655765 (b0 / 2 + 128 * (b1 % 2)) (b1 / 2 + 128 * (b2 % 2)) (b2 / 2 + 128 * (b3 % 2)) (b3 / 2 + 128 * 0) 85 85 85 85 (by omega) (by omega) (by omega) (by omega) rfl rfl rfl rfl
  rw [b_f2 b0 h0 _ (by omega), b_f2 b1 h1 _ (by omega), b_f2 b2 h2 _ (by omega), b_f2 b3 h3 _ (by omega)] at e
  have m0 := (b_f1 b0 h0).1
  have m1 := (b_f1 b1 h1).1
  have m2 := (b_f1 b2 h2).1
  have m3 := (b_f1 b3 h3).1
  rw [e]
  unfold b_g
  omega
theorem swar2 {Y g0 g1 g2 g3 : Nat} (h0 : g0 < 256) (h1 : g1 < 256) (h2 : g2 < 256) (h3 : g3 < 256) (hY : Y = g0 + 256 * (g1 + 256 * (g2 + 256 * g3))) : (Y &&& 858993459) + (Y / 4 &&& 858993459) = ((g0 &&& 51) + (g0 / 4 &&& 51)) + 256 * (((g1 &&& 51) + (g1 / 4 &&& 51)) + 256 * (((g2 &&& 51) + (g2 / 4 &&& 51)) + 256 * ((g3 &&& 51) + (g3 / 4 &&& 51)))) := by
  have e := and_4 Y 858993459 g0 g1 g2 g3 51 51 51 51 (by omega) (by omega) (by omega) (by omega) rfl rfl rfl rfl
  have e2 := and_4 (Y / 4) 858993459 (g0 / 4 + 64 * (g1 % 4)) (g1 / 4 + 64 * (g2 % 4)) (g2 / 4 + 64 * (g3 % 4)) (g3 / 4 + 64 * 0) 51 51 51 51 (by omega) (by omega) (by omega) (by omega) rfl rfl rfl rfl
  rw [b_f3 g0 h0 _ (by omega), b_f3 g1 h1 _ (by omega), b_f3 g2 h2 _ (by omega), b_f3 g3 h3 _ (by omega)] at e2
  rw [e, e2]
  omega
theorem swar3 {Z h0 h1 h2 h3 : Nat} (k0 : h0 ≤ 68) (k1 : h1 ≤ 68 ∧ h1 % 16 ≤ 4) (k2 : h2 ≤ 68 ∧ h2 % 16 ≤ 4) (k3 : h3 ≤ 68 ∧ h3 % 16 ≤ 4) (hZ : Z = h0 + 256 * (h1 + 256 * (h2 + 256 * h3))) : (Z + Z / 16) &&& 252645135 = (h0 + h0 / 16) % 16 + 256 * ((h1 + h1 / 16) % 16 + 256 * ((h2 + h2 / 16) % 16 + 256 * ((h3 + h3 / 16) % 16))) := by
  have d16 : Z / 16 = h0 / 16 + 16 * (h1 + 256 * (h2 + 256 * h3)) := by omega
  have hS : ∀ S w0 w1 w2 w3 : Nat, w0 < 256 → w1 < 256 → w2 < 256 → S = w0 + 256 * (w1 + 256 * (w2 + 256 * w3)) → S % 256 = w0 ∧ S / 256 % 256 = w1 ∧ S / 256 / 256 % 256 = w2 ∧ S / 256 / 256 / 256 = w3 := by
    intro S w0 w1 w2 w3 a0 a1 a2 hS
    have q1 : S / 256 = w1 + 256 * (w2 + 256 * w3) := by omega
    have q2 : S / 256 / 256 = w2 + 256 * w3 := by rw [q1]; omega
    have q3 : S / 256 / 256 / 256 = w3 := by rw [q2]; omega
    exact ⟨by omega, by rw [q1]; omega, by rw [q2]; omega, q3⟩
  obtain ⟨s0, s1, s2, s3⟩ := hS (Z + Z / 16) (h0 + h0 / 16 + 16 * (h1 % 16)) (h1 + h1 / 16 + 16 * (h2 % 16)) (h2 + h2 / 16 + 16 * (h3 % 16)) (h3 + h3 / 16) (by omega) (by omega) (by omega) (by rw [d16]; omega)
  have e := and_4 (Z + Z / 16) 252645135 (h0 + h0 / 16 + 16 * (h1 % 16)) (h1 + h1 / 16 + 16 * (h2 % 16)) (h2 + h2 / 16 + 16 * (h3 % 16)) (h3 + h3 / 16) 15 15 15 15 s0 s1 s2 s3 rfl rfl rfl rfl
  rw [b_f4, b_f4, b_f4, b_f4, Nat.add_mul_mod_self_left, Nat.add_mul_mod_self_left, Nat.add_mul_mod_self_left] at e
  exact e
theorem swar4 {U c0 c1 c2 c3 : Nat} (k0 : c0 ≤ 8) (k1 : c1 ≤ 8) (k2 : c2 ≤ 8) (k3 : c3 ≤ 8) (hU : U = c0 + 256 * (c1 + 256 * (c2 + 256 * c3))) : ((U + U / 256) + (U + U / 256) / 65536) &&& 63 = c0 + c1 + c2 + c3 := by
  rw [b_f5]
  have d1 : U / 256 = c1 + 256 * (c2 + 256 * c3) := by omega
  have d2 : U + U / 256 = (c0 + c1) + 256 * (c1 + c2) + 65536 * ((c2 + c3) + 256 * c3) := by rw [d1]; omega
  have d3 : (U + U / 256) / 65536 = (c2 + c3) + 256 * c3 := by rw [d2]; omega
  rw [d3, d2]
  omega
theorem cN_add (X m : Nat) : ∀ n, cN X (m + n) = cN X m + cN (X / 2 ^ m) n
  | 0 => rfl
  | n + 1 => by
    show cN X (m + n) + _ = _ + (cN (X / 2 ^ m) n + _)
    rw [cN_add X m n, Nat.testBit_div_two_pow, Nat.add_comm n m]
    exact Nat.add_assoc _ _ _
theorem cN_mod (X : Nat) {k : Nat} : ∀ n, n ≤ k → cN X n = cN (X % 2 ^ k) n
  | 0, _ => rfl
  | n + 1, h => by
    show cN X n + _ = cN (X % 2 ^ k) n + _
    rw [← cN_mod X n (by omega), Nat.testBit_mod_two_pow]
    have : n < k := by omega
    simp [this]
theorem cN_nI (X : Nat) : ∀ n, n ≤ 32 → cntB (nI X) n = cN X n
  | 0, _ => rfl
  | n + 1, h => by
    show cntB (nI X) n + _ = cN X n + _
    rw [cN_nI X n (by omega), b_nI X (by omega)]
theorem swar (X : Nat) (hX : X < 2 ^ 32) : ∃ Y Z U : Nat, Y = X - (X / 2 &&& 1431655765) ∧ Z = (Y &&& 858993459) + (Y / 4 &&& 858993459) ∧ U = (Z + Z / 16) &&& 252645135 ∧ (((U + U / 256) + (U + U / 256) / 65536) &&& 63) = cN X 32 := by
  refine ⟨_, _, _, rfl, rfl, rfl, ?_⟩
  have hb : ∀ n, n % 256 < 256 := fun n => Nat.mod_lt _ (by decide)
  have f0 := b_f1 (X % 256) (hb _)
  have f1 := b_f1 (X / 256 % 256) (hb _)
  have f2 := b_f1 (X / 65536 % 256) (hb _)
  have f3 := b_f1 (X / 16777216 % 256) (hb _)
  have e1 := swar1 (X := X) (hb X) (hb (X / 256)) (hb (X / 65536)) (hb (X / 16777216)) (by omega)
  have e2 := swar2 f0.2.1 f1.2.1 f2.2.1 f3.2.1 e1
  have e3 := swar3 (h0 := b_h (X % 256)) (h1 := b_h (X / 256 % 256)) (h2 := b_h (X / 65536 % 256)) (h3 := b_h (X / 16777216 % 256)) f0.2.2.1 ⟨f1.2.2.1, f1.2.2.2.1⟩ ⟨f2.2.2.1, f2.2.2.2.1⟩ ⟨f3.2.2.1, f3.2.2.2.1⟩ e2
  rw [f0.2.2.2.2.1, f1.2.2.2.2.1, f2.2.2.2.2.1, f3.2.2.2.2.1] at e3
  rw [swar4 f0.2.2.2.2.2 f1.2.2.2.2.2 f2.2.2.2.2.2 f3.2.2.2.2.2 e3]
  have g1 : cN X 32 = cN X 8 + cN (X / 2 ^ 8) 24 := cN_add X 8 24
  have g2 : cN (X / 2 ^ 8) 24 = cN (X / 2 ^ 8) 8 + cN (X / 2 ^ 8 / 2 ^ 8) 16 := cN_add _ 8 16
  have g3 : cN (X / 2 ^ 8 / 2 ^ 8) 16 = cN (X / 2 ^ 8 / 2 ^ 8) 8 + cN (X / 2 ^ 8 / 2 ^ 8 / 2 ^ 8) 8 := cN_add _ 8 8
  rw [g1, g2, g3, cN_mod X (k := 8) 8 (by decide), cN_mod (X / 2 ^ 8) (k := 8) 8 (by decide), cN_mod (X / 2 ^ 8 / 2 ^ 8) (k := 8) 8 (by decide), cN_mod (X / 2 ^ 8 / 2 ^ 8 / 2 ^ 8) (k := 8) 8 (by decide)]
  rw [show X / 2 ^ 8 / 2 ^ 8 = X / 65536 by omega, show X / 65536 / 2 ^ 8 = X / 16777216 by omega]
  show _ = cN (X % 256) 8 + (cN (X / 256 % 256) 8 + (cN (X / 65536 % 256) 8 + cN (X / 16777216 % 256) 8))
  omega
theorem int_nI (x : Int32) : ∃ X : Nat, X < 2 ^ 32 ∧ x = nI X := ⟨x.toBitVec.toNat, x.toBitVec.isLt, b_ext fun i hi => by
  rw [b_nI _ hi]
  rfl⟩
theorem cnt_24 {x : Int32} (h : ∀ i, 24 ≤ i → i < 32 → bt x i = false) : cntB x 32 = cntB x 24 := by
  have z : ∀ n, n ≤ 8 → cntB x (24 + n) = cntB x 24 := by
    intro n
    induction n with
    | zero => intro _; rfl
    | succ n ih =>
      intro hn
      show cntB x (24 + n) + (if bt x (24 + n) then 1 else 0) = _
      rw [ih (by omega), h (24 + n) (by omega) (by omega)]
      simp
  exact z 8 (by decide)
section JB
variable {Γ : Gx} {d : Nat} {σ : St} {w : Wd}
theorem c_bitCount {Q : Int32 → St → Prop} {x : Int32} (h : Q (nI (cntB x 32)) σ) : SpI Γ d mJ6_bitCount_0f7a4 [.int x] σ w Q := by
  obtain ⟨X, hX, rfl⟩ := int_nI x
  obtain ⟨Y, Z, U, e1, e2, e3, e4⟩ := swar X hX
  rw [cN_nI X 32 (by decide)] at h
  refine SpI.ofF pfBit (Nat.le_of_ble_eq_true rfl) (vJ6_bitCount_0f7a4_0 ?_)
  have k1 : (1431655765 : Int32) = nI 1431655765 := rfl
  have k2 : (858993459 : Int32) = nI 858993459 := rfl
  have k3 : (252645135 : Int32) = nI 252645135 := rfl
  have k4 : (63 : Int32) = nI 63 := rfl
  have a1 : (X / 2 &&& 1431655765) ≤ X := Nat.le_trans Nat.and_le_left (Nat.div_le_self _ _)
  have hY : Y < 2 ^ 32 := by omega
  have b1 : (Y &&& 858993459) ≤ 858993459 := Nat.and_le_right
  have b2 : (Y / 4 &&& 858993459) ≤ 858993459 := Nat.and_le_right
  have hZ : Z < 2 ^ 32 := by omega
  have hU : U ≤ 252645135 := by rw [e3]; exact Nat.and_le_right
  rw [k1, k2, k3, k4]
  rw [pk_ushrN hX (1 : Int32) 1 (by decide), and_nI, pk_sub a1, show X / 2 ^ 1 = X / 2 from rfl, ← e1]
  rw [pk_ushrN hY (2 : Int32) 2 (by decide), and_nI, and_nI, nI_add, show Y / 2 ^ 2 = Y / 4 from rfl, ← e2]
  rw [pk_ushrN hZ (4 : Int32) 4 (by decide), nI_add, and_nI, show Z / 2 ^ 4 = Z / 16 from rfl, ← e3]
  rw [pk_ushrN (by omega) (8 : Int32) 8 (by decide), nI_add]
  rw [pk_ushrN (by omega) (16 : Int32) 16 (by decide), nI_add, and_nI]
  rw [show ((U + U / 2 ^ 8) + (U + U / 2 ^ 8) / 2 ^ 16 &&& 63) = cN X 32 from e4]
  exact h
end JB
