/-! the JDK's own methods -/
section OfF
variable {Γ : Gx} {d : Nat} {σ : St} {w : Wd}
theorem Sp.ofF {Q : Option Value → St → Wd → Prop} {ν : MD} {A : List Value} (hn : plainFor (mN ν) = true) (hA : catS A ≤ mL ν) (h : AW Γ d ν Q 0 (lv_args 0 A) [] σ w 0 0) : Sp Γ d ν A σ w Q := by
  refine va_MetF (cc := mB ν) (maxL := mL ν) (ret := mR ν) hn rfl ?_
  intro p e s m args below meth c s₁ B hml hv
  obtain ⟨rfl, hH, hK⟩ := hv
  have hl := lv_entry (A.map (cv Γ)) (n := mL ν) (by rw [sl_len]; exact hA)
  rw [lg_entry_eq]
  rw [args_cv] at hl
  refine h p Γ.1 e s m _ below meth c _ ⟨B.exec, B.bytes, hml, B.returns, B.notSynchronized, findClass_of_methodNamed B.named, (name_of_methodNamed B.named B.method).1, rfl, hK⟩ ?_ s.heap [] _ hH (fun q hq => absurd hq List.not_mem_nil) hl (Nat.zero_le _) (Nat.zero_le _)
  intro v σ' w' H locs pc ls hq hHR hlo hr
  have hb := B.bytes
  have hret := B.returns
  have hlocks := B.notSynchronized
  rcases hr with ⟨rfl, h1, h2⟩ | ⟨x, ty, rfl, h1, h2, h3⟩ | ⟨x, rfl, h1, h2⟩
  · exact W.vret B.exec hb (by rw [hret]; exact h2) (fun t ht _ => ⟨none, σ', w', rfl, by rw [ht]; exact hHR, hq⟩) hlo h1
  · exact W.zret B.exec hb (by rw [hret]; exact h2) h3 (fun t ht _ => ⟨some (.int x), σ', w', rfl, by rw [ht]; exact hHR, hq⟩) hlo h1
  · exact W.lret B.exec hb (by rw [hret]; exact h2) (fun t ht _ => ⟨some (.long x), σ', w', rfl, by rw [ht]; exact hHR, hq⟩) hlo h1
variable {μ : MD} {A : List Value}
theorem SpI.ofF {Q : Int32 → St → Prop} (hn : plainFor (mN μ) = true) (hA : catS A ≤ mL μ) (h : AI Γ d μ w Q 0 (lv_args 0 A) σ) : SpI Γ d μ A σ w Q := Sp.ofF hn hA h
theorem SpV.ofF {Q : St → Prop} (hn : plainFor (mN μ) = true) (hA : catS A ≤ mL μ) (h : AV Γ d μ w Q 0 (lv_args 0 A) σ) : SpV Γ d μ A σ w Q := Sp.ofF hn hA h
end OfF
theorem pfMax : plainFor (mN mJ9_max_7cf53) = true := by decide +kernel
theorem pfMin : plainFor (mN mJ9_min_7cf53) = true := by decide +kernel
theorem pfBit : plainFor (mN mJ6_bitCount_0f7a4) = true := by decide +kernel
theorem pfFI : plainFor (mN mJ7_fill_53178) = true := by decide +kernel
theorem pfFJ : plainFor (mN mJ7_fill_d0a16) = true := by decide +kernel
theorem pfLen : plainFor (mN mJ0_length_8abf5) = true := by decide +kernel
theorem pfCod : plainFor (mN mJ0_coder_7d493) = true := by decide +kernel
theorem pfLat : plainFor (mN mJ0_isLatin1_aae02) = true := by decide +kernel
theorem pfChr : plainFor (mN mJ0_charAt_5068e) = true := by decide +kernel
theorem pfChk : plainFor (mN mJ0_checkIndex_df160) = true := by decide +kernel
theorem pfCh1 : plainFor (mN mJ1_charAt_3b067) = true := by decide +kernel
theorem pfCk3 : plainFor (mN mJ3_checkIndex_8e157) = true := by decide +kernel
section JD
variable {Γ : Gx} {d : Nat} {σ : St} {w : Wd}
theorem c_max {Q : Int32 → St → Prop} {x y : Int32} (h1 : x < y → Q y σ) (h2 : ¬ x < y → Q x σ) : SpI Γ d mJ9_max_7cf53 [.int x, .int y] σ w Q := SpI.ofF pfMax (Nat.le_of_ble_eq_true rfl) (vJ9_max_7cf53_0 ⟨h1, h2⟩)
theorem c_min {Q : Int32 → St → Prop} {x y : Int32} (h1 : y < x → Q y σ) (h2 : ¬ y < x → Q x σ) : SpI Γ d mJ9_min_7cf53 [.int x, .int y] σ w Q := SpI.ofF pfMin (Nat.le_of_ble_eq_true rfl) (vJ9_min_7cf53_0 ⟨h1, h2⟩)
def scO (o : Nat) (a _k : Nat) : Bool := a == o
theorem lp_fillI {Q : St → Prop} {o n : Nat} {x : Int32} (ho : okO w o 20) (hn : (kd o).2 = n) (hn2 : n < 2 ^ 31) : ∀ r k σ, k + r = n → (∀ i, i < k → gI σ o i = x) → (∀ σ', Fr (scO o) σ σ' → (∀ i, i < n → gI σ' o i = x) → Q σ') → AV Γ d mJ7_fill_53178 w Q 5 [(0, .ref o), (1, .int x), (2, .int (nI k)), (3, .int (nI n))] σ := by
  intro r
  induction r with
  | zero =>
    intro k σ hk ha hQ
    have : k = n := hk
    subst this
    exact vJ7_fill_53178_5 ho ⟨fun _ => hQ σ (Fr.rf σ) ha, fun c => absurd (nI_le (Nat.le_refl _) hn2) c⟩
  | succ r ih =>
    intro k σ hk ha hQ
    refine vJ7_fill_53178_5 ho ⟨fun c => absurd c (nI_ge (by omega) hn2), fun _ => ⟨by rw [hn]; exact vp_in_nI (by omega) hn2, ?_⟩⟩
    rw [nI_1, cl (by omega)]
    have hf : Fr (scO o) σ (uI σ o k x) := fr_I (by simp [scO])
    refine ih (k + 1) _ (by omega) (fun i hi => ?_) (fun s g1 g2 => hQ s (hf.tr g1) g2)
    rw [gI_uI]
    by_cases e : i = k
    · subst e; rw [if_pos ⟨rfl, rfl⟩]
    · rw [if_neg (by omega)]; exact ha i (by omega)
theorem c_fillI {Q : St → Prop} {o n : Nat} {x : Int32} (ho : okO w o 20) (hn : (kd o).2 = n) (hn2 : n < 2 ^ 31) (hQ : ∀ σ', Fr (scO o) σ σ' → (∀ i, i < n → gI σ' o i = x) → Q σ') : SpV Γ d mJ7_fill_53178 [.ref o, .int x] σ w Q := by
  refine SpV.ofF pfFI (Nat.le_of_ble_eq_true rfl) (vJ7_fill_53178_0 ho.1 (by rw [ho.2]; decide) (by rw [ho.2]; decide) ?_)
  rw [hn]
  exact lp_fillI ho hn hn2 n 0 σ (Nat.zero_add _) (fun i hi => absurd hi (Nat.not_lt_zero i)) hQ
theorem lp_fillJ {Q : St → Prop} {o n : Nat} {x : Int64} (ho : okO w o 21) (hn : (kd o).2 = n) (hn2 : n < 2 ^ 31) : ∀ r k σ, k + r = n → (∀ i, i < k → gJ σ o i = x) → (∀ σ', Fr (scO o) σ σ' → (∀ i, i < n → gJ σ' o i = x) → Q σ') → AV Γ d mJ7_fill_d0a16 w Q 6 [(0, .ref o), (1, .long x), (3, .int (nI k)), (4, .int (nI n))] σ := by
  intro r
  induction r with
  | zero =>
    intro k σ hk ha hQ
    have : k = n := hk
    subst this
    exact vJ7_fill_d0a16_6 ho ⟨fun _ => hQ σ (Fr.rf σ) ha, fun c => absurd (nI_le (Nat.le_refl _) hn2) c⟩
  | succ r ih =>
    intro k σ hk ha hQ
    refine vJ7_fill_d0a16_6 ho ⟨fun c => absurd c (nI_ge (by omega) hn2), fun _ => ⟨by rw [hn]; exact vp_in_nI (by omega) hn2, ?_⟩⟩
    rw [nI_1, cl (by omega)]
    have hf : Fr (scO o) σ (uJ σ o k x) := fr_J (by simp [scO])
    refine ih (k + 1) _ (by omega) (fun i hi => ?_) (fun s g1 g2 => hQ s (hf.tr g1) g2)
    rw [gJ_uJ]
    by_cases e : i = k
    · subst e; rw [if_pos ⟨rfl, rfl⟩]
    · rw [if_neg (by omega)]; exact ha i (by omega)
theorem c_fillJ {Q : St → Prop} {o n : Nat} {x : Int64} (ho : okO w o 21) (hn : (kd o).2 = n) (hn2 : n < 2 ^ 31) (hQ : ∀ σ', Fr (scO o) σ σ' → (∀ i, i < n → gJ σ' o i = x) → Q σ') : SpV Γ d mJ7_fill_d0a16 [.ref o, .long x] σ w Q := by
  refine SpV.ofF pfFJ (Nat.le_of_ble_eq_true rfl) (vJ7_fill_d0a16_0 ho.1 (by rw [ho.2]; decide) (by rw [ho.2]; decide) ?_)
  rw [hn]
  exact lp_fillJ ho hn hn2 n 0 σ (Nat.zero_add _) (fun i hi => absurd hi (Nat.not_lt_zero i)) hQ
theorem sh0 (x : Int32) : x >>> ((0 : Int32) &&& 31) = x := b_ext fun i hi => by
  have := b_sshr 0 (by decide) x hi
  rw [show ((0 : Int32)) = nI 0 from rfl, this]
  simp [hi]
theorem c_coder {Q : Int32 → St → Prop} {x : Nat} (h1 : 1 ≤ x) (h2 : x ≤ 9) (h : Q 0 σ) : SpI Γ d mJ0_coder_7d493 [.retAddr x] σ w Q := SpI.ofF pfCod (Nat.le_of_ble_eq_true rfl) (vJ0_coder_7d493_0 h1 h2 ⟨by decide, h⟩)
theorem c_len {Q : Int32 → St → Prop} {x : Nat} (h1 : 1 ≤ x) (h2 : x ≤ 9) (h : Q (nI (txL.getD (x - 1) 0)) σ) : SpI Γ (d + 1) mJ0_length_8abf5 [.retAddr x] σ w Q := by
  refine SpI.ofF pfLen (Nat.le_of_ble_eq_true rfl) (vJ0_length_8abf5_0 h1 h2 (by omega) (by omega) (c_coder h1 h2 ?_))
  rw [sh0, show x + 19 - 20 = x - 1 by omega]
  exact h
theorem vJ3_ck_null {Q : Int32 → St → Prop} {x0 x1 : Int32} (h : ((x0 < (0 : Int32) → False) ∧ (¬ x0 < (0 : Int32) → ((x0 < x1 → Q x0 σ) ∧ (¬ x0 < x1 → False))))) : AI Γ (d + 1) mJ3_checkIndex_8e157 w Q 0 [(0, .int x0), (1, .int x1), (2, .null)] σ :=
  wp_sound (μ := mJ3_checkIndex_8e157) (T := tbJ3) (is := isJ3_checkIndex_8e157) (sw := swJ3_checkIndex_8e157) (cu := cuJ3_checkIndex_8e157) tbJ3_ok msJ3_checkIndex_8e157 10 _ _ _ _ _ _ _ (And.intro (fun q => (h.1 q).elim) (fun q => And.intro (fun q2 => And.intro rfl (And.intro rfl (Exists.intro x0 (And.intro rfl (((h.2 q).1 q2)))))) (fun q2 => ((h.2 q).2 q2).elim)))
theorem vJ3_ck_ref {Q : Int32 → St → Prop} {x0 x1 : Int32} {r : Nat} (h : ((x0 < (0 : Int32) → False) ∧ (¬ x0 < (0 : Int32) → ((x0 < x1 → Q x0 σ) ∧ (¬ x0 < x1 → False))))) : AI Γ (d + 1) mJ3_checkIndex_8e157 w Q 0 [(0, .int x0), (1, .int x1), (2, .retAddr r)] σ :=
  wp_sound (μ := mJ3_checkIndex_8e157) (T := tbJ3) (is := isJ3_checkIndex_8e157) (sw := swJ3_checkIndex_8e157) (cu := cuJ3_checkIndex_8e157) tbJ3_ok msJ3_checkIndex_8e157 10 _ _ _ _ _ _ _ (And.intro (fun q => (h.1 q).elim) (fun q => And.intro (fun q2 => And.intro rfl (And.intro rfl (Exists.intro x0 (And.intro rfl (((h.2 q).1 q2)))))) (fun q2 => ((h.2 q).2 q2).elim)))
theorem c_check {Q : St → Prop} {j n : Nat} (hj : j < n) (hn : n < 2 ^ 31) (h : Q σ) : SpV Γ (d + 2) mJ0_checkIndex_df160 [.int (nI j), .int (nI n)] σ w Q := by
  have z : ((nI j < (0 : Int32) → False) ∧ (¬ nI j < (0 : Int32) → ((nI j < nI n → Q σ) ∧ (¬ nI j < nI n → False)))) := ⟨fun q => nI_pos (by omega) q, fun _ => ⟨fun _ => h, fun q => q (nI_lt hj hn)⟩⟩
  exact SpV.ofF pfChk (Nat.le_of_ble_eq_true rfl) (vJ0_checkIndex_df160_0 ⟨SpI.ofF pfCk3 (Nat.le_of_ble_eq_true rfl) (vJ3_ck_null (Q := fun _ s => Q s) z), SpI.ofF pfCk3 (Nat.le_of_ble_eq_true rfl) (vJ3_ck_ref (Q := fun _ s => Q s) z)⟩)
theorem c_latin {Q : Int32 → St → Prop} {x : Nat} (h1 : 1 ≤ x) (h2 : x ≤ 9) (h : Q 1 σ) : SpI Γ d mJ0_isLatin1_aae02 [.retAddr x] σ w Q := SpI.ofF pfLat (Nat.le_of_ble_eq_true rfl) (vJ0_isLatin1_aae02_0 h1 h2 h)
/-- the letters of a text of the program -/
def txC (x j : Nat) : Nat := ((txB.getD (x - 1) []).getD j 0).toNatClampNeg
theorem tx_l : ∀ x, x < 9 → txL.getD x 0 < 10 := by decide +kernel
theorem tx_c : ∀ x, x < 9 → ∀ j, j < txL.getD x 0 → ((((((txB.getD x []).getD j 0) &&& (255 : Int32)).toUInt32 % 65536).toInt32) = nI (((txB.getD x []).getD j 0).toNatClampNeg) ∧ ((txB.getD x []).getD j 0).toNatClampNeg < 256) := by decide +kernel
theorem c_charAt {Q : Int32 → St → Prop} {x j : Nat} (h1 : 1 ≤ x) (h2 : x ≤ 9) (hj : j < txL.getD (x - 1) 0) (h : Q (nI (txC x j)) σ) : SpI Γ (d + 4) mJ0_charAt_5068e [.retAddr x, .int (nI j)] σ w Q := by
  have hl := tx_l (x - 1) (by omega)
  obtain ⟨hc, hc2⟩ := tx_c (x - 1) (by omega) j hj
  refine SpI.ofF pfChr (Nat.le_of_ble_eq_true rfl) (vJ0_charAt_5068e_0 h1 h2 (c_latin h1 h2 ⟨fun q => absurd q (by decide), fun _ => SpI.ofF pfCh1 (Nat.le_of_ble_eq_true rfl) (vJ1_charAt_3b067_0 (by omega) (by omega) ?_)⟩))
  rw [show x + 19 - 20 = x - 1 by omega, cl (by omega), hc]
  refine c_check hj (by omega) ⟨vp_in_nI hj (by omega), (pk_charN (by omega)).1, (pk_charN (by omega)).1, h⟩
end JD
