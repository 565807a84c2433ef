/-! the class: the course that is found -/
theorem cntB_lt {x : Int32} {k : Nat} (h : bt x k = false) : ∀ n, k < n → cntB x n + 1 ≤ n
  | 0, q => absurd q (Nat.not_lt_zero k)
  | n + 1, q => by
    show cntB x n + (if bt x n then 1 else 0) + 1 ≤ n + 1
    by_cases e : k = n
    · subst e
      have := cntB_le x k
      rw [h]
      simp
      omega
    · have := cntB_lt h n (by omega)
      split <;> omega
theorem pc_15 {s : Nat} (hs : s < 32768) : pc s = cntB (nI s) 15 := by
  have key : ∀ n, n ≤ 17 → cntB (nI s) (15 + n) = cntB (nI s) 15 := by
    intro n
    induction n with
    | zero => intro _; rfl
    | succ n ih =>
      intro hn
      show cntB (nI s) (15 + n) + (if bt (nI s) (15 + n) then 1 else 0) = _
      rw [ih (by omega), b_nI _ (by omega), Nat.testBit_lt_two_pow (Nat.lt_of_lt_of_le hs (Nat.le_trans (by decide : 32768 ≤ 2 ^ 15) (Nat.pow_le_pow_right (by decide) (by omega))))]
      rfl
  exact key 17 (Nat.le_refl _)
theorem pc_14 {s k : Nat} (hs : s < 32768) (hk : k < 15) (h : s.testBit k = false) : pc s ≤ 14 := by
  rw [pc_15 hs]
  have := cntB_lt (x := nI s) (k := k) (by rw [b_nI _ (by omega)]; exact h) 15 hk
  omega
theorem num_k : ∀ k, k < 17 → (1 ≤ k → (nI k - 1 = nI (k - 1) ∧ (nI k - 1) + -1 = nI (k - 1) - 1 ∧ ¬ nI k - 1 < 0 ∧ nI k - 2 = nI (k - 1) - 1)) := by decide +kernel
theorem num_0 : nI 0 - 1 < 0 := by decide
theorem pow_cnt : ∀ x, x < 15 → cntB (nI (2 ^ x) - 1) 32 = x := by decide +kernel
theorem num_st : ∀ x, x < 15 → 7 ≤ x → (100 + nI x) - 7 = nI (100 + (x - 7)) := by decide +kernel
theorem dif_bit {s x : Nat} (h : s.testBit x = false) (hx : x < 15) : nI (s ||| 2 ^ x) &&& (nI s ^^^ (-1)) = nI (2 ^ x) := b_ext fun i hi => by
  rw [b_and, b_not _ hi, b_nI _ hi, b_nI _ hi, b_nI _ hi, t_or, Nat.testBit_two_pow]
  by_cases e : x = i
  · subst e; rw [h]; simp
  · rw [decide_eq_false e, Bool.or_false]
    cases s.testBit i <;> rfl
/-- the class holds the course to p -/
def ResC (σ : St) (π : PV) (p u : Nat) : Prop := (dst π p u 0 < 1000 → gI σ 425 9 = nI (dst π p u 0) ∧ 1 ≤ dst π p u 0 ∧ dst π p u 0 ≤ 15 ∧ ∀ k, k < dst π p u 0 → gI σ 429 k = (crs π p u).getD k 0) ∧ (¬ dst π p u 0 < 1000 → gI σ 425 9 = -1)
section CFI
variable {Γ : Gx} {d : Nat} {w : Wd} {P : Nat} {π : PV} {p u : Nat} {f r : Nat → Nat} {c g : Nat}
theorem c_stepOf {Q : Int32 → St → Prop} {σ : St} {x : Nat} (hx : x < 15) (h : Q (nI (if 7 ≤ x then 100 + (x - 7) else x)) σ) : SpI Γ (d + 1) mX0_stepOf [.int (nI (2 ^ x))] σ w Q := by
  refine SpI.of pnX0' (Nat.le_of_ble_eq_true rfl) (vX0_stepOf_0 (c_bitCount ?_))
  rw [pow_cnt x hx]
  have l7 : (7 : Int32) ≤ nI x ↔ 7 ≤ x := nI_leI (a := 7) (by decide) (by omega)
  rw [l7]
  refine ⟨fun q => ?_, fun q => ?_⟩
  · rw [if_pos q] at h
    rw [num_st x hx q]
    exact h
  · rw [if_neg q] at h
    exact h
theorem scW9 : ∀ o k, ((fun o k => (o == 425 && k == 9) || o == 429) : Nat → Nat → Bool) o k = true → (fun (o _k : Nat) => decide (425 ≤ o)) o k = true := by
  intro o k h
  simp only [Bool.or_eq_true, Bool.and_eq_true, beq_iff_eq, decide_eq_true_eq] at h ⊢
  omega
theorem c_write {Q : St → Prop} {σ : St} (hwc : RunC w) (hF : WF π) (hp : p < nP π) (hCS : CS σ P p u f r c) (hc : c ≤ 16384) (h : (gI σ 425 7 = -1 ∧ ¬ dst π p u 0 < 1000) ∨ ∃ g, gI σ 425 7 = nI g ∧ CH π p u f r c g) (hQ : ∀ σ', Fr (fun o k => (o == 425 && k == 9) || o == 429) σ σ' → ResC σ' π p u → Q σ') : SpV Γ (d + 2) mX0_writeSteps [.ref 425] σ w Q := by
  have hw := hwc.run
  have h8 := hF.1.2.2.2.2
  have hl7 := hF.1.2.2.1.2
  have h256 : 2 ^ nP π ≤ 2 ^ 8 := Nat.pow_le_pow_right (by decide) h8
  refine SpV.of pnX0' (Nat.le_of_ble_eq_true rfl) (vX0_writeSteps_0 hwc ?_)
  rcases h with ⟨h1, h2⟩ | ⟨g, h1, hD, hD1, hg, hfg, hch, hf0⟩
  · rw [h1]
    exact ⟨fun q => absurd rfl q, fun _ => hQ _ (fr_I (by decide)) ⟨fun q => absurd q h2, fun _ => by rw [gI_uI, if_pos ⟨rfl, rfl⟩]⟩⟩
  · rw [h1]
    obtain ⟨k1, k2, k3, k4⟩ := gs_ok hF hD (dst π p u 0 - 1) (by omega)
    have kb : (gs π p u (dst π p u 0 - 1)).testBit (7 + p) = false := by
      cases hb : (gs π p u (dst π p u 0 - 1)).testBit (7 + p) with
      | false => rfl
      | true => rw [(dst_zero hF hp k1).mpr hb] at k2; omega
    have h14 := pc_14 (show gs π p u (dst π p u 0 - 1) < 32768 by omega) (show 7 + p < 15 by omega) kb
    have hlen : (crs π p u).length = dst π p u 0 := crs_len hF _ 0 (Nat.mul_pos (by decide) (Nat.pow_pos (by decide))) hD rfl
    have at_ : ∀ j, j < dst π p u 0 → (crs π p u).getD j 0 = nI (nmb π (gsI π p u (gs π p u j))) := fun j hj => by
      have := crs_at hF hD (dst π p u 0) 0 (Nat.zero_add _) j hj
      rw [Nat.zero_add] at this
      exact this
    -- the steps
    have lp : ∀ k j σ', k + 1 ≤ dst π p u 0 → j < c → f j = gs π p u k → Fr (fun o k => (o == 425 && k == 9) || o == 429) σ σ' → gI σ' 425 9 = nI (dst π p u 0) → (∀ k', k ≤ k' → k' < dst π p u 0 → gI σ' 429 k' = (crs π p u).getD k' 0) → AV Γ (d + 2) mX0_writeSteps w Q 59 [(0, .ref 425), (1, .int (nI j)), (2, .int (nI k - 1))] σ' := by
      intro k
      induction k with
      | zero =>
        intro j σ' hk hj hfj hf h9 hst
        exact vX0_writeSteps_59 hwc ⟨fun _ => hQ σ' hf ⟨fun _ => ⟨h9, hD1, by omega, fun k' hk' => hst k' (Nat.zero_le _) hk'⟩, fun q => absurd hD q⟩, fun q => absurd num_0 q⟩
      | succ k ih =>
        intro j σ' hk hj hfj hf h9 hst
        obtain ⟨q1, q2, q3, q4⟩ := num_k (k + 1) (by omega) (by omega)
        obtain ⟨b1, b2⟩ := hch j (k + 1) hj (by omega) hk hfj
        rw [Nat.add_sub_cancel] at b2 q1 q2
        obtain ⟨g1, g2, g3, g4⟩ := gs_ok hF hD k (by omega)
        obtain ⟨-, -, g5, g6⟩ := g4 (by omega)
        obtain ⟨x1, x2, x3⟩ := stX_bit hF g5 g6
        have hj0 : j ≠ 0 := fun z => by
          rw [z, hf0] at hfj
          have := (gs_ok hF hD (k + 1) (by omega)).2.2.1
          rw [← hfj, pc_0] at this
          omega
        have e27 : gI σ' 427 j = nI (r j) := by
          rw [hf.1 427 j (by simp), hCS.2.2.2.2.2.2 j hj]
          exact if_neg hj0
        have e26 : gI σ' 426 j = nI (gs π p u (k + 1)) := by rw [hf.1 426 j (by simp), hCS.2.2.2.2.2.1 j hj, hfj]
        have e26' : gI σ' 426 (r j) = nI (gs π p u k) := by rw [hf.1 426 _ (by simp), hCS.2.2.2.2.2.1 _ b1, b2]
        refine vX0_writeSteps_59 hwc ⟨fun q => absurd q q3, fun _ => ⟨vp_in_nI (by omega) (by decide), ?_⟩⟩
        rw [cl (show j < 2 ^ 31 by omega), e27, cl (show r j < 2 ^ 31 by omega), e26, e26', x2, dif_bit x1 x3]
        refine ⟨fun q => absurd q (nI_ne_m1 (by omega)), fun _ => ⟨vp_in_nI (by omega) (by decide), vp_in_nI (by omega) (by decide), vp_in_nI (by omega) (by decide), c_stepOf x3 ⟨by rw [q1]; exact vp_in_nI (by omega) (by decide), ?_⟩⟩⟩
        rw [q2, q1, cl (show k < 2 ^ 31 by omega)]
        have en : (if 7 ≤ bxX π (gsI π p u (gs π p u k)) then 100 + (bxX π (gsI π p u (gs π p u k)) - 7) else bxX π (gsI π p u (gs π p u k))) = nmb π (gsI π p u (gs π p u k)) := by
          unfold bxX nmb
          split
          · rename_i z
            rw [if_neg (by omega)]
          · rename_i z
            rw [if_pos (by omega), Nat.add_sub_cancel_left]
        rw [en]
        refine ih (r j) _ (by omega) b1 b2 (hf.tr (fr_I (by simp))) (by rw [gI_uI, if_neg (by omega)]; exact h9) (fun k' z1 z2 => ?_)
        rw [gI_uI]
        by_cases e : k' = k
        · rw [if_pos ⟨rfl, e⟩, e, at_ k (by omega)]
        · rw [if_neg (by omega)]
          exact hst k' (by omega) z2
    refine ⟨fun _ => ⟨vp_in_nI (by omega) (by decide), c_bitCount ?_⟩, fun q => absurd q (nI_ne_m1 (by omega))⟩
    have e26 : gI σ 426 (nI g).toNatClampNeg = nI (gs π p u (dst π p u 0 - 1)) := by rw [cl (show g < 2 ^ 31 by omega), hCS.2.2.2.2.2.1 g hg, hfg]
    have epc : cntB (nI (gs π p u (dst π p u 0 - 1))) 32 = dst π p u 0 - 1 := k3
    have e1 : nI (dst π p u 0 - 1) + 1 = nI (dst π p u 0) := by
      rw [show nI (dst π p u 0 - 1) + 1 = nI (dst π p u 0 - 1 + 1) from nI_add _ 1]
      congr 1
      omega
    obtain ⟨q1, q2, q3, q4⟩ := num_k (dst π p u 0) (by omega) hD1
    rw [e26, epc, e1, q1, q4, cl (show dst π p u 0 - 1 < 2 ^ 31 by omega), hCS.2.1, show (100 : Int32) + nI p = nI (100 + p) from nI_add 100 p]
    refine ⟨vp_in_nI (by omega) (by decide), lp (dst π p u 0 - 1) g _ (by omega) hg hfg ((fr_I (by simp)).tr (fr_I (by simp))) (by rw [gI_uI, if_neg (by omega), gI_uI, if_pos ⟨rfl, rfl⟩]) (fun k' z1 z2 => ?_)⟩
    have : k' = dst π p u 0 - 1 := by omega
    subst this
    rw [gI_uI, if_pos ⟨rfl, rfl⟩, at_ _ (by omega)]
    obtain ⟨-, -, g5, g6⟩ := k4 (by omega)
    obtain ⟨x1, x2, x3⟩ := stX_bit hF g5 g6
    have hs := stX_spec hF g5 g6 k1
    have hd := dst_tri (p := p) hF k1 (k4 (by omega)).1 g5 g6
    have h00 : dst π p u (gs π p u (dst π p u 0 - 1 + 1)) = 0 := by
      have := (gs_ok hF hD (dst π p u 0 - 1 + 1) (by omega)).2.1
      omega
    rw [dst_zero hF hp hs, x2, t_or, kb, Bool.false_or, decide_eq_true_eq] at h00
    congr 1
    unfold nmb
    unfold bxX at h00
    split at h00
    · omega
    · rename_i z
      rw [if_neg z]
      omega
end CFI
