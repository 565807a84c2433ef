/-! courses: what is true of them -/
theorem minF_lo {g : Nat → Option Nat} {acc k a : Nat} : ∀ n, k < n → g k = some a → minF g acc n ≤ a + 1
  | 0, h, _ => absurd h (Nat.not_lt_zero k)
  | n + 1, h, hg => by
    have st : minF g acc (n + 1) = (match g n with | none => minF g acc n | some a => if minF g acc n ≤ a + 1 then minF g acc n else a + 1) := rfl
    rw [st]
    by_cases e : k = n
    · subst e
      rw [hg]
      dsimp only
      by_cases e2 : minF g acc k ≤ a + 1
      · rw [if_pos e2]; exact e2
      · rw [if_neg e2]; exact Nat.le_refl _
    · have ih := minF_lo (g := g) (acc := acc) n (by omega) hg
      cases g n with
      | none => exact ih
      | some b =>
        dsimp only
        by_cases e2 : minF g acc n ≤ b + 1
        · rw [if_pos e2]; exact ih
        · rw [if_neg e2]; exact Nat.le_trans (Nat.le_of_lt (Nat.lt_of_not_le e2)) ih
theorem tdiv (s j : Nat) : (s / 128).testBit j = s.testBit (7 + j) := by
  rw [show (128 : Nat) = 2 ^ 7 from rfl, Nat.testBit_div_two_pow, Nat.add_comm]
theorem tmod (s j : Nat) : (s % 128).testBit j = (decide (j < 7) && s.testBit j) := by
  rw [show (128 : Nat) = 2 ^ 7 from rfl, Nat.testBit_mod_two_pow]
theorem or_self2 {s x : Nat} (h : s.testBit x = true) : s ||| 2 ^ x = s := Nat.eq_of_testBit_eq (fun i => by
  rw [Nat.testBit_or, Nat.testBit_two_pow]
  by_cases e : x = i
  · subst e; simp [h]
  · simp [e])
theorem t_or (s x i : Nat) : (s ||| 2 ^ x).testBit i = (s.testBit i || decide (x = i)) := by rw [Nat.testBit_or, Nat.testBit_two_pow]
/-- the bit of a step -/
def bxX (π : PV) (i : Nat) : Nat := if i < nL π then i else 7 + (i - nL π)
theorem stX_bit {π : PV} {u s i t : Nat} (hF : WF π) (hi : i < nL π + nP π) (h : stX π u s i = some t) : s.testBit (bxX π i) = false ∧ t = s ||| 2 ^ bxX π i ∧ bxX π i < 15 := by
  obtain ⟨⟨-, -, ⟨n3, h7⟩, n4, h8⟩, -⟩ := hF
  unfold stX at h
  unfold bxX
  have key : ∀ x, s < t → t = s ||| 2 ^ x → s.testBit x = false := by
    intro x h1 h2
    cases hb : s.testBit x with
    | false => rfl
    | true => rw [or_self2 hb] at h2; omega
  split at h
  · rename_i q
    rw [if_pos q]
    obtain ⟨a, b⟩ := stL_spec h (by omega)
    exact ⟨key _ a b, b, by omega⟩
  · rename_i q
    rw [if_neg q]
    obtain ⟨a, b⟩ := stP_spec h (by omega)
    exact ⟨key _ a b, b, by omega⟩
def pc (s : Nat) : Nat := cntB (nI s) 32
theorem pc_or {s x : Nat} (hx : x < 31) (h : s.testBit x = false) : pc (s ||| 2 ^ x) = pc s + 1 := by
  unfold pc
  rw [← or_nI, ← shl_nI x hx, cntB_or hx (by rw [b_nI _ (by omega)]; exact h), if_pos (by omega)]
theorem pc_0 : pc 0 = 0 := by decide
theorem bit_p {s p : Nat} (hp : p < 8) : bt (nI (s / 128)) p = s.testBit (7 + p) := by rw [b_nI _ (by omega), tdiv]
section CRS
variable {π : PV} {p u : Nat}
theorem dst_tri {s i t : Nat} (hF : WF π) (hs : s < 128 * 2 ^ nP π) (hl : s % 128 < 2 ^ nL π) (hi : i < nL π + nP π) (h : stX π u s i = some t) : dst π p u s ≤ dst π p u t + 1 := by
  have h8 := hF.1.2.2.2.2
  have h256 : 2 ^ nP π ≤ 2 ^ 8 := Nat.pow_le_pow_right (by decide) h8
  rw [dst_step hF (show s < 32768 by omega), if_pos hl]
  split
  · exact Nat.zero_le _
  · unfold stX at h
    split at h
    · rename_i q
      refine Nat.le_trans (minF_le _) (minF_lo _ q ?_)
      unfold gL
      rw [h]
      rfl
    · rename_i q
      refine minF_lo (k := i - nL π) _ (by omega) ?_
      unfold gP
      rw [h]
      rfl
theorem dst_zero {s : Nat} (hF : WF π) (hp : p < nP π) (hs : s < 128 * 2 ^ nP π) : dst π p u s = 0 ↔ s.testBit (7 + p) = true := by
  have h8 := hF.1.2.2.2.2
  have h256 : 2 ^ nP π ≤ 2 ^ 8 := Nat.pow_le_pow_right (by decide) h8
  rw [dst_step hF (show s < 32768 by omega), bit_p (by omega)]
  cases hb : s.testBit (7 + p) with
  | true => simp
  | false =>
    rw [if_neg (by decide)]
    constructor
    · intro h
      split at h
      · rcases minF_att (g := gP π p u s) (acc := minF (gL π p u s) 1000 (nL π)) (nP π) with q | ⟨k, a, -, -, q⟩
        · rw [q] at h
          rcases minF_att (g := gL π p u s) (acc := 1000) (nL π) with q | ⟨k, a, -, -, q⟩ <;> omega
        · omega
      · omega
    · intro h; cases h
theorem bt_met {a b : Nat} (hF : WF π) : bt (metS π (nI a)) b = true ↔ ∃ q, q < nP π ∧ a.testBit q = true ∧ bt (π 12 q 0) b = true := by
  have h8 := hF.1.2.2.2.2
  have key : ∀ n, n ≤ 8 → (bt (metF π (nI a) n) b = true ↔ ∃ q, q < n ∧ a.testBit q = true ∧ bt (π 12 q 0) b = true) := by
    intro n
    induction n with
    | zero =>
      intro _
      constructor
      · intro h
        have : bt (metF π (nI a) 0) b = bt 0 b := rfl
        rw [this, b_0] at h
        cases h
      · rintro ⟨q, h, -⟩; omega
    | succ n ih =>
      intro hn
      have ih' := ih (by omega)
      have st : metF π (nI a) (n + 1) = if bt (nI a) n then metF π (nI a) n ||| π 12 n 0 else metF π (nI a) n := rfl
      rw [st, b_nI _ (by omega)]
      cases ht : a.testBit n with
      | false =>
        rw [if_neg (by decide), ih']
        constructor
        · rintro ⟨q, h1, h2⟩; exact ⟨q, by omega, h2⟩
        · rintro ⟨q, h1, h2, h3⟩
          refine ⟨q, ?_, h2, h3⟩
          by_cases e : q = n
          · subst e; rw [ht] at h2; cases h2
          · omega
      | true =>
        rw [if_pos rfl, b_or, Bool.or_eq_true, ih']
        constructor
        · rintro (⟨q, h1, h2⟩ | h)
          · exact ⟨q, by omega, h2⟩
          · exact ⟨n, Nat.lt_succ_self n, ht, h⟩
        · rintro ⟨q, h1, h2, h3⟩
          by_cases e : q = n
          · subst e; exact Or.inr h3
          · exact Or.inl ⟨q, by omega, h2, h3⟩
  exact key (nP π) h8
theorem or_mod {s x : Nat} : (s ||| 2 ^ (7 + x)) % 128 = s % 128 := Nat.eq_of_testBit_eq (fun i => by
  rw [tmod, tmod, t_or]
  by_cases e : i < 7
  · rw [decide_eq_false (show ¬ 7 + x = i by omega), Bool.or_false]
  · rw [decide_eq_false e, Bool.false_and, Bool.false_and])
theorem met_or {s q : Nat} (hF : WF π) (hq : q < nP π) (h : ∀ b, b < 32 → bt (π 12 q 0) b = true → bt (metS π (nI (s / 128))) b = true) : metS π (nI ((s ||| 2 ^ (7 + q)) / 128)) = metS π (nI (s / 128)) := b_ext fun b hb => by
  rw [Bool.eq_iff_iff, bt_met hF, bt_met hF]
  constructor
  · rintro ⟨r, h1, h2, h3⟩
    rw [tdiv, t_or, Bool.or_eq_true, decide_eq_true_eq] at h2
    rcases h2 with h2 | h2
    · exact ⟨r, h1, by rw [tdiv]; exact h2, h3⟩
    · have : r = q := by omega
      subst this
      exact (bt_met hF).mp (h b hb h3)
  · rintro ⟨r, h1, h2, h3⟩
    rw [tdiv] at h2
    exact ⟨r, h1, by rw [tdiv, t_or, h2]; rfl, h3⟩
/-- a page that has nothing new brings no one nearer -/
theorem sim {q : Nat} (hF : WF π) (hp : p < nP π) (hq : q < nP π) (hqp : q ≠ p) : ∀ n s, dst π p u (s ||| 2 ^ (7 + q)) = n → s < 128 * 2 ^ nP π → s.testBit (7 + q) = false → (∀ b, b < 32 → bt (π 12 q 0) b = true → bt (metS π (nI (s / 128))) b = true) → dst π p u s ≤ n := by
  have h8 := hF.1.2.2.2.2
  have h7 := hF.1.2.2.1.2
  have h256 : 2 ^ nP π ≤ 2 ^ 8 := Nat.pow_le_pow_right (by decide) h8
  intro n
  induction n with
  | zero =>
    intro s h hs hb hm
    have ht : s ||| 2 ^ (7 + q) < 128 * 2 ^ nP π := by rw [st_bnd] at hs ⊢; exact next_lt hs rfl (by omega)
    rw [dst_zero hF hp ht, t_or, decide_eq_false (by omega), Bool.or_false] at h
    rw [(dst_zero hF hp hs).mpr h]
    exact Nat.le_refl _
  | succ n ih =>
    intro s h hs hb hm
    have ht : s ||| 2 ^ (7 + q) < 128 * 2 ^ nP π := by rw [st_bnd] at hs ⊢; exact next_lt hs rfl (by omega)
    rcases Nat.lt_or_ge (n + 1) 1000 with hn | hn
    · obtain ⟨hl, i, t', -, hi, hst, hd⟩ := step_ex (p := p) (u := u) hF ht (by omega) (by omega)
      obtain ⟨b1, b2, b3⟩ := stX_bit hF hi hst
      rw [or_mod] at hl
      rw [t_or, Bool.or_eq_false_iff, decide_eq_false_iff_not] at b1
      have hst' : stX π u s i = some (s ||| 2 ^ bxX π i) := by
        unfold stX at hst ⊢
        unfold bxX
        split
        · rename_i q1
          rw [if_pos q1] at hst
          unfold stL at hst ⊢
          rw [or_mod] at hst
          split at hst
          · cases hst
          · rename_i g1
            rw [if_neg g1]
            split at hst
            · rename_i g2
              rw [if_pos g2]
            · cases hst
        · rename_i q1
          rw [if_neg q1] at hst
          unfold bxX at b1
          rw [if_neg q1] at b1
          unfold stP at hst ⊢
          rw [or_mod, met_or hF hq hm] at hst
          rw [bit_p (by omega), b1.1, if_neg (by decide)]
          split at hst
          · cases hst
          · split at hst
            · rename_i g2
              rw [if_pos g2]
              rw [show 128 * 2 ^ (i - nL π) = 2 ^ (7 + (i - nL π)) by rw [Nat.pow_add]]
            · cases hst
      have e : t' = (s ||| 2 ^ bxX π i) ||| 2 ^ (7 + q) := by
        rw [b2, Nat.or_assoc, Nat.or_comm (2 ^ (7 + q)), ← Nat.or_assoc]
      have hs' := stX_spec hF hi hst' hs
      have hd' := ih (s ||| 2 ^ bxX π i) (by rw [← e]; omega) hs' (by rw [t_or, hb, decide_eq_false (by omega)]; rfl) (fun b hb' h1 => by
        have h2 := hm b hb' h1
        rw [bt_met hF] at h2 ⊢
        obtain ⟨r, r1, r2, r3⟩ := h2
        rw [tdiv] at r2
        exact ⟨r, r1, by rw [tdiv, t_or, r2]; rfl, r3⟩)
      have := dst_tri (p := p) hF hs hl hi hst'
      omega
    · have := dst_le (p := p) (u := u) hF (show s < 32768 by omega)
      omega
/-- the steps that are tried -/
def prX (π : PV) (p u s i t : Nat) : Prop := stX π u s i = some t ∧ (nL π ≤ i → i - nL π ≠ p ∧ ¬ (π 12 (i - nL π) 0 &&& (metS π (nI (s / 128)) ^^^ (-1))) = 0)
theorem ok_prn {s i : Nat} (hF : WF π) (hp : p < nP π) (hs : s < 128 * 2 ^ nP π) (h2 : 2 ≤ dst π p u s) (hi : i < nL π + nP π) (hok : okX π p u s i = true) : ∃ t, prX π p u s i t ∧ dst π p u t + 1 = dst π p u s := by
  have h8 := hF.1.2.2.2.2
  unfold okX at hok
  cases hst : stX π u s i with
  | none => rw [hst] at hok; cases hok
  | some t =>
    rw [hst] at hok
    have hd : dst π p u t + 1 = dst π p u s := by simpa using hok
    have ht := stX_spec hF hi hst hs
    obtain ⟨b1, b2, b3⟩ := stX_bit hF hi hst
    refine ⟨t, ⟨hst, fun q => ⟨fun e => ?_, fun e => ?_⟩⟩, hd⟩
    · have hb : bxX π i = 7 + p := by unfold bxX; rw [if_neg (by omega), e]
      have : dst π p u t = 0 := by rw [dst_zero hF hp ht, b2, t_or, hb]; simp
      omega
    · have hb : bxX π i = 7 + (i - nL π) := by unfold bxX; rw [if_neg (by omega)]
      by_cases e2 : i - nL π = p
      · have : dst π p u t = 0 := by rw [dst_zero hF hp ht, b2, t_or, hb, e2]; simp
        omega
      · rw [hb] at b1 b2
        have := sim (u := u) hF hp (show i - nL π < nP π by omega) e2 (dst π p u t) s (by rw [← b2]) hs b1 (fun b hb' h1 => by
          have h3 : bt (π 12 (i - nL π) 0 &&& (metS π (nI (s / 128)) ^^^ (-1))) b = false := by rw [e, b_0]
          rw [b_and, h1, Bool.true_and, b_not _ hb'] at h3
          simpa using h3)
        omega
def gsI (π : PV) (p u s : Nat) : Nat := (fstB (okX π p u s) (nL π + nP π)).getD 0
/-- the states of the course -/
def gs (π : PV) (p u : Nat) : Nat → Nat
  | 0 => 0
  | k + 1 => (stX π u (gs π p u k) (gsI π p u (gs π p u k))).getD 0
theorem gs_ok (hF : WF π) (hD : dst π p u 0 < 1000) : ∀ k, k ≤ dst π p u 0 → gs π p u k < 128 * 2 ^ nP π ∧ dst π p u (gs π p u k) + k = dst π p u 0 ∧ pc (gs π p u k) = k ∧ (k < dst π p u 0 → (gs π p u k) % 128 < 2 ^ nL π ∧ fstB (okX π p u (gs π p u k)) (nL π + nP π) = some (gsI π p u (gs π p u k)) ∧ gsI π p u (gs π p u k) < nL π + nP π ∧ stX π u (gs π p u k) (gsI π p u (gs π p u k)) = some (gs π p u (k + 1))) := by
  have fin : ∀ k, gs π p u k < 128 * 2 ^ nP π → dst π p u (gs π p u k) + k = dst π p u 0 → k < dst π p u 0 → (gs π p u k) % 128 < 2 ^ nL π ∧ fstB (okX π p u (gs π p u k)) (nL π + nP π) = some (gsI π p u (gs π p u k)) ∧ gsI π p u (gs π p u k) < nL π + nP π ∧ stX π u (gs π p u k) (gsI π p u (gs π p u k)) = some (gs π p u (k + 1)) ∧ dst π p u (gs π p u (k + 1)) + 1 = dst π p u (gs π p u k) := by
    intro k h1 h2 h3
    obtain ⟨hl, i, t, hf, hi, hst, hd⟩ := step_ex (p := p) (u := u) hF h1 (by omega) (by omega)
    have e : gsI π p u (gs π p u k) = i := by unfold gsI; rw [hf]; rfl
    have e2 : gs π p u (k + 1) = t := by
      show (stX π u (gs π p u k) (gsI π p u (gs π p u k))).getD 0 = t
      rw [e, hst]; rfl
    rw [e2, e]
    exact ⟨hl, hf, hi, hst, hd⟩
  intro k
  induction k with
  | zero =>
    intro _
    have h0 : gs π p u 0 < 128 * 2 ^ nP π := Nat.mul_pos (by decide) (Nat.pow_pos (by decide))
    refine ⟨h0, rfl, pc_0, fun q => ?_⟩
    obtain ⟨a, b, c, e, -⟩ := fin 0 h0 rfl q
    exact ⟨a, b, c, e⟩
  | succ k ih =>
    intro hk
    obtain ⟨h1, h2, h3, -⟩ := ih (by omega)
    obtain ⟨a, b, c, e, g⟩ := fin k h1 h2 (by omega)
    obtain ⟨b1, b2, b3⟩ := stX_bit hF c e
    have hs := stX_spec hF c e h1
    have hd : dst π p u (gs π p u (k + 1)) + (k + 1) = dst π p u 0 := by omega
    refine ⟨hs, hd, by rw [b2, pc_or (by omega) b1, h3], fun q => ?_⟩
    obtain ⟨a, b, c, e, -⟩ := fin (k + 1) hs hd q
    exact ⟨a, b, c, e⟩
theorem crs_at (hF : WF π) (hD : dst π p u 0 < 1000) : ∀ n k, k + n = dst π p u 0 → ∀ j, j < n → (crsL π p u n (gs π p u k)).getD j 0 = nI (nmb π (gsI π p u (gs π p u (k + j)))) := by
  intro n
  induction n with
  | zero => intro k _ j hj; omega
  | succ n ih =>
    intro k hk j hj
    obtain ⟨-, -, -, h⟩ := gs_ok hF hD k (by omega)
    obtain ⟨-, hf, -, hst⟩ := h (by omega)
    have e : crsL π p u (n + 1) (gs π p u k) = nI (nmb π (gsI π p u (gs π p u k))) :: crsL π p u n (gs π p u (k + 1)) := by
      show (match fstB (okX π p u (gs π p u k)) (nL π + nP π) with | none => [] | some i => _) = _
      rw [hf]
      dsimp only
      rw [hst]
    rw [e]
    cases j with
    | zero => rfl
    | succ j =>
      have := ih (k + 1) (by omega) j (by omega)
      rw [show k + (j + 1) = k + 1 + j by omega, ← this]
      rfl
/-- the page can be read -/
theorem goal_dst {s t : Nat} (hF : WF π) (hp : p < nP π) (hs : s < 128 * 2 ^ nP π) (hl : s % 128 < 2 ^ nL π) (h : stP π u s p = some t) : dst π p u s ≤ 1 := by
  have hst : stX π u s (nL π + p) = some t := by unfold stX; rw [if_neg (by omega), Nat.add_sub_cancel_left]; exact h
  have h1 := dst_tri (p := p) hF hs hl (by omega) hst
  have ht := stX_spec hF (by omega) hst hs
  have hb : bxX π (nL π + p) = 7 + p := by unfold bxX; rw [if_neg (by omega), Nat.add_sub_cancel_left]
  have h2 : dst π p u t = 0 := by rw [dst_zero hF hp ht, (stX_bit hF (by omega) hst).2.1, t_or, hb]; simp
  omega
theorem dst1_goal {s : Nat} (hF : WF π) (hp : p < nP π) (hs : s < 128 * 2 ^ nP π) (h : dst π p u s = 1) : ∃ t, stP π u s p = some t := by
  have h7 := hF.1.2.2.1.2
  obtain ⟨hl, i, t, -, hi, hst, hd⟩ := step_ex (p := p) (u := u) hF hs (by omega) (by omega)
  obtain ⟨b1, b2, b3⟩ := stX_bit hF hi hst
  have ht := stX_spec hF hi hst hs
  have h0 : dst π p u t = 0 := by omega
  have hns : s.testBit (7 + p) = false := by
    cases hb : s.testBit (7 + p) with
    | false => rfl
    | true => rw [(dst_zero hF hp hs).mpr hb] at h; omega
  rw [dst_zero hF hp ht, b2, t_or, hns, Bool.false_or, decide_eq_true_eq] at h0
  unfold bxX at h0
  have hi2 : ¬ i < nL π := by
    intro q
    rw [if_pos q] at h0
    omega
  rw [if_neg hi2] at h0
  unfold stX at hst
  rw [if_neg hi2, show i - nL π = p by omega] at hst
  exact ⟨t, hst⟩
end CRS
