/-! the reference: the shortest course to a page. A state: 128 * pages + lessons -/
def metF (π : PV) (pages : Int32) : Nat → Int32
  | 0 => 0
  | p + 1 => if bt pages p then metF π pages p ||| π 12 p 0 else metF π pages p
def metS (π : PV) (pages : Int32) : Int32 := metF π pages (nP π)
/-- where a lesson, a page leads to -/
def stL (π : PV) (s x : Nat) : Option Nat := if bt (nI (s % 128)) x then none else if π 9 x 0 &&& (nI (s % 128) ^^^ (-1)) == 0 then some (s ||| 2 ^ x) else none
def stP (π : PV) (u s p : Nat) : Option Nat := if bt (nI (s / 128)) p then none else if decide (cntB (π 12 p 0 &&& (readS π (nI (s % 128)) ^^^ (-1)) &&& (metS π (nI (s / 128)) ^^^ (-1))) 24 ≤ u) then some (s ||| (128 * 2 ^ p)) else none
def stI (r : Option Nat) : Int32 := match r with
  | none => -1
  | some t => nI t
def minF (g : Nat → Option Nat) (acc : Nat) : Nat → Nat
  | 0 => acc
  | n + 1 => match g n with
    | none => minF g acc n
    | some a => if minF g acc n ≤ a + 1 then minF g acc n else a + 1
/-- how many steps are to go; 1000: there is no course -/
def dstN (π : PV) (p u : Nat) : Nat → Nat → Nat
  | 0, _ => 1000
  | f + 1, s => if bt (nI (s / 128)) p then 0 else if s % 128 < 2 ^ nL π then minF (fun x => (stP π u s x).map (dstN π p u f)) (minF (fun x => (stL π s x).map (dstN π p u f)) 1000 (nL π)) (nP π) else 1000
def dst (π : PV) (p u s : Nat) : Nat := dstN π p u (32768 - s) s
theorem or_gt {s x : Nat} (h : s.testBit x = false) : s < s ||| 2 ^ x := by
  have h1 : s ≤ s ||| 2 ^ x := Nat.left_le_or
  rcases Nat.lt_or_ge s (s ||| 2 ^ x) with e | e
  · exact e
  · exfalso
    have e2 : s ||| 2 ^ x = s := Nat.le_antisymm e h1
    have : (s ||| 2 ^ x).testBit x = true := by rw [Nat.testBit_or, Nat.testBit_two_pow_self, Bool.or_true]
    rw [e2, h] at this
    cases this
theorem stL_spec {π : PV} {s x t : Nat} (h : stL π s x = some t) (hx : x < 7) : s < t ∧ t = s ||| 2 ^ x := by
  unfold stL at h
  split at h
  · cases h
  · rename_i hb
    split at h
    · cases h
      refine ⟨or_gt ?_, rfl⟩
      rw [b_nI _ (by omega)] at hb
      have h128 : (128 : Nat) = 2 ^ 7 := by decide
      rw [h128, Nat.testBit_mod_two_pow] at hb
      simpa [hx] using hb
    · cases h
theorem stP_spec {π : PV} {u s p t : Nat} (h : stP π u s p = some t) (hp : p < 8) : s < t ∧ t = s ||| 2 ^ (7 + p) := by
  have h128 : (128 : Nat) = 2 ^ 7 := by decide
  unfold stP at h
  split at h
  · cases h
  · rename_i hb
    split at h
    · cases h
      rw [b_nI _ (by omega), h128, Nat.testBit_div_two_pow] at hb
      have e : 128 * 2 ^ p = 2 ^ (7 + p) := by rw [h128, ← Nat.pow_add]
      rw [e]
      exact ⟨or_gt (by rw [Nat.add_comm] at hb; simpa using hb), rfl⟩
    · cases h
theorem minF_cong {g h : Nat → Option Nat} {acc : Nat} : ∀ {n : Nat}, (∀ k, k < n → g k = h k) → minF g acc n = minF h acc n
  | 0, _ => rfl
  | n + 1, e => by
    show (match g n with | none => minF g acc n | some a => _) = (match h n with | none => minF h acc n | some a => _)
    rw [minF_cong (fun k hk => e k (by omega)), e n (Nat.lt_succ_self n)]
theorem minF_le {g : Nat → Option Nat} {acc : Nat} : ∀ n, minF g acc n ≤ acc
  | 0 => Nat.le_refl _
  | n + 1 => by
    have := minF_le (g := g) (acc := acc) n
    show (match g n with | none => minF g acc n | some a => if minF g acc n ≤ a + 1 then minF g acc n else a + 1) ≤ acc
    cases g n with
    | none => exact this
    | some a =>
      dsimp only
      by_cases e : minF g acc n ≤ a + 1
      · rw [if_pos e]; exact this
      · rw [if_neg e]; omega
theorem next_lt {s t x k : Nat} (hs : s < 2 ^ k) (ht : t = s ||| 2 ^ x) (hx : x < k) : t < 2 ^ k := by
  rw [ht]
  exact Nat.or_lt_two_pow hs (Nat.pow_lt_pow_right (by decide) hx)
theorem dstN_1 {π : PV} {p u : Nat} (hF : WF π) : ∀ f s, s < 32768 → 32768 ≤ s + f → dstN π p u f s = dstN π p u (f + 1) s
  | 0, s, h, h2 => by omega
  | f + 1, s, h, h2 => by
    have hF' := hF
    obtain ⟨⟨-, -, ⟨-, h7⟩, -, h8⟩, -⟩ := hF
    show (if bt (nI (s / 128)) p then 0 else if s % 128 < 2 ^ nL π then minF _ (minF _ 1000 (nL π)) (nP π) else 1000) = (if bt (nI (s / 128)) p then 0 else if s % 128 < 2 ^ nL π then minF _ (minF _ 1000 (nL π)) (nP π) else 1000)
    have e1 : ∀ x, x < nL π → (stL π s x).map (dstN π p u f) = (stL π s x).map (dstN π p u (f + 1)) := by
      intro x hx
      cases hq : stL π s x with
      | none => rfl
      | some t =>
        obtain ⟨a, b⟩ := stL_spec hq (by omega)
        exact congrArg some (dstN_1 hF' f t (next_lt (k := 15) h b (by omega)) (by omega))
    have e2 : ∀ x, x < nP π → (stP π u s x).map (dstN π p u f) = (stP π u s x).map (dstN π p u (f + 1)) := by
      intro x hx
      cases hq : stP π u s x with
      | none => rfl
      | some t =>
        obtain ⟨a, b⟩ := stP_spec hq (by omega)
        exact congrArg some (dstN_1 hF' f t (next_lt (k := 15) h b (by omega)) (by omega))
    rw [minF_cong e1, minF_cong e2]
theorem dstN_st {π : PV} {p u : Nat} (hF : WF π) {f s : Nat} (hs : s < 32768) (h : 32768 ≤ s + f) : dstN π p u f s = dst π p u s := by
  have key : ∀ n, dstN π p u (32768 - s + n) s = dst π p u s := by
    intro n
    induction n with
    | zero => rfl
    | succ n ih =>
      rw [← ih]
      exact (dstN_1 hF (32768 - s + n) s hs (by omega)).symm
  have := key (f - (32768 - s))
  rw [show 32768 - s + (f - (32768 - s)) = f by omega] at this
  exact this
def gL (π : PV) (p u s x : Nat) : Option Nat := (stL π s x).map (dst π p u)
def gP (π : PV) (p u s x : Nat) : Option Nat := (stP π u s x).map (dst π p u)
theorem dst_step {π : PV} {p u s : Nat} (hF : WF π) (hs : s < 32768) : dst π p u s = if bt (nI (s / 128)) p then 0 else if s % 128 < 2 ^ nL π then minF (gP π p u s) (minF (gL π p u s) 1000 (nL π)) (nP π) else 1000 := by
  have hF' := hF
  obtain ⟨⟨-, -, ⟨-, h7⟩, -, h8⟩, -⟩ := hF
  unfold dst
  rw [show 32768 - s = (32767 - s) + 1 by omega]
  show (if bt (nI (s / 128)) p then 0 else if s % 128 < 2 ^ nL π then minF _ (minF _ 1000 (nL π)) (nP π) else 1000) = _
  have e1 : ∀ x, x < nL π → (stL π s x).map (dstN π p u (32767 - s)) = gL π p u s x := by
    intro x hx
    unfold gL
    cases hq : stL π s x with
    | none => rfl
    | some t =>
      obtain ⟨a, b⟩ := stL_spec hq (by omega)
      exact congrArg some (dstN_st hF' (next_lt (k := 15) hs b (by omega)) (by omega))
  have e2 : ∀ x, x < nP π → (stP π u s x).map (dstN π p u (32767 - s)) = gP π p u s x := by
    intro x hx
    unfold gP
    cases hq : stP π u s x with
    | none => rfl
    | some t =>
      obtain ⟨a, b⟩ := stP_spec hq (by omega)
      exact congrArg some (dstN_st hF' (next_lt (k := 15) hs b (by omega)) (by omega))
  rw [minF_cong e1, minF_cong e2]
theorem dst_le {π : PV} {p u s : Nat} (hF : WF π) (hs : s < 32768) : dst π p u s ≤ 1000 := by
  rw [dst_step hF hs]
  split
  · exact Nat.zero_le _
  · split
    · exact Nat.le_trans (minF_le _) (minF_le _)
    · exact Nat.le_refl _
theorem or_nI (a b : Nat) : nI a ||| nI b = nI (a ||| b) := b_ext fun i hi => by rw [b_or, b_nI _ hi, b_nI _ hi, b_nI _ hi, Nat.testBit_or]
theorem shl128 : ∀ p, p < 8 → (128 <<< (nI p &&& 31) : Int32) = nI (128 * 2 ^ p) := by decide +kernel
theorem sub100 : ∀ p, p < 8 → nI (100 + p) - 100 = nI p := by decide +kernel
theorem div128 {s : Nat} (h : s < 32768) : nI s / 128 = nI (s / 128) := pk_div (d := 128) (by omega) (by decide) (by decide)
theorem nI_subN {a b : Nat} (h : b ≤ a) : nI a - nI b = nI (a - b) := by
  have : nI a = nI (a - b) + nI b := by rw [nI_add, Nat.sub_add_cancel h]
  rw [this, Int32.add_sub_cancel]
theorem mod128 {s : Nat} (h : s < 32768) : nI s - nI s / 128 * 128 = nI (s % 128) := by
  rw [div128 h]
  have e : nI (s / 128) * 128 = nI (s / 128 * 128) := nI_mul _ 128
  rw [e, nI_subN (by omega)]
  congr 1
  omega
/-- the words read with each set of lessons are known -/
def RdM (π : PV) (σ : St) : Prop := ∀ a, a < 2 ^ nL π → gI σ 418 a = readS π (nI a)
section MCO
variable {Γ : Gx} {d : Nat} {w : Wd} {π : PV}
theorem lp_met {Q : Int32 → St → Prop} {σ : St} {x : Int32} (hw : RunW w) (hV : MV σ = π) (hF : WF π) (hQ : Q (metS π x) σ) :
    ∀ n p, p + n = nP π → AI Γ (d + 1) mX12_met w Q 4 [(0, .ref 390), (1, .int x), (2, .int (metF π x p)), (3, .int (nI p))] σ := by
  obtain ⟨⟨-, -, -, n4, h8⟩, -⟩ := hF
  have e0 : gI σ 390 12 = nI (nP π) := by rw [(mv_n hV).2.2.2, n4]
  intro n
  induction n with
  | zero =>
    intro p hp
    refine vX12_met_4 hw ⟨fun _ => ?_, fun q => absurd (by rw [e0]; exact nI_le (by omega) (by omega)) q⟩
    have : p = nP π := hp
    rw [this]
    exact hQ
  | succ n ih =>
    intro p hp
    have nx := ih (p + 1) (by omega)
    have st : metF π x (p + 1) = if bt x p then metF π x p ||| π 12 p 0 else metF π x p := rfl
    rw [st] at nx
    refine vX12_met_4 hw ⟨fun q => absurd q (by rw [e0]; exact nI_ge (by omega) (by omega)), fun _ => c_has (by omega) ?_⟩
    rw [b2i_n0, b2i_0, b_or0, nI_1, cl (by omega), mv12 hV]
    refine ⟨fun q => ?_, fun q => ⟨vin (by omega), ?_⟩⟩
    · rw [q] at nx
      exact nx
    · rw [q] at nx
      exact nx
theorem c_met {Q : Int32 → St → Prop} {σ : St} {x : Int32} (hw : RunW w) (hV : MV σ = π) (hF : WF π) (hQ : Q (metS π x) σ) : SpI Γ (d + 1) mX12_met [.ref 390, .int x] σ w Q :=
  SpI.of pnX12 (Nat.le_of_ble_eq_true rfl) (vX12_met_0 (lp_met hw hV hF hQ (nP π) 0 (Nat.zero_add _)))
theorem c_stepL {Q : Int32 → St → Prop} {σ : St} {s x : Nat} {u : Int32} (hw : RunW w) (hV : MV σ = π) (hF : WF π) (hs : s < 32768) (hx : x < nL π) (hQ : Q (stI (stL π s x)) σ) : SpI Γ (d + 2) mX12_stepTo [.ref 390, .int (nI s), .int (nI x), .int u] σ w Q := by
  obtain ⟨⟨-, -, ⟨-, h7⟩, -⟩, -⟩ := hF
  have i3 : (3 : Int32) * nI x = nI (3 * x) := nI_mul 3 x
  have e9 : gI σ 399 ((3 : Int32) * nI x).toNatClampNeg = π 9 x 0 := by rw [i3, cl (by omega)]; exact mv9 hV x 0
  refine SpI.of pnX12 (Nat.le_of_ble_eq_true rfl) (vX12_stepTo_0 hw ?_)
  rw [mod128 hs]
  refine ⟨fun q => absurd q (nI_ge (a := x) (b := 100) (by omega) (by decide)), fun _ => c_has (by omega) ?_⟩
  rw [b2i_n0, b2i_0, e9, shl_pw _ (by omega), or_nI]
  unfold stL at hQ
  refine ⟨fun q => ?_, fun q => ⟨by rw [i3]; exact vin (by omega), fun q2 => ?_, fun q2 => ?_⟩⟩
  · rw [q] at hQ
    exact hQ
  · have : (π 9 x 0 &&& (nI (s % 128) ^^^ (-1)) == 0) = false := by rw [beq_eq_false_iff_ne]; exact q2
    rw [q, this] at hQ
    exact hQ
  · have : (π 9 x 0 &&& (nI (s % 128) ^^^ (-1)) == 0) = true := by rw [beq_iff_eq]; exact q2
    rw [q, this] at hQ
    exact hQ
theorem c_stepP {Q : Int32 → St → Prop} {σ : St} {s p u : Nat} (hw : RunW w) (hV : MV σ = π) (hF : WF π) (hs : s < 32768) (hl : s % 128 < 2 ^ nL π) (hp : p < nP π) (hu : u < 17) (hR : RdM π σ) (hQ : Q (stI (stP π u s p)) σ) : SpI Γ (d + 2) mX12_stepTo [.ref 390, .int (nI s), .int (nI (100 + p)), .int (nI u)] σ w Q := by
  have hF' := hF
  obtain ⟨⟨-, -, -, -, h8⟩, -⟩ := hF
  refine SpI.of pnX12 (Nat.le_of_ble_eq_true rfl) (vX12_stepTo_0 hw ?_)
  rw [mod128 hs, div128 hs, sub100 p (by omega)]
  refine ⟨fun _ => c_has (by omega) ?_, fun q => absurd (nI_le (a := 100) (b := 100 + p) (by omega) (by omega)) q⟩
  rw [b2i_n0, b2i_0]
  unfold stP at hQ
  refine ⟨fun q => ?_, fun q => ⟨vin (by omega), vin (by omega), c_met hw hV hF' (c_bits ?_)⟩⟩
  · rw [q] at hQ
    exact hQ
  · rw [cl (by omega), cl (by omega), mv12 hV, hR _ hl, shl128 p (by omega), or_nI]
    have hc := cntB_le (π 12 p 0 &&& (readS π (nI (s % 128)) ^^^ (-1)) &&& (metS π (nI (s / 128)) ^^^ (-1))) 24
    rw [nI_ltI (by omega) (by omega)]
    refine ⟨fun q2 => ?_, fun q2 => ?_⟩
    · have : decide (cntB (π 12 p 0 &&& (readS π (nI (s % 128)) ^^^ (-1)) &&& (metS π (nI (s / 128)) ^^^ (-1))) 24 ≤ u) = false := by rw [decide_eq_false_iff_not]; omega
      rw [q, this] at hQ
      exact hQ
    · have : decide (cntB (π 12 p 0 &&& (readS π (nI (s % 128)) ^^^ (-1)) &&& (metS π (nI (s / 128)) ^^^ (-1))) 24 ≤ u) = true := by rw [decide_eq_true_eq]; omega
      rw [q, this] at hQ
      exact hQ
end MCO
