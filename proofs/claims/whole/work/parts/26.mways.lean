/-! the reference: in how many ways a word can be cut -/
/-- where a sign leads to: letter and sound behind it -/
def ldS (π : PV) (v : Nat) (set : Int32) (i j k : Nat) : Option (Nat × Nat) := if bt set k && fitS π k v i then (if π 3 k 0 < 0 then some (i + sS π k, j) else if decide (j < wN π v) && (π 8 v j == π 3 k 0) then some (i + sS π k, j + 1) else none) else none
def ldI (r : Option (Nat × Nat)) : Int32 := match r with
  | none => -1
  | some q => nI (9 * q.1 + q.2)
theorem ldS_spec {π : PV} {v : Nat} {set : Int32} {i j k : Nat} {q : Nat × Nat} (h : ldS π v set i j k = some q) (hj : j ≤ wN π v) : bt set k = true ∧ q.1 = i + sS π k ∧ q.1 ≤ wS π v ∧ j ≤ q.2 ∧ q.2 ≤ wN π v := by
  unfold ldS at h
  split at h
  · rename_i hc
    rw [Bool.and_eq_true] at hc
    have hle := fitS_le hc.2
    split at h
    · cases h
      exact ⟨hc.1, rfl, hle, Nat.le_refl _, hj⟩
    · split at h
      · rename_i hs
        rw [Bool.and_eq_true, decide_eq_true_eq] at hs
        cases h
        exact ⟨hc.1, rfl, hle, Nat.le_succ _, hs.1⟩
      · cases h
  · cases h
def sumN (g : Nat → Nat) : Nat → Nat
  | 0 => 0
  | n + 1 => sumN g n + g n
theorem sumN_cong {g h : Nat → Nat} : ∀ {n : Nat}, (∀ k, k < n → g k = h k) → sumN g n = sumN h n
  | 0, _ => rfl
  | n + 1, e => by
    show sumN g n + g n = sumN h n + h n
    rw [sumN_cong (fun k hk => e k (by omega)), e n (Nat.lt_succ_self n)]
theorem sumN_le {g : Nat → Nat} {c : Nat} : ∀ {n : Nat}, (∀ k, k < n → g k ≤ c) → sumN g n ≤ n * c
  | 0, _ => Nat.zero_le _
  | n + 1, e => by
    have h1 := sumN_le (n := n) (fun k hk => e k (by omega))
    have h2 := e n (Nat.lt_succ_self n)
    show sumN g n + g n ≤ (n + 1) * c
    rw [Nat.succ_mul]
    omega
theorem sumN_0 {g : Nat → Nat} : ∀ {n : Nat}, sumN g n = 0 ↔ ∀ k, k < n → g k = 0
  | 0 => ⟨fun _ k hk => absurd hk (Nat.not_lt_zero k), fun _ => rfl⟩
  | n + 1 => by
    show sumN g n + g n = 0 ↔ _
    rw [Nat.add_eq_zero_iff, sumN_0 (n := n)]
    constructor
    · rintro ⟨h1, h2⟩ k hk
      by_cases e : k = n
      · subst e; exact h2
      · exact h1 k (by omega)
    · intro h
      exact ⟨fun k hk => h k (by omega), h n (by omega)⟩
def wyN (π : PV) (v : Nat) (set : Int32) : Nat → Nat → Nat → Nat
  | 0, _, _ => 0
  | f + 1, i, j => if i < wS π v then sumN (fun k => match ldS π v set i j k with
      | none => 0
      | some q => wyN π v set f q.1 q.2) (nS π) else if i = wS π v ∧ j = wN π v then 1 else 0
/-- the ways to cut what is left from letter i, sound j on -/
def wy (π : PV) (v : Nat) (set : Int32) (i j : Nat) : Nat := wyN π v set (wS π v + 1 - i) i j
theorem wyN_1 {π : PV} {v : Nat} {set : Int32} (hs : WFs π) : ∀ f i j, wS π v < i + f → j ≤ wN π v → wyN π v set f i j = wyN π v set (f + 1) i j
  | 0, i, j, h, _ => by
    show 0 = (if i < wS π v then _ else _)
    rw [if_neg (by omega), if_neg (by omega)]
  | f + 1, i, j, h, hj => by
    show (if i < wS π v then _ else _) = (if i < wS π v then _ else _)
    by_cases e : i < wS π v
    · rw [if_pos e, if_pos e]
      apply sumN_cong
      intro k hk
      cases hq : ldS π v set i j k with
      | none => rfl
      | some q =>
        obtain ⟨-, h1, -, -, h2⟩ := ldS_spec hq hj
        have := (hs k hk).2.1
        exact wyN_1 hs f q.1 q.2 (by omega) h2
    · rw [if_neg e, if_neg e]
theorem wyN_st {π : PV} {v : Nat} {set : Int32} (hs : WFs π) {f i j : Nat} (h : wS π v < i + f) (hj : j ≤ wN π v) : wyN π v set f i j = wy π v set i j := by
  have key : ∀ n, wyN π v set (wS π v + 1 - i + n) i j = wy π v set i j := by
    intro n
    induction n with
    | zero => rfl
    | succ n ih =>
      rw [← ih]
      exact (wyN_1 hs (wS π v + 1 - i + n) i j (by omega) hj).symm
  have := key (f - (wS π v + 1 - i))
  rw [show wS π v + 1 - i + (f - (wS π v + 1 - i)) = f by omega] at this
  exact this
theorem wy_step {π : PV} {v : Nat} {set : Int32} (hs : WFs π) {i j : Nat} (hi : i < wS π v) (hj : j ≤ wN π v) : wy π v set i j = sumN (fun k => match ldS π v set i j k with
      | none => 0
      | some q => wy π v set q.1 q.2) (nS π) := by
  unfold wy
  rw [show wS π v + 1 - i = (wS π v - i) + 1 by omega]
  show (if i < wS π v then _ else _) = _
  rw [if_pos hi]
  apply sumN_cong
  intro k hk
  cases hq : ldS π v set i j k with
  | none => rfl
  | some q =>
    obtain ⟨-, h1, -, -, h2⟩ := ldS_spec hq hj
    have := (hs k hk).2.1
    exact wyN_st hs (by omega) h2
theorem wy_end {π : PV} {v : Nat} {set : Int32} {j : Nat} : wy π v set (wS π v) j = if j = wN π v then 1 else 0 := by
  unfold wy
  rw [show wS π v + 1 - wS π v = 0 + 1 by omega]
  show (if wS π v < wS π v then _ else if wS π v = wS π v ∧ j = wN π v then 1 else 0) = _
  rw [if_neg (by omega)]
  simp
theorem wy_le {π : PV} {v : Nat} {set : Int32} (hs : WFs π) (h20 : nS π ≤ 20) : ∀ n i j, i + n = wS π v → j ≤ wN π v → wy π v set i j ≤ 20 ^ n := by
  intro n
  induction n using Nat.strongRecOn with
  | _ n ih =>
    intro i j hn hj
    cases n with
    | zero =>
      have : i = wS π v := hn
      subst this
      rw [wy_end]
      split <;> decide
    | succ n =>
      rw [wy_step hs (by omega) hj]
      have h1 : sumN (fun k => match ldS π v set i j k with
          | none => 0
          | some q => wy π v set q.1 q.2) (nS π) ≤ nS π * 20 ^ n := by
        apply sumN_le
        intro k hk
        cases hq : ldS π v set i j k with
        | none => exact Nat.zero_le _
        | some q =>
          obtain ⟨-, g1, g2, -, g3⟩ := ldS_spec hq hj
          have := (hs k hk).2.1
          have h2 := ih (wS π v - q.1) (by omega) q.1 q.2 (by omega) g3
          exact Nat.le_trans h2 (Nat.pow_le_pow_right (by decide) (by omega))
      refine Nat.le_trans h1 ?_
      rw [Nat.pow_succ, Nat.mul_comm (20 ^ n) 20]
      exact Nat.mul_le_mul_right _ h20
theorem wy_lt {π : PV} {v : Nat} {set : Int32} (hF : WF π) (hv : v < nW π) {i j : Nat} (hi : i ≤ wS π v) (hj : j ≤ wN π v) : wy π v set i j < 2 ^ 63 := by
  obtain ⟨⟨⟨-, h20⟩, -⟩, hs, hwd, -⟩ := hF
  obtain ⟨-, -, w3, -⟩ := hwd v hv
  have h1 := wy_le (set := set) hs h20 (wS π v - i) i j (by omega) hj
  have h2 : 20 ^ (wS π v - i) ≤ 20 ^ 8 := Nat.pow_le_pow_right (by decide) (by omega)
  have h3 : 20 ^ 8 < 2 ^ 63 := by decide
  omega
/-- down-counting -/
def dn (n : Nat) : Int32 := nI n + (-1)
theorem dn_0 : dn 0 < 0 := by decide
theorem dn_s (n : Nat) : dn (n + 1) = nI n := pk_m1 n
/-- the table of the ways behind (i, j) -/
def OnsM (π : PV) (v : Nat) (set : Int32) (σ : St) (i j : Nat) : Prop := ∀ a b, a ≤ wS π v → b ≤ wN π v → (i < a ∨ (i = a ∧ j ≤ b)) → gJ σ 415 (9 * a + b) = lN (wy π v set a b)
def A_ways (π : PV) (v set : Int32) : Int64 := if inB v (nW π) && inB set (2 ^ nS π) then lN (wy π v.toNatClampNeg set 0 0) else -1001
section MWY
variable {Γ : Gx} {d : Nat} {w : Wd} {π : PV}
theorem c_leads {Q : Int32 → St → Prop} {σ : St} {k v i j : Nat} {set : Int32} (hw : RunW w) (hV : MV σ = π) (hF : WF π) (hk : k < nS π) (hv : v < nW π) (hi : i < 1000) (hj : j ≤ wN π v) (hQ : Q (ldI (ldS π v set i j k)) σ) : SpI Γ (d + 1) mX12_leads [.ref 390, .int (nI k), .int (nI v), .int (nI i), .int (nI j), .int set] σ w Q := by
  have hF' := hF
  obtain ⟨⟨⟨-, h20⟩, ⟨-, h24⟩, -⟩, hs, hwd, -⟩ := hF
  obtain ⟨s1, s2, s3, s4, -⟩ := hs k hk
  obtain ⟨w1, w2, w3, w4, w5, w6, -⟩ := hwd v hv
  have hk20 : vp_in (nI k) 20 := vin (by omega)
  have hv24 : vp_in (nI v) 24 := vin (by omega)
  refine SpI.of pnX12 (Nat.le_of_ble_eq_true rfl) (vX12_leads_0 hw (c_has (by omega) ?_))
  rw [b2i_n0, b2i_0]
  unfold ldS at hQ
  refine ⟨fun q => ?_, fun q => c_isFit hw hV hF' hk hv hi ?_⟩
  · rw [q] at hQ
    exact hQ
  · rw [q, Bool.true_and] at hQ
    rw [b2i_n0, b2i_0]
    refine ⟨fun q2 => ⟨hk20, ?_⟩, fun q2 => ?_⟩
    · rw [q2, if_pos rfl] at hQ
      have i8 : (8 : Int32) * nI v + nI j = nI (8 * v + j) := ixm 8 v j
      have e8 : gI σ 398 ((8 : Int32) * nI v + nI j).toNatClampNeg = π 8 v j := by rw [i8, cl (by omega), mv8 hV]
      have e9 : (9 : Int32) * (nI i + nI (sS π k)) + nI j = nI (9 * (i + sS π k) + j) := by
        rw [nI_add]
        exact ixm 9 _ j
      rw [e8, cl (by omega), cl (by omega), mv1 hV, mv3 hV, mv7 hV, s1, w4, e9, nI_leI (by omega) (by omega)]
      refine ⟨fun q3 => ⟨hv24, fun q4 => ?_, fun q4 => ⟨by rw [i8]; exact vin (by omega), hk20, fun q5 => ?_, fun q5 => ⟨hk20, ?_⟩⟩⟩, fun q3 => ⟨hk20, ?_⟩⟩
      · rw [if_neg (Int32.not_lt.mpr q3)] at hQ
        have : decide (j < wN π v) = false := by simp; omega
        rw [this] at hQ
        exact hQ
      · rw [if_neg (Int32.not_lt.mpr q3)] at hQ
        have : (π 8 v j == π 3 k 0) = false := by simpa using q5
        rw [this, Bool.and_false] at hQ
        exact hQ
      · rw [if_neg (Int32.not_lt.mpr q3)] at hQ
        have h1 : (π 8 v j == π 3 k 0) = true := by simpa using q5
        have h2 : decide (j < wN π v) = true := by simp; omega
        rw [h1, h2] at hQ
        rw [nI_1]
        exact hQ
      · rw [if_pos (Int32.not_le.mp q3)] at hQ
        exact hQ
    · rw [q2] at hQ
      exact hQ
theorem lp_ways55 {Q : Int64 → St → Prop} {σ : St} {v i j : Nat} {set : Int32} (hw : RunW w) (hV : MV σ = π) (hF : WF π) (hv : v < nW π) (hi : i < wS π v) (hj : j ≤ wN π v) (hO : OnsM π v set σ i (j + 1))
    (hX : AJ Γ (d + 2) mX12_findWays w Q 19 [(0, .ref 390), (1, .int (nI v)), (2, .int set), (3, .int (nI i)), (4, .int (dn j))] (uJ σ 415 (9 * i + j) (lN (wy π v set i j)))) :
    ∀ n k, k + n = nS π → AJ Γ (d + 2) mX12_findWays w Q 55 [(0, .ref 390), (1, .int (nI v)), (2, .int set), (3, .int (nI i)), (4, .int (nI j)), (5, .long (lN (sumN (fun k => match ldS π v set i j k with
      | none => 0
      | some q => wy π v set q.1 q.2) k))), (7, .int (nI k))] σ := by
  have hF' := hF
  obtain ⟨⟨⟨n1, h20⟩, ⟨-, h24⟩, -⟩, hs, hwd, -⟩ := hF
  obtain ⟨w1, w2, w3, w4, w5, w6, -⟩ := hwd v hv
  have e0 : gI σ 390 0 = nI (nS π) := by rw [(mv_n hV).1, n1]
  have hv24 : vp_in (nI v) 24 := vin (by omega)
  have ew : gI σ 395 (nI v).toNatClampNeg = nI (wS π v) := by rw [cl (by omega), mv5 hV, w1]
  have i9 : (9 : Int32) * nI i + nI j = nI (9 * i + j) := ixm 9 i j
  intro n
  induction n with
  | zero =>
    intro k hk
    refine vX12_findWays_55 hw ⟨fun _ => ⟨by rw [i9]; exact vin (by omega), ?_⟩, fun q => absurd (by rw [e0]; exact nI_le (by omega) (by omega)) q⟩
    have : k = nS π := hk
    subst this
    rw [i9, cl (by omega), ← wy_step hs hi hj]
    exact hX
  | succ n ih =>
    intro k hk
    have nx := ih (k + 1) (by omega)
    refine vX12_findWays_55 hw ⟨fun q => absurd q (by rw [e0]; exact nI_ge (by omega) (by omega)), fun _ => ⟨hv24, fun q => absurd q (by rw [ew]; exact nI_ge (by omega) (by omega)), fun _ => c_leads hw hV hF' (by omega) hv (by omega) hj ?_⟩⟩
    have st : sumN (fun k => match ldS π v set i j k with
      | none => 0
      | some q => wy π v set q.1 q.2) (k + 1) = sumN (fun k => match ldS π v set i j k with
      | none => 0
      | some q => wy π v set q.1 q.2) k + (match ldS π v set i j k with
      | none => 0
      | some q => wy π v set q.1 q.2) := rfl
    rw [st, ← lN_add] at nx
    rw [nI_1]
    cases hq : ldS π v set i j k with
    | none =>
      rw [hq] at nx
      exact ⟨fun q => absurd q (by decide), fun _ => nx⟩
    | some q =>
      rw [hq] at nx
      obtain ⟨-, g1, g2, -, g3⟩ := ldS_spec hq hj
      have := (hs k (by omega)).2.1
      refine ⟨fun _ => ?_, fun q2 => absurd (nI_pos' (by omega)) q2⟩
      show vp_in (nI (9 * q.1 + q.2)) 81 ∧ _
      refine ⟨vin (by omega), ?_⟩
      have eo : gJ σ 415 (ldI (some q)).toNatClampNeg = lN (wy π v set q.1 q.2) := by
        show gJ σ 415 (nI (9 * q.1 + q.2)).toNatClampNeg = _
        rw [cl (by omega)]
        exact hO q.1 q.2 g2 g3 (Or.inl (by omega))
      rw [eo]
      exact nx
theorem lp_ways19 {Q : Int64 → St → Prop} {σ0 : St} {v i : Nat} {set : Int32} (hw : RunW w) (hV0 : MV σ0 = π) (hF : WF π) (hv : v < nW π) (hi : i ≤ wS π v)
    (hX : ∀ σ, EqM σ0 σ → OnsM π v set σ i 0 → AJ Γ (d + 2) mX12_findWays w Q 7 [(0, .ref 390), (1, .int (nI v)), (2, .int set), (3, .int (dn i))] σ) :
    ∀ s σ, s ≤ wN π v + 1 → EqM σ0 σ → OnsM π v set σ i s → AJ Γ (d + 2) mX12_findWays w Q 19 [(0, .ref 390), (1, .int (nI v)), (2, .int set), (3, .int (nI i)), (4, .int (dn s))] σ := by
  have hF' := hF
  obtain ⟨⟨⟨n1, h20⟩, ⟨-, h24⟩, -⟩, hs, hwd, -⟩ := hF
  obtain ⟨w1, w2, w3, w4, w5, w6, -⟩ := hwd v hv
  have hv24 : vp_in (nI v) 24 := vin (by omega)
  intro s
  induction s with
  | zero =>
    intro σ _ hE hO
    exact vX12_findWays_19 hw ⟨fun _ => hX σ hE hO, fun q => absurd dn_0 q⟩
  | succ j ih =>
    intro σ hsj hE hO
    have hV := hE.mv.trans hV0
    have ew : gI σ 395 (nI v).toNatClampNeg = nI (wS π v) := by rw [cl (by omega), mv5 hV, w1]
    have en : gI σ 397 (nI v).toNatClampNeg = nI (wN π v) := by rw [cl (by omega), mv7 hV, w4]
    have i9 : (9 : Int32) * nI i + nI j = nI (9 * i + j) := ixm 9 i j
    have nx : AJ Γ (d + 2) mX12_findWays w Q 19 [(0, .ref 390), (1, .int (nI v)), (2, .int set), (3, .int (nI i)), (4, .int (dn j))] (uJ σ 415 (9 * i + j) (lN (wy π v set i j))) := by
      refine ih _ (by omega) (hE.tr EqM.uJ) ?_
      intro a b ha hb hab
      rw [gJ_uJ]
      by_cases e : a = i ∧ b = j
      · obtain ⟨rfl, rfl⟩ := e
        rw [if_pos ⟨rfl, rfl⟩]
      · rw [if_neg (by omega)]
        exact hO a b ha hb (by omega)
    rw [dn_s]
    refine vX12_findWays_19 hw ⟨fun q => absurd q (nI_pos (by omega)), fun _ => ⟨hv24, ?_⟩⟩
    rw [ew, en, nI_eq (by omega) (by omega), nI_eq (by omega) (by omega)]
    have fin : ∀ x : Int64, i = wS π v → x = lN (wy π v set i j) → AJ Γ (d + 2) mX12_findWays w Q 55 [(0, .ref 390), (1, .int (nI v)), (2, .int set), (3, .int (nI i)), (4, .int (nI j)), (5, .long x), (7, .int 0)] σ := by
      intro x hi2 hx
      refine vX12_findWays_55 hw ⟨fun _ => ⟨by rw [i9]; exact vin (by omega), ?_⟩, fun _ => ⟨hv24, fun _ => ⟨by rw [i9]; exact vin (by omega), ?_⟩, fun q => absurd (by rw [ew]; exact nI_le (by omega) (by omega)) q⟩⟩
      · rw [i9, cl (by omega), hx]
        exact nx
      · rw [i9, cl (by omega), hx]
        exact nx
    refine ⟨fun q => ?_, fun q => ⟨hv24, fun q2 => fin 0 q ?_, fun q2 => fin 1 q ?_⟩⟩
    · exact lp_ways55 hw hV hF' hv (by omega) (by omega) hO nx (nS π) 0 (Nat.zero_add _)
    · rw [q, wy_end, if_neg q2]
      rfl
    · rw [q, wy_end, if_pos q2]
      rfl
theorem lp_ways7 {Q : Int64 → St → Prop} {σ0 : St} {v : Nat} {set : Int32} (hw : RunW w) (hV0 : MV σ0 = π) (hF : WF π) (hv : v < nW π)
    (hQ : ∀ σ, EqM σ0 σ → OnsM π v set σ 0 0 → Q (lN (wy π v set 0 0)) σ) :
    ∀ r σ, r ≤ wS π v + 1 → EqM σ0 σ → (∀ a b, a ≤ wS π v → b ≤ wN π v → r ≤ a → gJ σ 415 (9 * a + b) = lN (wy π v set a b)) → AJ Γ (d + 2) mX12_findWays w Q 7 [(0, .ref 390), (1, .int (nI v)), (2, .int set), (3, .int (dn r))] σ := by
  have hF' := hF
  obtain ⟨⟨⟨n1, h20⟩, ⟨-, h24⟩, -⟩, hs, hwd, -⟩ := hF
  obtain ⟨w1, w2, w3, w4, w5, w6, -⟩ := hwd v hv
  have hv24 : vp_in (nI v) 24 := vin (by omega)
  intro r
  induction r with
  | zero =>
    intro σ _ hE hO
    refine vX12_findWays_7 hw ⟨fun _ => ⟨vin (n := 0) (by decide), ?_⟩, fun q => absurd dn_0 q⟩
    have e : gJ σ 415 (0 : Int32).toNatClampNeg = lN (wy π v set 0 0) := hO 0 0 (Nat.zero_le _) (Nat.zero_le _) (Nat.zero_le _)
    rw [e]
    exact hQ σ hE (fun a b ha hb _ => hO a b ha hb (Nat.zero_le _))
  | succ i ih =>
    intro σ hr hE hO
    have hV := hE.mv.trans hV0
    have en : gI σ 397 (nI v).toNatClampNeg = nI (wN π v) := by rw [cl (by omega), mv7 hV, w4]
    rw [dn_s]
    refine vX12_findWays_7 hw ⟨fun q => absurd q (nI_pos (by omega)), fun _ => ⟨hv24, ?_⟩⟩
    rw [en, ← dn_s (wN π v)]
    refine lp_ways19 hw hV0 hF' hv (by omega) ?_ (wN π v + 1) σ (Nat.le_refl _) hE ?_
    · intro σ' hE' hO'
      refine ih σ' (by omega) hE' (fun a b ha hb hab => hO' a b ha hb (by omega))
    · intro a b ha hb hab
      exact hO a b ha hb (by omega)
theorem c_findWays {Q : Int64 → St → Prop} {σ : St} {v : Nat} {set : Int32} (hw : RunW w) (hV : MV σ = π) (hF : WF π) (hv : v < nW π) (hQ : ∀ σ', EqM σ σ' → OnsM π v set σ' 0 0 → Q (lN (wy π v set 0 0)) σ') : SpJ Γ (d + 2) mX12_findWays [.ref 390, .int (nI v), .int set] σ w Q := by
  have hF' := hF
  obtain ⟨⟨-, ⟨-, h24⟩, -⟩, hs, hwd, -⟩ := hF
  obtain ⟨w1, w2, w3, w4, w5, w6, -⟩ := hwd v hv
  refine SpJ.of pnX12 (Nat.le_of_ble_eq_true rfl) (vX12_findWays_0 hw ⟨vin (by omega), ?_⟩)
  have ew : gI σ 395 (nI v).toNatClampNeg = nI (wS π v) := by rw [cl (by omega), mv5 hV, w1]
  rw [ew, ← dn_s (wS π v)]
  exact lp_ways7 hw hV hF' hv hQ (wS π v + 1) σ (Nat.le_refl _) (EqM.rf σ) (fun a b ha hb hab => absurd hab (by omega))
theorem M_ways {Q : Int64 → St → Prop} {σ : St} {x y : Int32} (hw : RunW w) (hV : MV σ = π) (hF : WF π) (hQ : ∀ σ', EqM σ σ' → Q (A_ways π x y) σ') : SpJ Γ (d + 3) mX12_ways [.ref 390, .int x, .int y] σ w Q := by
  have hF' := hF
  obtain ⟨⟨⟨n1, h20⟩, ⟨n2, h24⟩, -⟩, -, -⟩ := hF
  refine SpJ.of pnX12 (Nat.le_of_ble_eq_true rfl) (vX12_ways_0 hw (c_isWord hw ((mv_n hV).2.1.trans n2) (by omega) ?_))
  rw [b2i_n0, b2i_0]
  unfold A_ways at hQ
  refine ⟨fun q => by rw [q] at hQ; exact hQ σ (EqM.rf σ), fun q => c_areSigns hw ((mv_n hV).1.trans n1) (by omega) ?_⟩
  rw [q, Bool.true_and] at hQ
  rw [b2i_n0, b2i_0]
  refine ⟨fun q2 => by rw [q2] at hQ; exact hQ σ (EqM.rf σ), fun q2 => ?_⟩
  rw [q2, if_pos rfl] at hQ
  obtain ⟨v, hv, rfl⟩ := inB_of q
  rw [cl (by omega)] at hQ
  exact c_findWays hw hV hF' hv fun s hs _ => hQ s hs
end MWY
