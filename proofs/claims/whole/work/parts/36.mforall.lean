/-! the reference: the page for all; pupils begin anew -/
def totN (π : PV) (κ : KV) (p : Nat) : Nat → Nat
  | 0 => 0
  | q + 1 => totN π κ p q + (mtS π κ q p).1
def totS (π : PV) (κ : KV) (p : Nat) : Nat := totN π κ p 3
def faF (π : PV) (κ : KV) : Nat → Option Nat
  | 0 => none
  | n + 1 => match faF π κ n with
    | none => some n
    | some b => if totS π κ b ≤ totS π κ n then some b else some n
def faT (π : PV) (κ : KV) (r : Option Nat) : Nat := match r with
  | none => 0
  | some b => totS π κ b
def A_forAll (π : PV) (κ : KV) : Int32 := bI (faF π κ (nP π))
theorem totN_le {π : PV} {κ : KV} {p : Nat} : ∀ q, totN π κ p q ≤ q * nW π
  | 0 => Nat.zero_le _
  | q + 1 => by
    have h1 := totN_le (π := π) (κ := κ) (p := p) q
    have h2 : (mtS π κ q p).1 ≤ nW π := mtF_le _
    show totN π κ p q + (mtS π κ q p).1 ≤ (q + 1) * nW π
    rw [Nat.succ_mul]
    omega
theorem faF_lt {π : PV} {κ : KV} : ∀ {n m : Nat}, faF π κ n = some m → m < n
  | 0, m, h => by cases h
  | n + 1, m, h => by
    unfold faF at h
    split at h
    · cases h; exact Nat.lt_succ_self _
    · rename_i b hb
      have := faF_lt hb
      split at h
      · cases h; omega
      · cases h; exact Nat.lt_succ_self _
def begK (κ : KV) : KV := fun t _ => if t < 4 then 0 else κ 4 0
theorem ite0 {i n : Nat} {a : Int32} (h : i < n → a = 0) : (if i < n then a else 0) = 0 := by
  by_cases e : i < n
  · rw [if_pos e]; exact h e
  · rw [if_neg e]
section MFA
variable {Γ : Gx} {d : Nat} {w : Wd} {π : PV} {κ : KV}
theorem lp_forAll20 {Q : Int32 → St → Prop} {σ0 : St} {x1 x2 : Int32} {p : Nat} (hw : RunW w) (hV0 : MV σ0 = π) (hF : WF π) (hK0 : KM σ0 = κ) (hp : p < nP π)
    (hX : ∀ σ, EqC σ0 σ → AI Γ (d + 5) mX12_forAll w Q 20 [(0, .ref 390), (1, .int x1), (2, .int x2), (3, .int (nI p)), (4, .int (nI (totS π κ p))), (5, .int (nI 3))] σ) :
    ∀ n q σ, q + n = 3 → EqC σ0 σ → AI Γ (d + 5) mX12_forAll w Q 20 [(0, .ref 390), (1, .int x1), (2, .int x2), (3, .int (nI p)), (4, .int (nI (totN π κ p q))), (5, .int (nI q))] σ := by
  intro n
  induction n with
  | zero =>
    intro q σ hq hE
    have : q = 3 := hq
    subst this
    exact hX σ hE
  | succ n ih =>
    intro q σ hq hE
    refine vX12_forAll_20 hw ⟨fun c => absurd c (nI_ge (a := q) (b := 3) (by omega) (by decide)), fun _ => c_meetsOf hw (hE.mv.trans hV0) hF (hE.km.trans hK0) (by omega) hp fun s hs _ => ?_⟩
    rw [nI_add, nI_1]
    exact ih (q + 1) s (by omega) (hE.tr hs)
theorem lp_forAll6 {Q : Int32 → St → Prop} {σ0 : St} (hw : RunW w) (hV0 : MV σ0 = π) (hF : WF π) (hK0 : KM σ0 = κ) (hQ : ∀ σ, EqC σ0 σ → Q (A_forAll π κ) σ) :
    ∀ n p σ, p + n = nP π → EqC σ0 σ → AI Γ (d + 5) mX12_forAll w Q 6 [(0, .ref 390), (1, .int (bI (faF π κ p))), (2, .int (nI (faT π κ (faF π κ p)))), (3, .int (nI p))] σ := by
  have hF' := hF
  obtain ⟨⟨-, ⟨-, h24⟩, -, n4, h8⟩, -⟩ := hF
  intro n
  induction n with
  | zero =>
    intro p σ hp hE
    have e0 : gI σ 390 12 = nI (nP π) := by rw [(mv_n (hE.mv.trans hV0)).2.2.2, n4]
    have : p = nP π := hp
    subst this
    exact vX12_forAll_6 hw ⟨fun _ => hQ σ hE, fun c => absurd (by rw [e0]; exact Int32.le_refl _) c⟩
  | succ n ih =>
    intro p σ hp hE
    have e0 : gI σ 390 12 = nI (nP π) := by rw [(mv_n (hE.mv.trans hV0)).2.2.2, n4]
    refine vX12_forAll_6 hw ⟨fun c => absurd c (by rw [e0]; exact nI_ge (by omega) (by omega)), fun _ => ?_⟩
    refine lp_forAll20 hw hV0 hF' hK0 (by omega) (fun s hs => ?_) 3 0 σ rfl hE
    have nx := ih (p + 1) s (by omega) hs
    have st : faF π κ (p + 1) = (match faF π κ p with
      | none => some p
      | some b => if totS π κ b ≤ totS π κ p then some b else some p) := rfl
    refine vX12_forAll_20 hw ⟨fun _ => ?_, fun c => absurd (by decide : (3 : Int32) ≤ nI 3) c⟩
    rw [nI_1]
    cases hb : faF π κ p with
    | none =>
      rw [st, hb] at nx
      exact ⟨fun _ => nx, fun c => absurd (by decide : bI none < 0) c⟩
    | some b =>
      have hbp := faF_lt hb
      rw [st, hb] at nx
      dsimp only at nx
      have t1 : totS π κ b ≤ 3 * nW π := totN_le 3
      have t2 : totS π κ p ≤ 3 * nW π := totN_le 3
      refine ⟨fun c => absurd c (nI_pos (by omega)), fun _ => ?_⟩
      show (nI (totS π κ b) ≤ nI (totS π κ p) → AI Γ (d + 5) mX12_forAll w Q 6 [(0, .ref 390), (1, .int (nI b)), (2, .int (nI (totS π κ b))), (3, .int (nI (p + 1)))] s) ∧ (¬ nI (totS π κ b) ≤ nI (totS π κ p) → AI Γ (d + 5) mX12_forAll w Q 6 [(0, .ref 390), (1, .int (nI p)), (2, .int (nI (totS π κ p))), (3, .int (nI (p + 1)))] s)
      rw [nI_leI (by omega) (by omega)]
      refine ⟨fun c => ?_, fun c => ?_⟩
      · rw [if_pos c] at nx
        exact nx
      · rw [if_neg c] at nx
        exact nx
theorem M_forAll {Q : Int32 → St → Prop} {σ : St} (hw : RunW w) (hV : MV σ = π) (hF : WF π) (hK : KM σ = κ) (hQ : ∀ σ', EqC σ σ' → Q (A_forAll π κ) σ') : SpI Γ (d + 5) mX12_forAll [.ref 390] σ w Q :=
  SpI.of pnX12 (Nat.le_of_ble_eq_true rfl) (vX12_forAll_0 (lp_forAll6 hw hV hF hK hQ (nP π) 0 σ (Nat.zero_add _) (EqC.rf σ)))
theorem lp_begin29 {Q : St → Prop} {σ0 : St} (hw : RunW w) (hK0 : KM σ0 = κ) (hQ : ∀ σ, EqU σ0 σ → KM σ = begK κ → Q σ) :
    ∀ n k σ, k + n = 132 → EqU σ0 σ → gI σ 390 47 = κ 4 0 → (∀ i, i < 3 → gI σ 419 i = 0 ∧ gI σ 420 i = 0) → (∀ i, i < k → gI σ 421 i = 0 ∧ gI σ 422 i = 0) → AV Γ d mX12_beginPupils w Q 29 [(0, .ref 390), (1, .int (nI k))] σ := by
  intro n
  induction n with
  | zero =>
    intro k σ hk hE h47 ha hb
    have : k = 132 := hk
    subst this
    refine vX12_beginPupils_29 hw ⟨fun _ => hQ σ hE ?_, fun c => absurd (by decide : (132 : Int32) ≤ nI 132) c⟩
    funext t i
    have z0 : (if i < 3 then gI σ 419 i else 0) = 0 := ite0 fun h => (ha i h).1
    have z1 : (if i < 3 then gI σ 420 i else 0) = 0 := ite0 fun h => (ha i h).2
    have z2 : (if i < 132 then gI σ 421 i else 0) = 0 := ite0 fun h => (hb i h).1
    have z3 : (if i < 132 then gI σ 422 i else 0) = 0 := ite0 fun h => (hb i h).2
    rcases t with _ | _ | _ | _ | t
    · exact z0
    · exact z1
    · exact z2
    · exact z3
    · show gI σ 390 47 = if t + 1 + 1 + 1 + 1 < 4 then 0 else κ 4 0
      rw [if_neg (by omega)]
      exact h47
  | succ n ih =>
    intro k σ hk hE h47 ha hb
    refine vX12_beginPupils_29 hw ⟨fun c => absurd c (nI_ge (a := k) (b := 132) (by omega) (by decide)), fun _ => ⟨vin (by omega), vin (by omega), ?_⟩⟩
    rw [nI_1, cl (by omega)]
    refine ih (k + 1) _ (by omega) (hE.tr ((eqU_u (o := 421) (k := k) (by simp [scrU])).tr (eqU_u (o := 422) (k := k) (by simp [scrU])))) ?_ (fun i hi => ?_) (fun i hi => ?_)
    · rw [gI_uI, if_neg (by omega), gI_uI, if_neg (by omega)]
      exact h47
    · rw [gI_uI, if_neg (by omega), gI_uI, if_neg (by omega), gI_uI, if_neg (by omega), gI_uI, if_neg (by omega)]
      exact ha i hi
    · rw [gI_uI, if_neg (by omega), gI_uI, gI_uI]
      by_cases e : i = k
      · subst e
        rw [if_pos ⟨rfl, rfl⟩, if_pos ⟨rfl, rfl⟩]
        exact ⟨rfl, rfl⟩
      · rw [if_neg (by omega), if_neg (by omega), gI_uI, if_neg (by omega)]
        exact hb i (by omega)
theorem lp_begin2 {Q : St → Prop} {σ0 : St} (hw : RunW w) (hK0 : KM σ0 = κ) (hQ : ∀ σ, EqU σ0 σ → KM σ = begK κ → Q σ) :
    ∀ n k σ, k + n = 3 → EqU σ0 σ → gI σ 390 47 = κ 4 0 → (∀ i, i < k → gI σ 419 i = 0 ∧ gI σ 420 i = 0) → AV Γ d mX12_beginPupils w Q 2 [(0, .ref 390), (1, .int (nI k))] σ := by
  intro n
  induction n with
  | zero =>
    intro k σ hk hE h47 ha
    have : k = 3 := hk
    subst this
    refine vX12_beginPupils_2 hw ⟨fun _ => ?_, fun c => absurd (by decide : (3 : Int32) ≤ nI 3) c⟩
    exact lp_begin29 hw hK0 hQ 132 0 σ rfl hE h47 ha (fun i hi => absurd hi (Nat.not_lt_zero i))
  | succ n ih =>
    intro k σ hk hE h47 ha
    refine vX12_beginPupils_2 hw ⟨fun c => absurd c (nI_ge (a := k) (b := 3) (by omega) (by decide)), fun _ => ⟨vin (by omega), vin (by omega), ?_⟩⟩
    rw [nI_1, cl (by omega)]
    refine ih (k + 1) _ (by omega) (hE.tr ((eqU_u (o := 419) (k := k) (by simp [scrU])).tr (eqU_u (o := 420) (k := k) (by simp [scrU])))) ?_ (fun i hi => ?_)
    · rw [gI_uI, if_neg (by omega), gI_uI, if_neg (by omega)]
      exact h47
    · rw [gI_uI, if_neg (by omega), gI_uI, gI_uI]
      by_cases e : i = k
      · subst e
        rw [if_pos ⟨rfl, rfl⟩, if_pos ⟨rfl, rfl⟩]
        exact ⟨rfl, rfl⟩
      · rw [if_neg (by omega), if_neg (by omega), gI_uI, if_neg (by omega)]
        exact ha i (by omega)
theorem c_begin {Q : St → Prop} {σ : St} (hw : RunW w) (hK : KM σ = κ) (hQ : ∀ σ', EqU σ σ' → KM σ' = begK κ → Q σ') : SpV Γ d mX12_beginPupils [.ref 390] σ w Q :=
  SpV.of pnX12 (Nat.le_of_ble_eq_true rfl) (vX12_beginPupils_0 (lp_begin2 hw hK hQ 3 0 σ rfl (EqU.rf σ) (km4 hK) (fun i hi => absurd hi (Nat.not_lt_zero i))))
end MFA
