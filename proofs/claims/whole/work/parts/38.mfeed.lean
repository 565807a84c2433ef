/-! the reference: text is fed -/
def TxM (σ : St) (tx : List Int32) : Prop := gI σ 390 17 = nI tx.length ∧ tx.length ≤ 600 ∧ ∀ i, i < tx.length → gI σ 403 i = tx.getD i 0
def scrT (o k : Nat) : Bool := o == 403 || (o == 390 && k == 17)
def EqT (σ σ' : St) : Prop := (∀ o k, scrT o k = false → gI σ' o k = gI σ o k) ∧ (∀ o k, gJ σ' o k = gJ σ o k) ∧ ∀ o k, gR σ' o k = gR σ o k
theorem EqT.rf (σ : St) : EqT σ σ := ⟨fun _ _ _ => rfl, fun _ _ => rfl, fun _ _ => rfl⟩
theorem EqT.tr {a b c : St} (h : EqT a b) (h2 : EqT b c) : EqT a c := ⟨fun o k q => (h2.1 o k q).trans (h.1 o k q), fun o k => (h2.2.1 o k).trans (h.2.1 o k), fun o k => (h2.2.2 o k).trans (h.2.2 o k)⟩
theorem eqT_u {σ : St} {o k : Nat} {v : Int32} (h : scrT o k = true) : EqT σ (uI σ o k v) := by
  refine ⟨fun a b q => ?_, fun a b => rfl, fun _ _ => rfl⟩
  rw [gI_uI, if_neg]
  rintro ⟨rfl, rfl⟩
  rw [h] at q
  cases q
theorem EqT.km {σ σ' : St} (h : EqT σ σ') : KM σ' = KM σ := by
  funext t i
  unfold KM
  rw [h.1 419 i (by simp [scrT]), h.1 420 i (by simp [scrT]), h.1 421 i (by simp [scrT]), h.1 422 i (by simp [scrT]), h.1 390 47 (by decide)]
theorem EqT.is {σ σ' : St} (h : EqT σ σ') : IS σ' = IS σ := by
  have z : ∀ b, gI σ' 423 b = gI σ 423 b := fun b => h.1 423 b (by simp [scrT])
  have z4 : ∀ b, gI σ' 424 b = gI σ 424 b := fun b => h.1 424 b (by simp [scrT])
  have e : ∀ k, IM σ' k = IM σ k := by
    intro k
    funext t i
    unfold IM
    rw [z, z, z, z, z]
  funext k
  unfold IS
  rw [z4, e]
theorem EqT.mv {σ σ' : St} (h : EqT σ σ') : MV σ' = MV σ := by
  funext t i j
  unfold MV
  have z : ∀ o k, o ≠ 390 → o ≠ 403 → gI σ' o k = gI σ o k := fun o k h1 h2 => h.1 o k (by simp [scrT, h1, h2])
  split
  · split <;> exact h.1 _ _ (by decide)
  all_goals exact z _ _ (by decide) (by decide)
/-- byte i of what is fed; all of them, the highest first -/
def fbM (y : Int64) (i : Nat) : Int32 := ((y >>> (((8 : Int32) * nI i).toInt64 &&& (63 : Int64))) &&& (255 : Int64)).toInt32
def feedL (y : Int64) : Nat → List Int32
  | 0 => []
  | n + 1 => fbM y n :: feedL y n
theorem feedL_len (y : Int64) : ∀ n, (feedL y n).length = n
  | 0 => rfl
  | n + 1 => congrArg (· + 1) (feedL_len y n)
def R_feed (tx : List Int32) (x : Int32) (y : Int64) : Int32 × List Int32 := if inR x 1 8 then (if tx.length + x.toNatClampNeg ≤ 600 then (nI (tx.length + x.toNatClampNeg), tx ++ feedL y x.toNatClampNeg) else (-1004, tx)) else (-1002, tx)
section MFE
variable {Γ : Gx} {d : Nat} {w : Wd}
theorem tx_push {σ : St} {tx : List Int32} {v : Int32} (h : TxM σ tx) (hl : tx.length < 600) : TxM (uI (uI σ 403 tx.length v) 390 17 (nI tx.length + 1)) (tx ++ [v]) := by
  refine ⟨?_, by rw [List.length_append]; show tx.length + 1 ≤ 600; omega, fun i hi => ?_⟩
  · rw [gI_uI, if_pos ⟨rfl, rfl⟩, nI_1, List.length_append]
    rfl
  · rw [List.length_append] at hi
    rw [gI_uI, if_neg (by omega), gI_uI]
    by_cases e : i = tx.length
    · subst e
      rw [if_pos ⟨rfl, rfl⟩]
      simp
    · have hi' : i < tx.length := by
        have : i < tx.length + 1 := hi
        omega
      rw [if_neg (by omega), h.2.2 i hi']
      simp [List.getElem?_append_left hi']
theorem lp_feed {Q : Int32 → St → Prop} {σ0 : St} {y : Int64} (hw : RunW w) :
    ∀ r tx σ, tx.length + r ≤ 600 → EqT σ0 σ → TxM σ tx → (∀ σ', EqT σ0 σ' → TxM σ' (tx ++ feedL y r) → Q (nI (tx.length + r)) σ') → AI Γ (d + 1) mX12_feed w Q 37 [(0, .ref 390), (2, .long y), (4, .int (dn r))] σ := by
  intro r
  induction r with
  | zero =>
    intro tx σ hl hE hT hQ
    refine vX12_feed_37 hw ⟨fun _ => ?_, fun c => absurd dn_0 c⟩
    rw [hT.1]
    exact hQ σ hE (by show TxM σ (tx ++ []); rw [List.append_nil]; exact hT)
  | succ r ih =>
    intro tx σ hl hE hT hQ
    rw [dn_s]
    refine vX12_feed_37 hw ⟨fun c => absurd c (nI_pos (by omega)), fun _ => ?_⟩
    rw [hT.1, cl (by omega)]
    refine ⟨vin (by omega), ?_⟩
    refine ih (tx ++ [fbM y r]) _ (by rw [List.length_append]; show tx.length + 1 + r ≤ 600; omega) (hE.tr ((eqT_u (o := 403) (k := tx.length) (by simp [scrT])).tr (eqT_u (by decide)))) (tx_push hT (by omega)) (fun s hs ht => ?_)
    have e : (tx ++ [fbM y r]).length + r = tx.length + (r + 1) := by
      rw [List.length_append]
      show tx.length + 1 + r = _
      omega
    rw [e]
    rw [List.append_assoc] at ht
    exact hQ s hs ht
theorem inR_1 {x : Int32} {b : Nat} (h : inR x 1 b = true) : ∃ k, 1 ≤ k ∧ k ≤ b ∧ x = nI k := by
  have h' : inB x (b + 1) = true := by
    unfold inR at h
    unfold inB
    simp only [Bool.and_eq_true, decide_eq_true_eq] at h ⊢
    omega
  obtain ⟨k, hk, rfl⟩ := inB_of h'
  refine ⟨k, ?_, by omega, rfl⟩
  rcases Nat.eq_zero_or_pos k with e | e
  · subst e
    unfold inR at h
    simp only [Bool.and_eq_true, decide_eq_true_eq] at h
    exact absurd h.1 (by decide)
  · exact e
theorem M_feed {Q : Int32 → St → Prop} {σ : St} {tx : List Int32} {x : Int32} {y : Int64} (hw : RunW w) (hT : TxM σ tx) (hQ : ∀ σ', EqT σ σ' → TxM σ' (R_feed tx x y).2 → Q (R_feed tx x y).1 σ') : SpI Γ (d + 1) mX12_feed [.ref 390, .int x, .long y] σ w Q := by
  refine SpI.of pnX12 (Nat.le_of_ble_eq_true rfl) (vX12_feed_0 hw (c_inR (a := 1) (b := 8) (by decide) (by decide) ?_))
  unfold R_feed at hQ
  rw [b2i_n0, b2i_0]
  refine ⟨fun c => ?_, fun c => ?_⟩
  · rw [c, if_pos rfl] at hQ
    obtain ⟨n, h1, h8, rfl⟩ := inR_1 c
    rw [cl (by omega)] at hQ
    have hl := hT.2.1
    have l6 : nI (tx.length + n) ≤ 600 ↔ tx.length + n ≤ 600 := nI_leI (b := 600) (by omega) (by decide)
    rw [hT.1, nI_add, l6, dn_m]
    refine ⟨fun c2 => ?_, fun c2 => ?_⟩
    · rw [if_pos c2] at hQ
      exact lp_feed hw n tx σ c2 (EqT.rf σ) hT hQ
    · rw [if_neg c2] at hQ
      exact hQ σ (EqT.rf σ) hT
  · rw [c, if_neg (by decide)] at hQ
    exact hQ σ (EqT.rf σ) hT
end MFE
