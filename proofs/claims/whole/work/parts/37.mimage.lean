/-! the reference: pupils are kept, and gone back to -/
def IM (σ : St) (k : Nat) : KV := fun t i => match t with
  | 0 => if i < 3 then gI σ 423 (280 * k + i) else 0
  | 1 => if i < 3 then gI σ 423 (280 * k + (3 + i)) else 0
  | 2 => if i < 132 then gI σ 423 (280 * k + (7 + i)) else 0
  | 3 => if i < 132 then gI σ 423 (280 * k + (139 + i)) else 0
  | _ => gI σ 423 (280 * k + 6)
abbrev IV : Type := Nat → Option KV
def IS (σ : St) : IV := fun k => if k < 2 ∧ ¬ gI σ 424 k = 0 then some (IM σ k) else none
def updS (ι : IV) (k : Nat) (v : Option KV) : IV := fun j => if j = k then v else ι j
theorem EqU.is {σ σ' : St} (h : EqU σ σ') : IS σ' = IS σ := by
  have z : ∀ b, gI σ' 423 b = gI σ 423 b := fun b => h.1 423 b (by simp [scrU, scrC, scrM])
  have z4 : ∀ b, gI σ' 424 b = gI σ 424 b := fun b => h.1 424 b (by simp [scrU, scrC, scrM])
  have e : ∀ k, IM σ' k = IM σ k := by
    intro k
    funext t i
    unfold IM
    rw [z, z, z, z, z]
  funext k
  unfold IS
  rw [z4, e]
/-- only image k has changed -/
def OnI (k : Nat) (σ σ' : St) : Prop := (∀ o b, (o = 423 → b < 280 * k ∨ 280 * k + 280 ≤ b) → gI σ' o b = gI σ o b) ∧ (∀ o b, gJ σ' o b = gJ σ o b) ∧ ∀ o b, gR σ' o b = gR σ o b
theorem onI_rf (k : Nat) (σ : St) : OnI k σ σ := ⟨fun _ _ _ => rfl, fun _ _ => rfl, fun _ _ => rfl⟩
theorem onI_u {k b : Nat} {σ0 σ : St} {v : Int32} (h : OnI k σ0 σ) (h1 : 280 * k ≤ b) (h2 : b < 280 * k + 280) : OnI k σ0 (uI σ 423 b v) := by
  refine ⟨fun a c q => ?_, h.2⟩
  rw [gI_uI, if_neg (by omega)]
  exact h.1 a c q
def scrI (o k : Nat) : Bool := scrU o k || o == 423 || o == 424
def EqI (σ σ' : St) : Prop := (∀ o k, scrI o k = false → gI σ' o k = gI σ o k) ∧ (∀ o k, o ≠ 390 → o ≠ 415 → gJ σ' o k = gJ σ o k) ∧ ∀ o k, gR σ' o k = gR σ o k
def R_keep (κ : KV) (ι : IV) (x : Int32) : Int32 × IV := if inR x 0 1 then (1, updS ι x.toNatClampNeg (some κ)) else (-1001, ι)
def R_back (κ : KV) (ι : IV) (x : Int32) : Int32 × KV := if inR x 0 1 then (match ι x.toNatClampNeg with
  | some κ' => (1, κ')
  | none => (-1003, κ)) else (-1001, κ)
theorem inR_01 {x : Int32} (h : inR x 0 1 = true) : ∃ k, k < 2 ∧ x = nI k := by
  apply inB_of
  unfold inR at h
  unfold inB
  simp only [Bool.and_eq_true, decide_eq_true_eq] at h ⊢
  omega
theorem ite_c {i n : Nat} {a b : Int32} (h : i < n → a = b) : (if i < n then a else 0) = (if i < n then b else 0) := by
  by_cases e : i < n
  · rw [if_pos e, if_pos e, h e]
  · rw [if_neg e, if_neg e]
section MIM
variable {Γ : Gx} {d : Nat} {w : Wd} {κ : KV} {ι : IV}
theorem j_3 (a i c : Nat) : nI a + nI c + nI i = nI (a + (c + i)) := by rw [nI_add, nI_add, Nat.add_assoc]
theorem lp_keep78 {Q : Int32 → St → Prop} {σ0 : St} {k : Nat} (hw : RunW w) (hk : k < 2)
    (hQ : ∀ σ, OnI k σ0 σ → (∀ a, a < 3 → gI σ 423 (280 * k + a) = gI σ0 419 a ∧ gI σ 423 (280 * k + (3 + a)) = gI σ0 420 a) → gI σ 423 (280 * k + 6) = gI σ0 390 47 → (∀ a, a < 132 → gI σ 423 (280 * k + (7 + a)) = gI σ0 421 a ∧ gI σ 423 (280 * k + (139 + a)) = gI σ0 422 a) → Q 1 (uI σ 424 k 1)) :
    ∀ n i σ, i + n = 132 → OnI k σ0 σ → (∀ a, a < 3 → gI σ 423 (280 * k + a) = gI σ0 419 a ∧ gI σ 423 (280 * k + (3 + a)) = gI σ0 420 a) → gI σ 423 (280 * k + 6) = gI σ0 390 47 → (∀ a, a < i → gI σ 423 (280 * k + (7 + a)) = gI σ0 421 a ∧ gI σ 423 (280 * k + (139 + a)) = gI σ0 422 a) → AI Γ (d + 1) mX12_keep w Q 78 [(0, .ref 390), (1, .int (nI k)), (2, .int (nI (280 * k))), (3, .int (nI i))] σ := by
  intro n
  induction n with
  | zero =>
    intro i σ hi hO hA hC hB
    have : i = 132 := hi
    subst this
    refine vX12_keep_78 hw ⟨fun _ => ⟨vin (by omega), ?_⟩, fun c => absurd (by decide : (132 : Int32) ≤ nI 132) c⟩
    rw [cl (by omega)]
    exact hQ σ hO hA hC hB
  | succ n ih =>
    intro i σ hi hO hA hC hB
    have j7 : nI (280 * k) + 7 + nI i = nI (280 * k + (7 + i)) := j_3 _ _ 7
    have j9 : nI (280 * k) + 139 + nI i = nI (280 * k + (139 + i)) := j_3 _ _ 139
    refine vX12_keep_78 hw ⟨fun c => absurd c (nI_ge (a := i) (b := 132) (by omega) (by decide)), fun _ => ?_⟩
    rw [j7, j9, nI_1, cl (by omega), cl (by omega), cl (by omega)]
    refine ⟨vin (by omega), vin (by omega), vin (by omega), vin (by omega), ?_⟩
    have e1 : gI σ 421 i = gI σ0 421 i := hO.1 421 i (by omega)
    have e2 : gI σ 422 i = gI σ0 422 i := hO.1 422 i (by omega)
    rw [e1, e2]
    refine ih (i + 1) _ (by omega) (onI_u (onI_u hO (by omega) (by omega)) (by omega) (by omega)) (fun a ha => ?_) ?_ (fun a ha => ?_)
    · rw [gI_uI, if_neg (by omega), gI_uI, if_neg (by omega), gI_uI, if_neg (by omega), gI_uI, if_neg (by omega)]
      exact hA a ha
    · rw [gI_uI, if_neg (by omega), gI_uI, if_neg (by omega)]
      exact hC
    · by_cases e : a = i
      · subst e
        refine ⟨?_, ?_⟩
        · rw [gI_uI, if_neg (by omega), gI_uI, if_pos ⟨rfl, rfl⟩]
        · rw [gI_uI, if_pos ⟨rfl, rfl⟩]
      · rw [gI_uI, if_neg (by omega), gI_uI, if_neg (by omega), gI_uI, if_neg (by omega), gI_uI, if_neg (by omega)]
        exact hB a (by omega)
theorem lp_keep22 {Q : Int32 → St → Prop} {σ0 : St} {k : Nat} (hw : RunW w) (hk : k < 2)
    (hQ : ∀ σ, OnI k σ0 σ → (∀ a, a < 3 → gI σ 423 (280 * k + a) = gI σ0 419 a ∧ gI σ 423 (280 * k + (3 + a)) = gI σ0 420 a) → gI σ 423 (280 * k + 6) = gI σ0 390 47 → (∀ a, a < 132 → gI σ 423 (280 * k + (7 + a)) = gI σ0 421 a ∧ gI σ 423 (280 * k + (139 + a)) = gI σ0 422 a) → Q 1 (uI σ 424 k 1)) :
    ∀ n i σ, i + n = 3 → OnI k σ0 σ → (∀ a, a < i → gI σ 423 (280 * k + a) = gI σ0 419 a ∧ gI σ 423 (280 * k + (3 + a)) = gI σ0 420 a) → AI Γ (d + 1) mX12_keep w Q 22 [(0, .ref 390), (1, .int (nI k)), (2, .int (nI (280 * k))), (3, .int (nI i))] σ := by
  intro n
  induction n with
  | zero =>
    intro i σ hi hO hA
    have : i = 3 := hi
    subst this
    have j6 : nI (280 * k) + 6 = nI (280 * k + 6) := nI_add _ 6
    have e1 : gI σ 390 47 = gI σ0 390 47 := hO.1 390 47 (by omega)
    refine vX12_keep_22 hw ⟨fun _ => ?_, fun c => absurd (by decide : (3 : Int32) ≤ nI 3) c⟩
    rw [j6, cl (by omega), e1]
    refine ⟨vin (by omega), lp_keep78 hw hk hQ 132 0 _ rfl (onI_u hO (by omega) (by omega)) (fun a ha => ?_) ?_ (fun a ha => absurd ha (Nat.not_lt_zero a))⟩
    · rw [gI_uI, if_neg (by omega), gI_uI, if_neg (by omega)]
      exact hA a ha
    · rw [gI_uI, if_pos ⟨rfl, rfl⟩]
  | succ n ih =>
    intro i σ hi hO hA
    have j0 : nI (280 * k) + nI i = nI (280 * k + i) := nI_add _ _
    have j3 : nI (280 * k) + 3 + nI i = nI (280 * k + (3 + i)) := j_3 _ _ 3
    refine vX12_keep_22 hw ⟨fun c => absurd c (nI_ge (a := i) (b := 3) (by omega) (by decide)), fun _ => ?_⟩
    rw [j0, j3, nI_1, cl (by omega), cl (by omega), cl (by omega)]
    refine ⟨vin (by omega), vin (by omega), vin (by omega), vin (by omega), ?_⟩
    have e1 : gI σ 419 i = gI σ0 419 i := hO.1 419 i (by omega)
    have e2 : gI σ 420 i = gI σ0 420 i := hO.1 420 i (by omega)
    rw [e1, e2]
    refine ih (i + 1) _ (by omega) (onI_u (onI_u hO (by omega) (by omega)) (by omega) (by omega)) (fun a ha => ?_)
    by_cases e : a = i
    · subst e
      refine ⟨?_, ?_⟩
      · rw [gI_uI, if_neg (by omega), gI_uI, if_pos ⟨rfl, rfl⟩]
      · rw [gI_uI, if_pos ⟨rfl, rfl⟩]
    · rw [gI_uI, if_neg (by omega), gI_uI, if_neg (by omega), gI_uI, if_neg (by omega), gI_uI, if_neg (by omega)]
      exact hA a (by omega)
theorem M_keep {Q : Int32 → St → Prop} {σ : St} {x : Int32} (hw : RunW w) (hK : KM σ = κ) (hI : IS σ = ι) (hQ : ∀ σ', EqI σ σ' → KM σ' = κ → IS σ' = (R_keep κ ι x).2 → Q (R_keep κ ι x).1 σ') : SpI Γ (d + 1) mX12_keep [.ref 390, .int x] σ w Q := by
  refine SpI.of pnX12 (Nat.le_of_ble_eq_true rfl) (vX12_keep_0 (c_inR (a := 0) (b := 1) (by decide) (by decide) ?_))
  unfold R_keep at hQ
  rw [b2i_n0, b2i_0]
  refine ⟨fun c => ?_, fun c => ?_⟩
  · rw [c, if_pos rfl] at hQ
    obtain ⟨k, hk, rfl⟩ := inR_01 c
    rw [cl (by omega)] at hQ
    have i0 : (280 : Int32) * nI k = nI (280 * k) := nI_mul 280 k
    rw [i0]
    refine lp_keep22 hw hk (fun s hO hA hC hB => hQ _ ?_ ?_ ?_) 3 0 σ rfl (onI_rf k σ) (fun a ha => absurd ha (Nat.not_lt_zero a))
    · refine ⟨fun o b q => ?_, fun o b _ _ => hO.2.1 o b, fun o b => hO.2.2 o b⟩
      have h3 : o ≠ 423 := by rintro rfl; simp [scrI] at q
      have h4 : o ≠ 424 := by rintro rfl; simp [scrI] at q
      rw [gI_uI, if_neg (by omega)]
      exact hO.1 o b (by omega)
    · rw [← hK]
      have z : ∀ o b, o ≠ 423 → o ≠ 424 → gI (uI s 424 k 1) o b = gI σ o b := by
        intro o b h3 h4
        rw [gI_uI, if_neg (by omega)]
        exact hO.1 o b (by omega)
      funext t i
      unfold KM
      rw [z 419 i (by decide) (by decide), z 420 i (by decide) (by decide), z 421 i (by decide) (by decide), z 422 i (by decide) (by decide), z 390 47 (by decide) (by decide)]
    · have z : ∀ b, gI (uI s 424 k 1) 423 b = gI s 423 b := fun b => by rw [gI_uI, if_neg (by omega)]
      funext j
      show IS (uI s 424 k 1) j = if j = k then some κ else ι j
      by_cases e : j = k
      · subst e
        rw [if_pos rfl]
        unfold IS
        rw [if_pos ⟨hk, by rw [gI_uI, if_pos ⟨rfl, rfl⟩]; decide⟩]
        congr 1
        rw [← hK]
        funext t i
        unfold IM KM
        rcases t with _ | _ | _ | _ | t
        · exact ite_c fun e => (z _).trans (hA i e).1
        · exact ite_c fun e => (z _).trans (hA i e).2
        · exact ite_c fun e => (z _).trans (hB i e).1
        · exact ite_c fun e => (z _).trans (hB i e).2
        · exact (z _).trans hC
      · rw [if_neg e, ← hI]
        unfold IS
        have e4 : gI (uI s 424 k 1) 424 j = gI σ 424 j := by
          rw [gI_uI, if_neg (by omega)]
          exact hO.1 424 j (by omega)
        rw [e4]
        by_cases e2 : j < 2
        · have : IM (uI s 424 k 1) j = IM σ j := by
            have z2 : ∀ b, b < 280 → gI (uI s 424 k 1) 423 (280 * j + b) = gI σ 423 (280 * j + b) := fun b hb => by
              rw [z]
              exact hO.1 423 _ (fun _ => by omega)
            funext t i
            unfold IM
            rcases t with _ | _ | _ | _ | t
            · exact ite_c fun e => z2 i (by omega)
            · exact ite_c fun e => z2 (3 + i) (by omega)
            · exact ite_c fun e => z2 (7 + i) (by omega)
            · exact ite_c fun e => z2 (139 + i) (by omega)
            · exact z2 6 (by decide)
          rw [this]
        · rw [if_neg (fun h => e2 h.1), if_neg (fun h => e2 h.1)]
  · rw [c, if_neg (by decide)] at hQ
    exact hQ σ ⟨fun _ _ _ => rfl, fun _ _ _ _ => rfl, fun _ _ => rfl⟩ hK hI
theorem lp_back91 {Q : Int32 → St → Prop} {σ0 : St} {k : Nat} (hw : RunW w) (hk : k < 2) (hQ : ∀ σ, EqU σ0 σ → KM σ = IM σ0 k → Q 1 σ) :
    ∀ n i σ, i + n = 132 → EqU σ0 σ → gI σ 390 47 = gI σ0 423 (280 * k + 6) → (∀ a, a < 3 → gI σ 419 a = gI σ0 423 (280 * k + a) ∧ gI σ 420 a = gI σ0 423 (280 * k + (3 + a))) → (∀ a, a < i → gI σ 421 a = gI σ0 423 (280 * k + (7 + a)) ∧ gI σ 422 a = gI σ0 423 (280 * k + (139 + a))) → AI Γ (d + 1) mX12_goBack w Q 91 [(0, .ref 390), (2, .int (nI (280 * k))), (3, .int (nI i))] σ := by
  intro n
  induction n with
  | zero =>
    intro i σ hi hE hC hA hB
    have : i = 132 := hi
    subst this
    refine vX12_goBack_91 hw ⟨fun _ => hQ σ hE ?_, fun c => absurd (by decide : (132 : Int32) ≤ nI 132) c⟩
    funext t i
    unfold IM KM
    rcases t with _ | _ | _ | _ | t
    · exact ite_c fun e => (hA i e).1
    · exact ite_c fun e => (hA i e).2
    · exact ite_c fun e => (hB i e).1
    · exact ite_c fun e => (hB i e).2
    · exact hC
  | succ n ih =>
    intro i σ hi hE hC hA hB
    have j7 : nI (280 * k) + 7 + nI i = nI (280 * k + (7 + i)) := j_3 _ _ 7
    have j9 : nI (280 * k) + 139 + nI i = nI (280 * k + (139 + i)) := j_3 _ _ 139
    have z : ∀ b, gI σ 423 b = gI σ0 423 b := fun b => hE.1 423 b (by simp [scrU, scrC, scrM])
    refine vX12_goBack_91 hw ⟨fun c => absurd c (nI_ge (a := i) (b := 132) (by omega) (by decide)), fun _ => ?_⟩
    rw [j7, j9, nI_1, cl (by omega), cl (by omega), cl (by omega)]
    refine ⟨vin (by omega), vin (by omega), vin (by omega), vin (by omega), ?_⟩
    refine ih (i + 1) _ (by omega) (hE.tr ((eqU_u (o := 421) (k := i) (by simp [scrU])).tr (eqU_u (o := 422) (k := i) (by simp [scrU])))) ?_ (fun a ha => ?_) (fun a ha => ?_)
    · rw [gI_uI, if_neg (by omega), gI_uI, if_neg (by omega)]
      exact hC
    · rw [gI_uI, if_neg (by omega), gI_uI, if_neg (by omega), gI_uI, if_neg (by omega), gI_uI, if_neg (by omega)]
      exact hA a ha
    · by_cases e : a = i
      · subst e
        refine ⟨?_, ?_⟩
        · rw [gI_uI, if_neg (by omega), gI_uI, if_pos ⟨rfl, rfl⟩, z]
        · rw [gI_uI, if_pos ⟨rfl, rfl⟩, z]
      · rw [gI_uI, if_neg (by omega), gI_uI, if_neg (by omega), gI_uI, if_neg (by omega), gI_uI, if_neg (by omega)]
        exact hB a (by omega)
theorem lp_back35 {Q : Int32 → St → Prop} {σ0 : St} {k : Nat} (hw : RunW w) (hk : k < 2) (hQ : ∀ σ, EqU σ0 σ → KM σ = IM σ0 k → Q 1 σ) :
    ∀ n i σ, i + n = 3 → EqU σ0 σ → (∀ a, a < i → gI σ 419 a = gI σ0 423 (280 * k + a) ∧ gI σ 420 a = gI σ0 423 (280 * k + (3 + a))) → AI Γ (d + 1) mX12_goBack w Q 35 [(0, .ref 390), (2, .int (nI (280 * k))), (3, .int (nI i))] σ := by
  intro n
  induction n with
  | zero =>
    intro i σ hi hE hA
    have : i = 3 := hi
    subst this
    have j6 : nI (280 * k) + 6 = nI (280 * k + 6) := nI_add _ 6
    have z : ∀ b, gI σ 423 b = gI σ0 423 b := fun b => hE.1 423 b (by simp [scrU, scrC, scrM])
    refine vX12_goBack_35 hw ⟨fun _ => ?_, fun c => absurd (by decide : (3 : Int32) ≤ nI 3) c⟩
    rw [j6, cl (by omega), z]
    refine ⟨vin (by omega), lp_back91 hw hk hQ 132 0 _ rfl (hE.tr (eqU_u (by decide))) ?_ (fun a ha => ?_) (fun a ha => absurd ha (Nat.not_lt_zero a))⟩
    · rw [gI_uI, if_pos ⟨rfl, rfl⟩]
    · rw [gI_uI, if_neg (by omega), gI_uI, if_neg (by omega)]
      exact hA a ha
  | succ n ih =>
    intro i σ hi hE hA
    have j0 : nI (280 * k) + nI i = nI (280 * k + i) := nI_add _ _
    have j3 : nI (280 * k) + 3 + nI i = nI (280 * k + (3 + i)) := j_3 _ _ 3
    have z : ∀ b, gI σ 423 b = gI σ0 423 b := fun b => hE.1 423 b (by simp [scrU, scrC, scrM])
    refine vX12_goBack_35 hw ⟨fun c => absurd c (nI_ge (a := i) (b := 3) (by omega) (by decide)), fun _ => ?_⟩
    rw [j0, j3, nI_1, cl (by omega), cl (by omega), cl (by omega)]
    refine ⟨vin (by omega), vin (by omega), vin (by omega), vin (by omega), ?_⟩
    refine ih (i + 1) _ (by omega) (hE.tr ((eqU_u (o := 419) (k := i) (by simp [scrU])).tr (eqU_u (o := 420) (k := i) (by simp [scrU])))) (fun a ha => ?_)
    by_cases e : a = i
    · subst e
      refine ⟨?_, ?_⟩
      · rw [gI_uI, if_neg (by omega), gI_uI, if_pos ⟨rfl, rfl⟩, z]
      · rw [gI_uI, if_pos ⟨rfl, rfl⟩, z]
    · rw [gI_uI, if_neg (by omega), gI_uI, if_neg (by omega), gI_uI, if_neg (by omega), gI_uI, if_neg (by omega)]
      exact hA a (by omega)
theorem M_goBack {Q : Int32 → St → Prop} {σ : St} {x : Int32} (hw : RunW w) (hK : KM σ = κ) (hI : IS σ = ι) (hQ : ∀ σ', EqU σ σ' → KM σ' = (R_back κ ι x).2 → Q (R_back κ ι x).1 σ') : SpI Γ (d + 1) mX12_goBack [.ref 390, .int x] σ w Q := by
  refine SpI.of pnX12 (Nat.le_of_ble_eq_true rfl) (vX12_goBack_0 hw (c_inR (a := 0) (b := 1) (by decide) (by decide) ?_))
  unfold R_back at hQ
  rw [b2i_n0, b2i_0]
  refine ⟨fun c => ?_, fun c => ?_⟩
  · rw [c, if_pos rfl] at hQ
    obtain ⟨k, hk, rfl⟩ := inR_01 c
    have i0 : (280 : Int32) * nI k = nI (280 * k) := nI_mul 280 k
    rw [cl (by omega)] at hQ
    rw [i0, cl (by omega)]
    refine ⟨vin (by omega), fun c2 => ?_, fun c2 => ?_⟩
    · have e : ι k = some (IM σ k) := by
        rw [← hI]
        unfold IS
        rw [if_pos ⟨hk, c2⟩]
      rw [e] at hQ
      exact lp_back35 hw hk (fun s hs h => hQ s hs h) 3 0 σ rfl (EqU.rf σ) (fun a ha => absurd ha (Nat.not_lt_zero a))
    · have e : ι k = none := by
        rw [← hI]
        unfold IS
        rw [if_neg (fun h => h.2 c2)]
      rw [e] at hQ
      exact hQ σ (EqU.rf σ) hK
  · rw [c, if_neg (by decide)] at hQ
    exact hQ σ (EqU.rf σ) hK
end MIM
