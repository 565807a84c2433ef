/-! the reference: what is next for a pupil, the page for all -/
theorem fstB_up {p : Nat → Bool} {k m : Nat} (h : fstB p k = some m) : ∀ n, fstB p (k + n) = some m
  | 0 => h
  | n + 1 => by
    show (match fstB p (k + n) with | some m => some m | none => if p (k + n) then some (k + n) else none) = _
    rw [fstB_up h n]
theorem fstB_at {p : Nat → Bool} {k : Nat} (h : fstB p k = none) (hp : p k = true) {n : Nat} (hn : k < n) : fstB p n = some k := by
  have e : fstB p (k + 1) = some k := by
    show (match fstB p k with | some m => some m | none => if p k then some k else none) = _
    rw [h]
    dsimp only
    rw [hp]
    rfl
  have := fstB_up e (n - (k + 1))
  rw [show k + 1 + (n - (k + 1)) = n by omega] at this
  exact this
theorem fstB_no {p : Nat → Bool} {k : Nat} (h : fstB p k = none) (hp : p k = false) : fstB p (k + 1) = none := by
  show (match fstB p k with | some m => some m | none => if p k then some k else none) = _
  rw [h]
  dsimp only
  rw [hp]
  rfl
def lateS (π : PV) (κ : KV) (q l : Nat) : Bool := bt (κ 1 q) l && decide (0 < lackS π κ q l)
def mayS (π : PV) (κ : KV) (q l : Nat) : Bool := !bt (κ 1 q) l && (π 9 l 0 &&& (κ 1 q ^^^ (-1)) == 0)
def nxP (π : PV) (κ : KV) (q few : Nat) : Nat → Option Nat × Nat
  | 0 => (none, 0)
  | n + 1 => if decide ((mtS π κ q n).1 ≤ few) && decide ((nxP π κ q few n).2 < (mtS π κ q n).1) then (some n, (mtS π κ q n).1) else nxP π κ q few n
theorem nxP_lt {π : PV} {κ : KV} {q few : Nat} : ∀ {n m : Nat}, (nxP π κ q few n).1 = some m → m < n
  | 0, m, h => by cases h
  | n + 1, m, h => by
    unfold nxP at h
    split at h
    · cases h; exact Nat.lt_succ_self _
    · have := nxP_lt h; omega
theorem nxP_le {π : PV} {κ : KV} {q few : Nat} : ∀ n, (nxP π κ q few n).2 ≤ few
  | 0 => Nat.zero_le _
  | n + 1 => by
    have ih := nxP_le (π := π) (κ := κ) (q := q) (few := few) n
    unfold nxP
    split
    · rename_i h
      rw [Bool.and_eq_true, decide_eq_true_eq] at h
      exact h.1
    · exact ih
def A_next (π : PV) (κ : KV) (x y : Int32) : Int32 := if inB x 3 then (if inB y 17 then (match fstB (lateS π κ x.toNatClampNeg) (nL π) with
    | some l => nI l
    | none => (match (nxP π κ x.toNatClampNeg y.toNatClampNeg (nP π)).1 with
      | some p => nI (100 + p)
      | none => bI (fstB (mayS π κ x.toNatClampNeg) (nL π)))) else -1002) else -1001
section MNX
variable {Γ : Gx} {d : Nat} {w : Wd} {π : PV} {κ : KV}
theorem lp_next126 {Q : Int32 → St → Prop} {σ : St} {q : Nat} (hw : RunW w) (hV : MV σ = π) (hF : WF π) (hK : KM σ = κ) (hq : q < 3) (hQ : Q (bI (fstB (mayS π κ q) (nL π))) σ) :
    ∀ n k, k + n = nL π → fstB (mayS π κ q) k = none → AI Γ (d + 1) mX12_next w Q 126 [(0, .ref 390), (1, .int (nI q)), (5, .int (nI k))] σ := by
  obtain ⟨⟨-, -, ⟨n3, h7⟩, -⟩, -⟩ := hF
  have e0 : gI σ 390 10 = nI (nL π) := by rw [(mv_n hV).2.2.1, n3]
  intro n
  induction n with
  | zero =>
    intro k hk hf
    have : k = nL π := hk
    subst this
    rw [hf] at hQ
    exact vX12_next_126 hw ⟨fun _ => hQ, fun c => absurd (by rw [e0]; exact Int32.le_refl _) c⟩
  | succ n ih =>
    intro k hk hf
    have h3 : vp_in (nI q) 3 := vin (by omega)
    have i3 : (3 : Int32) * nI k = nI (3 * k + 0) := nI_mul 3 k
    have nx : mayS π κ q k = false → AI Γ (d + 1) mX12_next w Q 126 [(0, .ref 390), (1, .int (nI q)), (5, .int (nI (k + 1)))] σ := fun c => ih (k + 1) (by omega) (fstB_no hf c)
    refine vX12_next_126 hw ⟨fun c => absurd c (by rw [e0]; exact nI_ge (by omega) (by omega)), fun _ => ⟨h3, c_has (by omega) ?_⟩⟩
    rw [i3, cl (by omega), cl (by omega), km1 hK hq, mv9 hV, b2i_n0, b2i_0, nI_1]
    unfold mayS at nx
    refine ⟨fun c => nx (by rw [c]; rfl), fun c => ⟨vin (by omega), h3, fun c2 => nx ?_, fun c2 => ?_⟩⟩
    · have : (π 9 k 0 &&& (κ 1 q ^^^ (-1)) == 0) = false := by rw [beq_eq_false_iff_ne]; exact c2
      rw [this, Bool.and_false]
    · have h1 : (π 9 k 0 &&& (κ 1 q ^^^ (-1)) == 0) = true := by rw [beq_iff_eq]; exact c2
      have h2 : mayS π κ q k = true := by unfold mayS; rw [c, h1]; rfl
      rw [fstB_at hf h2 (show k < nL π by omega)] at hQ
      exact hQ
theorem lp_next70 {Q : Int32 → St → Prop} {σ0 : St} {q few : Nat} (hw : RunW w) (hV0 : MV σ0 = π) (hF : WF π) (hK0 : KM σ0 = κ) (hq : q < 3) (hf : few < 17)
    (hQ : ∀ σ, EqC σ0 σ → Q (match (nxP π κ q few (nP π)).1 with | some p => nI (100 + p) | none => bI (fstB (mayS π κ q) (nL π))) σ) :
    ∀ n k σ, k + n = nP π → EqC σ0 σ → AI Γ (d + 5) mX12_next w Q 70 [(0, .ref 390), (1, .int (nI q)), (2, .int (nI few)), (3, .int (bI (nxP π κ q few k).1)), (4, .int (nI (nxP π κ q few k).2)), (5, .int (nI k))] σ := by
  have hF' := hF
  obtain ⟨⟨-, ⟨-, h24⟩, -, n4, h8⟩, -⟩ := hF
  intro n
  induction n with
  | zero =>
    intro k σ hk hE
    have hV := hE.mv.trans hV0
    have e0 : gI σ 390 12 = nI (nP π) := by rw [(mv_n hV).2.2.2, n4]
    have : k = nP π := hk
    subst this
    have h := hQ σ hE
    refine vX12_next_70 hw ⟨fun _ => ?_, fun c => absurd (by rw [e0]; exact Int32.le_refl _) c⟩
    cases hb : (nxP π κ q few (nP π)).1 with
    | none =>
      rw [hb] at h
      exact ⟨fun _ => lp_next126 hw hV hF' (hE.km.trans hK0) hq h (nL π) 0 (Nat.zero_add _) rfl, fun c => absurd (by decide : bI none < 0) c⟩
    | some m =>
      have hm := nxP_lt hb
      rw [hb] at h
      have e1 : (100 : Int32) + nI m = nI (100 + m) := nI_add 100 m
      refine ⟨fun c => absurd c (nI_pos (by omega)), fun _ => ?_⟩
      show Q ((100 : Int32) + nI m) σ
      rw [e1]
      exact h
  | succ n ih =>
    intro k σ hk hE
    have hV := hE.mv.trans hV0
    have e0 : gI σ 390 12 = nI (nP π) := by rw [(mv_n hV).2.2.2, n4]
    have nx := ih (k + 1)
    have st : nxP π κ q few (k + 1) = if decide ((mtS π κ q k).1 ≤ few) && decide ((nxP π κ q few k).2 < (mtS π κ q k).1) then (some k, (mtS π κ q k).1) else nxP π κ q few k := rfl
    rw [st] at nx
    have hc : (mtS π κ q k).1 ≤ nW π := mtF_le _
    have hx := nxP_le (π := π) (κ := κ) (q := q) (few := few) k
    refine vX12_next_70 hw ⟨fun c => absurd c (by rw [e0]; exact nI_ge (by omega) (by omega)), fun _ => c_meetsOf hw hV hF' (hE.km.trans hK0) hq (by omega) fun s hs _ => ?_⟩
    rw [nI_ltI (by omega) (by omega), nI_leI (by omega) (by omega), nI_1]
    refine ⟨fun c => ?_, fun c => ⟨fun c2 => ?_, fun c2 => ?_⟩⟩
    · have z : decide ((mtS π κ q k).1 ≤ few) = false := by rw [decide_eq_false_iff_not]; omega
      rw [z, Bool.false_and, if_neg (by decide)] at nx
      exact nx s (by omega) (hE.tr hs)
    · have z : decide ((nxP π κ q few k).2 < (mtS π κ q k).1) = false := by rw [decide_eq_false_iff_not]; omega
      rw [z, Bool.and_false, if_neg (by decide)] at nx
      exact nx s (by omega) (hE.tr hs)
    · have z1 : decide ((mtS π κ q k).1 ≤ few) = true := by rw [decide_eq_true_eq]; omega
      have z2 : decide ((nxP π κ q few k).2 < (mtS π κ q k).1) = true := by rw [decide_eq_true_eq]; omega
      rw [z1, z2, Bool.and_true, if_pos rfl] at nx
      exact nx s (by omega) (hE.tr hs)
theorem lp_next24 {Q : Int32 → St → Prop} {σ : St} {q few : Nat} (hw : RunW w) (hV : MV σ = π) (hF : WF π) (hK : KM σ = κ) (hq : q < 3) (hf : few < 17)
    (hQ : ∀ σ', EqC σ σ' → Q (match fstB (lateS π κ q) (nL π) with | some l => nI l | none => (match (nxP π κ q few (nP π)).1 with | some p => nI (100 + p) | none => bI (fstB (mayS π κ q) (nL π)))) σ') :
    ∀ n k, k + n = nL π → fstB (lateS π κ q) k = none → AI Γ (d + 5) mX12_next w Q 24 [(0, .ref 390), (1, .int (nI q)), (2, .int (nI few)), (3, .int (nI k))] σ := by
  have hF' := hF
  obtain ⟨⟨-, -, ⟨n3, h7⟩, -⟩, -⟩ := hF
  have e0 : gI σ 390 10 = nI (nL π) := by rw [(mv_n hV).2.2.1, n3]
  intro n
  induction n with
  | zero =>
    intro k hk hn
    have : k = nL π := hk
    subst this
    rw [hn] at hQ
    refine vX12_next_24 hw ⟨fun _ => ?_, fun c => absurd (by rw [e0]; exact Int32.le_refl _) c⟩
    exact lp_next70 hw hV hF' hK hq hf hQ (nP π) 0 σ (Nat.zero_add _) (EqC.rf σ)
  | succ n ih =>
    intro k hk hn
    have nx : lateS π κ q k = false → AI Γ (d + 5) mX12_next w Q 24 [(0, .ref 390), (1, .int (nI q)), (2, .int (nI few)), (3, .int (nI (k + 1)))] σ := fun c => ih (k + 1) (by omega) (fstB_no hn c)
    unfold lateS at nx
    refine vX12_next_24 hw ⟨fun c => absurd c (by rw [e0]; exact nI_ge (by omega) (by omega)), fun _ => ⟨vin (by omega), c_has (by omega) ?_⟩⟩
    rw [cl (by omega), km1 hK hq, b2i_n0, b2i_0, nI_1]
    refine ⟨fun c => nx (by rw [c]; rfl), fun c => c_lacking hw hV hF' hK hq (by omega) ?_⟩
    have c1 := cntB_le (π 9 k 1 &&& (heldF κ q 0 (nS π) ^^^ (-1))) 24
    have c2 := cntB_le (π 9 k 2 &&& (heldF κ q 20 (nW π) ^^^ (-1))) 24
    have hl : lackS π κ q k ≤ 48 := by unfold lackS; omega
    have l0 : nI (lackS π κ q k) ≤ 0 ↔ lackS π κ q k ≤ 0 := nI_leI (b := 0) (by omega) (by decide)
    rw [l0]
    refine ⟨fun c3 => nx ?_, fun c3 => ?_⟩
    · have z : decide (0 < lackS π κ q k) = false := by rw [decide_eq_false_iff_not]; omega
      rw [z, Bool.and_false]
    · have z : decide (0 < lackS π κ q k) = true := by rw [decide_eq_true_eq]; omega
      have h2 : lateS π κ q k = true := by unfold lateS; rw [c, z]; rfl
      have h := hQ σ (EqC.rf σ)
      rw [fstB_at hn h2 (show k < nL π by omega)] at h
      exact h
theorem M_next {Q : Int32 → St → Prop} {σ : St} {x y : Int32} (hw : RunW w) (hV : MV σ = π) (hF : WF π) (hK : KM σ = κ) (hQ : ∀ σ', EqC σ σ' → Q (A_next π κ x y) σ') : SpI Γ (d + 5) mX12_next [.ref 390, .int x, .int y] σ w Q := by
  refine SpI.of pnX12 (Nat.le_of_ble_eq_true rfl) (vX12_next_0 (c_isPupil ?_))
  unfold A_next at hQ
  rw [b2i_n0, b2i_0]
  refine ⟨fun c => c_isFew ?_, fun c => by rw [c] at hQ; exact hQ σ (EqC.rf σ)⟩
  rw [c, if_pos rfl] at hQ
  rw [b2i_n0, b2i_0]
  refine ⟨fun c2 => ?_, fun c2 => by rw [c2] at hQ; exact hQ σ (EqC.rf σ)⟩
  rw [c2, if_pos rfl] at hQ
  obtain ⟨q, hq, rfl⟩ := inB_of c
  obtain ⟨f, hf, rfl⟩ := inB_of c2
  rw [cl (by omega), cl (by omega)] at hQ
  exact lp_next24 hw hV hF hK hq hf hQ (nL π) 0 (Nat.zero_add _) rfl
end MNX
