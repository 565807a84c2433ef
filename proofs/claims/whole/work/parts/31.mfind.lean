/-! the reference: all courses are found -/
def scrC (o k : Nat) : Bool := scrM o k || o == 417 || o == 418 || (o == 390 && k == 52)
def EqC (σ σ' : St) : Prop := (∀ o k, scrC o k = false → gI σ' o k = gI σ o k) ∧ (∀ o k, o ≠ 390 → o ≠ 415 → gJ σ' o k = gJ σ o k) ∧ ∀ o k, gR σ' o k = gR σ o k
theorem EqM.c {σ σ' : St} (h : EqM σ σ') : EqC σ σ' := ⟨fun o k q => h.1 o k (by unfold scrC at q; simp only [Bool.or_eq_false_iff] at q; exact q.1.1.1), h.2⟩
theorem EqC.rf (σ : St) : EqC σ σ := (EqM.rf σ).c
theorem EqC.tr {a b c : St} (h : EqC a b) (h2 : EqC b c) : EqC a c := ⟨fun o k q => (h2.1 o k q).trans (h.1 o k q), fun o k q q2 => (h2.2.1 o k q q2).trans (h.2.1 o k q q2), fun o k => (h2.2.2 o k).trans (h.2.2 o k)⟩
theorem eqC_u {σ : St} {o k : Nat} {v : Int32} (h : o = 417 ∨ o = 418) : EqC σ (uI σ o k v) := by
  refine ⟨fun a b q => ?_, fun a b _ _ => rfl, fun _ _ => rfl⟩
  rw [gI_uI, if_neg]
  rintro ⟨rfl, rfl⟩
  unfold scrC at q
  rcases h with rfl | rfl <;> simp at q
theorem eqC_52 {σ : St} {v : Int32} : EqC σ (uI σ 390 52 v) := by
  refine ⟨fun a b q => ?_, fun a b _ _ => rfl, fun _ _ => rfl⟩
  rw [gI_uI, if_neg]
  rintro ⟨rfl, rfl⟩
  exact absurd q (by decide)
theorem EqC.mv {σ σ' : St} (h : EqC σ σ') : MV σ' = MV σ := by
  funext t i j
  unfold MV
  have z : ∀ o k, o ≠ 390 → o < 415 → gI σ' o k = gI σ o k := fun o k h1 h2 => h.1 o k (by
    have a1 : ¬ o = 415 := by omega
    have a2 : ¬ o = 416 := by omega
    have a3 : ¬ o = 417 := by omega
    have a4 : ¬ o = 418 := by omega
    simp [scrC, scrM, h1, a1, a2, a3, a4])
  split
  · split <;> exact h.1 _ _ (by decide)
  all_goals exact z _ _ (by decide) (by decide)
/-- what is to go is known from state r on -/
def ToGo (π : PV) (p u : Nat) (σ : St) (r : Nat) : Prop := ∀ t, r ≤ t → t < 128 * 2 ^ nP π → gI σ 417 t = nI (dst π p u t)
theorem st_bnd {π : PV} : 128 * 2 ^ nP π = 2 ^ (7 + nP π) := by
  rw [Nat.pow_add]
section MFI
variable {Γ : Gx} {d : Nat} {w : Wd} {π : PV}
theorem lp_fc99 {Q : St → Prop} {σ : St} {p u s : Nat} (hw : RunW w) (hV : MV σ = π) (hF : WF π) (hs : s < 128 * 2 ^ nP π) (hT : ToGo π p u σ (s + 1))
    (hX : AV Γ (d + 3) mX12_findCourses w Q 167 [(0, .ref 390), (1, .int (nI p)), (2, .int (nI u)), (3, .int (nI s)), (4, .int (nI (minF (gL π p u s) 1000 (nL π)))), (5, .int 1), (6, .int 0)] σ) :
    ∀ n l, l + n = nL π → AV Γ (d + 3) mX12_findCourses w Q 99 [(0, .ref 390), (1, .int (nI p)), (2, .int (nI u)), (3, .int (nI s)), (4, .int (nI (minF (gL π p u s) 1000 l))), (5, .int 1), (6, .int (nI l))] σ := by
  have hF' := hF
  obtain ⟨⟨-, -, ⟨n3, h7⟩, n4, h8⟩, -⟩ := hF
  have hb : 128 * 2 ^ nP π ≤ 32768 := by
    have : 2 ^ nP π ≤ 2 ^ 8 := Nat.pow_le_pow_right (by decide) h8
    omega
  have e0 : gI σ 390 10 = nI (nL π) := by rw [(mv_n hV).2.2.1, n3]
  intro n
  induction n with
  | zero =>
    intro l hl
    have : l = nL π := hl
    subst this
    exact vX12_findCourses_99 hw ⟨fun _ => hX, fun q => absurd (by rw [e0]; exact Int32.le_refl _) q⟩
  | succ n ih =>
    intro l hl
    have nx := ih (l + 1) (by omega)
    have st : minF (gL π p u s) 1000 (l + 1) = (match gL π p u s l with
      | none => minF (gL π p u s) 1000 l
      | some a => if minF (gL π p u s) 1000 l ≤ a + 1 then minF (gL π p u s) 1000 l else a + 1) := rfl
    rw [st] at nx
    refine vX12_findCourses_99 hw ⟨fun q => absurd q (by rw [e0]; exact nI_ge (by omega) (by omega)), fun _ => ⟨fun q => absurd q (by decide), fun _ => c_stepL hw hV hF' (by omega) (by omega) ?_⟩⟩
    rw [nI_1]
    cases hq : stL π s l with
    | none =>
      have g : gL π p u s l = none := by unfold gL; rw [hq]; rfl
      rw [g] at nx
      exact ⟨fun _ => nx, fun q => absurd (by decide : stI none < 0) q⟩
    | some t =>
      have g : gL π p u s l = some (dst π p u t) := by unfold gL; rw [hq]; rfl
      rw [g] at nx
      dsimp only at nx
      obtain ⟨a, b⟩ := stL_spec hq (by omega)
      have ht : t < 128 * 2 ^ nP π := by
        rw [st_bnd] at hs ⊢
        exact next_lt hs b (by omega)
      have hd := dst_le (p := p) (u := u) hF' (show t < 32768 by omega)
      have hm := minF_le (g := gL π p u s) (acc := 1000) l
      have hv : vp_in (nI t) 32768 := vin (by omega)
      have et : gI σ 417 (nI t).toNatClampNeg = nI (dst π p u t) := by rw [cl (by omega)]; exact hT t (by omega) ht
      show (nI t < 0 → _) ∧ (¬ nI t < 0 → (vp_in (nI t) 32768) ∧ _)
      refine ⟨fun q => absurd q (nI_pos (by omega)), fun _ => ⟨hv, ?_⟩⟩
      show (_ ≤ gI σ 417 (nI t).toNatClampNeg + 1 → _) ∧ (¬ _ ≤ gI σ 417 (nI t).toNatClampNeg + 1 → (vp_in (nI t) 32768) ∧ AV Γ (d + 3) mX12_findCourses w Q 99 [(0, .ref 390), (1, .int (nI p)), (2, .int (nI u)), (3, .int (nI s)), (4, .int (gI σ 417 (nI t).toNatClampNeg + 1)), (5, .int 1), (6, .int (nI (l + 1)))] σ)
      rw [et, nI_1, nI_leI (by omega) (by omega)]
      refine ⟨fun q => ?_, fun q => ⟨hv, ?_⟩⟩
      · simp only [if_pos q] at nx
        exact nx
      · simp only [if_neg q] at nx
        exact nx
theorem lp_fc167 {Q : St → Prop} {σ : St} {p u s : Nat} (hw : RunW w) (hV : MV σ = π) (hF : WF π) (hu : u < 17) (hs : s < 128 * 2 ^ nP π) (hl : s % 128 < 2 ^ nL π) (hR : RdM π σ) (hT : ToGo π p u σ (s + 1)) {acc : Nat} (hacc : acc ≤ 1000)
    (hX : AV Γ (d + 3) mX12_findCourses w Q 42 [(0, .ref 390), (1, .int (nI p)), (2, .int (nI u)), (3, .int (nI s + -1))] (uI σ 417 (nI s).toNatClampNeg (nI (minF (gP π p u s) acc (nP π))))) :
    ∀ n l, l + n = nP π → AV Γ (d + 3) mX12_findCourses w Q 167 [(0, .ref 390), (1, .int (nI p)), (2, .int (nI u)), (3, .int (nI s)), (4, .int (nI (minF (gP π p u s) acc l))), (5, .int 1), (6, .int (nI l))] σ := by
  have hF' := hF
  obtain ⟨⟨-, -, ⟨n3, h7⟩, n4, h8⟩, -⟩ := hF
  have hb : 128 * 2 ^ nP π ≤ 32768 := by
    have : 2 ^ nP π ≤ 2 ^ 8 := Nat.pow_le_pow_right (by decide) h8
    omega
  have e0 : gI σ 390 12 = nI (nP π) := by rw [(mv_n hV).2.2.2, n4]
  intro n
  induction n with
  | zero =>
    intro l hl'
    have : l = nP π := hl'
    subst this
    exact vX12_findCourses_167 hw ⟨fun _ => ⟨vin (by omega), hX⟩, fun q => absurd (by rw [e0]; exact Int32.le_refl _) q⟩
  | succ n ih =>
    intro l hl'
    have nx := ih (l + 1) (by omega)
    have st : minF (gP π p u s) acc (l + 1) = (match gP π p u s l with
      | none => minF (gP π p u s) acc l
      | some a => if minF (gP π p u s) acc l ≤ a + 1 then minF (gP π p u s) acc l else a + 1) := rfl
    rw [st] at nx
    have e1 : (100 : Int32) + nI l = nI (100 + l) := nI_add 100 l
    refine vX12_findCourses_167 hw ⟨fun q => absurd q (by rw [e0]; exact nI_ge (by omega) (by omega)), fun _ => ⟨fun q => absurd q (by decide), fun _ => ?_⟩⟩
    rw [e1]
    refine c_stepP hw hV hF' (by omega) hl (by omega) hu hR ?_
    rw [nI_1]
    cases hq : stP π u s l with
    | none =>
      have g : gP π p u s l = none := by unfold gP; rw [hq]; rfl
      rw [g] at nx
      exact ⟨fun _ => nx, fun q => absurd (by decide : stI none < 0) q⟩
    | some t =>
      have g : gP π p u s l = some (dst π p u t) := by unfold gP; rw [hq]; rfl
      rw [g] at nx
      dsimp only at nx
      obtain ⟨a, b⟩ := stP_spec hq (by omega)
      have ht : t < 128 * 2 ^ nP π := by
        rw [st_bnd] at hs ⊢
        exact next_lt hs b (by omega)
      have hd := dst_le (p := p) (u := u) hF' (show t < 32768 by omega)
      have hm := minF_le (g := gP π p u s) (acc := acc) l
      have hv : vp_in (nI t) 32768 := vin (by omega)
      have et : gI σ 417 (nI t).toNatClampNeg = nI (dst π p u t) := by rw [cl (by omega)]; exact hT t (by omega) ht
      show (nI t < 0 → _) ∧ (¬ nI t < 0 → (vp_in (nI t) 32768) ∧ _)
      refine ⟨fun q => absurd q (nI_pos (by omega)), fun _ => ⟨hv, ?_⟩⟩
      show (_ ≤ gI σ 417 (nI t).toNatClampNeg + 1 → _) ∧ (¬ _ ≤ gI σ 417 (nI t).toNatClampNeg + 1 → (vp_in (nI t) 32768) ∧ AV Γ (d + 3) mX12_findCourses w Q 167 [(0, .ref 390), (1, .int (nI p)), (2, .int (nI u)), (3, .int (nI s)), (4, .int (gI σ 417 (nI t).toNatClampNeg + 1)), (5, .int 1), (6, .int (nI (l + 1)))] σ)
      rw [et, nI_1, nI_leI (by omega) (by omega)]
      refine ⟨fun q => ?_, fun q => ⟨hv, ?_⟩⟩
      · simp only [if_pos q] at nx
        exact nx
      · simp only [if_neg q] at nx
        exact nx
theorem lp_fc42 {Q : St → Prop} {σ0 : St} {p u : Nat} (hw : RunW w) (hV0 : MV σ0 = π) (hF : WF π) (hp : p < nP π) (hu : u < 17)
    (hQ : ∀ σ, EqC σ0 σ → RdM π σ → ToGo π p u σ 0 → Q σ) :
    ∀ r σ, r ≤ 128 * 2 ^ nP π → EqC σ0 σ → RdM π σ → ToGo π p u σ r → AV Γ (d + 3) mX12_findCourses w Q 42 [(0, .ref 390), (1, .int (nI p)), (2, .int (nI u)), (3, .int (dn r))] σ := by
  have hF' := hF
  obtain ⟨⟨-, -, ⟨n3, h7⟩, n4, h8⟩, -⟩ := hF
  have hb : 128 * 2 ^ nP π ≤ 32768 := by
    have : 2 ^ nP π ≤ 2 ^ 8 := Nat.pow_le_pow_right (by decide) h8
    omega
  intro r
  induction r with
  | zero =>
    intro σ _ hE hR hT
    exact vX12_findCourses_42 hw ⟨fun _ => hQ σ hE hR hT, fun q => absurd dn_0 q⟩
  | succ s ih =>
    intro σ hr hE hR hT
    have hV := hE.mv.trans hV0
    have e0 : gI σ 390 10 = nI (nL π) := by rw [(mv_n hV).2.2.1, n3]
    have nx : AV Γ (d + 3) mX12_findCourses w Q 42 [(0, .ref 390), (1, .int (nI p)), (2, .int (nI u)), (3, .int (nI s + -1))] (uI σ 417 (nI s).toNatClampNeg (nI (dst π p u s))) := by
      refine ih _ (by omega) (hE.tr (eqC_u (Or.inl rfl))) (fun a ha => ?_) (fun t h1 h2 => ?_)
      · rw [gI_uI, if_neg (by omega)]
        exact hR a ha
      · rw [gI_uI, cl (by omega)]
        by_cases e : t = s
        · subst e
          rw [if_pos ⟨rfl, rfl⟩]
        · rw [if_neg (by omega)]
          exact hT t (by omega) h2
    have fin : ∀ c, c = dst π p u s → AV Γ (d + 3) mX12_findCourses w Q 99 [(0, .ref 390), (1, .int (nI p)), (2, .int (nI u)), (3, .int (nI s)), (4, .int (nI c)), (5, .int 0), (6, .int 0)] σ := by
      rintro c rfl
      have hv : vp_in (nI s) 32768 := vin (by omega)
      have A : AV Γ (d + 3) mX12_findCourses w Q 167 [(0, .ref 390), (1, .int (nI p)), (2, .int (nI u)), (3, .int (nI s)), (4, .int (nI (dst π p u s))), (5, .int 0), (6, .int 0)] σ := vX12_findCourses_167 hw ⟨fun _ => ⟨hv, nx⟩, fun _ => ⟨fun _ => ⟨hv, nx⟩, fun q => absurd rfl q⟩⟩
      exact vX12_findCourses_99 hw ⟨fun _ => A, fun _ => ⟨fun _ => A, fun q => absurd rfl q⟩⟩
    have ds := dst_step (p := p) (u := u) hF' (show s < 32768 by omega)
    have h128 : 2 ^ nL π ≤ 2 ^ 7 := Nat.pow_le_pow_right (by decide) h7
    rw [dn_s]
    refine vX12_findCourses_42 hw ?_
    rw [div128 (by omega)]
    refine ⟨fun q => absurd q (nI_pos (by omega)), fun _ => c_has (by omega) ?_⟩
    have em : nI s - nI (s / 128) * 128 = nI (s % 128) := by
      have := mod128 (show s < 32768 by omega)
      rw [div128 (by omega)] at this
      exact this
    rw [b2i_n0, b2i_0, e0, em, shl_pw _ (by omega), nI_leI (by omega) (by omega)]
    refine ⟨fun q => ⟨fun q2 => fin 1000 ?_, fun q2 => ?_⟩, fun q => fin 0 ?_⟩
    · rw [ds, q, if_neg (by decide), if_neg (by omega)]
    · rw [q, if_neg (by decide), if_pos (by omega)] at ds
      refine lp_fc99 hw hV hF' (by omega) hT ?_ (nL π) 0 (Nat.zero_add _)
      refine lp_fc167 hw hV hF' hu (by omega) (by omega) hR hT (minF_le _) ?_ (nP π) 0 (Nat.zero_add _)
      rw [← ds]
      exact nx
    · rw [ds, q, if_pos rfl]
theorem lp_fc2 {Q : St → Prop} {σ0 : St} {p u : Nat} (hw : RunW w) (hV0 : MV σ0 = π) (hF : WF π) (hp : p < nP π) (hu : u < 17)
    (hQ : ∀ σ, EqC σ0 σ → RdM π σ → ToGo π p u σ 0 → Q σ) :
    ∀ m a σ, a + m = 2 ^ nL π → EqC σ0 σ → (∀ b, b < a → gI σ 418 b = readS π (nI b)) → AV Γ (d + 5) mX12_findCourses w Q 2 [(0, .ref 390), (1, .int (nI p)), (2, .int (nI u)), (3, .int (nI a))] σ := by
  have hF' := hF
  obtain ⟨⟨-, -, ⟨n3, h7⟩, n4, h8⟩, -⟩ := hF
  have h128 : 2 ^ nL π ≤ 2 ^ 7 := Nat.pow_le_pow_right (by decide) h7
  have h256 : 2 ^ nP π ≤ 2 ^ 8 := Nat.pow_le_pow_right (by decide) h8
  intro m
  induction m with
  | zero =>
    intro a σ ha hE hR
    have hV := hE.mv.trans hV0
    have e0 : gI σ 390 10 = nI (nL π) := by rw [(mv_n hV).2.2.1, n3]
    have e1 : gI σ 390 12 = nI (nP π) := by rw [(mv_n hV).2.2.2, n4]
    have ha' : a = 2 ^ nL π := ha
    subst ha'
    refine vX12_findCourses_2 hw ⟨fun _ => ?_, fun q => absurd (by rw [e0, shl_pw _ (by omega)]; exact Int32.le_refl _) q⟩
    have e2 : (128 : Int32) * nI (2 ^ nP π) = nI (128 * 2 ^ nP π) := nI_mul 128 _
    rw [e1, shl_pw _ (by omega), e2, dn_m]
    exact lp_fc42 hw hV0 hF' hp hu hQ _ σ (Nat.le_refl _) hE hR (fun t h1 h2 => absurd h1 (by omega))
  | succ m ih =>
    intro a σ ha hE hR
    have hV := hE.mv.trans hV0
    have e0 : gI σ 390 10 = nI (nL π) := by rw [(mv_n hV).2.2.1, n3]
    refine vX12_findCourses_2 hw ⟨fun q => absurd q (by rw [e0, shl_pw _ (by omega)]; exact nI_ge (by omega) (by omega)), fun _ => c_readsOf hw hV hF' fun s hs => ⟨vin (by omega), ?_⟩⟩
    rw [nI_1, cl (by omega)]
    refine ih (a + 1) _ (by omega) (hE.tr (hs.c.tr (eqC_u (Or.inr rfl)))) (fun b hb => ?_)
    rw [gI_uI]
    by_cases e : b = a
    · subst e
      rw [if_pos ⟨rfl, rfl⟩]
    · rw [if_neg (by omega), hs.1 418 b (by simp [scrM]), hR b (by omega)]
theorem c_findCourses {Q : St → Prop} {σ : St} {p u : Nat} (hw : RunW w) (hV : MV σ = π) (hF : WF π) (hp : p < nP π) (hu : u < 17)
    (hQ : ∀ σ', EqC σ σ' → RdM π σ' → ToGo π p u σ' 0 → Q σ') : SpV Γ (d + 5) mX12_findCourses [.ref 390, .int (nI p), .int (nI u)] σ w Q :=
  SpV.of pnX12 (Nat.le_of_ble_eq_true rfl) (vX12_findCourses_0 (lp_fc2 hw hV hF hp hu hQ (2 ^ nL π) 0 σ (Nat.zero_add _) (EqC.rf σ) (fun b hb => absurd hb (Nat.not_lt_zero b))))
end MFI
