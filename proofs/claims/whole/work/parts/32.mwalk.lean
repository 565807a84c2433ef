/-! the reference: the course that is told -/
/-- step i of the state: lessons first, then pages; its number; where it leads to -/
def stX (π : PV) (u s i : Nat) : Option Nat := if i < nL π then stL π s i else stP π u s (i - nL π)
def nmb (π : PV) (i : Nat) : Nat := if i < nL π then i else 100 + (i - nL π)
def okX (π : PV) (p u s i : Nat) : Bool := match stX π u s i with
  | none => false
  | some t => decide (dst π p u t + 1 = dst π p u s)
def crsL (π : PV) (p u : Nat) : Nat → Nat → List Int32
  | 0, _ => []
  | f + 1, s => match fstB (okX π p u s) (nL π + nP π) with
    | none => []
    | some i => (match stX π u s i with
      | none => []
      | some t => nI (nmb π i) :: crsL π p u f t)
/-- as many steps as are to go -/
def crs (π : PV) (p u : Nat) : List Int32 := crsL π p u (dst π p u 0) 0
def A_course (π : PV) (p u x : Int32) : Int32 := if inB p (nP π) then (if inB u 17 then (if dst π p.toNatClampNeg u.toNatClampNeg 0 < 1000 then A_out (crs π p.toNatClampNeg u.toNatClampNeg) x else -1) else -1002) else -1001
theorem minF_att {g : Nat → Option Nat} {acc : Nat} : ∀ n, minF g acc n = acc ∨ ∃ k a, k < n ∧ g k = some a ∧ minF g acc n = a + 1
  | 0 => Or.inl rfl
  | n + 1 => by
    have st : minF g acc (n + 1) = (match g n with | none => minF g acc n | some a => if minF g acc n ≤ a + 1 then minF g acc n else a + 1) := rfl
    rw [st]
    have old : minF g acc n = acc ∨ ∃ k a, k < n + 1 ∧ g k = some a ∧ minF g acc n = a + 1 := by
      rcases minF_att (g := g) (acc := acc) n with h | ⟨k, a, h1, h2, h3⟩
      · exact Or.inl h
      · exact Or.inr ⟨k, a, by omega, h2, h3⟩
    cases hg : g n with
    | none => exact old
    | some a =>
      dsimp only
      by_cases e : minF g acc n ≤ a + 1
      · rw [if_pos e]
        exact old
      · rw [if_neg e]
        exact Or.inr ⟨n, a, Nat.lt_succ_self _, hg, rfl⟩
theorem stX_spec {π : PV} {u s i t : Nat} (hF : WF π) (hi : i < nL π + nP π) (h : stX π u s i = some t) (hs : s < 128 * 2 ^ nP π) : t < 128 * 2 ^ nP π := by
  obtain ⟨⟨-, -, ⟨n3, h7⟩, n4, h8⟩, -⟩ := hF
  rw [st_bnd] at hs ⊢
  unfold stX at h
  split at h
  · obtain ⟨-, b⟩ := stL_spec h (by omega)
    exact next_lt hs b (by omega)
  · obtain ⟨-, b⟩ := stP_spec h (by omega)
    exact next_lt hs b (by omega)
theorem step_ex {π : PV} {p u s : Nat} (hF : WF π) (hs : s < 128 * 2 ^ nP π) (h0 : dst π p u s ≠ 0) (h1 : dst π p u s < 1000) : s % 128 < 2 ^ nL π ∧ ∃ i t, fstB (okX π p u s) (nL π + nP π) = some i ∧ i < nL π + nP π ∧ stX π u s i = some t ∧ dst π p u t + 1 = dst π p u s := by
  have hF' := hF
  obtain ⟨⟨-, -, ⟨n3, h7⟩, n4, h8⟩, -⟩ := hF
  have h256 : 2 ^ nP π ≤ 2 ^ 8 := Nat.pow_le_pow_right (by decide) h8
  have ds := dst_step (p := p) (u := u) hF' (show s < 32768 by omega)
  have hb : bt (nI (s / 128)) p = false := by
    cases e : bt (nI (s / 128)) p with
    | false => rfl
    | true =>
      rw [e, if_pos rfl] at ds
      exact absurd ds h0
  rw [hb, if_neg (by decide)] at ds
  have hl : s % 128 < 2 ^ nL π := by
    by_cases e : s % 128 < 2 ^ nL π
    · exact e
    · rw [if_neg e] at ds
      omega
  rw [if_pos hl] at ds
  refine ⟨hl, ?_⟩
  have ex : ∃ k, k < nL π + nP π ∧ okX π p u s k = true := by
    rcases minF_att (g := gP π p u s) (acc := minF (gL π p u s) 1000 (nL π)) (nP π) with h | ⟨k, a, k1, k2, k3⟩
    · rw [h] at ds
      rcases minF_att (g := gL π p u s) (acc := 1000) (nL π) with h' | ⟨k, a, k1, k2, k3⟩
      · omega
      · refine ⟨k, by omega, ?_⟩
        unfold okX stX
        rw [if_pos k1]
        unfold gL at k2
        cases hq : stL π s k with
        | none => rw [hq] at k2; cases k2
        | some t =>
          rw [hq] at k2
          have : dst π p u t = a := Option.some.inj k2
          dsimp only
          rw [decide_eq_true_eq]
          omega
    · refine ⟨nL π + k, by omega, ?_⟩
      unfold okX stX
      rw [if_neg (by omega), Nat.add_sub_cancel_left]
      unfold gP at k2
      cases hq : stP π u s k with
      | none => rw [hq] at k2; cases k2
      | some t =>
        rw [hq] at k2
        have : dst π p u t = a := Option.some.inj k2
        dsimp only
        rw [decide_eq_true_eq]
        omega
  cases hf : fstB (okX π p u s) (nL π + nP π) with
  | none =>
    obtain ⟨k, k1, k2⟩ := ex
    have := fstB_none hf k k1
    rw [k2] at this
    cases this
  | some i =>
    obtain ⟨i1, i2, -⟩ := fstB_spec hf
    unfold okX at i2
    cases hq : stX π u s i with
    | none => rw [hq] at i2; cases i2
    | some t =>
      rw [hq] at i2
      exact ⟨i, t, rfl, i1, hq, by simpa using i2⟩
section MWK
variable {Γ : Gx} {d : Nat} {w : Wd} {π : PV}
theorem c_stepX {Q : Int32 → St → Prop} {σ : St} {s i u : Nat} (hw : RunW w) (hV : MV σ = π) (hF : WF π) (hs : s < 32768) (hl : s % 128 < 2 ^ nL π) (hi : i < nL π + nP π) (hu : u < 17) (hR : RdM π σ) (hQ : Q (stI (stX π u s i)) σ) : SpI Γ (d + 2) mX12_stepTo [.ref 390, .int (nI s), .int (nI (nmb π i)), .int (nI u)] σ w Q := by
  unfold stX at hQ
  unfold nmb
  by_cases e : i < nL π
  · rw [if_pos e] at hQ ⊢
    exact c_stepL hw hV hF hs e hQ
  · rw [if_neg e] at hQ ⊢
    exact c_stepP hw hV hF hs hl (by omega) hu hR hQ
theorem lp_crs96 {Q : Int32 → St → Prop} {σ : St} {p u s m g t : Nat} {x3 : Int32} (hw : RunW w) (hV : MV σ = π) (hF : WF π) (hu : u < 17) (hs : s < 128 * 2 ^ nP π) (hl : s % 128 < 2 ^ nL π) (hR : RdM π σ) (hT : ToGo π p u σ 0)
    (hg : fstB (okX π p u s) (nL π + nP π) = some g) (hq : stX π u s g = some t) (hd : dst π p u t + 1 = dst π p u s)
    (hX : AI Γ (d + 3) mX12_course w Q 84 [(0, .ref 390), (2, .int (nI u)), (3, .int x3), (4, .int (nI t)), (5, .int (nI (nmb π g))), (6, .int (nI m + 1))] σ) :
    ∀ n i, i + n = g → AI Γ (d + 3) mX12_course w Q 96 [(0, .ref 390), (2, .int (nI u)), (3, .int x3), (4, .int (nI s)), (5, .int (nI (nmb π i))), (6, .int (nI m)), (7, .int (stI (stX π u s i)))] σ := by
  have hF' := hF
  obtain ⟨⟨-, -, ⟨n3, h7⟩, n4, h8⟩, -⟩ := hF
  have h256 : 2 ^ nP π ≤ 2 ^ 8 := Nat.pow_le_pow_right (by decide) h8
  have e0 : gI σ 390 10 = nI (nL π) := by rw [(mv_n hV).2.2.1, n3]
  have hs' : s < 32768 := by omega
  have hds := dst_le (p := p) (u := u) hF' hs'
  obtain ⟨g1, -, g3⟩ := fstB_spec hg
  have es : gI σ 417 (nI s).toNatClampNeg = nI (dst π p u s) := by rw [cl (by omega)]; exact hT s (Nat.zero_le _) hs
  have hvs : vp_in (nI s) 32768 := vin hs'
  intro n
  induction n with
  | zero =>
    intro i hi
    have : i = g := hi
    subst this
    have e : stI (stX π u s i) = nI t := by rw [hq]; rfl
    have ht := stX_spec hF' g1 hq hs
    have et : gI σ 417 (nI t).toNatClampNeg = nI (dst π p u t) := by rw [cl (by omega)]; exact hT t (Nat.zero_le _) ht
    rw [e]
    refine vX12_course_96 hw ⟨fun q => absurd q (nI_pos (by omega)), fun _ => ⟨vin (by omega), hvs, ?_⟩⟩
    rw [et, es, nI_1, nI_eq (by omega) (by omega)]
    exact ⟨fun _ => hX, fun q => absurd hd q⟩
  | succ n ih =>
    intro i hi
    have nx := ih (i + 1) (by omega)
    have hn : (¬ nI (nmb π i) + 1 = gI σ 390 10 → SpI Γ (d + 2) mX12_stepTo [.ref 390, .int (nI s), .int (nI (nmb π i) + 1), .int (nI u)] σ w (fun v2 s1 => AI Γ (d + 3) mX12_course w Q 96 [(0, .ref 390), (2, .int (nI u)), (3, .int x3), (4, .int (nI s)), (5, .int (nI (nmb π i) + 1)), (6, .int (nI m)), (7, .int v2)] s1)) ∧ (nI (nmb π i) + 1 = gI σ 390 10 → SpI Γ (d + 2) mX12_stepTo [.ref 390, .int (nI s), .int 100, .int (nI u)] σ w (fun v2 s1 => AI Γ (d + 3) mX12_course w Q 96 [(0, .ref 390), (2, .int (nI u)), (3, .int x3), (4, .int (nI s)), (5, .int 100), (6, .int (nI m)), (7, .int v2)] s1)) := by
      have hst := c_stepX (Γ := Γ) (d := d) (Q := fun v2 s1 => AI Γ (d + 3) mX12_course w Q 96 [(0, .ref 390), (2, .int (nI u)), (3, .int x3), (4, .int (nI s)), (5, .int (nI (nmb π (i + 1)))), (6, .int (nI m)), (7, .int v2)] s1) hw hV hF' hs' hl (show i + 1 < nL π + nP π by omega) hu hR nx
      have hnb : nmb π i < 200 := by unfold nmb; split <;> omega
      rw [e0, nI_1, nI_eq (by omega) (by omega)]
      refine ⟨fun q => ?_, fun q => ?_⟩
      · have e : nmb π i + 1 = nmb π (i + 1) := by
          unfold nmb at q ⊢
          by_cases c : i < nL π
          · rw [if_pos c] at q ⊢
            rw [if_pos (by omega)]
          · rw [if_neg c, if_neg (by omega)]
            omega
        rw [e]
        exact hst
      · have e : nmb π (i + 1) = 100 := by
          unfold nmb at q ⊢
          by_cases c : i < nL π
          · rw [if_pos c] at q
            rw [if_neg (by omega)]
            omega
          · rw [if_neg c] at q
            omega
        rw [e] at hst
        exact hst
    have hok := g3 i (by omega)
    unfold okX at hok
    cases hq' : stX π u s i with
    | none => exact vX12_course_96 hw ⟨fun _ => hn, fun q => absurd (by decide : stI none < 0) q⟩
    | some t' =>
      rw [hq'] at hok
      have ht := stX_spec hF' (by omega) hq' hs
      have hdt := dst_le (p := p) (u := u) hF' (show t' < 32768 by omega)
      have et : gI σ 417 (nI t').toNatClampNeg = nI (dst π p u t') := by rw [cl (by omega)]; exact hT t' (Nat.zero_le _) ht
      show AI Γ (d + 3) mX12_course w Q 96 [(0, .ref 390), (2, .int (nI u)), (3, .int x3), (4, .int (nI s)), (5, .int (nI (nmb π i))), (6, .int (nI m)), (7, .int (nI t'))] σ
      refine vX12_course_96 hw ⟨fun _ => hn, fun _ => ⟨vin (by omega), hvs, ?_⟩⟩
      rw [et, es, nI_1, nI_eq (by omega) (by omega)]
      exact ⟨fun q => absurd q (by simpa using hok), fun _ => hn⟩
theorem lp_crs84 {Q : Int32 → St → Prop} {σ : St} {p u a : Nat} (hw : RunW w) (hV : MV σ = π) (hF : WF π) (hu : u < 17) (hR : RdM π σ) (hT : ToGo π p u σ 0) (ha : a < 1000) :
    ∀ n s m (x5 : Int32), m + n = a + 1 → s < 128 * 2 ^ nP π → dst π p u s < 1000 → n ≤ dst π p u s → Q (if n = 0 then x5 else (crsL π p u (dst π p u s) s).getD (n - 1) 0) σ →
    AI Γ (d + 3) mX12_course w Q 84 [(0, .ref 390), (2, .int (nI u)), (3, .int (nI a)), (4, .int (nI s)), (5, .int x5), (6, .int (nI m))] σ := by
  have hF' := hF
  obtain ⟨⟨-, -, ⟨n3, h7⟩, n4, h8⟩, -⟩ := hF
  have h256 : 2 ^ nP π ≤ 2 ^ 8 := Nat.pow_le_pow_right (by decide) h8
  have e0 : gI σ 390 10 = nI (nL π) := by rw [(mv_n hV).2.2.1, n3]
  intro n
  induction n with
  | zero =>
    intro s m x5 hm hs h1 hn hQ
    refine vX12_course_84 ⟨fun _ => hQ, fun q => absurd (nI_lt (by omega) (by omega)) q⟩
  | succ n ih =>
    intro s m x5 hm hs h1 hn hQ
    refine vX12_course_84 ⟨fun q => absurd q (nI_nlt (by omega) (by omega)), fun _ => ?_⟩
    obtain ⟨hl, i, t, hf, hi, hq, hd⟩ := step_ex hF' hs (by omega) h1
    have ht := stX_spec hF' hi hq hs
    have ec : crsL π p u (dst π p u s) s = nI (nmb π i) :: crsL π p u (dst π p u t) t := by
      rw [← hd]
      show (match fstB (okX π p u s) (nL π + nP π) with | none => [] | some i => _) = _
      rw [hf]
      dsimp only
      rw [hq]
    rw [if_neg (by omega), ec, Nat.add_sub_cancel] at hQ
    have nx := ih t (m + 1) (nI (nmb π i)) (by omega) ht (by omega) (by omega) (by
      by_cases e : n = 0
      · subst e
        rw [if_pos rfl]
        exact hQ
      · rw [if_neg e]
        obtain ⟨k, rfl⟩ : ∃ k, n = k + 1 := ⟨n - 1, by omega⟩
        exact hQ)
    have hX : AI Γ (d + 3) mX12_course w Q 84 [(0, .ref 390), (2, .int (nI u)), (3, .int (nI a)), (4, .int (nI t)), (5, .int (nI (nmb π i))), (6, .int (nI m + 1))] σ := by
      rw [nI_1]
      exact nx
    have h96 := lp_crs96 (Γ := Γ) (d := d) hw hV hF' hu hs hl hR hT hf hq hd hX i 0 (Nat.zero_add _)
    have hst := c_stepX (Γ := Γ) (d := d) (Q := fun v2 s1 => AI Γ (d + 3) mX12_course w Q 96 [(0, .ref 390), (2, .int (nI u)), (3, .int (nI a)), (4, .int (nI s)), (5, .int (nI (nmb π 0))), (6, .int (nI m)), (7, .int v2)] s1) hw hV hF' (show s < 32768 by omega) hl (show 0 < nL π + nP π by omega) hu hR h96
    refine vX12_course_96 hw ⟨fun _ => ⟨fun q => ?_, fun q => ?_⟩, fun q => absurd (by decide : (-1 : Int32) < 0) q⟩
    · have e : nmb π 0 = 0 := by
        unfold nmb
        rw [if_pos]
        rw [e0] at q
        rcases Nat.eq_zero_or_pos (nL π) with c | c
        · rw [c] at q
          exact absurd (by decide) q
        · exact c
      rw [e] at hst
      exact hst
    · have e : nmb π 0 = 100 := by
        unfold nmb
        rw [e0] at q
        have c : 0 = nL π := nI_inj (by decide) (by omega) (by rw [← q]; decide)
        rw [if_neg (by omega)]
        omega
      rw [e] at hst
      exact hst
theorem crs_len {p u : Nat} (hF : WF π) : ∀ n s, s < 128 * 2 ^ nP π → dst π p u s < 1000 → dst π p u s = n → (crsL π p u n s).length = n := by
  intro n
  induction n with
  | zero => intro s _ _ _; rfl
  | succ n ih =>
    intro s hs h1 h
    obtain ⟨hl, i, t, hf, hi, hq, hd⟩ := step_ex hF hs (by omega) h1
    have ht := stX_spec hF hi hq hs
    show (match fstB (okX π p u s) (nL π + nP π) with | none => [] | some i => _).length = _
    rw [hf]
    dsimp only
    rw [hq]
    exact congrArg (· + 1) (ih t ht (by omega) (by omega))
theorem M_course {Q : Int32 → St → Prop} {σ : St} {x y z : Int32} (hw : RunW w) (hV : MV σ = π) (hF : WF π) (hQ : ∀ σ', EqC σ σ' → Q (A_course π x y z) σ') : SpI Γ (d + 6) mX12_course [.ref 390, .int x, .int y, .int z] σ w Q := by
  have hF' := hF
  obtain ⟨⟨-, -, ⟨n3, h7⟩, n4, h8⟩, -⟩ := hF
  refine SpI.of pnX12 (Nat.le_of_ble_eq_true rfl) (vX12_course_0 hw (c_isPage hw ((mv_n hV).2.2.2.trans n4) (by omega) ?_))
  rw [b2i_n0, b2i_0]
  unfold A_course at hQ
  refine ⟨fun q => c_isFew ?_, fun q => by rw [q] at hQ; exact hQ σ (EqC.rf σ)⟩
  rw [q, if_pos rfl] at hQ
  rw [b2i_n0, b2i_0]
  refine ⟨fun q2 => ?_, fun q2 => by rw [q2] at hQ; exact hQ σ (EqC.rf σ)⟩
  rw [q2, if_pos rfl] at hQ
  obtain ⟨p, hp, rfl⟩ := inB_of q
  obtain ⟨u, hu, rfl⟩ := inB_of q2
  rw [cl (by omega), cl (by omega)] at hQ
  refine c_findCourses hw hV hF' hp hu fun s hE hR hT => ⟨vin (n := 0) (by decide), ?_⟩
  have hpos : 0 < 128 * 2 ^ nP π := Nat.mul_pos (by decide) (Nat.pow_pos (by decide))
  have e0 : gI s 417 (0 : Int32).toNatClampNeg = nI (dst π p u 0) := hT 0 (Nat.le_refl _) hpos
  have hd := dst_le (p := p) (u := u) hF' (show 0 < 32768 by decide)
  have h := hQ s hE
  have l1 : nI (dst π p u 0) < 1000 ↔ dst π p u 0 < 1000 := nI_ltI (b := 1000) (by omega) (by decide)
  rw [e0, l1]
  refine ⟨fun q3 => ?_, fun q3 => by rw [if_neg q3] at h; exact h⟩
  rw [if_pos q3] at h
  have hlen : (crs π p u).length = dst π p u 0 := crs_len hF' _ 0 hpos q3 rfl
  unfold A_out at h
  rw [hlen] at h
  refine ⟨fun q4 => ⟨vin (n := 0) (by decide), c_in ?_⟩, fun q4 => ⟨vin (n := 0) (by decide), ?_⟩⟩
  · rw [if_neg q4] at h
    rw [in_sgn (by omega), b2i_n0, b2i_0]
    refine ⟨fun q5 => ?_, fun q5 => by rw [q5] at h; exact h⟩
    rw [q5, if_pos rfl] at h
    obtain ⟨a, ha, rfl⟩ := inB_of q5
    rw [cl (by omega)] at h
    exact lp_crs84 hw (hE.mv.trans hV) hF' hu hR hT (by omega) (a + 1) 0 0 0 (by omega) hpos q3 (by omega) (by rw [if_neg (by omega)]; exact h)
  · rw [if_pos q4] at h
    exact h
end MWK
