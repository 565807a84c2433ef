/-! the reference: the first cut of a word -/
def gdS (π : PV) (v : Nat) (set : Int32) (i j k : Nat) : Bool := match ldS π v set i j k with
  | none => false
  | some q => !decide (wy π v set q.1 q.2 = 0)
def cutL (π : PV) (v : Nat) (set : Int32) : Nat → Nat → Nat → List Int32
  | 0, _, _ => []
  | f + 1, i, j => if i < wS π v then (match fstB (gdS π v set i j) (nS π) with
      | none => []
      | some k => (match ldS π v set i j k with
        | none => []
        | some q => nI k :: cutL π v set f q.1 q.2)) else []
def A_cut (π : PV) (v set x : Int32) : Int32 := if inB v (nW π) && inB set (2 ^ nS π) then (if wy π v.toNatClampNeg set 0 0 = 0 then -1 else A_out (cutL π v.toNatClampNeg set 9 0 0) x) else -1001
theorem gd_some {π : PV} {v : Nat} {set : Int32} (hs : WFs π) {i j : Nat} (hi : i < wS π v) (hj : j ≤ wN π v) (h : wy π v set i j ≠ 0) : ∃ k q, fstB (gdS π v set i j) (nS π) = some k ∧ k < nS π ∧ ldS π v set i j k = some q ∧ wy π v set q.1 q.2 ≠ 0 := by
  cases hb : fstB (gdS π v set i j) (nS π) with
  | none =>
    exfalso
    apply h
    rw [wy_step hs hi hj, sumN_0]
    intro k hk
    have := fstB_none hb k hk
    unfold gdS at this
    cases hq : ldS π v set i j k with
    | none => rfl
    | some q =>
      rw [hq] at this
      simpa using this
  | some k =>
    obtain ⟨h1, h2, -⟩ := fstB_spec hb
    unfold gdS at h2
    cases hq : ldS π v set i j k with
    | none =>
      rw [hq] at h2
      cases h2
    | some q =>
      rw [hq] at h2
      refine ⟨k, q, rfl, h1, hq, ?_⟩
      simpa using h2
theorem div9 : ∀ a, a < 90 → nI a / 9 = nI (a / 9) := by decide +kernel
theorem mod9 : ∀ a, a < 90 → nI a - nI a / 9 * 9 = nI (a % 9) := by decide +kernel
theorem lN_z {n : Nat} (h : n < 2 ^ 63) : lg_cmp (lN n) 0 = 0 ↔ n = 0 := by
  constructor
  · intro q
    exact (lN_pos h).mp (by rw [q]; decide)
  · intro e
    subst e
    decide
theorem ge_m1 {x : Int32} (h : -1 ≤ x) : x = -1 ∨ ∃ a, a < 2 ^ 31 ∧ x = nI a := by
  by_cases e : x < 0
  · left
    rw [Int32.le_iff_toInt_le] at h
    rw [Int32.lt_iff_toInt_lt] at e
    have h1 : (-1 : Int32).toInt = -1 := by decide
    have h0 : (0 : Int32).toInt = 0 := by decide
    apply Int32.toInt_inj.mp
    omega
  · right
    exact nI_of e
theorem out_at {pre rest : List Int32} {y : Int32} (h : pre.length < 2 ^ 31) : A_out (pre ++ y :: rest) (nI pre.length) = y := by
  unfold A_out
  have hl : decide (pre.length < (pre ++ y :: rest).length) = true := by simp
  rw [if_neg (nI_ne_m1 h), inB_nI h, hl, if_pos rfl, cl h]
  simp
section MCU
variable {Γ : Gx} {d : Nat} {w : Wd} {π : PV}
theorem lp_cut80 {Q : Int32 → St → Prop} {σ : St} {v i j m g : Nat} {q : Nat × Nat} {set x3 : Int32} (hw : RunW w) (hV : MV σ = π) (hF : WF π) (hv : v < nW π) (hi : i < wS π v) (hj : j ≤ wN π v) (hO : OnsM π v set σ 0 0)
    (hg : fstB (gdS π v set i j) (nS π) = some g) (hq : ldS π v set i j g = some q) (hz : wy π v set q.1 q.2 ≠ 0)
    (h1 : ¬ nI m = x3 → AI Γ (d + 3) mX12_cut w Q 44 [(0, .ref 390), (1, .int (nI v)), (2, .int set), (3, .int x3), (4, .int (nI (9 * q.1 + q.2))), (5, .int (nI m + 1))] σ)
    (h2 : nI m = x3 → Q (nI g) σ) :
    ∀ n k, k + n = g → AI Γ (d + 3) mX12_cut w Q 80 [(0, .ref 390), (1, .int (nI v)), (2, .int set), (3, .int x3), (4, .int (nI (9 * i + j))), (5, .int (nI m)), (6, .int (nI k)), (7, .int (ldI (ldS π v set i j k)))] σ := by
  have hF' := hF
  obtain ⟨⟨⟨n1, h20⟩, ⟨-, h24⟩, -⟩, hs, hwd, -⟩ := hF
  obtain ⟨w1, w2, w3, w4, w5, w6, -⟩ := hwd v hv
  obtain ⟨g1, -, g3⟩ := fstB_spec hg
  have d1 : nI (9 * i + j) / 9 = nI i := by rw [div9 _ (by omega)]; congr 1; omega
  have d2 : nI (9 * i + j) - nI (9 * i + j) / 9 * 9 = nI j := by rw [mod9 _ (by omega)]; congr 1; omega
  intro n
  induction n with
  | zero =>
    intro k hk
    have : k = g := hk
    subst this
    obtain ⟨-, a1, a2, a3, a4⟩ := ldS_spec hq hj
    have e : ldI (ldS π v set i j k) = nI (9 * q.1 + q.2) := by rw [hq]; rfl
    rw [e]
    have ec : gJ σ 415 (nI (9 * q.1 + q.2)).toNatClampNeg = lN (wy π v set q.1 q.2) := by rw [cl (by omega)]; exact hO _ _ a2 a4 (by omega)
    refine vX12_cut_80 hw ⟨fun q' => absurd q' (nI_pos (by omega)), fun _ => ⟨vin (by omega), ?_⟩⟩
    rw [ec, lN_z (wy_lt hF' hv a2 a4)]
    exact ⟨fun _ => ⟨h1, h2⟩, fun q' => absurd q' hz⟩
  | succ n ih =>
    intro k hk
    have nx := ih (k + 1) (by omega)
    have hl : SpI Γ (d + 2) mX12_leads [.ref 390, .int (nI k + 1), .int (nI v), .int (nI (9 * i + j) / 9), .int (nI (9 * i + j) - nI (9 * i + j) / 9 * 9), .int set] σ w (fun v2 s1 => AI Γ (d + 3) mX12_cut w Q 80 [(0, .ref 390), (1, .int (nI v)), (2, .int set), (3, .int x3), (4, .int (nI (9 * i + j))), (5, .int (nI m)), (6, .int (nI k + 1)), (7, .int v2)] s1) := by
      rw [d2, d1, nI_1]
      exact c_leads hw hV hF' (by omega) hv (by omega) hj nx
    have hgd := g3 k (by omega)
    unfold gdS at hgd
    cases hq' : ldS π v set i j k with
    | none => exact vX12_cut_80 hw ⟨fun _ => hl, fun q' => absurd (by decide : ldI none < 0) q'⟩
    | some q' =>
      rw [hq'] at hgd
      have hz' : wy π v set q'.1 q'.2 = 0 := by simpa using hgd
      obtain ⟨-, a1, a2, a3, a4⟩ := ldS_spec hq' hj
      have ec : gJ σ 415 (nI (9 * q'.1 + q'.2)).toNatClampNeg = lN (wy π v set q'.1 q'.2) := by rw [cl (by omega)]; exact hO _ _ a2 a4 (by omega)
      show AI Γ (d + 3) mX12_cut w Q 80 [(0, .ref 390), (1, .int (nI v)), (2, .int set), (3, .int x3), (4, .int (nI (9 * i + j))), (5, .int (nI m)), (6, .int (nI k)), (7, .int (nI (9 * q'.1 + q'.2)))] σ
      refine vX12_cut_80 hw ⟨fun _ => hl, fun _ => ⟨vin (by omega), ?_⟩⟩
      rw [ec, lN_z (wy_lt hF' hv a2 a4)]
      exact ⟨fun c => absurd hz' c, fun _ => hl⟩
theorem lp_cut44 {Q : Int32 → St → Prop} {σ : St} {v : Nat} {set x3 : Int32} (hw : RunW w) (hV : MV σ = π) (hF : WF π) (hv : v < nW π) (hO : OnsM π v set σ 0 0) :
    ∀ f i j pre, wS π v < i + f → i ≤ wS π v → j ≤ wN π v → wy π v set i j ≠ 0 → pre.length ≤ i → (x3 = -1 ∨ ∃ a, a < 2 ^ 31 ∧ x3 = nI a ∧ pre.length ≤ a) → Q (A_out (pre ++ cutL π v set f i j) x3) σ →
    AI Γ (d + 3) mX12_cut w Q 44 [(0, .ref 390), (1, .int (nI v)), (2, .int set), (3, .int x3), (4, .int (nI (9 * i + j))), (5, .int (nI pre.length))] σ := by
  have hF' := hF
  obtain ⟨⟨⟨n1, h20⟩, ⟨-, h24⟩, -⟩, hs, hwd, -⟩ := hF
  obtain ⟨w1, w2, w3, w4, w5, w6, -⟩ := hwd v hv
  have hv24 : vp_in (nI v) 24 := vin (by omega)
  have ew : gI σ 395 (nI v).toNatClampNeg = nI (wS π v) := by rw [cl (by omega), mv5 hV, w1]
  intro f
  induction f with
  | zero => intro i j pre h1 h2; omega
  | succ f ih =>
    intro i j pre h1 h2 hj hz hp hx hQ
    have d1 : nI (9 * i + j) / 9 = nI i := by rw [div9 _ (by omega)]; congr 1; omega
    have d2 : nI (9 * i + j) - nI (9 * i + j) / 9 * 9 = nI j := by rw [mod9 _ (by omega)]; congr 1; omega
    refine vX12_cut_44 hw ⟨hv24, ?_⟩
    rw [d2, d1, ew, nI_leI (by omega) (by omega)]
    refine ⟨fun q => ?_, fun q => ?_⟩
    · have e : cutL π v set (f + 1) i j = [] := by
        show (if i < wS π v then _ else _) = _
        rw [if_neg (by omega)]
      rw [e, List.append_nil] at hQ
      unfold A_out at hQ
      refine ⟨fun q2 => ?_, fun q2 => ?_⟩
      · rw [if_neg q2] at hQ
        rcases hx with hx | ⟨a, ha, rfl, hpa⟩
        · exact absurd hx q2
        · have z : decide (a < pre.length) = false := by simp; omega
          rw [inB_nI ha, z] at hQ
          exact hQ
      · rw [if_pos q2] at hQ
        exact hQ
    · obtain ⟨k, q', hg, hk, hq, hz'⟩ := gd_some hs (Nat.not_le.mp q) hj hz
      obtain ⟨-, a1, a2, a3, a4⟩ := ldS_spec hq hj
      obtain ⟨s1, s2, -⟩ := hs k hk
      have e : cutL π v set (f + 1) i j = nI k :: cutL π v set f q'.1 q'.2 := by
        show (if i < wS π v then _ else _) = _
        rw [if_pos (Nat.not_le.mp q), hg]
        dsimp only
        rw [hq]
      rw [e] at hQ
      refine c_leads (k := 0) hw hV hF' (by omega) hv (by omega) hj ?_
      refine lp_cut80 hw hV hF' hv (Nat.not_le.mp q) hj hO hg hq hz' (fun c => ?_) (fun c => ?_) k 0 (Nat.zero_add _)
      · have h := ih q'.1 q'.2 (pre ++ [nI k]) (by omega) a2 a4 hz' (by rw [List.length_append]; show pre.length + 1 ≤ _; omega) ?_ (by rw [List.append_assoc]; exact hQ)
        · rw [List.length_append] at h
          rw [nI_1]
          exact h
        · rcases hx with hx | ⟨a, ha, rfl, hpa⟩
          · exact Or.inl hx
          · refine Or.inr ⟨a, ha, rfl, ?_⟩
            rw [nI_eq (by omega) ha] at c
            rw [List.length_append]
            show pre.length + 1 ≤ a
            omega
      · rw [← c, out_at (by omega)] at hQ
        exact hQ
theorem M_cut {Q : Int32 → St → Prop} {σ : St} {x y z : Int32} (hw : RunW w) (hV : MV σ = π) (hF : WF π) (hQ : ∀ σ', EqM σ σ' → Q (A_cut π x y z) σ') : SpI Γ (d + 3) mX12_cut [.ref 390, .int x, .int y, .int z] σ w Q := by
  have hF' := hF
  obtain ⟨⟨⟨n1, h20⟩, ⟨n2, h24⟩, -⟩, -, hwd, -⟩ := hF
  refine SpI.of pnX12 (Nat.le_of_ble_eq_true rfl) (vX12_cut_0 hw (c_isWord hw ((mv_n hV).2.1.trans n2) (by omega) ?_))
  rw [b2i_n0, b2i_0]
  unfold A_cut at hQ
  refine ⟨fun q => by rw [q] at hQ; exact hQ σ (EqM.rf σ), fun q => c_areSigns hw ((mv_n hV).1.trans n1) (by omega) ?_⟩
  rw [q, Bool.true_and] at hQ
  rw [b2i_n0, b2i_0]
  refine ⟨fun q2 => ?_, fun q2 => by rw [q2] at hQ; exact hQ σ (EqM.rf σ)⟩
  rw [q2, if_pos rfl] at hQ
  obtain ⟨v, hv, rfl⟩ := inB_of q
  rw [cl (by omega)] at hQ
  obtain ⟨w1, w2, w3, -⟩ := hwd v hv
  refine c_findWays hw hV hF' hv fun s hs hO => ?_
  rw [lN_z (wy_lt hF' hv (Nat.zero_le _) (Nat.zero_le _))]
  have h := hQ s hs
  refine ⟨fun e => ?_, fun e => ?_⟩
  · rw [if_pos e] at h
    exact h
  · rw [if_neg e] at h
    refine ⟨fun q3 => ?_, fun q3 => ?_⟩
    · refine lp_cut44 hw (hs.mv.trans hV) hF' hv hO 9 0 0 [] (by omega) (Nat.zero_le _) (Nat.zero_le _) e (Nat.zero_le _) ?_ h
      rcases ge_m1 q3 with r | ⟨a, ha, r⟩
      · exact Or.inl r
      · exact Or.inr ⟨a, ha, r, Nat.zero_le _⟩
    · unfold A_out at h
      rw [if_neg (fun c => q3 (by rw [c]; exact Int32.le_refl _))] at h
      cases hb : inB z (cutL π v y 9 0 0).length with
      | false =>
        rw [hb] at h
        exact h
      | true =>
        exfalso
        unfold inB at hb
        simp only [Bool.and_eq_true, decide_eq_true_eq] at hb
        have h1 : (-1 : Int32).toInt = -1 := by decide
        rw [Int32.le_iff_toInt_le, h1] at q3
        omega
end MCU
