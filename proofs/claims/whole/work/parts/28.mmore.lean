/-! the reference: words mixed up, counts, lessons that a word hangs on, the fewest lessons, the first cut -/
def mixF (π : PV) (v : Nat) (out : List Int32) : Nat → Int32
  | 0 => 0
  | u + 1 => if !decide (u = v) && decide (out = sndL π u) then mixF π v out u ||| (1 <<< (nI u &&& 31)) else mixF π v out u
def mixS (π : PV) (v : Nat) (by_ : Int32) : Int32 := if rightS π v by_ then 0 else if decide ((spkAll π v by_).1 = wS π v) then mixF π v (spkAll π v by_).2.1 (nW π) else 0
def A_mixed (π : PV) (v set : Int32) : Int32 := if inB v (nW π) && inB set (2 ^ nL π) then (if closedS π set then mixS π v.toNatClampNeg (teachS π set 1) else -1003) else -1001
def A_count (π : PV) (tx bs x : Int32) : Int32 := if x = 0 then π 0 0 0 else if x = 1 then π 0 1 0 else if x = 2 then π 0 2 0 else if x = 3 then π 0 3 0 else if x = 4 then tx else if x = 5 then bs else -1002
/-- a lesson and those behind it -/
def behF (π : PV) (l : Nat) : Nat → Int32
  | 0 => 1 <<< (nI l &&& 31)
  | n + 1 => if decide (l < n) && !(π 9 n 0 &&& behF π l n == 0) then behF π l n ||| (1 <<< (nI n &&& 31)) else behF π l n
def behS (π : PV) (l : Nat) : Int32 := behF π l (nL π)
def fullL (π : PV) : Int32 := 1 <<< (nI (nL π) &&& 31) - 1
def hngF (π : PV) (v : Nat) : Nat → Int32
  | 0 => 0
  | l + 1 => if bt (readS π (fullL π &&& (behS π l ^^^ (-1)))) v then hngF π v l else hngF π v l ||| (1 <<< (nI l &&& 31))
def A_hangs (π : PV) (v : Int32) : Int32 := if inB v (nW π) then (if bt (readS π (fullL π)) v.toNatClampNeg then hngF π v.toNatClampNeg (nL π) else -1) else -1001
/-- the set does for the page -/
def doesS (π : PV) (p few n : Nat) : Bool := closedS π (nI n) && decide (unkS π p (readS π (nI n)) ≤ few)
def fewF (π : PV) (p few : Nat) : Nat → Option Nat
  | 0 => none
  | n + 1 => match fewF π p few n with
    | none => if doesS π p few n then some n else none
    | some b => if decide (cntB (nI n) 24 < cntB (nI b) 24) && doesS π p few n then some n else some b
def A_fewest (π : PV) (p few : Int32) : Int32 := if inB p (nP π) then (if inB few 17 then bI (fewF π p.toNatClampNeg few.toNatClampNeg (2 ^ nL π)) else -1002) else -1001
theorem behF_lo {π : PV} {l : Nat} : ∀ n, n ≤ l + 1 → behF π l n = 1 <<< (nI l &&& 31)
  | 0, _ => rfl
  | n + 1, h => by
    have e : decide (l < n) = false := by simp; omega
    show (if decide (l < n) && _ then _ else _) = _
    rw [e, Bool.false_and, if_neg (by decide)]
    exact behF_lo n (by omega)
theorem fewF_lt {π : PV} {p few : Nat} : ∀ {n b : Nat}, fewF π p few n = some b → b < n
  | 0, b, h => by cases h
  | n + 1, b, h => by
    unfold fewF at h
    split at h
    · split at h
      · cases h; exact Nat.lt_succ_self _
      · cases h
    · rename_i b' hb'
      have := fewF_lt hb'
      split at h
      · cases h; exact Nat.lt_succ_self _
      · cases h; omega
theorem shl_pw : ∀ n, n ≤ 30 → (1 <<< (nI n &&& 31) : Int32) = nI (2 ^ n) := by decide +kernel
section MMO
variable {Γ : Gx} {d : Nat} {w : Wd} {π : PV}
theorem lp_mixed {Q : Int32 → St → Prop} {σ : St} {v : Nat} {out : List Int32} (hw : RunW w) (hV : MV σ = π) (hF : WF π) (hv : v < nW π) (hO : OutM σ out) (hlen : out.length ≤ 8) (hQ : Q (mixF π v out (nW π)) σ) :
    ∀ n u, u + n = nW π → AI Γ (d + 1) mX12_mixed w Q 65 [(0, .ref 390), (1, .int (nI v)), (3, .int (mixF π v out u)), (4, .int 1), (5, .int (nI u))] σ := by
  have hF' := hF
  obtain ⟨⟨-, ⟨n1, h24⟩, -⟩, -⟩ := hF
  have e0 : gI σ 390 5 = nI (nW π) := by rw [(mv_n hV).2.1, n1]
  intro n
  induction n with
  | zero =>
    intro u hu
    refine vX12_mixed_65 hw ⟨fun _ => ?_, fun q => absurd (by rw [e0]; exact nI_le (by omega) (by omega)) q⟩
    have : u = nW π := hu
    rw [this]
    exact hQ
  | succ n ih =>
    intro u hu
    have nx := ih (u + 1) (by omega)
    have st : mixF π v out (u + 1) = if !decide (u = v) && decide (out = sndL π u) then mixF π v out u ||| (1 <<< (nI u &&& 31)) else mixF π v out u := rfl
    rw [st] at nx
    refine vX12_mixed_65 hw ⟨fun q => absurd q (by rw [e0]; exact nI_ge (by omega) (by omega)), fun _ => ⟨fun q => absurd q (by decide), fun _ => ?_⟩⟩
    rw [nI_eq (by omega) (by omega), b_or0, nI_1]
    refine ⟨fun q => ?_, fun q => c_areSounds hw hV hF' (by omega) hO hlen ?_⟩
    · have : decide (u = v) = true := by simp [q]
      rw [this] at nx
      exact nx
    · rw [b2i_n0, b2i_0]
      have h1 : decide (u = v) = false := by simp [q]
      rw [h1] at nx
      refine ⟨fun q2 => ?_, fun q2 => ?_⟩
      · rw [q2] at nx
        exact nx
      · rw [q2] at nx
        exact nx
theorem M_mixed {Q : Int32 → St → Prop} {σ : St} {x y : Int32} (hw : RunW w) (hV : MV σ = π) (hF : WF π) (hQ : ∀ σ', EqM σ σ' → Q (A_mixed π x y) σ') : SpI Γ (d + 4) mX12_mixed [.ref 390, .int x, .int y] σ w Q := by
  have hF' := hF
  obtain ⟨⟨⟨n1, h20⟩, ⟨n2, h24⟩, ⟨n3, h7⟩, -⟩, -, -⟩ := hF
  refine SpI.of pnX12 (Nat.le_of_ble_eq_true rfl) (vX12_mixed_0 hw (c_isWord hw ((mv_n hV).2.1.trans n2) (by omega) ?_))
  rw [b2i_n0, b2i_0]
  unfold A_mixed at hQ
  refine ⟨fun q => by rw [q] at hQ; exact hQ σ (EqM.rf σ), fun q => c_areLessons hw ((mv_n hV).2.2.1.trans n3) (by omega) ?_⟩
  rw [q, Bool.true_and] at hQ
  rw [b2i_n0, b2i_0]
  refine ⟨fun q2 => c_isClosed hw hV hF' ?_, fun q2 => by rw [q2] at hQ; exact hQ σ (EqM.rf σ)⟩
  rw [q2, if_pos rfl] at hQ
  rw [b2i_n0, b2i_0]
  refine ⟨fun q3 => c_teach (what := 1) hw hV hF' (by decide) ?_, fun q3 => by rw [q3] at hQ; exact hQ σ (EqM.rf σ)⟩
  rw [q3, if_pos rfl] at hQ
  obtain ⟨v, hv, rfl⟩ := inB_of q
  rw [cl (by omega)] at hQ
  refine c_isRight hw hV hF' hv fun s hs => ?_
  obtain ⟨hE, hO, -, h43, hl⟩ := hs
  have hq := hQ s hE
  unfold mixS at hq
  have z : Q 0 s → AI Γ (d + 4) mX12_mixed w Q 65 [(0, .ref 390), (1, .int (nI v)), (3, .int 0), (4, .int 0), (5, .int 0)] s := fun hz => vX12_mixed_65 hw ⟨fun _ => hz, fun _ => ⟨fun _ => hz, fun q => absurd rfl q⟩⟩
  rw [b2i_n0, b2i_0, h43, b2i_n0, b2i_0]
  refine ⟨fun q4 => z ?_, fun q4 => ⟨fun q5 => z ?_, fun q5 => ?_⟩⟩
  · rw [q4, if_pos rfl] at hq
    exact hq
  · rw [q4, q5, if_neg (by decide), if_neg (by decide)] at hq
    exact hq
  · rw [q4, q5, if_neg (by decide), if_pos rfl] at hq
    exact lp_mixed hw (hE.mv.trans hV) hF' hv hO hl hq (nW π) 0 (Nat.zero_add _)
theorem M_count {Q : Int32 → St → Prop} {σ : St} {x : Int32} (hw : RunW w) (hV : MV σ = π) (hQ : Q (A_count π (gI σ 390 17) (gI σ 390 47) x) σ) : SpI Γ d mX12_count [.ref 390, .int x] σ w Q := by
  refine SpI.of pnX12 (Nat.le_of_ble_eq_true rfl) (vX12_count_0 hw ?_)
  obtain ⟨m1, m2, m3, m4⟩ := mv_n hV
  rw [m1, m2, m3, m4]
  unfold A_count at hQ
  refine ⟨fun q => ?_, fun q => ⟨fun q2 => ?_, fun q2 => ⟨fun q3 => ?_, fun q3 => ⟨fun q4 => ?_, fun q4 => ⟨fun q5 => ?_, fun q5 => ⟨fun q6 => ?_, fun q6 => ?_⟩⟩⟩⟩⟩⟩
  · rw [if_pos q] at hQ; exact hQ
  · rw [if_neg q, if_pos q2] at hQ; exact hQ
  · rw [if_neg q, if_neg q2, if_pos q3] at hQ; exact hQ
  · rw [if_neg q, if_neg q2, if_neg q3, if_pos q4] at hQ; exact hQ
  · rw [if_neg q, if_neg q2, if_neg q3, if_neg q4, if_pos q5] at hQ; exact hQ
  · rw [if_neg q, if_neg q2, if_neg q3, if_neg q4, if_neg q5, if_pos q6] at hQ; exact hQ
  · rw [if_neg q, if_neg q2, if_neg q3, if_neg q4, if_neg q5, if_neg q6] at hQ; exact hQ
theorem M_fault {Q : Int32 → St → Prop} {σ : St} (hw : RunW w) (hQ : Q (gI σ 390 18) σ) : SpI Γ d mX12_fault [.ref 390] σ w Q := SpI.of pnX12 (Nat.le_of_ble_eq_true rfl) (vX12_fault_0 hw hQ)
theorem lp_behind {Q : Int32 → St → Prop} {σ : St} {l : Nat} (hw : RunW w) (hV : MV σ = π) (hF : WF π) (hQ : Q (behS π l) σ) :
    ∀ n u, l < u → u + n = nL π → AI Γ d mX12_behind w Q 8 [(0, .ref 390), (2, .int (behF π l u)), (3, .int (nI u))] σ := by
  obtain ⟨⟨-, -, ⟨n3, h7⟩, -⟩, -⟩ := hF
  have e0 : gI σ 390 10 = nI (nL π) := by rw [(mv_n hV).2.2.1, n3]
  intro n
  induction n with
  | zero =>
    intro u _ hu
    refine vX12_behind_8 hw ⟨fun _ => ?_, fun q => absurd (by rw [e0]; exact nI_le (by omega) (by omega)) q⟩
    have : u = nL π := hu
    rw [this]
    exact hQ
  | succ n ih =>
    intro u hl hu
    have nx := ih (u + 1) (by omega) (by omega)
    have st : behF π l (u + 1) = if decide (l < u) && !(π 9 u 0 &&& behF π l u == 0) then behF π l u ||| (1 <<< (nI u &&& 31)) else behF π l u := rfl
    have h1 : decide (l < u) = true := by simp [hl]
    rw [st, h1, Bool.true_and] at nx
    have i3 : (3 : Int32) * nI u = nI (3 * u) := nI_mul 3 u
    have e9 : gI σ 399 ((3 : Int32) * nI u).toNatClampNeg = π 9 u 0 := by rw [i3, cl (by omega)]; exact mv9 hV u 0
    refine vX12_behind_8 hw ⟨fun q => absurd q (by rw [e0]; exact nI_ge (by omega) (by omega)), fun _ => ⟨by rw [i3]; exact vin (by omega), ?_⟩⟩
    rw [e9, b_or0, nI_1]
    refine ⟨fun q => ?_, fun q => ?_⟩
    · have : (π 9 u 0 &&& behF π l u == 0) = true := by simp [q]
      rw [this] at nx
      exact nx
    · have : (π 9 u 0 &&& behF π l u == 0) = false := by simpa using q
      rw [this] at nx
      exact nx
theorem c_behind {Q : Int32 → St → Prop} {σ : St} {l : Nat} (hw : RunW w) (hV : MV σ = π) (hF : WF π) (hl : l < nL π) (hQ : Q (behS π l) σ) : SpI Γ d mX12_behind [.ref 390, .int (nI l)] σ w Q := by
  refine SpI.of pnX12 (Nat.le_of_ble_eq_true rfl) (vX12_behind_0 ?_)
  rw [nI_1, ← behF_lo (π := π) (l := l) (l + 1) (Nat.le_refl _)]
  exact lp_behind hw hV hF hQ (nL π - (l + 1)) (l + 1) (Nat.lt_succ_self _) (by omega)
theorem lp_hangs {Q : Int32 → St → Prop} {σ0 : St} {v : Nat} (hw : RunW w) (hV0 : MV σ0 = π) (hF : WF π) (hv : v < nW π) (hQ : ∀ σ, EqM σ0 σ → Q (hngF π v (nL π)) σ) :
    ∀ n l σ, EqM σ0 σ → l + n = nL π → AI Γ (d + 5) mX12_hangs w Q 40 [(0, .ref 390), (1, .int (nI v)), (2, .int (fullL π)), (3, .int (hngF π v l)), (4, .int (nI l))] σ := by
  have hF' := hF
  obtain ⟨⟨-, ⟨n2, h24⟩, ⟨n3, h7⟩, -⟩, -⟩ := hF
  intro n
  induction n with
  | zero =>
    intro l σ hE hl
    have e0 : gI σ 390 10 = nI (nL π) := by rw [(mv_n (hE.mv.trans hV0)).2.2.1, n3]
    refine vX12_hangs_40 hw ⟨fun _ => ?_, fun q => absurd (by rw [e0]; exact nI_le (by omega) (by omega)) q⟩
    have : l = nL π := hl
    rw [this]
    exact hQ σ hE
  | succ n ih =>
    intro l σ hE hl
    have hV := hE.mv.trans hV0
    have e0 : gI σ 390 10 = nI (nL π) := by rw [(mv_n hV).2.2.1, n3]
    refine vX12_hangs_40 hw ⟨fun q => absurd q (by rw [e0]; exact nI_ge (by omega) (by omega)), fun _ => c_behind hw hV hF' (by omega) (c_readsOf hw hV hF' fun s hs => c_has (by omega) ?_)⟩
    have nx := ih (l + 1) s (hE.tr hs) (by omega)
    have st : hngF π v (l + 1) = if bt (readS π (fullL π &&& (behS π l ^^^ (-1)))) v then hngF π v l else hngF π v l ||| (1 <<< (nI l &&& 31)) := rfl
    rw [st] at nx
    rw [b2i_n0, b2i_0, b_or0, nI_1]
    refine ⟨fun q => ?_, fun q => ?_⟩
    · rw [q] at nx
      exact nx
    · rw [q] at nx
      exact nx
theorem M_hangs {Q : Int32 → St → Prop} {σ : St} {x : Int32} (hw : RunW w) (hV : MV σ = π) (hF : WF π) (hQ : ∀ σ', EqM σ σ' → Q (A_hangs π x) σ') : SpI Γ (d + 5) mX12_hangs [.ref 390, .int x] σ w Q := by
  have hF' := hF
  obtain ⟨⟨-, ⟨n2, h24⟩, ⟨n3, h7⟩, -⟩, -⟩ := hF
  have e0 : gI σ 390 10 = nI (nL π) := by rw [(mv_n hV).2.2.1, n3]
  refine SpI.of pnX12 (Nat.le_of_ble_eq_true rfl) (vX12_hangs_0 hw (c_isWord hw ((mv_n hV).2.1.trans n2) (by omega) ?_))
  rw [b2i_n0, b2i_0, e0]
  unfold A_hangs at hQ
  refine ⟨fun q => c_readsOf hw hV hF' fun s hs => ?_, fun q => by rw [q] at hQ; exact hQ σ (EqM.rf σ)⟩
  rw [q, if_pos rfl] at hQ
  obtain ⟨v, hv, rfl⟩ := inB_of q
  rw [cl (by omega)] at hQ
  refine c_has (by omega) ?_
  rw [b2i_n0, b2i_0]
  refine ⟨fun q2 => ?_, fun q2 => ?_⟩
  · have hQ' : ∀ σ', EqM σ σ' → Q (hngF π v (nL π)) σ' := by
      intro σ' h
      have := hQ σ' h
      rw [show bt (readS π (fullL π)) v = true from q2, if_pos rfl] at this
      exact this
    exact lp_hangs hw hV hF' hv hQ' (nL π) 0 s hs (Nat.zero_add _)
  · have := hQ s hs
    rw [show bt (readS π (fullL π)) v = false from q2, if_neg (by decide)] at this
    exact this
theorem fw_tail {Q : Int32 → St → Prop} {σ0 σ : St} {p few n : Nat} {x3 : Int32} (hw : RunW w) (hV0 : MV σ0 = π) (hF : WF π) (hp : p < nP π) (hf : few < 17) (hE : EqM σ0 σ)
    (hT : ∀ s, EqM σ0 s → doesS π p few n = true → AI Γ (d + 5) mX12_fewest w Q 28 [(0, .ref 390), (1, .int (nI p)), (2, .int (nI few)), (3, .int (nI n)), (4, .int (nI n + 1))] s)
    (hN : ∀ s, EqM σ0 s → doesS π p few n = false → AI Γ (d + 5) mX12_fewest w Q 28 [(0, .ref 390), (1, .int (nI p)), (2, .int (nI few)), (3, .int x3), (4, .int (nI n + 1))] s) :
    SpI Γ (d + 4) mX12_isClosed [.ref 390, .int (nI n)] σ w (fun v2 s1 => ((v2 = 0 → AI Γ (d + 5) mX12_fewest w Q 28 [(0, .ref 390), (1, .int (nI p)), (2, .int (nI few)), (3, .int x3), (4, .int (nI n + 1))] s1) ∧ (¬ v2 = 0 → (vp_in (nI p) 8) ∧ SpI Γ (d + 4) mX12_readsOf [.ref 390, .int (nI n)] s1 w (fun v4 s3 => SpI Γ (d + 4) mX12_bits [.int ((gI s1 402 (nI p).toNatClampNeg) &&& (v4 ^^^ (-1)))] s3 w (fun v6 s5 => ((nI few < v6 → AI Γ (d + 5) mX12_fewest w Q 28 [(0, .ref 390), (1, .int (nI p)), (2, .int (nI few)), (3, .int x3), (4, .int (nI n + 1))] s5) ∧ (¬ nI few < v6 → AI Γ (d + 5) mX12_fewest w Q 28 [(0, .ref 390), (1, .int (nI p)), (2, .int (nI few)), (3, .int (nI n)), (4, .int (nI n + 1))] s5))))))) := by
  have hF' := hF
  obtain ⟨⟨-, -, -, n4, h8⟩, -⟩ := hF
  have hV := hE.mv.trans hV0
  refine c_isClosed hw hV hF' ?_
  rw [b2i_n0, b2i_0]
  refine ⟨fun q => hN σ hE ?_, fun q => ⟨vin (by omega), c_readsOf hw hV hF' fun s hs => c_bits ?_⟩⟩
  · unfold doesS
    rw [q]
    rfl
  · rw [cl (by omega), mv12 hV]
    have hc := cntB_le (π 12 p 0 &&& (readS π (nI n) ^^^ (-1))) 24
    rw [nI_ltI (by omega) (by omega)]
    refine ⟨fun q2 => hN s (hE.tr hs) ?_, fun q2 => hT s (hE.tr hs) ?_⟩
    · unfold doesS unkS
      rw [q, Bool.true_and, decide_eq_false_iff_not]
      omega
    · unfold doesS unkS
      rw [q, Bool.true_and, decide_eq_true_eq]
      omega
theorem lp_fewest {Q : Int32 → St → Prop} {σ0 : St} {p few : Nat} (hw : RunW w) (hV0 : MV σ0 = π) (hF : WF π) (hp : p < nP π) (hf : few < 17) (hQ : ∀ σ, EqM σ0 σ → Q (bI (fewF π p few (2 ^ nL π))) σ) :
    ∀ m n σ, EqM σ0 σ → n + m = 2 ^ nL π → AI Γ (d + 5) mX12_fewest w Q 28 [(0, .ref 390), (1, .int (nI p)), (2, .int (nI few)), (3, .int (bI (fewF π p few n))), (4, .int (nI n))] σ := by
  have hF' := hF
  obtain ⟨⟨-, -, ⟨n3, h7⟩, -⟩, -⟩ := hF
  have h128 : 2 ^ nL π ≤ 2 ^ 7 := Nat.pow_le_pow_right (by decide) h7
  intro m
  induction m with
  | zero =>
    intro n σ hE hn
    have e0 : gI σ 390 10 = nI (nL π) := by rw [(mv_n (hE.mv.trans hV0)).2.2.1, n3]
    refine vX12_fewest_28 hw ⟨fun _ => ?_, fun q => absurd (by rw [e0, shl_pw _ (by omega)]; exact nI_le (by omega) (by omega)) q⟩
    have : n = 2 ^ nL π := hn
    rw [this]
    exact hQ σ hE
  | succ m ih =>
    intro n σ hE hn
    have hV := hE.mv.trans hV0
    have e0 : gI σ 390 10 = nI (nL π) := by rw [(mv_n hV).2.2.1, n3]
    have nx := fun s hs => ih (n + 1) s hs (by omega)
    have st : fewF π p few (n + 1) = (match fewF π p few n with
      | none => if doesS π p few n then some n else none
      | some b => if decide (cntB (nI n) 24 < cntB (nI b) 24) && doesS π p few n then some n else some b) := rfl
    refine vX12_fewest_28 hw ⟨fun q => absurd q (by rw [e0, shl_pw _ (by omega)]; exact nI_ge (by omega) (by omega)), fun _ => ?_⟩
    cases hb : fewF π p few n with
    | none =>
      rw [st, hb] at nx
      dsimp only at nx
      refine ⟨fun _ => fw_tail hw hV0 hF' hp hf hE (fun s hs e => ?_) (fun s hs e => ?_), fun q => absurd (by decide : bI none < 0) q⟩
      · have := nx s hs
        rw [e, if_pos rfl] at this
        rw [nI_1]
        exact this
      · have := nx s hs
        rw [e, if_neg (by decide)] at this
        rw [nI_1]
        exact this
    | some b =>
      have hbn := fewF_lt hb
      rw [st, hb] at nx
      dsimp only at nx
      refine ⟨fun q => absurd q (nI_pos (by omega)), fun _ => c_bits (c_bits ?_)⟩
      have c1 := cntB_le (nI n) 24
      have c2 := cntB_le (nI b) 24
      show (nI (cntB (nI b) 24) ≤ nI (cntB (nI n) 24) → _) ∧ (¬ nI (cntB (nI b) 24) ≤ nI (cntB (nI n) 24) → _)
      rw [nI_leI (by omega) (by omega)]
      refine ⟨fun q => ?_, fun q => fw_tail hw hV0 hF' hp hf hE (fun s hs e => ?_) (fun s hs e => ?_)⟩
      · have := nx σ hE
        have z : decide (cntB (nI n) 24 < cntB (nI b) 24) = false := by simp; omega
        rw [z, Bool.false_and, if_neg (by decide)] at this
        rw [nI_1]
        exact this
      · have := nx s hs
        have z : decide (cntB (nI n) 24 < cntB (nI b) 24) = true := by simp; omega
        rw [z, e, Bool.true_and, if_pos rfl] at this
        rw [nI_1]
        exact this
      · have := nx s hs
        rw [e, Bool.and_false, if_neg (by decide)] at this
        rw [nI_1]
        exact this
theorem M_fewest {Q : Int32 → St → Prop} {σ : St} {x y : Int32} (hw : RunW w) (hV : MV σ = π) (hF : WF π) (hQ : ∀ σ', EqM σ σ' → Q (A_fewest π x y) σ') : SpI Γ (d + 5) mX12_fewest [.ref 390, .int x, .int y] σ w Q := by
  have hF' := hF
  obtain ⟨⟨-, -, ⟨n3, h7⟩, n4, h8⟩, -⟩ := hF
  refine SpI.of pnX12 (Nat.le_of_ble_eq_true rfl) (vX12_fewest_0 hw (c_isPage hw ((mv_n hV).2.2.2.trans n4) (by omega) ?_))
  rw [b2i_n0, b2i_0]
  unfold A_fewest at hQ
  refine ⟨fun q => c_isFew ?_, fun q => by rw [q] at hQ; exact hQ σ (EqM.rf σ)⟩
  rw [q, if_pos rfl] at hQ
  rw [b2i_n0, b2i_0]
  refine ⟨fun q2 => ?_, fun q2 => by rw [q2] at hQ; exact hQ σ (EqM.rf σ)⟩
  rw [q2, if_pos rfl] at hQ
  obtain ⟨p, hp, rfl⟩ := inB_of q
  obtain ⟨f, hf, rfl⟩ := inB_of q2
  rw [cl (by omega), cl (by omega)] at hQ
  exact lp_fewest hw hV hF' hp hf hQ (2 ^ nL π) 0 σ (EqM.rf σ) (Nat.zero_add _)
end MMO
