/-! the reference: words that are read -/
def sndL (π : PV) (v : Nat) : List Int32 := (List.range (wN π v)).map (π 8 v)
/-- aloud is right -/
def rightS (π : PV) (v : Nat) (set : Int32) : Bool := decide ((spkAll π v set).1 = wS π v) && decide ((spkAll π v set).2.1 = sndL π v)
/-- a set of lessons is closed; what it teaches (1 signs, 2 words by sight); the words read -/
def closedS (π : PV) (set : Int32) : Bool := allB (fun l => !bt set l || (π 9 l 0 &&& (set ^^^ (-1)) == 0)) (nL π)
def teachF (π : PV) (set : Int32) (what : Nat) : Nat → Int32
  | 0 => 0
  | l + 1 => if bt set l then teachF π set what l ||| π 9 l what else teachF π set what l
def teachS (π : PV) (set : Int32) (what : Nat) : Int32 := teachF π set what (nL π)
def readF (π : PV) (st by_ : Int32) : Nat → Int32
  | 0 => st
  | v + 1 => if rightS π v by_ then readF π st by_ v ||| (1 <<< (nI v &&& 31)) else readF π st by_ v
def readS (π : PV) (set : Int32) : Int32 := readF π (teachS π set 2) (teachS π set 1) (nW π)
theorem sndL_len (π : PV) (v : Nat) : (sndL π v).length = wN π v := by simp [sndL]
theorem sndL_get {π : PV} {v j : Nat} (h : j < wN π v) : (sndL π v).getD j 0 = π 8 v j := by simp [sndL, h]
theorem list_eq_iff {a b : List Int32} : a = b ↔ a.length = b.length ∧ ∀ j, j < a.length → a.getD j 0 = b.getD j 0 := by
  constructor
  · rintro rfl; exact ⟨rfl, fun _ _ => rfl⟩
  · rintro ⟨h1, h2⟩
    apply List.ext_getElem h1
    intro i hi hi2
    have := h2 i hi
    simpa [hi, hi2] using this
section MRD
variable {Γ : Gx} {d : Nat} {w : Wd} {π : PV}
/-- the sounds that are out are those of a word -/
theorem lp_areSounds {Q : Int32 → St → Prop} {σ : St} {v : Nat} {out : List Int32} (hw : RunW w) (hV : MV σ = π) (hF : WF π) (hv : v < nW π) (hO : OutM σ out) (hlen : out.length ≤ 8) (b : Bool) (hb : b = true → out.length = wN π v) (hQ : Q (b2i (b && allB (fun j => out.getD j 0 == π 8 v j) out.length)) σ) :
    ∀ n j, j + n = out.length → AI Γ d mX12_areSounds w Q 21 [(0, .ref 390), (1, .int (nI v)), (2, .int (b2i (b && allB (fun j => out.getD j 0 == π 8 v j) j))), (3, .int (nI j))] σ := by
  obtain ⟨⟨-, ⟨-, h24⟩, -⟩, -, hwd, -⟩ := hF
  obtain ⟨-, -, -, w1, w2, w3, -⟩ := hwd v hv
  intro n
  induction n with
  | zero =>
    intro j hj
    refine vX12_areSounds_21 hw ⟨fun _ => ⟨b2i_01 _, ?_⟩, fun q => absurd (by rw [hO.1]; exact nI_le (by omega) (by omega)) q⟩
    have : j = out.length := hj
    rw [this]
    exact hQ
  | succ n ih =>
    intro j hj
    refine vX12_areSounds_21 hw ⟨fun q => absurd q (by rw [hO.1]; exact nI_ge (by omega) (by omega)), fun _ => ⟨fun q => ⟨b2i_01 _, ?_⟩, fun q => ?_⟩⟩
    · rw [b2i_0] at q
      have e : (b && allB (fun j => out.getD j 0 == π 8 v j) out.length) = false := by
        cases hb' : b with
        | false => rfl
        | true =>
          rw [hb', Bool.true_and] at q
          exact allB_false q (by omega)
      rw [q, ← e]
      exact hQ
    · rw [b2i_n0, Bool.and_eq_true] at q
      have hn := hb q.1
      have i1 : (8 : Int32) * nI v + nI j = nI (8 * v + j) := ixm 8 v j
      have e8 : gI σ 398 ((8 : Int32) * nI v + nI j).toNatClampNeg = π 8 v j := by rw [i1, cl (by omega), mv8 hV]
      have eo : gI σ 416 (nI j).toNatClampNeg = out.getD j 0 := by rw [cl (by omega), hO.2 j (by omega)]
      have nx := ih (j + 1) (by omega)
      have st : (b && allB (fun j => out.getD j 0 == π 8 v j) (j + 1)) = (out.getD j 0 == π 8 v j) := by
        show (b && (allB _ j && _)) = _
        rw [q.1, q.2, Bool.true_and, Bool.true_and]
      rw [st] at nx
      rw [e8, eo, nI_1]
      refine ⟨vin (by omega), by rw [i1]; exact vin (by omega), fun q2 => ?_, fun q2 => ?_⟩
      · have z : (out.getD j 0 == π 8 v j) = false := by simpa using q2
        rw [z] at nx
        exact nx
      · have z : (out.getD j 0 == π 8 v j) = true := by simpa using q2
        rw [z] at nx
        exact nx
theorem c_areSounds {Q : Int32 → St → Prop} {σ : St} {v : Nat} {out : List Int32} (hw : RunW w) (hV : MV σ = π) (hF : WF π) (hv : v < nW π) (hO : OutM σ out) (hlen : out.length ≤ 8) (hQ : Q (b2i (decide (out = sndL π v))) σ) : SpI Γ d mX12_areSounds [.ref 390, .int (nI v)] σ w Q := by
  have hF' := hF
  obtain ⟨⟨-, ⟨-, h24⟩, -⟩, -, hwd, -⟩ := hF
  obtain ⟨-, -, -, w1, w2, w3, -⟩ := hwd v hv
  have key : ∀ b : Bool, b = decide (out.length = wN π v) → (b && allB (fun j => out.getD j 0 == π 8 v j) out.length) = decide (out = sndL π v) := by
    intro b hb
    rw [Bool.eq_iff_iff, Bool.and_eq_true, allB_iff, decide_eq_true_eq, list_eq_iff, sndL_len, hb, decide_eq_true_eq]
    constructor
    · rintro ⟨h1, h2⟩
      refine ⟨h1, fun j hj => ?_⟩
      rw [sndL_get (by omega)]
      simpa using h2 j hj
    · rintro ⟨h1, h2⟩
      refine ⟨h1, fun j hj => ?_⟩
      have := h2 j hj
      rw [sndL_get (by omega)] at this
      simpa using this
  refine SpI.of pnX12 (Nat.le_of_ble_eq_true rfl) (vX12_areSounds_0 hw ?_)
  have ew : gI σ 397 (nI v).toNatClampNeg = nI (wN π v) := by rw [cl (by omega), mv7 hV, w1]
  rw [ew, hO.1, nI_eq (by omega) (by omega)]
  refine ⟨vin (by omega), fun q => ?_, fun q => ?_⟩
  · have e := key false (by simp [q])
    have h := lp_areSounds (Q := Q) (Γ := Γ) (d := d) hw hV hF' hv hO hlen false (fun h => by cases h) (by rw [e]; exact hQ) out.length 0 (Nat.zero_add _)
    exact h
  · have e := key true (by simp [q])
    have h := lp_areSounds (Q := Q) (Γ := Γ) (d := d) hw hV hF' hv hO hlen true (fun _ => q) (by rw [e]; exact hQ) out.length 0 (Nat.zero_add _)
    exact h
/-- isRight: the answer, and what came out -/
theorem c_isRight {Q : Int32 → St → Prop} {σ : St} {v : Nat} {set : Int32} (hw : RunW w) (hV : MV σ = π) (hF : WF π) (hv : v < nW π) (hQ : ∀ σ', Spoken π v set σ σ' → Q (b2i (rightS π v set)) σ') : SpI Γ (d + 3) mX12_isRight [.ref 390, .int (nI v), .int set] σ w Q := by
  refine SpI.of pnX12 (Nat.le_of_ble_eq_true rfl) (vX12_isRight_0 hw (c_speak hw hV hF hv fun s1 hs => ?_))
  have hq := hQ s1 hs
  obtain ⟨hE, hO, -, hwh, hlen⟩ := hs
  rw [hwh, b2i_n0, b2i_0]
  unfold rightS at hq
  refine ⟨fun q => ?_, fun q => ?_⟩
  · rw [q] at hq
    exact hq
  · rw [q, Bool.true_and] at hq
    refine c_areSounds hw (hE.mv.trans hV) hF hv hO hlen ?_
    rw [b2i_n0, b2i_0]
    refine ⟨fun q2 => ?_, fun q2 => ?_⟩
    · rw [q2] at hq
      exact hq
    · rw [q2] at hq
      exact hq
theorem lp_teach {Q : Int32 → St → Prop} {σ : St} {set : Int32} {what : Nat} (hw : RunW w) (hV : MV σ = π) (hF : WF π) (hwh : what < 3) (hQ : Q (teachS π set what) σ) :
    ∀ n l, l + n = nL π → AI Γ (d + 1) mX12_teach w Q 5 [(0, .ref 390), (1, .int set), (2, .int (nI what)), (3, .int (teachF π set what l)), (4, .int (nI l))] σ := by
  obtain ⟨⟨-, -, ⟨n1, h7⟩, -⟩, -⟩ := hF
  have e0 : gI σ 390 10 = nI (nL π) := by rw [(mv_n hV).2.2.1, n1]
  intro n
  induction n with
  | zero =>
    intro l hl
    refine vX12_teach_5 hw ⟨fun _ => ?_, fun q => absurd (by rw [e0]; exact nI_le (by omega) (by omega)) q⟩
    have : l = nL π := hl
    rw [this]
    exact hQ
  | succ n ih =>
    intro l hl
    have nx := ih (l + 1) (by omega)
    refine vX12_teach_5 hw ⟨fun q => absurd q (by rw [e0]; exact nI_ge (by omega) (by omega)), fun _ => c_has (by omega) ?_⟩
    rw [b2i_n0, b2i_0, nI_1, b_or0]
    have i1 : (3 : Int32) * nI l + nI what = nI (3 * l + what) := ixm 3 l what
    have e9 : gI σ 399 ((3 : Int32) * nI l + nI what).toNatClampNeg = π 9 l what := by rw [i1, cl (by omega), mv9 hV]
    have st : teachF π set what (l + 1) = if bt set l then teachF π set what l ||| π 9 l what else teachF π set what l := rfl
    rw [st] at nx
    refine ⟨fun q => ?_, fun q => ⟨by rw [i1]; exact vin (by omega), ?_⟩⟩
    · rw [q] at nx
      exact nx
    · rw [q] at nx
      rw [e9]
      exact nx
theorem c_teach {Q : Int32 → St → Prop} {σ : St} {set : Int32} {what : Nat} (hw : RunW w) (hV : MV σ = π) (hF : WF π) (hwh : what < 3) (hQ : Q (teachS π set what) σ) : SpI Γ (d + 1) mX12_teach [.ref 390, .int set, .int (nI what)] σ w Q :=
  SpI.of pnX12 (Nat.le_of_ble_eq_true rfl) (vX12_teach_0 (lp_teach hw hV hF hwh hQ (nL π) 0 (Nat.zero_add _)))
theorem lp_isClosed {Q : Int32 → St → Prop} {σ : St} {set : Int32} (hw : RunW w) (hV : MV σ = π) (hF : WF π) (hQ : Q (b2i (closedS π set)) σ) :
    ∀ n l, l + n = nL π → AI Γ (d + 1) mX12_isClosed w Q 4 [(0, .ref 390), (1, .int set), (2, .int (b2i (allB (fun l => !bt set l || (π 9 l 0 &&& (set ^^^ (-1)) == 0)) l))), (3, .int (nI l))] σ := by
  obtain ⟨⟨-, -, ⟨n1, h7⟩, -⟩, -⟩ := hF
  have e0 : gI σ 390 10 = nI (nL π) := by rw [(mv_n hV).2.2.1, n1]
  intro n
  induction n with
  | zero =>
    intro l hl
    refine vX12_isClosed_4 hw ⟨fun _ => ⟨b2i_01 _, ?_⟩, fun q => absurd (by rw [e0]; exact nI_le (by omega) (by omega)) q⟩
    have : l = nL π := hl
    rw [this]
    exact hQ
  | succ n ih =>
    intro l hl
    have nx := ih (l + 1) (by omega)
    have st : allB (fun l => !bt set l || (π 9 l 0 &&& (set ^^^ (-1)) == 0)) (l + 1) = (allB (fun l => !bt set l || (π 9 l 0 &&& (set ^^^ (-1)) == 0)) l && (!bt set l || (π 9 l 0 &&& (set ^^^ (-1)) == 0))) := rfl
    rw [st] at nx
    refine vX12_isClosed_4 hw ⟨fun q => absurd q (by rw [e0]; exact nI_ge (by omega) (by omega)), fun _ => ?_⟩
    rw [b2i_n0, b2i_0, nI_1]
    refine ⟨fun q => ?_, fun q => c_has (by omega) ?_⟩
    · rw [q] at nx
      exact nx
    · rw [q, Bool.true_and] at nx
      rw [b2i_n0, b2i_0]
      have i1 : (3 : Int32) * nI l = nI (3 * l + 0) := nI_mul 3 l
      have e9 : gI σ 399 ((3 : Int32) * nI l).toNatClampNeg = π 9 l 0 := by rw [i1, cl (by omega), mv9 hV]
      refine ⟨fun q2 => ?_, fun q2 => ⟨by rw [i1]; exact vin (by omega), ?_⟩⟩
      · rw [q2] at nx
        exact nx
      · rw [q2] at nx
        rw [e9]
        refine ⟨fun q3 => ?_, fun q3 => ?_⟩
        · have z : (π 9 l 0 &&& (set ^^^ (-1)) == 0) = false := by simpa using q3
          rw [z] at nx
          exact nx
        · have z : (π 9 l 0 &&& (set ^^^ (-1)) == 0) = true := by simpa using q3
          rw [z] at nx
          exact nx
theorem c_isClosed {Q : Int32 → St → Prop} {σ : St} {set : Int32} (hw : RunW w) (hV : MV σ = π) (hF : WF π) (hQ : Q (b2i (closedS π set)) σ) : SpI Γ (d + 1) mX12_isClosed [.ref 390, .int set] σ w Q :=
  SpI.of pnX12 (Nat.le_of_ble_eq_true rfl) (vX12_isClosed_0 (lp_isClosed hw hV hF hQ (nL π) 0 (Nat.zero_add _)))
theorem lp_readsOf {Q : Int32 → St → Prop} {σ0 : St} {st by_ : Int32} (hw : RunW w) (hV0 : MV σ0 = π) (hF : WF π) (hQ : ∀ σ', EqM σ0 σ' → Q (readF π st by_ (nW π)) σ') :
    ∀ n v σ, EqM σ0 σ → v + n = nW π → AI Γ (d + 4) mX12_readsOf w Q 17 [(0, .ref 390), (2, .int (readF π st by_ v)), (3, .int by_), (4, .int (nI v))] σ := by
  have hF' := hF
  obtain ⟨⟨-, ⟨n1, h24⟩, -⟩, -⟩ := hF
  intro n
  induction n with
  | zero =>
    intro v σ hE hv
    have e0 : gI σ 390 5 = nI (nW π) := by rw [(mv_n (hE.mv.trans hV0)).2.1, n1]
    refine vX12_readsOf_17 hw ⟨fun _ => ?_, fun q => absurd (by rw [e0]; exact nI_le (by omega) (by omega)) q⟩
    have : v = nW π := hv
    rw [this]
    exact hQ σ hE
  | succ n ih =>
    intro v σ hE hv
    have hV := hE.mv.trans hV0
    have e0 : gI σ 390 5 = nI (nW π) := by rw [(mv_n hV).2.1, n1]
    refine vX12_readsOf_17 hw ⟨fun q => absurd q (by rw [e0]; exact nI_ge (by omega) (by omega)), fun _ => c_isRight hw hV hF' (by omega) fun σ' hs => ?_⟩
    have nx := ih (v + 1) σ' (hE.tr hs.1) (by omega)
    have st' : readF π st by_ (v + 1) = if rightS π v by_ then readF π st by_ v ||| (1 <<< (nI v &&& 31)) else readF π st by_ v := rfl
    rw [st'] at nx
    rw [b2i_n0, b2i_0, nI_1, b_or0]
    refine ⟨fun q => ?_, fun q => ?_⟩
    · rw [q] at nx
      exact nx
    · rw [q] at nx
      exact nx
theorem c_readsOf {Q : Int32 → St → Prop} {σ : St} {set : Int32} (hw : RunW w) (hV : MV σ = π) (hF : WF π) (hQ : ∀ σ', EqM σ σ' → Q (readS π set) σ') : SpI Γ (d + 4) mX12_readsOf [.ref 390, .int set] σ w Q := by
  refine SpI.of pnX12 (Nat.le_of_ble_eq_true rfl) (vX12_readsOf_0 hw ?_)
  refine c_teach (what := 2) hw hV hF (by decide) ?_
  refine c_teach (what := 1) hw hV hF (by decide) ?_
  exact lp_readsOf hw hV hF hQ (nW π) 0 σ (EqM.rf σ) (Nat.zero_add _)
end MRD
