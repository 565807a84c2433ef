/-! the reference: how a word comes out aloud -/
/-- of the signs below n of the set that fit the one with the most letters, of like ones the least -/
def bst (π : PV) (v : Nat) (set : Int32) (i : Nat) : Nat → Option Nat
  | 0 => none
  | n + 1 => if bt set n && fitS π n v i then (match bst π v set i n with
      | none => some n
      | some m => if sS π m < sS π n then some n else some m) else bst π v set i n
def bI (r : Option Nat) : Int32 := match r with
  | none => -1
  | some k => nI k
theorem bst_spec {π : PV} {v : Nat} {set : Int32} {i : Nat} : ∀ {n m : Nat}, bst π v set i n = some m → m < n ∧ bt set m = true ∧ fitS π m v i = true
  | 0, m, h => by cases h
  | n + 1, m, h => by
    unfold bst at h
    split at h
    · rename_i hc
      rw [Bool.and_eq_true] at hc
      split at h
      · cases h
        exact ⟨Nat.lt_succ_self _, hc⟩
      · rename_i m' hm'
        split at h
        · cases h
          exact ⟨Nat.lt_succ_self _, hc⟩
        · cases h
          obtain ⟨a, b⟩ := bst_spec hm'
          exact ⟨by omega, b⟩
    · obtain ⟨a, b⟩ := bst_spec h
      exact ⟨by omega, b⟩
theorem fitS_le {π : PV} {k v i : Nat} (h : fitS π k v i = true) : i + sS π k ≤ wS π v := by
  unfold fitS fitB at h
  simp only [Bool.and_eq_true, decide_eq_true_eq] at h
  exact h.1.1.1
/-- from letter i on: where it ended, the sounds, the signs -/
def spk (π : PV) (v : Nat) (set : Int32) : Nat → Nat → List Int32 → Int32 → Nat × List Int32 × Int32
  | 0, i, out, sg => (i, out, sg)
  | f + 1, i, out, sg => if i < wS π v then (match bst π v set i (nS π) with
      | none => (i, out, sg)
      | some k => spk π v set f (i + sS π k) (if π 3 k 0 < 0 then out else out ++ [π 3 k 0]) (sg ||| (1 <<< (nI k &&& 31)))) else (i, out, sg)
def spkAll (π : PV) (v : Nat) (set : Int32) : Nat × List Int32 × Int32 := spk π v set 9 0 [] 0
/-- the sounds are out -/
def OutM (σ : St) (out : List Int32) : Prop := gI σ 390 42 = nI out.length ∧ ∀ j, j < out.length → gI σ 416 j = out.getD j 0
def Spoken (π : PV) (v : Nat) (set : Int32) (σ σ' : St) : Prop := EqM σ σ' ∧ OutM σ' (spkAll π v set).2.1 ∧ gI σ' 390 44 = (spkAll π v set).2.2 ∧ gI σ' 390 43 = b2i (decide ((spkAll π v set).1 = wS π v)) ∧ (spkAll π v set).2.1.length ≤ 8
section MSP
variable {Γ : Gx} {d : Nat} {w : Wd} {π : PV}
theorem bI_neg {r : Option Nat} (h : ∀ m, r = some m → m < 2 ^ 31) : bI r < 0 ↔ r = none := by
  cases r with
  | none => exact ⟨fun _ => rfl, fun _ => by decide⟩
  | some k => exact ⟨fun q => absurd q (nI_pos (h k rfl)), fun q => by cases q⟩
theorem lp_speak36 {Q : St → Prop} {σ : St} {v i : Nat} {set : Int32} (hw : RunW w) (hV : MV σ = π) (hF : WF π) (hv : v < nW π) (hi : i < 1000)
    (hX : AV Γ (d + 2) mX12_speak w Q 36 [(0, .ref 390), (1, .int (nI v)), (2, .int set), (3, .int (nI i)), (4, .int (bI (bst π v set i (nS π)))), (5, .int (nI (nS π)))] σ) :
    ∀ n k, k + n = nS π → AV Γ (d + 2) mX12_speak w Q 36 [(0, .ref 390), (1, .int (nI v)), (2, .int set), (3, .int (nI i)), (4, .int (bI (bst π v set i k))), (5, .int (nI k))] σ := by
  have hF' := hF
  obtain ⟨⟨⟨n1, h20⟩, ⟨-, h24⟩, -⟩, hs, hwd, -⟩ := hF
  have e0 : gI σ 390 0 = nI (nS π) := by rw [(mv_n hV).1, n1]
  intro n
  induction n with
  | zero =>
    intro k hk
    have : k = nS π := hk
    subst this
    exact hX
  | succ n ih =>
    intro k hk
    have nx := ih (k + 1) (by omega)
    have hk20 : vp_in (nI k) 20 := vin (by omega)
    refine vX12_speak_36 hw ⟨fun q => absurd q ?_, fun _ => c_has (by omega) ?_⟩
    · rw [e0]
      exact nI_ge (by omega) (by omega)
    · have skip : ∀ {b : Bool}, (bt set k && fitS π k v i) = b → b = false → AV Γ (d + 2) mX12_speak w Q 36 [(0, .ref 390), (1, .int (nI v)), (2, .int set), (3, .int (nI i)), (4, .int (bI (bst π v set i k))), (5, .int (nI k + 1))] σ := by
        intro b e e2
        rw [nI_1]
        have : bst π v set i (k + 1) = bst π v set i k := by
          show (if bt set k && fitS π k v i then _ else _) = _
          rw [e, e2]
          rfl
        rw [← this]
        exact nx
      refine ⟨fun q => ?_, fun q => c_isFit hw hV hF' (by omega) hv hi ?_⟩
      · rw [b2i_0] at q
        exact skip (b := false) (by rw [q]; rfl) rfl
      · rw [b2i_n0] at q
        refine ⟨fun q2 => ?_, fun q2 => ?_⟩
        · rw [b2i_0] at q2
          exact skip (b := false) (by rw [q2]; simp) rfl
        · rw [b2i_n0] at q2
          have stp : bst π v set i (k + 1) = (match bst π v set i k with | none => some k | some m => if sS π m < sS π k then some k else some m) := by
            show (if bt set k && fitS π k v i then _ else _) = _
            rw [q, q2]
            rfl
          rw [stp] at nx
          rw [nI_1]
          cases hb : bst π v set i k with
          | none =>
            rw [hb] at nx
            exact ⟨fun _ => nx, fun q3 => absurd (by decide : bI none < 0) q3⟩
          | some m =>
            obtain ⟨hm, -⟩ := bst_spec hb
            obtain ⟨sm1, sm2, sm3, -⟩ := hs m (by omega)
            obtain ⟨sk1, sk2, sk3, -⟩ := hs k (by omega)
            rw [hb] at nx
            refine ⟨fun q3 => absurd q3 (nI_pos (by omega)), fun _ => ⟨hk20, vin (by omega), ?_⟩⟩
            have ek : gI σ 391 (nI k).toNatClampNeg = nI (sS π k) := by rw [cl (by omega), mv1 hV, sk1]
            have em : gI σ 391 (bI (some m)).toNatClampNeg = nI (sS π m) := by
              show gI σ 391 (nI m).toNatClampNeg = _
              rw [cl (by omega), mv1 hV, sm1]
            rw [ek, em]
            refine ⟨fun q3 => ?_, fun q3 => ?_⟩
            · rw [nI_leI (by omega) (by omega)] at q3
              have : ¬ sS π m < sS π k := by omega
              simp only [this, if_false] at nx
              exact nx
            · rw [nI_leI (by omega) (by omega)] at q3
              have : sS π m < sS π k := by omega
              simp only [this, if_true] at nx
              exact nx
theorem lp_speak15 {Q : St → Prop} {v : Nat} {set : Int32} {σ0 : St} (hw : RunW w) (hV0 : MV σ0 = π) (hF : WF π) (hv : v < nW π) :
    ∀ f i out sg (σ : St) (x4 : Int32), wS π v < i + f → i ≤ wS π v → out.length ≤ i → EqM σ0 σ → OutM σ out → gI σ 390 44 = sg → ¬ x4 < 0 →
    (∀ σ', EqM σ0 σ' → OutM σ' (spk π v set f i out sg).2.1 → gI σ' 390 44 = (spk π v set f i out sg).2.2 → gI σ' 390 43 = b2i (decide ((spk π v set f i out sg).1 = wS π v)) → (spk π v set f i out sg).2.1.length ≤ 8 → Q σ') →
    AV Γ (d + 2) mX12_speak w Q 15 [(0, .ref 390), (1, .int (nI v)), (2, .int set), (3, .int (nI i)), (4, .int x4)] σ := by
  have hF' := hF
  obtain ⟨⟨⟨n1, h20⟩, ⟨-, h24⟩, -⟩, hs, hwd, -⟩ := hF
  obtain ⟨w1, w2, w3, -⟩ := hwd v hv
  have hv24 : vp_in (nI v) 24 := vin (by omega)
  have EW : ∀ σ, EqM σ0 σ → gI σ 395 (nI v).toNatClampNeg = nI (wS π v) := fun σ hE => by rw [cl (by omega), mv5 (hE.mv.trans hV0), w1]
  have hset : ∀ {σ : St} {out : List Int32} {x : Int32}, OutM σ out → OutM (uI σ 390 43 x) out := fun {σ out x} h => ⟨by rw [gI_uI, if_neg (by decide)]; exact h.1, fun j hj => by rw [gI_uI, if_neg (by omega)]; exact h.2 j hj⟩
  intro f
  induction f with
  | zero => intro i out sg σ x4 h1 h2; omega
  | succ f ih =>
    intro i out sg σ x4 h1 h2 hlen hE hO hG hx hQ
    have hV : MV σ = π := hE.mv.trans hV0
    have ew := EW σ hE
    refine vX12_speak_15 hw ?_
    rw [ew]
    have l1 : nI (wS π v) ≤ nI i ↔ wS π v ≤ i := nI_leI (by omega) (by omega)
    have l2 : nI i = nI (wS π v) ↔ i = wS π v := nI_eq (by omega) (by omega)
    rw [l1, l2]
    refine ⟨hv24, fun q => ⟨hv24, fun q2 => absurd (by omega) q2, fun q2 => ?_⟩, fun q => ⟨fun q2 => absurd q2 hx, fun _ => ?_⟩⟩
    · have e : spk π v set (f + 1) i out sg = (i, out, sg) := by
        unfold spk
        rw [if_neg (by omega)]
      rw [e] at hQ
      refine hQ _ (hE.tr (EqM.uI (by decide))) (hset hO) (by rw [gI_uI, if_neg (by decide)]; exact hG) ?_ (by show out.length ≤ 8; omega)
      rw [gI_uI, if_pos ⟨rfl, rfl⟩]
      simp [q2, b2i]
    · have hX : AV Γ (d + 2) mX12_speak w Q 36 [(0, .ref 390), (1, .int (nI v)), (2, .int set), (3, .int (nI i)), (4, .int (bI (bst π v set i (nS π)))), (5, .int (nI (nS π)))] σ := by
        have e0 : gI σ 390 0 = nI (nS π) := by rw [(mv_n hV).1, n1]
        refine vX12_speak_36 hw ⟨fun _ => ?_, fun q => absurd (by rw [e0]; exact nI_le (Nat.le_refl _) (by omega)) q⟩
        have e : spk π v set (f + 1) i out sg = (match bst π v set i (nS π) with
            | none => (i, out, sg)
            | some k => spk π v set f (i + sS π k) (if π 3 k 0 < 0 then out else out ++ [π 3 k 0]) (sg ||| (1 <<< (nI k &&& 31)))) := by
          show (if i < wS π v then _ else _) = _
          rw [if_pos (by omega)]
        rw [e] at hQ
        cases hb : bst π v set i (nS π) with
        | none =>
          rw [hb] at hQ
          dsimp only at hQ
          refine ⟨fun _ => ?_, fun q => absurd (by decide : bI none < 0) q⟩
          refine vX12_speak_15 hw ?_
          rw [ew, l1, l2]
          refine ⟨hv24, fun q => absurd q (by omega), fun _ => ⟨fun _ => ⟨hv24, fun _ => ?_, fun q => absurd q (by omega)⟩, fun q => absurd (by decide : bI none < 0) q⟩⟩
          refine hQ _ (hE.tr (EqM.uI (by decide))) (hset hO) (by rw [gI_uI, if_neg (by decide)]; exact hG) ?_ (by show out.length ≤ 8; omega)
          rw [gI_uI, if_pos ⟨rfl, rfl⟩]
          have : ¬ i = wS π v := by omega
          simp [this, b2i]
        | some k =>
          rw [hb] at hQ
          dsimp only at hQ
          obtain ⟨hk, -, hfit⟩ := bst_spec hb
          have hle := fitS_le hfit
          obtain ⟨s1, s2, s3, s4, -⟩ := hs k hk
          have hk20 : vp_in (nI k) 20 := vin (by omega)
          have ek : gI σ 391 (bI (some k)).toNatClampNeg = nI (sS π k) := by
            show gI σ 391 (nI k).toNatClampNeg = _
            rw [cl (by omega), mv1 hV, s1]
          have es : gI σ 393 (bI (some k)).toNatClampNeg = π 3 k 0 := by
            show gI σ 393 (nI k).toNatClampNeg = _
            rw [cl (by omega), mv3 hV]
          have hp : ¬ bI (some k) < 0 := nI_pos (by omega)
          refine ⟨fun q => absurd q hp, fun _ => ⟨hk20, hk20, ?_⟩⟩
          rw [ek, es, nI_add, hG]
          refine ⟨fun q => ?_, fun q => ⟨hk20, ?_, ?_⟩⟩
          · simp only [if_pos q] at hQ
            exact ih (i + sS π k) out _ _ _ (by omega) hle (by omega) (hE.tr (EqM.uI (by decide))) ⟨by rw [gI_uI, if_neg (by decide)]; exact hO.1, fun j hj => by rw [gI_uI, if_neg (by omega)]; exact hO.2 j hj⟩ (by rw [gI_uI, if_pos ⟨rfl, rfl⟩]; rfl) hp hQ
          · rw [hO.1]
            exact vin (by omega)
          · simp only [if_neg q] at hQ
            refine ih (i + sS π k) (out ++ [π 3 k 0]) _ _ _ (by omega) hle (by rw [List.length_append]; show out.length + 1 ≤ _; omega) (hE.tr ((EqM.uI (by decide)).tr ((EqM.uI (by simp [scrM])).tr (EqM.uI (by decide))))) ⟨?_, fun j hj => ?_⟩ ?_ hp hQ
            · rw [gI_uI, if_pos ⟨rfl, rfl⟩, hO.1, nI_1, List.length_append]
              rfl
            · rw [gI_uI, if_neg (by omega), gI_uI, hO.1, cl (by omega)]
              rw [List.length_append] at hj
              by_cases e : j = out.length
              · subst e
                rw [if_pos ⟨rfl, rfl⟩]
                simp
              · have hj' : j < out.length := by
                  have : j < out.length + 1 := hj
                  omega
                rw [if_neg (by omega), gI_uI, if_neg (by omega), hO.2 j hj']
                simp [List.getElem?_append_left hj']
            · rw [gI_uI, if_neg (by omega), gI_uI, if_neg (by omega), gI_uI, if_pos ⟨rfl, rfl⟩]
              rfl
      exact lp_speak36 hw hV hF' hv (by omega) hX (nS π) 0 (Nat.zero_add _)
theorem c_speak {Q : St → Prop} {v : Nat} {set : Int32} {σ : St} (hw : RunW w) (hV : MV σ = π) (hF : WF π) (hv : v < nW π) (hQ : ∀ σ', Spoken π v set σ σ' → Q σ') : SpV Γ (d + 2) mX12_speak [.ref 390, .int (nI v), .int set] σ w Q := by
  have hF' := hF
  obtain ⟨-, hs, hwd, -⟩ := hF
  obtain ⟨w1, w2, w3, -⟩ := hwd v hv
  refine SpV.of pnX12 (Nat.le_of_ble_eq_true rfl) (vX12_speak_0 hw ?_)
  refine lp_speak15 hw hV hF' hv 9 0 [] 0 _ 0 (by omega) (by omega) (Nat.zero_le _) ((EqM.uI (by decide)).tr (EqM.uI (by decide))) ⟨by rw [gI_uI, if_neg (by decide), gI_uI, if_pos ⟨rfl, rfl⟩]; rfl, fun j hj => absurd hj (Nat.not_lt_zero j)⟩ (by rw [gI_uI, if_pos ⟨rfl, rfl⟩]) (by decide) ?_
  intro σ' a b c e g
  exact hQ σ' ⟨a, b, c, e, g⟩
end MSP
