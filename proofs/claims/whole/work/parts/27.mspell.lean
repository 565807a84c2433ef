/-! the reference: how a word is spelt -/
/-- the least below n of which p is so -/
def fstB (p : Nat → Bool) : Nat → Option Nat
  | 0 => none
  | n + 1 => match fstB p n with
    | some m => some m
    | none => if p n then some n else none
def orN (a b : Option Nat) : Option Nat := match a with
  | some m => some m
  | none => b
theorem fst_s {p : Nat → Bool} {r : Nat} {acc : Option Nat} : orN (fstB p (r + 1)) acc = orN (fstB p r) (if p r then some r else acc) := by
  show orN (match fstB p r with | some m => some m | none => if p r then some r else none) acc = _
  cases fstB p r with
  | some m => rfl
  | none =>
    show orN (if p r then some r else none) acc = (if p r then some r else acc)
    cases p r <;> rfl
theorem fstB_spec {p : Nat → Bool} : ∀ {n m : Nat}, fstB p n = some m → m < n ∧ p m = true ∧ ∀ k, k < m → p k = false
  | 0, m, h => by cases h
  | n + 1, m, h => by
    unfold fstB at h
    split at h
    · rename_i m' hm'
      cases h
      obtain ⟨a, b⟩ := fstB_spec hm'
      exact ⟨by omega, b⟩
    · rename_i hn
      split at h
      · rename_i hp
        cases h
        refine ⟨Nat.lt_succ_self _, hp, fun k hk => ?_⟩
        exact fstB_none hn k hk
      · cases h
where
  fstB_none {p : Nat → Bool} : ∀ {n : Nat}, fstB p n = none → ∀ k, k < n → p k = false
    | 0, _, k, hk => absurd hk (Nat.not_lt_zero k)
    | n + 1, h, k, hk => by
      unfold fstB at h
      split at h
      · cases h
      · rename_i hn
        split at h
        · cases h
        · rename_i hp
          by_cases e : k = n
          · subst e
            simpa using hp
          · exact fstB_none hn k (by omega)
theorem fstB_none {p : Nat → Bool} {n : Nat} (h : fstB p n = none) : ∀ k, k < n → p k = false := fstB_spec.fstB_none h
/-- a sign stands for a sound of the word -/
def oks (π : PV) (v : Nat) (set : Int32) (j k : Nat) : Bool := bt set k && (π 3 k 0 == π 8 v j) && (!(π 4 k 0 == 1) || decide (j = 0)) && (!(π 4 k 0 == 2) || decide (j + 1 = wN π v))
def ltr (π : PV) (k : Nat) : List Int32 := (List.range (sS π k)).map (π 2 k)
def splN (π : PV) (v : Nat) (set : Int32) : Nat → Nat → List Int32 → Bool × List Int32
  | 0, _, out => (true, out)
  | n + 1, j, out => match fstB (oks π v set j) (nS π) with
    | none => (false, out)
    | some k => splN π v set n (j + 1) (out ++ ltr π k)
def spl (π : PV) (v : Nat) (set : Int32) : Bool × List Int32 := splN π v set (wN π v) 0 []
def SpeltM (π : PV) (v : Nat) (set : Int32) (σ σ' : St) : Prop := EqM σ σ' ∧ OutM σ' (spl π v set).2 ∧ gI σ' 390 43 = b2i (spl π v set).1 ∧ (spl π v set).2.length ≤ 32
def wellS (π : PV) (v : Nat) (set : Int32) : Bool := (spl π v set).1 && decide ((spl π v set).2.length = wS π v) && allB (fun j => (spl π v set).2.getD j 0 == π 6 v j) (spl π v set).2.length
theorem dn_m (n : Nat) : nI n - 1 = dn n := Int32.sub_eq_add_neg _ _
theorem OutM.push {σ : St} {out : List Int32} {x : Int32} (hO : OutM σ out) (hl : out.length < 2 ^ 31) : OutM (uI (uI σ 416 (gI σ 390 42).toNatClampNeg x) 390 42 (gI σ 390 42 + 1)) (out ++ [x]) := by
  refine ⟨?_, fun j hj => ?_⟩
  · rw [gI_uI, if_pos ⟨rfl, rfl⟩, hO.1, nI_1, List.length_append]
    rfl
  · rw [gI_uI, if_neg (by omega), gI_uI, hO.1, cl hl]
    rw [List.length_append] at hj
    by_cases e : j = out.length
    · subst e
      rw [if_pos ⟨rfl, rfl⟩]
      simp
    · have hj' : j < out.length := by
        have : j < out.length + 1 := hj
        omega
      rw [if_neg (by omega), hO.2 j hj']
      simp [List.getElem?_append_left hj']
theorem OutM.u43 {σ : St} {out : List Int32} {x : Int32} (h : OutM σ out) : OutM (uI σ 390 43 x) out := ⟨by rw [gI_uI, if_neg (by decide)]; exact h.1, fun j hj => by rw [gI_uI, if_neg (by omega)]; exact h.2 j hj⟩
theorem eqM_push {σ : St} {k : Nat} {x y : Int32} : EqM σ (uI (uI σ 416 k x) 390 42 y) :=
  (EqM.uI (o := 416) (k := k) (v := x) (by simp [scrM])).tr (EqM.uI (by decide))
section MSL
variable {Γ : Gx} {d : Nat} {w : Wd} {π : PV}
theorem lp_spell40 {Q : St → Prop} {σ : St} {v j : Nat} {set : Int32} (hw : RunW w) (hV : MV σ = π) (hF : WF π) (hv : v < nW π) (hj : j < wN π v) :
    ∀ r acc, r ≤ nS π → AV Γ (d + 1) mX12_spell w Q 40 [(0, .ref 390), (1, .int (nI v)), (2, .int set), (3, .int (nI j)), (4, .int (bI (orN (fstB (oks π v set j) r) acc))), (5, .int (dn 0))] σ → AV Γ (d + 1) mX12_spell w Q 40 [(0, .ref 390), (1, .int (nI v)), (2, .int set), (3, .int (nI j)), (4, .int (bI acc)), (5, .int (dn r))] σ := by
  obtain ⟨⟨⟨n1, h20⟩, ⟨-, h24⟩, -⟩, hs, hwd, -⟩ := hF
  obtain ⟨w1, w2, w3, w4, w5, w6, -⟩ := hwd v hv
  intro r
  induction r with
  | zero => intro acc _ hX; exact hX
  | succ r ih =>
    intro acc hr hX
    rw [fst_s] at hX
    have hr20 : vp_in (nI r) 20 := vin (by omega)
    have take : oks π v set j r = true → AV Γ (d + 1) mX12_spell w Q 40 [(0, .ref 390), (1, .int (nI v)), (2, .int set), (3, .int (nI j)), (4, .int (nI r)), (5, .int (nI r + -1))] σ := fun e => ih (some r) (by omega) (by rw [e, if_pos rfl] at hX; exact hX)
    have skip : oks π v set j r = false → AV Γ (d + 1) mX12_spell w Q 40 [(0, .ref 390), (1, .int (nI v)), (2, .int set), (3, .int (nI j)), (4, .int (bI acc)), (5, .int (nI r + -1))] σ := fun e => ih acc (by omega) (by rw [e, if_neg (by decide)] at hX; exact hX)
    have ok : oks π v set j r = (bt set r && (π 3 r 0 == π 8 v j) && (!(π 4 r 0 == 1) || decide (j = 0)) && (!(π 4 r 0 == 2) || decide (j + 1 = wN π v))) := rfl
    rw [dn_s]
    refine vX12_spell_40 hw ⟨fun q => absurd q (nI_pos (by omega)), fun _ => c_has (by omega) ?_⟩
    rw [b2i_n0, b2i_0]
    have i8 : (8 : Int32) * nI v + nI j = nI (8 * v + j) := ixm 8 v j
    have e8 : gI σ 398 ((8 : Int32) * nI v + nI j).toNatClampNeg = π 8 v j := by rw [i8, cl (by omega), mv8 hV]
    have em : nI (wN π v) - 1 = nI (wN π v - 1) := by
      rw [dn_m]
      have : wN π v = (wN π v - 1) + 1 := by omega
      rw [this, dn_s]
      rfl
    have l1 : nI j = nI (wN π v - 1) ↔ j + 1 = wN π v := by rw [nI_eq (by omega) (by omega)]; omega
    have l0 : nI j = 0 ↔ j = 0 := nI_eq (b := 0) (by omega) (by omega)
    rw [e8, cl (by omega), cl (by omega), mv3 hV, mv4 hV, mv7 hV, w4, em, l1, l0]
    have hi : vp_in ((8 : Int32) * nI v + nI j) 192 := by rw [i8]; exact vin (by omega)
    have hv24 : vp_in (nI v) 24 := vin (by omega)
    refine ⟨fun q => skip ?_, fun q => ⟨hr20, hi, fun q2 => skip ?_, fun q2 => ⟨hr20, fun q3 => ⟨hr20, fun q4 => take ?_, fun q4 => ⟨hv24, fun q5 => skip ?_, fun q5 => take ?_⟩⟩, fun q3 => ⟨fun q4 => skip ?_, fun q4 => ⟨hr20, fun q5 => take ?_, fun q5 => ⟨hv24, fun q6 => skip ?_, fun q6 => take ?_⟩⟩⟩⟩⟩⟩ <;> rw [ok]
    · simp [q]
    · simp [q2]
    · simp [q, q2, q3, q4]
    · simp [q4, q5]
    · simp [q, q2, q3, q5]
    · simp [q3, q4]
    · simp [q, q2, q4, q5]
    · simp [q5, q6]
    · have h1 : decide (j = 0) = true := by simp [q4]
      have h2 : decide (j + 1 = wN π v) = true := by simp [q6]
      have h3 : (π 3 r 0 == π 8 v j) = true := by simp [q2]
      rw [q, h1, h2, h3, Bool.or_true, Bool.or_true]
      rfl
theorem lp_spell169 {Q : St → Prop} {σ0 : St} {v j k : Nat} {set : Int32} {out : List Int32} (hw : RunW w) (hV0 : MV σ0 = π) (hF : WF π) (hk : k < nS π) (hlen : out.length ≤ 28)
    (hX : ∀ σ, EqM σ0 σ → OutM σ (out ++ ltr π k) → gI σ 390 43 = 1 → AV Γ (d + 1) mX12_spell w Q 12 [(0, .ref 390), (1, .int (nI v)), (2, .int set), (3, .int (nI j + 1))] σ) :
    ∀ n i σ, i + n = sS π k → EqM σ0 σ → OutM σ (out ++ (List.range i).map (π 2 k)) → gI σ 390 43 = 1 → AV Γ (d + 1) mX12_spell w Q 169 [(0, .ref 390), (1, .int (nI v)), (2, .int set), (3, .int (nI j)), (4, .int (nI k)), (5, .int (nI i))] σ := by
  obtain ⟨⟨⟨n1, h20⟩, ⟨-, h24⟩, -⟩, hs, hwd, -⟩ := hF
  obtain ⟨s1, s2, s3, s4, -⟩ := hs k hk
  intro n
  induction n with
  | zero =>
    intro i σ hi hE hO h43
    have : i = sS π k := hi
    subst this
    refine vX12_spell_169 hw ⟨fun q => absurd q (by rw [h43]; decide), fun _ => ⟨vin (by omega), fun _ => hX σ hE hO h43, fun q => absurd ?_ q⟩⟩
    rw [cl (by omega), mv1 (hE.mv.trans hV0), s1]
    exact Int32.le_refl _
  | succ n ih =>
    intro i σ hi hE hO h43
    have hV := hE.mv.trans hV0
    have i4 : (4 : Int32) * nI k + nI i = nI (4 * k + i) := ixm 4 k i
    have e4 : gI σ 392 ((4 : Int32) * nI k + nI i).toNatClampNeg = π 2 k i := by rw [i4, cl (by omega), mv2 hV]
    have hl : (out ++ (List.range i).map (π 2 k)).length = out.length + i := by simp
    refine vX12_spell_169 hw ⟨fun q => absurd q (by rw [h43]; decide), fun _ => ⟨vin (by omega), fun q => absurd q ?_, fun _ => ⟨by rw [i4]; exact vin (by omega), ?_, ?_⟩⟩⟩
    · rw [cl (by omega), mv1 hV, s1]
      exact nI_ge (by omega) (by omega)
    · rw [hO.1, hl]
      exact vin (by omega)
    · rw [e4, nI_1]
      refine ih (i + 1) _ (by omega) (hE.tr eqM_push) ?_ (by rw [gI_uI, if_neg (by decide), gI_uI, if_neg (fun h => absurd h.1 (by decide))]; exact h43)
      have := hO.push (x := π 2 k i) (by omega)
      rw [List.append_assoc] at this
      rw [List.range_succ, List.map_append]
      exact this
theorem lp_spell12 {Q : St → Prop} {σ0 : St} {v : Nat} {set : Int32} (hw : RunW w) (hV0 : MV σ0 = π) (hF : WF π) (hv : v < nW π) :
    ∀ n j out σ, j + n = wN π v → EqM σ0 σ → OutM σ out → gI σ 390 43 = 1 → out.length ≤ 4 * j →
    (∀ σ', EqM σ0 σ' → OutM σ' (splN π v set n j out).2 → gI σ' 390 43 = b2i (splN π v set n j out).1 → (splN π v set n j out).2.length ≤ 32 → Q σ') →
    AV Γ (d + 1) mX12_spell w Q 12 [(0, .ref 390), (1, .int (nI v)), (2, .int set), (3, .int (nI j))] σ := by
  have hF' := hF
  obtain ⟨⟨⟨n1, h20⟩, ⟨-, h24⟩, -⟩, hs, hwd, -⟩ := hF
  obtain ⟨w1, w2, w3, w4, w5, w6, -⟩ := hwd v hv
  have hv24 : vp_in (nI v) 24 := vin (by omega)
  intro n
  induction n with
  | zero =>
    intro j out σ hj hE hO h43 hlen hQ
    have : j = wN π v := hj
    subst this
    refine vX12_spell_12 hw ⟨hv24, fun _ => hQ σ hE hO h43 (by show out.length ≤ 32; omega), fun q => absurd ?_ q⟩
    rw [cl (by omega), mv7 (hE.mv.trans hV0), w4]
    exact Int32.le_refl _
  | succ n ih =>
    intro j out σ hj hE hO h43 hlen hQ
    have hV := hE.mv.trans hV0
    have e0 : gI σ 390 0 = nI (nS π) := by rw [(mv_n hV).1, n1]
    refine vX12_spell_12 hw ⟨hv24, fun q => absurd q ?_, fun _ => ⟨fun q => absurd q (by rw [h43]; decide), fun _ => ?_⟩⟩
    · rw [cl (by omega), mv7 hV, w4]
      exact nI_ge (by omega) (by omega)
    · rw [e0, dn_m]
      refine lp_spell40 hw hV hF' hv (by omega) (nS π) none (Nat.le_refl _) ?_
      have eo : orN (fstB (oks π v set j) (nS π)) none = fstB (oks π v set j) (nS π) := by
        cases fstB (oks π v set j) (nS π) <;> rfl
      rw [eo]
      have es : splN π v set (n + 1) j out = (match fstB (oks π v set j) (nS π) with
        | none => (false, out)
        | some k => splN π v set n (j + 1) (out ++ ltr π k)) := rfl
      rw [es] at hQ
      cases hb : fstB (oks π v set j) (nS π) with
      | none =>
        rw [hb] at hQ
        dsimp only at hQ
        have fin : Q (uI σ 390 43 0) := hQ _ (hE.tr (EqM.uI (by decide))) hO.u43 (by rw [gI_uI, if_pos ⟨rfl, rfl⟩]; rfl) (by omega)
        refine vX12_spell_40 hw ⟨fun _ => ⟨fun _ => ?_, fun q => absurd (by decide : bI none < 0) q⟩, fun q => absurd dn_0 q⟩
        refine vX12_spell_169 hw ⟨fun _ => ?_, fun q => absurd (by rw [gI_uI, if_pos ⟨rfl, rfl⟩]) q⟩
        refine vX12_spell_12 hw ⟨hv24, fun _ => fin, fun _ => ⟨fun _ => fin, fun q => absurd (by rw [gI_uI, if_pos ⟨rfl, rfl⟩]) q⟩⟩
      | some k =>
        rw [hb] at hQ
        dsimp only at hQ
        obtain ⟨hk, -⟩ := fstB_spec hb
        refine vX12_spell_40 hw ⟨fun _ => ⟨fun q => absurd q (nI_pos (by omega)), fun _ => ?_⟩, fun q => absurd dn_0 q⟩
        refine lp_spell169 (out := out) (k := k) hw hV0 hF' hk (by omega) ?_ (sS π k) 0 _ (Nat.zero_add _) (hE.tr (EqM.uI (by decide))) ?_ (by rw [gI_uI, if_pos ⟨rfl, rfl⟩])
        · intro σ' hE' hO' h43'
          rw [nI_1]
          obtain ⟨s1, s2, s3, -⟩ := hs k hk
          exact ih (j + 1) _ σ' (by omega) hE' hO' h43' (by simp [ltr]; omega) hQ
        · have : out ++ (List.range 0).map (π 2 k) = out := by simp
          rw [this]
          exact hO.u43
theorem c_spell {Q : St → Prop} {σ : St} {v : Nat} {set : Int32} (hw : RunW w) (hV : MV σ = π) (hF : WF π) (hv : v < nW π) (hQ : ∀ σ', SpeltM π v set σ σ' → Q σ') : SpV Γ (d + 1) mX12_spell [.ref 390, .int (nI v), .int set] σ w Q := by
  refine SpV.of pnX12 (Nat.le_of_ble_eq_true rfl) (vX12_spell_0 hw ?_)
  refine lp_spell12 hw hV hF hv (wN π v) 0 [] _ (Nat.zero_add _) ((EqM.uI (by decide)).tr (EqM.uI (by decide))) ⟨by rw [gI_uI, if_neg (by decide), gI_uI, if_pos ⟨rfl, rfl⟩]; rfl, fun j hj => absurd hj (Nat.not_lt_zero j)⟩ (by rw [gI_uI, if_pos ⟨rfl, rfl⟩]) (Nat.zero_le _) ?_
  intro σ' a b c e
  exact hQ σ' ⟨a, b, c, e⟩
theorem lp_isWell {Q : Int32 → St → Prop} {σ : St} {v : Nat} {out : List Int32} {b : Bool} (hw : RunW w) (hV : MV σ = π) (hF : WF π) (hv : v < nW π) (hO : OutM σ out) (hlen : out.length ≤ 32) (hb : b = true → out.length = wS π v)
    (hQ : Q (b2i (b && allB (fun j => out.getD j 0 == π 6 v j) out.length)) σ) :
    ∀ n j, j + n = out.length → AI Γ (d + 2) mX12_isWell w Q 35 [(0, .ref 390), (1, .int (nI v)), (3, .int (b2i (b && allB (fun j => out.getD j 0 == π 6 v j) j))), (4, .int (nI j))] σ := by
  obtain ⟨⟨-, ⟨-, h24⟩, -⟩, hs, hwd, -⟩ := hF
  obtain ⟨w1, w2, w3, -⟩ := hwd v hv
  intro n
  induction n with
  | zero =>
    intro j hj
    have : j = out.length := hj
    subst this
    refine vX12_isWell_35 hw ⟨fun _ => ⟨b2i_01 _, hQ⟩, fun q => absurd ?_ q⟩
    rw [hO.1]
    exact Int32.le_refl _
  | succ n ih =>
    intro j hj
    refine vX12_isWell_35 hw ⟨fun q => absurd q ?_, fun _ => ⟨fun q => ⟨b2i_01 _, ?_⟩, fun q => ?_⟩⟩
    · rw [hO.1]
      exact nI_ge (by omega) (by omega)
    · rw [b2i_0] at q
      have e : (b && allB (fun j => out.getD j 0 == π 6 v j) out.length) = false := by
        cases hb' : b with
        | false => rfl
        | true =>
          rw [hb', Bool.true_and] at q
          rw [Bool.true_and]
          exact allB_false q (by omega)
      rw [q, ← e]
      exact hQ
    · rw [b2i_n0, Bool.and_eq_true] at q
      have hl := hb q.1
      have i8 : (8 : Int32) * nI v + nI j = nI (8 * v + j) := ixm 8 v j
      have e8 : gI σ 396 ((8 : Int32) * nI v + nI j).toNatClampNeg = π 6 v j := by rw [i8, cl (by omega), mv6 hV]
      have step : allB (fun j => out.getD j 0 == π 6 v j) (j + 1) = (out.getD j 0 == π 6 v j) := by
        show (allB _ j && _) = _
        rw [q.2, Bool.true_and]
      have nx := ih (j + 1) (by omega)
      rw [q.1, Bool.true_and, step] at nx
      rw [e8, cl (by omega), hO.2 j (by omega), nI_1]
      refine ⟨vin (by omega), by rw [i8]; exact vin (by omega), fun q2 => ?_, fun q2 => ?_⟩
      · have z : (out.getD j 0 == π 6 v j) = false := by simpa using q2
        rw [z] at nx
        exact nx
      · have z : (out.getD j 0 == π 6 v j) = true := by simpa using q2
        rw [z] at nx
        exact nx
theorem c_isWell {Q : Int32 → St → Prop} {σ : St} {v : Nat} {set : Int32} (hw : RunW w) (hV : MV σ = π) (hF : WF π) (hv : v < nW π) (hQ : ∀ σ', EqM σ σ' → Q (b2i (wellS π v set)) σ') : SpI Γ (d + 2) mX12_isWell [.ref 390, .int (nI v), .int set] σ w Q := by
  have hF' := hF
  obtain ⟨⟨-, ⟨-, h24⟩, -⟩, hs, hwd, -⟩ := hF
  obtain ⟨w1, w2, w3, -⟩ := hwd v hv
  refine SpI.of pnX12 (Nat.le_of_ble_eq_true rfl) (vX12_isWell_0 hw (c_spell hw hV hF' hv fun s ⟨hE, hO, h43, hl⟩ => ?_))
  have hV' := hE.mv.trans hV
  have hq := hQ s hE
  unfold wellS at hq
  have go : ∀ b : Bool, b = ((spl π v set).1 && decide ((spl π v set).2.length = wS π v)) → AI Γ (d + 2) mX12_isWell w Q 35 [(0, .ref 390), (1, .int (nI v)), (3, .int (b2i b)), (4, .int 0)] s := by
    intro b e
    have h := lp_isWell (Q := Q) (Γ := Γ) (d := d) (b := b) hw hV' hF' hv hO hl (fun h => ?_) (by rw [e]; exact hq) _ 0 (Nat.zero_add _)
    · rw [show allB (fun j => (spl π v set).2.getD j 0 == π 6 v j) 0 = true from rfl, Bool.and_true] at h
      exact h
    · rw [e] at h
      simp only [Bool.and_eq_true, decide_eq_true_eq] at h
      exact h.2
  have g0 := go false
  have g1 := go true
  rw [h43, b2i_n0, b2i_0, hO.1, cl (by omega), mv5 hV', w1, nI_eq (by omega) (by omega)]
  refine ⟨fun q => g0 ?_, fun q => ⟨vin (by omega), fun q2 => g0 ?_, fun q2 => g1 ?_⟩⟩
  · rw [q]
    rfl
  · simp [q2]
  · simp [q, q2]
def A_right (π : PV) (v set how : Int32) : Int32 := if inB v (nW π) && inB set (2 ^ nS π) then (if how = 0 then b2i (rightS π v.toNatClampNeg set) else if how = 1 then b2i (wellS π v.toNatClampNeg set) else if how = 2 then b2i (decide (0 < wy π v.toNatClampNeg set 0 0)) else -1002) else -1001
def A_spelt (π : PV) (v set j : Int32) : Int32 := if inB v (nW π) && inB set (2 ^ nS π) then A_out (spl π v.toNatClampNeg set).2 j else -1001
theorem M_spelt {Q : Int32 → St → Prop} {σ : St} {x y z : Int32} (hw : RunW w) (hV : MV σ = π) (hF : WF π) (hQ : ∀ σ', EqM σ σ' → Q (A_spelt π x y z) σ') : SpI Γ (d + 2) mX12_spelt [.ref 390, .int x, .int y, .int z] σ w Q := by
  have hF' := hF
  obtain ⟨⟨⟨n1, h20⟩, ⟨n2, h24⟩, -⟩, -, -⟩ := hF
  refine SpI.of pnX12 (Nat.le_of_ble_eq_true rfl) (vX12_spelt_0 hw (c_isWord hw ((mv_n hV).2.1.trans n2) (by omega) ?_))
  rw [b2i_n0, b2i_0]
  unfold A_spelt at hQ
  refine ⟨fun q => by rw [q] at hQ; exact hQ σ (EqM.rf σ), fun q => c_areSigns hw ((mv_n hV).1.trans n1) (by omega) ?_⟩
  rw [q, Bool.true_and] at hQ
  rw [b2i_n0, b2i_0]
  refine ⟨fun q2 => ?_, fun q2 => by rw [q2] at hQ; exact hQ σ (EqM.rf σ)⟩
  rw [q2, if_pos rfl] at hQ
  obtain ⟨v, hv, rfl⟩ := inB_of q
  rw [cl (by omega)] at hQ
  refine c_spell hw hV hF' hv fun s hs => ?_
  exact c_outAt hw hs.2.1 (by have := hs.2.2.2; omega) (hQ s hs.1)
theorem lN_ti63 {n : Nat} (h : n < 2 ^ 63) : (lN n).toInt = n := Int64.toInt_ofNat_of_lt h
theorem lN_pos {n : Nat} (h : n < 2 ^ 63) : lg_cmp (lN n) 0 ≤ 0 ↔ n = 0 := by
  constructor
  · intro q
    rcases Nat.eq_zero_or_pos n with e | e
    · exact e
    · exfalso
      have h0 : (0 : Int64) < lN n := by
        rw [Int64.lt_iff_toInt_lt, lN_ti63 h]
        show (0 : Int) < n
        omega
      have h3 : ¬ lN n < 0 := Int64.not_lt.mpr (Int64.le_of_lt h0)
      have h4 : ¬ lN n = 0 := fun e => by rw [e] at h0; exact absurd h0 (by decide)
      have h2 : lg_cmp (lN n) 0 = 1 := by
        unfold lg_cmp
        simp [h3, h4, h0]
      rw [h2] at q
      exact absurd q (by decide)
  · intro e
    subst e
    decide
theorem b2i_cs {Q : Int32 → Prop} {b : Bool} (h : Q (b2i b)) : (b2i b = 0 → Q 0) ∧ (¬ b2i b = 0 → Q 1) := by
  cases b with
  | false => exact ⟨fun _ => h, fun q => absurd rfl q⟩
  | true => exact ⟨fun q => absurd q (by decide), fun _ => h⟩
theorem M_right {Q : Int32 → St → Prop} {σ : St} {x y z : Int32} (hw : RunW w) (hV : MV σ = π) (hF : WF π) (hQ : ∀ σ', EqM σ σ' → Q (A_right π x y z) σ') : SpI Γ (d + 4) mX12_right [.ref 390, .int x, .int y, .int z] σ w Q := by
  have hF' := hF
  obtain ⟨⟨⟨n1, h20⟩, ⟨n2, h24⟩, -⟩, -, -⟩ := hF
  refine SpI.of pnX12 (Nat.le_of_ble_eq_true rfl) (vX12_right_0 hw (c_isWord hw ((mv_n hV).2.1.trans n2) (by omega) ?_))
  rw [b2i_n0, b2i_0]
  unfold A_right at hQ
  refine ⟨fun q => by rw [q] at hQ; exact hQ σ (EqM.rf σ), fun q => c_areSigns hw ((mv_n hV).1.trans n1) (by omega) ?_⟩
  rw [q, Bool.true_and] at hQ
  rw [b2i_n0, b2i_0]
  refine ⟨fun q2 => ?_, fun q2 => by rw [q2] at hQ; exact hQ σ (EqM.rf σ)⟩
  rw [q2, if_pos rfl] at hQ
  obtain ⟨v, hv, rfl⟩ := inB_of q
  rw [cl (by omega)] at hQ
  refine ⟨fun q3 => ?_, fun q3 => ⟨fun q4 => ?_, fun q4 => ⟨fun q5 => ?_, fun q5 => ?_⟩⟩⟩
  · rw [if_pos q3] at hQ
    exact c_isRight hw hV hF' hv fun s hs => b2i_cs (Q := fun a => Q a s) (hQ s hs.1)
  · rw [if_neg q3, if_pos q4] at hQ
    exact c_isWell hw hV hF' hv fun s hs => b2i_cs (Q := fun a => Q a s) (hQ s hs)
  · rw [if_neg q3, if_neg q4, if_pos q5] at hQ
    refine c_findWays hw hV hF' hv fun s hs _ => ?_
    rw [lN_pos (wy_lt hF' hv (Nat.zero_le _) (Nat.zero_le _))]
    have h := hQ s hs
    refine ⟨fun e => ?_, fun e => ?_⟩
    · have : decide (0 < wy π v y 0 0) = false := by simp [e]
      rw [this] at h
      exact h
    · have : decide (0 < wy π v y 0 0) = true := by simp; omega
      rw [this] at h
      exact h
  · rw [if_neg q3, if_neg q4, if_neg q5] at hQ
    exact hQ σ (EqM.rf σ)
end MSL
