/-! the reference: pupils. A view: 0 days, 1 lessons taken, 2 spans, 3 last days (44 of each pupil: 20 signs, 24 words), 4 the base -/
abbrev KV : Type := Nat → Nat → Int32
def KM (σ : St) : KV := fun t i => match t with
  | 0 => if i < 3 then gI σ 419 i else 0
  | 1 => if i < 3 then gI σ 420 i else 0
  | 2 => if i < 132 then gI σ 421 i else 0
  | 3 => if i < 132 then gI σ 422 i else 0
  | _ => gI σ 390 47
def updK (κ : KV) (t i : Nat) (v : Int32) : KV := fun a b => if a = t ∧ b = i then v else κ a b
/-- cells that a change of pupils may touch -/
def scrU (o k : Nat) : Bool := scrC o k || o == 419 || o == 420 || o == 421 || o == 422 || (o == 390 && k == 47)
def EqU (σ σ' : St) : Prop := (∀ o k, scrU o k = false → gI σ' o k = gI σ o k) ∧ (∀ o k, o ≠ 390 → o ≠ 415 → gJ σ' o k = gJ σ o k) ∧ ∀ o k, gR σ' o k = gR σ o k
theorem EqC.u {σ σ' : St} (h : EqC σ σ') : EqU σ σ' := ⟨fun o k q => h.1 o k (by unfold scrU at q; simp only [Bool.or_eq_false_iff] at q; exact q.1.1.1.1.1), h.2⟩
theorem EqM.u {σ σ' : St} (h : EqM σ σ') : EqU σ σ' := h.c.u
theorem EqU.rf (σ : St) : EqU σ σ := (EqM.rf σ).u
theorem EqU.tr {a b c : St} (h : EqU a b) (h2 : EqU b c) : EqU a c := ⟨fun o k q => (h2.1 o k q).trans (h.1 o k q), fun o k q q2 => (h2.2.1 o k q q2).trans (h.2.1 o k q q2), fun o k => (h2.2.2 o k).trans (h.2.2 o k)⟩
theorem eqU_u {σ : St} {o k : Nat} {v : Int32} (h : scrU o k = true) : EqU σ (uI σ o k v) := by
  refine ⟨fun a b q => ?_, fun a b _ _ => rfl, fun _ _ => rfl⟩
  rw [gI_uI, if_neg]
  rintro ⟨rfl, rfl⟩
  rw [h] at q
  cases q
theorem EqU.mv {σ σ' : St} (h : EqU σ σ') : MV σ' = MV σ := by
  funext t i j
  unfold MV
  have z : ∀ o k, o ≠ 390 → o < 415 → gI σ' o k = gI σ o k := fun o k h1 h2 => h.1 o k (by
    have a1 : ¬ o = 415 := by omega
    have a2 : ¬ o = 416 := by omega
    have a3 : ¬ o = 417 := by omega
    have a4 : ¬ o = 418 := by omega
    have a5 : ¬ o = 419 := by omega
    have a6 : ¬ o = 420 := by omega
    have a7 : ¬ o = 421 := by omega
    have a8 : ¬ o = 422 := by omega
    simp [scrU, scrC, scrM, h1, a1, a2, a3, a4, a5, a6, a7, a8])
  split
  · split <;> exact h.1 _ _ (by decide)
  all_goals exact z _ _ (by decide) (by decide)
theorem EqC.km {σ σ' : St} (h : EqC σ σ') : KM σ' = KM σ := by
  have z : ∀ o k, o = 419 ∨ o = 420 ∨ o = 421 ∨ o = 422 → gI σ' o k = gI σ o k := by
    intro o k ho
    apply h.1
    rcases ho with rfl | rfl | rfl | rfl <;> simp [scrC, scrM]
  funext t i
  unfold KM
  rw [z 419 i (by omega), z 420 i (by omega), z 421 i (by omega), z 422 i (by omega), h.1 390 47 (by decide)]
theorem EqM.km {σ σ' : St} (h : EqM σ σ') : KM σ' = KM σ := h.c.km
theorem km0 {σ : St} {κ : KV} (h : KM σ = κ) {q : Nat} (hq : q < 3) : gI σ 419 q = κ 0 q := by subst h; simp [KM, hq]
theorem km1 {σ : St} {κ : KV} (h : KM σ = κ) {q : Nat} (hq : q < 3) : gI σ 420 q = κ 1 q := by subst h; simp [KM, hq]
theorem km2 {σ : St} {κ : KV} (h : KM σ = κ) {q : Nat} (hq : q < 132) : gI σ 421 q = κ 2 q := by subst h; simp [KM, hq]
theorem km3 {σ : St} {κ : KV} (h : KM σ = κ) {q : Nat} (hq : q < 132) : gI σ 422 q = κ 3 q := by subst h; simp [KM, hq]
theorem km4 {σ : St} {κ : KV} (h : KM σ = κ) : gI σ 390 47 = κ 4 0 := by subst h; rfl
theorem km_0 {σ : St} {i : Nat} {v : Int32} (hi : i < 3) : KM (uI σ 419 i v) = updK (KM σ) 0 i v := by
  funext t j
  by_cases e : j = i
  · subst e
    rcases t with _ | _ | _ | _ | t <;> simp [KM, updK, gI_uI, hi]
  · rcases t with _ | _ | _ | _ | t <;> simp [KM, updK, gI_uI, e]
theorem km_1 {σ : St} {i : Nat} {v : Int32} (hi : i < 3) : KM (uI σ 420 i v) = updK (KM σ) 1 i v := by
  funext t j
  by_cases e : j = i
  · subst e
    rcases t with _ | _ | _ | _ | t <;> simp [KM, updK, gI_uI, hi]
  · rcases t with _ | _ | _ | _ | t <;> simp [KM, updK, gI_uI, e]
theorem km_2 {σ : St} {i : Nat} {v : Int32} (hi : i < 132) : KM (uI σ 421 i v) = updK (KM σ) 2 i v := by
  funext t j
  by_cases e : j = i
  · subst e
    rcases t with _ | _ | _ | _ | t <;> simp [KM, updK, gI_uI, hi]
  · rcases t with _ | _ | _ | _ | t <;> simp [KM, updK, gI_uI, e]
theorem km_3 {σ : St} {i : Nat} {v : Int32} (hi : i < 132) : KM (uI σ 422 i v) = updK (KM σ) 3 i v := by
  funext t j
  by_cases e : j = i
  · subst e
    rcases t with _ | _ | _ | _ | t <;> simp [KM, updK, gI_uI, hi]
  · rcases t with _ | _ | _ | _ | t <;> simp [KM, updK, gI_uI, e]
theorem updK_o {κ : KV} {t i a b : Nat} {v : Int32} (h : a ≠ t) : updK κ t i v a b = κ a b := if_neg fun e => h e.1
/-- a sign or a word is held -/
def heldS (κ : KV) (q j : Nat) : Bool := !decide (κ 2 (44 * q + j) ≤ 0) && !decide (κ 2 (44 * q + j) < κ 0 q - κ 3 (44 * q + j))
def heldF (κ : KV) (q off : Nat) : Nat → Int32
  | 0 => 0
  | n + 1 => if heldS κ q (off + n) then heldF κ q off n ||| (1 <<< (nI n &&& 31)) else heldF κ q off n
/-- use of a sign or of a word -/
def spanN (κ : KV) (q j : Nat) : Int32 := if heldS κ q j then (if 2 * κ 2 (44 * q + j) ≤ 999 then 2 * κ 2 (44 * q + j) else 999) else κ 4 0
def useK (κ : KV) (q j : Nat) : KV := if heldS κ q j && (κ 3 (44 * q + j) == κ 0 q) then κ else updK (updK κ 2 (44 * q + j) (spanN κ q j)) 3 (44 * q + j) (κ 0 q)
def useF (κ : KV) (q : Nat) (set : Int32) (off : Nat) : Nat → KV
  | 0 => κ
  | n + 1 => if bt set n then useK (useF κ q set off n) q (off + n) else useF κ q set off n
def useA (π : PV) (κ : KV) (q : Nat) (sg wd : Int32) : KV := useF (useF κ q sg 0 (nS π)) q wd 20 (nW π)
section MPU
variable {Γ : Gx} {d : Nat} {w : Wd} {π : PV} {κ : KV}
theorem c_isHeld {Q : Int32 → St → Prop} {σ : St} {q j : Nat} (hw : RunW w) (hK : KM σ = κ) (hq : q < 3) (hj : j < 44) (hQ : Q (b2i (heldS κ q j)) σ) : SpI Γ d mX12_isHeld [.ref 390, .int (nI q), .int (nI j)] σ w Q := by
  have i4 : (44 : Int32) * nI q + nI j = nI (44 * q + j) := ixm 44 q j
  refine SpI.of pnX12 (Nat.le_of_ble_eq_true rfl) (vX12_isHeld_0 hw ?_)
  have hv : vp_in (nI (44 * q + j)) 132 := vin (by omega)
  have hi : 44 * q + j < 132 := by omega
  rw [i4, cl (by omega), cl (by omega), km0 hK hq, km2 hK hi, km3 hK hi]
  unfold heldS at hQ
  refine ⟨hv, fun c => ?_, fun c => ⟨vin (by omega), hv, hv, fun c2 => ?_, fun c2 => ?_⟩⟩
  · have : decide (κ 2 (44 * q + j) ≤ 0) = true := decide_eq_true c
    rw [this] at hQ
    exact hQ
  · have h1 : decide (κ 2 (44 * q + j) ≤ 0) = false := decide_eq_false c
    have h2 : decide (κ 2 (44 * q + j) < κ 0 q - κ 3 (44 * q + j)) = true := decide_eq_true c2
    rw [h1, h2] at hQ
    exact hQ
  · have h1 : decide (κ 2 (44 * q + j) ≤ 0) = false := decide_eq_false c
    have h2 : decide (κ 2 (44 * q + j) < κ 0 q - κ 3 (44 * q + j)) = false := decide_eq_false c2
    rw [h1, h2] at hQ
    exact hQ
theorem lp_heldSigns {Q : Int32 → St → Prop} {σ : St} {q : Nat} (hw : RunW w) (hV : MV σ = π) (hF : WF π) (hK : KM σ = κ) (hq : q < 3) (hQ : Q (heldF κ q 0 (nS π)) σ) :
    ∀ n k, k + n = nS π → AI Γ (d + 1) mX12_heldSigns w Q 4 [(0, .ref 390), (1, .int (nI q)), (2, .int (heldF κ q 0 k)), (3, .int (nI k))] σ := by
  obtain ⟨⟨⟨n1, h20⟩, -⟩, -⟩ := hF
  have e0 : gI σ 390 0 = nI (nS π) := by rw [(mv_n hV).1, n1]
  intro n
  induction n with
  | zero =>
    intro k hk
    have : k = nS π := hk
    subst this
    exact vX12_heldSigns_4 hw ⟨fun _ => hQ, fun c => absurd (by rw [e0]; exact Int32.le_refl _) c⟩
  | succ n ih =>
    intro k hk
    have nx := ih (k + 1) (by omega)
    have st : heldF κ q 0 (k + 1) = if heldS κ q (0 + k) then heldF κ q 0 k ||| (1 <<< (nI k &&& 31)) else heldF κ q 0 k := rfl
    rw [st, Nat.zero_add] at nx
    refine vX12_heldSigns_4 hw ⟨fun c => absurd c (by rw [e0]; exact nI_ge (by omega) (by omega)), fun _ => c_isHeld hw hK hq (by omega) ?_⟩
    rw [b2i_n0, b2i_0, b_or0, nI_1]
    refine ⟨fun c => ?_, fun c => ?_⟩
    · rw [c] at nx
      exact nx
    · rw [c] at nx
      exact nx
theorem c_heldSigns {Q : Int32 → St → Prop} {σ : St} {q : Nat} (hw : RunW w) (hV : MV σ = π) (hF : WF π) (hK : KM σ = κ) (hq : q < 3) (hQ : Q (heldF κ q 0 (nS π)) σ) : SpI Γ (d + 1) mX12_heldSigns [.ref 390, .int (nI q)] σ w Q :=
  SpI.of pnX12 (Nat.le_of_ble_eq_true rfl) (vX12_heldSigns_0 (lp_heldSigns hw hV hF hK hq hQ (nS π) 0 (Nat.zero_add _)))
theorem lp_heldWords {Q : Int32 → St → Prop} {σ : St} {q : Nat} (hw : RunW w) (hV : MV σ = π) (hF : WF π) (hK : KM σ = κ) (hq : q < 3) (hQ : Q (heldF κ q 20 (nW π)) σ) :
    ∀ n k, k + n = nW π → AI Γ (d + 1) mX12_heldWords w Q 4 [(0, .ref 390), (1, .int (nI q)), (2, .int (heldF κ q 20 k)), (3, .int (nI k))] σ := by
  obtain ⟨⟨-, ⟨n1, h24⟩, -⟩, -⟩ := hF
  have e0 : gI σ 390 5 = nI (nW π) := by rw [(mv_n hV).2.1, n1]
  intro n
  induction n with
  | zero =>
    intro k hk
    have : k = nW π := hk
    subst this
    exact vX12_heldWords_4 hw ⟨fun _ => hQ, fun c => absurd (by rw [e0]; exact Int32.le_refl _) c⟩
  | succ n ih =>
    intro k hk
    have nx := ih (k + 1) (by omega)
    have st : heldF κ q 20 (k + 1) = if heldS κ q (20 + k) then heldF κ q 20 k ||| (1 <<< (nI k &&& 31)) else heldF κ q 20 k := rfl
    rw [st] at nx
    have e2 : (20 : Int32) + nI k = nI (20 + k) := nI_add 20 k
    refine vX12_heldWords_4 hw ⟨fun c => absurd c (by rw [e0]; exact nI_ge (by omega) (by omega)), fun _ => ?_⟩
    rw [e2]
    refine c_isHeld hw hK hq (by omega) ?_
    rw [b2i_n0, b2i_0, b_or0, nI_1]
    refine ⟨fun c => ?_, fun c => ?_⟩
    · rw [c] at nx
      exact nx
    · rw [c] at nx
      exact nx
theorem c_heldWords {Q : Int32 → St → Prop} {σ : St} {q : Nat} (hw : RunW w) (hV : MV σ = π) (hF : WF π) (hK : KM σ = κ) (hq : q < 3) (hQ : Q (heldF κ q 20 (nW π)) σ) : SpI Γ (d + 1) mX12_heldWords [.ref 390, .int (nI q)] σ w Q :=
  SpI.of pnX12 (Nat.le_of_ble_eq_true rfl) (vX12_heldWords_0 (lp_heldWords hw hV hF hK hq hQ (nW π) 0 (Nat.zero_add _)))
theorem c_use {Q : St → Prop} {σ : St} {q j : Nat} (hw : RunW w) (hK : KM σ = κ) (hq : q < 3) (hj : j < 44) (hQ : ∀ σ', EqU σ σ' → KM σ' = useK κ q j → Q σ') : SpV Γ (d + 1) mX12_use [.ref 390, .int (nI q), .int (nI j)] σ w Q := by
  have i4 : (44 : Int32) * nI q + nI j = nI (44 * q + j) := ixm 44 q j
  have hv : vp_in (nI (44 * q + j)) 132 := vin (by omega)
  have h3 : vp_in (nI q) 3 := vin (by omega)
  refine SpV.of pnX12 (Nat.le_of_ble_eq_true rfl) (vX12_use_0 hw (c_isHeld hw hK hq hj ?_))
  have hi : 44 * q + j < 132 := by omega
  rw [i4, cl (by omega), cl (by omega), km0 hK hq, km2 hK hi, km3 hK hi, km4 hK, b2i_n0, b2i_0]
  have fin : ∀ x, (heldS κ q j && (κ 3 (44 * q + j) == κ 0 q)) = false → x = spanN κ q j → Q (uI (uI σ 421 (44 * q + j) x) 422 (44 * q + j) (κ 0 q)) := by
    rintro x c rfl
    refine hQ _ ((eqU_u (by simp [scrU])).tr (eqU_u (by simp [scrU]))) ?_
    rw [km_3 hi, km_2 hi, hK]
    unfold useK
    rw [c]
    rfl
  refine ⟨fun c => ⟨hv, fun c2 => ⟨hv, fun _ => ⟨hv, h3, hv, fin _ ?_ ?_⟩, fun c3 => absurd (c3.symm.trans c) (by decide)⟩, fun c2 => ⟨fun _ => ⟨hv, h3, hv, fin _ ?_ ?_⟩, fun c3 => absurd (c3.symm.trans c) (by decide)⟩⟩, fun c => ⟨hv, h3, fun c2 => ⟨hv, fun c3 => ⟨hv, fun c4 => absurd (c4.symm.trans c) (by decide), fun _ => ⟨hv, h3, hv, fin _ ?_ ?_⟩⟩, fun c3 => ⟨fun c4 => absurd (c4.symm.trans c) (by decide), fun _ => ⟨hv, h3, hv, fin _ ?_ ?_⟩⟩⟩, fun c2 => hQ σ (EqU.rf σ) ?_⟩⟩
  · rw [c]; rfl
  · unfold spanN; rw [c]; rfl
  · rw [c]; rfl
  · unfold spanN; rw [c]; rfl
  · rw [c, Bool.true_and, beq_eq_false_iff_ne]; exact c2
  · unfold spanN; rw [c, if_pos rfl, if_pos c3]
  · rw [c, Bool.true_and, beq_eq_false_iff_ne]; exact c2
  · unfold spanN; rw [c, if_pos rfl, if_neg c3]
  · unfold useK
    have : (κ 3 (44 * q + j) == κ 0 q) = true := by rw [beq_iff_eq]; exact c2
    rw [c, this]
    exact hK
theorem lp_useAll37 {Q : St → Prop} {σ0 : St} {q : Nat} {wd : Int32} (hw : RunW w) (hV0 : MV σ0 = π) (hF : WF π) (hq : q < 3) (hQ : ∀ σ', EqU σ0 σ' → KM σ' = useF κ q wd 20 (nW π) → Q σ') :
    ∀ n k σ, k + n = nW π → EqU σ0 σ → KM σ = useF κ q wd 20 k → AV Γ (d + 2) mX12_useAll w Q 37 [(0, .ref 390), (1, .int (nI q)), (3, .int wd), (4, .int (nI k))] σ := by
  obtain ⟨⟨-, ⟨n1, h24⟩, -⟩, -⟩ := hF
  intro n
  induction n with
  | zero =>
    intro k σ hk hE hK
    have e0 : gI σ 390 5 = nI (nW π) := by rw [(mv_n (hE.mv.trans hV0)).2.1, n1]
    have : k = nW π := hk
    subst this
    exact vX12_useAll_37 hw ⟨fun _ => hQ σ hE hK, fun c => absurd (by rw [e0]; exact Int32.le_refl _) c⟩
  | succ n ih =>
    intro k σ hk hE hK
    have e0 : gI σ 390 5 = nI (nW π) := by rw [(mv_n (hE.mv.trans hV0)).2.1, n1]
    have nx := ih (k + 1)
    have st : useF κ q wd 20 (k + 1) = if bt wd k then useK (useF κ q wd 20 k) q (20 + k) else useF κ q wd 20 k := rfl
    rw [st] at nx
    have e2 : (20 : Int32) + nI k = nI (20 + k) := nI_add 20 k
    refine vX12_useAll_37 hw ⟨fun c => absurd c (by rw [e0]; exact nI_ge (by omega) (by omega)), fun _ => c_has (by omega) ?_⟩
    rw [b2i_n0, b2i_0, nI_1, e2]
    refine ⟨fun c => ?_, fun c => ?_⟩
    · rw [c, if_neg (by decide)] at nx
      exact nx σ (by omega) hE hK
    · rw [c, if_pos rfl] at nx
      exact c_use hw hK hq (by omega) fun s hs hk' => nx s (by omega) (hE.tr hs) hk'
theorem lp_useAll3 {Q : St → Prop} {σ0 : St} {q : Nat} {sg wd : Int32} (hw : RunW w) (hV0 : MV σ0 = π) (hF : WF π) (hq : q < 3) (hQ : ∀ σ', EqU σ0 σ' → KM σ' = useA π κ q sg wd → Q σ') :
    ∀ n k σ, k + n = nS π → EqU σ0 σ → KM σ = useF κ q sg 0 k → AV Γ (d + 2) mX12_useAll w Q 3 [(0, .ref 390), (1, .int (nI q)), (2, .int sg), (3, .int wd), (4, .int (nI k))] σ := by
  have hF' := hF
  obtain ⟨⟨⟨n1, h20⟩, -⟩, -⟩ := hF
  intro n
  induction n with
  | zero =>
    intro k σ hk hE hK
    have hV := hE.mv.trans hV0
    have e0 : gI σ 390 0 = nI (nS π) := by rw [(mv_n hV).1, n1]
    have : k = nS π := hk
    subst this
    refine vX12_useAll_3 hw ⟨fun _ => ?_, fun c => absurd (by rw [e0]; exact Int32.le_refl _) c⟩
    exact lp_useAll37 hw hV hF' hq (fun s hs hk' => hQ s (hE.tr hs) hk') (nW π) 0 σ (Nat.zero_add _) (EqU.rf σ) hK
  | succ n ih =>
    intro k σ hk hE hK
    have e0 : gI σ 390 0 = nI (nS π) := by rw [(mv_n (hE.mv.trans hV0)).1, n1]
    have nx := ih (k + 1)
    have st : useF κ q sg 0 (k + 1) = if bt sg k then useK (useF κ q sg 0 k) q (0 + k) else useF κ q sg 0 k := rfl
    rw [st, Nat.zero_add] at nx
    refine vX12_useAll_3 hw ⟨fun c => absurd c (by rw [e0]; exact nI_ge (by omega) (by omega)), fun _ => c_has (by omega) ?_⟩
    rw [b2i_n0, b2i_0, nI_1]
    refine ⟨fun c => ?_, fun c => ?_⟩
    · rw [c, if_neg (by decide)] at nx
      exact nx σ (by omega) hE hK
    · rw [c, if_pos rfl] at nx
      exact c_use hw hK hq (by omega) fun s hs hk' => nx s (by omega) (hE.tr hs) hk'
theorem c_useAll {Q : St → Prop} {σ : St} {q : Nat} {sg wd : Int32} (hw : RunW w) (hV : MV σ = π) (hF : WF π) (hK : KM σ = κ) (hq : q < 3) (hQ : ∀ σ', EqU σ σ' → KM σ' = useA π κ q sg wd → Q σ') : SpV Γ (d + 2) mX12_useAll [.ref 390, .int (nI q), .int sg, .int wd] σ w Q :=
  SpV.of pnX12 (Nat.le_of_ble_eq_true rfl) (vX12_useAll_0 (lp_useAll3 hw hV hF hq hQ (nS π) 0 σ (Nat.zero_add _) (EqU.rf σ) hK))
end MPU
