/-! the reference: what pupils are asked and told -/
def inR (x : Int32) (a b : Nat) : Bool := decide ((a : Int) ≤ x.toInt) && decide (x.toInt ≤ (b : Int))
def setB (κ : KV) (x : Int32) : KV := fun t i => if t < 4 then κ t i else x
theorem km_b {σ : St} {v : Int32} : KM (uI σ 390 47 v) = setB (KM σ) v := by
  funext t j
  rcases t with _ | _ | _ | _ | t
  · simp [KM, setB, gI_uI]
  · simp [KM, setB, gI_uI]
  · simp [KM, setB, gI_uI]
  · simp [KM, setB, gI_uI]
  · have e : ¬ (t + 1 + 1 + 1 + 1 < 4) := by omega
    simp [KM, setB, gI_uI, e]
/-- signs and words of a lesson that are not held -/
def lackS (π : PV) (κ : KV) (q l : Nat) : Nat := cntB (π 9 l 1 &&& (heldF κ q 0 (nS π) ^^^ (-1))) 24 + cntB (π 9 l 2 &&& (heldF κ q 20 (nW π) ^^^ (-1))) 24
/-- unknown words of a page, signs used in reading the known ones -/
def mtF (π : PV) (hs hw : Int32) (p : Nat) : Nat → Nat × Int32
  | 0 => (0, 0)
  | n + 1 => if bt (π 12 p 0) n && !bt hw n then (if rightS π n hs then ((mtF π hs hw p n).1, (mtF π hs hw p n).2 ||| (spkAll π n hs).2.2) else ((mtF π hs hw p n).1 + 1, (mtF π hs hw p n).2)) else mtF π hs hw p n
theorem mtF_le {π : PV} {hs hw : Int32} {p : Nat} : ∀ n, (mtF π hs hw p n).1 ≤ n
  | 0 => Nat.le_refl _
  | n + 1 => by
    have := mtF_le (π := π) (hs := hs) (hw := hw) (p := p) n
    show (if bt (π 12 p 0) n && !bt hw n then (if rightS π n hs then ((mtF π hs hw p n).1, (mtF π hs hw p n).2 ||| (spkAll π n hs).2.2) else ((mtF π hs hw p n).1 + 1, (mtF π hs hw p n).2)) else mtF π hs hw p n).1 ≤ n + 1
    split
    · split
      · show (mtF π hs hw p n).1 ≤ n + 1
        omega
      · show (mtF π hs hw p n).1 + 1 ≤ n + 1
        omega
    · omega
def mtS (π : PV) (κ : KV) (q p : Nat) : Nat × Int32 := mtF π (heldF κ q 0 (nS π)) (heldF κ q 20 (nW π)) p (nW π)
def R_base (κ : KV) (x : Int32) : Int32 × KV := if inR x 1 30 then (κ 4 0, setB κ x) else (-1002, κ)
def R_take (π : PV) (κ : KV) (x y : Int32) : Int32 × KV := if inB x 3 && inB y (nL π) then (if π 9 y.toNatClampNeg 0 &&& (κ 1 x.toNatClampNeg ^^^ (-1)) == 0 then (nI (lackS π κ x.toNatClampNeg y.toNatClampNeg), useA π (updK κ 1 x.toNatClampNeg (κ 1 x.toNatClampNeg ||| (1 <<< (y &&& 31)))) x.toNatClampNeg (π 9 y.toNatClampNeg 1) (π 9 y.toNatClampNeg 2)) else (-1003, κ)) else (-1001, κ)
def R_read (π : PV) (κ : KV) (x y : Int32) : Int32 × KV := if inB x 3 && inB y (nP π) then (nI (mtS π κ x.toNatClampNeg y.toNatClampNeg).1, useA π κ x.toNatClampNeg (mtS π κ x.toNatClampNeg y.toNatClampNeg).2 (π 12 y.toNatClampNeg 0)) else (-1001, κ)
def R_rest (κ : KV) (x y : Int32) : Int32 × KV := if inB x 3 then (if inR y 1 999 && decide (κ 0 x.toNatClampNeg + y ≤ 9999) then (κ 0 x.toNatClampNeg + y, updK κ 0 x.toNatClampNeg (κ 0 x.toNatClampNeg + y)) else (-1002, κ)) else (-1001, κ)
def A_about (π : PV) (κ : KV) (x y : Int32) : Int32 := if inB x 3 then (if y = 0 then κ 0 x.toNatClampNeg else if y = 1 then κ 1 x.toNatClampNeg else if y = 2 then heldF κ x.toNatClampNeg 0 (nS π) else if y = 3 then heldF κ x.toNatClampNeg 20 (nW π) else -1002) else -1001
def A_span (π : PV) (κ : KV) (x y z : Int32) : Int32 := if inB x 3 then (if y = 0 then (if inB z (nS π) then κ 2 (44 * x.toNatClampNeg + z.toNatClampNeg) else -1001) else (if inB z (nW π) then κ 2 (44 * x.toNatClampNeg + (20 + z.toNatClampNeg)) else -1001)) else -1001
def A_meets (π : PV) (κ : KV) (x y : Int32) : Int32 := if inB x 3 && inB y (nP π) then nI (mtS π κ x.toNatClampNeg y.toNatClampNeg).1 else -1001
section MP2
variable {Γ : Gx} {d : Nat} {w : Wd} {π : PV} {κ : KV}
theorem c_inR {Q : Int32 → St → Prop} {σ : St} {x : Int32} {a b : Nat} (ha : a < 2 ^ 31) (hb : b < 2 ^ 31) (h : Q (b2i (inR x a b)) σ) : SpI Γ d mX12_in [.long x.toInt64, .long (lN a), .long (lN b)] σ w Q := by
  refine c_in ?_
  rw [in_lit ha hb]
  exact h
theorem M_base {Q : Int32 → St → Prop} {σ : St} {x : Int32} (hw : RunW w) (hK : KM σ = κ) (hQ : ∀ σ', EqU σ σ' → KM σ' = (R_base κ x).2 → Q (R_base κ x).1 σ') : SpI Γ (d + 1) mX12_base [.ref 390, .int x] σ w Q := by
  refine SpI.of pnX12 (Nat.le_of_ble_eq_true rfl) (vX12_base_0 hw (c_inR (a := 1) (b := 30) (by decide) (by decide) ?_))
  unfold R_base at hQ
  rw [b2i_n0, b2i_0, km4 hK]
  refine ⟨fun c => ?_, fun c => ?_⟩
  · rw [c, if_pos rfl] at hQ
    exact hQ _ (eqU_u (by decide)) (by rw [km_b, hK])
  · rw [c, if_neg (by decide)] at hQ
    exact hQ σ (EqU.rf σ) hK
theorem c_lacking {Q : Int32 → St → Prop} {σ : St} {q l : Nat} (hw : RunW w) (hV : MV σ = π) (hF : WF π) (hK : KM σ = κ) (hq : q < 3) (hl : l < nL π) (hQ : Q (nI (lackS π κ q l)) σ) : SpI Γ (d + 2) mX12_lacking [.ref 390, .int (nI q), .int (nI l)] σ w Q := by
  have hF' := hF
  obtain ⟨⟨-, -, ⟨n3, h7⟩, -⟩, -⟩ := hF
  have i1 : (3 : Int32) * nI l + 1 = nI (3 * l + 1) := ixm 3 l 1
  have i2 : (3 : Int32) * nI l + 2 = nI (3 * l + 2) := ixm 3 l 2
  refine SpI.of pnX12 (Nat.le_of_ble_eq_true rfl) (vX12_lacking_0 hw ?_)
  rw [i1, i2, cl (by omega), cl (by omega), mv9 hV]
  refine ⟨vin (by omega), c_heldSigns hw hV hF' hK hq (c_bits ⟨vin (by omega), c_heldWords hw hV hF' hK hq (c_bits ?_)⟩)⟩
  rw [mv9 hV, nI_add]
  exact hQ
theorem M_take {Q : Int32 → St → Prop} {σ : St} {x y : Int32} (hw : RunW w) (hV : MV σ = π) (hF : WF π) (hK : KM σ = κ) (hQ : ∀ σ', EqU σ σ' → KM σ' = (R_take π κ x y).2 → Q (R_take π κ x y).1 σ') : SpI Γ (d + 3) mX12_take [.ref 390, .int x, .int y] σ w Q := by
  have hF' := hF
  obtain ⟨⟨-, -, ⟨n3, h7⟩, -⟩, -⟩ := hF
  refine SpI.of pnX12 (Nat.le_of_ble_eq_true rfl) (vX12_take_0 hw (c_isPupil ?_))
  unfold R_take at hQ
  rw [b2i_n0, b2i_0]
  refine ⟨fun c => ?_, fun c => c_isLesson hw ((mv_n hV).2.2.1.trans n3) (by omega) ?_⟩
  · rw [c, Bool.false_and, if_neg (by decide)] at hQ
    exact hQ σ (EqU.rf σ) hK
  rw [c, Bool.true_and] at hQ
  rw [b2i_n0, b2i_0]
  refine ⟨fun c2 => ?_, fun c2 => ?_⟩
  · rw [c2, if_pos rfl] at hQ
    obtain ⟨q, hq, rfl⟩ := inB_of c
    obtain ⟨l, hl, rfl⟩ := inB_of c2
    rw [cl (by omega), cl (by omega)] at hQ
    have i0 : (3 : Int32) * nI l = nI (3 * l + 0) := nI_mul 3 l
    have i1 : (3 : Int32) * nI l + 1 = nI (3 * l + 1) := ixm 3 l 1
    have i2 : (3 : Int32) * nI l + 2 = nI (3 * l + 2) := ixm 3 l 2
    have h3 : vp_in (nI q) 3 := vin (by omega)
    rw [i1, i2, i0, cl (by omega), cl (by omega), cl (by omega), cl (by omega), mv9 hV, km1 hK hq]
    refine ⟨vin (by omega), h3, fun c3 => c_lacking hw hV hF' hK hq hl ⟨h3, h3, vin (by omega), vin (by omega), ?_⟩, fun c3 => ?_⟩
    · have z : (π 9 l 0 &&& (κ 1 q ^^^ (-1)) == 0) = true := by rw [beq_iff_eq]; exact c3
      rw [z, if_pos rfl] at hQ
      rw [mv9 hV, mv9 hV, km1 hK hq]
      have hE : EqU σ (uI σ 420 q (κ 1 q ||| (1 <<< (nI l &&& 31)))) := eqU_u (by simp [scrU])
      exact c_useAll hw (hE.mv.trans hV) hF' (by rw [km_1 hq, hK]) hq fun s hs hk => hQ s (hE.tr hs) hk
    · have z : (π 9 l 0 &&& (κ 1 q ^^^ (-1)) == 0) = false := by rw [beq_eq_false_iff_ne]; exact c3
      rw [z, if_neg (by decide)] at hQ
      exact hQ σ (EqU.rf σ) hK
  · rw [c2, if_neg (by decide)] at hQ
    exact hQ σ (EqU.rf σ) hK
theorem lp_meetsOf {Q : Int32 → St → Prop} {σ0 : St} {p : Nat} {hs hh : Int32} (hw : RunW w) (hV0 : MV σ0 = π) (hF : WF π) (hp : p < nP π) (hQ : ∀ σ', EqC σ0 σ' → gI σ' 390 52 = (mtF π hs hh p (nW π)).2 → Q (nI (mtF π hs hh p (nW π)).1) σ') :
    ∀ n v σ, v + n = nW π → EqC σ0 σ → gI σ 390 52 = (mtF π hs hh p v).2 → AI Γ (d + 4) mX12_meetsOf w Q 24 [(0, .ref 390), (2, .int (nI p)), (3, .int hs), (4, .int hh), (5, .int (nI (mtF π hs hh p v).1)), (6, .int (nI v))] σ := by
  have hF' := hF
  obtain ⟨⟨-, ⟨n2, h24⟩, -, n4, h8⟩, -⟩ := hF
  intro n
  induction n with
  | zero =>
    intro v σ hv hE h52
    have e0 : gI σ 390 5 = nI (nW π) := by rw [(mv_n (hE.mv.trans hV0)).2.1, n2]
    have : v = nW π := hv
    subst this
    exact vX12_meetsOf_24 hw ⟨fun _ => hQ σ hE h52, fun c => absurd (by rw [e0]; exact Int32.le_refl _) c⟩
  | succ n ih =>
    intro v σ hv hE h52
    have hV := hE.mv.trans hV0
    have e0 : gI σ 390 5 = nI (nW π) := by rw [(mv_n hV).2.1, n2]
    have nx := ih (v + 1)
    have st : mtF π hs hh p (v + 1) = if bt (π 12 p 0) v && !bt hh v then (if rightS π v hs then ((mtF π hs hh p v).1, (mtF π hs hh p v).2 ||| (spkAll π v hs).2.2) else ((mtF π hs hh p v).1 + 1, (mtF π hs hh p v).2)) else mtF π hs hh p v := rfl
    rw [st] at nx
    refine vX12_meetsOf_24 hw ⟨fun c => absurd c (by rw [e0]; exact nI_ge (by omega) (by omega)), fun _ => ⟨vin (by omega), c_has (by omega) ?_⟩⟩
    rw [cl (by omega), mv12 hV, b2i_n0, b2i_0, nI_1 v]
    refine ⟨fun c => ?_, fun c => c_has (by omega) ?_⟩
    · rw [c, Bool.false_and, if_neg (by decide)] at nx
      exact nx σ (by omega) hE h52
    · rw [b2i_n0, b2i_0]
      rw [c, Bool.true_and] at nx
      refine ⟨fun c2 => ?_, fun c2 => c_isRight hw hV hF' (by omega) fun s hs' => ?_⟩
      · rw [c2] at nx
        exact nx σ (by omega) hE h52
      · have h52' : gI s 390 52 = (mtF π hs hh p v).2 := by rw [hs'.1.1 390 52 (by decide), h52]
        have h44 : gI s 390 44 = (spkAll π v hs).2.2 := hs'.2.2.1
        have a0 : ∀ a : Int32, a + 0 = a := Int32.add_zero
        rw [c2] at nx
        simp only [Bool.not_false, if_true] at nx
        rw [b2i_n0, b2i_0, h52', h44, b_or0, nI_1 (mtF π hs hh p v).1, a0]
        refine ⟨fun c3 => ⟨fun _ => ?_, fun c4 => absurd (c4.symm.trans c3) (by decide)⟩, fun c3 => ⟨fun c4 => absurd (c4.symm.trans c3) (by decide), fun _ => ?_⟩⟩
        · rw [c3] at nx
          exact nx _ (by omega) (hE.tr (hs'.1.c.tr eqC_52)) (by rw [gI_uI, if_pos ⟨rfl, rfl⟩]; rfl)
        · rw [c3] at nx
          exact nx _ (by omega) (hE.tr (hs'.1.c.tr eqC_52)) (by rw [gI_uI, if_pos ⟨rfl, rfl⟩]; rfl)
theorem c_meetsOf {Q : Int32 → St → Prop} {σ : St} {q p : Nat} (hw : RunW w) (hV : MV σ = π) (hF : WF π) (hK : KM σ = κ) (hq : q < 3) (hp : p < nP π) (hQ : ∀ σ', EqC σ σ' → gI σ' 390 52 = (mtS π κ q p).2 → Q (nI (mtS π κ q p).1) σ') : SpI Γ (d + 4) mX12_meetsOf [.ref 390, .int (nI q), .int (nI p)] σ w Q := by
  refine SpI.of pnX12 (Nat.le_of_ble_eq_true rfl) (vX12_meetsOf_0 hw (c_heldSigns hw hV hF hK hq (c_heldWords hw hV hF hK hq ?_)))
  exact lp_meetsOf hw hV hF hp hQ (nW π) 0 _ (Nat.zero_add _) eqC_52 (by rw [gI_uI, if_pos ⟨rfl, rfl⟩]; rfl)
theorem M_meets {Q : Int32 → St → Prop} {σ : St} {x y : Int32} (hw : RunW w) (hV : MV σ = π) (hF : WF π) (hK : KM σ = κ) (hQ : ∀ σ', EqC σ σ' → Q (A_meets π κ x y) σ') : SpI Γ (d + 5) mX12_meets [.ref 390, .int x, .int y] σ w Q := by
  have hF' := hF
  obtain ⟨⟨-, -, -, n4, h8⟩, -⟩ := hF
  refine SpI.of pnX12 (Nat.le_of_ble_eq_true rfl) (vX12_meets_0 hw (c_isPupil ?_))
  unfold A_meets at hQ
  rw [b2i_n0, b2i_0]
  refine ⟨fun c => by rw [c] at hQ; exact hQ σ (EqC.rf σ), fun c => c_isPage hw ((mv_n hV).2.2.2.trans n4) (by omega) ?_⟩
  rw [c, Bool.true_and] at hQ
  rw [b2i_n0, b2i_0]
  refine ⟨fun c2 => by rw [c2] at hQ; exact hQ σ (EqC.rf σ), fun c2 => ?_⟩
  rw [c2, if_pos rfl] at hQ
  obtain ⟨q, hq, rfl⟩ := inB_of c
  obtain ⟨p, hp, rfl⟩ := inB_of c2
  rw [cl (by omega), cl (by omega)] at hQ
  exact c_meetsOf hw hV hF' hK hq hp fun s hs _ => hQ s hs
theorem M_read {Q : Int32 → St → Prop} {σ : St} {x y : Int32} (hw : RunW w) (hV : MV σ = π) (hF : WF π) (hK : KM σ = κ) (hQ : ∀ σ', EqU σ σ' → KM σ' = (R_read π κ x y).2 → Q (R_read π κ x y).1 σ') : SpI Γ (d + 5) mX12_read [.ref 390, .int x, .int y] σ w Q := by
  have hF' := hF
  obtain ⟨⟨-, -, -, n4, h8⟩, -⟩ := hF
  refine SpI.of pnX12 (Nat.le_of_ble_eq_true rfl) (vX12_read_0 hw (c_isPupil ?_))
  unfold R_read at hQ
  rw [b2i_n0, b2i_0]
  refine ⟨fun c => by rw [c] at hQ; exact hQ σ (EqU.rf σ) hK, fun c => c_isPage hw ((mv_n hV).2.2.2.trans n4) (by omega) ?_⟩
  rw [c, Bool.true_and] at hQ
  rw [b2i_n0, b2i_0]
  refine ⟨fun c2 => ?_, fun c2 => by rw [c2] at hQ; exact hQ σ (EqU.rf σ) hK⟩
  rw [c2, if_pos rfl] at hQ
  obtain ⟨q, hq, rfl⟩ := inB_of c
  obtain ⟨p, hp, rfl⟩ := inB_of c2
  rw [cl (by omega), cl (by omega)] at hQ
  refine c_meetsOf hw hV hF' hK hq hp fun s hs h52 => ⟨vin (by omega), ?_⟩
  rw [cl (by omega), h52, mv12 (hs.mv.trans hV)]
  exact c_useAll hw (hs.mv.trans hV) hF' (hs.km.trans hK) hq fun s2 hs2 hk => hQ s2 (hs.u.tr hs2) hk
theorem M_rest {Q : Int32 → St → Prop} {σ : St} {x y : Int32} (hw : RunW w) (hK : KM σ = κ) (hQ : ∀ σ', EqU σ σ' → KM σ' = (R_rest κ x y).2 → Q (R_rest κ x y).1 σ') : SpI Γ (d + 2) mX12_rest [.ref 390, .int x, .int y] σ w Q := by
  refine SpI.of pnX12 (Nat.le_of_ble_eq_true rfl) (vX12_rest_0 hw (c_isPupil ?_))
  unfold R_rest at hQ
  rw [b2i_n0, b2i_0]
  refine ⟨fun c => c_inR (a := 1) (b := 999) (by decide) (by decide) ?_, fun c => by rw [c] at hQ; exact hQ σ (EqU.rf σ) hK⟩
  rw [c, if_pos rfl] at hQ
  rw [b2i_n0, b2i_0]
  refine ⟨fun c2 => by rw [c2] at hQ; exact hQ σ (EqU.rf σ) hK, fun c2 => ?_⟩
  rw [c2, Bool.true_and] at hQ
  obtain ⟨q, hq, rfl⟩ := inB_of c
  rw [cl (by omega)] at hQ ⊢
  have h3 : vp_in (nI q) 3 := vin (by omega)
  rw [gI_uI, if_pos ⟨rfl, rfl⟩, km0 hK hq]
  refine ⟨h3, fun c3 => ⟨h3, h3, h3, ?_⟩, fun c3 => ?_⟩
  · rw [decide_eq_true c3, if_pos rfl] at hQ
    exact hQ _ (eqU_u (by simp [scrU])) (by rw [km_0 hq, hK])
  · rw [decide_eq_false c3, if_neg (by decide)] at hQ
    exact hQ σ (EqU.rf σ) hK
theorem M_about {Q : Int32 → St → Prop} {σ : St} {x y : Int32} (hw : RunW w) (hV : MV σ = π) (hF : WF π) (hK : KM σ = κ) (hQ : Q (A_about π κ x y) σ) : SpI Γ (d + 2) mX12_about [.ref 390, .int x, .int y] σ w Q := by
  refine SpI.of pnX12 (Nat.le_of_ble_eq_true rfl) (vX12_about_0 hw (c_isPupil ?_))
  unfold A_about at hQ
  rw [b2i_n0, b2i_0]
  refine ⟨fun c => ?_, fun c => by rw [c] at hQ; exact hQ⟩
  rw [c, if_pos rfl] at hQ
  obtain ⟨q, hq, rfl⟩ := inB_of c
  rw [cl (by omega)] at hQ ⊢
  have h3 : vp_in (nI q) 3 := vin (by omega)
  rw [km0 hK hq, km1 hK hq]
  refine ⟨fun c1 => ⟨h3, ?_⟩, fun c1 => ⟨fun c2 => ⟨h3, ?_⟩, fun c2 => ⟨fun c3 => c_heldSigns hw hV hF hK hq ?_, fun c3 => ⟨fun c4 => c_heldWords hw hV hF hK hq ?_, fun c4 => ?_⟩⟩⟩⟩
  · rw [if_pos c1] at hQ; exact hQ
  · rw [if_neg c1, if_pos c2] at hQ; exact hQ
  · rw [if_neg c1, if_neg c2, if_pos c3] at hQ; exact hQ
  · rw [if_neg c1, if_neg c2, if_neg c3, if_pos c4] at hQ; exact hQ
  · rw [if_neg c1, if_neg c2, if_neg c3, if_neg c4] at hQ; exact hQ
theorem M_span {Q : Int32 → St → Prop} {σ : St} {x y z : Int32} (hw : RunW w) (hV : MV σ = π) (hF : WF π) (hK : KM σ = κ) (hQ : Q (A_span π κ x y z) σ) : SpI Γ (d + 2) mX12_span [.ref 390, .int x, .int y, .int z] σ w Q := by
  obtain ⟨⟨⟨n1, h20⟩, ⟨n2, h24⟩, -⟩, -⟩ := hF
  refine SpI.of pnX12 (Nat.le_of_ble_eq_true rfl) (vX12_span_0 hw (c_isPupil ?_))
  unfold A_span at hQ
  rw [b2i_n0, b2i_0]
  refine ⟨fun c => by rw [c] at hQ; exact hQ, fun c => ?_⟩
  rw [c, if_pos rfl] at hQ
  obtain ⟨q, hq, rfl⟩ := inB_of c
  rw [cl (by omega)] at hQ
  refine ⟨fun c1 => c_isSign hw ((mv_n hV).1.trans n1) (by omega) ?_, fun c1 => c_isWord hw ((mv_n hV).2.1.trans n2) (by omega) ?_⟩
  · rw [if_pos c1] at hQ
    rw [b2i_n0, b2i_0]
    refine ⟨fun c2 => ⟨fun _ => ?_, fun c3 => absurd c1 c3⟩, fun c2 => by rw [c2] at hQ; exact hQ⟩
    rw [c2, if_pos rfl] at hQ
    obtain ⟨k, hk, rfl⟩ := inB_of c2
    have i4 : (44 : Int32) * nI q + nI k = nI (44 * q + k) := ixm 44 q k
    rw [cl (by omega)] at hQ
    rw [i4, cl (by omega), km2 hK (show 44 * q + k < 132 by omega)]
    exact ⟨vin (by omega), hQ⟩
  · rw [if_neg c1] at hQ
    rw [b2i_n0, b2i_0]
    refine ⟨fun c2 => by rw [c2] at hQ; exact hQ, fun c2 => ⟨fun c3 => absurd c3 c1, fun _ => ?_⟩⟩
    rw [c2, if_pos rfl] at hQ
    obtain ⟨k, hk, rfl⟩ := inB_of c2
    have i2 : (20 : Int32) + nI k = nI (20 + k) := nI_add 20 k
    have i4 : (44 : Int32) * nI q + nI (20 + k) = nI (44 * q + (20 + k)) := ixm 44 q (20 + k)
    rw [cl (by omega)] at hQ
    rw [i2, i4, cl (by omega), km2 hK (show 44 * q + (20 + k) < 132 by omega)]
    exact ⟨vin (by omega), hQ⟩
end MP2
