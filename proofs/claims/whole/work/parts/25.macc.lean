/-! the reference: what was told, answers -/
def bwI (x : Int32) (a b : Nat) : Bool := decide ((a : Int) ≤ x.toInt) && decide (x.toInt ≤ b)
theorem bwI_of {x : Int32} {a b : Nat} (h : bwI x a b = true) : ∃ m, a ≤ m ∧ m ≤ b ∧ x = nI m := by
  unfold bwI at h
  simp only [Bool.and_eq_true, decide_eq_true_eq] at h
  have hb : x.toInt < 2 ^ 31 := Int32.toInt_lt x
  refine ⟨x.toInt.toNat, by omega, by omega, Int32.toInt_inj.mp ?_⟩
  rw [nI_toInt (by omega)]
  omega
theorem bwI_inB {x : Int32} {n : Nat} : bwI x 0 n = inB x (n + 1) := by
  unfold bwI inB
  congr 1
  rw [decide_eq_decide]
  omega
def A_sign (π : PV) (k what : Int32) : Int32 :=
  if inB k (nS π) then (if what = 0 then π 1 k.toNatClampNeg 0 else if what = 1 then π 3 k.toNatClampNeg 0 else if what = 2 then π 4 k.toNatClampNeg 0
    else if bwI what 3 6 then (if what.toNatClampNeg - 3 < sS π k.toNatClampNeg then π 2 k.toNatClampNeg (what.toNatClampNeg - 3) else -1) else -1002) else -1001
def A_word (π : PV) (v what : Int32) : Int32 :=
  if inB v (nW π) then (if what = 0 then π 5 v.toNatClampNeg 0 else if what = 1 then π 7 v.toNatClampNeg 0
    else if bwI what 2 9 then (if what.toNatClampNeg - 2 < wS π v.toNatClampNeg then π 6 v.toNatClampNeg (what.toNatClampNeg - 2) else -1)
    else if bwI what 10 17 then (if what.toNatClampNeg - 10 < wN π v.toNatClampNeg then π 8 v.toNatClampNeg (what.toNatClampNeg - 10) else -1) else -1002) else -1001
def A_lesson (π : PV) (l what : Int32) : Int32 := if inB l (nL π) then (if inB what 3 then π 9 l.toNatClampNeg what.toNatClampNeg else -1002) else -1001
def A_page (π : PV) (p i : Int32) : Int32 := if inB p (nP π) then (if i = -1 then π 12 p.toNatClampNeg 0 else if inB i 16 then (if i.toNatClampNeg < pS π p.toNatClampNeg then π 11 p.toNatClampNeg i.toNatClampNeg else -1) else -1002) else -1001
def A_fits (π : PV) (k v i : Int32) : Int32 := if inB k (nS π) && inB v (nW π) then (if inB i (wS π v.toNatClampNeg) then b2i (fitS π k.toNatClampNeg v.toNatClampNeg i.toNatClampNeg) else -1002) else -1001
/-- of what is out: how many, or the j-th -/
def A_out (out : List Int32) (j : Int32) : Int32 := if j = -1 then nI out.length else if inB j out.length then out.getD j.toNatClampNeg 0 else -1
def A_aloud (π : PV) (v set j : Int32) : Int32 := if inB v (nW π) && inB set (2 ^ nS π) then A_out (spkAll π v.toNatClampNeg set).2.1 j else -1001
def A_taught (π : PV) (set : Int32) : Int32 := if inB set (2 ^ nL π) then (if closedS π set then teachS π set 1 else -1003) else -1001
def A_reads (π : PV) (set : Int32) : Int32 := if inB set (2 ^ nL π) then (if closedS π set then readS π set else -1003) else -1001
def unkS (π : PV) (p : Nat) (known : Int32) : Nat := cntB (π 12 p 0 &&& (known ^^^ (-1))) 24
def A_unknown (π : PV) (p set : Int32) : Int32 := if inB p (nP π) && inB set (2 ^ nL π) then (if closedS π set then nI (unkS π p.toNatClampNeg (readS π set)) else -1003) else -1001
section MAC
variable {Γ : Gx} {d : Nat} {w : Wd} {π : PV} {σ : St}
theorem M_sign {Q : Int32 → St → Prop} {x y : Int32} (hw : RunW w) (hV : MV σ = π) (hF : WF π) (hQ : Q (A_sign π x y) σ) : SpI Γ (d + 2) mX12_sign [.ref 390, .int x, .int y] σ w Q := by
  obtain ⟨⟨⟨n1, h20⟩, -⟩, hs, -⟩ := hF
  refine SpI.of pnX12 (Nat.le_of_ble_eq_true rfl) (vX12_sign_0 hw (c_isSign hw ((mv_n hV).1.trans n1) (by omega) ?_))
  rw [b2i_n0, b2i_0]
  unfold A_sign at hQ
  refine ⟨fun q => ?_, fun q => by rw [q] at hQ; exact hQ⟩
  rw [q, if_pos rfl] at hQ
  obtain ⟨k, hk, rfl⟩ := inB_of q
  obtain ⟨s1, s2, s3, -⟩ := hs k hk
  rw [cl (by omega)] at hQ ⊢
  have hk20 : vp_in (nI k) 20 := vin (by omega)
  refine ⟨fun q => ⟨hk20, ?_⟩, fun q => ⟨fun q2 => ⟨hk20, ?_⟩, fun q2 => ⟨fun q3 => ⟨hk20, ?_⟩, fun q3 => c_in ?_⟩⟩⟩
  · rw [if_pos q] at hQ
    rw [mv1 hV]
    exact hQ
  · rw [if_neg q, if_pos q2] at hQ
    rw [mv3 hV]
    exact hQ
  · rw [if_neg q, if_neg q2, if_pos q3] at hQ
    rw [mv4 hV]
    exact hQ
  · rw [if_neg q, if_neg q2, if_neg q3] at hQ
    have e : (decide ((3 : Int64) ≤ y.toInt64) && decide (y.toInt64 ≤ (6 : Int64))) = bwI y 3 6 := in_lit (a := 3) (b := 6) (by decide) (by decide)
    rw [e, b2i_n0, b2i_0, mv1 hV, s1]
    refine ⟨fun q => ⟨hk20, ?_⟩, fun q => by rw [q] at hQ; exact hQ⟩
    rw [q, if_pos rfl] at hQ
    obtain ⟨m, m1, m2, rfl⟩ := bwI_of q
    rw [cl (by omega)] at hQ
    have em : nI m - (3 : Int32) = nI (m - 3) := pk_sub (b := 3) (by omega)
    have ei : (4 : Int32) * nI k + nI m - 3 = nI (4 * k + (m - 3)) := by
      rw [show (4 : Int32) * nI k + nI m = nI (4 * k + m) from ixm 4 k m, show nI (4 * k + m) - (3 : Int32) = nI (4 * k + m - 3) from pk_sub (b := 3) (by omega)]
      congr 1
      omega
    rw [em, ei, nI_leI (by omega) (by omega)]
    refine ⟨fun q => ?_, fun q => ⟨vin (by omega), ?_⟩⟩
    · rw [if_neg (by omega)] at hQ
      exact hQ
    · rw [if_pos (by omega)] at hQ
      rw [cl (by omega), mv2 hV]
      exact hQ
theorem M_word {Q : Int32 → St → Prop} {x y : Int32} (hw : RunW w) (hV : MV σ = π) (hF : WF π) (hQ : Q (A_word π x y) σ) : SpI Γ (d + 2) mX12_word [.ref 390, .int x, .int y] σ w Q := by
  obtain ⟨⟨-, ⟨n1, h24⟩, -⟩, -, hwd, -⟩ := hF
  refine SpI.of pnX12 (Nat.le_of_ble_eq_true rfl) (vX12_word_0 hw (c_isWord hw ((mv_n hV).2.1.trans n1) (by omega) ?_))
  rw [b2i_n0, b2i_0]
  unfold A_word at hQ
  refine ⟨fun q => ?_, fun q => by rw [q] at hQ; exact hQ⟩
  rw [q, if_pos rfl] at hQ
  obtain ⟨v, hv, rfl⟩ := inB_of q
  obtain ⟨w1, w2, w3, w4, w5, w6, -⟩ := hwd v hv
  rw [cl (by omega)] at hQ ⊢
  have hv24 : vp_in (nI v) 24 := vin (by omega)
  refine ⟨fun q => ⟨fun q2 => absurd q q2, fun _ => ⟨hv24, ?_⟩⟩, fun q => ⟨fun q2 => c_in ?_, fun q2 => ⟨fun _ => ⟨hv24, ?_⟩, fun q3 => absurd q3 q⟩⟩⟩
  · rw [if_pos q] at hQ
    rw [mv5 hV]
    exact hQ
  · rw [if_neg q, if_neg q2] at hQ
    have e : (decide ((2 : Int64) ≤ y.toInt64) && decide (y.toInt64 ≤ (9 : Int64))) = bwI y 2 9 := in_lit (a := 2) (b := 9) (by decide) (by decide)
    rw [e, b2i_n0, b2i_0, mv5 hV, w1]
    refine ⟨fun q => c_in ?_, fun q => ⟨hv24, ?_⟩⟩
    · rw [q, if_neg (by decide)] at hQ
      have e : (decide ((10 : Int64) ≤ y.toInt64) && decide (y.toInt64 ≤ (17 : Int64))) = bwI y 10 17 := in_lit (a := 10) (b := 17) (by decide) (by decide)
      rw [e, b2i_n0, b2i_0, mv7 hV, w4]
      refine ⟨fun q => ⟨hv24, ?_⟩, fun q => by rw [q] at hQ; exact hQ⟩
      rw [q, if_pos rfl] at hQ
      obtain ⟨m, m1, m2, rfl⟩ := bwI_of q
      rw [cl (by omega)] at hQ
      have em : nI m - (10 : Int32) = nI (m - 10) := pk_sub (b := 10) (by omega)
      have ei : (8 : Int32) * nI v + nI m - 10 = nI (8 * v + (m - 10)) := by
        rw [show (8 : Int32) * nI v + nI m = nI (8 * v + m) from ixm 8 v m, show nI (8 * v + m) - (10 : Int32) = nI (8 * v + m - 10) from pk_sub (b := 10) (by omega)]
        congr 1
        omega
      rw [em, ei, nI_leI (by omega) (by omega)]
      refine ⟨fun q => ?_, fun q => ⟨vin (by omega), ?_⟩⟩
      · rw [if_neg (by omega)] at hQ
        exact hQ
      · rw [if_pos (by omega)] at hQ
        rw [cl (by omega), mv8 hV]
        exact hQ
    · rw [q, if_pos rfl] at hQ
      obtain ⟨m, m1, m2, rfl⟩ := bwI_of q
      rw [cl (by omega)] at hQ
      have em : nI m - (2 : Int32) = nI (m - 2) := pk_sub (b := 2) (by omega)
      have ei : (8 : Int32) * nI v + nI m - 2 = nI (8 * v + (m - 2)) := by
        rw [show (8 : Int32) * nI v + nI m = nI (8 * v + m) from ixm 8 v m, show nI (8 * v + m) - (2 : Int32) = nI (8 * v + m - 2) from pk_sub (b := 2) (by omega)]
        congr 1
        omega
      rw [em, ei, nI_leI (by omega) (by omega)]
      refine ⟨fun q => ?_, fun q => ⟨vin (by omega), ?_⟩⟩
      · rw [if_neg (by omega)] at hQ
        exact hQ
      · rw [if_pos (by omega)] at hQ
        rw [cl (by omega), mv6 hV]
        exact hQ
  · rw [if_neg q, if_pos q2] at hQ
    rw [mv7 hV]
    exact hQ
theorem M_lesson {Q : Int32 → St → Prop} {x y : Int32} (hw : RunW w) (hV : MV σ = π) (hF : WF π) (hQ : Q (A_lesson π x y) σ) : SpI Γ (d + 2) mX12_lesson [.ref 390, .int x, .int y] σ w Q := by
  obtain ⟨⟨-, -, ⟨n1, h7⟩, -⟩, -⟩ := hF
  refine SpI.of pnX12 (Nat.le_of_ble_eq_true rfl) (vX12_lesson_0 hw (c_isLesson hw ((mv_n hV).2.2.1.trans n1) (by omega) ?_))
  rw [b2i_n0, b2i_0]
  unfold A_lesson at hQ
  refine ⟨fun q => c_in ?_, fun q => by rw [q] at hQ; exact hQ⟩
  rw [q, if_pos rfl] at hQ
  obtain ⟨l, hl, rfl⟩ := inB_of q
  have e : (decide ((0 : Int64) ≤ y.toInt64) && decide (y.toInt64 ≤ (2 : Int64))) = inB y 3 := in_sgn (n := 3) (by decide)
  rw [e, b2i_n0, b2i_0]
  refine ⟨fun q => by rw [q] at hQ; exact hQ, fun q => ?_⟩
  rw [q, if_pos rfl] at hQ
  obtain ⟨m, hm, rfl⟩ := inB_of q
  have ei : (3 : Int32) * nI l + nI m = nI (3 * l + m) := ixm 3 l m
  rw [cl (by omega), cl (by omega)] at hQ
  rw [ei, cl (by omega), mv9 hV]
  exact ⟨vin (by omega), hQ⟩
theorem M_page {Q : Int32 → St → Prop} {x y : Int32} (hw : RunW w) (hV : MV σ = π) (hF : WF π) (hQ : Q (A_page π x y) σ) : SpI Γ (d + 2) mX12_page [.ref 390, .int x, .int y] σ w Q := by
  obtain ⟨⟨-, -, -, n1, h8⟩, -, -, -, hp⟩ := hF
  refine SpI.of pnX12 (Nat.le_of_ble_eq_true rfl) (vX12_page_0 hw (c_isPage hw ((mv_n hV).2.2.2.trans n1) (by omega) ?_))
  rw [b2i_n0, b2i_0]
  unfold A_page at hQ
  refine ⟨fun q => ?_, fun q => by rw [q] at hQ; exact hQ⟩
  rw [q, if_pos rfl] at hQ
  obtain ⟨p, hpp, rfl⟩ := inB_of q
  obtain ⟨p1, p2, p3, -⟩ := hp p hpp
  rw [cl (by omega)] at hQ ⊢
  refine ⟨fun q => c_in ?_, fun q => ⟨vin (by omega), ?_⟩⟩
  · rw [if_neg q] at hQ
    have e : (decide ((0 : Int64) ≤ y.toInt64) && decide (y.toInt64 ≤ (15 : Int64))) = inB y 16 := in_sgn (n := 16) (by decide)
    rw [e, b2i_n0, b2i_0, mv10 hV, p1]
    refine ⟨fun q => ⟨vin (by omega), ?_⟩, fun q => by rw [q] at hQ; exact hQ⟩
    rw [q, if_pos rfl] at hQ
    obtain ⟨m, hm, rfl⟩ := inB_of q
    have ei : (16 : Int32) * nI p + nI m = nI (16 * p + m) := ixm 16 p m
    rw [cl (by omega)] at hQ
    rw [ei, nI_leI (by omega) (by omega)]
    refine ⟨fun q => ?_, fun q => ⟨vin (by omega), ?_⟩⟩
    · rw [if_neg (by omega)] at hQ
      exact hQ
    · rw [if_pos (by omega)] at hQ
      rw [cl (by omega), mv11 hV]
      exact hQ
  · rw [if_pos q] at hQ
    rw [mv12 hV]
    exact hQ
theorem M_fits {Q : Int32 → St → Prop} {x y z : Int32} (hw : RunW w) (hV : MV σ = π) (hF : WF π) (hQ : Q (A_fits π x y z) σ) : SpI Γ (d + 2) mX12_fits [.ref 390, .int x, .int y, .int z] σ w Q := by
  have hF' := hF
  obtain ⟨⟨⟨n1, h20⟩, ⟨n2, h24⟩, -⟩, -, hwd, -⟩ := hF
  refine SpI.of pnX12 (Nat.le_of_ble_eq_true rfl) (vX12_fits_0 hw (c_isSign hw ((mv_n hV).1.trans n1) (by omega) ?_))
  rw [b2i_n0, b2i_0]
  unfold A_fits at hQ
  refine ⟨fun q => by rw [q] at hQ; exact hQ, fun q => c_isWord hw ((mv_n hV).2.1.trans n2) (by omega) ?_⟩
  rw [q, Bool.true_and] at hQ
  rw [b2i_n0, b2i_0]
  refine ⟨fun q2 => ?_, fun q2 => by rw [q2] at hQ; exact hQ⟩
  rw [q2, if_pos rfl] at hQ
  obtain ⟨k, hk, rfl⟩ := inB_of q
  obtain ⟨v, hv, rfl⟩ := inB_of q2
  obtain ⟨w1, w2, w3, -⟩ := hwd v hv
  rw [cl (by omega), cl (by omega)] at hQ
  refine ⟨vin (by omega), c_in ?_⟩
  rw [cl (by omega), mv5 hV, w1, in_sgn (by omega), b2i_n0, b2i_0]
  refine ⟨fun q => ?_, fun q => by rw [q] at hQ; exact hQ⟩
  rw [q, if_pos rfl] at hQ
  obtain ⟨i, hi, rfl⟩ := inB_of q
  rw [cl (by omega)] at hQ
  refine c_isFit hw hV hF' hk hv (by omega) ?_
  rw [b2i_n0, b2i_0]
  refine ⟨fun q => ?_, fun q => ?_⟩
  · rw [q] at hQ
    exact hQ
  · rw [q] at hQ
    exact hQ
theorem c_outAt {Q : Int32 → St → Prop} {j : Int32} {out : List Int32} (hw : RunW w) (hO : OutM σ out) (hlen : out.length ≤ 32) (hQ : Q (A_out out j) σ) : SpI Γ (d + 1) mX12_outAt [.ref 390, .int j] σ w Q := by
  refine SpI.of pnX12 (Nat.le_of_ble_eq_true rfl) (vX12_outAt_0 hw ?_)
  unfold A_out at hQ
  refine ⟨fun q => c_in ?_, fun q => ?_⟩
  · rw [if_neg q] at hQ
    rw [hO.1, in_sgn (by omega), b2i_n0, b2i_0]
    refine ⟨fun q => by rw [q] at hQ; exact hQ, fun q => ?_⟩
    rw [q, if_pos rfl] at hQ
    obtain ⟨i, hi, rfl⟩ := inB_of q
    rw [cl (by omega)] at hQ ⊢
    rw [hO.2 i hi]
    exact ⟨vin (by omega), hQ⟩
  · rw [if_pos q] at hQ
    rw [hO.1]
    exact hQ
theorem M_aloud {Q : Int32 → St → Prop} {x y z : Int32} (hw : RunW w) (hV : MV σ = π) (hF : WF π) (hQ : ∀ σ', EqM σ σ' → Q (A_aloud π x y z) σ') : SpI Γ (d + 3) mX12_aloud [.ref 390, .int x, .int y, .int z] σ w Q := by
  have hF' := hF
  obtain ⟨⟨⟨n1, h20⟩, ⟨n2, h24⟩, -⟩, -, -⟩ := hF
  refine SpI.of pnX12 (Nat.le_of_ble_eq_true rfl) (vX12_aloud_0 hw (c_isWord hw ((mv_n hV).2.1.trans n2) (by omega) ?_))
  rw [b2i_n0, b2i_0]
  unfold A_aloud at hQ
  refine ⟨fun q => by rw [q] at hQ; exact hQ σ (EqM.rf σ), fun q => c_areSigns hw ((mv_n hV).1.trans n1) (by omega) ?_⟩
  rw [q, Bool.true_and] at hQ
  rw [b2i_n0, b2i_0]
  refine ⟨fun q2 => ?_, fun q2 => by rw [q2] at hQ; exact hQ σ (EqM.rf σ)⟩
  rw [q2, if_pos rfl] at hQ
  obtain ⟨v, hv, rfl⟩ := inB_of q
  rw [cl (by omega)] at hQ
  refine c_speak hw hV hF' hv fun s hs => ?_
  exact c_outAt hw hs.2.1 (by have := hs.2.2.2.2; omega) (hQ s hs.1)
theorem M_taught {Q : Int32 → St → Prop} {x : Int32} (hw : RunW w) (hV : MV σ = π) (hF : WF π) (hQ : Q (A_taught π x) σ) : SpI Γ (d + 2) mX12_taught [.ref 390, .int x] σ w Q := by
  have hF' := hF
  obtain ⟨⟨-, -, ⟨n1, h7⟩, -⟩, -⟩ := hF
  refine SpI.of pnX12 (Nat.le_of_ble_eq_true rfl) (vX12_taught_0 hw (c_areLessons hw ((mv_n hV).2.2.1.trans n1) (by omega) ?_))
  rw [b2i_n0, b2i_0]
  unfold A_taught at hQ
  refine ⟨fun q => c_isClosed hw hV hF' ?_, fun q => by rw [q] at hQ; exact hQ⟩
  rw [q, if_pos rfl] at hQ
  rw [b2i_n0, b2i_0]
  refine ⟨fun q2 => by rw [q2] at hQ; exact hQ, fun q2 => c_teach (what := 1) hw hV hF' (by decide) ?_⟩
  rw [q2, if_pos rfl] at hQ
  exact hQ
theorem M_reads {Q : Int32 → St → Prop} {x : Int32} (hw : RunW w) (hV : MV σ = π) (hF : WF π) (hQ : ∀ σ', EqM σ σ' → Q (A_reads π x) σ') : SpI Γ (d + 5) mX12_reads [.ref 390, .int x] σ w Q := by
  have hF' := hF
  obtain ⟨⟨-, -, ⟨n1, h7⟩, -⟩, -⟩ := hF
  refine SpI.of pnX12 (Nat.le_of_ble_eq_true rfl) (vX12_reads_0 hw (c_areLessons hw ((mv_n hV).2.2.1.trans n1) (by omega) ?_))
  rw [b2i_n0, b2i_0]
  unfold A_reads at hQ
  refine ⟨fun q => c_isClosed hw hV hF' ?_, fun q => by rw [q] at hQ; exact hQ σ (EqM.rf σ)⟩
  rw [q, if_pos rfl] at hQ
  rw [b2i_n0, b2i_0]
  refine ⟨fun q2 => by rw [q2] at hQ; exact hQ σ (EqM.rf σ), fun q2 => c_readsOf hw hV hF' ?_⟩
  rw [q2, if_pos rfl] at hQ
  exact hQ
theorem M_unknown {Q : Int32 → St → Prop} {x y : Int32} (hw : RunW w) (hV : MV σ = π) (hF : WF π) (hQ : ∀ σ', EqM σ σ' → Q (A_unknown π x y) σ') : SpI Γ (d + 5) mX12_unknown [.ref 390, .int x, .int y] σ w Q := by
  have hF' := hF
  obtain ⟨⟨-, -, ⟨n1, h7⟩, n2, h8⟩, -⟩ := hF
  refine SpI.of pnX12 (Nat.le_of_ble_eq_true rfl) (vX12_unknown_0 hw (c_isPage hw ((mv_n hV).2.2.2.trans n2) (by omega) ?_))
  rw [b2i_n0, b2i_0]
  unfold A_unknown at hQ
  refine ⟨fun q => by rw [q] at hQ; exact hQ σ (EqM.rf σ), fun q => c_areLessons hw ((mv_n hV).2.2.1.trans n1) (by omega) ?_⟩
  rw [q, Bool.true_and] at hQ
  rw [b2i_n0, b2i_0]
  refine ⟨fun q2 => c_isClosed hw hV hF' ?_, fun q2 => by rw [q2] at hQ; exact hQ σ (EqM.rf σ)⟩
  rw [q2, if_pos rfl] at hQ
  rw [b2i_n0, b2i_0]
  obtain ⟨p, hp, rfl⟩ := inB_of q
  rw [cl (by omega)] at hQ ⊢
  refine ⟨fun q3 => by rw [q3] at hQ; exact hQ σ (EqM.rf σ), fun q3 => ⟨vin (by omega), c_readsOf hw hV hF' fun s hs => c_bits ?_⟩⟩
  rw [q3, if_pos rfl] at hQ
  rw [mv12 hV]
  exact hQ s hs
end MAC
