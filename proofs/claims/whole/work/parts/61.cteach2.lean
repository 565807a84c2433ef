/-! the class answers: lessons taken, pages read, what is next -/
section CT2
variable {Γ : Gx} {d : Nat} {w : Wd} {π : PV} {κ : KV} {P : Nat}
theorem scM2_sc {q : Nat} (hq : q < 3) {i j : Nat} (hi : 2 ≤ i ∧ i ≤ 8) (hj : 2 ≤ j ∧ j ≤ 8) : ∀ o k, scM2 (320 + i + 7 * q) (320 + j + 7 * q) o k = true → scSc o k = true := by
  intro o k h
  unfold scM2 at h
  unfold scSc
  simp only [Bool.or_eq_true, beq_iff_eq] at h
  simp
  omega
/-- both memories of a pupil are used -/
theorem c_useBoth {Q : St → Prop} {σ : St} {q : Nat} {sg : Int32} {F : St → Int32} {wd : Int32} (hw : RunW w) (hF : WF π) (hC : CP σ P π) (hK : KR σ 320 κ) (hO : KOK π κ) (hq : q < 3) (hs : ∀ k, nS π ≤ k → k < 32 → bt sg k = false) (hv : ∀ k, nW π ≤ k → k < 32 → bt wd k = false)
    (hX : ∀ s, ChC P π σ s → KR s 320 (useF κ q sg 0 20) → gI s (322 + 7 * q) 0 = κ 0 q → gI s 320 1 = κ 4 0 → (∀ Q' : St → Prop, (∀ s', ChC P π σ s' → KR s' 320 (useA π κ q sg wd) → KOK π (useA π κ q sg wd) → Q' s') → SpV Γ (d + 1) mX2_use [.ref (326 + 7 * q), .int wd, .int (κ 0 q), .int (κ 4 0)] s w Q') → Q s) :
    SpV Γ (d + 1) mX2_use [.ref (323 + 7 * q), .int sg, .int (κ 0 q), .int (κ 4 0)] σ w Q := by
  obtain ⟨o1, r1, r2, m1, m2, -⟩ := pu0 hw hq
  obtain ⟨k1, k2, k3, k4⟩ := hK.1 q hq
  refine c_useC m1 k3 (fun s z1 z2 => ?_)
  have hc1 : ChC P π σ s := hC.sc hF (z1.mono (scM2_sc hq (i := 4) (j := 5) (by omega) (by omega)))
  have hK1 : KR s 320 (useF κ q sg 0 20) := hK.useS hq z1 z2
  have o0 : useF κ q sg 0 20 0 q = κ 0 q := useF_o _ (fun e => by omega)
  have o4 : useF κ q sg 0 20 4 0 = κ 4 0 := useF_o _ (fun e => by omega)
  refine hX s hc1 hK1 ((hK1.1 q hq).1.trans o0) (hK1.2.trans o4) (fun Q' hQ' => ?_)
  rw [← o0, ← o4]
  refine c_useC m2 (hK1.1 q hq).2.2.2 (fun s' y1 y2 => ?_)
  have hK2 := hK1.useW hq y1 y2
  rw [useA_full hF hs hv] at hK2
  exact hQ' s' (hc1.tr (hc1.2.sc hF (y1.mono (scM2_sc hq (i := 7) (j := 8) (by omega) (by omega))))) hK2 (hO.use hq hF.1.1.2 hF.1.2.1.2)
theorem C_take {Q : Int32 → St → Prop} {σ : St} {x y : Int32} (hw : RunW w) (hF : WF π) (hC : CP σ P π) (hK : KR σ 320 κ) (hO : KOK π κ) (hQ : ∀ σ', ChC P π σ σ' → KR σ' 320 (R_take π κ x y).2 → KOK π (R_take π κ x y).2 → Q (R_take π κ x y).1 σ') : SpI Γ (d + 3) mX11_take [.ref 0, .int x, .int y] σ w Q := by
  have hP := hC.2.1
  have hlt := P_lt hP
  have h7 := hF.1.2.2.1.2
  obtain ⟨o1, r2, r3, e2, e3, ⟨s, l, m1⟩, s', l', m2⟩ := pu_any hw x.toNatClampNeg
  refine SpI.of pnX11 (Nat.le_of_ble_eq_true rfl) (vX11_take_0 hw (puE hw _) o1 e2 e3 m2.1 m1.1 (c_isPupilC ?_))
  rw [b2i_n0, b2i_0]
  unfold R_take at hQ
  refine ⟨fun c => by rw [c] at hQ; exact hQ σ (ChC.rf hC) hK hO, fun c => c_isLessonC hw hF hC ?_⟩
  rw [c, Bool.true_and] at hQ
  rw [b2i_n0, b2i_0]
  refine ⟨fun c2 => ?_, fun c2 => by rw [c2] at hQ; exact hQ σ (ChC.rf hC) hK hO⟩
  rw [c2, if_pos rfl] at hQ
  obtain ⟨q, hq, rfl, e⟩ := chk_3 x c
  obtain ⟨l, hl, rfl⟩ := inB_of c2
  rw [cl (n := q) (by omega), cl (n := l) (by omega)] at hQ
  rw [e] at e2 e3
  obtain ⟨-, f1, f2, n1, n2, -⟩ := pu0 hw hq
  cases f1.symm.trans e2
  cases f2.symm.trans e3
  obtain ⟨k1, k2, k3, k4⟩ := hK.1 q hq
  have k2' : gI σ (322 + 7 * q) 1 = κ 1 q := k2
  rw [e, k2']
  refine ⟨vin (by omega), tdR hC.1 ⟨prO hw hP, c_mayFollow hw hP hC.2.2.1 hF hl ?_⟩⟩
  rw [b2i_n0, b2i_0]
  refine ⟨fun c3 => c_miss hw hF hC hK hO hq hl ?_, fun c3 => by rw [c3] at hQ; exact hQ σ (ChC.rf hC) hK hO⟩
  rw [c3, if_pos rfl] at hQ
  obtain ⟨-, ⟨sx, hsx, esx⟩, wx, hwx, ewx⟩ := hF.2.2.2.1 l hl
  have hfu : Fr scSc σ (uI σ (322 + 7 * q) 1 (κ 1 q ||| (1 <<< (nI l &&& 31)))) := fr_I (by unfold scSc; simp; omega)
  have hcu := hC.sc hF hfu
  have hKu : KR (uI σ (322 + 7 * q) 1 (κ 1 q ||| (1 <<< (nI l &&& 31)))) 320 (updK κ 1 q (κ 1 q ||| (1 <<< (nI l &&& 31)))) := by
    refine ⟨fun r hr => ?_, ?_⟩
    · obtain ⟨a1, a2, a3, a4⟩ := hK.1 r hr
      refine ⟨?_, ?_, fun k hk => ?_, fun k hk => ?_⟩
      · rw [gI_uI, if_neg (by omega)]
        exact a1
      · rw [gI_uI]
        show _ = updK κ 1 q _ 1 r
        unfold updK
        by_cases e : r = q
        · subst e; rw [if_pos ⟨by omega, rfl⟩, if_pos ⟨rfl, rfl⟩]
        · rw [if_neg (by omega), if_neg (by omega)]; exact a2
      · rw [gI_uI, if_neg (by omega), gI_uI, if_neg (by omega)]
        exact ⟨(a3 k hk).1, (a3 k hk).2⟩
      · rw [gI_uI, if_neg (by omega), gI_uI, if_neg (by omega)]
        exact ⟨(a4 k hk).1, (a4 k hk).2⟩
    · rw [gI_uI, if_neg (by omega)]
      exact hK.2
  have u0 : updK κ 1 q (κ 1 q ||| (1 <<< (nI l &&& 31))) 0 q = κ 0 q := updK_o (by decide)
  have u4 : updK κ 1 q (κ 1 q ||| (1 <<< (nI l &&& 31))) 4 0 = κ 4 0 := updK_o (by decide)
  refine tdR hC.1 ⟨prO hw hP, P + 4, pr5 hw hP, ok_ hw (by omega) (pO4 hP), vk (pO4 hP) (by omega), ?_⟩
  rw [k2', cl (by omega)]
  have g1 : gI (uI σ (322 + 7 * q) 1 (κ 1 q ||| (1 <<< (nI l &&& 31)))) (P + 4) l = π 9 l 1 := hcu.2.2.2.1.2.2.2.1 l hl 1 (by decide)
  have g2 : gI (uI σ (322 + 7 * q) 1 (κ 1 q ||| (1 <<< (nI l &&& 31)))) (322 + 7 * q) 0 = updK κ 1 q (κ 1 q ||| (1 <<< (nI l &&& 31))) 0 q := (hKu.1 q hq).1
  have g3 : gI (uI σ (322 + 7 * q) 1 (κ 1 q ||| (1 <<< (nI l &&& 31)))) 320 1 = updK κ 1 q (κ 1 q ||| (1 <<< (nI l &&& 31))) 4 0 := hKu.2
  rw [g1, g2, g3]
  refine c_useBoth (F := fun _ => 0) (wd := π 9 l 2) hw hF hcu.2 hKu (hO.upd (by decide)) hq (fun k h1 h2 => by rw [esx]; exact b_small hsx h1 h2) (fun k h1 h2 => by rw [ewx]; exact b_small hwx h1 h2) (fun s z1 z2 z3 z4 z5 => ?_)
  refine tdR z1.2.1 ⟨prO hw hP, P + 5, pr6 hw hP, ok_ hw (by omega) (pO5 hP), vk (pO5 hP) (by omega), ?_⟩
  have g4 : gI s (P + 5) l = π 9 l 2 := z1.2.2.2.1.2.2.2.1 l hl 2 (by decide)
  rw [g4, z3, z4]
  exact z5 _ (fun s' y1 y2 y3 => hQ s' (hcu.tr y1) y2 y3)
theorem lp_readC {Q : Int32 → St → Prop} {σ0 : St} {q p : Nat} (hw : RunW w) (hF : WF π) (hC0 : CP σ0 P π) (hK0 : KR σ0 320 κ) (hO : KOK π κ) (hq : q < 3) (hp : p < nP π)
    (hQ : ∀ s', ChC P π σ0 s' → KR s' 320 (useA π κ q (mtS π κ q p).2 (π 12 p 0)) → KOK π (useA π κ q (mtS π κ q p).2 (π 12 p 0)) → Q (nI (mtS π κ q p).1) s') :
    ∀ r n s, n + r = nW π → AskC P π σ0 s → AI Γ (d + 3) mX11_read w Q 62 [(0, .ref 0), (2, .int (nI p)), (3, .ref (322 + 7 * q)), (4, .int (π 12 p 0 &&& (heldF κ q 20 (nW π) ^^^ (-1)))), (5, .int (heldF κ q 0 (nS π))), (6, .int (mtF π (heldF κ q 0 (nS π)) (heldF κ q 20 (nW π)) p n).2), (7, .int (nI (mtF π (heldF κ q 0 (nS π)) (heldF κ q 20 (nW π)) p n).1)), (8, .int (nI n))] s := by
  have hP := hC0.2.1
  have hlt := P_lt hP
  have h20 := hF.1.1.2
  have h24 := hF.1.2.1.2
  have h8 := hF.1.2.2.2.2
  obtain ⟨o1, r1, r2, m1, m2, -⟩ := pu0 hw hq
  have o17 : okO w (P + 17) 8 := okL hw (by omega) (pO17 hP)
  intro r
  induction r with
  | zero =>
    intro n s hn hA
    have : n = nW π := hn
    subst this
    have hK : KR s 320 κ := hK0.ask hC0 hA
    refine vX11_read_62 hw hA.2.1 (prO hw hP) o1 r1 r2 m2.1 m1.1 (pr12 hw hP) (pr2 hw hP) (wdE hw hP (by omega)) o17 (lo_ hw (by omega)) (k24 (pO2 hP) (by decide)) (k28 (pO2 hP) (by decide)) ?_
    have k1 : gI s (322 + 7 * q) 0 = κ 0 q := (hK.1 q hq).1
    have k4 : gI s 320 1 = κ 4 0 := hK.2
    rw [(wP hA.2.2.2.1 hF).2.1, k1, k4]
    refine ⟨fun _ => ?_, fun c => absurd (nI_le (Nat.le_refl _) (by omega)) c⟩
    refine c_useBoth (F := fun _ => 0) (wd := π 12 p 0) hw hF hA.2 hK hO hq (fun k h1 h2 => b_mtF h20 h1 h2 _) (fun k h1 h2 => pg_hi hF hp h1 h2) (fun s1 z1 z2 z3 z4 z5 => ?_)
    refine tdR z1.2.1 ⟨prO hw hP, P + 16, pr10 hw hP, ok_ hw (by omega) (pO16 hP), vk (pO16 hP) (by omega), ?_⟩
    have g4 : gI s1 (P + 16) p = π 12 p 0 := (z1.2.2.2.1.2.2.2.2 p hp).2.2
    rw [cl (by omega), g4, z3, z4]
    exact z5 _ (fun s' y1 y2 y3 => hQ s' (hA.ch.tr y1) y2 y3)
  | succ r ih =>
    intro n s hn hA
    have st : mtF π (heldF κ q 0 (nS π)) (heldF κ q 20 (nW π)) p (n + 1) = if bt (π 12 p 0) n && !bt (heldF κ q 20 (nW π)) n then (if rightS π n (heldF κ q 0 (nS π)) then ((mtF π (heldF κ q 0 (nS π)) (heldF κ q 20 (nW π)) p n).1, (mtF π (heldF κ q 0 (nS π)) (heldF κ q 20 (nW π)) p n).2 ||| (spkAll π n (heldF κ q 0 (nS π))).2.2) else ((mtF π (heldF κ q 0 (nS π)) (heldF κ q 20 (nW π)) p n).1 + 1, (mtF π (heldF κ q 0 (nS π)) (heldF κ q 20 (nW π)) p n).2)) else mtF π (heldF κ q 0 (nS π)) (heldF κ q 20 (nW π)) p n := rfl
    refine vX11_read_62 hw hA.2.1 (prO hw hP) o1 r1 r2 m2.1 m1.1 (pr12 hw hP) (pr2 hw hP) (wdE hw hP (by omega)) o17 (lo_ hw (by omega)) (k24 (pO2 hP) (by decide)) (k28 (pO2 hP) (by decide)) ?_
    rw [(wP hA.2.2.2.1 hF).2.1, wdA_ (by omega), bit_v _ (by omega), b_and, b_not _ (by omega), b2i_n0, b2i_0, nI_1 n]
    refine ⟨fun c => absurd c (nI_ge (by omega) (by omega)), fun _ => ⟨fun c => ⟨vk (pO2 hP) (by omega), c_say hw hP hA.2.2.2.1 hA.2.2.2.2.1 hF (by omega) fun s1 z => ?_⟩, fun c => ?_⟩⟩
    · have hA1 := hA.tr (hA.2.sp hF z.1)
      have nx := ih (n + 1) s1 (by omega) hA1
      rw [st, c, if_pos rfl] at nx
      refine tdR hA1.2.1 ⟨prO hw hP, P + 17, pr12 hw hP, o17, ?_⟩
      rw [z.2.2.2.2.2.1, b2i_n0, b2i_0, nI_1]
      refine ⟨fun c2 => ?_, fun c2 => tdR hA1.2.1 ⟨prO hw hP, P + 17, pr12 hw hP, o17, ?_⟩⟩
      · rw [c2] at nx
        exact nx
      · rw [c2] at nx
        rw [z.2.2.2.1]
        exact nx
    · have nx := ih (n + 1) s (by omega) hA
      rw [st, c, if_neg (by decide)] at nx
      exact nx
theorem C_read {Q : Int32 → St → Prop} {σ : St} {x y : Int32} (hw : RunW w) (hF : WF π) (hC : CP σ P π) (hK : KR σ 320 κ) (hO : KOK π κ) (hQ : ∀ σ', ChC P π σ σ' → KR σ' 320 (R_read π κ x y).2 → KOK π (R_read π κ x y).2 → Q (R_read π κ x y).1 σ') : SpI Γ (d + 3) mX11_read [.ref 0, .int x, .int y] σ w Q := by
  have hP := hC.2.1
  have hlt := P_lt hP
  have h8 := hF.1.2.2.2.2
  refine SpI.of pnX11 (Nat.le_of_ble_eq_true rfl) (vX11_read_0 hw (puE hw _) (pu_any hw _).1 (c_isPupilC ?_))
  rw [b2i_n0, b2i_0]
  unfold R_read at hQ
  refine ⟨fun c => by rw [c] at hQ; exact hQ σ (ChC.rf hC) hK hO, fun c => c_isPageC hw hF hC ?_⟩
  rw [c, Bool.true_and] at hQ
  rw [b2i_n0, b2i_0]
  refine ⟨fun c2 => ?_, fun c2 => by rw [c2] at hQ; exact hQ σ (ChC.rf hC) hK hO⟩
  rw [c2, if_pos rfl] at hQ
  obtain ⟨q, hq, rfl, e⟩ := chk_3 x c
  obtain ⟨p, hp, rfl⟩ := inB_of c2
  rw [cl (n := q) (by omega), cl (n := p) (by omega)] at hQ
  rw [e]
  have g4 : gI σ (P + 16) p = π 12 p 0 := (hC.2.2.1.2.2.2.2 p hp).2.2
  refine ⟨vin (by omega), tdR hC.1 ⟨prO hw hP, P + 16, pr10 hw hP, ok_ hw (by omega) (pO16 hP), vk (pO16 hP) (by omega), c_hW hw hF hK hO hq (c_hS hw hF hK hO hq ?_)⟩⟩
  rw [cl (by omega), g4]
  exact lp_readC hw hF hC hK hO hq hp hQ (nW π) 0 σ (Nat.zero_add _) hC.rf
theorem lp_again {Q : Int32 → St → Prop} {σ : St} {q : Nat} (hw : RunW w) (hF : WF π) (hC : CP σ P π) (hK : KR σ 320 κ) (hO : KOK π κ) (hq : q < 3) (hQ : Q (bI (fstB (lateS π κ q) (nL π))) σ) :
    ∀ r l, l + r = nL π → fstB (lateS π κ q) l = none → AI Γ (d + 3) mX11_lessonToTakeAgain w Q 2 [(0, .ref 0), (1, .ref (322 + 7 * q)), (2, .int (nI l))] σ := by
  have hP := hC.2.1
  have h7 := hF.1.2.2.1.2
  have k2 : gI σ (322 + 7 * q) 1 = κ 1 q := (hK.1 q hq).2.1
  intro r
  induction r with
  | zero =>
    intro l hl hn
    have : l = nL π := hl
    subst this
    refine vX11_lessonToTakeAgain_2 hw hC.1 (prO hw hP) (pu0 hw hq).1 ?_
    rw [(wP hC.2.2.1 hF).2.2.1]
    rw [hn] at hQ
    exact ⟨fun _ => hQ, fun c => absurd (nI_le (Nat.le_refl _) (by omega)) c⟩
  | succ r ih =>
    intro l hl hn
    refine vX11_lessonToTakeAgain_2 hw hC.1 (prO hw hP) (pu0 hw hq).1 ?_
    have lt : lateS π κ q l = (bt (κ 1 q) l && decide (0 < lackS π κ q l)) := rfl
    have ll : lackS π κ q l ≤ 48 := by
      unfold lackS
      have := cntB_le (π 9 l 1 &&& (heldF κ q 0 (nS π) ^^^ (-1))) 24
      have := cntB_le (π 9 l 2 &&& (heldF κ q 20 (nW π) ^^^ (-1))) 24
      omega
    rw [(wP hC.2.2.1 hF).2.2.1, k2, bit_v _ (by omega), b2i_n0, b2i_0, nI_1]
    refine ⟨fun c => absurd c (nI_ge (by omega) (by omega)), fun _ => ⟨fun c => ih (l + 1) (by omega) (fstB_no hn (by rw [lt, c]; rfl)), fun c => c_miss hw hF hC hK hO hq (by omega) ?_⟩⟩
    have l0 : nI (lackS π κ q l) ≤ 0 ↔ lackS π κ q l ≤ 0 := nI_leI (b := 0) (by omega) (by decide)
    rw [l0]
    refine ⟨fun c2 => ih (l + 1) (by omega) (fstB_no hn (by rw [lt, c, decide_eq_false (by omega)]; rfl)), fun c2 => ?_⟩
    have := fstB_at hn (show lateS π κ q l = true by rw [lt, c, decide_eq_true (by omega)]; rfl) (n := nL π) (by omega)
    rw [this] at hQ
    exact hQ
theorem lp_mayC {Q : Int32 → St → Prop} {σ : St} {q : Nat} (hw : RunW w) (hF : WF π) (hC : CP σ P π) (hK : KR σ 320 κ) (hq : q < 3) (hQ : Q (bI (fstB (mayS π κ q) (nL π))) σ) :
    ∀ r l, l + r = nL π → fstB (mayS π κ q) l = none → AI Γ (d + 1) mX11_lessonToTake w Q 2 [(0, .ref 0), (1, .ref (322 + 7 * q)), (2, .int (nI l))] σ := by
  have hP := hC.2.1
  have h7 := hF.1.2.2.1.2
  have k2 : gI σ (322 + 7 * q) 1 = κ 1 q := (hK.1 q hq).2.1
  intro r
  induction r with
  | zero =>
    intro l hl hn
    have : l = nL π := hl
    subst this
    refine vX11_lessonToTake_2 hw hC.1 (prO hw hP) (pu0 hw hq).1 ?_
    rw [(wP hC.2.2.1 hF).2.2.1]
    rw [hn] at hQ
    exact ⟨fun _ => hQ, fun c => absurd (nI_le (Nat.le_refl _) (by omega)) c⟩
  | succ r ih =>
    intro l hl hn
    refine vX11_lessonToTake_2 hw hC.1 (prO hw hP) (pu0 hw hq).1 ?_
    have lt : mayS π κ q l = (!bt (κ 1 q) l && (π 9 l 0 &&& (κ 1 q ^^^ (-1)) == 0)) := rfl
    rw [(wP hC.2.2.1 hF).2.2.1, k2, bit_v _ (by omega), b2i_n0, b2i_0, nI_1]
    refine ⟨fun c => absurd c (nI_ge (by omega) (by omega)), fun _ => ⟨fun c => ih (l + 1) (by omega) (fstB_no hn (by rw [lt, c]; rfl)), fun c => c_mayFollow hw hP hC.2.2.1 hF (by omega) ?_⟩⟩
    rw [b2i_n0, b2i_0]
    refine ⟨fun c2 => ih (l + 1) (by omega) (fstB_no hn (by rw [lt, c, c2]; rfl)), fun c2 => ?_⟩
    have := fstB_at hn (show mayS π κ q l = true by rw [lt, c, c2]; rfl) (n := nL π) (by omega)
    rw [this] at hQ
    exact hQ
theorem lp_pageTo {Q : Int32 → St → Prop} {σ0 : St} {q few : Nat} (hw : RunW w) (hF : WF π) (hC0 : CP σ0 P π) (hK0 : KR σ0 320 κ) (hO : KOK π κ) (hq : q < 3) (hfew : few < 17) (hQ : ∀ s, AskC P π σ0 s → Q (bI (nxP π κ q few (nP π)).1) s) :
    ∀ r n s, n + r = nP π → AskC P π σ0 s → AI Γ (d + 4) mX11_pageToRead w Q 8 [(0, .ref 0), (1, .ref (322 + 7 * q)), (2, .int (nI few)), (3, .int (bI (nxP π κ q few n).1)), (4, .int (nI (nxP π κ q few n).2)), (5, .int (nI n))] s := by
  have hP := hC0.2.1
  have h8 := hF.1.2.2.2.2
  intro r
  induction r with
  | zero =>
    intro n s hn hA
    have : n = nP π := hn
    subst this
    refine vX11_pageToRead_8 hw hA.2.1 (prO hw hP) ?_
    rw [(wP hA.2.2.2.1 hF).2.2.2]
    exact ⟨fun _ => hQ s hA, fun c => absurd (nI_le (Nat.le_refl _) (by omega)) c⟩
  | succ r ih =>
    intro n s hn hA
    refine vX11_pageToRead_8 hw hA.2.1 (prO hw hP) ?_
    rw [(wP hA.2.2.2.1 hF).2.2.2, nI_1]
    refine ⟨fun c => absurd c (nI_ge (by omega) (by omega)), fun _ => c_unkFor hw hF hA.2 (hK0.ask hC0 hA) hO hq (by omega) fun s1 z => ?_⟩
    have hA1 := hA.tr z
    have nx := ih (n + 1) s1 (by omega) hA1
    have m16 := mt_16 (κ := κ) (q := q) hF (show n < nP π by omega)
    have nle := nxP_le (π := π) (κ := κ) (q := q) (few := few) n
    have st : nxP π κ q few (n + 1) = if decide ((mtS π κ q n).1 ≤ few) && decide ((nxP π κ q few n).2 < (mtS π κ q n).1) then (some n, (mtS π κ q n).1) else nxP π κ q few n := rfl
    rw [st] at nx
    have l1 : nI few < nI (mtS π κ q n).1 ↔ few < (mtS π κ q n).1 := nI_ltI (by omega) (by omega)
    have l2 : nI (mtS π κ q n).1 ≤ nI (nxP π κ q few n).2 ↔ (mtS π κ q n).1 ≤ (nxP π κ q few n).2 := nI_leI (by omega) (by omega)
    rw [l1, l2]
    refine ⟨fun c => ?_, fun c => ⟨fun c2 => ?_, fun c2 => ?_⟩⟩
    · rw [decide_eq_false (show ¬ (mtS π κ q n).1 ≤ few by omega)] at nx
      exact nx
    · rw [decide_eq_true (show (mtS π κ q n).1 ≤ few by omega), decide_eq_false (show ¬ (nxP π κ q few n).2 < (mtS π κ q n).1 by omega)] at nx
      exact nx
    · rw [decide_eq_true (show (mtS π κ q n).1 ≤ few by omega), decide_eq_true (show (nxP π κ q few n).2 < (mtS π κ q n).1 by omega)] at nx
      exact nx
theorem C_next {Q : Int32 → St → Prop} {σ : St} {x y : Int32} (hw : RunW w) (hF : WF π) (hC : CP σ P π) (hK : KR σ 320 κ) (hO : KOK π κ) (hQ : ∀ σ', AskC P π σ σ' → Q (A_next π κ x y) σ') : SpI Γ (d + 5) mX11_next [.ref 0, .int x, .int y] σ w Q := by
  have h7 := hF.1.2.2.1.2
  have h8 := hF.1.2.2.2.2
  refine SpI.of pnX11 (Nat.le_of_ble_eq_true rfl) (vX11_next_0 hw (puE hw _) (c_isPupilC ?_))
  rw [b2i_n0, b2i_0]
  unfold A_next at hQ
  refine ⟨fun c => c_outC ?_, fun c => by rw [c] at hQ; exact hQ σ hC.rf⟩
  rw [c, if_pos rfl] at hQ
  rw [b2i_n0, b2i_0]
  obtain ⟨q, hq, rfl, e⟩ := chk_3 x c
  refine ⟨fun c2 => ⟨vin (by omega), ?_⟩, fun c2 => ?_⟩
  · have c2' : inB y 17 = true := by simpa using c2
    rw [c2', if_pos rfl] at hQ
    obtain ⟨few, hfew, rfl⟩ := inB_of c2'
    rw [cl (n := q) (by omega), cl (n := few) (by omega)] at hQ
    rw [e]
    refine SpI.of pnX11 (Nat.le_of_ble_eq_true rfl) (vX11_lessonToTakeAgain_0 (lp_again hw hF hC hK hO hq ?_ (nL π) 0 (Nat.zero_add _) rfl))
    cases h1 : fstB (lateS π κ q) (nL π) with
    | some l =>
      rw [h1] at hQ
      have := (fstB_spec h1).1
      exact ⟨fun c3 => absurd c3 (nI_ne_m1 (by omega)), fun _ => hQ σ hC.rf⟩
    | none =>
      rw [h1] at hQ
      dsimp only at hQ
      refine ⟨fun _ => ?_, fun c3 => absurd rfl c3⟩
      refine SpI.of pnX11 (Nat.le_of_ble_eq_true rfl) (vX11_pageToRead_0 (lp_pageTo hw hF hC hK hO hq hfew (fun s hA => ?_) (nP π) 0 σ (Nat.zero_add _) hC.rf))
      cases h2 : (nxP π κ q few (nP π)).1 with
      | some p =>
        rw [h2] at hQ
        have := nxP_lt h2
        refine ⟨fun c3 => absurd c3 (nI_ne_m1 (by omega)), fun _ => ?_⟩
        have e100 : (100 : Int32) + nI p = nI (100 + p) := nI_add 100 p
        show Q ((100 : Int32) + nI p) s
        rw [e100]
        exact hQ s hA
      | none =>
        rw [h2] at hQ
        dsimp only at hQ
        refine ⟨fun _ => ?_, fun c3 => absurd rfl c3⟩
        exact SpI.of pnX11 (Nat.le_of_ble_eq_true rfl) (vX11_lessonToTake_0 (lp_mayC hw hF hA.2 (hK.ask hC hA) hq (hQ s hA) (nL π) 0 (Nat.zero_add _) rfl))
  · have c2' : inB y 17 = false := by simpa using c2
    rw [c2'] at hQ
    exact hQ σ hC.rf
theorem tot_48 {p : Nat} (hF : WF π) (hp : p < nP π) : ∀ q, totN π κ p q ≤ 16 * q
  | 0 => Nat.le_refl _
  | q + 1 => by
    have h1 := tot_48 hF hp q
    have h2 := mt_16 (κ := κ) (q := q) hF hp
    show totN π κ p q + (mtS π κ q p).1 ≤ _
    omega
def faC (π : PV) (κ : KV) (r : Option Nat) : Nat := match r with
  | none => 49
  | some b => totS π κ b
theorem lp_all38 {Q : Int32 → St → Prop} {σ0 : St} {p : Nat} {x1 x2 : Int32} (hw : RunW w) (hF : WF π) (hC0 : CP σ0 P π) (hK0 : KR σ0 320 κ) (hO : KOK π κ) (hp : p < nP π)
    (hX : ∀ s, AskC P π σ0 s → AI Γ (d + 4) mX11_forAll w Q 38 [(0, .ref 0), (1, .int x1), (2, .int x2), (3, .int (nI p)), (4, .int (nI (totS π κ p))), (5, .ref 321), (6, .int (nI 3)), (7, .int (nI 3))] s) :
    ∀ r q s, q + r = 3 → AskC P π σ0 s → AI Γ (d + 4) mX11_forAll w Q 38 [(0, .ref 0), (1, .int x1), (2, .int x2), (3, .int (nI p)), (4, .int (nI (totN π κ p q))), (5, .ref 321), (6, .int (nI 3)), (7, .int (nI q))] s := by
  intro r
  induction r with
  | zero =>
    intro q s hq hA
    have : q = 3 := hq
    subst this
    exact hX s hA
  | succ r ih =>
    intro q s hq hA
    have k321 : kd 321 = (26, 3) := by decide +kernel
    have hE : w.2 321 (nI q).toNatClampNeg = some (322 + 7 * q) := by
      rw [cl (by omega)]
      exact (pu0 hw (by omega)).2.2.2.2.2
    refine vX11_forAll_38 hw hE (lo_ hw (by decide)) (k24 k321 (by decide)) (k28 k321 (by decide)) ⟨fun c => absurd c (nI_ge (by omega) (by omega)), fun _ => ⟨vk k321 (by omega), c_unkFor hw hF hA.2 (hK0.ask hC0 hA) hO (by omega) hp fun s1 z => ?_⟩⟩
    rw [nI_add, nI_1]
    exact ih (q + 1) s1 (by omega) (hA.tr z)
theorem lp_all7 {Q : Int32 → St → Prop} {σ0 : St} (hw : RunW w) (hF : WF π) (hC0 : CP σ0 P π) (hK0 : KR σ0 320 κ) (hO : KOK π κ) (hQ : ∀ s, AskC P π σ0 s → Q (A_forAll π κ) s) :
    ∀ r p s, p + r = nP π → AskC P π σ0 s → AI Γ (d + 4) mX11_forAll w Q 7 [(0, .ref 0), (1, .int (bI (faF π κ p))), (2, .int (nI (faC π κ (faF π κ p)))), (3, .int (nI p))] s := by
  have hP := hC0.2.1
  have h8 := hF.1.2.2.2.2
  have k321 : kd 321 = (26, 3) := by decide +kernel
  intro r
  induction r with
  | zero =>
    intro p s hp hA
    have : p = nP π := hp
    subst this
    refine vX11_forAll_7 hw hA.2.1 (prO hw hP) ?_
    rw [(wP hA.2.2.2.1 hF).2.2.2]
    exact ⟨fun _ => hQ s hA, fun c => absurd (nI_le (Nat.le_refl _) (by omega)) c⟩
  | succ r ih =>
    intro p s hp hA
    refine vX11_forAll_7 hw hA.2.1 (prO hw hP) ?_
    rw [(wP hA.2.2.2.1 hF).2.2.2, k321]
    refine ⟨fun c => absurd c (nI_ge (by omega) (by omega)), fun _ => ?_⟩
    refine lp_all38 hw hF hC0 hK0 hO (by omega) (fun s1 hA1 => ?_) 3 0 s rfl hA
    have nx := ih (p + 1) s1 (by omega) hA1
    have t1 := tot_48 (κ := κ) hF (show p < nP π by omega) 3
    have t1' : totS π κ p ≤ 48 := t1
    have st : faF π κ (p + 1) = (match faF π κ p with
      | none => some p
      | some b => if totS π κ b ≤ totS π κ p then some b else some p) := rfl
    have hE : w.2 321 (nI 3).toNatClampNeg = some (puA 3) := puE hw 3
    have k49 : faC π κ (faF π κ p) ≤ 49 := by
      cases hb : faF π κ p with
      | none => exact Nat.le_refl _
      | some b =>
        have hb' := faF_lt hb
        have := tot_48 (κ := κ) hF (show b < nP π by omega) 3
        show totS π κ b ≤ 49
        have e : totS π κ b = totN π κ b 3 := rfl
        omega
    refine vX11_forAll_38 hw hE (lo_ hw (by decide)) (k24 k321 (by decide)) (k28 k321 (by decide)) ⟨fun _ => ?_, fun c => absurd (Int32.le_refl _) c⟩
    rw [nI_leI (by omega) (by omega), nI_1]
    cases hb : faF π κ p with
    | none =>
      rw [st, hb] at nx
      refine ⟨fun c => ?_, fun _ => nx⟩
      have : (49 : Nat) ≤ totS π κ p := c
      omega
    | some b =>
      rw [st, hb] at nx
      dsimp only at nx
      refine ⟨fun c => ?_, fun c => ?_⟩
      · have c' : totS π κ b ≤ totS π κ p := c
        rw [if_pos c'] at nx
        exact nx
      · have c' : ¬ totS π κ b ≤ totS π κ p := c
        rw [if_neg c'] at nx
        exact nx
theorem C_forAll {Q : Int32 → St → Prop} {σ : St} (hw : RunW w) (hF : WF π) (hC : CP σ P π) (hK : KR σ 320 κ) (hO : KOK π κ) (hQ : ∀ σ', AskC P π σ σ' → Q (A_forAll π κ) σ') : SpI Γ (d + 4) mX11_forAll [.ref 0] σ w Q :=
  SpI.of pnX11 (Nat.le_of_ble_eq_true rfl) (vX11_forAll_0 (lp_all7 hw hF hC hK hO hQ (nP π) 0 σ (Nat.zero_add _) hC.rf))
end CT2
