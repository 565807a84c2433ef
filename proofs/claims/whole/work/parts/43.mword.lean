/-! the reference reads its text: words -/
theorem AgR.word {D : PV} {t : Tx} {σ σ' : St} {b n : Nat} {ss : List Int32} (hD : DOK D) (h : AgR σ D) (hF : Fr (scE D 29) σ σ') (hn : n ≤ 8) (hs : ss.length ≤ 8) (h29 : gI σ' 390 29 = nI (nW D + 1)) (h1 : gI σ' 408 (nW D) = nI n) (h3 : gI σ' 410 (nW D) = nI ss.length) (h2 : ∀ j, j < n → gI σ' 409 (8 * nW D + j) = nI (t.2 (b + j) - 97)) (h4 : ∀ j, j < ss.length → gI σ' 411 (8 * nW D + j) = ss.getD j 0) : AgR σ' (adW t D b n ss) := by
  obtain ⟨⟨n1, n2, n3, n4⟩, h5⟩ := h
  obtain ⟨b1, b2, b3, b4⟩ := h5.fr hD hF
  have e := adW_n (t := t) (D := D) (b := b) (n := n) (ss := ss) hD.nW
  refine ⟨⟨(hF.1 _ _ (scE_n (by omega) (by decide))).trans n1, by rw [e]; exact h29, (hF.1 _ _ (scE_n (by omega) (by decide))).trans n3, (hF.1 _ _ (scE_n (by omega) (by decide))).trans n4⟩, b1, fun k hk => ?_, b3, b4⟩
  rw [e] at hk
  by_cases q : k = nW D
  · subst q
    have e5 : adW t D b n ss 5 (nW D) 0 = nI n := if_pos rfl
    have e5' : wS (adW t D b n ss) (nW D) = n := by
      show (adW t D b n ss 5 (nW D) 0).toNatClampNeg = n
      rw [e5, cl (by omega)]
    have e7 : adW t D b n ss 7 (nW D) 0 = nI ss.length := if_pos rfl
    have e7' : wN (adW t D b n ss) (nW D) = ss.length := by
      show (adW t D b n ss 7 (nW D) 0).toNatClampNeg = _
      rw [e7, cl (by omega)]
    have e6 : ∀ j, adW t D b n ss 6 (nW D) j = nI (t.2 (b + j) - 97) := fun j => if_pos rfl
    have e8 : ∀ j, adW t D b n ss 8 (nW D) j = ss.getD j 0 := fun j => if_pos rfl
    rw [e5', e5, e7', e7]
    exact ⟨h1, h3, fun j hj => by rw [e6]; exact h2 j hj, fun j hj => by rw [e8]; exact h4 j hj⟩
  · have e5 : adW t D b n ss 5 k 0 = D 5 k 0 := if_neg q
    have e5' : wS (adW t D b n ss) k = wS D k := congrArg Int32.toNatClampNeg e5
    have e7 : adW t D b n ss 7 k 0 = D 7 k 0 := if_neg q
    have e7' : wN (adW t D b n ss) k = wN D k := congrArg Int32.toNatClampNeg e7
    have e6 : ∀ j, adW t D b n ss 6 k j = D 6 k j := fun j => if_neg q
    have e8 : ∀ j, adW t D b n ss 8 k j = D 8 k j := fun j => if_neg q
    rw [e5', e5, e7', e7]
    obtain ⟨c1, c2, c3, c4⟩ := b2 k (by omega)
    exact ⟨c1, c2, fun j hj => by rw [e6]; exact c3 j hj, fun j hj => by rw [e8]; exact c4 j hj⟩
section PWD
variable {Γ : Gx} {d : Nat} {w : Wd} {t : Tx}
theorem lp_wordOf37 {Q : Int32 → St → Prop} {D : PV} {b e v : Nat} {σ : St} (hw : RunW w) (ht : TxOK t) (hD : DOK D) (hT : TM σ t) (hR : AgR σ D) (hbe : b ≤ e) (he : e ≤ t.1) (hl : ∀ i, b ≤ i → i < e → zL (t.2 i) = true) (hv : v < nW D)
    (hX : AI Γ d mX12_wordOf w Q 5 [(0, .ref 390), (1, .int (nI b)), (2, .int (nI e)), (3, .int (bI (wOf t D b e (v + 1)))), (4, .int (nI (v + 1)))] σ) :
    ∀ n i, i + n = e - b → AI Γ d mX12_wordOf w Q 37 [(0, .ref 390), (1, .int (nI b)), (2, .int (nI e)), (3, .int (bI (wOf t D b e v))), (4, .int (nI v)), (5, .int (b2i (decide (wS D v = e - b) && allB (fun i => D 6 v i == nI (t.2 (b + i) - 97)) i))), (6, .int (nI i))] σ := by
  have h6 := ht.1
  have h24 := hD.nW
  obtain ⟨w1, w2, w3, -⟩ := hD.1.2.2.1 v hv
  obtain ⟨r1, -, r3, -⟩ := hR.2.2.1 v hv
  have stp : wOf t D b e (v + 1) = if mtW t D b e v then some v else wOf t D b e v := rfl
  have es : nI e - nI b = nI (e - b) := pk_sub hbe
  have hno : mtW t D b e v = false → AI Γ d mX12_wordOf w Q 5 [(0, .ref 390), (1, .int (nI b)), (2, .int (nI e)), (3, .int (bI (wOf t D b e v))), (4, .int (nI v + 1))] σ := by
    intro q
    rw [stp, q] at hX
    rw [nI_1]
    exact hX
  intro n
  induction n with
  | zero =>
    intro i hi
    have : i = e - b := hi
    subst this
    refine vX12_wordOf_37 hw ?_
    rw [es, b2i_n0, b2i_0]
    refine ⟨fun _ => ⟨fun c => hno c, fun c => ?_⟩, fun c => absurd (nI_le (Nat.le_refl _) (by omega)) c⟩
    have c' : mtW t D b e v = true := c
    rw [stp, c'] at hX
    rw [nI_1]
    exact hX
  | succ n ih =>
    intro i hi
    refine vX12_wordOf_37 hw ?_
    rw [es, b2i_n0, b2i_0]
    refine ⟨fun c => absurd c (nI_ge (by omega) (by omega)), fun _ => ⟨fun c => ⟨fun _ => hno ?_, fun c2 => absurd c (by rw [c2]; decide)⟩, fun c => ?_⟩⟩
    · unfold mtW
      cases hs : decide (wS D v = e - b) with
      | false => rfl
      | true =>
        rw [hs, Bool.true_and] at c
        exact allB_false c (by omega)
    · rw [Bool.and_eq_true, decide_eq_true_eq] at c
      have hlt : i < e - b := by omega
      have hz := hl (b + i) (by omega) (by omega)
      have hc : 97 ≤ t.2 (b + i) := by
        unfold zL at hz
        simp only [Bool.and_eq_true, decide_eq_true_eq] at hz
        exact hz.1
      have ix : (8 : Int32) * nI v + nI i = nI (8 * v + i) := ixm 8 v i
      have e97 : nI (t.2 (b + i)) - 97 = nI (t.2 (b + i) - 97) := pk_sub (b := 97) hc
      rw [ix, nI_add, cl (by omega), cl (by omega), hT.2 _ (by omega), r3 i (by omega), e97]
      have nx := ih (i + 1) (by omega)
      have sp : allB (fun i => D 6 v i == nI (t.2 (b + i) - 97)) (i + 1) = (D 6 v i == nI (t.2 (b + i) - 97)) := by
        show (allB _ i && _) = _
        rw [c.2, Bool.true_and]
      rw [sp, decide_eq_true c.1, Bool.true_and] at nx
      rw [nI_1]
      refine ⟨vin (by omega), vin (by omega), fun q => ?_, fun q => ?_⟩
      · rw [show (D 6 v i == nI (t.2 (b + i) - 97)) = false by simpa using q] at nx
        exact nx
      · rw [show (D 6 v i == nI (t.2 (b + i) - 97)) = true by simpa using q] at nx
        exact nx
theorem lp_wordOf5 {Q : Int32 → St → Prop} {D : PV} {b e : Nat} {σ : St} (hw : RunW w) (ht : TxOK t) (hD : DOK D) (hT : TM σ t) (hR : AgR σ D) (hbe : b ≤ e) (he : e ≤ t.1) (hl : ∀ i, b ≤ i → i < e → zL (t.2 i) = true) (hQ : Q (bI (wOf t D b e (nW D))) σ) :
    ∀ n v, v + n = nW D → AI Γ d mX12_wordOf w Q 5 [(0, .ref 390), (1, .int (nI b)), (2, .int (nI e)), (3, .int (bI (wOf t D b e v))), (4, .int (nI v))] σ := by
  have h6 := ht.1
  have h24 := hD.nW
  have es : nI e - nI b = nI (e - b) := pk_sub hbe
  intro n
  induction n with
  | zero =>
    intro v hv
    have : v = nW D := hv
    subst this
    refine vX12_wordOf_5 hw ?_
    rw [hR.1.2.1]
    exact ⟨fun _ => hQ, fun c => absurd (nI_le (Nat.le_refl _) (by omega)) c⟩
  | succ n ih =>
    intro v hv
    obtain ⟨w1, w2, w3, -⟩ := hD.1.2.2.1 v (by omega)
    obtain ⟨r1, -⟩ := hR.2.2.1 v (by omega)
    have go := lp_wordOf37 hw ht hD hT hR hbe he hl (by omega) (ih (v + 1) (by omega)) (e - b) 0 (Nat.zero_add _)
    rw [show allB (fun i => D 6 v i == nI (t.2 (b + i) - 97)) 0 = true from rfl, Bool.and_true] at go
    refine vX12_wordOf_5 hw ?_
    rw [hR.1.2.1, cl (by omega), r1, w1, es, nI_eq (by omega) (by omega)]
    refine ⟨fun c => absurd c (nI_ge (by omega) (by omega)), fun _ => ⟨vin (by omega), fun c => ?_, fun c => ?_⟩⟩
    · rw [decide_eq_false c] at go
      exact go
    · rw [decide_eq_true c] at go
      exact go
theorem c_wordOf {Q : Int32 → St → Prop} {D : PV} {b e : Nat} {σ : St} (hw : RunW w) (ht : TxOK t) (hD : DOK D) (hT : TM σ t) (hR : AgR σ D) (hbe : b ≤ e) (he : e ≤ t.1) (hl : ∀ i, b ≤ i → i < e → zL (t.2 i) = true) (hQ : Q (bI (wOf t D b e (nW D))) σ) : SpI Γ d mX12_wordOf [.ref 390, .int (nI b), .int (nI e)] σ w Q :=
  SpI.of pnX12 (Nat.le_of_ble_eq_true rfl) (vX12_wordOf_0 (lp_wordOf5 hw ht hD hT hR hbe he hl hQ (nW D) 0 (Nat.zero_add _)))
theorem wOf_lt {D : PV} {b e n : Nat} : ∀ m, wOf t D b e n = some m → m < n := fun _ h => (wOf_some h).1
theorem lp_w159 {Q : Int32 → St → Prop} {D : PV} {fr a0 : Nat} {σ0 : St} (hw : RunW w) (ht : TxOK t) (hD : DOK D) (h24 : nW D ≠ 24) (ha0 : a0 ≤ t.1) (hR : AgR σ0 D) (h8 : zE t a0 - sk t a0 ≤ 8)
    (hz : zWord t D fr a0 = (match zSnds t 601 (zE t a0) [] with | .inl f => .inl f | .inr x => .inr (x.1, adW t D (sk t a0) (zE t a0 - sk t a0) x.2)))
    (q1 : ∀ f σ', zWord t D fr a0 = .inl f → Fr scQ σ0 σ' → gI σ' 390 18 = nI f.2 → Q (nI f.1) σ')
    (q2 : ∀ x σ', zWord t D fr a0 = .inr x → Fr (scE D 29) σ0 σ' → gI σ' 390 19 = nI x.1 → AgR σ' x.2 → Q 0 σ') :
    ∀ f a ss s, t.1 < a + f → a ≤ t.1 → ss.length ≤ 8 → Fr (scE D 29) σ0 s → TM s t → gI s 390 19 = nI a → gI s 390 29 = nI (nW D) → gI s 408 (nW D) = nI (zE t a0 - sk t a0) → gI s 410 (nW D) = nI ss.length → (∀ j, j < zE t a0 - sk t a0 → gI s 409 (8 * nW D + j) = nI (t.2 (sk t a0 + j) - 97)) → (∀ j, j < ss.length → gI s 411 (8 * nW D + j) = ss.getD j 0) → zSnds t f a ss = zSnds t 601 (zE t a0) [] → AI Γ (d + 2) mX12_takeWord w Q 159 [(0, .ref 390), (3, .int (nI (nW D))), (4, .int 1)] s := by
  have h6 := ht.1
  have hn := hD.nW
  have hk : vp_in (nI (nW D)) 24 := vin (by omega)
  have pE : ∀ {σ σ' : St}, Fr scP σ σ' → Fr (scE D 29) σ σ' := fun h => h.mono (fun o k q => scD_E o k (scP_D o k q))
  intro f
  induction f with
  | zero => intro a ss s h1 h2; omega
  | succ f ih =>
    intro a ss s h1 ha hss hF hT h19 h29 h408 h410 hL hS heq
    rw [← heq] at hz
    refine vX12_takeWord_159 hw ⟨fun c => absurd c (by decide), fun _ => c_takeNumber (bd := 30) hw ht ha x29 hT h19 (fun g s1 z1 z2 z3 => ?_) (fun x s1 z1 z2 z3 z4 z5 => ?_)⟩
    · have hk1 := (zNum_er z1).1
      have e1 : zSnds t (f + 1) a ss = .inl g := by
        unfold zSnds
        rw [z1]
      rw [e1] at hz
      refine ⟨fun c2 => absurd c2 ?_, fun _ => q1 g s1 hz ((hF.mono (scE_Q (by omega))).tr z2) z3⟩
      rcases hk1 with q | q <;> rw [q] <;> decide
    · obtain ⟨b1, b2, b3, b4, -⟩ := zNum_ok z1 ha
      have b5 := sk_ge t x.1
      have b6 := sk_le b4
      have e1 : zSnds t (f + 1) a ss = if ss.length = 8 then .inl (4, sk t a) else if zP zD t (sk t x.1) then zSnds t f (sk t x.1) (ss ++ [nI x.2]) else .inr (sk t x.1, ss ++ [nI x.2]) := by
        show (match zNum t 30 a with | .inl x => _ | .inr x => _) = _
        rw [z1]
      have g410 : gI s1 410 (nW D) = nI ss.length := (z2.1 _ _ (by simp [scP])).trans h410
      have l8 : nI ss.length = 8 ↔ ss.length = 8 := nI_eq (b := 8) (by omega) (by decide)
      have ix : (8 : Int32) * nI (nW D) + nI ss.length = nI (8 * nW D + ss.length) := ixm 8 (nW D) ss.length
      refine ⟨fun _ => ⟨hk, ?_⟩, fun c => absurd (by decide) c⟩
      rw [cl (n := nW D) (by omega), g410, l8, ix, z4, nI_1]
      refine ⟨fun c8 => ⟨hk, vin (by omega), hk, hk, ?_⟩, fun c8 => c_fails hw ?_⟩
      · rw [cl (n := 8 * nW D + ss.length) (by omega)]
        rw [if_neg c8] at e1
        have hFb : Fr (scE D 29) s1 (uI (uI s1 411 (8 * nW D + ss.length) (nI x.2)) 410 (nW D) (nI (ss.length + 1))) := (fr_I (by simp [scE, scD])).tr (fr_I (by simp [scE, scD]))
        have hTb : TM (uI (uI s1 411 (8 * nW D + ss.length) (nI x.2)) 410 (nW D) (nI (ss.length + 1))) t := (hT.p z2).fr (scE_T (by decide)) hFb
        refine c_here hw ht b4 hTb (by rw [gI_uI, if_neg (by omega), gI_uI, if_neg (by omega)]; exact z3) fun s2 y1 y2 => c_hD ht ?_
        have hF2 : Fr (scE D 29) σ0 s2 := hF.tr ((pE z2).tr (hFb.tr (pE (y1.mono scA_P))))
        have hT2 : TM s2 t := hTb.p (y1.mono scA_P)
        have g29 : gI s2 390 29 = nI (nW D) := by
          rw [y1.1 _ _ (by decide), gI_uI, if_neg (by omega), gI_uI, if_neg (by omega), z2.1 _ _ (by decide)]
          exact h29
        have g408 : gI s2 408 (nW D) = nI (zE t a0 - sk t a0) := by
          rw [y1.1 _ _ (by simp [scA]), gI_uI, if_neg (by omega), gI_uI, if_neg (by omega), z2.1 _ _ (by simp [scP])]
          exact h408
        have hlen : (ss ++ [nI x.2]).length = ss.length + 1 := by rw [List.length_append]; rfl
        have g410' : gI s2 410 (nW D) = nI (ss ++ [nI x.2]).length := by
          rw [y1.1 _ _ (by simp [scA]), gI_uI, if_pos ⟨rfl, rfl⟩, hlen]
        have gL : ∀ j, j < zE t a0 - sk t a0 → gI s2 409 (8 * nW D + j) = nI (t.2 (sk t a0 + j) - 97) := by
          intro j hj
          rw [y1.1 _ _ (by simp [scA]), gI_uI, if_neg (by omega), gI_uI, if_neg (by omega), z2.1 _ _ (by simp [scP])]
          exact hL j hj
        have gS : ∀ j, j < (ss ++ [nI x.2]).length → gI s2 411 (8 * nW D + j) = (ss ++ [nI x.2]).getD j 0 := by
          intro j hj
          rw [hlen] at hj
          rw [y1.1 _ _ (by simp [scA]), gI_uI, if_neg (by omega), gI_uI]
          by_cases ej : j = ss.length
          · subst ej
            rw [if_pos ⟨rfl, rfl⟩]
            simp
          · rw [if_neg (by omega), z2.1 _ _ (by simp [scP]), hS j (by omega)]
            simp [List.getElem?_append_left (show j < ss.length by omega)]
        cases hm : zP zD t (sk t x.1) with
        | true =>
          rw [hm] at e1
          exact ih (sk t x.1) (ss ++ [nI x.2]) s2 (by omega) b6 (by omega) hF2 hT2 y2 g29 g408 g410' gL gS (e1.symm.trans heq)
        | false =>
          rw [hm] at e1
          have e1' : zSnds t (f + 1) a ss = .inr (sk t x.1, ss ++ [nI x.2]) := e1
          rw [e1'] at hz
          dsimp only at hz
          refine vX12_takeWord_159 hw ⟨fun _ => ?_, fun c => absurd rfl c⟩
          have hF3 : Fr (scE D 29) σ0 (uI s2 390 29 (gI s2 390 29 + 1)) := hF2.tr (fr_I (by simp [scE]))
          refine q2 _ _ hz hF3 (by rw [gI_uI, if_neg (by decide)]; exact y2) (hR.word hD hF3 h8 (by omega) (by rw [gI_uI, if_pos ⟨rfl, rfl⟩, g29, nI_1]) (by rw [gI_uI, if_neg (by omega)]; exact g408) (by rw [gI_uI, if_neg (by omega)]; exact g410') (fun j hj => by rw [gI_uI, if_neg (by omega)]; exact gL j hj) (fun j hj => by rw [gI_uI, if_neg (by omega)]; exact gS j hj))
      · rw [if_pos c8] at e1
        rw [e1] at hz
        refine q1 (4, sk t a) _ hz (((hF.tr (pE z2)).mono (scE_Q (by omega))).tr (fr_I (by decide))) ?_
        rw [gI_uI, if_pos ⟨rfl, rfl⟩]
        exact z5
theorem lp_w100 {Q : Int32 → St → Prop} {D : PV} {a0 : Nat} {σ0 : St} (hw : RunW w) (ht : TxOK t) (hD : DOK D) (h24 : nW D ≠ 24) (ha0 : a0 ≤ t.1) (h8 : zE t a0 - sk t a0 ≤ 8)
    (hX : ∀ s, Fr (scE D 29) σ0 s → TM s t → gI s 390 19 = nI (zE t a0) → gI s 390 29 = nI (nW D) → gI s 408 (nW D) = nI (zE t a0 - sk t a0) → gI s 410 (nW D) = 0 → (∀ j, j < zE t a0 - sk t a0 → gI s 409 (8 * nW D + j) = nI (t.2 (sk t a0 + j) - 97)) → AI Γ (d + 2) mX12_takeWord w Q 159 [(0, .ref 390), (3, .int (nI (nW D))), (4, .int 1)] s) :
    ∀ n i s, i + n = zE t a0 - sk t a0 → Fr (scE D 29) σ0 s → TM s t → gI s 390 21 = nI (zE t a0) → gI s 390 29 = nI (nW D) → gI s 408 (nW D) = nI (zE t a0 - sk t a0) → (∀ j, j < i → gI s 409 (8 * nW D + j) = nI (t.2 (sk t a0 + j) - 97)) → AI Γ (d + 2) mX12_takeWord w Q 100 [(0, .ref 390), (2, .int (nI (sk t a0))), (3, .int (nI (nW D))), (4, .int (nI i))] s := by
  have h6 := ht.1
  have hn := hD.nW
  have hk : vp_in (nI (nW D)) 24 := vin (by omega)
  have e1 := zE_le ha0
  have e2 := zE_ge t a0
  intro n
  induction n with
  | zero =>
    intro i s hi hF hT h21 h29 h408 hL
    have : i = zE t a0 - sk t a0 := hi
    subst this
    refine vX12_takeWord_100 hw ⟨hk, ?_⟩
    rw [cl (n := nW D) (by omega), h408, h21]
    refine ⟨fun _ => ⟨hk, ?_⟩, fun c => absurd (nI_le (Nat.le_refl _) (by omega)) c⟩
    have hFb : Fr (scE D 29) s (uI (uI s 390 19 (nI (zE t a0))) 410 (nW D) 0) := (fr_I (by simp [scE, scD, scP])).tr (fr_I (by simp [scE, scD]))
    refine hX _ (hF.tr hFb) (hT.fr (scE_T (by decide)) hFb) ?_ ?_ ?_ ?_ (fun j hj => ?_)
    · rw [gI_uI, if_neg (by omega), gI_uI, if_pos ⟨rfl, rfl⟩]
    · rw [gI_uI, if_neg (by omega), gI_uI, if_neg (by decide)]; exact h29
    · rw [gI_uI, if_neg (by omega), gI_uI, if_neg (by omega)]; exact h408
    · rw [gI_uI, if_pos ⟨rfl, rfl⟩]
    · rw [gI_uI, if_neg (by omega), gI_uI, if_neg (by omega)]; exact hL j hj
  | succ n ih =>
    intro i s hi hF hT h21 h29 h408 hL
    refine vX12_takeWord_100 hw ⟨hk, ?_⟩
    have hz := zR_all (p := zL) (t := t) (a := sk t a0) (sk t a0 + i) (by omega) (show sk t a0 + i < zE t a0 by omega)
    have hc : 97 ≤ t.2 (sk t a0 + i) := by
      unfold zL at hz
      simp only [Bool.and_eq_true, decide_eq_true_eq] at hz
      exact hz.1
    have ix : (8 : Int32) * nI (nW D) + nI i = nI (8 * nW D + i) := ixm 8 (nW D) i
    have e97 : nI (t.2 (sk t a0 + i)) - 97 = nI (t.2 (sk t a0 + i) - 97) := pk_sub (b := 97) hc
    rw [cl (n := nW D) (by omega), h408, nI_add, ix, cl (n := sk t a0 + i) (by omega), cl (n := 8 * nW D + i) (by omega), hT.2 _ (by omega), e97, nI_1]
    refine ⟨fun c => absurd c (nI_ge (by omega) (by omega)), fun _ => ⟨vin (by omega), vin (by omega), ?_⟩⟩
    have hFb : Fr (scE D 29) s (uI s 409 (8 * nW D + i) (nI (t.2 (sk t a0 + i) - 97))) := fr_I (by simp [scE, scD])
    refine ih (i + 1) _ (by omega) (hF.tr hFb) (hT.fr (scE_T (by decide)) hFb) (by rw [gI_uI, if_neg (by omega)]; exact h21) (by rw [gI_uI, if_neg (by omega)]; exact h29) (by rw [gI_uI, if_neg (by omega)]; exact h408) (fun j hj => ?_)
    rw [gI_uI]
    by_cases ej : j = i
    · subst ej; rw [if_pos ⟨rfl, rfl⟩]
    · rw [if_neg (by omega)]; exact hL j (by omega)
theorem c_takeWord {Q : Int32 → St → Prop} {D : PV} {fr a : Nat} {σ : St} (hw : RunW w) (ht : TxOK t) (hD : DOK D) (ha : a ≤ t.1) (hT : TM σ t) (hA : gI σ 390 19 = nI a) (hR : AgR σ D)
    (q1 : ∀ f σ', zWord t D fr a = .inl f → Fr scQ σ σ' → gI σ' 390 18 = nI f.2 → Q (nI f.1) σ')
    (q2 : ∀ x σ', zWord t D fr a = .inr x → Fr scR σ σ' → gI σ' 390 19 = nI x.1 → AgR σ' x.2 → Q 0 σ') : SpI Γ (d + 2) mX12_takeWord [.ref 390, .int (nI fr)] σ w Q := by
  have h6 := ht.1
  have hn := hD.nW
  have e1 := zE_le ha
  have e2 := zE_ge t a
  have toR : ∀ {σ' : St}, Fr (scE D 29) σ σ' → Fr scR σ σ' := fun h => h.mono (scE_R (Or.inr (Or.inl rfl)))
  refine SpI.of pnX12 (Nat.le_of_ble_eq_true rfl) (vX12_takeWord_0 hw ?_)
  have l24 : nI (nW D) = 24 ↔ nW D = 24 := nI_eq (b := 24) (by omega) (by decide)
  rw [hR.1.2.1, l24]
  refine ⟨fun c => c_readWord hw ht ha hT hA fun s hs hW => ?_, fun c => c_fails hw ?_⟩
  · have hFs : Fr (scE D 29) σ s := hs.mono (fun o k q => scD_E o k (scP_D o k (scW_P o k q)))
    have hTs : TM s t := hT.p (hs.mono scW_P)
    have hRs : AgR s D := hR.d hD (hs.mono (fun o k q => scP_D o k (scW_P o k q)))
    rw [hW.1, hW.2.1, nI_eq (by omega) (by omega)]
    refine ⟨fun c2 => c_wordOf hw ht hD hTs hRs e2 e1 (fun i => zR_all i) ?_, fun c2 => c_fails hw ?_⟩
    · rw [hW.2.1, pk_sub e2, hRs.1.2.1, bI_neg (fun m h => by have := wOf_lt m h; omega)]
      have l8 : nI (zE t a - sk t a) ≤ 8 ↔ zE t a - sk t a ≤ 8 := nI_leI (b := 8) (by omega) (by decide)
      rw [l8, cl (by omega)]
      refine ⟨fun c3 => ⟨fun c4 => ⟨vin (by omega), ?_⟩, fun c4 => c_fails hw ?_⟩, fun c3 => c_fails hw ?_⟩
      · have hz : zWord t D fr a = (match zSnds t 601 (zE t a) [] with | .inl f => .inl f | .inr x => .inr (x.1, adW t D (sk t a) (zE t a - sk t a) x.2)) := by
          unfold zWord
          rw [if_neg c, if_neg c2, c3]
          dsimp only
          rw [if_neg (by omega)]
          rfl
        have hFb : Fr (scE D 29) s (uI s 408 (nW D) (nI (zE t a - sk t a))) := fr_I (by simp [scE, scD])
        refine lp_w100 hw ht hD c ha c4 (fun s2 z1 z2 z3 z4 z5 z6 z7 => ?_) (zE t a - sk t a) 0 _ (Nat.zero_add _) (hFs.tr hFb) (hTs.fr (scE_T (by decide)) hFb) (by rw [gI_uI, if_neg (by omega)]; exact hW.2.1) (by rw [gI_uI, if_neg (by omega)]; exact hRs.1.2.1) (by rw [gI_uI, if_pos ⟨rfl, rfl⟩]) (fun j hj => absurd hj (Nat.not_lt_zero j))
        exact lp_w159 (fr := fr) hw ht hD c ha hR c4 hz (fun f s' g1 g2 g3 => q1 f s' g1 g2 g3) (fun x s' g1 g2 g3 g4 => q2 x s' g1 (toR g2) g3 g4) 601 (zE t a) [] s2 (by omega) e1 (by decide) z1 z2 z3 z4 z5 z6 z7 (fun j hj => absurd hj (Nat.not_lt_zero j)) rfl
      · have e8 : nI (sk t a) + 8 = nI (sk t a + 8) := nI_add _ 8
        refine q1 (4, sk t a + 8) _ ?_ ((hFs.mono (scE_Q (by omega))).tr (fr_I (by decide))) (by rw [gI_uI, if_pos ⟨rfl, rfl⟩, e8])
        unfold zWord
        rw [if_neg c, if_neg c2, c3]
        dsimp only
        rw [if_pos (by omega)]
      · refine q1 (5, sk t a) _ ?_ ((hFs.mono (scE_Q (by omega))).tr (fr_I (by decide))) (by rw [gI_uI, if_pos ⟨rfl, rfl⟩])
        unfold zWord
        rw [if_neg c, if_neg c2]
        cases hwo : wOf t D (sk t a) (zE t a) (nW D) with
        | none => exact absurd hwo c3
        | some v => rfl
    · refine q1 (1, sk t a) _ ?_ ((hFs.mono (scE_Q (by omega))).tr (fr_I (by decide))) (by rw [gI_uI, if_pos ⟨rfl, rfl⟩])
      unfold zWord
      rw [if_neg c, if_pos c2]
  · refine q1 (3, fr) _ ?_ (fr_I (by decide)) (by rw [gI_uI, if_pos ⟨rfl, rfl⟩])
    unfold zWord
    rw [if_pos c]
end PWD
