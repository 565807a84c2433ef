/-! the reference reads its text: clauses, all of it -/
theorem zClause_er {t : Tx} {D : PV} {a : Nat} {f : Er} (ht : TxOK t) (ha : a ≤ t.1) (h : zSemi t (zLesson t D (sk t a) (zE t a)) = .inl f → erOK f) (h2 : zClause t D a = .inl f) : erOK f := by
  have e1 := zE_le ha
  have se : ∀ r : Er ⊕ (Nat × PV), zSemi t r = .inl f → (∀ g, r = .inl g → erOK g) → erOK f := by
    intro r hr hg
    unfold zSemi at hr
    split at hr
    · cases hr; exact hg _ rfl
    · split at hr
      · cases hr
      · cases hr; exact ⟨Nat.le_of_ble_eq_true rfl, Nat.le_of_ble_eq_true rfl⟩
  unfold zClause zBody at h2
  split at h2
  · exact se _ h2 (fun g hg => zSign_er hg)
  · split at h2
    · exact se _ h2 (fun g hg => zWord_er ht e1 hg)
    · split at h2
      · exact h h2
      · split at h2
        · exact se _ h2 (fun g hg => zPage_er ht e1 hg)
        · cases h2
          exact ⟨Nat.le_of_ble_eq_true rfl, Nat.le_of_ble_eq_true rfl⟩
/-- what both programs hold of a primer -/
def AgV (π D : PV) : Prop := (π 0 0 0 = D 0 0 0 ∧ π 0 1 0 = D 0 1 0 ∧ π 0 2 0 = D 0 2 0 ∧ π 0 3 0 = D 0 3 0) ∧ (∀ k, k < nS D → π 1 k 0 = D 1 k 0 ∧ π 3 k 0 = D 3 k 0 ∧ π 4 k 0 = D 4 k 0 ∧ ∀ j, j < sS D k → π 2 k j = D 2 k j) ∧ (∀ v, v < nW D → π 5 v 0 = D 5 v 0 ∧ π 7 v 0 = D 7 v 0 ∧ (∀ j, j < wS D v → π 6 v j = D 6 v j) ∧ ∀ j, j < wN D v → π 8 v j = D 8 v j) ∧ (∀ l, l < nL D → ∀ j, j < 3 → π 9 l j = D 9 l j) ∧ ∀ p, p < nP D → π 10 p 0 = D 10 p 0 ∧ (∀ j, j < pS D p → π 11 p j = D 11 p j) ∧ π 12 p 0 = D 12 p 0
theorem AgV.wf {π D : PV} (h : AgV π D) (hD : WF D) : WF π := by
  obtain ⟨⟨a1, a2, a3, a4⟩, hs, hw, hl, hp⟩ := h
  obtain ⟨⟨n1, n2, n3, n4⟩, dS, dW, dL, dP⟩ := hD
  have e1 : nS π = nS D := congrArg Int32.toNatClampNeg a1
  have e2 : nW π = nW D := congrArg Int32.toNatClampNeg a2
  have e3 : nL π = nL D := congrArg Int32.toNatClampNeg a3
  have e4 : nP π = nP D := congrArg Int32.toNatClampNeg a4
  refine ⟨⟨by rw [a1, e1]; exact n1, by rw [a2, e2]; exact n2, by rw [a3, e3]; exact n3, by rw [a4, e4]; exact n4⟩, fun k hk => ?_, fun v hv => ?_, fun l hl' => ?_, fun p hp' => ?_⟩
  · rw [e1] at hk
    obtain ⟨b1, b2, b3, b4⟩ := hs k hk
    have e : sS π k = sS D k := congrArg Int32.toNatClampNeg b1
    rw [e, b1, b2, b3]
    exact dS k hk
  · rw [e2] at hv
    obtain ⟨b1, b2, b3, b4⟩ := hw v hv
    have e : wS π v = wS D v := congrArg Int32.toNatClampNeg b1
    have e' : wN π v = wN D v := congrArg Int32.toNatClampNeg b2
    rw [e, e', b1, b2]
    obtain ⟨c1, c2, c3, c4, c5, c6, c7⟩ := dW v hv
    exact ⟨c1, c2, c3, c4, c5, c6, fun j hj => by rw [b4 j hj]; exact c7 j hj⟩
  · rw [e3] at hl'
    rw [e1, e2, hl l hl' 0 (by decide), hl l hl' 1 (by decide), hl l hl' 2 (by decide)]
    exact dL l hl'
  · rw [e4] at hp'
    obtain ⟨b1, b2, b3⟩ := hp p hp'
    have e : pS π p = pS D p := congrArg Int32.toNatClampNeg b1
    rw [e, e2, b1, b3]
    obtain ⟨c1, c2, c3, c4, c5⟩ := dP p hp'
    refine ⟨c1, c2, c3, fun i hi => by rw [b2 i hi]; exact c4 i hi, fun v hv => ?_⟩
    rw [c5 v hv]
    constructor
    · rintro ⟨i, hi, q⟩
      exact ⟨i, hi, by rw [b2 i hi]; exact q⟩
    · rintro ⟨i, hi, q⟩
      exact ⟨i, hi, by rw [← b2 i hi]; exact q⟩
theorem AgV.sy {π D : PV} (h : AgV π D) : AgV D π := by
  obtain ⟨⟨a1, a2, a3, a4⟩, hs, hw, hl, hp⟩ := h
  have e1 : nS π = nS D := congrArg Int32.toNatClampNeg a1
  have e2 : nW π = nW D := congrArg Int32.toNatClampNeg a2
  have e3 : nL π = nL D := congrArg Int32.toNatClampNeg a3
  have e4 : nP π = nP D := congrArg Int32.toNatClampNeg a4
  refine ⟨⟨a1.symm, a2.symm, a3.symm, a4.symm⟩, fun k hk => ?_, fun v hv => ?_, fun l hl' j hj => ?_, fun p hp' => ?_⟩
  · rw [e1] at hk
    obtain ⟨b1, b2, b3, b4⟩ := hs k hk
    have e : sS π k = sS D k := congrArg Int32.toNatClampNeg b1
    rw [e]
    exact ⟨b1.symm, b2.symm, b3.symm, fun j hj => (b4 j hj).symm⟩
  · rw [e2] at hv
    obtain ⟨b1, b2, b3, b4⟩ := hw v hv
    have e : wS π v = wS D v := congrArg Int32.toNatClampNeg b1
    have e' : wN π v = wN D v := congrArg Int32.toNatClampNeg b2
    rw [e, e']
    exact ⟨b1.symm, b2.symm, fun j hj => (b3 j hj).symm, fun j hj => (b4 j hj).symm⟩
  · rw [e3] at hl'
    exact (hl l hl' j hj).symm
  · rw [e4] at hp'
    obtain ⟨b1, b2, b3⟩ := hp p hp'
    have e : pS π p = pS D p := congrArg Int32.toNatClampNeg b1
    rw [e]
    exact ⟨b1.symm, fun j hj => (b2 j hj).symm, b3.symm⟩
def scK (o k : Nat) : Bool := (decide (391 ≤ o) && decide (o ≤ 402)) || (o == 390 && (k == 0 || k == 5 || k == 10 || k == 12))
/-- what was copied so far -/
def Kp (σ0 s : St) (n1 n2 n3 n4 n5 : Nat) : Prop := Fr scK σ0 s ∧ (gI s 390 0 = gI σ0 390 24 ∧ gI s 390 5 = gI σ0 390 29 ∧ gI s 390 10 = gI σ0 390 34 ∧ gI s 390 12 = gI σ0 390 36) ∧ (∀ i, i < n1 → gI s 391 i = gI σ0 404 i ∧ gI s 393 i = gI σ0 406 i ∧ gI s 394 i = gI σ0 407 i) ∧ (∀ i, i < n2 → gI s 392 i = gI σ0 405 i) ∧ (∀ i, i < n3 → gI s 395 i = gI σ0 408 i ∧ gI s 397 i = gI σ0 410 i) ∧ (∀ i, i < n4 → gI s 396 i = gI σ0 409 i ∧ gI s 398 i = gI σ0 411 i) ∧ ∀ i, i < n5 → gI s 399 i = gI σ0 412 i
/-- a page's set, word by word -/
def pgF (D : PV) (p : Nat) : Nat → Int32
  | 0 => 0
  | i + 1 => pgF D p i ||| (1 <<< (D 11 p i &&& 31))
theorem b_pgF {D : PV} {p : Nat} (hD : DOK D) (hp : p < nP D) : ∀ n, n ≤ pS D p → ∀ v, v < 32 → (bt (pgF D p n) v = true ↔ ∃ i, i < n ∧ D 11 p i = nI v) := by
  have h24 := hD.nW
  obtain ⟨p1, p2, p3, p4, p5⟩ := hD.1.2.2.2.2 p hp
  intro n
  induction n with
  | zero =>
    intro _ v _
    show bt 0 v = true ↔ _
    rw [b_0]
    exact ⟨fun h => absurd h (by decide), fun ⟨i, hi, _⟩ => absurd hi (Nat.not_lt_zero i)⟩
  | succ n ih =>
    intro hn v hv
    obtain ⟨u, hu, e⟩ := p4 n (by omega)
    show bt (pgF D p n ||| _) v = true ↔ _
    rw [b_or, Bool.or_eq_true, ih (by omega) v hv, e, one_shl (by omega) hv, decide_eq_true_eq]
    constructor
    · rintro (⟨i, hi, q⟩ | q)
      · exact ⟨i, by omega, q⟩
      · exact ⟨n, Nat.lt_succ_self n, by rw [e, q]⟩
    · rintro ⟨i, hi, q⟩
      by_cases ei : i = n
      · subst ei
        rw [e, nI_eq (by omega) (by omega)] at q
        exact Or.inr q.symm
      · exact Or.inl ⟨i, by omega, q⟩
theorem pgF_all {D : PV} {p : Nat} (hD : DOK D) (hp : p < nP D) : pgF D p (pS D p) = D 12 p 0 := by
  obtain ⟨p1, p2, p3, p4, p5⟩ := hD.1.2.2.2.2 p hp
  refine b_ext fun v hv => ?_
  have h1 := b_pgF hD hp (pS D p) (Nat.le_refl _) v hv
  have h2 := p5 v hv
  rw [← h2] at h1
  exact Bool.eq_iff_iff.mpr h1
section PCL
variable {Γ : Gx} {d : Nat} {w : Wd} {t : Tx}
theorem c_semi {Q : Int32 → St → Prop} {D : PV} {a c : Nat} {D' : PV} {σ s : St} (hw : RunW w) (ht : TxOK t) (hz : zClause t D a = zSemi t (.inr (c, D'))) (hc : c ≤ t.1) (hF : Fr scR σ s) (hT : TM s t) (h19 : gI s 390 19 = nI c) (hR : AgR s D') (hD' : DOK D')
    (q1 : ∀ f σ', zClause t D a = .inl f → erOK f → Fr scQ σ σ' → gI σ' 390 18 = nI f.2 → Q (nI f.1) σ')
    (q2 : ∀ x σ', zClause t D a = .inr x → Fr scR σ σ' → gI σ' 390 19 = nI x.1 → AgR σ' x.2 → Q 0 σ') :
    SpI Γ d mX12_here [.ref 390] s w (fun v19 s18 => ((v19 = (59 : Int32) → Q (0 : Int32) (uI s18 390 19 ((gI s18 390 19) + (1 : Int32)))) ∧ (¬ v19 = (59 : Int32) → SpI Γ d mX12_fails [.ref 390, .int (1 : Int32), .int (gI s18 390 19)] s18 w (fun v21 s20 => Q v21 s20)))) := by
  refine c_here hw ht hc hT h19 fun s1 y1 y2 => ?_
  have h59 : hd t (sk t c) = 59 ↔ zC t (sk t c) 59 = true := hd_eq (c := 59) ht (by decide)
  have hz' : zClause t D a = if zC t (sk t c) 59 then .inr (sk t c + 1, D') else .inl (1, sk t c) := hz
  have hF1 : Fr scR σ s1 := hF.tr (y1.mono (fun o k q => scP_R o k (scA_P o k q)))
  rw [h59, y2]
  refine ⟨fun q => ?_, fun q => c_fails hw ?_⟩
  · rw [if_pos q] at hz'
    rw [nI_1]
    have hFd : Fr (scD D') s (uI s1 390 19 (nI (sk t c + 1))) := (y1.mono (fun o k q => scP_D o k (scA_P o k q))).tr (fr_I (by simp [scD, scP]))
    exact q2 _ _ hz' (hF1.tr (fr_I (by decide))) (by rw [gI_uI, if_pos ⟨rfl, rfl⟩]) (hR.d hD' hFd)
  · rw [if_neg q] at hz'
    exact q1 _ _ hz' ⟨Nat.le_of_ble_eq_true rfl, Nat.le_of_ble_eq_true rfl⟩ ((hF1.mono scR_Q).tr (fr_I (by decide))) (by rw [gI_uI, if_pos ⟨rfl, rfl⟩])
theorem c_takeClause {Q : Int32 → St → Prop} {D : PV} {a : Nat} {σ : St} (hw : RunW w) (ht : TxOK t) (hD : DOK D) (ha : a ≤ t.1) (hT : TM σ t) (hA : gI σ 390 19 = nI a) (hR : AgR σ D)
    (q1 : ∀ f σ', zClause t D a = .inl f → erOK f → Fr scQ σ σ' → gI σ' 390 18 = nI f.2 → Q (nI f.1) σ')
    (q2 : ∀ x σ', zClause t D a = .inr x → Fr scR σ σ' → gI σ' 390 19 = nI x.1 → AgR σ' x.2 → Q 0 σ') : SpI Γ (d + 4) mX12_takeClause [.ref 390] σ w Q := by
  have h6 := ht.1
  have e1 := zE_le ha
  have e2 := zE_ge t a
  refine SpI.of pnX12 (Nat.le_of_ble_eq_true rfl) (vX12_takeClause_0 hw (c_readWord hw ht ha hT hA fun s hs hW => ?_))
  have hFs : Fr scR σ s := hs.mono (fun o k q => scP_R o k (scW_P o k q))
  have hTs : TM s t := hT.p (hs.mono scW_P)
  have hRs : AgR s D := hR.d hD (hs.mono (fun o k q => scP_D o k (scW_P o k q)))
  have hFe : Fr scR σ (uI s 390 19 (nI (zE t a))) := hFs.tr (fr_I (by decide))
  have hTe : TM (uI s 390 19 (nI (zE t a))) t := hTs.p (fr_I (by decide))
  have hRe : AgR (uI s 390 19 (nI (zE t a))) D := hRs.d hD (fr_I (by simp [scD, scP]))
  have hAe : gI (uI s 390 19 (nI (zE t a))) 390 19 = nI (zE t a) := by rw [gI_uI, if_pos ⟨rfl, rfl⟩]
  have k1 : lg_cmp (gJ s 390 20) (lN (enc kSign 4)) = 0 ↔ zK t (sk t a) (zE t a) kSign = true := hW.kw (l := kSign) ht (kwL kSign (by decide)).1 (kwL kSign (by decide)).2
  have k2 : lg_cmp (gJ s 390 20) (lN (enc kWord 4)) = 0 ↔ zK t (sk t a) (zE t a) kWord = true := hW.kw (l := kWord) ht (kwL kWord (by decide)).1 (kwL kWord (by decide)).2
  have k3 : lg_cmp (gJ s 390 20) (lN (enc kLesson 6)) = 0 ↔ zK t (sk t a) (zE t a) kLesson = true := hW.kw (l := kLesson) ht (kwL kLesson (by decide)).1 (kwL kLesson (by decide)).2
  have k4 : lg_cmp (gJ s 390 20) (lN (enc kPage 4)) = 0 ↔ zK t (sk t a) (zE t a) kPage = true := hW.kw (l := kPage) ht (kwL kPage (by decide)).1 (kwL kPage (by decide)).2
  have hz : zClause t D a = zSemi t (if zK t (sk t a) (zE t a) kSign then zSign t D (sk t a) (zE t a) else if zK t (sk t a) (zE t a) kWord then zWord t D (sk t a) (zE t a) else if zK t (sk t a) (zE t a) kLesson then zLesson t D (sk t a) (zE t a) else if zK t (sk t a) (zE t a) kPage then zPage t D (sk t a) (zE t a) else .inl (1, sk t a)) := rfl
  have npos : ∀ {f : Er}, erOK f → ¬ nI f.1 ≤ 0 := fun {f} h => nI_nle (by have := h.1; omega) (by have := h.2; omega)
  rw [hW.1]
  refine c_code (n := enc kSign 4) (by decide) ?_
  rw [k1, hW.2.1]
  refine ⟨fun n1 => c_code (n := enc kWord 4) (by decide) ?_, fun y1 => ?_⟩
  · rw [if_neg n1] at hz
    rw [k2, hW.2.1]
    refine ⟨fun n2 => c_code (n := enc kLesson 4) (by decide) (c_longer (n := enc kLesson 5) (by decide) (c_longer (n := enc kLesson 6) (by decide) ?_)), fun y2 => ?_⟩
    · rw [if_neg n2] at hz
      rw [k3, hW.2.1]
      refine ⟨fun n3 => c_code (n := enc kPage 4) (by decide) ?_, fun y3 => ?_⟩
      · rw [if_neg n3] at hz
        rw [k4, hW.2.1]
        refine ⟨fun n4 => c_fails hw ?_, fun y4 => ?_⟩
        · rw [if_neg n4] at hz
          exact q1 (1, sk t a) _ hz ⟨Nat.le_of_ble_eq_true rfl, Nat.le_of_ble_eq_true rfl⟩ ((hFs.mono scR_Q).tr (fr_I (by decide))) (by rw [gI_uI, if_pos ⟨rfl, rfl⟩])
        · rw [if_pos y4] at hz
          refine c_takePage hw ht hD e1 hTe hAe hRe (fun f s' z1 z2 z3 => ?_) (fun x s' z1 z2 z3 z4 => ?_)
          · rw [z1] at hz
            have er := zPage_er ht e1 z1
            exact ⟨fun q => absurd q (npos er), fun _ => q1 f s' hz er ((hFe.mono scR_Q).tr z2) z3⟩
          · rw [z1] at hz
            obtain ⟨o1, o2, o3⟩ := zPage_ok hD e1 z1
            exact ⟨fun _ => c_semi hw ht hz o2 (hFe.tr z2) (hTe.r z2) z3 z4 o3 q1 q2, fun q => absurd (by decide) q⟩
      · rw [if_pos y3] at hz
        refine c_takeLesson hw ht hD e1 hTe hAe hRe (fun f s' z1 z2 z3 z4 => ?_) (fun x s' z1 z2 z3 z4 z5 z6 => ?_)
        · rw [z1] at hz
          exact ⟨fun q => absurd q (npos z2), fun _ => q1 f s' hz z2 ((hFe.mono scR_Q).tr z3) z4⟩
        · rw [z1] at hz
          obtain ⟨y, o1, o2, o3, o4⟩ := zSemi_ok z1
          obtain ⟨u1, u2, u3⟩ := zLesson_ok hD e1 o1
          have hsx : sk t (x.1 - 1) = x.1 - 1 := zR_no (fun _ => by rw [(zC_pos z3).2]; decide)
          have hz2 : zClause t D a = zSemi t (.inr (x.1 - 1, x.2)) := by
            rw [hz]
            show _ = if zC t (sk t (x.1 - 1)) 59 then _ else _
            rw [hsx, z3, show x.1 - 1 + 1 = x.1 by omega]
            rfl
          exact ⟨fun _ => c_semi hw ht hz2 (by omega) (hFe.tr z4) (hTe.r z4) z5 z6 (by rw [o4]; exact u3) q1 q2, fun q => absurd (by decide) q⟩
    · rw [if_pos y2] at hz
      refine c_takeWord hw ht hD e1 hTe hAe hRe (fun f s' z1 z2 z3 => ?_) (fun x s' z1 z2 z3 z4 => ?_)
      · rw [z1] at hz
        have er := zWord_er ht e1 z1
        exact ⟨fun q => absurd q (npos er), fun _ => q1 f s' hz er ((hFe.mono scR_Q).tr z2) z3⟩
      · rw [z1] at hz
        obtain ⟨o1, o2, o3⟩ := zWord_ok hD e1 z1
        exact ⟨fun _ => c_semi hw ht hz o2 (hFe.tr z2) (hTe.r z2) z3 z4 o3 q1 q2, fun q => absurd (by decide) q⟩
  · rw [if_pos y1] at hz
    refine c_takeSign hw ht hD e1 hTe hAe hRe (fun f s' z1 z2 z3 => ?_) (fun x s' z1 z2 z3 z4 => ?_)
    · rw [z1] at hz
      have er := zSign_er z1
      exact ⟨fun q => absurd q (npos er), fun _ => q1 f s' hz er ((hFe.mono scR_Q).tr z2) z3⟩
    · rw [z1] at hz
      obtain ⟨o1, o2, o3⟩ := zSign_ok hD e1 z1
      exact ⟨fun _ => c_semi hw ht hz o2 (hFe.tr z2) (hTe.r z2) z3 z4 o3 q1 q2, fun q => absurd (by decide) q⟩
end PCL
