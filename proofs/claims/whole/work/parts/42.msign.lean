/-! the reference reads its text: signs -/
/-- rows of what was not told yet, and what is read with -/
def scD (D : PV) (o k : Nat) : Bool := scP o k || (o == 390 && k == 39) || ((o == 404 || o == 406 || o == 407) && decide (nS D ≤ k)) || (o == 405 && decide (4 * nS D ≤ k)) || ((o == 408 || o == 410) && decide (nW D ≤ k)) || ((o == 409 || o == 411) && decide (8 * nW D ≤ k)) || (o == 412 && decide (3 * nL D ≤ k)) || (o == 413 && decide (nP D ≤ k)) || (o == 414 && decide (16 * nP D ≤ k))
def scE (D : PV) (c o k : Nat) : Bool := scD D o k || (o == 390 && k == c)
def AgN (σ : St) (D : PV) : Prop := gI σ 390 24 = nI (nS D) ∧ gI σ 390 29 = nI (nW D) ∧ gI σ 390 34 = nI (nL D) ∧ gI σ 390 36 = nI (nP D)
def AgS (σ : St) (D : PV) : Prop := ∀ k, k < nS D → gI σ 404 k = D 1 k 0 ∧ gI σ 406 k = D 3 k 0 ∧ gI σ 407 k = D 4 k 0 ∧ ∀ j, j < sS D k → gI σ 405 (4 * k + j) = D 2 k j
def AgW (σ : St) (D : PV) : Prop := ∀ v, v < nW D → gI σ 408 v = D 5 v 0 ∧ gI σ 410 v = D 7 v 0 ∧ (∀ j, j < wS D v → gI σ 409 (8 * v + j) = D 6 v j) ∧ ∀ j, j < wN D v → gI σ 411 (8 * v + j) = D 8 v j
def AgL (σ : St) (D : PV) : Prop := ∀ l, l < nL D → ∀ j, j < 3 → gI σ 412 (3 * l + j) = D 9 l j
def AgP (σ : St) (D : PV) : Prop := ∀ p, p < nP D → gI σ 413 p = D 10 p 0 ∧ ∀ j, j < pS D p → gI σ 414 (16 * p + j) = D 11 p j
def AgB (σ : St) (D : PV) : Prop := AgS σ D ∧ AgW σ D ∧ AgL σ D ∧ AgP σ D
def AgR (σ : St) (D : PV) : Prop := AgN σ D ∧ AgB σ D
theorem scP_D {D : PV} : ∀ o k, scP o k = true → scD D o k = true := fun o k h => by unfold scD; rw [h]; simp
theorem scD_E {D : PV} {c : Nat} : ∀ o k, scD D o k = true → scE D c o k = true := fun o k h => by unfold scE; rw [h]; simp
theorem scE_R {D : PV} {c : Nat} (hc : c = 24 ∨ c = 29 ∨ c = 34 ∨ c = 36) : ∀ o k, scE D c o k = true → scR o k = true := by
  intro o k h
  unfold scE scD at h
  unfold scR
  simp only [Bool.or_eq_true, Bool.and_eq_true, beq_iff_eq, decide_eq_true_eq] at h ⊢
  rcases h with (((((((((h | h) | h) | h) | h) | h) | h) | h) | h) | h)
  · exact Or.inl (Or.inl h)
  all_goals (first | exact Or.inr (by omega) | exact Or.inl (Or.inr (by omega)))
theorem scE_Q {D : PV} {c : Nat} (hc : c = 24 ∨ c = 29 ∨ c = 34 ∨ c = 36) : ∀ o k, scE D c o k = true → scQ o k = true := fun o k h => scR_Q o k (scE_R hc o k h)
theorem scD_R {D : PV} : ∀ o k, scD D o k = true → scR o k = true := fun o k h => scE_R (c := 24) (Or.inl rfl) o k (scD_E o k h)
theorem scP_R : ∀ o k, scP o k = true → scR o k = true := fun o k h => by unfold scR; rw [h]; simp
theorem scE_T {D : PV} {c : Nat} (hc : c ≠ 17) : ∀ o k, (o = 403 ∨ (o = 390 ∧ k = 17)) → scE D c o k = false := by
  intro o k h
  rcases h with rfl | ⟨rfl, rfl⟩
  · simp [scE, scD, scP]
  · simp [scE, scD, scP]
    exact fun q => hc q.symm
theorem scR_T : ∀ o k, (o = 403 ∨ (o = 390 ∧ k = 17)) → scR o k = false := by
  intro o k h
  rcases h with rfl | ⟨rfl, rfl⟩ <;> simp [scR, scP]
theorem TM.d {D : PV} {σ σ' : St} {t : Tx} (h : TM σ t) (hF : Fr (scD D) σ σ') : TM σ' t := h.fr (scE_T (D := D) (c := 24) (by decide)) (hF.mono scD_E)
theorem TM.r {σ σ' : St} {t : Tx} (h : TM σ t) (hF : Fr scR σ σ') : TM σ' t := h.fr scR_T hF
theorem AgS.fr {D : PV} {c : Nat} {σ σ' : St} (hD : DOK D) (h : AgS σ D) (hF : Fr (scE D c) σ σ') : AgS σ' D := by
  intro k hk
  obtain ⟨h1, h2, h3, h4⟩ := h k hk
  have hs := (hD.1.2.1 k hk).2.2.1
  refine ⟨(hF.1 _ _ ?_).trans h1, (hF.1 _ _ ?_).trans h2, (hF.1 _ _ ?_).trans h3, fun j hj => (hF.1 _ _ ?_).trans (h4 j hj)⟩ <;> simp [scE, scD, scP] <;> omega
theorem AgW.fr {D : PV} {c : Nat} {σ σ' : St} (hD : DOK D) (h : AgW σ D) (hF : Fr (scE D c) σ σ') : AgW σ' D := by
  intro v hv
  obtain ⟨h1, h2, h3, h4⟩ := h v hv
  obtain ⟨-, -, h8, -, -, h8', -⟩ := hD.1.2.2.1 v hv
  refine ⟨(hF.1 _ _ ?_).trans h1, (hF.1 _ _ ?_).trans h2, fun j hj => (hF.1 _ _ ?_).trans (h3 j hj), fun j hj => (hF.1 _ _ ?_).trans (h4 j hj)⟩ <;> simp [scE, scD, scP] <;> omega
theorem AgL.fr {D : PV} {c : Nat} {σ σ' : St} (h : AgL σ D) (hF : Fr (scE D c) σ σ') : AgL σ' D := by
  intro l hl j hj
  refine (hF.1 _ _ ?_).trans (h l hl j hj)
  simp [scE, scD, scP]
  omega
theorem AgP.fr {D : PV} {c : Nat} {σ σ' : St} (hD : DOK D) (h : AgP σ D) (hF : Fr (scE D c) σ σ') : AgP σ' D := by
  intro p hp
  obtain ⟨h1, h2⟩ := h p hp
  have h16 := (hD.1.2.2.2.2 p hp).2.2.1
  refine ⟨(hF.1 _ _ ?_).trans h1, fun j hj => (hF.1 _ _ ?_).trans (h2 j hj)⟩ <;> simp [scE, scD, scP] <;> omega
theorem AgB.fr {D : PV} {c : Nat} {σ σ' : St} (hD : DOK D) (h : AgB σ D) (hF : Fr (scE D c) σ σ') : AgB σ' D := ⟨h.1.fr hD hF, h.2.1.fr hD hF, h.2.2.1.fr hF, h.2.2.2.fr hD hF⟩
theorem scE_n {D : PV} {c k : Nat} (hk : k = 24 ∨ k = 29 ∨ k = 34 ∨ k = 36) (hc : k ≠ c) : scE D c 390 k = false := by
  rcases hk with rfl | rfl | rfl | rfl <;> simp [scE, scD, scP] <;> exact hc
theorem AgR.d {D : PV} {σ σ' : St} (hD : DOK D) (h : AgR σ D) (hF : Fr (scD D) σ σ') : AgR σ' D := by
  obtain ⟨⟨h1, h2, h3, h4⟩, h5⟩ := h
  have hF' : Fr (scE D 0) σ σ' := hF.mono scD_E
  exact ⟨⟨(hF'.1 _ _ (scE_n (by omega) (by decide))).trans h1, (hF'.1 _ _ (scE_n (by omega) (by decide))).trans h2, (hF'.1 _ _ (scE_n (by omega) (by decide))).trans h3, (hF'.1 _ _ (scE_n (by omega) (by decide))).trans h4⟩, h5.fr hD hF'⟩
/-- a sign more -/
theorem AgR.sign {D : PV} {t : Tx} {σ σ' : St} {b n : Nat} {s sd : Int32} (hD : DOK D) (h : AgR σ D) (hF : Fr (scE D 24) σ σ') (hn : n ≤ 4) (h24 : gI σ' 390 24 = nI (nS D + 1)) (h1 : gI σ' 404 (nS D) = nI n) (h3 : gI σ' 406 (nS D) = s) (h4 : gI σ' 407 (nS D) = sd) (h2 : ∀ j, j < n → gI σ' 405 (4 * nS D + j) = nI (t.2 (b + j) - 97)) : AgR σ' (adS t D b n s sd) := by
  obtain ⟨⟨n1, n2, n3, n4⟩, h5⟩ := h
  obtain ⟨b1, b2, b3, b4⟩ := h5.fr hD hF
  have e := adS_n (t := t) (D := D) (b := b) (n := n) (s := s) (sd := sd) hD.nS
  refine ⟨⟨by rw [e]; exact h24, (hF.1 _ _ (scE_n (by omega) (by decide))).trans n2, (hF.1 _ _ (scE_n (by omega) (by decide))).trans n3, (hF.1 _ _ (scE_n (by omega) (by decide))).trans n4⟩, fun k hk => ?_, b2, b3, b4⟩
  rw [e] at hk
  by_cases q : k = nS D
  · subst q
    have e1 : adS t D b n s sd 1 (nS D) 0 = nI n := if_pos rfl
    have e2 : sS (adS t D b n s sd) (nS D) = n := by
      show (adS t D b n s sd 1 (nS D) 0).toNatClampNeg = n
      rw [e1, cl (by omega)]
    have e3 : adS t D b n s sd 3 (nS D) 0 = s := if_pos rfl
    have e4 : adS t D b n s sd 4 (nS D) 0 = sd := if_pos rfl
    have e5 : ∀ j, adS t D b n s sd 2 (nS D) j = nI (t.2 (b + j) - 97) := fun j => if_pos rfl
    rw [e2, e1, e3, e4]
    exact ⟨h1, h3, h4, fun j hj => by rw [e5]; exact h2 j hj⟩
  · have e1 : adS t D b n s sd 1 k 0 = D 1 k 0 := if_neg q
    have e2 : sS (adS t D b n s sd) k = sS D k := congrArg Int32.toNatClampNeg e1
    have e3 : adS t D b n s sd 3 k 0 = D 3 k 0 := if_neg q
    have e4 : adS t D b n s sd 4 k 0 = D 4 k 0 := if_neg q
    have e5 : ∀ j, adS t D b n s sd 2 k j = D 2 k j := fun j => if_neg q
    rw [e2, e1, e3, e4]
    obtain ⟨c1, c2, c3, c4⟩ := b1 k (by omega)
    exact ⟨c1, c2, c3, fun j hj => by rw [e5]; exact c4 j hj⟩
def sgSide (Γ : Gx) (d : Nat) (w : Wd) (Q : Int32 → St → Prop) (x2 : Int32) (st : St) : Prop := SpI Γ d mX12_here [.ref 390] st w (fun v6 s5 => SpI Γ d mX12_in [.long v6.toInt64, .long (97 : Int64), .long (122 : Int64)] s5 w (fun v8 s7 => ((v8 = (0 : Int32) → Q (0 : Int32) (uI s7 390 24 ((gI s7 390 24) + (1 : Int32)))) ∧ (¬ v8 = (0 : Int32) → SpV Γ d mX12_readWord [.ref 390] s7 w (fun s9 => SpJ Γ d mX12_code [.int (115 : Int32), .int (116 : Int32), .int (97 : Int32), .int (114 : Int32)] s9 w (fun v11 s10 => SpJ Γ d mX12_longer [.long v11, .int (116 : Int32)] s10 w (fun v13 s12 => ((¬ (lg_cmp (gJ s9 390 20) v13) = (0 : Int32) → ((¬ (lg_cmp (gJ s12 390 20) (4027 : Int64)) = (0 : Int32) → (vp_in x2 20) ∧ (vp_in x2 20) ∧ ((¬ (gI (uI s12 407 x2.toNatClampNeg (0 : Int32)) 407 x2.toNatClampNeg) = (0 : Int32) → Q (0 : Int32) (uI (uI (uI s12 407 x2.toNatClampNeg (0 : Int32)) 390 19 (gI s12 390 21)) 390 24 ((gI s12 390 24) + (1 : Int32)))) ∧ ((gI (uI s12 407 x2.toNatClampNeg (0 : Int32)) 407 x2.toNatClampNeg) = (0 : Int32) → SpI Γ d mX12_fails [.ref 390, .int (1 : Int32), .int (gI s12 390 19)] (uI s12 407 x2.toNatClampNeg (0 : Int32)) w (fun v15 s14 => Q v15 s14)))) ∧ ((lg_cmp (gJ s12 390 20) (4027 : Int64)) = (0 : Int32) → (vp_in x2 20) ∧ (vp_in x2 20) ∧ ((¬ (gI (uI s12 407 x2.toNatClampNeg (2 : Int32)) 407 x2.toNatClampNeg) = (0 : Int32) → Q (0 : Int32) (uI (uI (uI s12 407 x2.toNatClampNeg (2 : Int32)) 390 19 (gI s12 390 21)) 390 24 ((gI s12 390 24) + (1 : Int32)))) ∧ ((gI (uI s12 407 x2.toNatClampNeg (2 : Int32)) 407 x2.toNatClampNeg) = (0 : Int32) → SpI Γ d mX12_fails [.ref 390, .int (1 : Int32), .int (gI s12 390 19)] (uI s12 407 x2.toNatClampNeg (2 : Int32)) w (fun v17 s16 => Q v17 s16)))))) ∧ ((lg_cmp (gJ s9 390 20) v13) = (0 : Int32) → (vp_in x2 20) ∧ (vp_in x2 20) ∧ ((¬ (gI (uI s12 407 x2.toNatClampNeg (1 : Int32)) 407 x2.toNatClampNeg) = (0 : Int32) → Q (0 : Int32) (uI (uI (uI s12 407 x2.toNatClampNeg (1 : Int32)) 390 19 (gI s12 390 21)) 390 24 ((gI s12 390 24) + (1 : Int32)))) ∧ ((gI (uI s12 407 x2.toNatClampNeg (1 : Int32)) 407 x2.toNatClampNeg) = (0 : Int32) → SpI Γ d mX12_fails [.ref 390, .int (1 : Int32), .int (gI s12 390 19)] (uI s12 407 x2.toNatClampNeg (1 : Int32)) w (fun v19 s18 => Q v19 s18))))))))))))
def sgTail (Γ : Gx) (d : Nat) (w : Wd) (Q : Int32 → St → Prop) (x2 x4 : Int32) (s : St) : Prop := (vp_in x2 20) ∧ (vp_in x2 20) ∧ SpI Γ d mX12_here [.ref 390] (uI (uI s 404 x2.toNatClampNeg x4) 406 x2.toNatClampNeg (-1 : Int32)) w (fun v2 s1 => ((¬ v2 = (45 : Int32) → SpI Γ d mX12_takeNumber [.ref 390, .int (29 : Int32)] s1 w (fun v4 s3 => ((v4 ≤ (0 : Int32) → (vp_in x2 20) ∧ (vp_in x2 20) ∧ sgSide Γ d w Q x2 (uI (uI s3 406 x2.toNatClampNeg (gI s3 390 22)) 407 x2.toNatClampNeg (0 : Int32))) ∧ (¬ v4 ≤ (0 : Int32) → Q v4 s3)))) ∧ (v2 = (45 : Int32) → (vp_in x2 20) ∧ sgSide Γ d w Q x2 (uI (uI s1 390 19 ((gI s1 390 19) + (1 : Int32))) 407 x2.toNatClampNeg (0 : Int32)))))
def scSd (n o k : Nat) : Bool := scP o k || (o == 407 && k == n) || (o == 390 && k == 24)
theorem scP_Sd {n : Nat} : ∀ o k, scP o k = true → scSd n o k = true := fun o k h => by unfold scSd; rw [h]; simp
theorem scSd_Q {n : Nat} : ∀ o k, scSd n o k = true → scQ o k = true := by
  intro o k h
  unfold scSd at h
  simp only [Bool.or_eq_true, Bool.and_eq_true, beq_iff_eq] at h
  rcases h with ((h | h) | h)
  · exact scP_Q o k h
  · rw [h.1]; simp [scQ, scR]
  · rw [h.1, h.2]; decide
section PSG
variable {Γ : Gx} {d : Nat} {w : Wd} {t : Tx}
theorem kwL : ∀ l, l ∈ [kSign, kWord, kLesson, kPage, kStart, kEnd, kAfter, kSigns, kSight] → (∀ i, i < l.length → zL (l.getD i 0) = true) ∧ enc l l.length ≤ 1000000000000 := by decide +kernel
theorem c_sgSide {Q : Int32 → St → Prop} {k a : Nat} {st : St} (hw : RunW w) (ht : TxOK t) (hk : k < 20) (hT : TM st t) (ha : a ≤ t.1) (hA : gI st 390 19 = nI a) (h407 : gI st 407 k = 0) (h24 : gI st 390 24 = nI k)
    (q1 : ∀ f σ', zSide t a = .inl f → Fr scQ st σ' → gI σ' 390 18 = nI f.2 → Q (nI f.1) σ')
    (q2 : ∀ x σ', zSide t a = .inr x → Fr (scSd k) st σ' → gI σ' 390 19 = nI x.1 → gI σ' 407 k = x.2 → gI σ' 390 24 = nI (k + 1) → Q 0 σ') : sgSide Γ (d + 1) w Q (nI k) st := by
  have h6 := ht.1
  have hk20 : vp_in (nI k) 20 := vin hk
  unfold sgSide
  refine c_here hw ht ha hT hA fun s hs h19 => c_hL ht ?_
  have hs1 : Fr (scSd k) st s := hs.mono (fun o k h => scP_Sd o k (scA_P o k h))
  have h24s : gI s 390 24 = nI k := (hs.1 _ _ (by decide)).trans h24
  have h407s : gI s 407 k = 0 := (hs.1 _ _ (by simp [scA])).trans h407
  have zE' : zR zL t (sk t a) = zE t a := rfl
  rw [b2i_n0, b2i_0]
  refine ⟨fun c => ?_, fun c => ?_⟩
  · have e : zE t a = sk t a := zP_run.mp c
    refine q2 (sk t a, 0) _ (by unfold zSide; rw [if_pos e]) (hs1.tr (fr_I (by simp [scSd]))) (by rw [gI_uI, if_neg (by decide)]; exact h19) (by rw [gI_uI, if_neg (by omega)]; exact h407s) (by rw [gI_uI, if_pos ⟨rfl, rfl⟩, h24s, nI_1])
  · have ne : ¬ zE t a = sk t a := fun q => by rw [zP_run.mpr q] at c; cases c
    have hq : ∀ x, (zSide t a = x) ↔ (if zK t (sk t a) (zE t a) kStart then Sum.inr (zE t a, 1) else if zK t (sk t a) (zE t a) kEnd then Sum.inr (zE t a, 2) else Sum.inl (1, sk t a) : Er ⊕ (Nat × Int32)) = x := by
      intro x
      unfold zSide
      rw [if_neg ne]
    refine c_readWord hw ht (sk_le ha) (hT.p (hs.mono scA_P)) h19 fun s2 hs2 hW => ?_
    have hsk : sk t (sk t a) = sk t a := sk_sk t a
    have hzE : zE t (sk t a) = zE t a := by unfold zE; rw [hsk]
    have hs3 : Fr (scSd k) st s2 := hs1.tr (hs2.mono (fun o k h => scP_Sd o k (scW_P o k h)))
    have h24' : gI s2 390 24 = nI k := (hs2.1 _ _ (by decide)).trans h24s
    have w19 : gI s2 390 19 = nI (sk t a) := hW.1.trans (by rw [hsk])
    have w21 : gI s2 390 21 = nI (zE t a) := hW.2.1.trans (by rw [hzE])
    have kS := hW.kw (l := kStart) ht (kwL kStart (by decide)).1 (kwL kStart (by decide)).2
    have kE := hW.kw (l := kEnd) ht (kwL kEnd (by decide)).1 (kwL kEnd (by decide)).2
    rw [hsk, hzE] at kS kE
    refine c_code (n := enc kStart 4) (by decide) (c_longer (n := enc kStart 5) (by decide) ?_)
    have kS' : lg_cmp (gJ s2 390 20) (lN (enc kStart 5)) = 0 ↔ zK t (sk t a) (zE t a) kStart = true := kS
    have kE' : lg_cmp (gJ s2 390 20) (4027 : Int64) = 0 ↔ zK t (sk t a) (zE t a) kEnd = true := kE
    rw [kS', kE', cl (by omega)]
    have ok : ∀ (v : Int32), v = 1 ∨ v = 2 → zSide t a = .inr (zE t a, v) → (vp_in (nI k) 20) ∧ (vp_in (nI k) 20) ∧ ((¬ (gI (uI s2 407 k v) 407 k) = (0 : Int32) → Q (0 : Int32) (uI (uI (uI s2 407 k v) 390 19 (gI s2 390 21)) 390 24 ((gI s2 390 24) + (1 : Int32)))) ∧ ((gI (uI s2 407 k v) 407 k) = (0 : Int32) → SpI Γ (d + 1) mX12_fails [.ref 390, .int (1 : Int32), .int (gI s2 390 19)] (uI s2 407 k v) w (fun v15 s14 => Q v15 s14))) := by
      intro v hv hz
      have e7 : gI (uI s2 407 k v) 407 k = v := by rw [gI_uI, if_pos ⟨rfl, rfl⟩]
      refine ⟨hk20, hk20, ?_⟩
      rw [e7]
      refine ⟨fun _ => ?_, fun c => absurd c (by rcases hv with rfl | rfl <;> decide)⟩
      refine q2 (zE t a, v) _ hz (hs3.tr ((fr_I (by simp [scSd])).tr ((fr_I (by simp [scSd, scP])).tr (fr_I (by simp [scSd]))))) ?_ ?_ ?_
      · rw [gI_uI, if_neg (by decide), gI_uI, if_pos ⟨rfl, rfl⟩]
        exact w21
      · rw [gI_uI, if_neg (by omega), gI_uI, if_neg (by omega)]
        exact e7
      · rw [gI_uI, if_pos ⟨rfl, rfl⟩, h24', nI_1]
    refine ⟨fun cS => ⟨fun cE => ?_, fun cE => ?_⟩, fun cS => ok 1 (Or.inl rfl) ?_⟩
    · have e7 : gI (uI s2 407 k 0) 407 k = 0 := by rw [gI_uI, if_pos ⟨rfl, rfl⟩]
      refine ⟨hk20, hk20, ?_⟩
      rw [e7]
      refine ⟨fun c => absurd rfl c, fun _ => c_fails hw ?_⟩
      refine q1 (1, sk t a) _ ((hq _).mpr (by rw [if_neg cS, if_neg cE])) ((hs3.mono scSd_Q).tr ((fr_I (by simp [scQ, scR])).tr (fr_I (by decide)))) ?_
      rw [gI_uI, if_pos ⟨rfl, rfl⟩]
      exact w19
    · exact ok 2 (Or.inr rfl) ((hq _).mpr (by rw [if_neg cS, if_pos cE]))
    · exact (hq _).mpr (by rw [if_pos cS])
theorem scSd_E {D : PV} : ∀ o k, scSd (nS D) o k = true → scE D 24 o k = true := by
  intro o k h
  unfold scSd at h
  unfold scE scD
  simp only [Bool.or_eq_true, Bool.and_eq_true, beq_iff_eq, decide_eq_true_eq] at h ⊢
  rcases h with ((h | h) | h)
  · simp [h]
  · simp [h.1, h.2]
  · exact Or.inr h
theorem x29 : ∀ v, v < 100 → (nI v ≤ 29 ↔ v < 30) := by decide +kernel
theorem c_sgTail {Q : Int32 → St → Prop} {D : PV} {fr a : Nat} {σ0 s : St} (hw : RunW w) (ht : TxOK t) (hD : DOK D) (h20 : nS D ≠ 20) (ha : a ≤ t.1) (hR : AgR σ0 D) (hF : Fr (scE D 24) σ0 s) (hT : TM s t) (hne : zE t a ≠ sk t a) (h4 : zE t a - sk t a ≤ 4) (hA : gI s 390 19 = nI (zE t a)) (h24 : gI s 390 24 = nI (nS D)) (hL : ∀ i, i < zE t a - sk t a → gI s 405 (4 * nS D + i) = nI (t.2 (sk t a + i) - 97))
    (q1 : ∀ f σ', zSign t D fr a = .inl f → Fr scQ σ0 σ' → gI σ' 390 18 = nI f.2 → Q (nI f.1) σ')
    (q2 : ∀ x σ', zSign t D fr a = .inr x → Fr (scE D 24) σ0 σ' → gI σ' 390 19 = nI x.1 → AgR σ' x.2 → Q 0 σ') : sgTail Γ (d + 1) w Q (nI (nS D)) (nI (zE t a - sk t a)) s := by
  have h6 := ht.1
  have hn := hD.nS
  have hk20 : vp_in (nI (nS D)) 20 := vin (by omega)
  have e1 := zE_le ha
  have pE : ∀ {σ σ' : St}, Fr scP σ σ' → Fr (scE D 24) σ σ' := fun h => h.mono (fun o k q => scD_E o k (scP_D o k q))
  have u4 : ∀ {σ : St} {v : Int32}, Fr (scE D 24) σ (uI σ 404 (nS D) v) := fun {σ v} => fr_I (by simp [scE, scD])
  have u6 : ∀ {σ : St} {v : Int32}, Fr (scE D 24) σ (uI σ 406 (nS D) v) := fun {σ v} => fr_I (by simp [scE, scD])
  have u7 : ∀ {σ : St} {v : Int32}, Fr (scE D 24) σ (uI σ 407 (nS D) v) := fun {σ v} => fr_I (by simp [scE, scD])
  have TE : ∀ {σ σ' : St}, TM σ t → Fr (scE D 24) σ σ' → TM σ' t := fun h h2 => h.fr (scE_T (by decide)) h2
  have hz : zSign t D fr a = (match zSnd t (zE t a) with
      | .inl f => .inl f
      | .inr x => match zSide t x.1 with
        | .inl f => .inl f
        | .inr y => .inr (y.1, adS t D (sk t a) (zE t a - sk t a) x.2 y.2)) := by
    unfold zSign
    rw [if_neg h20, if_neg hne, if_neg (by omega)]
    rfl
  -- the side, behind the sound
  have side : ∀ (c : Nat) (snd : Int32) (s1 : St), zSnd t (zE t a) = .inr (c, snd) → c ≤ t.1 → Fr (scE D 24) σ0 s1 → TM s1 t → gI s1 390 19 = nI c → gI s1 390 24 = nI (nS D) → gI s1 404 (nS D) = nI (zE t a - sk t a) → gI s1 406 (nS D) = snd → gI s1 407 (nS D) = 0 → (∀ i, i < zE t a - sk t a → gI s1 405 (4 * nS D + i) = nI (t.2 (sk t a + i) - 97)) → sgSide Γ (d + 1) w Q (nI (nS D)) s1 := by
    intro c snd s1 hz1 hc hF1 hT1 g19 g24 g404 g406 g407 gL
    rw [hz1] at hz
    dsimp only at hz
    refine c_sgSide hw ht (by omega) hT1 hc g19 g407 g24 (fun f s2 z1 z2 z3 => ?_) (fun x s2 z1 z2 z3 z4 z5 => ?_)
    · rw [z1] at hz
      exact q1 f s2 hz ((hF1.mono (scE_Q (by omega))).tr z2) z3
    · rw [z1] at hz
      have hF2 := hF1.tr (z2.mono scSd_E)
      refine q2 _ s2 hz hF2 z3 (hR.sign hD hF2 h4 z5 ((z2.1 _ _ (by simp [scSd, scP])).trans g404) ((z2.1 _ _ (by simp [scSd, scP])).trans g406) z4 (fun j hj => (z2.1 _ _ (by simp [scSd, scP])).trans (gL j hj)))
  unfold sgTail
  rw [cl (by omega)]
  have hFa : Fr (scE D 24) s (uI (uI s 404 (nS D) (nI (zE t a - sk t a))) 406 (nS D) (-1)) := u4.tr u6
  have hTa := TE hT hFa
  refine ⟨hk20, hk20, c_here hw ht e1 hTa (by rw [gI_uI, if_neg (by omega), gI_uI, if_neg (by omega)]; exact hA) fun s1 hs1 h19 => ?_⟩
  have hF1 : Fr (scE D 24) σ0 s1 := hF.tr (hFa.tr (pE (hs1.mono scA_P)))
  have hT1 : TM s1 t := hTa.p (hs1.mono scA_P)
  have g24 : gI s1 390 24 = nI (nS D) := by
    rw [hs1.1 _ _ (by decide), gI_uI, if_neg (by omega), gI_uI, if_neg (by omega)]
    exact h24
  have g404 : gI s1 404 (nS D) = nI (zE t a - sk t a) := by
    rw [hs1.1 _ _ (by simp [scA]), gI_uI, if_neg (by omega), gI_uI, if_pos ⟨rfl, rfl⟩]
  have g406 : gI s1 406 (nS D) = -1 := by
    rw [hs1.1 _ _ (by simp [scA]), gI_uI, if_pos ⟨rfl, rfl⟩]
  have gL : ∀ i, i < zE t a - sk t a → gI s1 405 (4 * nS D + i) = nI (t.2 (sk t a + i) - 97) := by
    intro i hi
    rw [hs1.1 _ _ (by simp [scA]), gI_uI, if_neg (by omega), gI_uI, if_neg (by omega)]
    exact hL i hi
  have h45 : hd t (sk t (zE t a)) = 45 ↔ zC t (sk t (zE t a)) 45 = true := hd_eq (c := 45) ht (by decide)
  rw [h45]
  refine ⟨fun c => ?_, fun c => ⟨hk20, ?_⟩⟩
  · have hzs : zSnd t (zE t a) = (match zNum t 30 (zE t a) with | .inl f => .inl f | .inr x => .inr (x.1, nI x.2)) := by
      unfold zSnd
      rw [if_neg c]
      rfl
    refine c_takeNumber (bd := 30) hw ht (sk_le e1) x29 hT1 h19 (fun f s3 z1 z2 z3 => ?_) (fun x s3 z1 z2 z3 z4 z5 => ?_)
    · have z1' : zNum t 30 (zE t a) = .inl f := by
        unfold zNum at z1 ⊢
        rwa [sk_sk] at z1
      have := (zNum_er z1').1
      rw [z1'] at hzs
      dsimp only at hzs
      rw [hzs] at hz
      refine ⟨fun c2 => absurd c2 ?_, fun _ => q1 f s3 hz ((hF1.mono (scE_Q (by omega))).tr z2) z3⟩
      rcases this with q | q <;> rw [q] <;> decide
    · have z1' : zNum t 30 (zE t a) = .inr x := by
        unfold zNum at z1 ⊢
        rwa [sk_sk] at z1
      have hb := (zNum_ok z1' e1).2.2.2.1
      rw [z1'] at hzs
      dsimp only at hzs
      refine ⟨fun _ => ⟨hk20, hk20, ?_⟩, fun c2 => absurd (by decide) c2⟩
      have hFb : Fr (scE D 24) s3 (uI (uI s3 406 (nS D) (gI s3 390 22)) 407 (nS D) 0) := u6.tr u7
      refine side x.1 (nI x.2) _ hzs hb (hF1.tr ((pE z2).tr hFb)) (TE (hT1.p z2) hFb) ?_ ?_ ?_ ?_ ?_ (fun i hi => ?_)
      · rw [gI_uI, if_neg (by omega), gI_uI, if_neg (by omega)]; exact z3
      · rw [gI_uI, if_neg (by omega), gI_uI, if_neg (by omega), z2.1 _ _ (by decide)]; exact g24
      · rw [gI_uI, if_neg (by omega), gI_uI, if_neg (by omega), z2.1 _ _ (by simp [scP])]; exact g404
      · rw [gI_uI, if_neg (by omega), gI_uI, if_pos ⟨rfl, rfl⟩]; exact z4
      · rw [gI_uI, if_pos ⟨rfl, rfl⟩]
      · rw [gI_uI, if_neg (by omega), gI_uI, if_neg (by omega), z2.1 _ _ (by simp [scP])]; exact gL i hi
  · have hzs : zSnd t (zE t a) = .inr (sk t (zE t a) + 1, -1) := by unfold zSnd; rw [if_pos c]
    have hlt := (zC_pos c).1
    rw [h19, nI_1]
    have hFb : Fr (scE D 24) s1 (uI (uI s1 390 19 (nI (sk t (zE t a) + 1))) 407 (nS D) 0) := (pE (fr_I (by decide))).tr u7
    refine side (sk t (zE t a) + 1) (-1) _ hzs hlt (hF1.tr hFb) (TE hT1 hFb) ?_ ?_ ?_ ?_ ?_ (fun i hi => ?_)
    · rw [gI_uI, if_neg (by omega), gI_uI, if_pos ⟨rfl, rfl⟩]
    · rw [gI_uI, if_neg (by omega), gI_uI, if_neg (by decide)]; exact g24
    · rw [gI_uI, if_neg (by omega), gI_uI, if_neg (by omega)]; exact g404
    · rw [gI_uI, if_neg (by omega), gI_uI, if_neg (by omega)]; exact g406
    · rw [gI_uI, if_pos ⟨rfl, rfl⟩]
    · rw [gI_uI, if_neg (by omega), gI_uI, if_neg (by omega)]; exact gL i hi
theorem lp_takeSign {Q : Int32 → St → Prop} {D : PV} {fr a : Nat} {σ0 : St} (hw : RunW w) (ht : TxOK t) (hD : DOK D) (h20 : nS D ≠ 20) (ha : a ≤ t.1) (hR : AgR σ0 D) (hne : zE t a ≠ sk t a)
    (q1 : ∀ f σ', zSign t D fr a = .inl f → Fr scQ σ0 σ' → gI σ' 390 18 = nI f.2 → Q (nI f.1) σ')
    (q2 : ∀ x σ', zSign t D fr a = .inr x → Fr (scE D 24) σ0 σ' → gI σ' 390 19 = nI x.1 → AgR σ' x.2 → Q 0 σ') :
    ∀ n j s, t.1 - (sk t a + j) = n → sk t a + j ≤ t.1 → j ≤ 4 → zR zL t (sk t a + j) = zE t a → Fr (scE D 24) σ0 s → TM s t → gI s 390 19 = nI (sk t a + j) → gI s 390 24 = nI (nS D) → (∀ i, i < j → gI s 405 (4 * nS D + i) = nI (t.2 (sk t a + i) - 97)) → AI Γ (d + 2) mX12_takeSign w Q 53 [(0, .ref 390), (2, .int (nI (nS D))), (4, .int (nI j))] s := by
  have h6 := ht.1
  have hn := hD.nS
  have fin : ∀ j s, sk t a + j ≤ t.1 → j ≤ 4 → zE t a = sk t a + j → Fr (scE D 24) σ0 s → TM s t → gI s 390 19 = nI (sk t a + j) → gI s 390 24 = nI (nS D) → (∀ i, i < j → gI s 405 (4 * nS D + i) = nI (t.2 (sk t a + i) - 97)) → sgTail Γ (d + 1) w Q (nI (nS D)) (nI j) s := by
    intro j s hj hj4 he hF hT h19 h24 hL
    have ej : j = zE t a - sk t a := by omega
    have h19' : gI s 390 19 = nI (zE t a) := by rw [h19, he]
    rw [ej] at hL ⊢
    exact c_sgTail hw ht hD h20 ha hR hF hT hne (by omega) h19' h24 hL q1 q2
  intro n
  induction n with
  | zero =>
    intro j s hn' hj hj4 he hF hT h19 h24 hL
    have e : zR zL t (sk t a + j) = sk t a + j := zR_end (by omega)
    refine vX12_takeSign_53 hw ?_
    rw [hT.1, h19]
    exact ⟨fun _ => fin j s hj hj4 (he.symm.trans e) hF hT h19 h24 hL, fun c => absurd (nI_le (by omega) (by omega)) c⟩
  | succ n ih =>
    intro j s hn' hj hj4 he hF hT h19 h24 hL
    have hlt : sk t a + j < t.1 := by omega
    refine vX12_takeSign_53 hw ?_
    rw [hT.1, h19, cl (n := sk t a + j) (by omega), hT.2 _ hlt]
    refine ⟨fun c => absurd c (nI_ge hlt (by omega)), fun _ => ⟨vin (by omega), c_zL ht ?_⟩⟩
    rw [b2i_n0, b2i_0]
    refine ⟨fun c => ?_, fun c => ?_⟩
    · have e : zR zL t (sk t a + j) = sk t a + j := zR_no (fun _ => c)
      exact fin j s hj hj4 (he.symm.trans e) hF hT h19 h24 hL
    · have e : zR zL t (sk t a + j) = zR zL t (sk t a + (j + 1)) := zR_yes hlt c
      have hc : 97 ≤ t.2 (sk t a + j) := by
        unfold zL at c
        simp only [Bool.and_eq_true, decide_eq_true_eq] at c
        exact c.1
      have l4 : nI j = 4 ↔ j = 4 := nI_eq (b := 4) (by omega) (by decide)
      have ix : (4 : Int32) * nI (nS D) + nI j = nI (4 * nS D + j) := ixm 4 (nS D) j
      rw [l4, ix, h19, cl (n := 4 * nS D + j) (by omega), cl (n := sk t a + j) (by omega), hT.2 _ hlt]
      have e97 : nI (t.2 (sk t a + j)) - 97 = nI (t.2 (sk t a + j) - 97) := pk_sub (b := 97) hc
      rw [e97, nI_1, nI_1]
      refine ⟨fun c4 => ⟨vin (by omega), vin (by omega), ?_⟩, fun c4 => c_fails hw ?_⟩
      · have hFb : Fr (scE D 24) s (uI (uI s 405 (4 * nS D + j) (nI (t.2 (sk t a + j) - 97))) 390 19 (nI (sk t a + j + 1))) := (fr_I (by simp [scE, scD])).tr (fr_I (by simp [scE, scD, scP]))
        refine ih (j + 1) _ (by omega) (by omega) (by omega) (e.symm.trans he) (hF.tr hFb) (hT.fr (scE_T (by decide)) hFb) (by rw [gI_uI, if_pos ⟨rfl, rfl⟩]; rfl) (by rw [gI_uI, if_neg (by decide), gI_uI, if_neg (by omega)]; exact h24) (fun i hi => ?_)
        rw [gI_uI, if_neg (by omega), gI_uI]
        by_cases ei : i = j
        · subst ei; rw [if_pos ⟨rfl, rfl⟩]
        · rw [if_neg (by omega)]; exact hL i (by omega)
      · have g := zR_ge zL t (sk t a + (j + 1))
        refine q1 (4, sk t a + 4) _ ?_ ((hF.mono (scE_Q (by omega))).tr (fr_I (by decide))) (by rw [gI_uI, if_pos ⟨rfl, rfl⟩, c4])
        unfold zSign
        rw [if_neg h20, if_neg hne, if_pos (by omega)]
theorem c_takeSign {Q : Int32 → St → Prop} {D : PV} {fr a : Nat} {σ : St} (hw : RunW w) (ht : TxOK t) (hD : DOK D) (ha : a ≤ t.1) (hT : TM σ t) (hA : gI σ 390 19 = nI a) (hR : AgR σ D)
    (q1 : ∀ f σ', zSign t D fr a = .inl f → Fr scQ σ σ' → gI σ' 390 18 = nI f.2 → Q (nI f.1) σ')
    (q2 : ∀ x σ', zSign t D fr a = .inr x → Fr scR σ σ' → gI σ' 390 19 = nI x.1 → AgR σ' x.2 → Q 0 σ') : SpI Γ (d + 2) mX12_takeSign [.ref 390, .int (nI fr)] σ w Q := by
  have h6 := ht.1
  have hn := hD.nS
  have toR : ∀ {σ' : St}, Fr (scE D 24) σ σ' → Fr scR σ σ' := fun h => h.mono (scE_R (Or.inl rfl))
  refine SpI.of pnX12 (Nat.le_of_ble_eq_true rfl) (vX12_takeSign_0 hw ?_)
  have l20 : nI (nS D) = 20 ↔ nS D = 20 := nI_eq (b := 20) (by omega) (by decide)
  rw [hR.1.1, l20]
  refine ⟨fun c => c_here hw ht ha hT hA fun s hs h19 => c_hL ht ?_, fun c => c_fails hw ?_⟩
  · have hFs : Fr (scE D 24) σ s := hs.mono (fun o k q => scD_E o k (scP_D o k (scA_P o k q)))
    rw [b2i_n0, b2i_0, h19]
    refine ⟨fun c2 => ?_, fun c2 => c_fails hw ?_⟩
    · refine lp_takeSign (fr := fr) hw ht hD c ha hR (fun q => by rw [zP_run.mpr q] at c2; cases c2) (fun f s' z1 z2 z3 => q1 f s' z1 z2 z3) (fun x s' z1 z2 z3 z4 => q2 x s' z1 (toR z2) z3 z4) _ 0 s rfl (sk_le ha) (by decide) rfl hFs (hT.p (hs.mono scA_P)) h19 ((hs.1 _ _ (by decide)).trans hR.1.1) (fun i hi => absurd hi (Nat.not_lt_zero i))
    · refine q1 (1, sk t a) _ ?_ ((hFs.mono (scE_Q (by omega))).tr (fr_I (by decide))) (by rw [gI_uI, if_pos ⟨rfl, rfl⟩])
      unfold zSign
      rw [if_neg c, if_pos (show zE t a = sk t a from zP_run.mp c2)]
  · refine q1 (3, fr) _ ?_ (fr_I (by decide)) (by rw [gI_uI, if_pos ⟨rfl, rfl⟩])
    unfold zSign
    rw [if_pos c]
end PSG
