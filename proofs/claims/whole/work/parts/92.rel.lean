/-! the law: what the class and the reference hold between calls -/
def inM (o _k : Nat) : Bool := decide (390 ≤ o) && decide (o < 425)
def ouM (o _k : Nat) : Bool := decide (o < 390) || decide (425 ≤ o)
/-- the reference's part -/
def MRel (σ : St) (π : PV) (κ : KV) (ι : IV) (tx : List Int32) (f : Int32) : Prop := MV σ = π ∧ KM σ = κ ∧ IS σ = ι ∧ TxM σ tx ∧ gI σ 390 18 = f
/-- the class's part -/
def CRel (σ : St) (w : Wd) (P P' : Nat) (π : PV) (κ : KV) (ι : IV) (tx : List Int32) (f : Int32) : Prop := CP σ P π ∧ isP P' ∧ P ≠ P' ∧ gR σ 0 2 = some P' ∧ KR σ 320 κ ∧ ImC σ π ι ∧ TxC σ tx ∧ gI σ 1 7 = f ∧ CoS σ w π
section REL
variable {Γ : Gx} {d : Nat} {w : Wd} {σ σ' : St} {P P' : Nat} {π : PV} {κ : KV} {ι : IV} {tx : List Int32} {f : Int32} {S : Nat → Nat → Bool}
theorem mv_of (z : ∀ o k, 391 ≤ o → o ≤ 402 → gI σ' o k = gI σ o k) (z0 : ∀ k, k = 0 ∨ k = 5 ∨ k = 10 ∨ k = 12 → gI σ' 390 k = gI σ 390 k) : MV σ' = MV σ := by
  funext t i j
  unfold MV
  split
  · split
    · exact z0 0 (by decide)
    · exact z0 5 (by decide)
    · exact z0 10 (by decide)
    · exact z0 12 (by decide)
  all_goals exact z _ _ (by decide) (by decide)
theorem km_of (z : ∀ o k, 419 ≤ o → o ≤ 422 → gI σ' o k = gI σ o k) (z0 : gI σ' 390 47 = gI σ 390 47) : KM σ' = KM σ := by
  funext t i
  unfold KM
  rw [z 419 i (by decide) (by decide), z 420 i (by decide) (by decide), z 421 i (by decide) (by decide), z 422 i (by decide) (by decide), z0]
theorem is_of (z : ∀ o k, 423 ≤ o → o ≤ 424 → gI σ' o k = gI σ o k) : IS σ' = IS σ := by
  have e : ∀ k, IM σ' k = IM σ k := by
    intro k
    funext t i
    unfold IM
    simp only [z 423 _ (by decide) (by decide)]
  funext k
  unfold IS
  rw [z 424 _ (by decide) (by decide), e]
theorem txm_of (h : TxM σ tx) (z1 : gI σ' 390 17 = gI σ 390 17) (z2 : ∀ k, gI σ' 403 k = gI σ 403 k) : TxM σ' tx := ⟨z1.trans h.1, h.2.1, fun i hi => (z2 i).trans (h.2.2 i hi)⟩
theorem MRel.fr (h : MRel σ π κ ι tx f) (hf : Fr ouM σ σ') : MRel σ' π κ ι tx f := by
  have z : ∀ o k, 390 ≤ o → o < 425 → gI σ' o k = gI σ o k := fun o k h1 h2 => hf.1 o k (by unfold ouM; simp; omega)
  obtain ⟨h1, h2, h3, h4, h5⟩ := h
  exact ⟨(mv_of (fun o k a b => z o k (by omega) (by omega)) (fun k _ => z 390 k (by decide) (by decide))).trans h1, (km_of (fun o k a b => z o k (by omega) (by omega)) (z 390 47 (by decide) (by decide))).trans h2, (is_of (fun o k a b => z o k (by omega) (by omega))).trans h3, txm_of h4 (z 390 17 (by decide) (by decide)) (fun k => z 403 k (by decide) (by decide)), (z 390 18 (by decide) (by decide)).trans h5⟩
theorem MRel.u {κ' : KV} (h : MRel σ π κ ι tx f) (e : EqU σ σ') (hK : KM σ' = κ') : MRel σ' π κ' ι tx f := by
  obtain ⟨h1, h2, h3, h4, h5⟩ := h
  exact ⟨e.mv.trans h1, hK, e.is.trans h3, txm_of h4 (e.1 _ _ (by decide)) (fun k => e.1 403 k (by simp [scrU, scrC, scrM])), (e.1 390 18 (by decide)).trans h5⟩
theorem MRel.c (h : MRel σ π κ ι tx f) (e : EqC σ σ') : MRel σ' π κ ι tx f := h.u e.u (e.km.trans h.2.1)
theorem MRel.m (h : MRel σ π κ ι tx f) (e : EqM σ σ') : MRel σ' π κ ι tx f := h.c e.c
theorem MRel.i {ι' : IV} (h : MRel σ π κ ι tx f) (e : EqI σ σ') (hK : KM σ' = κ) (hI : IS σ' = ι') : MRel σ' π κ ι' tx f := by
  obtain ⟨h1, h2, h3, h4, h5⟩ := h
  refine ⟨(mv_of (fun o k a b => e.1 o k ?_) (fun k hk => e.1 390 k ?_)).trans h1, hK, hI, txm_of h4 (e.1 _ _ (by decide)) (fun k => e.1 403 k (by simp [scrI, scrU, scrC, scrM])), (e.1 390 18 (by decide)).trans h5⟩
  · have n0 : ¬ o = 390 := by omega
    simp [scrI, scrU, scrC, scrM, n0]
    omega
  · rcases hk with rfl | rfl | rfl | rfl <;> decide
theorem MRel.t {tx' : List Int32} (h : MRel σ π κ ι tx f) (e : EqT σ σ') (hT : TxM σ' tx') : MRel σ' π κ ι tx' f := ⟨e.mv.trans h.1, e.km.trans h.2.1, e.is.trans h.2.2.1, hT, (e.1 390 18 (by decide)).trans h.2.2.2.2⟩
-- the reference changes its own cells alone
theorem lo_M {o k : Nat} (h : inM o k = false) : o < 390 ∨ 425 ≤ o := by
  unfold inM at h
  simp at h
  omega
theorem fr_EqI (e : EqI σ σ') : Fr inM σ σ' := by
  refine ⟨fun o k h => e.1 o k ?_, fun o k h => e.2.1 o k (by have := lo_M h; omega) (by have := lo_M h; omega), fun o k h => e.2.2 o k⟩
  have := lo_M h
  have n0 : ¬ o = 390 := by omega
  simp [scrI, scrU, scrC, scrM, n0]
  omega
theorem fr_EqU (e : EqU σ σ') : Fr inM σ σ' := fr_EqI ⟨fun o k h => e.1 o k (by unfold scrI at h; simp only [Bool.or_eq_false_iff] at h; exact h.1.1), e.2⟩
theorem fr_EqC (e : EqC σ σ') : Fr inM σ σ' := fr_EqU e.u
theorem fr_EqM (e : EqM σ σ') : Fr inM σ σ' := fr_EqU e.u
theorem fr_EqT (e : EqT σ σ') : Fr inM σ σ' := by
  refine ⟨fun o k h => e.1 o k ?_, fun o k h => e.2.1 o k, fun o k h => e.2.2 o k⟩
  have := lo_M h
  have n0 : ¬ o = 390 := by omega
  simp [scrT, n0]
  omega
theorem fr_Own (e : OwnM σ σ') : Fr inM σ σ' := ⟨fun o k h => e.1 o k (lo_M h), fun o k h => e.2.1 o k (lo_M h), fun o k h => e.2.2 o k (lo_M h)⟩
-- what the class holds, where it is not touched
theorem cp_fr (h : CP σ P π) (hF : WF π) (hS : ∀ o k, P ≤ o → o ≤ P + 155 → S o k = false) (h0 : S 0 1 = false) (hf : Fr S σ σ') : CP σ' P π := by
  have ip : ∀ o k, inPr P o → S o k = false := fun o k q => hS o k (by unfold inPr at q; omega) (by unfold inPr at q; omega)
  exact ⟨(hf.2.2 0 1 h0).trans h.1, h.2.1, h.2.2.1.fr hF ip hf, h.2.2.2.1.fr hF ip hf, fun a ha => by rw [hf.1 _ _ (hS (P + 19) a (by omega) (by omega))]; exact h.2.2.2.2 a ha⟩
theorem imA_or (k : Nat) : imA k = 344 ∨ imA k = 367 := by
  unfold imA
  by_cases h : k = 1
  · rw [if_pos h]; exact Or.inr rfl
  · rw [if_neg h]; exact Or.inl rfl
theorem im_fr (h : ImC σ π ι) (hS : ∀ o k, 344 ≤ o → o ≤ 389 → S o k = false) (h0 : S 0 7 = false) (hf : Fr S σ σ') : ImC σ' π ι := by
  intro k hk
  rw [hf.1 0 7 h0]
  rcases h k hk with q | ⟨κ, q1, q2, q3, q4⟩
  · exact Or.inl q
  · refine Or.inr ⟨κ, q1, q2, q3.fr (fun o j a b => hS o j ?_ ?_) hf, q4⟩ <;> (have := imA_or k; omega)
theorem tx_fr (h : TxC σ tx) (hS : ∀ k, S 2 k = false) (h0 : S 1 1 = false) (hf : Fr S σ σ') : TxC σ' tx := ⟨(hf.1 1 1 h0).trans h.1, h.2.1, fun i hi => (hf.1 2 i (hS i)).trans (h.2.2 i hi)⟩
theorem co_fr (h : CoS σ w π) (hS : ∀ o k, 425 ≤ o → S o k = false) (h0 : S 0 8 = false) (hf : Fr S σ σ') : CoS σ' w π := by
  rcases h with ⟨h1, h2⟩ | ⟨h1, h2, h3⟩
  · exact Or.inl ⟨h1, (hf.2.2 0 8 h0).trans h2⟩
  · refine Or.inr ⟨h1, (hf.2.2 0 8 h0).trans h2, fun p u hp hu a b => ?_⟩
    have z : ∀ o k, 425 ≤ o → gI σ' o k = gI σ o k := fun o k q => hf.1 o k (hS o k q)
    rw [z 425 5 (by decide)] at a
    rw [z 425 6 (by decide)] at b
    have := h3 p u hp hu a b
    unfold ResC at this ⊢
    rw [z 425 9 (by decide)]
    refine ⟨fun q => ?_, this.2⟩
    obtain ⟨r1, r2, r3, r4⟩ := this.1 q
    exact ⟨r1, r2, r3, fun k hk => by rw [z 429 k (by decide)]; exact r4 k hk⟩
theorem CRel.fr (h : CRel σ w P P' π κ ι tx f) (hF : WF π) (hf : Fr inM σ σ') : CRel σ' w P P' π κ ι tx f := by
  obtain ⟨h1, h2, h3, h4, h5, h6, h7, h8, h9⟩ := h
  have hP := P_lt h1.2.1
  have z : ∀ o k, o < 390 ∨ 425 ≤ o → inM o k = false := fun o k q => by unfold inM; simp; omega
  exact ⟨cp_fr h1 hF (fun o k a b => z o k (by omega)) (z _ _ (by decide)) hf, h2, h3, (hf.2.2 0 2 (z _ _ (by decide))).trans h4, h5.fr (fun o k a b => z o k (by omega)) hf, im_fr h6 (fun o k a b => z o k (by omega)) (z _ _ (by decide)) hf, tx_fr h7 (fun k => z _ _ (by decide)) (z _ _ (by decide)) hf, (hf.1 1 7 (z _ _ (by decide))).trans h8, co_fr h9 (fun o k a => z o k (by omega)) (z _ _ (by decide)) hf⟩
theorem scAsk_z (hP : isP P) : ∀ o k, (o < 3 ∨ 320 ≤ o) → scAsk P o k = false := by
  intro o k h
  have := P_lt hP
  have := P_ge hP
  unfold scAsk
  simp only [Bool.or_eq_false_iff, beq_eq_false_iff_ne, Bool.and_eq_false_iff, decide_eq_false_iff_not]
  omega
theorem CRel.ask (h : CRel σ w P P' π κ ι tx f) (hA : AskC P π σ σ') : CRel σ' w P P' π κ ι tx f := by
  obtain ⟨h1, h2, h3, h4, h5, h6, h7, h8, h9⟩ := h
  have z := scAsk_z h1.2.1
  obtain ⟨hf, hC⟩ := hA
  exact ⟨hC, h2, h3, (hf.2.2 0 2 (z _ _ (by decide))).trans h4, h5.fr (fun o k a b => z o k (by omega)) hf, im_fr h6 (fun o k a b => z o k (by omega)) (z _ _ (by decide)) hf, tx_fr h7 (fun k => z _ _ (by decide)) (z _ _ (by decide)) hf, (hf.1 1 7 (z _ _ (by decide))).trans h8, co_fr h9 (fun o k a => z o k (by omega)) (z _ _ (by decide)) hf⟩
theorem CRel.ch {κ' : KV} (h : CRel σ w P P' π κ ι tx f) (hA : ChC P π σ σ') (hK : KR σ' 320 κ') : CRel σ' w P P' π κ' ι tx f := by
  obtain ⟨h1, h2, h3, h4, h5, h6, h7, h8, h9⟩ := h
  have z : ∀ o k, (o < 3 ∨ 343 ≤ o) → scCh P o k = false := by
    intro o k q
    unfold scCh
    rw [scAsk_z h1.2.1 o k (by omega)]
    unfold scSc
    simp
    omega
  obtain ⟨hf, hC⟩ := hA
  exact ⟨hC, h2, h3, (hf.2.2 0 2 (z _ _ (by decide))).trans h4, hK, im_fr h6 (fun o k a b => z o k (by omega)) (z _ _ (by decide)) hf, tx_fr h7 (fun k => z _ _ (by decide)) (z _ _ (by decide)) hf, (hf.1 1 7 (z _ _ (by decide))).trans h8, co_fr h9 (fun o k a => z o k (by omega)) (z _ _ (by decide)) hf⟩
theorem CRel.im {κ' : KV} {ι' : IV} (h : CRel σ w P P' π κ ι tx f) (hF : WF π) (hf : Fr scIm σ σ') (hK : KR σ' 320 κ') (hI : ImC σ' π ι') : CRel σ' w P P' π κ' ι' tx f := by
  obtain ⟨h1, h2, h3, h4, h5, h6, h7, h8, h9⟩ := h
  have hlt := P_lt h1.2.1
  have hge := P_ge h1.2.1
  have z : ∀ o k, (1 ≤ o ∧ o < 320) ∨ 425 ≤ o → scIm o k = false := by
    intro o k q
    have n0 : ¬ o = 0 := by omega
    unfold scIm
    simp [n0]
    omega
  exact ⟨cp_fr h1 hF (fun o k a b => z o k (by omega)) (by decide) hf, h2, h3, (hf.2.2 0 2 (by decide)).trans h4, hK, hI, tx_fr h7 (fun k => z _ _ (by decide)) (z _ _ (by decide)) hf, (hf.1 1 7 (z _ _ (by decide))).trans h8, co_fr h9 (fun o k a => z o k (by omega)) (by decide) hf⟩
theorem CRel.fed {tx' : List Int32} (h : CRel σ w P P' π κ ι tx f) (hF : WF π) (hf : Fr scTx σ σ') (hT : TxC σ' tx') : CRel σ' w P P' π κ ι tx' f := by
  obtain ⟨h1, h2, h3, h4, h5, h6, h7, h8, h9⟩ := h
  have hge := P_ge h1.2.1
  have z : ∀ o k, ¬ o = 2 → ¬ o = 1 → scTx o k = false := by
    intro o k q1 q2
    unfold scTx
    simp [q1, q2]
  exact ⟨cp_fr h1 hF (fun o k a b => z o k (by omega) (by omega)) (by decide) hf, h2, h3, (hf.2.2 0 2 (by decide)).trans h4, h5.fr (fun o k a b => z o k (by omega) (by omega)) hf, im_fr h6 (fun o k a b => z o k (by omega) (by omega)) (by decide) hf, hT, (hf.1 1 7 (by decide)).trans h8, co_fr h9 (fun o k a => z o k (by omega) (by omega)) (by decide) hf⟩
theorem txc_nil (h : gI σ 1 1 = 0) : TxC σ [] := ⟨h, by decide, fun i hi => absurd hi (Nat.not_lt_zero i)⟩
theorem CRel.pe {f' : Int32} (h : CRel σ w P P' π κ ι tx f) (hF : WF π) (hf : Fr (scPa P') σ σ') (hT : gI σ' 1 1 = 0) (hQ : gI σ' 1 7 = f') : CRel σ' w P P' π κ ι [] f' := by
  obtain ⟨h1, h2, h3, h4, h5, h6, h7, h8, h9⟩ := h
  have z : ∀ o k, (o = 0 ∨ (P ≤ o ∧ o ≤ P + 155) ∨ 315 ≤ o) → scPa P' o k = false := by
    intro o k q
    unfold scPa
    simp only [Bool.or_eq_false_iff, beq_eq_false_iff_ne, Bool.and_eq_false_iff, decide_eq_false_iff_not]
    have a1 := h1.2.1
    unfold isP at a1 h2
    omega
  exact ⟨cp_fr h1 hF (fun o k a b => z o k (by omega)) (z _ _ (by omega)) hf, h2, h3, (hf.2.2 0 2 (z _ _ (by omega))).trans h4, h5.fr (fun o k a b => z o k (by omega)) hf, im_fr h6 (fun o k a b => z o k (by omega)) (z _ _ (by omega)) hf, txc_nil hT, hQ, co_fr h9 (fun o k a => z o k (by omega)) (z _ _ (by omega)) hf⟩
theorem im_0 (h : gI σ 0 7 = 0) : ImC σ π im0 := fun k _ => Or.inl ⟨rfl, by rw [h]; exact b_0 k⟩
theorem CRel.pg {D : PV} (h : CRel σ w P P' π κ ι tx f) (hf : Fr (scPrm P') σ σ') (hC : CP σ' P' D) (hrow : ∀ a, a < 128 → gI σ' (P' + 19) a = -1) (h2' : gR σ' 0 2 = some P) (hK : KR σ' 320 (begK κ)) (h7' : gI σ' 0 7 = 0) (hT : gI σ' 1 1 = 0) (hQ : gI σ' 1 7 = -1) (hco : gR σ 0 8 = some 425 → gI σ' 425 5 = -1) {π' : PV} (hA : AgV π' D) (hF : WF π') : CRel σ' w P' P π' (begK κ) im0 [] (-1) := by
  obtain ⟨h1, h2, h3, h4, h5, h6, h7, h8, h9⟩ := h
  have n7 := hF.1.2.2.1.2
  refine ⟨⟨hC.1, h2, AgV.tr hC.2.2.1 hA.sy, hC.2.2.2.1.ag hA, fun a ha => Or.inl (hrow a ?_)⟩, h1.2.1, Ne.symm h3, h2', hK, im_0 h7', txc_nil hT, hQ, ?_⟩
  · have := Nat.pow_le_pow_right (show 0 < 2 by decide) n7
    omega
  · have e8 : gR σ' 0 8 = gR σ 0 8 := hf.2.2 0 8 (by
      unfold scPrm scPa scSc
      simp
      unfold isP at h2
      omega)
    rcases h9 with ⟨a1, a2⟩ | ⟨a1, a2, a3⟩
    · exact Or.inl ⟨a1, e8.trans a2⟩
    · refine Or.inr ⟨a1, e8.trans a2, fun p u hp hu b1 _ => ?_⟩
      rw [hco a2] at b1
      exact absurd b1.symm (nI_ne_m1 (by have := hF.1.2.2.2.2; omega))
theorem CRel.crs {w' : Wd} (h : CRel σ w P P' π κ ι tx f) (hf : Fr (scCrs P) σ σ') (hC : CP σ' P π) (hO : CoS σ' w' π) : CRel σ' w' P P' π κ ι tx f := by
  obtain ⟨h1, h2, h3, h4, h5, h6, h7, h8, h9⟩ := h
  have z : ∀ o k, ((o < 3 ∧ ¬ (o = 0 ∧ k = 8)) ∨ (320 ≤ o ∧ o < 425)) → scCrs P o k = false := by
    intro o k q
    unfold scCrs
    rw [scAsk_z h1.2.1 o k (by omega)]
    simp
    omega
  exact ⟨hC, h2, h3, (hf.2.2 0 2 (z _ _ (by decide))).trans h4, h5.fr (fun o k a b => z o k (by omega)) hf, im_fr h6 (fun o k a b => z o k (by omega)) (z _ _ (by decide)) hf, tx_fr h7 (fun k => z _ _ (by omega)) (z _ _ (by decide)) hf, (hf.1 1 7 (z _ _ (by decide))).trans h8, hO⟩
-- the class leaves the reference's cells
theorem scAsk_o (hP : isP P) : ∀ o k, scAsk P o k = true → ouM o k = true := by
  intro o k h
  have := P_lt hP
  unfold scAsk at h
  unfold ouM
  simp only [Bool.or_eq_true, Bool.and_eq_true, beq_iff_eq, decide_eq_true_eq] at h ⊢
  omega
theorem scCh_o (hP : isP P) : ∀ o k, scCh P o k = true → ouM o k = true := by
  intro o k h
  have := P_lt hP
  unfold scCh scAsk scSc at h
  unfold ouM
  simp only [Bool.or_eq_true, Bool.and_eq_true, beq_iff_eq, decide_eq_true_eq] at h ⊢
  omega
theorem scIm_o : ∀ o k, scIm o k = true → ouM o k = true := by
  intro o k h
  unfold scIm at h
  unfold ouM
  simp only [Bool.or_eq_true, Bool.and_eq_true, beq_iff_eq, decide_eq_true_eq] at h ⊢
  omega
theorem scTx_o : ∀ o k, scTx o k = true → ouM o k = true := by
  intro o k h
  unfold scTx at h
  unfold ouM
  simp only [Bool.or_eq_true, Bool.and_eq_true, beq_iff_eq, decide_eq_true_eq] at h ⊢
  omega
theorem scPa_o (hP : isP P) : ∀ o k, scPa P o k = true → ouM o k = true := by
  intro o k h
  have := P_lt hP
  unfold scPa at h
  unfold ouM
  simp only [Bool.or_eq_true, Bool.and_eq_true, beq_iff_eq, decide_eq_true_eq] at h ⊢
  omega
theorem scPrm_o (hP : isP P) : ∀ o k, scPrm P o k = true → ouM o k = true := by
  intro o k h
  have := P_lt hP
  unfold scPrm scPa scSc at h
  unfold ouM
  simp only [Bool.or_eq_true, Bool.and_eq_true, beq_iff_eq, decide_eq_true_eq] at h ⊢
  omega
theorem scCrs_o (hP : isP P) : ∀ o k, scCrs P o k = true → ouM o k = true := by
  intro o k h
  have := P_lt hP
  unfold scCrs scAsk at h
  unfold ouM
  simp only [Bool.or_eq_true, Bool.and_eq_true, beq_iff_eq, decide_eq_true_eq] at h ⊢
  omega
/-- both, between calls -/
def Both (σ : St) (w : Wd) (P P' : Nat) (π : PV) (κ : KV) (ι : IV) (tx : List Int32) (f : Int32) : Prop := CRel σ w P P' π κ ι tx f ∧ MRel σ π κ ι tx f ∧ WF π ∧ KOK π κ ∧ TxB tx
def Inv (σ : St) (w : Wd) : Prop := ∃ P P' π κ ι tx f, Both σ w P P' π κ ι tx f
theorem kok_b : KOK π (begK κ) := fun q _ => ⟨fun k _ _ => rfl, fun k _ _ => rfl⟩
theorem CoS.run (h : CoS σ w π) : RunW w := by
  rcases h with ⟨h1, _⟩ | ⟨h1, _, _⟩
  · rw [h1]; exact run425
  · rw [h1]; exact runC430.run
theorem CoS.cow (h : CoS σ w π) : CoW σ w := by
  rcases h with ⟨_, h2⟩ | ⟨h1, h2, _⟩
  · exact Or.inl h2
  · rw [h1]; exact Or.inr ⟨h2, runC430⟩
end REL
