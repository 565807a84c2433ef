/-! the reference reads its text: lessons, pages, clauses -/
def erOK (f : Er) : Prop := 1 ≤ f.1 ∧ f.1 ≤ 6
theorem zNum_erK {t : Tx} {bd a : Nat} {f : Er} (h : zNum t bd a = .inl f) : erOK f := by
  have := (zNum_er h).1
  unfold erOK
  omega
theorem zSnd_er {t : Tx} {a : Nat} {f : Er} (h : zSnd t a = .inl f) : erOK f := by
  unfold zSnd at h
  split at h
  · cases h
  · split at h
    · rename_i g hg
      cases h
      exact zNum_erK hg
    · cases h
theorem zSide_er {t : Tx} {a : Nat} {f : Er} (h : zSide t a = .inl f) : erOK f := by
  unfold zSide at h
  split at h
  · cases h
  · split at h
    · cases h
    · split at h
      · cases h
      · cases h
        exact ⟨Nat.le_of_ble_eq_true rfl, Nat.le_of_ble_eq_true rfl⟩
theorem zSign_er {t : Tx} {D : PV} {fr a : Nat} {f : Er} (h : zSign t D fr a = .inl f) : erOK f := by
  unfold zSign at h
  split at h
  · cases h; exact ⟨Nat.le_of_ble_eq_true rfl, Nat.le_of_ble_eq_true rfl⟩
  · split at h
    · cases h; exact ⟨Nat.le_of_ble_eq_true rfl, Nat.le_of_ble_eq_true rfl⟩
    · split at h
      · cases h; exact ⟨Nat.le_of_ble_eq_true rfl, Nat.le_of_ble_eq_true rfl⟩
      · split at h
        · rename_i g hg
          cases h
          exact zSnd_er hg
        · split at h
          · rename_i g hg
            cases h
            exact zSide_er hg
          · cases h
theorem zSnds_er {t : Tx} : ∀ f a ss g, t.1 < a + f → a ≤ t.1 → zSnds t f a ss = .inl g → erOK g := by
  intro f
  induction f with
  | zero => intro a ss g h1 h2; omega
  | succ f ih =>
    intro a ss g h1 h2 h
    unfold zSnds at h
    split at h
    · rename_i x hx
      cases h
      exact zNum_erK hx
    · rename_i x hx
      obtain ⟨-, -, b3, b4, -⟩ := zNum_ok hx h2
      have := sk_ge t x.1
      split at h
      · cases h; exact ⟨Nat.le_of_ble_eq_true rfl, Nat.le_of_ble_eq_true rfl⟩
      · split at h
        · exact ih _ _ g (by omega) (sk_le b4) h
        · cases h
theorem zWord_er {t : Tx} {D : PV} {fr a : Nat} {f : Er} (ht : TxOK t) (ha : a ≤ t.1) (h : zWord t D fr a = .inl f) : erOK f := by
  have h6 := ht.1
  unfold zWord at h
  split at h
  · cases h; exact ⟨Nat.le_of_ble_eq_true rfl, Nat.le_of_ble_eq_true rfl⟩
  · split at h
    · cases h; exact ⟨Nat.le_of_ble_eq_true rfl, Nat.le_of_ble_eq_true rfl⟩
    · split at h
      · cases h; exact ⟨Nat.le_of_ble_eq_true rfl, Nat.le_of_ble_eq_true rfl⟩
      · split at h
        · cases h; exact ⟨Nat.le_of_ble_eq_true rfl, Nat.le_of_ble_eq_true rfl⟩
        · split at h
          · rename_i g hg
            cases h
            exact zSnds_er _ _ _ _ (by omega) (zE_le ha) hg
          · cases h
theorem zPg_er {t : Tx} {D : PV} : ∀ f a l g, t.1 < a + f → a ≤ t.1 → zPg t D f a l = .inl g → erOK g := by
  intro f
  induction f with
  | zero => intro a l g h1 h2; omega
  | succ f ih =>
    intro a l g h1 h2 h
    have e1 := zE_le h2
    have e2 := zE_ge t a
    have e3 := sk_ge t a
    have e4 := sk_ge t (zE t a)
    unfold zPg at h
    split at h
    · cases h; exact ⟨Nat.le_of_ble_eq_true rfl, Nat.le_of_ble_eq_true rfl⟩
    · split at h
      · cases h; exact ⟨Nat.le_of_ble_eq_true rfl, Nat.le_of_ble_eq_true rfl⟩
      · split at h
        · cases h; exact ⟨Nat.le_of_ble_eq_true rfl, Nat.le_of_ble_eq_true rfl⟩
        · split at h
          · exact ih _ _ g (by omega) (sk_le e1) h
          · cases h
theorem zPage_er {t : Tx} {D : PV} {fr a : Nat} {f : Er} (ht : TxOK t) (ha : a ≤ t.1) (h : zPage t D fr a = .inl f) : erOK f := by
  have h6 := ht.1
  unfold zPage at h
  split at h
  · cases h; exact ⟨Nat.le_of_ble_eq_true rfl, Nat.le_of_ble_eq_true rfl⟩
  · split at h
    · rename_i g hg
      cases h
      exact zPg_er _ _ _ _ (by omega) ha hg
    · cases h
theorem zSt_0 {t : Tx} {D : PV} {a : Nat} {S : Nat → Int32} (h : zC t (sk t a) 59 = false) : zSt t D 0 S a = .inl (1, sk t a) := by
  show (if zC t (sk t a) 59 then _ else _) = _
  rw [h]
  rfl
theorem zSt_1 {t : Tx} {D : PV} {a : Nat} {S : Nat → Int32} (h : zC t (sk t a) 59 = true) : zSt t D 0 S a = .inr (sk t a + 1, adL D (S 0) (S 1) (S 2)) := by
  show (if zC t (sk t a) 59 then _ else _) = _
  rw [h]
  rfl
theorem kwN_len : ∀ j, j < 3 → (kwN j).length = 5 := by decide +kernel
section PLE
variable {Γ : Gx} {d : Nat} {w : Wd} {t : Tx}
theorem lp_lesson50 {Q : Int32 → St → Prop} {D : PV} {fr a0 : Nat} {σ0 : St} (hw : RunW w) (ht : TxOK t) (hD : DOK D) (h7 : nL D ≠ 7) (hR : AgR σ0 D)
    (q1 : ∀ f σ', zSemi t (zLesson t D fr a0) = .inl f → erOK f → Fr scQ σ0 σ' → gI σ' 390 18 = nI f.2 → Q (nI f.1) σ')
    (q2 : ∀ x σ', zSemi t (zLesson t D fr a0) = .inr x → 1 ≤ x.1 → zC t (x.1 - 1) 59 = true → Fr (scE D 34) σ0 σ' → gI σ' 390 19 = nI (x.1 - 1) → AgR σ' x.2 → Q 0 σ') :
    ∀ N n S a s, n < N → n ≤ 3 → (∀ j, 3 - n ≤ j → S j = 0) → a ≤ t.1 → Fr (scE D 34) σ0 s → TM s t → gI s 390 19 = nI a → gI s 390 34 = nI (nL D) → (∀ j, j < 3 → gI s 412 (3 * nL D + j) = S j) → zSt t D n S a = zSemi t (zLesson t D fr a0) → AI Γ (d + 3) mX12_takeLesson w Q 50 [(0, .ref 390), (2, .int (nI (3 * nL D))), (3, .int (dn (3 - n)))] s := by
  have h6 := ht.1
  have hn := hD.nL
  have hnS := hD.nS
  have hnW := hD.nW
  have pE : ∀ {σ σ' : St}, Fr scP σ σ' → Fr (scE D 34) σ σ' := fun h => h.mono (fun o k q => scD_E o k (scP_D o k q))
  have plE : ∀ {σ σ' : St}, Fr scPL σ σ' → Fr (scE D 34) σ σ' := fun h => h.mono (fun o k q => scD_E o k (scPL_D o k q))
  intro N
  induction N with
  | zero => intro n S a s hN; omega
  | succ N ih =>
    intro n S a s hN hn3 hS ha hF hT h19 h34 hC heq
    have e1 := zE_le ha
    have e2 := zE_ge t a
    refine vX12_takeLesson_50 hw (c_here hw ht ha hT h19 fun s1 y1 y2 => ?_)
    have h59 : hd t (sk t a) = 59 ↔ zC t (sk t a) 59 = true := hd_eq (c := 59) ht (by decide)
    have hF1 : Fr (scE D 34) σ0 s1 := hF.tr (pE (y1.mono scA_P))
    have hT1 : TM s1 t := hT.p (y1.mono scA_P)
    have g34 : gI s1 390 34 = nI (nL D) := (y1.1 _ _ (by decide)).trans h34
    have gC : ∀ j, j < 3 → gI s1 412 (3 * nL D + j) = S j := fun j hj => (y1.1 _ _ (by simp [scA])).trans (hC j hj)
    rw [h59]
    refine ⟨fun c => ?_, fun c => ?_⟩
    · -- the end
      have noK : zE t a = sk t a := zR_no (fun _ => by
        rw [(zC_pos c).2]
        decide)
      have e3 : zSt t D n S a = zSt t D 0 S a := zSt_to n 0 (Nat.zero_le _) (fun i _ hi => ⟨by
        unfold zK
        rw [kwN_len (2 - i) (by omega), noK]
        simp, hS (2 - i) (by omega)⟩)
      rw [e3, zSt_1 c] at heq
      have hF2 : Fr (scE D 34) σ0 (uI s1 390 34 (gI s1 390 34 + 1)) := hF1.tr (fr_I (by simp [scE]))
      refine q2 _ _ heq.symm (Nat.succ_pos _) c hF2 (by rw [gI_uI, if_neg (by decide)]; exact y2) (hR.lesson hD hF2 (by rw [gI_uI, if_pos ⟨rfl, rfl⟩, g34, nI_1]) ?_ ?_ ?_)
      · rw [gI_uI, if_neg (by omega)]; exact gC 0 (by decide)
      · rw [gI_uI, if_neg (by omega)]; exact gC 1 (by decide)
      · rw [gI_uI, if_neg (by omega)]; exact gC 2 (by decide)
    · have c' : zC t (sk t a) 59 = false := by simpa using c
      refine c_readWord hw ht (sk_le ha) hT1 y2 fun s3 y3 hW => ?_
      have hsk : sk t (sk t a) = sk t a := sk_sk t a
      have hzE : zE t (sk t a) = zE t a := zE_sk t a
      have hF3 : Fr (scE D 34) σ0 s3 := hF1.tr (pE (y3.mono scW_P))
      have hT3 : TM s3 t := hT1.p (y3.mono scW_P)
      have w19 : gI s3 390 19 = nI (sk t a) := hW.1.trans (by rw [hsk])
      have w21 : gI s3 390 21 = nI (zE t a) := hW.2.1.trans (by rw [hzE])
      have k34 : gI s3 390 34 = nI (nL D) := (y3.1 _ _ (by decide)).trans g34
      have k24 : gI s3 390 24 = nI (nS D) := (hF3.1 _ _ (scE_n (by omega) (by decide))).trans hR.1.1
      have k29 : gI s3 390 29 = nI (nW D) := (hF3.1 _ _ (scE_n (by omega) (by decide))).trans hR.1.2.1
      have kC : ∀ j, j < 3 → gI s3 412 (3 * nL D + j) = S j := fun j hj => (y3.1 _ _ (by simp [scW])).trans (gC j hj)
      have kA := hW.kw (l := kAfter) ht (kwL kAfter (by decide)).1 (kwL kAfter (by decide)).2
      have kS := hW.kw (l := kSigns) ht (kwL kSigns (by decide)).1 (kwL kSigns (by decide)).2
      have kT := hW.kw (l := kSight) ht (kwL kSight (by decide)).1 (kwL kSight (by decide)).2
      rw [hsk, hzE] at kA kS kT
      -- no word that may stand there
      have bad : (∀ j, j < 3 → 3 - n ≤ j → zK t (sk t a) (zE t a) (kwN j) = false) → SpI Γ (d + 2) mX12_fails [.ref 390, .int 1, .int (gI s3 390 19)] s3 w (fun v s => Q v s) := by
        intro hno
        have e3 : zSt t D n S a = zSt t D 0 S a := zSt_to n 0 (Nat.zero_le _) (fun i _ hi => ⟨hno (2 - i) (by omega) (by omega), hS (2 - i) (by omega)⟩)
        rw [e3, zSt_0 c'] at heq
        refine c_fails hw (q1 _ _ heq.symm ⟨Nat.le_of_ble_eq_true rfl, Nat.le_of_ble_eq_true rfl⟩ ((hF3.mono (scE_Q (by omega))).tr (fr_I (by decide))) ?_)
        rw [gI_uI, if_pos ⟨rfl, rfl⟩]
        exact w19
      -- a list
      have take : ∀ j, j < 3 → 3 - n ≤ j → zK t (sk t a) (zE t a) (kwN j) = true → SpI Γ (d + 2) mX12_takeList [.ref 390, .int (nI (bdN D j) - 1)] (uI s3 390 19 (gI s3 390 21)) w (fun v s4 => ((v ≤ 0 → (vp_in (nI (3 * nL D) + nI j) 21) ∧ AI Γ (d + 3) mX12_takeLesson w Q 50 [(0, .ref 390), (2, .int (nI (3 * nL D))), (3, .int (nI j))] (uI s4 412 (nI (3 * nL D) + nI j).toNatClampNeg (gI s4 390 39))) ∧ (¬ v ≤ 0 → Q v s4))) := by
        intro j hj hjn hk
        have hbd : bdN D j ≤ 24 := by
          unfold bdN
          split
          · omega
          · split <;> omega
        have e3 : zSt t D n S a = zSt t D (2 - j + 1) S a := zSt_to n (2 - j + 1) (by omega) (fun i hi hi2 => ⟨zK_ne hk (kwN_ne j hj (2 - i) (by omega) (by omega)), hS (2 - i) (by omega)⟩)
        have hj2 : 2 - (2 - j) = j := by omega
        have e4 := zSt_take (t := t) (D := D) (n := 2 - j) (a := a) (S := S) (by rw [hj2]; exact hk)
        rw [hj2] at e4
        rw [e3, e4] at heq
        rw [w21]
        have hFb : Fr (scE D 34) s3 (uI s3 390 19 (nI (zE t a))) := fr_I (by simp [scE, scD, scP])
        refine c_takeList hw ht hbd e1 (hT3.p (fr_I (by decide))) (by rw [gI_uI, if_pos ⟨rfl, rfl⟩]) (fun f s4 z1 z2 z3 z4 => ?_) (fun x s4 z1 z2 z3 z4 => ?_)
        · rw [z1] at heq
          have hp : ¬ nI f.1 ≤ 0 := nI_nle (by have := z2.1; omega) (by have := z2.2; omega)
          exact ⟨fun q => absurd q hp, fun _ => q1 f s4 heq.symm z2 (((hF3.tr hFb).mono (scE_Q (by omega))).tr z3) z4⟩
        · rw [z1] at heq
          dsimp only at heq
          obtain ⟨-, x2, -⟩ := zList_ok hbd _ _ _ x z1 e1 ⟨0, Nat.two_pow_pos _, rfl⟩
          refine ⟨fun _ => ?_, fun q => absurd (by decide) q⟩
          rw [nI_add, cl (by omega), z4]
          refine ⟨vin (by omega), ?_⟩
          have hFc : Fr (scE D 34) s4 (uI s4 412 (3 * nL D + j) x.2) := fr_I (by simp [scE, scD])
          have r := ih (2 - j) (fun i => if i = j then x.2 else S i) x.1 (uI s4 412 (3 * nL D + j) x.2) (by omega) (by omega) (fun i hi => by rw [if_neg (by omega)]; exact hS i (by omega)) x2 (hF3.tr (hFb.tr ((plE z2).tr hFc))) (((hT3.p (fr_I (by decide))).fr scPL_T z2).fr (scE_T (by decide)) hFc) (by rw [gI_uI, if_neg (by omega)]; exact z3) (by rw [gI_uI, if_neg (by omega), z2.1 _ _ (by decide), gI_uI, if_neg (by decide)]; exact k34) (fun i hi => ?_) heq
          · rw [show 3 - (2 - j) = j + 1 by omega, ← ind_m1 j hj] at r
            exact r
          · rw [gI_uI]
            by_cases ei : i = j
            · subst ei
              rw [if_pos ⟨rfl, rfl⟩, if_pos rfl]
            · rw [if_neg (by omega), if_neg ei, z2.1 _ _ (by simp [scPL, scP]), gI_uI, if_neg (by omega)]
              exact kC i hi
      obtain ⟨d0, d1, d2, d3⟩ := dn_lt (3 - n) (by omega)
      refine c_code (n := enc kAfter 4) (by decide) (c_longer (n := enc kAfter 5) (by decide) ?_)
      have kA' : lg_cmp (gJ s3 390 20) (lN (enc kAfter 5)) = 0 ↔ zK t (sk t a) (zE t a) kAfter = true := kA
      have kS' : lg_cmp (gJ s3 390 20) (lN (enc kSigns 5)) = 0 ↔ zK t (sk t a) (zE t a) kSigns = true := kS
      have kT' : lg_cmp (gJ s3 390 20) (lN (enc kSight 5)) = 0 ↔ zK t (sk t a) (zE t a) kSight = true := kT
      rw [kA', d0, k34]
      refine ⟨fun nA => c_code (n := enc kSigns 4) (by decide) (c_longer (n := enc kSigns 5) (by decide) ?_), fun yA => ⟨fun q => ?_, fun q => bad fun j hj hjn => ?_⟩⟩
      · rw [kS', d1, k24]
        refine ⟨fun nSg => c_code (n := enc kSight 4) (by decide) (c_longer (n := enc kSight 5) (by decide) ?_), fun yS => ⟨fun q => take 1 (by decide) (by omega) yS, fun q => bad fun j hj hjn => zK_ne yS (kwN_ne 1 (by decide) j hj (by omega))⟩⟩
        rw [kT', d2, k29]
        refine ⟨fun nT => ⟨fun q => absurd q d3, fun _ => bad fun j hj hjn => ?_⟩, fun yT => ⟨fun q => take 2 (by decide) (by omega) yT, fun q => bad fun j hj hjn => zK_ne yT (kwN_ne 2 (by decide) j hj (by omega))⟩⟩
        have cs : j = 0 ∨ j = 1 ∨ j = 2 := by omega
        rcases cs with rfl | rfl | rfl
        · exact Bool.eq_false_iff.mpr nA
        · exact Bool.eq_false_iff.mpr nSg
        · exact Bool.eq_false_iff.mpr nT
      · exact take 0 (by decide) (by omega) yA
      · exact zK_ne yA (kwN_ne 0 (by decide) j hj (by omega))
theorem lp_lesson28 {Q : Int32 → St → Prop} {D : PV} {σ0 : St} (hw : RunW w) (hD : DOK D) (h7 : nL D ≠ 7)
    (hX : ∀ s, Fr (scE D 34) σ0 s → (∀ j, j < 3 → gI s 412 (3 * nL D + j) = 0) → gI s 390 19 = gI σ0 390 19 → gI s 390 34 = gI σ0 390 34 → AI Γ (d + 1) mX12_takeLesson w Q 50 [(0, .ref 390), (2, .int (nI (3 * nL D))), (3, .int (dn 0))] s) :
    ∀ n k s, k + n = 3 → Fr (scE D 34) σ0 s → (∀ j, j < k → gI s 412 (3 * nL D + j) = 0) → gI s 390 19 = gI σ0 390 19 → gI s 390 34 = gI σ0 390 34 → AI Γ (d + 1) mX12_takeLesson w Q 28 [(0, .ref 390), (2, .int (nI (3 * nL D))), (3, .int (-1)), (4, .int (nI k))] s := by
  have hn := hD.nL
  intro n
  induction n with
  | zero =>
    intro k s hk hF hC h1 h2
    have : k = 3 := hk
    subst this
    exact vX12_takeLesson_28 hw ⟨fun _ => hX s hF hC h1 h2, fun c => absurd (by decide : (3 : Int32) ≤ nI 3) c⟩
  | succ n ih =>
    intro k s hk hF hC h1 h2
    have nx : AI Γ (d + 1) mX12_takeLesson w Q 28 [(0, .ref 390), (2, .int (nI (3 * nL D))), (3, .int (-1)), (4, .int (nI (k + 1)))] (uI s 412 (3 * nL D + k) 0) := by
      refine ih (k + 1) _ (by omega) (hF.tr (fr_I (by simp [scE, scD]))) (fun j hj => ?_) (by rw [gI_uI, if_neg (by omega)]; exact h1) (by rw [gI_uI, if_neg (by omega)]; exact h2)
      rw [gI_uI]
      by_cases ej : j = k
      · subst ej; rw [if_pos ⟨rfl, rfl⟩]
      · rw [if_neg (by omega)]; exact hC j (by omega)
    have nv : vp_in (nI (3 * nL D + k)) 21 := vin (by omega)
    have ng : ¬ (3 : Int32) ≤ nI k := nI_ge (a := k) (b := 3) (by omega) (by decide)
    refine vX12_takeLesson_28 hw ⟨fun c => absurd c ng, fun _ => ?_⟩
    rw [nI_add, nI_1, cl (by omega)]
    exact ⟨nv, nx⟩
theorem c_takeLesson {Q : Int32 → St → Prop} {D : PV} {fr a : Nat} {σ : St} (hw : RunW w) (ht : TxOK t) (hD : DOK D) (ha : a ≤ t.1) (hT : TM σ t) (hA : gI σ 390 19 = nI a) (hR : AgR σ D)
    (q1 : ∀ f σ', zSemi t (zLesson t D fr a) = .inl f → erOK f → Fr scQ σ σ' → gI σ' 390 18 = nI f.2 → Q (nI f.1) σ')
    (q2 : ∀ x σ', zSemi t (zLesson t D fr a) = .inr x → 1 ≤ x.1 → zC t (x.1 - 1) 59 = true → Fr scR σ σ' → gI σ' 390 19 = nI (x.1 - 1) → AgR σ' x.2 → Q 0 σ') : SpI Γ (d + 3) mX12_takeLesson [.ref 390, .int (nI fr)] σ w Q := by
  have h6 := ht.1
  have hn := hD.nL
  have toR : ∀ {σ' : St}, Fr (scE D 34) σ σ' → Fr scR σ σ' := fun h => h.mono (scE_R (by omega))
  refine SpI.of pnX12 (Nat.le_of_ble_eq_true rfl) (vX12_takeLesson_0 hw ?_)
  have l7 : nI (nL D) = 7 ↔ nL D = 7 := nI_eq (b := 7) (by omega) (by decide)
  have i3 : (3 : Int32) * nI (nL D) = nI (3 * nL D) := nI_mul 3 (nL D)
  rw [hR.1.2.2.1, l7, i3]
  refine ⟨fun c => ?_, fun c => c_fails hw ?_⟩
  · refine lp_lesson28 (d := d + 2) hw hD c (fun s z1 z2 z3 z4 => ?_) 3 0 σ rfl (Fr.rf σ) (fun j hj => absurd hj (Nat.not_lt_zero j)) rfl rfl
    refine lp_lesson50 (fr := fr) (a0 := a) hw ht hD c hR (fun f s' g1 g2 g3 g4 => q1 f s' g1 g2 g3 g4) (fun x s' g1 g2 g3 g4 g5 g6 => q2 x s' g1 g2 g3 (toR g4) g5 g6) 4 3 (fun _ => 0) a s (by decide) (by decide) (fun _ _ => rfl) ha z1 (hT.fr (scE_T (by decide)) z1) (z3.trans hA) (z4.trans hR.1.2.2.1) z2 (zSt_3 c).symm
  · have hz : zSemi t (zLesson t D fr a) = .inl (3, fr) := by
      unfold zLesson
      rw [if_pos c]
      rfl
    exact q1 (3, fr) _ hz ⟨Nat.le_of_ble_eq_true rfl, Nat.le_of_ble_eq_true rfl⟩ (fr_I (by decide)) (by rw [gI_uI, if_pos ⟨rfl, rfl⟩])
theorem lp_page30 {Q : Int32 → St → Prop} {D : PV} {fr a0 : Nat} {σ0 : St} (hw : RunW w) (ht : TxOK t) (hD : DOK D) (h8 : nP D ≠ 8) (hR : AgR σ0 D)
    (hz : zPage t D fr a0 = (match zPg t D 601 a0 [] with | .inl f => .inl f | .inr x => .inr (x.1, adP D x.2)))
    (q1 : ∀ f σ', zPage t D fr a0 = .inl f → Fr scQ σ0 σ' → gI σ' 390 18 = nI f.2 → Q (nI f.1) σ')
    (q2 : ∀ x σ', zPage t D fr a0 = .inr x → Fr (scE D 36) σ0 σ' → gI σ' 390 19 = nI x.1 → AgR σ' x.2 → Q 0 σ') :
    ∀ f a l s, t.1 < a + f → a ≤ t.1 → l.length ≤ 16 → Fr (scE D 36) σ0 s → TM s t → gI s 390 19 = nI a → gI s 390 36 = nI (nP D) → gI s 413 (nP D) = nI l.length → (∀ j, j < l.length → gI s 414 (16 * nP D + j) = nI (l.getD j 0)) → zPg t D f a l = zPg t D 601 a0 [] → AI Γ (d + 2) mX12_takePage w Q 30 [(0, .ref 390), (2, .int (nI (nP D))), (3, .int 1)] s := by
  have h6 := ht.1
  have hn := hD.nP
  have hnW := hD.nW
  have hk : vp_in (nI (nP D)) 8 := vin (by omega)
  have pE : ∀ {σ σ' : St}, Fr scP σ σ' → Fr (scE D 36) σ σ' := fun h => h.mono (fun o k q => scD_E o k (scP_D o k q))
  intro f
  induction f with
  | zero => intro a l s h1 h2; omega
  | succ f ih =>
    intro a l s h1 ha hl hF hT h19 h36 h413 hL heq
    have e1 := zE_le ha
    have e2 := zE_ge t a
    have e3 := sk_ge t a
    have e4 := sk_ge t (zE t a)
    rw [← heq] at hz
    have st : zPg t D (f + 1) a l = if zE t a = sk t a then .inl (1, sk t a) else if l.length = 16 then .inl (4, sk t a) else (match wOf t D (sk t a) (zE t a) (nW D) with
      | none => .inl (5, sk t a)
      | some v => if zP zL t (sk t (zE t a)) then zPg t D f (sk t (zE t a)) (l ++ [v]) else .inr (sk t (zE t a), l ++ [v])) := rfl
    refine vX12_takePage_30 hw ⟨fun c => absurd c (by decide), fun _ => c_readWord hw ht ha hT h19 fun s1 y1 hW => ?_⟩
    have hF1 : Fr (scE D 36) σ0 s1 := hF.tr (pE (y1.mono scW_P))
    have hT1 : TM s1 t := hT.p (y1.mono scW_P)
    have hR1 : AgR s1 D := by
      obtain ⟨⟨n1, n2, n3, n4⟩, h5⟩ := hR
      exact ⟨⟨(hF1.1 _ _ (scE_n (by omega) (by decide))).trans n1, (hF1.1 _ _ (scE_n (by omega) (by decide))).trans n2, (hF1.1 _ _ (scE_n (by omega) (by decide))).trans n3, (y1.1 _ _ (by decide)).trans h36⟩, h5.fr hD hF1⟩
    have g413 : gI s1 413 (nP D) = nI l.length := (y1.1 _ _ (by simp [scW])).trans h413
    rw [hW.1, hW.2.1, nI_eq (by omega) (by omega)]
    have er : ∀ (n : Nat), zPg t D (f + 1) a l = .inl (n, sk t a) → SpI Γ (d + 1) mX12_fails [.ref 390, .int (nI n), .int (nI (sk t a))] s1 w (fun v s => Q v s) := by
      intro n hn'
      rw [hn'] at hz
      exact c_fails hw (q1 (n, sk t a) _ hz ((hF1.mono (scE_Q (by omega))).tr (fr_I (by decide))) (by rw [gI_uI, if_pos ⟨rfl, rfl⟩]))
    refine ⟨fun c => c_wordOf hw ht hD hT1 hR1 e2 e1 (fun i => zR_all i) ⟨hk, ?_⟩, fun c => er 1 (by rw [st, if_pos c])⟩
    rw [if_neg c] at st
    have l16 : nI l.length = 16 ↔ l.length = 16 := nI_eq (b := 16) (by omega) (by decide)
    rw [cl (n := nP D) (by omega), g413, l16, hW.1]
    refine ⟨fun c16 => ⟨hk, fun q => absurd c16 q, fun _ => er 4 (by rw [st, if_pos c16])⟩, fun c16 => ?_⟩
    rw [if_neg c16] at st
    cases hwo : wOf t D (sk t a) (zE t a) (nW D) with
    | none =>
      rw [hwo] at st
      refine ⟨fun q => absurd q (by decide), fun _ => ⟨hk, fun _ => er 5 st, fun q => absurd q c16⟩⟩
    | some v =>
      rw [hwo] at st
      dsimp only at st
      have hv := wOf_lt v hwo
      refine ⟨fun _ => ⟨hk, ?_⟩, fun q => absurd (nI_pos' (by omega) : (0 : Int32) ≤ nI v) q⟩
      have ix : (16 : Int32) * nI (nP D) + nI l.length = nI (16 * nP D + l.length) := ixm 16 (nP D) l.length
      show (vp_in ((16 : Int32) * nI (nP D) + nI l.length) 128) ∧ _
      rw [ix, cl (n := 16 * nP D + l.length) (by omega), hW.2.1, nI_1]
      refine ⟨vin (by omega), hk, hk, ?_⟩
      have hFb : Fr (scE D 36) s1 (uI (uI (uI s1 414 (16 * nP D + l.length) (nI v)) 413 (nP D) (nI (l.length + 1))) 390 19 (nI (zE t a))) := (fr_I (by simp [scE, scD])).tr ((fr_I (by simp [scE, scD])).tr (fr_I (by simp [scE, scD, scP])))
      have hTb := hT1.fr (scE_T (by decide)) hFb
      refine c_here hw ht e1 hTb (by rw [gI_uI, if_pos ⟨rfl, rfl⟩]) fun s2 y3 y4 => c_hL ht ?_
      have hF2 : Fr (scE D 36) σ0 s2 := hF1.tr (hFb.tr (pE (y3.mono scA_P)))
      have hT2 : TM s2 t := hTb.p (y3.mono scA_P)
      have hlen : (l ++ [v]).length = l.length + 1 := by rw [List.length_append]; rfl
      have g36 : gI s2 390 36 = nI (nP D) := by
        rw [y3.1 _ _ (by decide), gI_uI, if_neg (by decide), gI_uI, if_neg (by omega), gI_uI, if_neg (by omega)]
        exact hR1.1.2.2.2
      have g413' : gI s2 413 (nP D) = nI (l ++ [v]).length := by
        rw [y3.1 _ _ (by simp [scA]), gI_uI, if_neg (by omega), gI_uI, if_pos ⟨rfl, rfl⟩, hlen]
      have gL : ∀ j, j < (l ++ [v]).length → gI s2 414 (16 * nP D + j) = nI ((l ++ [v]).getD j 0) := by
        intro j hj
        rw [hlen] at hj
        rw [y3.1 _ _ (by simp [scA]), gI_uI, if_neg (by omega), gI_uI, if_neg (by omega), gI_uI]
        by_cases ej : j = l.length
        · subst ej
          rw [if_pos ⟨rfl, rfl⟩]
          simp
          rfl
        · rw [if_neg (by omega), y1.1 _ _ (by simp [scW]), hL j (by omega)]
          simp [List.getElem?_append_left (show j < l.length by omega)]
      cases hm : zP zL t (sk t (zE t a)) with
      | true =>
        rw [hm] at st
        exact ih (sk t (zE t a)) (l ++ [v]) s2 (by omega) (sk_le e1) (by omega) hF2 hT2 y4 g36 g413' gL (st.symm.trans heq)
      | false =>
        rw [hm] at st
        have st' : zPg t D (f + 1) a l = .inr (sk t (zE t a), l ++ [v]) := st
        rw [st'] at hz
        dsimp only at hz
        refine vX12_takePage_30 hw ⟨fun _ => ?_, fun q => absurd rfl q⟩
        have hF3 : Fr (scE D 36) σ0 (uI s2 390 36 (gI s2 390 36 + 1)) := hF2.tr (fr_I (by simp [scE]))
        exact q2 _ _ hz hF3 (by rw [gI_uI, if_neg (by decide)]; exact y4) (hR.page hD hF3 (by omega) (by rw [gI_uI, if_pos ⟨rfl, rfl⟩, g36, nI_1]) (by rw [gI_uI, if_neg (by omega)]; exact g413') (fun j hj => by rw [gI_uI, if_neg (by omega)]; exact gL j hj))
theorem c_takePage {Q : Int32 → St → Prop} {D : PV} {fr a : Nat} {σ : St} (hw : RunW w) (ht : TxOK t) (hD : DOK D) (ha : a ≤ t.1) (hT : TM σ t) (hA : gI σ 390 19 = nI a) (hR : AgR σ D)
    (q1 : ∀ f σ', zPage t D fr a = .inl f → Fr scQ σ σ' → gI σ' 390 18 = nI f.2 → Q (nI f.1) σ')
    (q2 : ∀ x σ', zPage t D fr a = .inr x → Fr scR σ σ' → gI σ' 390 19 = nI x.1 → AgR σ' x.2 → Q 0 σ') : SpI Γ (d + 2) mX12_takePage [.ref 390, .int (nI fr)] σ w Q := by
  have h6 := ht.1
  have hn := hD.nP
  have toR : ∀ {σ' : St}, Fr (scE D 36) σ σ' → Fr scR σ σ' := fun h => h.mono (scE_R (by omega))
  refine SpI.of pnX12 (Nat.le_of_ble_eq_true rfl) (vX12_takePage_0 hw ?_)
  have l8 : nI (nP D) = 8 ↔ nP D = 8 := nI_eq (b := 8) (by omega) (by decide)
  rw [hR.1.2.2.2, l8]
  refine ⟨fun c => ⟨vin (by omega), ?_⟩, fun c => c_fails hw ?_⟩
  · rw [cl (by omega)]
    have hz : zPage t D fr a = (match zPg t D 601 a [] with | .inl f => .inl f | .inr x => .inr (x.1, adP D x.2)) := by
      unfold zPage
      rw [if_neg c]
      rfl
    have hFb : Fr (scE D 36) σ (uI σ 413 (nP D) 0) := fr_I (by simp [scE, scD])
    exact lp_page30 (fr := fr) hw ht hD c hR hz (fun f s' g1 g2 g3 => q1 f s' g1 g2 g3) (fun x s' g1 g2 g3 g4 => q2 x s' g1 (toR g2) g3 g4) 601 a [] _ (by omega) ha (by decide) hFb (hT.fr (scE_T (by decide)) hFb) (by rw [gI_uI, if_neg (by omega)]; exact hA) (by rw [gI_uI, if_neg (by omega)]; exact hR.1.2.2.2) (by rw [gI_uI, if_pos ⟨rfl, rfl⟩]; rfl) (fun j hj => absurd hj (Nat.not_lt_zero j)) rfl
  · refine q1 (3, fr) _ ?_ (fr_I (by decide)) (by rw [gI_uI, if_pos ⟨rfl, rfl⟩])
    unfold zPage
    rw [if_pos c]
end PLE
