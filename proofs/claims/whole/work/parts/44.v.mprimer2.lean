/-! the reference: primer -/
/-- the text of a list of bytes -/
def txt (tx : List Int32) : Tx := (tx.length, fun i => (tx.getD i 0).toNatClampNeg)
/-- bytes -/
def TxB (tx : List Int32) : Prop := tx.length ≤ 600 ∧ ∀ x, x ∈ tx → ∃ b, b < 256 ∧ x = nI b
theorem txt_ok {tx : List Int32} (h : TxB tx) : TxOK (txt tx) := by
  refine ⟨h.1, fun i => ?_⟩
  show (tx.getD i 0).toNatClampNeg < 256
  rcases Nat.lt_or_ge i tx.length with q | q
  · obtain ⟨b, hb, e⟩ := h.2 _ (getD_mem (d := 0) q)
    rw [e, cl (by omega)]
    exact hb
  · rw [List.getD_eq_getElem?_getD, List.getElem?_eq_none q]
    decide
theorem TxM.tm {σ : St} {tx : List Int32} (h : TxM σ tx) (hb : TxB tx) : TM σ (txt tx) := by
  refine ⟨h.1, fun i hi => ?_⟩
  have hi' : i < tx.length := hi
  rw [h.2.2 i hi']
  obtain ⟨b, hb', e⟩ := hb.2 _ (getD_mem (d := 0) hi')
  show _ = nI (tx.getD i 0).toNatClampNeg
  rw [e, cl (by omega)]
theorem TxB.feed {tx : List Int32} {x : Int32} {y : Int64} (h : TxB tx) : TxB (R_feed tx x y).2 := by
  unfold R_feed
  split
  · split
    · rename_i h1 h2
      refine ⟨?_, fun z hz => ?_⟩
      · show (tx ++ _).length ≤ 600
        rw [List.length_append, feedL_len]
        exact h2
      · rcases List.mem_append.mp hz with q | q
        · exact h.2 z q
        · have key : ∀ n, ∀ z, z ∈ feedL y n → ∃ b, b < 256 ∧ z = nI b := by
            intro n
            induction n with
            | zero => intro z hz; cases hz
            | succ n ih =>
              intro z hz
              rcases List.mem_cons.mp hz with q | q
              · subst q
                unfold fbM
                generalize y >>> _ = u
                refine ⟨(u.toBitVec &&& 255#64).toNat, ?_, ?_⟩
                · rw [BitVec.toNat_and]
                  exact Nat.lt_of_le_of_lt Nat.and_le_right (by decide)
                · refine b_ext fun i hi => ?_
                  rw [b_nI _ hi]
                  show ((u &&& 255).toInt32.toBitVec).getLsbD i = (u.toBitVec &&& 255#64).toNat.testBit i
                  rw [Int64.toBitVec_toInt32, BitVec.getLsbD_signExtend]
                  simp only [hi, decide_true, Bool.true_and]
                  rw [if_pos (by omega)]
                  rfl
              · exact ih z q
          exact key _ z q
    · exact h
  · exact h
theorem TxB.nil : TxB [] := ⟨by decide, fun x hx => absurd hx List.not_mem_nil⟩
/-- what primer changes; images are gone -/
def scZ (o k : Nat) : Bool := scQ o k || (o == 390 && k == 17)
def im0 : IV := fun _ => none
theorem scQ_hi {o k : Nat} (h : o ≠ 390) (h2 : o < 404 ∨ 414 < o) : scQ o k = false := by
  unfold scQ scR scP
  simp [h]
  omega
theorem Fr.mvQ {σ σ' : St} (h : Fr scZ σ σ') : MV σ' = MV σ := by
  have z : ∀ o k, o ≠ 390 → o < 404 → gI σ' o k = gI σ o k := fun o k h1 h2 => h.1 o k (by unfold scZ; rw [scQ_hi h1 (Or.inl h2)]; simp [h1])
  funext t i j
  unfold MV
  split
  · split <;> exact h.1 _ _ (by decide)
  all_goals exact z _ _ (by decide) (by decide)
theorem Fr.kmQ {σ σ' : St} (h : Fr scZ σ σ') : KM σ' = KM σ := by
  have z : ∀ o k, 414 < o → gI σ' o k = gI σ o k := fun o k h2 => h.1 o k (by
    have h1 : o ≠ 390 := by omega
    unfold scZ; rw [scQ_hi h1 (Or.inr h2)]; simp [h1])
  funext t i
  unfold KM
  rw [z 419 i (by decide), z 420 i (by decide), z 421 i (by decide), z 422 i (by decide), h.1 390 47 (by decide)]
theorem Fr.isQ {σ σ' : St} (h : Fr scZ σ σ') : IS σ' = IS σ := by
  have z : ∀ o k, 414 < o → gI σ' o k = gI σ o k := fun o k h2 => h.1 o k (by
    have h1 : o ≠ 390 := by omega
    unfold scZ; rw [scQ_hi h1 (Or.inr h2)]; simp [h1])
  have e : ∀ k, IM σ' k = IM σ k := by
    intro k
    funext t i
    unfold IM
    rw [z 423 _ (by decide), z 423 _ (by decide), z 423 _ (by decide), z 423 _ (by decide), z 423 _ (by decide)]
  funext k
  unfold IS
  rw [z 424 k (by decide), e]
/-- all that a call of the reference may change: its own cells -/
def OwnM (σ σ' : St) : Prop := (∀ o k, o < 390 ∨ 425 ≤ o → gI σ' o k = gI σ o k) ∧ (∀ o k, o < 390 ∨ 425 ≤ o → gJ σ' o k = gJ σ o k) ∧ ∀ o k, o < 390 ∨ 425 ≤ o → gR σ' o k = gR σ o k
section PPR
variable {Γ : Gx} {d : Nat} {w : Wd} {t : Tx}
theorem lp_primer {Q : Int32 → St → Prop} {σ0 : St} (hw : RunW w) (ht : TxOK t)
    (q1 : ∀ f σ', zTop t = .inl f → erOK f → Fr scQ σ0 σ' → gI σ' 390 18 = nI f.2 → Q (-10 - nI f.1) (uI σ' 390 17 0))
    (q2 : ∀ x s, zTop t = .inr x → DOK x.2 → Fr scR σ0 s → AgR s x.2 → SpV Γ (d + 4) mX12_keepPrimer [.ref 390] (uI s 390 17 0) w (fun s5 => SpV Γ (d + 4) mX12_beginPupils [.ref 390] s5 w (fun s6 => (vp_in (0 : Int32) 2) ∧ (vp_in (1 : Int32) 2) ∧ Q (nI x.1) (uI (uI s6 424 (0 : Int32).toNatClampNeg (0 : Int32)) 424 (1 : Int32).toNatClampNeg (0 : Int32))))) :
    ∀ f n D a s, t.1 < a + f → a ≤ t.1 → DOK D → Fr scR σ0 s → TM s t → gI s 390 19 = nI a → AgR s D → zAll t f n D a = zTop t → AI Γ (d + 5) mX12_primer w Q 34 [(0, .ref 390), (1, .int (nI n)), (2, .int 0)] s := by
  have h6 := ht.1
  intro f
  induction f with
  | zero => intro n D a s h1 h2; omega
  | succ f ih =>
    intro n D a s h1 ha hD hF hT h19 hR heq
    have hst : zAll t (f + 1) n D a = if sk t a < t.1 then (match zClause t D (sk t a) with
      | .inl x => .inl x
      | .inr x => zAll t f (n + 1) x.2 x.1) else .inr (n, D) := rfl
    have e3 := sk_ge t a
    refine vX12_primer_34 hw ⟨fun c => absurd rfl c, fun _ => c_here hw ht ha hT h19 fun s1 y1 y2 => ?_⟩
    have hF1 : Fr scR σ0 s1 := hF.tr (y1.mono (fun o k q => scP_R o k (scA_P o k q)))
    have hT1 : TM s1 t := hT.p (y1.mono scA_P)
    have hR1 : AgR s1 D := hR.d hD (y1.mono (fun o k q => scP_D o k (scA_P o k q)))
    rw [hd_neg ht]
    refine ⟨fun c => ⟨fun _ => ?_, fun c2 => absurd (by decide) c2⟩, fun c => ?_⟩
    · rw [if_neg (by omega)] at hst
      exact q2 (n, D) s1 (heq.symm.trans hst) hD hF1 hR1
    · rw [if_pos (by omega)] at hst
      refine c_takeClause hw ht hD (sk_le ha) hT1 y2 hR1 (fun g s2 z1 z2 z3 z4 => ?_) (fun x s2 z1 z2 z3 z4 => ?_)
      · rw [z1] at hst
        have hn0 : ¬ nI g.1 = 0 := nI_ne0 (by have := z2.1; omega) (by have := z2.2; omega)
        have hn1 : ¬ nI g.1 ≤ 0 := nI_nle (by have := z2.1; omega) (by have := z2.2; omega)
        exact vX12_primer_34 hw ⟨fun _ => ⟨fun c2 => absurd c2 hn1, fun _ => q1 g s2 (heq.symm.trans hst) z2 ((hF1.mono scR_Q).tr z3) z4⟩, fun c2 => absurd c2 hn0⟩
      · rw [z1] at hst
        obtain ⟨o1, o2, o3⟩ := zClause_ok hD (sk_le ha) z1
        rw [nI_1]
        exact ih (n + 1) x.2 x.1 s2 (by omega) o2 o3 (hF1.tr z2) (hT1.r z2) z3 z4 (hst.symm.trans heq)
theorem M_primer {Q : Int32 → St → Prop} {σ : St} {π : PV} {κ : KV} {ι : IV} {tx : List Int32} (hw : RunW w) (hV : MV σ = π) (hK : KM σ = κ) (hI : IS σ = ι) (hT : TxM σ tx) (hB : TxB tx)
    (q1 : ∀ f σ', zTop (txt tx) = .inl f → erOK f → OwnM σ σ' → MV σ' = π → KM σ' = κ → IS σ' = ι → TxM σ' [] → gI σ' 390 18 = nI f.2 → Q (-10 - nI f.1) σ')
    (q2 : ∀ x σ', zTop (txt tx) = .inr x → DOK x.2 → OwnM σ σ' → AgV (MV σ') x.2 → KM σ' = begK κ → IS σ' = im0 → TxM σ' [] → gI σ' 390 18 = -1 → Q (nI x.1) σ') : SpI Γ (d + 5) mX12_primer [.ref 390] σ w Q := by
  have ht := txt_ok hB
  have h6 := ht.1
  have nil : ∀ s : St, TxM (uI s 390 17 0) [] := fun s => ⟨by rw [gI_uI, if_pos ⟨rfl, rfl⟩]; rfl, by decide, fun i hi => absurd hi (Nat.not_lt_zero i)⟩
  have qz : ∀ o k, scQ o k = true → scZ o k = true := fun o k h => by unfold scZ; rw [h]; simp
  have f0 : Fr scQ σ (uI (uI (uI (uI (uI (uI σ 390 18 (-1)) 390 19 0) 390 24 0) 390 29 0) 390 34 0) 390 36 0) := (fr_I (by decide)).tr ((fr_I (by decide)).tr ((fr_I (by decide)).tr ((fr_I (by decide)).tr ((fr_I (by decide)).tr (fr_I (by decide))))))
  refine SpI.of pnX12 (Nat.le_of_ble_eq_true rfl) (vX12_primer_0 hw ?_)
  have own : ∀ {s s' : St}, Fr scZ s s' → OwnM s s' := by
    intro s s' h
    have z : ∀ o k, o < 390 ∨ 425 ≤ o → scZ o k = false := fun o k h2 => by
      have h1 : o ≠ 390 := by omega
      unfold scZ
      rw [scQ_hi h1 (by omega)]
      simp [h1]
    exact ⟨fun o k h2 => h.1 o k (z o k h2), fun o k h2 => h.2.1 o k (z o k h2), fun o k h2 => h.2.2 o k (z o k h2)⟩
  refine lp_primer (t := txt tx) (σ0 := uI (uI (uI (uI (uI (uI σ 390 18 (-1)) 390 19 0) 390 24 0) 390 29 0) 390 34 0) 390 36 0) hw ht (fun f s z1 z2 z3 z4 => ?_) (fun x s z1 z2 z3 z4 => ?_) 601 0 pv0 0 _ (by show (txt tx).1 < 0 + 601; omega) (Nat.zero_le _) pv0_ok (Fr.rf _) ((hT.tm hB).fr (S := scQ) (fun o k h => by rcases h with rfl | ⟨rfl, rfl⟩ <;> simp [scQ, scR, scP]) f0) rfl ⟨⟨rfl, rfl, rfl, rfl⟩, fun k hk => absurd hk (Nat.not_lt_zero k), fun k hk => absurd hk (Nat.not_lt_zero k), fun k hk => absurd hk (Nat.not_lt_zero k), fun k hk => absurd hk (Nat.not_lt_zero k)⟩ rfl
  · have hf : Fr scZ σ (uI s 390 17 0) := ((f0.tr z3).mono qz).tr (fr_I (by decide))
    exact q1 f _ z1 z2 (own hf) (hf.mvQ.trans hV) (hf.kmQ.trans hK) (hf.isQ.trans hI) (nil s) z4
  · have hf : Fr scZ σ (uI s 390 17 0) := ((f0.tr (z3.mono scR_Q)).mono qz).tr (fr_I (by decide))
    have h18 : gI s 390 18 = -1 := (z3.1 _ _ (by decide)).trans rfl
    have hR' : AgR (uI s 390 17 0) x.2 := z4
    refine c_keepPrimer hw z2 hR' (fun s5 g1 g2 => ?_)
    have zk : ∀ o k, 403 ≤ o → gI s5 o k = gI (uI s 390 17 0) o k := fun o k h => g1.1 o k (scK_r h)
    have hK5 : KM s5 = κ := by
      refine Eq.trans ?_ (hf.kmQ.trans hK)
      funext t i
      unfold KM
      rw [zk 419 i (by decide), zk 420 i (by decide), zk 421 i (by decide), zk 422 i (by decide), g1.1 390 47 (by decide)]
    refine c_begin hw hK5 (fun s6 k1 k2 => ⟨vin (by decide), vin (by decide), ?_⟩)
    have z0 : (0 : Int32).toNatClampNeg = 0 := by decide
    have z1' : (1 : Int32).toNatClampNeg = 1 := by decide
    rw [z0, z1']
    have scU_lo : ∀ o k, o < 390 ∨ 425 ≤ o → scrU o k = false := by
      intro o k h
      unfold scrU scrC scrM
      have h1 : o ≠ 390 := by omega
      simp [h1]
      omega
    have scK_lo : ∀ o k, o < 390 ∨ 425 ≤ o → scK o k = false := by
      intro o k h
      unfold scK
      have h1 : o ≠ 390 := by omega
      simp [h1]
      omega
    obtain ⟨w1, w2, w3⟩ := own hf
    refine q2 x _ z1 z2 ⟨fun o k h => ?_, fun o k h => ?_, fun o k h => ?_⟩ ?_ ?_ ?_ ⟨?_, by decide, fun i hi => absurd hi (Nat.not_lt_zero i)⟩ ?_
    · rw [gI_uI, if_neg (by omega), gI_uI, if_neg (by omega), k1.1 o k (scU_lo o k h), g1.1 o k (scK_lo o k h)]
      exact w1 o k h
    · rw [gJ_uI, gJ_uI, k1.2.1 o k (by omega) (by omega), g1.2.1 o k (scK_lo o k h)]
      exact w2 o k h
    · rw [gR_uI, gR_uI, k1.2.2 o k, g1.2.2 o k (scK_lo o k h)]
      exact w3 o k h
    · have e : MV (uI (uI s6 424 0 0) 424 1 0) = MV s6 := by
        funext t i j
        unfold MV
        split
        · split <;> rfl
        all_goals rfl
      rw [e, k1.mv]
      exact g2
    · have e : KM (uI (uI s6 424 0 0) 424 1 0) = KM s6 := by
        funext t i
        unfold KM
        rfl
      rw [e]
      exact k2
    · funext k
      unfold IS im0
      rw [if_neg]
      rintro ⟨h1, h2⟩
      apply h2
      rw [gI_uI]
      by_cases e : k = 1
      · rw [if_pos ⟨rfl, e⟩]
      · rw [if_neg (by omega), gI_uI, if_pos ⟨rfl, by omega⟩]
    · rw [gI_uI, if_neg (by omega), gI_uI, if_neg (by omega), k1.1 _ _ (by decide), g1.1 _ _ (by decide), gI_uI, if_pos ⟨rfl, rfl⟩]
      rfl
    · rw [gI_uI, if_neg (by omega), gI_uI, if_neg (by omega), k1.1 _ _ (by decide), g1.1 _ _ (by decide), gI_uI, if_neg (by decide)]
      exact h18
end PPR
