/-! the class reads its text: clauses, all -/
theorem zList_er {t : Tx} {bd : Nat} : ∀ f a set g, t.1 < a + f → a ≤ t.1 → zList t bd f a set = .inl g → erOK g := by
  intro f
  induction f with
  | zero => intro a set g h1 h2; omega
  | succ f ih =>
    intro a set g h1 h2 h
    unfold zList at h
    split at h
    · rename_i x hx
      cases h
      exact zNum_erK hx
    · rename_i x hx
      obtain ⟨-, -, b3, b4, -⟩ := zNum_ok hx h2
      have b5 := sk_ge t x.1
      split at h
      · cases h; exact ⟨Nat.le_of_ble_eq_true rfl, Nat.le_of_ble_eq_true rfl⟩
      · split at h
        · rename_i hc
          exact ih _ _ g (by omega) (zC_pos hc).1 h
        · cases h
theorem zOpt_er {t : Tx} {kw : List Nat} {bd a : Nat} {f : Er} (ht : TxOK t) (ha : a ≤ t.1) (h : zOpt t kw bd a = .inl f) : erOK f := by
  have h6 := ht.1
  unfold zOpt at h
  split at h
  · exact zList_er _ _ _ _ (by omega) (zE_le ha) h
  · cases h
theorem zLesson_er {t : Tx} {D : PV} {fr a : Nat} {f : Er} (ht : TxOK t) (hD : DOK D) (ha : a ≤ t.1) (h : zLesson t D fr a = .inl f) : erOK f := by
  have d1 := hD.nS
  have d2 := hD.nW
  have d3 := hD.nL
  unfold zLesson at h
  split at h
  · cases h; exact ⟨Nat.le_of_ble_eq_true rfl, Nat.le_of_ble_eq_true rfl⟩
  · split at h
    · rename_i g hg
      cases h
      exact zOpt_er ht ha hg
    · rename_i x hx
      have b1 := (zOpt_ok (by omega) hx ha).2.1
      split at h
      · rename_i g hg
        cases h
        exact zOpt_er ht b1 hg
      · rename_i y hy
        have b2 := (zOpt_ok (by omega) hy b1).2.1
        split at h
        · rename_i g hg
          cases h
          exact zOpt_er ht b2 hg
        · cases h
def scDc (P o k : Nat) : Bool := scDr P o k || (o == 1 && k == 5)
theorem scDr_Dc {P : Nat} : ∀ o k, scDr P o k = true → scDc P o k = true := fun o k h => by unfold scDc; rw [h]; rfl
theorem PX.c5 {t : Tx} {σ : St} {a : Nat} {φ : Int32 × Int32} {v : Int32} (h : PX σ t a φ) : PX (uI σ 1 5 v) t a φ := by
  obtain ⟨h1, h2, h3, h4, h5⟩ := h
  exact ⟨h1.fr (S := fun o k => o == 1 && k == 5) (fun o k q => by rcases q with rfl | ⟨rfl, rfl⟩ <;> simp) (fr_I (by simp)), by rw [gI_uI, if_neg (by decide)]; exact h2, h3, by rw [gI_uI, if_neg (by decide)]; exact h4, by rw [gI_uI, if_neg (by decide)]; exact h5⟩
/-- a clause has been read -/
def ClC (σ σ' : St) (t : Tx) (P : Nat) (r : Er ⊕ (Nat × PV)) : Prop := match r with
  | .inl f => erOK f ∧ ∃ b, PX σ' t b (nI f.1, nI f.2)
  | .inr x => PX σ' t x.1 f00 ∧ PrC σ' P x.2 ∧ gI σ' 1 5 = gI σ 1 5 + 1
theorem PrC.f1 {σ σ' : St} {P : Nat} {D : PV} {S : Nat → Nat → Bool} (hP : isP P) (hD : DOK D) (h : PrC σ P D) (hS : ∀ o k, o ≠ 1 → S o k = false) (hf : Fr S σ σ') : PrC σ' P D := h.fr hD.1 (fun o k q => hS o k (by have := P_ge hP; unfold inPr at q; omega)) hf
section CCL
variable {Γ : Gx} {d : Nat} {w : Wd} {t : Tx} {P : Nat}
theorem c_semiC {Q : St → Prop} {σ s : St} {r : Er ⊕ (Nat × PV)} (hw : RunW w) (ht : TxOK t) (hP : isP P) (hr : ∀ f, r = .inl f → erOK f) (hrD : ∀ x, r = .inr x → DOK x.2) (hF : Fr (scDr P) σ s) (hB : BdC s t P r) (hQ : ∀ σ', Fr (scDc P) σ σ' → ClC σ σ' t P (zSemi t r) → Q σ') :
    SpI Γ (d + 1) mX3_accepts [.ref 1, .int 59] s w (fun v11 s10 => ((¬ v11 = 0 → Q (uI s10 1 5 ((gI s10 1 5) + 1))) ∧ (v11 = 0 → SpV Γ (d + 1) mX3_fail [.ref 1, .int 1, .int (gI s10 1 2)] s10 w (fun s12 => Q (uI s12 1 5 ((gI s12 1 5) + 1)))))) := by
  obtain ⟨a, φ, hPX, hm⟩ := hB
  have fin : ∀ s', Fr (scDr P) σ s' → Fr (scDc P) σ (uI s' 1 5 ((gI s' 1 5) + 1)) := fun s' h => (h.mono scDr_Dc).tr (fr_I (by simp [scDc]))
  have h5 : ∀ {s' : St}, Fr (scDr P) σ s' → gI s' 1 5 = gI σ 1 5 := fun h => h.1 1 5 (by have := P_ge hP; unfold scDr; simp; omega)
  refine c_acc (c := 59) hw ht (by decide) hPX fun s10 z1 z2 => ?_
  have hF1 : Fr (scDr P) σ s10 := hF.tr (z1.mono scN_Dr)
  rw [b2i_n0, b2i_0]
  cases hrr : r with
  | inl f =>
    have ok := hr f hrr
    rw [hrr] at hm hQ
    have e : zSemi t (.inl f) = .inl f := rfl
    rw [e] at hQ
    rcases hm with h | ⟨h1, h2, h3⟩
    · rw [h] at z2
      refine ⟨fun _ => hQ _ (fin _ hF1) ⟨ok, _, z2.c5⟩, fun _ => ?_⟩
      rw [z2.2.1]
      refine c_failC (n := 1) hw z2 fun s12 y1 y2 _ => hQ _ (fin _ (hF1.tr (y1.mono scN_Dr))) ⟨ok, (by rw [flU_f ok] at y2; exact ⟨_, y2.c5⟩)⟩
    · rw [h2, h1, if_neg (by decide)] at z2
      refine ⟨fun q => (by rw [h2] at q; cases q), fun _ => ?_⟩
      rw [z2.2.1]
      refine c_failC (n := 1) hw z2 fun s12 y1 y2 _ => hQ _ (fin _ (hF1.tr (y1.mono scN_Dr))) ⟨ok, (by rw [flU_0, ← h3] at y2; exact ⟨_, y2.c5⟩)⟩
  | inr x =>
    have hD := hrD x hrr
    rw [hrr] at hm hQ
    obtain ⟨h1, h2, h3⟩ := hm
    rw [h1, h2] at z2
    have e : zSemi t (.inr x) = if zC t (sk t x.1) 59 then .inr (sk t x.1 + 1, x.2) else .inl (1, sk t x.1) := rfl
    rw [e, ← h2] at hQ
    refine ⟨fun q => ?_, fun q => ?_⟩
    · rw [q, if_pos rfl] at hQ
      rw [← h2, q, if_pos rfl] at z2
      refine hQ _ (fin _ hF1) ⟨z2.c5, ?_, ?_⟩
      · have c1 : PrC s10 P x.2 := h3.f1 hP hD (fun o k q => by unfold scN; simp [q]) z1
        exact c1.f1 hP hD (S := fun o k => o == 1 && k == 5) (fun o k q => by simp [q]) (fr_I (by simp))
      · rw [gI_uI, if_pos ⟨rfl, rfl⟩, h5 hF1]
    · rw [q, if_neg (by decide)] at hQ
      rw [← h2, q, if_neg (by decide)] at z2
      rw [z2.2.1]
      refine c_failC (n := 1) hw z2 fun s12 y1 y2 _ => hQ _ (fin _ (hF1.tr (y1.mono scN_Dr))) ⟨⟨Nat.le_of_ble_eq_true rfl, Nat.le_of_ble_eq_true rfl⟩, (by rw [flU_0] at y2; exact ⟨_, y2.c5⟩)⟩
theorem c_clause {Q : St → Prop} {σ : St} {a : Nat} {D : PV} (hw : RunW w) (ht : TxOK t) (hD : DOK D) (hP : isP P) (hR : gR σ 1 4 = some P) (hC : PrC σ P D) (hX : PX σ t a f00) (hsk : sk t a = a) (hQ : ∀ σ', Fr (scDc P) σ σ' → ClC σ σ' t P (zClause t D a) → Q σ') : SpV Γ (d + 7) mX3_parseClause [.ref 1] σ w Q := by
  have h6 := ht.1
  have ha := hX.2.2.1
  have hE := zE_le ha
  have rN : ∀ {s : St}, Fr scN σ s → gR s 1 4 = some P := fun h => (h.2.2 1 4 (by unfold scN; simp)).trans hR
  have cC : ∀ {s : St}, Fr scN σ s → PrC s P D := fun h => hC.f1 hP hD (fun o k q => by unfold scN; simp [q]) h
  have zc : zClause t D a = zSemi t (zBody t D a (zE t a)) := by
    unfold zClause
    rw [hsk]
  have go : ∀ (r : Er ⊕ (Nat × PV)) (s0 : St), zBody t D a (zE t a) = r → (∀ f, r = .inl f → erOK f) → Fr scN σ s0 → ∀ s, Fr (scDr P) s0 s → BdC s t P r → SpI Γ (d + 6) mX3_accepts [.ref 1, .int 59] s w (fun v11 s10 => ((¬ v11 = 0 → Q (uI s10 1 5 ((gI s10 1 5) + 1))) ∧ (v11 = 0 → SpV Γ (d + 6) mX3_fail [.ref 1, .int 1, .int (gI s10 1 2)] s10 w (fun s12 => Q (uI s12 1 5 ((gI s12 1 5) + 1)))))) := by
    intro r s0 hb he h0 s h1 hB
    refine c_semiC hw ht hP he (fun x hx => (zBody_ok hD hE (hb.trans hx)).2.2) ((h0.mono scN_Dr).tr h1) hB fun σ' y1 y2 => hQ σ' y1 ?_
    rw [zc, hb]
    exact y2
  refine SpV.of pnX3 (Nat.le_of_ble_eq_true rfl) (vX3_parseClause_0 hw ?_)
  rw [hX.2.1]
  refine c_accW (x := 1) hw ht (by decide) (by decide) hX fun s1 z1 z2 => ?_
  rw [hsk] at z2 ⊢
  rw [b2i_n0, b2i_0]
  refine ⟨fun c1 => ?_, fun c1 => ?_⟩
  · rw [c1, if_neg (by decide)] at z2
    have c1' : zK t a (zE t a) kSign = false := c1
    refine c_accW (x := 4) hw ht (by decide) (by decide) z2 fun s3 y1 y2 => ?_
    rw [hsk] at y2 ⊢
    rw [b2i_n0, b2i_0]
    have f3 := z1.tr y1
    refine ⟨fun c2 => ?_, fun c2 => ?_⟩
    · rw [c2, if_neg (by decide)] at y2
      have c2' : zK t a (zE t a) kWord = false := c2
      refine c_accW (x := 5) hw ht (by decide) (by decide) y2 fun s5 x1 x2 => ?_
      rw [hsk] at x2 ⊢
      rw [b2i_n0, b2i_0]
      have f5 := f3.tr x1
      refine ⟨fun c3 => ?_, fun c3 => ?_⟩
      · rw [c3, if_neg (by decide)] at x2
        have c3' : zK t a (zE t a) kLesson = false := c3
        refine c_accW (x := 9) hw ht (by decide) (by decide) x2 fun s7 u1 u2 => ?_
        rw [hsk] at u2 ⊢
        rw [b2i_n0, b2i_0]
        have f7 := f5.tr u1
        refine ⟨fun c4 => ?_, fun c4 => ?_⟩
        · rw [c4, if_neg (by decide)] at u2
          have c4' : zK t a (zE t a) kPage = false := c4
          have e : zBody t D a (zE t a) = .inl (1, a) := by
            unfold zBody
            rw [c1', c2', c3', c4']
            rfl
          refine c_failC (n := 1) hw u2 fun s9 v1 v2 _ => go _ s7 e (fun f q => (by cases q; exact ⟨Nat.le_of_ble_eq_true rfl, Nat.le_of_ble_eq_true rfl⟩)) f7 s9 (v1.mono scN_Dr) ⟨a, _, v2, Or.inl rfl⟩
        · rw [c4, if_pos rfl] at u2
          have c4' : zK t a (zE t a) kPage = true := c4
          have e : zBody t D a (zE t a) = zPage t D a (zE t a) := by
            unfold zBody
            rw [c1', c2', c3', c4']
            rfl
          exact c_pPage hw ht hD hP (rN f7) (cC f7) u2 (fun s13 v1 v2 => go _ s7 e (fun f q => zPage_er ht hE q) f7 s13 v1 v2)
      · rw [c3, if_pos rfl] at x2
        have c3' : zK t a (zE t a) kLesson = true := c3
        have e : zBody t D a (zE t a) = zLesson t D a (zE t a) := by
          unfold zBody
          rw [c1', c2', c3']
          rfl
        exact c_pLesson hw ht hD hP (rN f5) (cC f5) x2 (fun s13 v1 v2 => go _ s5 e (fun f q => zLesson_er ht hD hE q) f5 s13 v1 v2)
    · rw [c2, if_pos rfl] at y2
      have c2' : zK t a (zE t a) kWord = true := c2
      have e : zBody t D a (zE t a) = zWord t D a (zE t a) := by
        unfold zBody
        rw [c1', c2']
        rfl
      exact c_pWord hw ht hD hP (rN f3) (cC f3) y2 (fun s13 v1 v2 => go _ s3 e (fun f q => zWord_er ht hE q) f3 s13 v1 v2)
  · rw [c1, if_pos rfl] at z2
    have c1' : zK t a (zE t a) kSign = true := c1
    have e : zBody t D a (zE t a) = zSign t D a (zE t a) := by
      unfold zBody
      rw [c1']
      rfl
    exact c_pSign hw ht hD hP (rN z1) (cC z1) z2 (fun s13 v1 v2 => go _ s1 e (fun f q => zSign_er q) z1 s13 v1 v2)
def scPa (P o _k : Nat) : Bool := o == 1 || (decide (P ≤ o) && decide (o ≤ P + 155))
theorem scDc_Pa {P : Nat} : ∀ o k, scDc P o k = true → scPa P o k = true := by
  intro o k h
  unfold scDc scDr at h
  unfold scPa
  simp only [Bool.or_eq_true, Bool.and_eq_true, beq_iff_eq, decide_eq_true_eq] at h ⊢
  omega
theorem scN_Pa {P : Nat} : ∀ o k, scN o k = true → scPa P o k = true := fun o k h => scDc_Pa o k (scDr_Dc o k (scN_Dr o k h))
/-- all has been read -/
def PaC (σ : St) (P : Nat) (r : Er ⊕ (Nat × PV)) : Prop := gI σ 1 1 = 0 ∧ match r with
  | .inl f => erOK f ∧ gI σ 1 6 = nI f.1 ∧ gI σ 1 7 = nI f.2
  | .inr x => gI σ 1 6 = 0 ∧ gI σ 1 7 = -1 ∧ gI σ 1 5 = nI x.1 ∧ DOK x.2 ∧ PrC σ P x.2
theorem c_parse {Q : St → Prop} {σ : St} (hw : RunW w) (ht : TxOK t) (hP : isP P) (hT : TC σ t) (hQ : ∀ σ', Fr (scPa P) σ σ' → PaC σ' P (zTop t) → Q σ') : SpV Γ (d + 8) mX3_parse [.ref 1, .ref P] σ w Q := by
  have h6 := ht.1
  have hge := P_ge hP
  have u1 : ∀ {s s' : St}, Fr scN s s' → gI s' 1 5 = gI s 1 5 := fun h => h.1 1 5 (by unfold scN; simp)
  have fz : ∀ {s : St}, Fr (scPa P) σ s → Fr (scPa P) σ (uI s 1 1 0) := fun h => h.tr (fr_I (by simp [scPa]))
  -- there is a fault
  have bad : ∀ f b (i : Int32) s, zTop t = .inl f → erOK f → Fr (scPa P) σ s → PX s t b (nI f.1, nI f.2) → AV Γ (d + 8) mX3_parse w Q 38 [(0, .ref 1), (2, .int i)] s := by
    intro f b i s hz ok hf hPX
    have n0 : ¬ nI f.1 = 0 := nI_ne0 (by have := ok.1; omega) (by have := ok.2; omega)
    have hq : Q (uI s 1 1 0) := by
      refine hQ _ (fz hf) ⟨by rw [gI_uI, if_pos ⟨rfl, rfl⟩], ?_⟩
      rw [hz]
      exact ⟨ok, by rw [gI_uI, if_neg (by decide)]; exact hPX.2.2.2.1, by rw [gI_uI, if_neg (by decide)]; exact hPX.2.2.2.2⟩
    refine vX3_parse_38 hw ⟨fun _ => hq, fun _ => ⟨fun _ => hq, fun _ => ⟨fun _ => hq, fun q => absurd q ?_⟩⟩⟩
    rw [hPX.2.2.2.1]
    exact n0
  have lp : ∀ f i b D s, 601 ≤ i + f → i ≤ b → Fr (scPa P) σ s → PX s t b f00 → sk t b = b → DOK D → PrC s P D → gR s 1 4 = some P → gI s 1 5 = nI i → zAll t f i D b = zTop t → AV Γ (d + 8) mX3_parse w Q 38 [(0, .ref 1), (2, .int (nI i))] s := by
    intro f
    induction f with
    | zero => intro i b D s h1 h2 _ hPX; have := hPX.2.2.1; omega
    | succ f ih =>
      intro i b D s h1 h2 hf hPX hsk hD hC hR h5 heq
      have hb := hPX.2.2.1
      have st : zAll t (f + 1) i D b = if sk t b < t.1 then (match zClause t D (sk t b) with
        | .inl x => .inl x
        | .inr x => zAll t f (i + 1) x.2 x.1) else .inr (i, D) := rfl
      rw [hsk] at st
      have hq : ¬ b < t.1 → Q (uI s 1 1 0) := by
        intro q
        rw [if_neg q] at st
        refine hQ _ (fz hf) ⟨by rw [gI_uI, if_pos ⟨rfl, rfl⟩], ?_⟩
        rw [← heq, st]
        exact ⟨by rw [gI_uI, if_neg (by decide)]; exact hPX.2.2.2.1, by rw [gI_uI, if_neg (by decide)]; exact hPX.2.2.2.2, by rw [gI_uI, if_neg (by decide)]; exact h5, hD, hC.f1 hP hD (S := fun o k => o == 1 && k == 1) (fun o k q => by simp [q]) (fr_I (by simp))⟩
      refine vX3_parse_38 hw ⟨fun q => hq ?_, fun _ => ⟨fun q => hq ?_, fun q => ⟨fun q2 => absurd hPX.2.2.2.1 q2, fun _ => ?_⟩⟩⟩
      · have : (600 : Int32) ≤ nI i ↔ 600 ≤ i := nI_leI (a := 600) (by decide) (by omega)
        rw [this] at q
        omega
      · rw [hPX.1.1, hPX.2.1, nI_leI (by omega) (by omega)] at q
        omega
      · rw [hPX.1.1, hPX.2.1, nI_leI (by omega) (by omega)] at q
        rw [if_pos (by omega)] at st
        refine c_clause hw ht hD hP hR hC hPX hsk fun s1 z1 z2 => ?_
        have hf1 : Fr (scPa P) σ s1 := hf.tr (z1.mono scDc_Pa)
        cases hcl : zClause t D b with
        | inl g =>
          rw [hcl] at z2 st
          obtain ⟨ok, b', hPX'⟩ := z2
          exact c_skip hw ht hPX' fun s2 y1 y2 _ => bad g _ _ s2 (heq.symm.trans st) ok (hf1.tr (y1.mono scN_Pa)) y2
        | inr x =>
          rw [hcl] at z2 st
          obtain ⟨k1, k2, k3⟩ := z2
          obtain ⟨l1, l2, l3⟩ := zClause_ok hD hb hcl
          refine c_skip hw ht k1 fun s2 y1 y2 _ => ?_
          rw [nI_1]
          have l4 := sk_ge t x.1
          have hzz : zAll t f (i + 1) x.2 (sk t x.1) = zAll t f (i + 1) x.2 x.1 := by
            cases f with
            | zero => rfl
            | succ f =>
              unfold zAll
              rw [sk_sk]
          refine ih (i + 1) (sk t x.1) x.2 s2 (by omega) (by omega) (hf1.tr (y1.mono scN_Pa)) y2 (sk_sk _ _) l3 (k2.f1 hP l3 (fun o k q => by unfold scN; simp [q]) y1) ?_ ?_ (hzz.trans (st.symm.trans heq))
          · rw [y1.2.2 1 4 (by unfold scN; simp), z1.2.2 1 4 (by unfold scDc scDr; simp; omega)]
            exact hR
          · rw [u1 y1, k3, h5, nI_1]
  refine SpV.of pnX3 (Nat.le_of_ble_eq_true rfl) (vX3_parse_0 hw (prO hw hP) (SpV.of pnX4 (Nat.le_of_ble_eq_true rfl) (vX4_clear_0 (prO hw hP) ?_)))
  generalize hs0 : (uI (uI (uI (uI (uR σ 1 4 (some P)) P 1 0) P 3 0) P 7 0) P 11 0) = s0
  generalize hs1 : (uI (uI (uI (uI s0 1 2 0) 1 5 0) 1 6 0) 1 7 (-1)) = s1
  have hf0 : Fr (fun o k => (o == 1 && k == 4) || o == P) σ s0 := by
    rw [← hs0]
    exact ((((fr_R (by simp)).tr (fr_I (by simp))).tr (fr_I (by simp))).tr (fr_I (by simp))).tr (fr_I (by simp))
  have hf1 : Fr (fun o k => o == 1 && (k == 2 || k == 5 || k == 6 || k == 7)) s0 s1 := by
    rw [← hs1]
    exact (((fr_I (by simp)).tr (fr_I (by simp))).tr (fr_I (by simp))).tr (fr_I (by simp))
  have hT1 : TC s1 t := (hT.fr (S := fun o k => (o == 1 && k == 4) || o == P) (fun o k q => by simp; omega) hf0).fr (S := fun o k => o == 1 && (k == 2 || k == 5 || k == 6 || k == 7)) (fun o k q => by simp; omega) hf1
  have hPX1 : PX s1 t 0 f00 := by
    refine ⟨hT1, ?_, Nat.zero_le _, ?_, ?_⟩
    · rw [← hs1, gI_uI, if_neg (by decide), gI_uI, if_neg (by decide), gI_uI, if_neg (by decide), gI_uI, if_pos ⟨rfl, rfl⟩]; rfl
    · rw [← hs1, gI_uI, if_neg (by decide), gI_uI, if_pos ⟨rfl, rfl⟩]; rfl
    · rw [← hs1, gI_uI, if_pos ⟨rfl, rfl⟩]; rfl
  have c15 : gI s1 1 5 = 0 := by rw [← hs1, gI_uI, if_neg (by decide), gI_uI, if_neg (by decide), gI_uI, if_pos ⟨rfl, rfl⟩]
  have pS' : ∀ k, gI s1 P k = gI s0 P k := fun k => hf1.1 P k (by simp; omega)
  have hC1 : PrC s1 P pv0 := by
    refine ⟨⟨?_, ?_, ?_, ?_⟩, fun k hk => absurd hk (Nat.not_lt_zero k), fun k hk => absurd hk (Nat.not_lt_zero k), fun k hk => absurd hk (Nat.not_lt_zero k), fun k hk => absurd hk (Nat.not_lt_zero k)⟩
    · show gI s1 P 1 = 0
      rw [pS', ← hs0, gI_uI, if_neg (by omega), gI_uI, if_neg (by omega), gI_uI, if_neg (by omega), gI_uI, if_pos ⟨rfl, rfl⟩]
    · show gI s1 P 3 = 0
      rw [pS', ← hs0, gI_uI, if_neg (by omega), gI_uI, if_neg (by omega), gI_uI, if_pos ⟨rfl, rfl⟩]
    · show gI s1 P 7 = 0
      rw [pS', ← hs0, gI_uI, if_neg (by omega), gI_uI, if_pos ⟨rfl, rfl⟩]
    · show gI s1 P 11 = 0
      rw [pS', ← hs0, gI_uI, if_pos ⟨rfl, rfl⟩]
  have hR1 : gR s1 1 4 = some P := by
    rw [hf1.2.2 1 4 (by simp), ← hs0]
    rw [gR_uI, gR_uI, gR_uI, gR_uI, gR_uR, if_pos ⟨rfl, rfl⟩]
  have hfa : Fr (scPa P) σ s1 := (hf0.mono (fun o k q => by unfold scPa; simp only [Bool.or_eq_true, Bool.and_eq_true, beq_iff_eq, decide_eq_true_eq] at q ⊢; omega)).tr (hf1.mono (fun o k q => by unfold scPa; simp only [Bool.or_eq_true, Bool.and_eq_true, beq_iff_eq, decide_eq_true_eq] at q ⊢; omega))
  refine c_skip hw ht hPX1 fun s2 y1 y2 _ => ?_
  have l4 := sk_ge t 0
  refine lp 601 0 (sk t 0) pv0 s2 (by omega) (by omega) (hfa.tr (y1.mono scN_Pa)) y2 (sk_sk _ _) pv0_ok (hC1.f1 hP pv0_ok (fun o k q => by unfold scN; simp [q]) y1) ?_ ?_ ?_
  · rw [y1.2.2 1 4 (by unfold scN; simp)]; exact hR1
  · rw [u1 y1, c15]; rfl
  · unfold zTop zAll
    rw [sk_sk]
end CCL
