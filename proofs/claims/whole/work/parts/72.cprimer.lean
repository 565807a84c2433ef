/-! the class: primer -/
theorem AgV.tr {a b c : PV} (h : AgV a b) (g : AgV b c) : AgV a c := by
  obtain ⟨⟨a1, a2, a3, a4⟩, hs, hw, hl, hp⟩ := h
  obtain ⟨⟨c1, c2, c3, c4⟩, gs, gw, gl, gp⟩ := g
  have e1 : nS b = nS c := congrArg Int32.toNatClampNeg c1
  have e2 : nW b = nW c := congrArg Int32.toNatClampNeg c2
  have e3 : nL b = nL c := congrArg Int32.toNatClampNeg c3
  have e4 : nP b = nP c := congrArg Int32.toNatClampNeg c4
  refine ⟨⟨a1.trans c1, a2.trans c2, a3.trans c3, a4.trans c4⟩, fun k hk => ?_, fun v hv => ?_, fun l hl' j hj => ?_, fun p hp' => ?_⟩
  · obtain ⟨x1, x2, x3, x4⟩ := hs k (by omega)
    obtain ⟨y1, y2, y3, y4⟩ := gs k hk
    have e : sS b k = sS c k := congrArg Int32.toNatClampNeg y1
    exact ⟨x1.trans y1, x2.trans y2, x3.trans y3, fun j hj => (x4 j (by omega)).trans (y4 j hj)⟩
  · obtain ⟨x1, x2, x3, x4⟩ := hw v (by omega)
    obtain ⟨y1, y2, y3, y4⟩ := gw v hv
    have e : wS b v = wS c v := congrArg Int32.toNatClampNeg y1
    have e' : wN b v = wN c v := congrArg Int32.toNatClampNeg y2
    exact ⟨x1.trans y1, x2.trans y2, fun j hj => (x3 j (by omega)).trans (y3 j hj), fun j hj => (x4 j (by omega)).trans (y4 j hj)⟩
  · exact (hl l (by omega) j hj).trans (gl l hl' j hj)
  · obtain ⟨x1, x2, x3⟩ := hp p (by omega)
    obtain ⟨y1, y2, y3⟩ := gp p hp'
    have e : pS b p = pS c p := congrArg Int32.toNatClampNeg y1
    exact ⟨x1.trans y1, fun j hj => (x2 j (by omega)).trans (y2 j hj), x3.trans y3⟩
theorem setOf_eq {f g : Nat → Bool} : ∀ n, (∀ k, k < n → f k = g k) → setOf f n = setOf g n
  | 0, _ => rfl
  | n + 1, h => by
    have e1 := setOf_eq (f := f) (g := g) n (fun k hk => h k (by omega))
    have e2 := h n (Nat.lt_succ_self n)
    unfold setOf
    rw [e1, e2]
theorem allB_eq {f g : Nat → Bool} : ∀ n, (∀ k, k < n → f k = g k) → allB f n = allB g n
  | 0, _ => rfl
  | n + 1, h => by
    have e1 := allB_eq (f := f) (g := g) n (fun k hk => h k (by omega))
    have e2 := h n (Nat.lt_succ_self n)
    unfold allB
    rw [e1, e2]
theorem fit_ag {π D : PV} (h : AgV π D) {v i : Nat} (hv : v < nW D) : fitI π v i = fitI D v i := by
  obtain ⟨⟨a1, a2, a3, a4⟩, hs, hw, -⟩ := h
  have e1 : nS π = nS D := congrArg Int32.toNatClampNeg a1
  obtain ⟨w1, -, w3, -⟩ := hw v hv
  have e2 : wS π v = wS D v := congrArg Int32.toNatClampNeg w1
  unfold fitI
  rw [e1]
  refine setOf_eq _ (fun k hk => ?_)
  obtain ⟨s1, s2, s3, s4⟩ := hs k hk
  have e3 : sS π k = sS D k := congrArg Int32.toNatClampNeg s1
  unfold fitS fitB
  rw [e2, e3, s3]
  by_cases q : i + sS D k ≤ wS D v
  · have : fitL π k v i (sS D k) = fitL D k v i (sS D k) := by
      unfold fitL
      refine allB_eq _ (fun j hj => ?_)
      rw [w3 (i + j) (by omega), s4 j hj]
    rw [this]
  · rw [decide_eq_false q]
    simp
theorem FtC.ag {σ : St} {P : Nat} {π D : PV} (h : FtC σ P D) (hA : AgV π D) : FtC σ P π := by
  have e2 : nW π = nW D := congrArg Int32.toNatClampNeg hA.1.2.1
  intro v hv i hi
  rw [e2] at hv
  have e : wS π v = wS D v := congrArg Int32.toNatClampNeg (hA.2.2.1 v hv).1
  rw [e] at hi
  rw [fit_ag hA hv]
  exact h v hv i hi
def scStl (P o _k : Nat) : Bool := o == P + 19 || (decide (P + 63 ≤ o) && decide (o ≤ P + 155) && (o - P - 63) % 4 == 0)
theorem PrC.stl {σ σ' : St} {P : Nat} {π : PV} (hF : WF π) (h : PrC σ P π) (hf : Fr (scStl P) σ σ') : PrC σ' P π := by
  obtain ⟨⟨a1, a2, a3, a4⟩, hs, hw, hl, hp⟩ := h
  obtain ⟨⟨⟨-, h20⟩, ⟨-, h24⟩, ⟨-, h7⟩, -, h8⟩, -⟩ := hF
  have z : ∀ o k, (o < P + 19 ∨ (P + 20 ≤ o ∧ o < P + 63) ∨ (P + 63 ≤ o ∧ (o - P - 63) % 4 ≠ 0)) → gI σ' o k = gI σ o k := fun o k q => hf.1 o k (by
    unfold scStl
    simp only [Bool.or_eq_false_iff, Bool.and_eq_false_iff, beq_eq_false_iff_ne, decide_eq_false_iff_not]
    omega)
  refine ⟨⟨(z _ _ (by omega)).trans a1, (z _ _ (by omega)).trans a2, (z _ _ (by omega)).trans a3, (z _ _ (by omega)).trans a4⟩, fun k hk => ?_, fun v hv => ?_, fun l hl' j hj => ?_, fun p hp' => ?_⟩
  · obtain ⟨b1, b2, b3, b4⟩ := hs k hk
    exact ⟨(z _ _ (by omega)).trans b1, (z _ _ (by omega)).trans b2, (z _ _ (by omega)).trans b3, fun j hj => (z _ _ (by omega)).trans (b4 j hj)⟩
  · obtain ⟨b1, b2, b3, b4⟩ := hw v hv
    exact ⟨(z _ _ (by omega)).trans b1, (z _ _ (by omega)).trans b2, fun j hj => (z _ _ (by omega)).trans (b3 j hj), fun j hj => (z _ _ (by omega)).trans (b4 j hj)⟩
  · exact (z _ _ (by omega)).trans (hl l hl' j hj)
  · obtain ⟨b1, b2, b3⟩ := hp p hp'
    exact ⟨(z _ _ (by omega)).trans b1, fun j hj => (z _ _ (by omega)).trans (b2 j hj), (z _ _ (by omega)).trans b3⟩
theorem pnX0' : plainName RX0 = true := by decide +kernel
theorem ok425 {w : Wd} (h : RunC w) : okO w 425 0 := okC h (by decide) (by decide +kernel)
section CPM
variable {Γ : Gx} {d : Nat} {w : Wd} {P : Nat} {π : PV}
theorem c_settle {Q : St → Prop} {σ : St} (hw : RunW w) (hP : isP P) (hF : WF π) (hC : PrC σ P π) (hQ : ∀ σ', Fr (scStl P) σ σ' → PrC σ' P π → FtC σ' P π → (∀ a, a < 128 → gI σ' (P + 19) a = -1) → Q σ') : SpV Γ (d + 2) mX4_settle [.ref P] σ w Q := by
  have hlt := P_lt hP
  have h24 := hF.1.2.1.2
  have o19 : okO w (P + 19) 20 := okL hw (by omega) (by rw [pO19 hP])
  refine SpV.of pnX4 (Nat.le_of_ble_eq_true rfl) (vX4_settle_0 (prO hw hP) (pr13 hw hP) (c_fillI (n := 128) o19 (by rw [pO19 hP]) (by decide) fun s1 z1 z2 => ?_))
  have f1 : Fr (scStl P) σ s1 := z1.mono (fun o k q => by unfold scO at q; unfold scStl; rw [q]; rfl)
  have fin : ∀ s, Fr (scStl P) σ s → (∀ v, v < nW π → ∀ i, i < wS π v → gI s (P + 63 + 4 * v) i = fitI π v i) → (∀ a, a < 128 → gI s (P + 19) a = -1) → Q s := fun s h1 h2 h3 => hQ s h1 (hC.stl hF h1) h2 h3
  have lp : ∀ n v s, v + n = nW π → Fr (scStl P) σ s → (∀ v', v' < v → ∀ i, i < wS π v' → gI s (P + 63 + 4 * v') i = fitI π v' i) → (∀ a, a < 128 → gI s (P + 19) a = -1) → AV Γ (d + 2) mX4_settle w Q 10 [(0, .ref P), (1, .int (nI v))] s := by
    intro n
    induction n with
    | zero =>
      intro v s hv hf h1 h2
      have : v = nW π := hv
      subst this
      refine vX4_settle_10 (prO hw hP) (pr2 hw hP) (wdE hw hP (by omega)) (lo_ hw (by omega)) (k24 (pO2 hP) (by decide)) (k28 (pO2 hP) (by decide)) ?_
      rw [(wP (hC.stl hF hf) hF).2.1]
      exact ⟨fun _ => fin s hf h1 h2, fun q => absurd (nI_le (Nat.le_refl _) (by omega)) q⟩
    | succ n ih =>
      intro v s hv hf h1 h2
      have hv' : v < nW π := by omega
      obtain ⟨w1, w2, w3, -⟩ := hF.2.2.1 v hv'
      obtain ⟨o3, ⟨-, -, r3⟩, -, -, o5, z5⟩ := wdF hw hP (k := v) (by omega)
      refine vX4_settle_10 (prO hw hP) (pr2 hw hP) (wdE hw hP (by omega)) (lo_ hw (by omega)) (k24 (pO2 hP) (by decide)) (k28 (pO2 hP) (by decide)) ?_
      rw [(wP (hC.stl hF hf) hF).2.1, wdA_ (show v < 24 by omega)]
      refine ⟨fun q => absurd q (nI_ge (by omega) (by omega)), fun _ => ⟨vk (pO2 hP) (by omega), ?_⟩⟩
      have hfu : ∀ (s : St) (j : Nat) (x : Int32), Fr (scStl P) s (uI s (P + 63 + 4 * v) j x) := fun s j x => fr_I (by unfold scStl; simp; omega)
      have lp2 : ∀ m i s, i + m = wS π v → Fr (scStl P) σ s → (∀ v', v' < v → ∀ i, i < wS π v' → gI s (P + 63 + 4 * v') i = fitI π v' i) → (∀ a, a < 128 → gI s (P + 19) a = -1) → (∀ i', i' < i → gI s (P + 63 + 4 * v) i' = fitI π v i') → AV Γ (d + 2) mX4_settle w Q 27 [(0, .ref P), (1, .int (nI v)), (2, .ref (P + 60 + 4 * v)), (3, .int (nI i))] s := by
        intro m
        induction m with
        | zero =>
          intro i s hi hf h1 h2 h3
          have : i = wS π v := hi
          subst this
          refine vX4_settle_27 o3 r3 o5 (prO hw hP) ?_
          have ew : gI s (P + 60 + 4 * v) 1 = nI (wS π v) := Eq.trans ((hC.stl hF hf).2.2.1 v hv').1 w1
          rw [ew, nI_1]
          refine ⟨fun _ => ih (v + 1) s (by omega) hf (fun v' q i hi2 => ?_) h2, fun q => absurd (nI_le (Nat.le_refl _) (by omega)) q⟩
          by_cases e : v' = v
          · subst e; exact h3 i hi2
          · exact h1 v' (by omega) i hi2
        | succ m ihm =>
          intro i s hi hf h1 h2 h3
          refine vX4_settle_27 o3 r3 o5 (prO hw hP) ?_
          have hCs := hC.stl hF hf
          have ew : gI s (P + 60 + 4 * v) 1 = nI (wS π v) := Eq.trans (hCs.2.2.1 v hv').1 w1
          rw [ew]
          refine ⟨fun q => absurd q (nI_ge (by omega) (by omega)), fun _ => c_signsSt hw hP hCs hF hv' (by omega) ⟨vk2 z5 (by omega), ?_⟩⟩
          rw [cl (show i < 2 ^ 31 by omega), show nI i + 1 = nI (i + 1) from nI_add i 1]
          refine ihm (i + 1) _ (by omega) (hf.tr (hfu s i _)) (fun v' q i' hi' => ?_) (fun a ha => ?_) (fun i' hi' => ?_)
          · rw [gI_uI, if_neg (by omega)]; exact h1 v' q i' hi'
          · rw [gI_uI, if_neg (by omega)]; exact h2 a ha
          · rw [gI_uI]
            by_cases e : i' = i
            · rw [if_pos ⟨rfl, e⟩, e]
            · rw [if_neg (by omega)]; exact h3 i' (by omega)
      exact lp2 (wS π v) 0 s (Nat.zero_add _) hf h1 h2 (fun i' q => absurd q (Nat.not_lt_zero i'))
  exact lp (nW π) 0 s1 (Nat.zero_add _) f1 (fun v' q => absurd q (Nat.not_lt_zero v')) z2
def scPrm (P o k : Nat) : Bool := scPa P o k || (o == 0 && (k == 1 || k == 2 || k == 7)) || scSc o k || (o == 425 && k == 5)
/-- the object whose course is not yet made, or is -/
def CoW (σ : St) (w : Wd) : Prop := gR σ 0 8 = none ∨ (gR σ 0 8 = some 425 ∧ RunC w)
theorem C_primer {Q : Int32 → St → Prop} {σ : St} {P' : Nat} {t : Tx} {κ : KV} (hw : RunW w) (ht : TxOK t) (hP : isP P) (hP' : isP P') (hne : P ≠ P') (h1 : gR σ 0 1 = some P) (h2 : gR σ 0 2 = some P') (hT : TC σ t) (hK : gI σ 320 1 = κ 4 0) (hCo : CoW σ w)
    (q1 : ∀ f σ', zTop t = .inl f → erOK f → Fr (scPa P') σ σ' → gI σ' 1 1 = 0 → gI σ' 1 7 = nI f.2 → Q (-10 - nI f.1) σ')
    (q2 : ∀ x σ', zTop t = .inr x → DOK x.2 → Fr (scPrm P') σ σ' → CP σ' P' x.2 → (∀ a, a < 128 → gI σ' (P' + 19) a = -1) → gR σ' 0 2 = some P → KR σ' 320 (begK κ) → gI σ' 0 7 = 0 → gI σ' 1 1 = 0 → gI σ' 1 7 = -1 → (gR σ 0 8 = some 425 → gI σ' 425 5 = -1) → Q (nI x.1) σ') : SpI Γ (d + 9) mX11_primer [.ref 0] σ w Q := by
  have hge := P_ge hP'
  have hlt := P_lt hP'
  refine SpI.of pnX11 (Nat.le_of_ble_eq_true rfl) (vX11_primer_0 hw h2 (c_parse hw ht hP' hT fun s1 z1 z2 => ?_))
  have r0 : ∀ k, gR s1 0 k = gR σ 0 k := fun k => z1.2.2 0 k (by unfold scPa; simp; omega)
  obtain ⟨z2, z3⟩ := z2
  cases hz : zTop t with
  | inl f =>
    rw [hz] at z3
    obtain ⟨ok, e6, e7⟩ := z3
    have n0 : ¬ nI f.1 = 0 := nI_ne0 (by have := ok.1; omega) (by have := ok.2; omega)
    rw [e6]
    exact ⟨fun q => absurd q n0, fun _ => q1 f s1 hz ok z1 z2 e7⟩
  | inr x =>
    rw [hz] at z3
    obtain ⟨e6, e7, e5, hD, hC⟩ := z3
    refine ⟨fun _ => ?_, fun q => absurd e6 q⟩
    have a1 : gR s1 0 1 = some P := (r0 1).trans h1
    have a2 : gR s1 0 2 = some P' := (r0 2).trans h2
    refine ⟨mR1 a1 ⟨mR1 a2 ⟨prO hw hP', ?_⟩, mR2 a2⟩, mR2 a1⟩
    generalize hs : uR (uR s1 0 1 (some P')) 0 2 (some P) = s
    have fu : Fr (fun o k => o == 0 && (k == 1 || k == 2)) s1 s := by
      rw [← hs]
      exact (fr_R (by simp)).tr (fr_R (by simp))
    have hCs : PrC s P' x.2 := hC.fr hD.1 (fun o k q => by unfold inPr at q; simp; omega) fu
    refine c_settle hw hP' hD.1 hCs fun s4 y1 y2 y3 y4 => ?_
    have k4 : gI s4 320 1 = κ 4 0 := by
      rw [y1.1 320 1 (by unfold scStl; simp; omega), fu.1 320 1 (by simp), z1.1 320 1 (by unfold scPa; simp; omega)]
      exact hK
    refine c_anew (κ := κ) hw k4 fun s5 x1 x2 => ?_
    have sc0 : ∀ o k, o < 320 → scSc o k = false := fun o k h => by unfold scSc; simp; omega
    -- what all agree on
    have fall : Fr (scPrm P') σ s5 := by
      refine (z1.mono (fun o k q => by unfold scPrm; rw [q]; rfl)).tr ((fu.mono (fun o k q => ?_)).tr ((y1.mono (fun o k q => ?_)).tr (x1.mono (fun o k q => by unfold scPrm; rw [q]; simp))))
      · unfold scPrm
        simp only [Bool.or_eq_true, Bool.and_eq_true, beq_iff_eq] at q ⊢
        omega
      · unfold scPrm scPa
        unfold scStl at q
        simp only [Bool.or_eq_true, Bool.and_eq_true, beq_iff_eq, decide_eq_true_eq] at q ⊢
        omega
    have one : ∀ s', Fr (fun o k => (o == 0 && k == 7) || (o == 425 && k == 5)) s5 s' → gI s' 0 7 = 0 → (gR σ 0 8 = some 425 → gI s' 425 5 = -1) → Q (gI s5 1 5) s' := by
      intro s' hf h7 h425
      have c1 : ∀ k, gI s5 1 k = gI s1 1 k := fun k => (x1.1 1 k (sc0 _ _ (by decide))).trans ((y1.1 1 k (by unfold scStl; simp <;> omega)).trans (fu.1 1 k (by simp)))
      have c1' : ∀ k, gI s' 1 k = gI s5 1 k := fun k => hf.1 1 k (by simp)
      rw [c1 5, e5]
      have hsk : ∀ o k, 1 ≤ o → o < 425 → ((fun o k => (o == 0 && k == 7) || (o == 425 && k == 5)) o k) = false := fun o k q1 q2 => by simp; omega
      have ig : ∀ o, inPr P' o → (1 ≤ o ∧ o < 320) := fun o q => by unfold inPr at q; omega
      have rr : ∀ k, k ≠ 7 → gR s' 0 k = gR s 0 k := fun k hk => (hf.2.2 0 k (by simp [hk])).trans ((x1.2.2 0 k (sc0 _ _ (by decide))).trans (y1.2.2 0 k (by unfold scStl; simp <;> omega)))
      have p5 : PrC s5 P' x.2 := y2.fr hD.1 (fun o k q => sc0 _ _ (ig o q).2) x1
      have t5 : FtC s5 P' x.2 := y3.fr hD.1 (fun o k q => sc0 _ _ (ig o q).2) x1
      have ca : ∀ a, a < 128 → gI s' (P' + 19) a = -1 := fun a ha => by
        rw [hf.1 _ _ (hsk _ _ (by omega) (by omega)), x1.1 _ _ (sc0 _ _ (by omega))]
        exact y4 a ha
      refine q2 x s' hz hD (fall.tr (hf.mono (fun o k q => ?_))) ⟨?_, hP', p5.fr hD.1 (fun o k q => hsk o k (ig o q).1 (by have := (ig o q).2; omega)) hf, t5.fr hD.1 (fun o k q => hsk o k (ig o q).1 (by have := (ig o q).2; omega)) hf, fun a ha => Or.inl (ca a ?_)⟩ ca ?_ (x2.fr (fun o k q1 q2 => hsk o k (by omega) (by omega)) hf) h7 ?_ ?_ h425
      · unfold scPrm
        simp only [Bool.or_eq_true, Bool.and_eq_true, beq_iff_eq] at q ⊢
        omega
      · rw [rr 1 (by decide), ← hs, gR_uR, if_neg (by decide), gR_uR, if_pos ⟨rfl, rfl⟩]
      · have := Nat.pow_le_pow_right (show 0 < 2 by decide) hD.nL
        omega
      · rw [rr 2 (by decide), ← hs, gR_uR, if_pos ⟨rfl, rfl⟩]
      · rw [c1', c1]; exact z2
      · rw [c1', c1]; exact e7
    have r8 : gR s5 0 8 = gR σ 0 8 := by
      rw [x1.2.2 0 8 (sc0 _ _ (by decide)), y1.2.2 0 8 (by unfold scStl; simp <;> omega), fu.2.2 0 8 (by simp), r0 8]
    rcases hCo with h8 | ⟨h8, hwc⟩
    · rw [r8]
      refine ⟨fun r q => (by rw [h8] at q; cases q), fun _ => one _ (fr_I (by simp)) (by rw [gI_uI, if_pos ⟨rfl, rfl⟩]) (fun q => (by rw [h8] at q; cases q))⟩
    · rw [r8]
      refine ⟨mR1 h8 ⟨mR1 h8 ⟨ok425 hwc, SpV.of pnX0' (Nat.le_of_ble_eq_true rfl) (vX0_forget_0 hwc ?_)⟩, mR2 h8⟩, mR2 h8⟩
      have e15 : gI (uI (uI s5 0 7 0) 425 5 (-1)) 1 5 = gI s5 1 5 := by rw [gI_uI, if_neg (by decide), gI_uI, if_neg (by decide)]
      rw [e15]
      exact one _ ((fr_I (by simp)).tr (fr_I (by simp))) (by rw [gI_uI, if_neg (by decide), gI_uI, if_pos ⟨rfl, rfl⟩]) (fun _ => by rw [gI_uI, if_pos ⟨rfl, rfl⟩])
theorem C_fault {Q : Int32 → St → Prop} {σ : St} (hw : RunW w) (h : Q (gI σ 1 7) σ) : SpI Γ d mX11_fault [.ref 0] σ w Q := SpI.of pnX11 (Nat.le_of_ble_eq_true rfl) (vX11_fault_0 hw h)
end CPM
