/-! the class reads its text: letters, words told, signs -/
theorem scN_Lt {o1 : Nat} : ∀ o k, scN o k = true → scLt o1 o k = true := fun o k h => by unfold scLt; rw [h]; rfl
theorem scLt_T {o1 : Nat} (h1 : o1 ≠ 1) (h2 : o1 ≠ 2) : ∀ o k, (o = 2 ∨ (o = 1 ∧ k = 1)) → scLt o1 o k = false := by
  intro o k h
  unfold scLt
  rw [scN_T o k h]
  rcases h with rfl | ⟨rfl, rfl⟩
  · simp; exact fun e => h2 e.symm
  · simp; exact fun e => h1 e.symm
theorem PX.o {t : Tx} {σ σ' : St} {a : Nat} {φ : Int32 × Int32} {S : Nat → Nat → Bool} (h : PX σ t a φ) (hS : ∀ o k, (o = 1 ∨ o = 2) → S o k = false) (hf : Fr S σ σ') : PX σ' t a φ := by
  obtain ⟨h1, h2, h3, h4, h5⟩ := h
  exact ⟨h1.fr (fun o k q => hS o k (by omega)) hf, (hf.1 _ _ (hS _ _ (Or.inl rfl))).trans h2, h3, (hf.1 _ _ (hS _ _ (Or.inl rfl))).trans h4, (hf.1 _ _ (hS _ _ (Or.inl rfl))).trans h5⟩
section CPS2
variable {Γ : Gx} {d : Nat} {w : Wd} {t : Tx} {P : Nat}
theorem c_lets {Q : Int32 → St → Prop} {σ : St} {a o1 cap : Nat} {φ : Int32 × Int32} (hw : RunW w) (ht : TxOK t) (ho : okO w o1 20) (hk : (kd o1).2 = cap) (hcap : cap ≤ 8) (h1 : o1 ≠ 1) (h2 : o1 ≠ 2) (hX : PX σ t a φ)
    (hQ : ∀ σ', Fr (scLt o1) σ σ' → PX σ' t (zE t a) (flU φ (erL t cap a)) → (∀ i, i < min (zE t a - sk t a) cap → gI σ' o1 i = nI (t.2 (sk t a + i) - 97)) → Q (nI (min (zE t a - sk t a) cap)) σ') : SpI Γ (d + 2) mX3_parseLetters [.ref 1, .ref o1] σ w Q := by
  have h6 := ht.1
  have e1 := zE_le hX.2.2.1
  have e2 := zE_ge t a
  have e3 := sk_le hX.2.2.1
  -- the letters are put into the row
  have lp : ∀ m s ψ, m = min (zE t a - sk t a) cap → Fr scN σ s → PX s t (sk t a) ψ → ψ = flU φ (erL t cap a) → ∀ n i u, i + n = m → Fr (scLt o1) σ u → PX u t (sk t a) ψ → (∀ j, j < i → gI u o1 j = nI (t.2 (sk t a + j) - 97)) → AI Γ (d + 2) mX3_parseLetters w Q 58 [(0, .ref 1), (1, .ref o1), (2, .int (nI (sk t a))), (3, .int (nI (zE t a))), (4, .int (nI m)), (5, .int (nI i))] u := by
    intro m s ψ hm hfs hPs hψ n
    have hmc : m ≤ cap := by rw [hm]; exact Nat.min_le_right _ _
    have hme : m ≤ zE t a - sk t a := by rw [hm]; exact Nat.min_le_left _ _
    induction n with
    | zero =>
      intro i u hi hf hP hL
      have : i = m := hi
      subst this
      refine vX3_parseLetters_58 hw ho ⟨fun _ => ?_, fun c => absurd (nI_le (Nat.le_refl _) (by omega)) c⟩
      rw [← hm] at hQ
      refine hQ _ (hf.tr (fr_I (by simp [scLt, scN]))) ?_ (fun j hj => by rw [gI_uI, if_neg (fun e => h1 e.1)]; exact hL j hj)
      rw [← hψ]
      exact hP.at e1
    | succ n ih =>
      intro i u hi hf hP hL
      have hz := zR_all (p := zL) (t := t) (a := sk t a) (sk t a + i) (by omega) (show sk t a + i < zE t a by omega)
      have hc : 97 ≤ t.2 (sk t a + i) ∧ t.2 (sk t a + i) ≤ 122 := by
        unfold zL at hz
        simpa using hz
      refine vX3_parseLetters_58 hw ho ⟨fun c => absurd c (nI_ge (by omega) (by omega)), fun _ => ?_⟩
      rw [nI_add, cl (by omega), cl (by omega), hP.1.2 _ (by omega), sx_lo _ (by omega), nI_1]
      have e97 : nI (t.2 (sk t a + i)) - 97 = nI (t.2 (sk t a + i) - 97) := pk_sub (b := 97) hc.1
      rw [e97]
      refine ⟨vin (by omega), vk2 hk (by omega) (by omega), ?_⟩
      have hfu : Fr (fun o _ => o == o1) u (uI u o1 i (nI (t.2 (sk t a + i) - 97))) := fr_I (by simp)
      refine ih (i + 1) _ (by omega) (hf.tr (hfu.mono (fun o k q => by unfold scLt; rw [q]; simp))) (hP.o (fun o k q => by simp; omega) hfu) (fun j hj => ?_)
      rw [gI_uI]
      by_cases e : j = i
      · subst e; rw [if_pos ⟨rfl, rfl⟩]
      · rw [if_neg (by omega)]; exact hL j (by omega)
  have mn : ∀ s ψ, Fr scN σ s → PX s t (sk t a) ψ → ψ = flU φ (erL t cap a) → SpI Γ (d + 1) mJ9_min_7cf53 [.int (nI (zE t a - sk t a)), .int (nI cap)] s w (fun v5 s4 => AI Γ (d + 2) mX3_parseLetters w Q 58 [(0, .ref 1), (1, .ref o1), (2, .int (nI (sk t a))), (3, .int (nI (zE t a))), (4, .int v5), (5, .int 0)] s4) := by
    intro s ψ hf hP hψ
    refine c_min (fun c => ?_) (fun c => ?_)
    · rw [nI_ltI (by omega) (by omega)] at c
      exact lp cap s ψ (by rw [Nat.min_eq_right (by omega)]) hf hP hψ cap 0 s (Nat.zero_add _) (hf.mono scN_Lt) hP (fun j hj => absurd hj (Nat.not_lt_zero j))
    · rw [nI_ltI (by omega) (by omega)] at c
      exact lp (zE t a - sk t a) s ψ (by rw [Nat.min_eq_left (by omega)]) hf hP hψ (zE t a - sk t a) 0 s (Nat.zero_add _) (hf.mono scN_Lt) hP (fun j hj => absurd hj (Nat.not_lt_zero j))
  refine SpI.of pnX3 (Nat.le_of_ble_eq_true rfl) (vX3_parseLetters_0 hw ho.1 (by rw [ho.2]; decide) (by rw [ho.2]; decide) (c_skip hw ht hX fun s z1 z2 _ => c_letEnd hw ht z2 ?_))
  rw [z2.2.1, show zR zL t (sk t a) = zE t a from rfl, pk_sub e2, hk, nI_eq (by omega) (by omega), nI_leI (by omega) (by omega), nI_add]
  refine ⟨fun c => ⟨fun c2 => mn s φ z1 z2 ?_, fun c2 => c_failC hw z2 fun s1 y1 y2 _ => mn s1 _ (z1.tr y1) y2 ?_⟩, fun c => c_failC hw z2 fun s1 y1 y2 _ => mn s1 _ (z1.tr y1) y2 ?_⟩
  · unfold erL
    rw [if_neg c, if_neg (by omega)]
    rfl
  · unfold erL
    rw [if_neg c, if_pos (by omega)]
  · unfold erL
    rw [if_pos c]
theorem mtW_u {D : PV} {b e v v' : Nat} (hU : WU D) (hv : v < nW D) (hv' : v' < nW D) (h : mtW t D b e v = true) (h' : mtW t D b e v' = true) : v = v' := by
  unfold mtW at h h'
  rw [Bool.and_eq_true, decide_eq_true_eq, allB_iff] at h h'
  refine hU v v' hv hv' (h.1.trans h'.1.symm) (fun i hi => ?_)
  have a1 := h.2 i (by omega)
  have a2 := h'.2 i (by omega)
  rw [beq_iff_eq] at a1 a2
  rw [a1, a2]
theorem wOf_is {D : PV} {b e v : Nat} (hU : WU D) (hv : v < nW D) (h : mtW t D b e v = true) : wOf t D b e (nW D) = some v := by
  cases hw : wOf t D b e (nW D) with
  | none =>
    have := wOf_none hw v hv
    rw [h] at this
    cases this
  | some u =>
    obtain ⟨u1, u2⟩ := wOf_some hw
    rw [mtW_u hU u1 hv u2 h]
theorem wOf_no {D : PV} {b e : Nat} (h : ∀ v, v < nW D → mtW t D b e v = false) : wOf t D b e (nW D) = none := by
  cases hw : wOf t D b e (nW D) with
  | none => rfl
  | some u =>
    obtain ⟨u1, u2⟩ := wOf_some hw
    rw [h u u1] at u2
    cases u2
theorem c_ahead {Q : Int32 → St → Prop} {σ : St} {a : Nat} {φ : Int32 × Int32} {D : PV} (hw : RunW w) (ht : TxOK t) (hD : DOK D) (hP : isP P) (hR : gR σ 1 4 = some P) (hC : PrC σ P D) (hX : PX σ t a φ) (hQ : Q (bI (wOf t D a (zR zL t a) (nW D))) σ) : SpI Γ (d + 2) mX3_wordAhead [.ref 1] σ w Q := by
  have h6 := ht.1
  have hlt := P_lt hP
  have h24 := hD.nW
  have e1 : zR zL t a ≤ t.1 := zR_le hX.2.2.1
  have e2 : a ≤ zR zL t a := zR_ge _ _ _
  have ha := hX.2.2.1
  have l51 : ∀ v, v < nW D → (mtW t D a (zR zL t a) v = true → Q (nI v) σ) → (mtW t D a (zR zL t a) v = false → AI Γ (d + 2) mX3_wordAhead w Q 12 [(0, .ref 1), (1, .int (nI (zR zL t a - a))), (2, .int (nI v + 1))] σ) → ∀ b : Bool, b = decide (wS D v = zR zL t a - a) → ∀ n i, i + n = wS D v → AI Γ (d + 2) mX3_wordAhead w Q 51 [(0, .ref 1), (1, .int (nI (zR zL t a - a))), (2, .int (nI v)), (3, .ref (P + 60 + 4 * v)), (4, .int (b2i (b && allB (fun i => D 6 v i == nI (t.2 (a + i) - 97)) i))), (5, .int (nI i))] σ := by
    intro v hv hy hn b hb n
    obtain ⟨w1, w2, w3, -⟩ := hD.1.2.2.1 v hv
    obtain ⟨r1, -, r3, -⟩ := hC.2.2.1 v hv
    obtain ⟨o3, ⟨f1, -, -⟩, ⟨o4, z4⟩, -⟩ := wdF hw hP (k := v) (by omega)
    have ew : gI σ (P + 60 + 4 * v) 1 = nI (wS D v) := Eq.trans r1 w1
    have mt : mtW t D a (zR zL t a) v = (b && allB (fun i => D 6 v i == nI (t.2 (a + i) - 97)) (zR zL t a - a)) := by rw [hb]; rfl
    induction n with
    | zero =>
      intro i hi
      have : i = wS D v := hi
      subst this
      refine vX3_wordAhead_51 hw o3 f1 o4 ?_
      rw [ew, b2i_n0, b2i_0]
      have ee : b = true → wS D v = zR zL t a - a := fun q => by rw [hb, decide_eq_true_eq] at q; exact q
      refine ⟨fun _ => ⟨fun c => hn ?_, fun c => hy ?_⟩, fun c => absurd (nI_le (Nat.le_refl _) (by omega)) c⟩
      · rw [mt]
        cases hb' : b with
        | false => rfl
        | true =>
          rw [hb', Bool.true_and, ee hb'] at c
          rw [Bool.true_and]
          exact c
      · rw [Bool.and_eq_true] at c
        rw [mt, c.1, Bool.true_and, ← ee c.1]
        exact c.2
    | succ n ih =>
      intro i hi
      refine vX3_wordAhead_51 hw o3 f1 o4 ?_
      rw [ew, hX.2.1, nI_add, b2i_n0, b2i_0]
      refine ⟨fun c => absurd c (nI_ge (by omega) (by omega)), fun _ => ⟨fun c => ⟨fun _ => hn ?_, fun c2 => absurd c (by rw [c2]; decide)⟩, fun c => ?_⟩⟩
      · rw [mt]
        cases hb' : b with
        | false => rfl
        | true =>
          rw [hb', Bool.true_and] at c
          rw [Bool.true_and]
          have : wS D v = zR zL t a - a := by rw [hb, decide_eq_true_eq] at hb'; exact hb'
          exact allB_false c (by omega)
      · rw [Bool.and_eq_true] at c
        have ee : wS D v = zR zL t a - a := by
          have := c.1
          rw [hb, decide_eq_true_eq] at this
          exact this
        have hz := zR_all (p := zL) (t := t) (a := a) (a + i) (by omega) (show a + i < zR zL t a by omega)
        have hc : 97 ≤ t.2 (a + i) ∧ t.2 (a + i) ≤ 122 := by
          unfold zL at hz
          simpa using hz
        have e97 : nI (t.2 (a + i)) - 97 = nI (t.2 (a + i) - 97) := pk_sub (b := 97) hc.1
        have g : gI σ (P + 61 + 4 * v) i = D 6 v i := r3 i (by omega)
        rw [cl (n := a + i) (by omega), hX.1.2 _ (by omega), sx_lo _ (by omega), e97, cl (n := i) (by omega), g, nI_1]
        have nx := ih (i + 1) (by omega)
        have sp : allB (fun i => D 6 v i == nI (t.2 (a + i) - 97)) (i + 1) = (D 6 v i == nI (t.2 (a + i) - 97)) := by
          show (allB _ i && _) = _
          rw [c.2, Bool.true_and]
        rw [sp, c.1, Bool.true_and] at nx
        refine ⟨vin (by omega), vk2 z4 (by omega), fun q => ?_, fun q => ?_⟩
        · rw [show (D 6 v i == nI (t.2 (a + i) - 97)) = false from beq_eq_false_iff_ne.mpr (fun e => q e.symm)] at nx
          exact nx
        · rw [show (D 6 v i == nI (t.2 (a + i) - 97)) = true from beq_iff_eq.mpr q.symm] at nx
          exact nx
  have l12 : ∀ n v, v + n = nW D → (∀ u, u < v → mtW t D a (zR zL t a) u = false) → AI Γ (d + 2) mX3_wordAhead w Q 12 [(0, .ref 1), (1, .int (nI (zR zL t a - a))), (2, .int (nI v))] σ := by
    intro n
    induction n with
    | zero =>
      intro v hv hno
      have : v = nW D := hv
      subst this
      refine vX3_wordAhead_12 hw hR (prO hw hP) (pr2 hw hP) (wdE hw hP (by omega)) (wdO hw hP) (lo_ hw (by omega)) (k24 (pO2 hP) (by decide)) (k28 (pO2 hP) (by decide)) ?_
      rw [(wP hC hD.1).2.1]
      rw [wOf_no hno] at hQ
      exact ⟨fun _ => hQ, fun c => absurd (nI_le (Nat.le_refl _) (by omega)) c⟩
    | succ n ih =>
      intro v hv hno
      obtain ⟨w1, w2, w3, -⟩ := hD.1.2.2.1 v (by omega)
      have ew : gI σ (P + 60 + 4 * v) 1 = nI (wS D v) := Eq.trans (hC.2.2.1 v (by omega)).1 w1
      refine vX3_wordAhead_12 hw hR (prO hw hP) (pr2 hw hP) (wdE hw hP (by omega)) (wdO hw hP) (lo_ hw (by omega)) (k24 (pO2 hP) (by decide)) (k28 (pO2 hP) (by decide)) ?_
      rw [(wP hC hD.1).2.1, wdA_ (by omega), ew, nI_eq (by omega) (by omega)]
      have go := fun b hb => l51 v (by omega) (fun h => by rw [wOf_is hD.2 (by omega) h] at hQ; exact hQ) (fun h => by
        rw [nI_1]
        refine ih (v + 1) (by omega) (fun u hu => ?_)
        by_cases e : u = v
        · subst e; exact h
        · exact hno u (by omega)) b hb (wS D v) 0 (Nat.zero_add _)
      refine ⟨fun c => absurd c (nI_ge (by omega) (by omega)), fun _ => ⟨vk (pO2 hP) (by omega), fun c => ?_, fun c => ?_⟩⟩
      · have := go false (decide_eq_false c).symm
        exact this
      · have := go true (decide_eq_true c).symm
        exact this
  refine SpI.of pnX3 (Nat.le_of_ble_eq_true rfl) (vX3_wordAhead_0 hw (c_letEnd hw ht hX ?_))
  rw [hX.2.1, pk_sub e2]
  exact l12 (nW D) 0 (Nat.zero_add _) (fun u hu => absurd hu (Nat.not_lt_zero u))
end CPS2
