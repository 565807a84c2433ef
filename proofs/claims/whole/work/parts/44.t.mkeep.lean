/-! the reference: what was read becomes the primer -/
theorem scK_r {o k : Nat} (h : 403 ≤ o) : scK o k = false := by
  unfold scK
  simp
  omega
section PKP
variable {Γ : Gx} {d : Nat} {w : Wd}
theorem kp1 {σ0 s : St} {k n2 n3 n4 n5 : Nat} (h : Kp σ0 s k n2 n3 n4 n5) : Kp σ0 (uI (uI (uI s 391 k (gI s 404 k)) 393 k (gI s 406 k)) 394 k (gI s 407 k)) (k + 1) n2 n3 n4 n5 := by
  obtain ⟨hF, ⟨c1, c2, c3, c4⟩, h1, h2, h3, h4, h5⟩ := h
  refine ⟨hF.tr ((fr_I (by simp [scK])).tr ((fr_I (by simp [scK])).tr (fr_I (by simp [scK])))), ⟨?_, ?_, ?_, ?_⟩, fun i hi => ?_, fun i hi => ?_, fun i hi => ?_, fun i hi => ?_, fun i hi => ?_⟩
  · exact c1
  · exact c2
  · exact c3
  · exact c4
  · by_cases e : i = k
    · subst e
      refine ⟨?_, ?_, ?_⟩
      · rw [gI_uI, if_neg (by omega), gI_uI, if_neg (by omega), gI_uI, if_pos ⟨rfl, rfl⟩]; exact hF.1 _ _ (scK_r (by omega))
      · rw [gI_uI, if_neg (by omega), gI_uI, if_pos ⟨rfl, rfl⟩]; exact hF.1 _ _ (scK_r (by omega))
      · rw [gI_uI, if_pos ⟨rfl, rfl⟩]; exact hF.1 _ _ (scK_r (by omega))
    · obtain ⟨a1, a2, a3⟩ := h1 i (by omega)
      refine ⟨?_, ?_, ?_⟩
      · rw [gI_uI, if_neg (by omega), gI_uI, if_neg (by omega), gI_uI, if_neg (by omega)]; exact a1
      · rw [gI_uI, if_neg (by omega), gI_uI, if_neg (by omega), gI_uI, if_neg (by omega)]; exact a2
      · rw [gI_uI, if_neg (by omega), gI_uI, if_neg (by omega), gI_uI, if_neg (by omega)]; exact a3
  · rw [gI_uI, if_neg (by omega), gI_uI, if_neg (by omega), gI_uI, if_neg (by omega)]; exact h2 i hi
  · obtain ⟨a1, a2⟩ := h3 i hi
    exact ⟨a1, a2⟩
  · obtain ⟨a1, a2⟩ := h4 i hi
    exact ⟨a1, a2⟩
  · exact h5 i hi
theorem kp2 {σ0 s : St} {k n1 n3 n4 n5 : Nat} (h : Kp σ0 s n1 k n3 n4 n5) : Kp σ0 (uI s 392 k (gI s 405 k)) n1 (k + 1) n3 n4 n5 := by
  obtain ⟨hF, ⟨c1, c2, c3, c4⟩, h1, h2, h3, h4, h5⟩ := h
  refine ⟨hF.tr (fr_I (by simp [scK])), ⟨c1, c2, c3, c4⟩, fun i hi => ?_, fun i hi => ?_, fun i hi => ?_, fun i hi => ?_, fun i hi => ?_⟩
  · obtain ⟨a1, a2, a3⟩ := h1 i hi
    exact ⟨a1, a2, a3⟩
  · rw [gI_uI]
    by_cases e : i = k
    · subst e
      rw [if_pos ⟨rfl, rfl⟩]; exact hF.1 _ _ (scK_r (by omega))
    · rw [if_neg (by omega)]; exact h2 i (by omega)
  · exact h3 i hi
  · exact h4 i hi
  · exact h5 i hi
theorem kp3 {σ0 s : St} {k n1 n2 n4 n5 : Nat} (h : Kp σ0 s n1 n2 k n4 n5) : Kp σ0 (uI (uI s 395 k (gI s 408 k)) 397 k (gI s 410 k)) n1 n2 (k + 1) n4 n5 := by
  obtain ⟨hF, ⟨c1, c2, c3, c4⟩, h1, h2, h3, h4, h5⟩ := h
  refine ⟨hF.tr ((fr_I (by simp [scK])).tr (fr_I (by simp [scK]))), ⟨c1, c2, c3, c4⟩, fun i hi => h1 i hi, fun i hi => h2 i hi, fun i hi => ?_, fun i hi => h4 i hi, fun i hi => h5 i hi⟩
  by_cases e : i = k
  · subst e
    refine ⟨?_, ?_⟩
    · rw [gI_uI, if_neg (by omega), gI_uI, if_pos ⟨rfl, rfl⟩]; exact hF.1 _ _ (scK_r (by omega))
    · rw [gI_uI, if_pos ⟨rfl, rfl⟩]; exact hF.1 _ _ (scK_r (by omega))
  · obtain ⟨a1, a2⟩ := h3 i (by omega)
    refine ⟨?_, ?_⟩
    · rw [gI_uI, if_neg (by omega), gI_uI, if_neg (by omega)]; exact a1
    · rw [gI_uI, if_neg (by omega), gI_uI, if_neg (by omega)]; exact a2
theorem kp4 {σ0 s : St} {k n1 n2 n3 n5 : Nat} (h : Kp σ0 s n1 n2 n3 k n5) : Kp σ0 (uI (uI s 396 k (gI s 409 k)) 398 k (gI s 411 k)) n1 n2 n3 (k + 1) n5 := by
  obtain ⟨hF, ⟨c1, c2, c3, c4⟩, h1, h2, h3, h4, h5⟩ := h
  refine ⟨hF.tr ((fr_I (by simp [scK])).tr (fr_I (by simp [scK]))), ⟨c1, c2, c3, c4⟩, fun i hi => h1 i hi, fun i hi => h2 i hi, fun i hi => h3 i hi, fun i hi => ?_, fun i hi => h5 i hi⟩
  by_cases e : i = k
  · subst e
    refine ⟨?_, ?_⟩
    · rw [gI_uI, if_neg (by omega), gI_uI, if_pos ⟨rfl, rfl⟩]; exact hF.1 _ _ (scK_r (by omega))
    · rw [gI_uI, if_pos ⟨rfl, rfl⟩]; exact hF.1 _ _ (scK_r (by omega))
  · obtain ⟨a1, a2⟩ := h4 i (by omega)
    refine ⟨?_, ?_⟩
    · rw [gI_uI, if_neg (by omega), gI_uI, if_neg (by omega)]; exact a1
    · rw [gI_uI, if_neg (by omega), gI_uI, if_neg (by omega)]; exact a2
theorem kp5 {σ0 s : St} {k n1 n2 n3 n4 : Nat} (h : Kp σ0 s n1 n2 n3 n4 k) : Kp σ0 (uI s 399 k (gI s 412 k)) n1 n2 n3 n4 (k + 1) := by
  obtain ⟨hF, ⟨c1, c2, c3, c4⟩, h1, h2, h3, h4, h5⟩ := h
  refine ⟨hF.tr (fr_I (by simp [scK])), ⟨c1, c2, c3, c4⟩, fun i hi => h1 i hi, fun i hi => h2 i hi, fun i hi => h3 i hi, fun i hi => h4 i hi, fun i hi => ?_⟩
  rw [gI_uI]
  by_cases e : i = k
  · subst e
    rw [if_pos ⟨rfl, rfl⟩]; exact hF.1 _ _ (scK_r (by omega))
  · rw [if_neg (by omega)]; exact h5 i (by omega)
/-- rows of pages do not touch the others -/
theorem Kp.pg {σ0 s s' : St} {n1 n2 n3 n4 n5 : Nat} (h : Kp σ0 s n1 n2 n3 n4 n5) (hF' : Fr (fun o _ => o == 400 || o == 401 || o == 402) s s') : Kp σ0 s' n1 n2 n3 n4 n5 := by
  obtain ⟨hF, ⟨c1, c2, c3, c4⟩, h1, h2, h3, h4, h5⟩ := h
  have z : ∀ o k, o < 400 → gI s' o k = gI s o k := fun o k ho => hF'.1 o k (by simp; omega)
  refine ⟨hF.tr (hF'.mono (fun o k q => by
    simp only [Bool.or_eq_true, beq_iff_eq] at q
    rcases q with (q | q) | q <;> subst q <;> rfl)), ⟨?_, ?_, ?_, ?_⟩, fun i hi => ?_, fun i hi => ?_, fun i hi => ?_, fun i hi => ?_, fun i hi => ?_⟩
  · rw [z _ _ (by decide)]; exact c1
  · rw [z _ _ (by decide)]; exact c2
  · rw [z _ _ (by decide)]; exact c3
  · rw [z _ _ (by decide)]; exact c4
  · rw [z _ _ (by decide), z _ _ (by decide), z _ _ (by decide)]; exact h1 i hi
  · rw [z _ _ (by decide)]; exact h2 i hi
  · rw [z _ _ (by decide), z _ _ (by decide)]; exact h3 i hi
  · rw [z _ _ (by decide), z _ _ (by decide)]; exact h4 i hi
  · rw [z _ _ (by decide)]; exact h5 i hi
/-- pages copied -/
def KpP (s : St) (D : PV) (n : Nat) : Prop := ∀ p, p < n → gI s 400 p = D 10 p 0 ∧ (∀ j, j < pS D p → gI s 401 (16 * p + j) = D 11 p j) ∧ gI s 402 p = D 12 p 0
theorem lp_keep242 {Q : St → Prop} {D : PV} {σ0 : St} {p : Nat} (hw : RunW w) (hD : DOK D) (hR : AgR σ0 D) (hp : p < nP D)
    (hX : ∀ s, Kp σ0 s 20 80 24 192 21 → KpP s D (p + 1) → AV Γ d mX12_keepPrimer w Q 213 [(0, .ref 390), (1, .int (nI (p + 1)))] s) :
    ∀ n i s, i + n = pS D p → Kp σ0 s 20 80 24 192 21 → KpP s D p → gI s 400 p = D 10 p 0 → (∀ j, j < i → gI s 401 (16 * p + j) = D 11 p j) → gI s 402 p = pgF D p i → AV Γ d mX12_keepPrimer w Q 242 [(0, .ref 390), (1, .int (nI p)), (2, .int (nI i))] s := by
  have hn := hD.nP
  have hnW := hD.nW
  obtain ⟨p1, p2, p3, p4, p5⟩ := hD.1.2.2.2.2 p hp
  obtain ⟨r1, r2⟩ := hR.2.2.2.2 p hp
  have hk : vp_in (nI p) 8 := vin (by omega)
  intro n
  induction n with
  | zero =>
    intro i s hi hK hP h400 h401 h402
    have : i = pS D p := hi
    subst this
    refine vX12_keepPrimer_242 hw ⟨hk, ?_⟩
    rw [cl (n := p) (by omega), h400, p1, nI_1]
    refine ⟨fun _ => hX s hK (fun q hq => ?_), fun c => absurd (nI_le (Nat.le_refl _) (by omega)) c⟩
    by_cases e : q = p
    · subst e
      exact ⟨h400, h401, h402.trans (pgF_all hD hp)⟩
    · exact hP q (by omega)
  | succ n ih =>
    intro i s hi hK hP h400 h401 h402
    have ix : (16 : Int32) * nI p + nI i = nI (16 * p + i) := ixm 16 p i
    have e414 : gI s 414 (16 * p + i) = D 11 p i := (hK.1.1 _ _ (scK_r (by omega))).trans (r2 i (by omega))
    refine vX12_keepPrimer_242 hw ⟨hk, ?_⟩
    rw [ix, cl (n := p) (by omega), cl (n := 16 * p + i) (by omega), h400, p1, nI_1 i, e414, h402]
    refine ⟨fun c => absurd c (nI_ge (by omega) (by omega)), fun _ => ⟨vin (by omega), vin (by omega), hk, vin (by omega), hk, ?_⟩⟩
    have e401 : gI (uI s 401 (16 * p + i) (D 11 p i)) 401 (16 * p + i) = D 11 p i := by rw [gI_uI, if_pos ⟨rfl, rfl⟩]
    rw [e401]
    have hFb : Fr (fun o _ => o == 400 || o == 401 || o == 402) s (uI (uI s 401 (16 * p + i) (D 11 p i)) 402 p (pgF D p i ||| (1 <<< (D 11 p i &&& 31)))) := (fr_I (by simp)).tr (fr_I (by simp))
    refine ih (i + 1) _ (by omega) (hK.pg hFb) (fun q hq => ?_) (by rw [gI_uI, if_neg (by omega), gI_uI, if_neg (by omega)]; exact h400) (fun j hj => ?_) (by rw [gI_uI, if_pos ⟨rfl, rfl⟩]; rfl)
    · obtain ⟨a1, a2, a3⟩ := hP q hq
      have q16 := (hD.1.2.2.2.2 q (by omega)).2.2.1
      refine ⟨by rw [gI_uI, if_neg (by omega), gI_uI, if_neg (by omega)]; exact a1, fun j hj => by rw [gI_uI, if_neg (by omega), gI_uI, if_neg (by omega)]; exact a2 j hj, by rw [gI_uI, if_neg (by omega), gI_uI, if_neg (by omega)]; exact a3⟩
    · rw [gI_uI, if_neg (by omega), gI_uI]
      by_cases e : j = i
      · subst e; rw [if_pos ⟨rfl, rfl⟩]
      · rw [if_neg (by omega)]; exact h401 j (by omega)
theorem lp_keep213 {Q : St → Prop} {D : PV} {σ0 : St} (hw : RunW w) (hD : DOK D) (hR : AgR σ0 D) (hQ : ∀ s, Kp σ0 s 20 80 24 192 21 → KpP s D (nP D) → Q s) :
    ∀ n p s, p + n = nP D → Kp σ0 s 20 80 24 192 21 → KpP s D p → AV Γ d mX12_keepPrimer w Q 213 [(0, .ref 390), (1, .int (nI p))] s := by
  have hn := hD.nP
  intro n
  induction n with
  | zero =>
    intro p s hp hK hP
    have : p = nP D := hp
    subst this
    refine vX12_keepPrimer_213 hw ?_
    rw [hK.2.1.2.2.2, hR.1.2.2.2]
    exact ⟨fun _ => hQ s hK hP, fun c => absurd (nI_le (Nat.le_refl _) (by omega)) c⟩
  | succ n ih =>
    intro p s hp hK hP
    have hk : vp_in (nI p) 8 := vin (by omega)
    obtain ⟨r1, r2⟩ := hR.2.2.2.2 p (by omega)
    have e413 : gI s 413 p = D 10 p 0 := (hK.1.1 _ _ (scK_r (by omega))).trans r1
    refine vX12_keepPrimer_213 hw ?_
    rw [hK.2.1.2.2.2, hR.1.2.2.2, cl (n := p) (by omega), e413]
    refine ⟨fun c => absurd c (nI_ge (by omega) (by omega)), fun _ => ⟨hk, hk, hk, ?_⟩⟩
    have hFb : Fr (fun o _ => o == 400 || o == 401 || o == 402) s (uI (uI s 400 p (D 10 p 0)) 402 p 0) := (fr_I (by simp)).tr (fr_I (by simp))
    refine lp_keep242 hw hD hR (by omega) (fun s' z1 z2 => ih (p + 1) s' (by omega) z1 z2) (pS D p) 0 _ (Nat.zero_add _) (hK.pg hFb) (fun q hq => ?_) (by rw [gI_uI, if_neg (by omega), gI_uI, if_pos ⟨rfl, rfl⟩]) (fun j hj => absurd hj (Nat.not_lt_zero j)) (by rw [gI_uI, if_pos ⟨rfl, rfl⟩]; rfl)
    obtain ⟨a1, a2, a3⟩ := hP q hq
    exact ⟨by rw [gI_uI, if_neg (by omega), gI_uI, if_neg (by omega)]; exact a1, fun j hj => by rw [gI_uI, if_neg (by omega), gI_uI, if_neg (by omega)]; exact a2 j hj, by rw [gI_uI, if_neg (by omega), gI_uI, if_neg (by omega)]; exact a3⟩
theorem c_keepPrimer {Q : St → Prop} {D : PV} {σ : St} (hw : RunW w) (hD : DOK D) (hR : AgR σ D) (hQ : ∀ σ', Fr scK σ σ' → AgV (MV σ') D → Q σ') : SpV Γ d mX12_keepPrimer [.ref 390] σ w Q := by
  have fin : ∀ s, Kp σ s 20 80 24 192 21 → KpP s D (nP D) → Q s := by
    intro s hK hP
    obtain ⟨hF, ⟨c1, c2, c3, c4⟩, h1, h2, h3, h4, h5⟩ := hK
    obtain ⟨⟨n1, n2, n3, n4⟩, rS, rW, rL, rP⟩ := hR
    have dS := hD.nS
    have dW := hD.nW
    have dL := hD.nL
    obtain ⟨⟨⟨m1, -⟩, ⟨m2, -⟩, ⟨m3, -⟩, m4, -⟩, wS', wW', -⟩ := hD.1
    refine hQ s hF ⟨⟨(c1.trans n1).trans m1.symm, (c2.trans n2).trans m2.symm, (c3.trans n3).trans m3.symm, (c4.trans n4).trans m4.symm⟩, fun k hk => ?_, fun v hv => ?_, fun l hl j hj => ?_, fun p hp => hP p hp⟩
    · obtain ⟨a1, a2, a3, a4⟩ := rS k hk
      obtain ⟨b1, b2, b3⟩ := h1 k (by omega)
      have s4 := (wS' k hk).2.2.1
      exact ⟨b1.trans a1, b2.trans a2, b3.trans a3, fun j hj => (h2 (4 * k + j) (by omega)).trans (a4 j hj)⟩
    · obtain ⟨a1, a2, a3, a4⟩ := rW v hv
      obtain ⟨b1, b2⟩ := h3 v (by omega)
      obtain ⟨-, -, s8, -, -, s8', -⟩ := wW' v hv
      exact ⟨b1.trans a1, b2.trans a2, fun j hj => (h4 (8 * v + j) (by omega)).1.trans (a3 j hj), fun j hj => (h4 (8 * v + j) (by omega)).2.trans (a4 j hj)⟩
    · exact (h5 (3 * l + j) (by omega)).trans (rL l hl j hj)
  have l5 : ∀ n k s, k + n = 21 → Kp σ s 20 80 24 192 k → AV Γ d mX12_keepPrimer w Q 187 [(0, .ref 390), (1, .int (nI k))] s := by
    intro n
    induction n with
    | zero =>
      intro k s hk hK
      have : k = 21 := hk
      subst this
      exact vX12_keepPrimer_187 hw ⟨fun _ => lp_keep213 hw hD hR fin (nP D) 0 s (Nat.zero_add _) hK (fun p hp => absurd hp (Nat.not_lt_zero p)), fun c => absurd (by decide : (21 : Int32) ≤ nI 21) c⟩
    | succ n ih =>
      intro k s hk hK
      refine vX12_keepPrimer_187 hw ⟨fun c => absurd c (nI_ge (a := k) (b := 21) (by omega) (by decide)), fun _ => ⟨vin (by omega), vin (by omega), ?_⟩⟩
      rw [cl (by omega), nI_1]
      exact ih (k + 1) _ (by omega) (kp5 hK)
  have l4 : ∀ n k s, k + n = 192 → Kp σ s 20 80 24 k 0 → AV Γ d mX12_keepPrimer w Q 148 [(0, .ref 390), (1, .int (nI k))] s := by
    intro n
    induction n with
    | zero =>
      intro k s hk hK
      have : k = 192 := hk
      subst this
      exact vX12_keepPrimer_148 hw ⟨fun _ => l5 21 0 s rfl hK, fun c => absurd (by decide : (192 : Int32) ≤ nI 192) c⟩
    | succ n ih =>
      intro k s hk hK
      refine vX12_keepPrimer_148 hw ⟨fun c => absurd c (nI_ge (a := k) (b := 192) (by omega) (by decide)), fun _ => ⟨vin (by omega), vin (by omega), vin (by omega), vin (by omega), ?_⟩⟩
      rw [cl (by omega), nI_1]
      exact ih (k + 1) _ (by omega) (kp4 hK)
  have l3 : ∀ n k s, k + n = 24 → Kp σ s 20 80 k 0 0 → AV Γ d mX12_keepPrimer w Q 110 [(0, .ref 390), (1, .int (nI k))] s := by
    intro n
    induction n with
    | zero =>
      intro k s hk hK
      have : k = 24 := hk
      subst this
      exact vX12_keepPrimer_110 hw ⟨fun _ => l4 192 0 s rfl hK, fun c => absurd (by decide : (24 : Int32) ≤ nI 24) c⟩
    | succ n ih =>
      intro k s hk hK
      refine vX12_keepPrimer_110 hw ⟨fun c => absurd c (nI_ge (a := k) (b := 24) (by omega) (by decide)), fun _ => ⟨vin (by omega), vin (by omega), vin (by omega), vin (by omega), ?_⟩⟩
      rw [cl (by omega), nI_1]
      exact ih (k + 1) _ (by omega) (kp3 hK)
  have l2 : ∀ n k s, k + n = 80 → Kp σ s 20 k 0 0 0 → AV Γ d mX12_keepPrimer w Q 84 [(0, .ref 390), (1, .int (nI k))] s := by
    intro n
    induction n with
    | zero =>
      intro k s hk hK
      have : k = 80 := hk
      subst this
      exact vX12_keepPrimer_84 hw ⟨fun _ => l3 24 0 s rfl hK, fun c => absurd (by decide : (80 : Int32) ≤ nI 80) c⟩
    | succ n ih =>
      intro k s hk hK
      refine vX12_keepPrimer_84 hw ⟨fun c => absurd c (nI_ge (a := k) (b := 80) (by omega) (by decide)), fun _ => ⟨vin (by omega), vin (by omega), ?_⟩⟩
      rw [cl (by omega), nI_1]
      exact ih (k + 1) _ (by omega) (kp2 hK)
  have l1 : ∀ n k s, k + n = 20 → Kp σ s k 0 0 0 0 → AV Γ d mX12_keepPrimer w Q 34 [(0, .ref 390), (1, .int (nI k))] s := by
    intro n
    induction n with
    | zero =>
      intro k s hk hK
      have : k = 20 := hk
      subst this
      exact vX12_keepPrimer_34 hw ⟨fun _ => l2 80 0 s rfl hK, fun c => absurd (by decide : (20 : Int32) ≤ nI 20) c⟩
    | succ n ih =>
      intro k s hk hK
      refine vX12_keepPrimer_34 hw ⟨fun c => absurd c (nI_ge (a := k) (b := 20) (by omega) (by decide)), fun _ => ⟨vin (by omega), vin (by omega), vin (by omega), vin (by omega), vin (by omega), vin (by omega), ?_⟩⟩
      rw [cl (by omega), nI_1]
      exact ih (k + 1) _ (by omega) (kp1 hK)
  have z : ∀ {X : Nat → Prop} (i : Nat), i < 0 → X i := fun i hi => absurd hi (Nat.not_lt_zero i)
  refine SpV.of pnX12 (Nat.le_of_ble_eq_true rfl) (vX12_keepPrimer_0 hw (l1 20 0 _ rfl ⟨(fr_I (by decide)).tr ((fr_I (by decide)).tr ((fr_I (by decide)).tr (fr_I (by decide)))), ⟨?_, ?_, ?_, ?_⟩, fun i hi => absurd hi (Nat.not_lt_zero i), fun i hi => absurd hi (Nat.not_lt_zero i), fun i hi => absurd hi (Nat.not_lt_zero i), fun i hi => absurd hi (Nat.not_lt_zero i), fun i hi => absurd hi (Nat.not_lt_zero i)⟩))
  · rfl
  · rfl
  · rfl
  · rfl
end PKP
