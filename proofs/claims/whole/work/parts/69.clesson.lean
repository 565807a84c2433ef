/-! the class reads its text: lessons -/
def scLe (P l o j : Nat) : Bool := scN o j || (decide (P + 3 ≤ o) && decide (o ≤ P + 5) && j == l)
def scLn (P l o j : Nat) : Bool := scLe P l o j || (o == P && j == 7)
theorem scN_Le {P v : Nat} : ∀ o j, scN o j = true → scLe P v o j = true := fun o j h => by unfold scLe; rw [h]; rfl
theorem scLe_Ln {P v : Nat} : ∀ o j, scLe P v o j = true → scLn P v o j = true := fun o j h => by unfold scLn; rw [h]; rfl
theorem scLn_Dr {P v : Nat} : ∀ o j, scLn P v o j = true → scDr P o j = true := by
  intro o j h
  unfold scLn scLe scN at h
  unfold scDr
  simp only [Bool.or_eq_true, Bool.and_eq_true, beq_iff_eq, decide_eq_true_eq, Bool.not_eq_true', beq_eq_false_iff_ne] at h ⊢
  omega
theorem PrC.lesson {σ σ' : St} {P : Nat} {D : PV} {x y z : Int32} (hP : isP P) (hD : DOK D) (h : PrC σ P D) (hf : Fr (scLn P (nL D)) σ σ') (g1 : gI σ' P 7 = nI (nL D + 1)) (g2 : gI σ' (P + 3) (nL D) = x) (g3 : gI σ' (P + 4) (nL D) = y) (g4 : gI σ' (P + 5) (nL D) = z) : PrC σ' P (adL D x y z) := by
  have hge := P_ge hP
  have d1 := hD.nS
  have d2 := hD.nW
  have d3 := hD.nL
  have d4 := hD.nP
  obtain ⟨⟨a1, a2, a3, a4⟩, hsg, hw, hl, hp⟩ := h
  have z' : ∀ o j, ¬ (o = 1) → ¬ (o = P ∧ j = 7) → (o < P + 3 ∨ P + 5 < o ∨ j ≠ nL D) → gI σ' o j = gI σ o j := fun o j q1 q2 q3 => hf.1 o j (by
    unfold scLn scLe scN
    simp only [Bool.or_eq_false_iff, Bool.and_eq_false_iff, beq_eq_false_iff_ne, decide_eq_false_iff_not]
    omega)
  have e := adL_n (D := D) (x := x) (y := y) (z := z) d3
  refine ⟨⟨?_, ?_, g1, ?_⟩, fun k hk => ?_, fun v hv => ?_, fun l hl' j hj => ?_, fun p hp' => ?_⟩
  · exact (z' _ _ (by omega) (by omega) (by omega)).trans a1
  · exact (z' _ _ (by omega) (by omega) (by omega)).trans a2
  · exact (z' _ _ (by omega) (by omega) (by omega)).trans a4
  · have hk' : k < nS D := hk
    obtain ⟨c1, c2, c3, c4⟩ := hsg k hk'
    exact ⟨(z' _ _ (by omega) (by omega) (by omega)).trans c1, (z' _ _ (by omega) (by omega) (by omega)).trans c2, (z' _ _ (by omega) (by omega) (by omega)).trans c3, fun j hj => (z' _ _ (by omega) (by omega) (by omega)).trans (c4 j hj)⟩
  · have hv' : v < nW D := hv
    obtain ⟨c1, c2, c3, c4⟩ := hw v hv'
    exact ⟨(z' _ _ (by omega) (by omega) (by omega)).trans c1, (z' _ _ (by omega) (by omega) (by omega)).trans c2, fun j hj => (z' _ _ (by omega) (by omega) (by omega)).trans (c3 j hj), fun j hj => (z' _ _ (by omega) (by omega) (by omega)).trans (c4 j hj)⟩
  · rw [e] at hl'
    by_cases q : l = nL D
    · subst q
      have e9 : adL D x y z 9 (nL D) j = if j = 0 then x else if j = 1 then y else if j = 2 then z else 0 := if_pos rfl
      rw [e9]
      rcases j with _ | _ | _ | j
      · exact g2
      · exact g3
      · exact g4
      · omega
    · have e9 : adL D x y z 9 l j = D 9 l j := if_neg q
      rw [e9]
      exact (z' _ _ (by omega) (by omega) (by omega)).trans (hl l (by omega) j hj)
  · have hp2 : p < nP D := hp'
    obtain ⟨c1, c2, c3⟩ := hp p hp2
    exact ⟨(z' _ _ (by omega) (by omega) (by omega)).trans c1, fun j hj => (z' _ _ (by omega) (by omega) (by omega)).trans (c2 j hj), (z' _ _ (by omega) (by omega) (by omega)).trans c3⟩
section CLN
variable {Γ : Gx} {d : Nat} {w : Wd} {t : Tx} {P : Nat}
def phOK (φ : Int32 × Int32) : Prop := φ = f00 ∨ ∃ f, erOK f ∧ φ = (nI f.1, nI f.2)
theorem OpO.ph {kw : List Nat} {bd a b : Nat} {φ ψ : Int32 × Int32} {v : Int32} (h : OpO t kw bd a φ v b ψ) (hp : phOK φ) : phOK ψ := by
  rcases hp with h0 | ⟨f, hf, h0⟩
  · cases hz : zOpt t kw bd a with
    | inl g =>
      obtain ⟨q1, q2⟩ := (h.2 h0).1 g hz
      exact Or.inr ⟨g, q1, q2⟩
    | inr y => exact Or.inl ((h.2 h0).2 y hz).1
  · exact Or.inr ⟨f, hf, (h.1 f hf h0).trans h0⟩
/-- the word that opens a list -/
theorem c_opt {Q : Int32 → St → Prop} {σ : St} {a x bd : Nat} {φ : Int32 × Int32} (hw : RunW w) (ht : TxOK t) (h1 : 1 ≤ x) (h9 : x ≤ 9) (hX : PX σ t a φ) (h0 : ∀ s, Fr scN σ s → PX s t (sk t a) φ → OpO t (kwX x) bd a φ 0 (sk t a) φ → Q 0 s) (hn : ∀ s, Fr scN σ s → PX s t (zE t a) φ → zOpt t (kwX x) bd a = zList t bd 601 (zE t a) 0 → Q 1 s) : SpI Γ (d + 5) mX3_acceptsWord [.ref 1, .retAddr x] σ w Q := by
  refine c_accW hw ht h1 h9 hX fun s z1 z2 => ?_
  cases hk : zK t (sk t a) (zE t a) (kwX x) with
  | false =>
    rw [hk, if_neg (by decide)] at z2
    have e : zOpt t (kwX x) bd a = .inr (sk t a, 0) := by unfold zOpt; rw [hk]; rfl
    exact h0 s z1 z2 ⟨fun _ _ _ => rfl, fun q => ⟨fun f hf => (by rw [e] at hf; cases hf), fun y hy => (by rw [e] at hy; cases hy; exact ⟨q, rfl, rfl⟩)⟩⟩
  | true =>
    rw [hk, if_pos rfl] at z2
    exact hn s z1 z2 (by unfold zOpt; rw [hk]; rfl)
theorem c_pLesson {Q : St → Prop} {σ : St} {a fr : Nat} {D : PV} (hw : RunW w) (ht : TxOK t) (hD : DOK D) (hP : isP P) (hR : gR σ 1 4 = some P) (hC : PrC σ P D) (hX : PX σ t a f00) (hQ : ∀ σ', Fr (scDr P) σ σ' → BdC σ' t P (zLesson t D fr a) → Q σ') : SpV Γ (d + 6) mX3_parseLesson [.ref 1, .int (nI fr)] σ w Q := by
  have h6 := ht.1
  have hlt := P_lt hP
  have hge := P_ge hP
  have d1 := hD.nS
  have d2 := hD.nW
  have d3 := hD.nL
  obtain ⟨n1, n2, n3, n4⟩ := wP hC hD.1
  have okr : ∀ {o : Nat}, kd o = (20, 7) → o < 425 → okO w o 20 := fun q h => okL hw h (by rw [q])
  have o3 : okO w (P + 3) 20 := okr (pO3 hP) (by omega)
  have o4 : okO w (P + 4) 20 := okr (pO4 hP) (by omega)
  have o5 : okO w (P + 5) 20 := okr (pO5 hP) (by omega)
  refine SpV.of pnX3 (Nat.le_of_ble_eq_true rfl) (vX3_parseLesson_0 hw hR (prO hw hP) (pr4 hw hP) o3 ?_)
  have l7 : nI (nL D) < 7 ↔ nL D < 7 := nI_ltI (b := 7) (by omega) (by decide)
  rw [n3, l7]
  refine ⟨fun c => ?_, fun c => c_failC (n := 3) hw hX fun s z1 z2 _ => ?_⟩
  · rw [cl (show nL D < 2 ^ 31 by omega)]
    have v3 : vp_in (nI (nL D)) (kd (P + 3)).2 := vk (pO3 hP) c
    have v4 : vp_in (nI (nL D)) (kd (P + 4)).2 := vk (pO4 hP) c
    have v5 : vp_in (nI (nL D)) (kd (P + 5)).2 := vk (pO5 hP) c
    have rN : ∀ {s : St}, Fr (scLe P (nL D)) σ s → gR s 1 4 = some P := fun h => (h.2.2 1 4 (by unfold scLe scN; simp <;> omega)).trans hR
    have pN : ∀ {s : St} (k : Nat), Fr (scLe P (nL D)) σ s → gI s P k = gI σ P k := fun k h => h.1 P k (by unfold scLe scN; simp; omega)
    have uo : ∀ {s : St} {o : Nat} {v : Int32}, P + 3 ≤ o → o ≤ P + 5 → Fr (scLe P (nL D)) s (uI s o (nL D) v) := fun {s o v} q1 q2 => fr_I (by simp [scLe, q1, q2])
    have ux : ∀ {s : St} {b o : Nat} {φ : Int32 × Int32} {j : Nat} {v : Int32}, P + 3 ≤ o → PX s t b φ → PX (uI s o j v) t b φ := fun {s b o φ j v} q h => h.o (S := fun o' _ => o' == o) (fun o' k q' => by simp; omega) (fr_I (by simp))
    have cN : ∀ {s s' : St} {o j : Nat}, Fr scN s s' → o ≠ 1 → gI s' o j = gI s o j := fun h q => h.1 _ _ (by unfold scN; simp [q])
    -- the end
    have fin : ∀ (x y z : Int32) (b : Nat) (ψ : Int32 × Int32) (s : St), Fr (scLe P (nL D)) σ s → PX s t b ψ → gI s (P + 3) (nL D) = x → gI s (P + 4) (nL D) = y → ((∃ f, erOK f ∧ zLesson t D fr a = .inl f ∧ ψ = (nI f.1, nI f.2)) ∨ (ψ = f00 ∧ zLesson t D fr a = .inr (b, adL D x y z))) → Q (uI (uI s (P + 5) (nL D) z) P 7 ((gI (uI s (P + 5) (nL D) z) P 7) + 1)) := by
      intro x y z b ψ s hf hPX h3 h4 h
      have hf5 : Fr (scLe P (nL D)) σ (uI s (P + 5) (nL D) z) := hf.tr (uo (by omega) (by omega))
      have hF2 : Fr (scLn P (nL D)) σ (uI (uI s (P + 5) (nL D) z) P 7 ((gI (uI s (P + 5) (nL D) z) P 7) + 1)) := (hf5.mono scLe_Ln).tr (fr_I (by simp [scLn]))
      refine hQ _ (hF2.mono scLn_Dr) ⟨b, ψ, (ux (by omega) hPX).o (S := fun o j => o == P && j == 7) (fun o k q => by simp; omega) (fr_I (by simp)), ?_⟩
      rcases h with ⟨f, -, h1, h2⟩ | ⟨h1, h2⟩
      · rw [h1]; exact Or.inl h2
      · rw [h2]
        refine ⟨h1, rfl, hC.lesson hP hD hF2 (by rw [gI_uI, if_pos ⟨rfl, rfl⟩, pN 7 hf5, n3, nI_1]) ?_ ?_ ?_⟩
        · rw [gI_uI, if_neg (by omega), gI_uI, if_neg (by omega)]; exact h3
        · rw [gI_uI, if_neg (by omega), gI_uI, if_neg (by omega)]; exact h4
        · rw [gI_uI, if_neg (by omega), gI_uI, if_pos ⟨rfl, rfl⟩]
    -- the words at sight
    have k3 : ∀ (x y : Int32) (b : Nat) (ψ : Int32 × Int32) (s5 : St), Fr (scLe P (nL D)) σ s5 → PX s5 t b ψ → gI s5 (P + 3) (nL D) = x → phOK ψ → ((∃ f, erOK f ∧ zLesson t D fr a = .inl f ∧ ψ = (nI f.1, nI f.2)) ∨ (ψ = f00 ∧ zLesson t D fr a = (match zOpt t kSight (nW D) b with
        | .inl f => .inl f
        | .inr z => .inr (z.1, adL D x y z.2)))) → ((∀ r7, (gR s5 1 4) = some r7 → (okO w r7 4) ∧ (∃ r8, w.2 r7 6 = some r8 ∧ SpI Γ (d + 5) mX3_acceptsWord [.ref 1, .retAddr 8] (uI s5 (P + 4) (nL D) y) w (fun v10 s9 => ((v10 = 0 → (okO w r8 20) ∧ (vp_in (nI (nL D)) (kd r8).2) ∧ ((∀ r11, (gR s9 1 4) = some r11 → (okO w r11 4) ∧ (okO w r11 4) ∧ Q (uI (uI s9 r8 (nL D) 0) r11 7 ((gI (uI s9 r8 (nL D) 0) r11 7) + 1))) ∧ ((gR s9 1 4) = none → False))) ∧ (¬ v10 = 0 → ((∀ r12, (gR s9 1 4) = some r12 → (okO w r12 4) ∧ SpI Γ (d + 5) mX3_parseList [.ref 1, .int (gI s9 r12 3)] s9 w (fun v14 s13 => (okO w r8 20) ∧ (vp_in (nI (nL D)) (kd r8).2) ∧ ((∀ r15, (gR s13 1 4) = some r15 → (okO w r15 4) ∧ (okO w r15 4) ∧ Q (uI (uI s13 r8 (nL D) v14) r15 7 ((gI (uI s13 r8 (nL D) v14) r15 7) + 1))) ∧ ((gR s13 1 4) = none → False)))) ∧ ((gR s9 1 4) = none → False))))))) ∧ ((gR s5 1 4) = none → False)) := by
      intro x y b ψ s5 hf hPX h3 hph hz
      refine tdR' (rN hf) ⟨prO hw hP, P + 5, pr6 hw hP, ?_⟩
      have hf4 : Fr (scLe P (nL D)) σ (uI s5 (P + 4) (nL D) y) := hf.tr (uo (by omega) (by omega))
      have g3 : gI (uI s5 (P + 4) (nL D) y) (P + 3) (nL D) = x := by rw [gI_uI, if_neg (by omega)]; exact h3
      have g4 : gI (uI s5 (P + 4) (nL D) y) (P + 4) (nL D) = y := by rw [gI_uI, if_pos ⟨rfl, rfl⟩]
      have done : ∀ (v : Int32) (b' : Nat) (χ : Int32 × Int32) (s' : St), Fr scN (uI s5 (P + 4) (nL D) y) s' → PX s' t b' χ → OpO t kSight (nW D) b ψ v b' χ → (okO w (P + 5) 20) ∧ (vp_in (nI (nL D)) (kd (P + 5)).2) ∧ ((∀ r15, (gR s' 1 4) = some r15 → (okO w r15 4) ∧ (okO w r15 4) ∧ Q (uI (uI s' (P + 5) (nL D) v) r15 7 ((gI (uI s' (P + 5) (nL D) v) r15 7) + 1))) ∧ ((gR s' 1 4) = none → False)) := by
        intro v b' χ s' q1 q2 q3
        have hf' := hf4.tr (q1.mono scN_Le)
        refine ⟨o5, v5, tdR' (rN hf') ⟨prO hw hP, prO hw hP, fin x y v b' χ s' hf' q2 ((cN q1 (by omega)).trans g3) ((cN q1 (by omega)).trans g4) ?_⟩⟩
        rcases hz with ⟨f, hok, e1, e2⟩ | ⟨e1, e2⟩
        · rcases hph with e0 | ⟨g, hg, e0⟩
          · exact absurd (e0.symm.trans e2) (f00_er hok)
          · exact Or.inl ⟨f, hok, e1, (q3.1 g hg e0).trans e2⟩
        · cases ho : zOpt t kSight (nW D) b with
          | inl g =>
            rw [ho] at e2
            exact Or.inl ⟨g, ((q3.2 e1).1 g ho).1, e2, ((q3.2 e1).1 g ho).2⟩
          | inr z =>
            rw [ho] at e2
            obtain ⟨w1, w2, w3⟩ := (q3.2 e1).2 z ho
            rw [w2, w3]
            exact Or.inr ⟨w1, e2⟩
      refine c_opt (x := 8) (bd := nW D) hw ht (by decide) (by decide) (ux (by omega) hPX) (fun s9 q1 q2 q3 => ⟨fun _ => done 0 _ _ s9 q1 q2 q3, fun q => absurd rfl q⟩) (fun s9 q1 q2 q3 => ⟨fun q => absurd q (by decide), fun _ => tdR' (rN (hf4.tr (q1.mono scN_Le))) ⟨prO hw hP, ?_⟩⟩)
      rw [pN 3 (hf4.tr (q1.mono scN_Le)), n2]
      exact c_list hw ht (by omega) hph q3 q2 (fun v s13 b' χ y1 y2 y3 => done v b' χ s13 (q1.tr y1) y2 y3)
    have k2 : ∀ (x : Int32) (b : Nat) (ψ : Int32 × Int32) (s1 : St), Fr (scLe P (nL D)) σ s1 → PX s1 t b ψ → phOK ψ → ((∃ f, erOK f ∧ zLesson t D fr a = .inl f ∧ ψ = (nI f.1, nI f.2)) ∨ (ψ = f00 ∧ zLesson t D fr a = (match zOpt t kSigns (nS D) b with
        | .inl f => .inl f
        | .inr y => match zOpt t kSight (nW D) y.1 with
          | .inl f => .inl f
          | .inr z => .inr (z.1, adL D x y.2 z.2)))) → ((∀ r3, (gR s1 1 4) = some r3 → (okO w r3 4) ∧ (∃ r4, w.2 r3 5 = some r4 ∧ SpI Γ (d + 5) mX3_acceptsWord [.ref 1, .retAddr 7] (uI s1 (P + 3) (nL D) x) w (fun v6 s5 => ((v6 = 0 → (okO w r4 20) ∧ (vp_in (nI (nL D)) (kd r4).2) ∧ ((∀ r7, (gR s5 1 4) = some r7 → (okO w r7 4) ∧ (∃ r8, w.2 r7 6 = some r8 ∧ SpI Γ (d + 5) mX3_acceptsWord [.ref 1, .retAddr 8] (uI s5 r4 (nL D) 0) w (fun v10 s9 => ((v10 = 0 → (okO w r8 20) ∧ (vp_in (nI (nL D)) (kd r8).2) ∧ ((∀ r11, (gR s9 1 4) = some r11 → (okO w r11 4) ∧ (okO w r11 4) ∧ Q (uI (uI s9 r8 (nL D) 0) r11 7 ((gI (uI s9 r8 (nL D) 0) r11 7) + 1))) ∧ ((gR s9 1 4) = none → False))) ∧ (¬ v10 = 0 → ((∀ r12, (gR s9 1 4) = some r12 → (okO w r12 4) ∧ SpI Γ (d + 5) mX3_parseList [.ref 1, .int (gI s9 r12 3)] s9 w (fun v14 s13 => (okO w r8 20) ∧ (vp_in (nI (nL D)) (kd r8).2) ∧ ((∀ r15, (gR s13 1 4) = some r15 → (okO w r15 4) ∧ (okO w r15 4) ∧ Q (uI (uI s13 r8 (nL D) v14) r15 7 ((gI (uI s13 r8 (nL D) v14) r15 7) + 1))) ∧ ((gR s13 1 4) = none → False)))) ∧ ((gR s9 1 4) = none → False))))))) ∧ ((gR s5 1 4) = none → False))) ∧ (¬ v6 = 0 → ((∀ r16, (gR s5 1 4) = some r16 → (okO w r16 4) ∧ SpI Γ (d + 5) mX3_parseList [.ref 1, .int (gI s5 r16 1)] s5 w (fun v18 s17 => (okO w r4 20) ∧ (vp_in (nI (nL D)) (kd r4).2) ∧ ((∀ r19, (gR s17 1 4) = some r19 → (okO w r19 4) ∧ (∃ r20, w.2 r19 6 = some r20 ∧ SpI Γ (d + 5) mX3_acceptsWord [.ref 1, .retAddr 8] (uI s17 r4 (nL D) v18) w (fun v22 s21 => ((v22 = 0 → (okO w r20 20) ∧ (vp_in (nI (nL D)) (kd r20).2) ∧ ((∀ r23, (gR s21 1 4) = some r23 → (okO w r23 4) ∧ (okO w r23 4) ∧ Q (uI (uI s21 r20 (nL D) 0) r23 7 ((gI (uI s21 r20 (nL D) 0) r23 7) + 1))) ∧ ((gR s21 1 4) = none → False))) ∧ (¬ v22 = 0 → ((∀ r24, (gR s21 1 4) = some r24 → (okO w r24 4) ∧ SpI Γ (d + 5) mX3_parseList [.ref 1, .int (gI s21 r24 3)] s21 w (fun v26 s25 => (okO w r20 20) ∧ (vp_in (nI (nL D)) (kd r20).2) ∧ ((∀ r27, (gR s25 1 4) = some r27 → (okO w r27 4) ∧ (okO w r27 4) ∧ Q (uI (uI s25 r20 (nL D) v26) r27 7 ((gI (uI s25 r20 (nL D) v26) r27 7) + 1))) ∧ ((gR s25 1 4) = none → False)))) ∧ ((gR s21 1 4) = none → False))))))) ∧ ((gR s17 1 4) = none → False)))) ∧ ((gR s5 1 4) = none → False))))))) ∧ ((gR s1 1 4) = none → False)) := by
      intro x b ψ s1 hf hPX hph hz
      refine tdR' (rN hf) ⟨prO hw hP, P + 4, pr5 hw hP, ?_⟩
      have hf4 : Fr (scLe P (nL D)) σ (uI s1 (P + 3) (nL D) x) := hf.tr (uo (by omega) (by omega))
      have g3 : gI (uI s1 (P + 3) (nL D) x) (P + 3) (nL D) = x := by rw [gI_uI, if_pos ⟨rfl, rfl⟩]
      have nx : ∀ (v : Int32) (b' : Nat) (χ : Int32 × Int32), OpO t kSigns (nS D) b ψ v b' χ → ((∃ f, erOK f ∧ zLesson t D fr a = .inl f ∧ χ = (nI f.1, nI f.2)) ∨ (χ = f00 ∧ zLesson t D fr a = (match zOpt t kSight (nW D) b' with
        | .inl f => .inl f
        | .inr z => .inr (z.1, adL D x v z.2)))) := by
        intro v b' χ q3
        rcases hz with ⟨f, hok, e1, e2⟩ | ⟨e1, e2⟩
        · rcases hph with e0 | ⟨g, hg, e0⟩
          · exact absurd (e0.symm.trans e2) (f00_er hok)
          · exact Or.inl ⟨f, hok, e1, (q3.1 g hg e0).trans e2⟩
        · cases ho : zOpt t kSigns (nS D) b with
          | inl g =>
            rw [ho] at e2
            exact Or.inl ⟨g, ((q3.2 e1).1 g ho).1, e2, ((q3.2 e1).1 g ho).2⟩
          | inr z =>
            rw [ho] at e2
            obtain ⟨w1, w2, w3⟩ := (q3.2 e1).2 z ho
            rw [w2, w3]
            exact Or.inr ⟨w1, e2⟩
      refine c_opt (x := 7) (bd := nS D) hw ht (by decide) (by decide) (ux (by omega) hPX) (fun s5 q1 q2 q3 => ⟨fun _ => ⟨o4, v4, k3 x 0 _ _ s5 (hf4.tr (q1.mono scN_Le)) q2 ((cN q1 (by omega)).trans g3) (OpO.ph q3 hph) (nx 0 _ _ q3)⟩, fun q => absurd rfl q⟩) (fun s5 q1 q2 q3 => ⟨fun q => absurd q (by decide), fun _ => tdR' (rN (hf4.tr (q1.mono scN_Le))) ⟨prO hw hP, ?_⟩⟩)
      rw [pN 1 (hf4.tr (q1.mono scN_Le)), n1]
      exact c_list hw ht (by omega) hph q3 q2 (fun v s17 b' χ y1 y2 y3 => ⟨o4, v4, k3 x v _ _ s17 (hf4.tr ((q1.tr y1).mono scN_Le)) y2 ((cN (q1.tr y1) (by omega)).trans g3) (OpO.ph y3 hph) (nx v _ _ y3)⟩)
    have zs : zLesson t D fr a = (match zOpt t kAfter (nL D) a with
      | .inl f => .inl f
      | .inr x => match zOpt t kSigns (nS D) x.1 with
        | .inl f => .inl f
        | .inr y => match zOpt t kSight (nW D) y.1 with
          | .inl f => .inl f
          | .inr z => .inr (z.1, adL D x.2 y.2 z.2)) := by
      unfold zLesson
      rw [if_neg (by omega)]
      rfl
    have nx : ∀ (v : Int32) (b' : Nat) (χ : Int32 × Int32), OpO t kAfter (nL D) a f00 v b' χ → ((∃ f, erOK f ∧ zLesson t D fr a = .inl f ∧ χ = (nI f.1, nI f.2)) ∨ (χ = f00 ∧ zLesson t D fr a = (match zOpt t kSigns (nS D) b' with
        | .inl f => .inl f
        | .inr y => match zOpt t kSight (nW D) y.1 with
          | .inl f => .inl f
          | .inr z => .inr (z.1, adL D v y.2 z.2)))) := by
      intro v b' χ q3
      cases ho : zOpt t kAfter (nL D) a with
      | inl g =>
        rw [ho] at zs
        exact Or.inl ⟨g, ((q3.2 rfl).1 g ho).1, zs, ((q3.2 rfl).1 g ho).2⟩
      | inr z =>
        rw [ho] at zs
        obtain ⟨w1, w2, w3⟩ := (q3.2 rfl).2 z ho
        rw [w2, w3]
        exact Or.inr ⟨w1, zs⟩
    refine c_opt (x := 6) (bd := nL D) hw ht (by decide) (by decide) hX (fun s1 q1 q2 q3 => ⟨fun _ => ⟨v3, k2 0 _ _ s1 (q1.mono scN_Le) q2 (OpO.ph q3 (Or.inl rfl)) (nx 0 _ _ q3)⟩, fun q => absurd rfl q⟩) (fun s1 q1 q2 q3 => ⟨fun q => absurd q (by decide), fun _ => ?_⟩)
    exact c_list hw ht (by omega) (Or.inl rfl) q3 q2 (fun v s28 b' χ y1 y2 y3 => ⟨v3, k2 v _ _ s28 ((q1.tr y1).mono scN_Le) y2 (OpO.ph y3 (Or.inl rfl)) (nx v _ _ y3)⟩)
  · refine hQ s (z1.mono scN_Dr) ⟨a, _, z2, ?_⟩
    have hz : zLesson t D fr a = .inl (3, fr) := by
      unfold zLesson
      rw [if_pos (by omega)]
    rw [hz]
    exact Or.inl rfl
end CLN
