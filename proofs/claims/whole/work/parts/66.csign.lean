/-! the class reads its text: signs -/
/-- cells of the draft and of the parser -/
def scDr (P o k : Nat) : Bool := (o == 1 && (k == 2 || k == 3 || k == 6 || k == 7)) || (decide (P ≤ o) && decide (o ≤ P + 155))
def f00 : Int32 × Int32 := (0, -1)
/-- a clause's body has been read -/
def BdC (σ : St) (t : Tx) (P : Nat) (r : Er ⊕ (Nat × PV)) : Prop := ∃ a φ, PX σ t a φ ∧ (match r with
  | .inl f => φ = (nI f.1, nI f.2) ∨ (φ = f00 ∧ zC t (sk t a) 59 = false ∧ f = (1, sk t a))
  | .inr x => φ = f00 ∧ sk t a = sk t x.1 ∧ PrC σ P x.2)
theorem flU_n (φ : Int32 × Int32) : flU φ none = φ := rfl
theorem flU_0 (f : Er) : flU f00 (some f) = (nI f.1, nI f.2) := rfl
theorem flU_f {f : Er} (h : erOK f) (e : Option Er) : flU (nI f.1, nI f.2) e = (nI f.1, nI f.2) := by
  cases e with
  | none => rfl
  | some g =>
    show (if nI f.1 = 0 then _ else _) = _
    rw [if_neg (nI_ne0 (by have := h.1; omega) (by have := h.2; omega))]
def scSg (P k o j : Nat) : Bool := scN o j || (o == P && j == 1) || o == P + 20 + 2 * k || o == P + 21 + 2 * k
theorem scN_Sg {P k : Nat} : ∀ o j, scN o j = true → scSg P k o j = true := fun o j h => by unfold scSg; rw [h]; rfl
theorem scSg_Dr {P k : Nat} (hk : k < 20) : ∀ o j, scSg P k o j = true → scDr P o j = true := by
  intro o j h
  unfold scSg scN at h
  unfold scDr
  simp only [Bool.or_eq_true, Bool.and_eq_true, beq_iff_eq, decide_eq_true_eq, Bool.not_eq_true', beq_eq_false_iff_ne] at h ⊢
  omega
theorem P_ge {P : Nat} (h : isP P) : 3 ≤ P := by rcases h with rfl | rfl <;> decide
theorem scSg_T {P k : Nat} (hP : isP P) : ∀ o j, (o = 2 ∨ (o = 1 ∧ j = 1)) → scSg P k o j = false := by
  intro o j h
  have := P_ge hP
  unfold scSg
  rw [scN_T o j h]
  simp
  omega
theorem PrC.sign {σ σ' : St} {P : Nat} {D : PV} {t : Tx} {b n : Nat} {s sd : Int32} (hP : isP P) (hD : DOK D) (h : PrC σ P D) (hf : Fr (scSg P (nS D)) σ σ') (h20 : nS D ≠ 20) (hn : n ≤ 4) (g1 : gI σ' P 1 = nI (nS D + 1)) (g2 : gI σ' (P + 20 + 2 * nS D) 1 = nI n) (g3 : gI σ' (P + 20 + 2 * nS D) 2 = s) (g4 : gI σ' (P + 20 + 2 * nS D) 3 = sd) (g5 : ∀ j, j < n → gI σ' (P + 21 + 2 * nS D) j = nI (t.2 (b + j) - 97)) : PrC σ' P (adS t D b n s sd) := by
  have hge := P_ge hP
  have d1 := hD.nS
  have d2 := hD.nW
  have d3 := hD.nL
  have d4 := hD.nP
  obtain ⟨⟨a1, a2, a3, a4⟩, hs, hw, hl, hp⟩ := h
  have z : ∀ o j, ¬ (o = 1) → ¬ (o = P ∧ j = 1) → o ≠ P + 20 + 2 * nS D → o ≠ P + 21 + 2 * nS D → gI σ' o j = gI σ o j := fun o j q1 q2 q3 q4 => hf.1 o j (by
    unfold scSg scN
    simp only [Bool.or_eq_false_iff, Bool.and_eq_false_iff, beq_eq_false_iff_ne]
    omega)
  have e := adS_n (t := t) (D := D) (b := b) (n := n) (s := s) (sd := sd) d1
  refine ⟨⟨g1, ?_, ?_, ?_⟩, fun k hk => ?_, fun v hv => ?_, fun l hl' j hj => ?_, fun p hp' => ?_⟩
  · exact (z _ _ (by omega) (by omega) (by omega) (by omega)).trans a2
  · exact (z _ _ (by omega) (by omega) (by omega) (by omega)).trans a3
  · exact (z _ _ (by omega) (by omega) (by omega) (by omega)).trans a4
  · rw [e] at hk
    by_cases q : k = nS D
    · subst q
      have e1 : adS t D b n s sd 1 (nS D) 0 = nI n := if_pos rfl
      have e2 : sS (adS t D b n s sd) (nS D) = n := by
        show (adS t D b n s sd 1 (nS D) 0).toNatClampNeg = n
        rw [e1, cl (by omega)]
      have e3 : adS t D b n s sd 3 (nS D) 0 = s := if_pos rfl
      have e4 : adS t D b n s sd 4 (nS D) 0 = sd := if_pos rfl
      have e5 : ∀ j, adS t D b n s sd 2 (nS D) j = nI (t.2 (b + j) - 97) := fun j => if_pos rfl
      rw [e2, e1, e3, e4]
      exact ⟨g2, g3, g4, fun j hj => by rw [e5]; exact g5 j hj⟩
    · have e1 : adS t D b n s sd 1 k 0 = D 1 k 0 := if_neg q
      have e2 : sS (adS t D b n s sd) k = sS D k := congrArg Int32.toNatClampNeg e1
      have e3 : adS t D b n s sd 3 k 0 = D 3 k 0 := if_neg q
      have e4 : adS t D b n s sd 4 k 0 = D 4 k 0 := if_neg q
      have e5 : ∀ j, adS t D b n s sd 2 k j = D 2 k j := fun j => if_neg q
      obtain ⟨c1, c2, c3, c4⟩ := hs k (by omega)
      rw [e2, e1, e3, e4]
      refine ⟨(z _ _ (by omega) (by omega) (by omega) (by omega)).trans c1, (z _ _ (by omega) (by omega) (by omega) (by omega)).trans c2, (z _ _ (by omega) (by omega) (by omega) (by omega)).trans c3, fun j hj => ?_⟩
      rw [e5]
      exact (z _ _ (by omega) (by omega) (by omega) (by omega)).trans (c4 j hj)
  · have hv' : v < nW D := hv
    obtain ⟨c1, c2, c3, c4⟩ := hw v hv'
    exact ⟨(z _ _ (by omega) (by omega) (by omega) (by omega)).trans c1, (z _ _ (by omega) (by omega) (by omega) (by omega)).trans c2, fun j hj => (z _ _ (by omega) (by omega) (by omega) (by omega)).trans (c3 j hj), fun j hj => (z _ _ (by omega) (by omega) (by omega) (by omega)).trans (c4 j hj)⟩
  · have hl2 : l < nL D := hl'
    exact (z _ _ (by omega) (by omega) (by omega) (by omega)).trans (hl l hl2 j hj)
  · have hp2 : p < nP D := hp'
    obtain ⟨c1, c2, c3⟩ := hp p hp2
    exact ⟨(z _ _ (by omega) (by omega) (by omega) (by omega)).trans c1, fun j hj => (z _ _ (by omega) (by omega) (by omega) (by omega)).trans (c2 j hj), (z _ _ (by omega) (by omega) (by omega) (by omega)).trans c3⟩
theorem erN_sk {t : Tx} {bd a : Nat} : erN t bd (sk t a) = erN t bd a := by
  unfold erN zNum
  rw [sk_sk]
theorem zK_no {t : Tx} {a : Nat} {l : List Nat} (h : zE t a = sk t a) (hl : 0 < l.length) : zK t (sk t a) (zE t a) l = false := by
  unfold zK
  rw [h, decide_eq_false (by omega)]
  rfl
theorem tdR' {s : St} {P : Nat} (hR : gR s 1 4 = some P) {X : Nat → Prop} {Y : Prop} (h : X P) : (∀ r, gR s 1 4 = some r → X r) ∧ (gR s 1 4 = none → Y) := ⟨mR1 hR h, mR2 hR⟩
section CSG
variable {Γ : Gx} {d : Nat} {w : Wd} {t : Tx} {P : Nat}
theorem c_pSign {Q : St → Prop} {σ : St} {a fr : Nat} {D : PV} (hw : RunW w) (ht : TxOK t) (hD : DOK D) (hP : isP P) (hR : gR σ 1 4 = some P) (hC : PrC σ P D) (hX : PX σ t a f00) (hQ : ∀ σ', Fr (scDr P) σ σ' → BdC σ' t P (zSign t D fr a) → Q σ') : SpV Γ (d + 6) mX3_parseSign [.ref 1, .int (nI fr)] σ w Q := by
  have h6 := ht.1
  have hlt := P_lt hP
  have hge := P_ge hP
  have d1 := hD.nS
  have ha := hX.2.2.1
  have e1 := zE_le ha
  have e2 := zE_ge t a
  have n1 := (wP hC hD.1).1
  have h4 : w.2 (P + 1) (gI σ P 1).toNatClampNeg = some (sgA P (nS D)) := by rw [n1]; exact sgE hw hP (by omega)
  have h6' : w.2 (sgA P (nS D)) 0 = some (sgA P (nS D) + 1) := by
    unfold sgA
    split
    · rename_i h
      have := (sgF hw hP h).2.1
      rw [show P + 20 + 2 * nS D + 1 = P + 21 + 2 * nS D by omega]
      exact this
    · exact (sgF hw hP (k := 0) (by decide)).2.1
  refine SpV.of pnX3 (Nat.le_of_ble_eq_true rfl) (vX3_parseSign_0 hw hR (prO hw hP) (pr0 hw hP) h4 (sgO hw hP) h6' (lo_ hw (by omega)) (k24 (pO1 hP) (by decide)) (k28 (pO1 hP) (by decide)) ?_)
  have l20 : nI (nS D) < 20 ↔ nS D < 20 := nI_ltI (b := 20) (by omega) (by decide)
  rw [n1, l20]
  refine ⟨fun c => ⟨vk (pO1 hP) (by omega), ?_⟩, fun c => c_failC hw hX fun s z1 z2 _ => ?_⟩
  · rw [sgA_ c, show P + 20 + 2 * nS D + 1 = P + 21 + 2 * nS D by omega]
    obtain ⟨o1, r1, o2, zz⟩ := sgF hw hP c
    have toD : ∀ {s : St}, Fr (scSg P (nS D)) σ s → Fr (scDr P) σ s := fun h => h.mono (scSg_Dr c)
    have lt2 : ∀ o j, scLt (P + 21 + 2 * nS D) o j = true → scSg P (nS D) o j = true := by
      intro o j h
      unfold scLt at h
      unfold scSg
      rw [Bool.or_eq_true] at h
      rcases h with h | h <;> simp [h]
    have uo : ∀ {s : St} {j : Nat} {v : Int32}, Fr (scSg P (nS D)) s (uI s (P + 20 + 2 * nS D) j v) := fun {s j v} => fr_I (by simp [scSg])
    have ux : ∀ {s : St} {b : Nat} {φ : Int32 × Int32} {j : Nat} {v : Int32}, PX s t b φ → PX (uI s (P + 20 + 2 * nS D) j v) t b φ := fun {s b φ j v} h => h.o (S := fun o _ => o == P + 20 + 2 * nS D) (fun o k q => by simp; omega) (fr_I (by simp))
    have gR' : ∀ {s : St}, Fr (scSg P (nS D)) σ s → gR s 1 4 = some P := fun h => (h.2.2 1 4 (by unfold scSg scN; simp; omega)).trans hR
    have gP : ∀ {s : St}, (Fr (fun o j => scN o j || o == P + 20 + 2 * nS D || o == P + 21 + 2 * nS D) σ s) → gI s P 1 = nI (nS D) := fun h => (h.1 P 1 (by unfold scN; simp; omega)).trans n1
    -- behind the sound: the side, the count
    have side : ∀ (b : Nat) (ψ : Int32 × Int32) (snd : Int32) (s : St), b ≤ t.1 → Fr (fun o j => scN o j || o == P + 20 + 2 * nS D || o == P + 21 + 2 * nS D) σ s → PX s t b ψ → gI s (P + 20 + 2 * nS D) 1 = nI (min (zE t a - sk t a) 4) → gI s (P + 20 + 2 * nS D) 2 = snd → gI s (P + 20 + 2 * nS D) 3 = 0 → (∀ i, i < min (zE t a - sk t a) 4 → gI s (P + 21 + 2 * nS D) i = nI (t.2 (sk t a + i) - 97)) →
        (∀ f, zSign t D fr a = .inl f → ψ = (nI f.1, nI f.2) ∨ (ψ = f00 ∧ zSide t b = .inl f)) → (∀ x, zSign t D fr a = .inr x → ψ = f00 ∧ zE t a - sk t a ≤ 4 ∧ ∃ y, zSide t b = .inr y ∧ x = (y.1, adS t D (sk t a) (zE t a - sk t a) snd y.2)) →
        SpI Γ (d + 5) mX3_acceptsWord [.ref 1, .retAddr 2] s w (fun v8 s7 => ((v8 = 0 → SpI Γ (d + 5) mX3_acceptsWord [.ref 1, .retAddr 3] s7 w (fun v10 s9 => ((v10 = 0 → ((∀ r11, (gR s9 1 4) = some r11 → (okO w r11 4) ∧ (okO w r11 4) ∧ Q (uI s9 r11 1 ((gI s9 r11 1) + 1))) ∧ ((gR s9 1 4) = none → False))) ∧ (¬ v10 = 0 → ((∀ r12, (gR s9 1 4) = some r12 → (okO w r12 4) ∧ (okO w r12 4) ∧ Q (uI (uI s9 (P + 20 + 2 * nS D) 3 2) r12 1 ((gI (uI s9 (P + 20 + 2 * nS D) 3 2) r12 1) + 1))) ∧ ((gR s9 1 4) = none → False)))))) ∧ (¬ v8 = 0 → ((∀ r13, (gR s7 1 4) = some r13 → (okO w r13 4) ∧ (okO w r13 4) ∧ Q (uI (uI s7 (P + 20 + 2 * nS D) 3 1) r13 1 ((gI (uI s7 (P + 20 + 2 * nS D) 3 1) r13 1) + 1))) ∧ ((gR s7 1 4) = none → False))))) := by
      intro b ψ snd s hb hf hPX k1 k2 k3 kL zl zr
      have scF : ∀ o j, (fun o j => scN o j || o == P + 20 + 2 * nS D || o == P + 21 + 2 * nS D) o j = true → scSg P (nS D) o j = true := by
        intro o j h
        unfold scSg
        simp only [Bool.or_eq_true] at h ⊢
        rcases h with (h | h) | h <;> simp [h]
      have nF : ∀ o j, scN o j = true → (fun o j => scN o j || o == P + 20 + 2 * nS D || o == P + 21 + 2 * nS D) o j = true := fun o j h => by simp only [h, Bool.true_or]
      -- the end
      have fin : ∀ (b' : Nat) (sd : Int32) (s' : St), Fr (fun o j => scN o j || o == P + 20 + 2 * nS D || o == P + 21 + 2 * nS D) σ s' → PX s' t b' ψ → gI s' (P + 20 + 2 * nS D) 1 = nI (min (zE t a - sk t a) 4) → gI s' (P + 20 + 2 * nS D) 2 = snd → gI s' (P + 20 + 2 * nS D) 3 = sd → (∀ i, i < min (zE t a - sk t a) 4 → gI s' (P + 21 + 2 * nS D) i = nI (t.2 (sk t a + i) - 97)) → ((∃ f, zSide t b = .inl f ∧ f = (1, sk t b') ∧ zC t (sk t b') 59 = false) ∨ ∃ y, zSide t b = .inr y ∧ y.2 = sd ∧ sk t b' = sk t y.1) → Q (uI s' P 1 (gI s' P 1 + 1)) := by
        intro b' sd s' hf' hPX' q1 q2 q3 qL hside
        have hfP : Fr (scSg P (nS D)) s' (uI s' P 1 (gI s' P 1 + 1)) := fr_I (by simp [scSg])
        have hF2 : Fr (scSg P (nS D)) σ (uI s' P 1 (gI s' P 1 + 1)) := (hf'.mono scF).tr hfP
        refine hQ _ (toD hF2) ⟨b', ψ, hPX'.o (S := fun o j => o == P && j == 1) (fun o k q => by simp; omega) (fr_I (by simp)), ?_⟩
        cases hz : zSign t D fr a with
        | inl f =>
          dsimp only
          rcases zl f hz with h | ⟨h1, h2⟩
          · exact Or.inl h
          · rcases hside with ⟨g, hg1, hg2, hg3⟩ | ⟨y, hy, -⟩
            · rw [hg1] at h2
              cases h2
              exact Or.inr ⟨h1, hg3, hg2⟩
            · rw [hy] at h2
              cases h2
        | inr x =>
          dsimp only
          obtain ⟨h1, h2, y, h3, h4⟩ := zr x hz
          rcases hside with ⟨g, hg1, -⟩ | ⟨y', hy, hy2, hy3⟩
          · rw [hg1] at h3
            cases h3
          · rw [hy] at h3
            cases h3
            rw [h4]
            refine ⟨h1, hy3, ?_⟩
            have hm : min (zE t a - sk t a) 4 = zE t a - sk t a := Nat.min_eq_left h2
            rw [hm] at q1 qL
            refine hC.sign hP hD hF2 (by omega) h2 (by rw [gI_uI, if_pos ⟨rfl, rfl⟩, gP hf', nI_1]) ?_ ?_ ?_ (fun j hj => ?_)
            · rw [gI_uI, if_neg (by omega)]; exact q1
            · rw [gI_uI, if_neg (by omega)]; exact q2
            · rw [gI_uI, if_neg (by omega)]; exact q3.trans hy2.symm
            · rw [gI_uI, if_neg (by omega)]; exact qL j hj
      refine c_accW (x := 2) hw ht (by decide) (by decide) hPX fun s7 z1 z2 => ?_
      have hf7 := hf.tr (z1.mono nF)
      have cN : ∀ {s s' : St} {o j : Nat}, Fr scN s s' → o ≠ 1 → gI s' o j = gI s o j := fun h q => h.1 _ _ (by unfold scN; simp [q])
      rw [b2i_n0, b2i_0]
      refine ⟨fun c2 => c_accW (x := 3) hw ht (by decide) (by decide) z2 fun s9 y1 y2 => ?_, fun c2 => tdR' (gR' (hf7.mono scF)) ⟨prO hw hP, prO hw hP, ?_⟩⟩
      · have ef : (if zK t (sk t b) (zE t b) (kwX 2) = true then zE t b else sk t b) = sk t b := by rw [c2]; rfl
        rw [ef, sk_sk, zE_sk] at y2
        rw [ef, sk_sk, zE_sk, b2i_n0, b2i_0]
        have hf9 := hf7.tr (y1.mono nF)
        have m1 : gI s9 (P + 20 + 2 * nS D) 1 = nI (min (zE t a - sk t a) 4) := (cN y1 (by omega)).trans ((cN z1 (by omega)).trans k1)
        have m2 : gI s9 (P + 20 + 2 * nS D) 2 = snd := (cN y1 (by omega)).trans ((cN z1 (by omega)).trans k2)
        have m3 : gI s9 (P + 20 + 2 * nS D) 3 = 0 := (cN y1 (by omega)).trans ((cN z1 (by omega)).trans k3)
        have mL : ∀ i, i < min (zE t a - sk t a) 4 → gI s9 (P + 21 + 2 * nS D) i = nI (t.2 (sk t a + i) - 97) := fun i hi => (cN y1 (by omega)).trans ((cN z1 (by omega)).trans (kL i hi))
        refine ⟨fun c3 => tdR' (gR' (hf9.mono scF)) ⟨prO hw hP, prO hw hP, ?_⟩, fun c3 => tdR' (gR' (hf9.mono scF)) ⟨prO hw hP, prO hw hP, ?_⟩⟩
        · rw [c3, if_neg (by decide)] at y2
          refine fin (sk t b) 0 s9 hf9 y2 m1 m2 m3 mL ?_
          by_cases e : zE t b = sk t b
          · refine Or.inr ⟨(sk t b, 0), ?_, rfl, rfl⟩
            unfold zSide
            rw [if_pos e]
          · refine Or.inl ⟨(1, sk t b), ?_, by rw [sk_sk], ?_⟩
            · unfold zSide
              have c2' : zK t (sk t b) (zE t b) kStart = false := c2
              have c3' : zK t (sk t b) (zE t b) kEnd = false := c3
              rw [if_neg e, c2', c3']
              rfl
            · rw [sk_sk]
              have hz := zR_all (p := zL) (t := t) (a := sk t b) (sk t b) (Nat.le_refl _) (by have := zE_ge t b; show sk t b < zE t b; omega)
              unfold zC
              unfold zL at hz
              simp only [Bool.and_eq_true, decide_eq_true_eq] at hz
              have : ¬ t.2 (sk t b) = 59 := by omega
              simp [this]
        · rw [c3, if_pos rfl] at y2
          refine fin (zE t b) 2 _ (hf9.tr (fr_I (by simp))) (ux y2) (by rw [gI_uI, if_neg (by omega)]; exact m1) (by rw [gI_uI, if_neg (by omega)]; exact m2) (by rw [gI_uI, if_pos ⟨rfl, rfl⟩]) (fun i hi => by rw [gI_uI, if_neg (by omega)]; exact mL i hi) (Or.inr ⟨(zE t b, 2), ?_, rfl, rfl⟩)
          have c2' : zK t (sk t b) (zE t b) kStart = false := c2
          have c3' : zK t (sk t b) (zE t b) kEnd = true := c3
          have e : zE t b ≠ sk t b := fun e => by rw [zK_no e (by decide)] at c3'; cases c3'
          unfold zSide
          rw [if_neg e, c2', c3']
          rfl
      · rw [c2, if_pos rfl] at z2
        have c2' : zK t (sk t b) (zE t b) kStart = true := c2
        have e : zE t b ≠ sk t b := fun e => by rw [zK_no e (by decide)] at c2'; cases c2'
        refine fin (zE t b) 1 _ (hf7.tr (fr_I (by simp))) (ux z2) (by rw [gI_uI, if_neg (by omega), cN z1 (by omega)]; exact k1) (by rw [gI_uI, if_neg (by omega), cN z1 (by omega)]; exact k2) (by rw [gI_uI, if_pos ⟨rfl, rfl⟩]) (fun i hi => by rw [gI_uI, if_neg (by omega), cN z1 (by omega)]; exact kL i hi) (Or.inr ⟨(zE t b, 1), ?_, rfl, rfl⟩)
        unfold zSide
        rw [if_neg e, c2']
        rfl
    refine c_lets hw ht o2 zz (by decide) (by omega) (by omega) hX (fun s z1 z2 z3 => c_acc (c := 45) hw ht (by decide) (ux z2) (fun s3 y1 y2 => ?_))
    have cN : ∀ {s s' : St} {o j : Nat}, Fr scN s s' → o ≠ 1 → gI s' o j = gI s o j := fun h q => h.1 _ _ (by unfold scN; simp [q])
    have ltF : ∀ o j, scLt (P + 21 + 2 * nS D) o j = true → (fun o j => scN o j || o == P + 20 + 2 * nS D || o == P + 21 + 2 * nS D) o j = true := by
      intro o j h
      unfold scLt at h
      simp only [Bool.or_eq_true] at h ⊢
      rcases h with h | h
      · exact Or.inl (Or.inl h)
      · exact Or.inr h
    have nF : ∀ o j, scN o j = true → (fun o j => scN o j || o == P + 20 + 2 * nS D || o == P + 21 + 2 * nS D) o j = true := fun o j h => by simp only [h, Bool.true_or]
    have hf3 : Fr (fun o j => scN o j || o == P + 20 + 2 * nS D || o == P + 21 + 2 * nS D) σ s3 := (z1.mono ltF).tr ((fr_I (by simp)).tr (y1.mono nF))
    have m1 : gI s3 (P + 20 + 2 * nS D) 1 = nI (min (zE t a - sk t a) 4) := by rw [cN y1 (by omega), gI_uI, if_pos ⟨rfl, rfl⟩]
    have mL : ∀ i, i < min (zE t a - sk t a) 4 → gI s3 (P + 21 + 2 * nS D) i = nI (t.2 (sk t a + i) - 97) := fun i hi => by rw [cN y1 (by omega), gI_uI, if_neg (by omega)]; exact z3 i hi
    have zs : zSign t D fr a = if zE t a = sk t a then .inl (1, sk t a) else if 4 < zE t a - sk t a then .inl (4, sk t a + 4) else (match zSnd t (zE t a) with
        | .inl f => .inl f
        | .inr x => match zSide t x.1 with
          | .inl f => .inl f
          | .inr y => .inr (y.1, adS t D (sk t a) (zE t a - sk t a) x.2 y.2)) := by
      unfold zSign
      rw [if_neg (by omega)]
      rfl
    have er1 : ∀ f, erL t 4 a = some f → zSign t D fr a = .inl f ∧ erOK f := by
      intro f h
      unfold erL at h
      split at h
      · rename_i q
        cases h
        rw [zs, if_pos q]
        exact ⟨rfl, Nat.le_of_ble_eq_true rfl, Nat.le_of_ble_eq_true rfl⟩
      · rename_i q
        split at h
        · rename_i q2
          cases h
          rw [zs, if_neg q, if_pos q2]
          exact ⟨rfl, Nat.le_of_ble_eq_true rfl, Nat.le_of_ble_eq_true rfl⟩
        · cases h
    have er0 : erL t 4 a = none → zE t a - sk t a ≤ 4 ∧ zSign t D fr a = (match zSnd t (zE t a) with
        | .inl f => .inl f
        | .inr x => match zSide t x.1 with
          | .inl f => .inl f
          | .inr y => .inr (y.1, adS t D (sk t a) (zE t a - sk t a) x.2 y.2)) := by
      intro h
      unfold erL at h
      split at h
      · cases h
      · rename_i q
        split at h
        · cases h
        · rename_i q2
          refine ⟨by omega, ?_⟩
          rw [zs, if_neg q, if_neg q2]
    -- what the sound gives
    have close : ∀ (b : Nat) (snd : Int32) (e2 : Option Er), (erL t 4 a = none → (match e2 with | some f => zSnd t (zE t a) = .inl f ∧ erOK f | none => zSnd t (zE t a) = .inr (b, snd))) → ((∀ f, zSign t D fr a = .inl f → flU (flU f00 (erL t 4 a)) e2 = (nI f.1, nI f.2) ∨ (flU (flU f00 (erL t 4 a)) e2 = f00 ∧ zSide t b = .inl f)) ∧ (∀ x, zSign t D fr a = .inr x → flU (flU f00 (erL t 4 a)) e2 = f00 ∧ zE t a - sk t a ≤ 4 ∧ ∃ y, zSide t b = .inr y ∧ x = (y.1, adS t D (sk t a) (zE t a - sk t a) snd y.2))) := by
      intro b snd e2 h2
      cases hE : erL t 4 a with
      | some g =>
        obtain ⟨g1, g2⟩ := er1 g hE
        rw [flU_0, flU_f g2]
        refine ⟨fun f hf => ?_, fun x hx => ?_⟩
        · rw [g1] at hf
          cases hf
          exact Or.inl rfl
        · rw [g1] at hx
          cases hx
      | none =>
        obtain ⟨q1, q2⟩ := er0 hE
        have h2' := h2 hE
        cases e2 with
        | some g =>
          obtain ⟨h3, h4⟩ := h2'
          rw [h3] at q2
          refine ⟨fun f hf => ?_, fun x hx => ?_⟩
          · rw [q2] at hf
            cases hf
            exact Or.inl rfl
          · rw [q2] at hx
            cases hx
        | none =>
          have h3 : zSnd t (zE t a) = .inr (b, snd) := h2'
          rw [h3] at q2
          dsimp only at q2
          cases hs : zSide t b with
          | inl g =>
            rw [hs] at q2
            refine ⟨fun f hf => ?_, fun x hx => ?_⟩
            · rw [q2] at hf
              cases hf
              exact Or.inr ⟨rfl, rfl⟩
            · rw [q2] at hx
              cases hx
          | inr y =>
            rw [hs] at q2
            refine ⟨fun f hf => ?_, fun x hx => ?_⟩
            · rw [q2] at hf
              cases hf
            · rw [q2] at hx
              cases hx
              exact ⟨rfl, q1, y, rfl, rfl⟩
    rw [b2i_n0, b2i_0]
    refine ⟨fun c2 => c_num (bd := 30) hw ht (by decide) y2 (fun s5 u1 u2 u3 => ?_), fun c2 => ?_⟩
    · have ef : (if zC t (sk t (zE t a)) 45 = true then sk t (zE t a) + 1 else sk t (zE t a)) = sk t (zE t a) := by rw [c2]; rfl
      rw [ef, erN_sk, sk_sk] at u2
      rw [ef, erN_sk, sk_sk]
      have hf5 : Fr (fun o j => scN o j || o == P + 20 + 2 * nS D || o == P + 21 + 2 * nS D) σ s5 := hf3.tr (u1.mono nF)
      obtain ⟨cl1, cl2⟩ := close (zR zD t (sk t (zE t a))) (if (flU (flU f00 (erL t 4 a)) (erN t 30 (zE t a))).1 = 0 then nI (zV t (sk t (zE t a)) (zR zD t (sk t (zE t a)))) else 0) (erN t 30 (zE t a)) (fun hE => by
        unfold erN
        have hsnd : zSnd t (zE t a) = (match zNum t 30 (zE t a) with | .inl f => .inl f | .inr x => .inr (x.1, nI x.2)) := by
          unfold zSnd
          rw [if_neg (by rw [c2]; decide)]
          rfl
        cases hz : zNum t 30 (zE t a) with
        | inl f =>
          rw [hz] at hsnd
          exact ⟨hsnd, zNum_erK hz⟩
        | inr x =>
          rw [hz] at hsnd
          have hx := zNum_ok hz e1
          have hx2 : x = (zR zD t (sk t (zE t a)), zV t (sk t (zE t a)) (zR zD t (sk t (zE t a)))) := by
            unfold zNum zNm at hz
            split at hz
            · cases hz
            · split at hz
              · cases hz
              · cases hz; rfl
          show zSnd t (zE t a) = .inr (_, _)
          rw [hsnd, hx2, hE]
          rfl)
      refine side _ _ _ _ (zR_le (sk_le e1)) (hf5.tr ((fr_I (by simp)).tr (fr_I (by simp)))) (ux (ux u2)) ?_ ?_ ?_ (fun i hi => ?_) cl1 cl2
      · rw [gI_uI, if_neg (by omega), gI_uI, if_neg (by omega), cN u1 (by omega)]; exact m1
      · rw [gI_uI, if_neg (by omega), gI_uI, if_pos ⟨rfl, rfl⟩]
      · rw [gI_uI, if_pos ⟨rfl, rfl⟩]
      · rw [gI_uI, if_neg (by omega), gI_uI, if_neg (by omega), cN u1 (by omega)]; exact mL i hi
    · rw [c2, if_pos rfl] at y2
      obtain ⟨cl1, cl2⟩ := close (sk t (zE t a) + 1) (-1) none (fun _ => by
        show zSnd t (zE t a) = _
        unfold zSnd
        rw [if_pos c2])
      refine side _ _ _ _ (zC_pos c2).1 (hf3.tr ((fr_I (by simp)).tr (fr_I (by simp)))) (ux (ux y2)) ?_ ?_ ?_ (fun i hi => ?_) cl1 cl2
      · rw [gI_uI, if_neg (by omega), gI_uI, if_neg (by omega)]; exact m1
      · rw [gI_uI, if_neg (by omega), gI_uI, if_pos ⟨rfl, rfl⟩]
      · rw [gI_uI, if_pos ⟨rfl, rfl⟩]
      · rw [gI_uI, if_neg (by omega), gI_uI, if_neg (by omega)]; exact mL i hi
  · refine hQ s (z1.mono (fun o j h => by
      unfold scN at h
      unfold scDr
      simp only [Bool.or_eq_true, Bool.and_eq_true, beq_iff_eq, decide_eq_true_eq, Bool.not_eq_true', beq_eq_false_iff_ne] at h ⊢
      omega)) ⟨a, _, z2, ?_⟩
    have hz : zSign t D fr a = .inl (3, fr) := by
      unfold zSign
      rw [if_pos (by omega)]
    rw [hz]
    exact Or.inl rfl
end CSG
