/-! the class reads its text: words -/
def scWr (P v o j : Nat) : Bool := scN o j || (decide (P + 60 + 4 * v ≤ o) && decide (o ≤ P + 62 + 4 * v))
def scWd (P v o j : Nat) : Bool := scWr P v o j || (o == P && j == 3)
theorem scN_Wr {P v : Nat} : ∀ o j, scN o j = true → scWr P v o j = true := fun o j h => by unfold scWr; rw [h]; rfl
theorem scWr_Wd {P v : Nat} : ∀ o j, scWr P v o j = true → scWd P v o j = true := fun o j h => by unfold scWd; rw [h]; rfl
theorem scWd_Dr {P v : Nat} (hv : v < 24) : ∀ o j, scWd P v o j = true → scDr P o j = true := by
  intro o j h
  unfold scWd scWr scN at h
  unfold scDr
  simp only [Bool.or_eq_true, Bool.and_eq_true, beq_iff_eq, decide_eq_true_eq, Bool.not_eq_true', beq_eq_false_iff_ne] at h ⊢
  omega
theorem scN_Dr {P : Nat} : ∀ o j, scN o j = true → scDr P o j = true := by
  intro o j h
  unfold scN at h
  unfold scDr
  simp only [Bool.or_eq_true, Bool.and_eq_true, beq_iff_eq, decide_eq_true_eq, Bool.not_eq_true', beq_eq_false_iff_ne] at h ⊢
  omega
theorem PrC.word {σ σ' : St} {P : Nat} {D : PV} {t : Tx} {b n : Nat} {ss : List Int32} (hP : isP P) (hD : DOK D) (h : PrC σ P D) (hf : Fr (scWd P (nW D)) σ σ') (h24 : nW D ≠ 24) (hn : n ≤ 8) (hs : ss.length ≤ 8) (g1 : gI σ' P 3 = nI (nW D + 1)) (g2 : gI σ' (P + 60 + 4 * nW D) 1 = nI n) (g3 : gI σ' (P + 60 + 4 * nW D) 3 = nI ss.length) (g4 : ∀ j, j < n → gI σ' (P + 61 + 4 * nW D) j = nI (t.2 (b + j) - 97)) (g5 : ∀ j, j < ss.length → gI σ' (P + 62 + 4 * nW D) j = ss.getD j 0) : PrC σ' P (adW t D b n ss) := by
  have hge := P_ge hP
  have d1 := hD.nS
  have d2 := hD.nW
  have d3 := hD.nL
  have d4 := hD.nP
  obtain ⟨⟨a1, a2, a3, a4⟩, hsg, hw, hl, hp⟩ := h
  have z : ∀ o j, ¬ (o = 1) → ¬ (o = P ∧ j = 3) → (o < P + 60 + 4 * nW D ∨ P + 62 + 4 * nW D < o) → gI σ' o j = gI σ o j := fun o j q1 q2 q3 => hf.1 o j (by
    unfold scWd scWr scN
    simp only [Bool.or_eq_false_iff, Bool.and_eq_false_iff, beq_eq_false_iff_ne, decide_eq_false_iff_not]
    omega)
  have e := adW_n (t := t) (D := D) (b := b) (n := n) (ss := ss) d2
  refine ⟨⟨?_, g1, ?_, ?_⟩, fun k hk => ?_, fun v hv => ?_, fun l hl' j hj => ?_, fun p hp' => ?_⟩
  · exact (z _ _ (by omega) (by omega) (by omega)).trans a1
  · exact (z _ _ (by omega) (by omega) (by omega)).trans a3
  · exact (z _ _ (by omega) (by omega) (by omega)).trans a4
  · have hk' : k < nS D := hk
    obtain ⟨c1, c2, c3, c4⟩ := hsg k hk'
    exact ⟨(z _ _ (by omega) (by omega) (by omega)).trans c1, (z _ _ (by omega) (by omega) (by omega)).trans c2, (z _ _ (by omega) (by omega) (by omega)).trans c3, fun j hj => (z _ _ (by omega) (by omega) (by omega)).trans (c4 j hj)⟩
  · rw [e] at hv
    by_cases q : v = nW D
    · subst q
      have e5 : adW t D b n ss 5 (nW D) 0 = nI n := if_pos rfl
      have e5' : wS (adW t D b n ss) (nW D) = n := by
        show (adW t D b n ss 5 (nW D) 0).toNatClampNeg = n
        rw [e5, cl (by omega)]
      have e7 : adW t D b n ss 7 (nW D) 0 = nI ss.length := if_pos rfl
      have e7' : wN (adW t D b n ss) (nW D) = ss.length := by
        show (adW t D b n ss 7 (nW D) 0).toNatClampNeg = _
        rw [e7, cl (by omega)]
      have e6 : ∀ j, adW t D b n ss 6 (nW D) j = nI (t.2 (b + j) - 97) := fun j => if_pos rfl
      have e8 : ∀ j, adW t D b n ss 8 (nW D) j = ss.getD j 0 := fun j => if_pos rfl
      rw [e5', e5, e7', e7]
      exact ⟨g2, g3, fun j hj => by rw [e6]; exact g4 j hj, fun j hj => by rw [e8]; exact g5 j hj⟩
    · have e5 : adW t D b n ss 5 v 0 = D 5 v 0 := if_neg q
      have e5' : wS (adW t D b n ss) v = wS D v := congrArg Int32.toNatClampNeg e5
      have e7 : adW t D b n ss 7 v 0 = D 7 v 0 := if_neg q
      have e7' : wN (adW t D b n ss) v = wN D v := congrArg Int32.toNatClampNeg e7
      have e6 : ∀ j, adW t D b n ss 6 v j = D 6 v j := fun j => if_neg q
      have e8 : ∀ j, adW t D b n ss 8 v j = D 8 v j := fun j => if_neg q
      rw [e5', e5, e7', e7]
      obtain ⟨c1, c2, c3, c4⟩ := hw v (by omega)
      exact ⟨(z _ _ (by omega) (by omega) (by omega)).trans c1, (z _ _ (by omega) (by omega) (by omega)).trans c2, fun j hj => by rw [e6]; exact (z _ _ (by omega) (by omega) (by omega)).trans (c3 j hj), fun j hj => by rw [e8]; exact (z _ _ (by omega) (by omega) (by omega)).trans (c4 j hj)⟩
  · have hl2 : l < nL D := hl'
    exact (z _ _ (by omega) (by omega) (by omega)).trans (hl l hl2 j hj)
  · have hp2 : p < nP D := hp'
    obtain ⟨c1, c2, c3⟩ := hp p hp2
    exact ⟨(z _ _ (by omega) (by omega) (by omega)).trans c1, fun j hj => (z _ _ (by omega) (by omega) (by omega)).trans (c2 j hj), (z _ _ (by omega) (by omega) (by omega)).trans c3⟩
theorem erL_sk {t : Tx} {c a : Nat} : erL t c (sk t a) = erL t c a := by
  unfold erL
  rw [sk_sk, zE_sk]
/-- the fault behind one more sound -/
def erS (t : Tx) (a n : Nat) (φ : Int32 × Int32) : Int32 × Int32 := if n = 8 then flU (flU φ (erN t 30 a)) (some (4, sk t a)) else flU φ (erN t 30 a)
section CWD
variable {Γ : Gx} {d : Nat} {w : Wd} {t : Tx} {P : Nat}
theorem c_sound {Q : St → Prop} {σ : St} {a v n : Nat} {φ : Int32 × Int32} (hw : RunW w) (ht : TxOK t) (hP : isP P) (hv : v < 24) (hX : PX σ t a φ) (hn : n ≤ 8) (h3 : gI σ (P + 60 + 4 * v) 3 = nI n)
    (hQ : ∀ σ', Fr (scWr P v) σ σ' → PX σ' t (sk t (zR zD t (sk t a))) (erS t a n φ) → gI σ' (P + 60 + 4 * v) 1 = gI σ (P + 60 + 4 * v) 1 → gI σ' (P + 60 + 4 * v) 3 = nI (if n = 8 then 8 else n + 1) → (∀ j, gI σ' (P + 61 + 4 * v) j = gI σ (P + 61 + 4 * v) j) → (∀ j, j < n → gI σ' (P + 62 + 4 * v) j = gI σ (P + 62 + 4 * v) j) → (n ≠ 8 → gI σ' (P + 62 + 4 * v) n = if (flU φ (erN t 30 a)).1 = 0 then nI (zV t (sk t a) (zR zD t (sk t a))) else 0) → Q σ') : SpV Γ (d + 2) mX3_parseSound [.ref 1, .ref (P + 60 + 4 * v)] σ w Q := by
  have hge := P_ge hP
  have hlt := P_lt hP
  have h6 := ht.1
  obtain ⟨o3, ⟨r1, r2, r3⟩, ⟨o4, z4⟩, ⟨o5, z5⟩, -⟩ := wdF hw hP hv
  have cN : ∀ {s s' : St} {o j : Nat}, Fr scN s s' → o ≠ 1 → gI s' o j = gI s o j := fun h q => h.1 _ _ (by unfold scN; simp [q])
  refine SpV.of pnX3 (Nat.le_of_ble_eq_true rfl) (vX3_parseSound_0 hw o3 r2 o5 (c_num (bd := 30) hw ht (by decide) hX fun s z1 z2 z3 => ?_))
  have g3 : gI s (P + 60 + 4 * v) 3 = nI n := (cN z1 (by omega)).trans h3
  have l8 : (8 : Int32) ≤ nI n ↔ 8 ≤ n := nI_leI (a := 8) (by decide) (by omega)
  rw [g3, l8, z3]
  refine ⟨fun c => c_failC hw z2 fun s1 y1 y2 _ => c_skip hw ht y2 fun s2 u1 u2 _ => ?_, fun c => ⟨vk2 z5 (by omega), ?_⟩⟩
  · have e8 : n = 8 := by omega
    have hf := (z1.tr (y1.tr u1))
    unfold erS at hQ
    rw [if_pos e8, if_pos e8] at hQ
    refine hQ s2 (hf.mono scN_Wr) u2 (cN hf (by omega)) ((cN hf (by omega)).trans (h3.trans (by rw [e8]))) (fun j => cN hf (by omega)) (fun j _ => cN hf (by omega)) (fun q => absurd e8 q)
  · have n8 : n ≠ 8 := by omega
    unfold erS at hQ
    rw [if_neg n8, if_neg n8] at hQ
    rw [nI_1, cl (by omega)]
    generalize hval : (if (flU φ (erN t 30 a)).1 = 0 then nI (zV t (sk t a) (zR zD t (sk t a))) else 0) = val at hQ ⊢
    have hfu : Fr (fun o _ => decide (P + 60 + 4 * v ≤ o) && decide (o ≤ P + 62 + 4 * v)) s (uI (uI s (P + 60 + 4 * v) 3 (nI (n + 1))) (P + 62 + 4 * v) n val) := (fr_I (by simp)).tr (fr_I (by simp))
    refine c_skip hw ht (z2.o (fun o k q => by simp; omega) hfu) fun s2 u1 u2 _ => ?_
    refine hQ s2 ((z1.mono scN_Wr).tr ((hfu.mono (fun o j q => by unfold scWr; rw [q]; simp)).tr (u1.mono scN_Wr))) u2 ?_ ?_ (fun j => ?_) (fun j hj => ?_) (fun _ => ?_)
    · rw [cN u1 (by omega), gI_uI, if_neg (by omega), gI_uI, if_neg (by omega)]; exact cN z1 (by omega)
    · rw [cN u1 (by omega), gI_uI, if_neg (by omega), gI_uI, if_pos ⟨rfl, rfl⟩]
    · rw [cN u1 (by omega), gI_uI, if_neg (by omega), gI_uI, if_neg (by omega)]; exact cN z1 (by omega)
    · rw [cN u1 (by omega), gI_uI, if_neg (by omega), gI_uI, if_neg (by omega)]; exact cN z1 (by omega)
    · rw [cN u1 (by omega), gI_uI, if_pos ⟨rfl, rfl⟩]
theorem c_pWord {Q : St → Prop} {σ : St} {a fr : Nat} {D : PV} (hw : RunW w) (ht : TxOK t) (hD : DOK D) (hP : isP P) (hR : gR σ 1 4 = some P) (hC : PrC σ P D) (hX : PX σ t a f00) (hQ : ∀ σ', Fr (scDr P) σ σ' → BdC σ' t P (zWord t D fr a) → Q σ') : SpV Γ (d + 3) mX3_parseWord [.ref 1, .int (nI fr)] σ w Q := by
  have h6 := ht.1
  have hlt := P_lt hP
  have hge := P_ge hP
  have d2 := hD.nW
  have ha := hX.2.2.1
  have e1 := zE_le ha
  have e2 := zE_ge t a
  have n1 := (wP hC hD.1).2.1
  have l24 : nI (nW D) < 24 ↔ nW D < 24 := nI_ltI (b := 24) (by omega) (by decide)
  refine SpV.of pnX3 (Nat.le_of_ble_eq_true rfl) (vX3_parseWord_0 hw hR (prO hw hP) ?_)
  rw [n1, l24]
  refine ⟨fun c => c_skip hw ht hX fun s1 z1 z2 _ => ?_, fun c => c_failC hw hX fun s z1 z2 _ => ?_⟩
  · obtain ⟨o3, ⟨r1, r2, r3⟩, ⟨o4, z4⟩, ⟨o5, z5⟩, -⟩ := wdF hw hP c
    have cN : ∀ {s s' : St} {o j : Nat}, Fr scN s s' → o ≠ 1 → gI s' o j = gI s o j := fun h q => h.1 _ _ (by unfold scN; simp [q])
    have rN : ∀ {s : St}, Fr (scWr P (nW D)) σ s → gR s 1 4 = some P := fun h => (h.2.2 1 4 (by unfold scWr scN; simp; omega)).trans hR
    have pN : ∀ {s : St}, Fr (scWr P (nW D)) σ s → gI s P 3 = nI (nW D) := fun h => (h.1 P 3 (by unfold scWr scN; simp; omega)).trans n1
    have hC1 : PrC s1 P D := hC.fr hD.1 (fun o k q => by unfold inPr at q; unfold scN; simp; omega) z1
    have zs : zWord t D fr a = if zE t a = sk t a then .inl (1, sk t a) else (match wOf t D (sk t a) (zE t a) (nW D) with
        | some _ => .inl (5, sk t a)
        | none => if 8 < zE t a - sk t a then .inl (4, sk t a + 8) else
          match zSnds t 601 (zE t a) [] with
          | .inl f => .inl f
          | .inr x => .inr (x.1, adW t D (sk t a) (zE t a - sk t a) x.2)) := by
      unfold zWord
      rw [if_neg (by omega)]
      rfl
    -- the count, at the end
    have fin : ∀ (b : Nat) (ψ : Int32 × Int32) (s : St), Fr (scWr P (nW D)) σ s → PX s t b ψ → ((∃ f, zWord t D fr a = .inl f ∧ ψ = (nI f.1, nI f.2)) ∨ ∃ ss, zWord t D fr a = .inr (b, adW t D (sk t a) (zE t a - sk t a) ss) ∧ ψ = f00 ∧ zE t a - sk t a ≤ 8 ∧ ss.length ≤ 8 ∧ gI s (P + 60 + 4 * nW D) 1 = nI (zE t a - sk t a) ∧ gI s (P + 60 + 4 * nW D) 3 = nI ss.length ∧ (∀ j, j < zE t a - sk t a → gI s (P + 61 + 4 * nW D) j = nI (t.2 (sk t a + j) - 97)) ∧ ∀ j, j < ss.length → gI s (P + 62 + 4 * nW D) j = ss.getD j 0) → Q (uI s P 3 (gI s P 3 + 1)) := by
      intro b ψ s hf hPX h
      have hfP : Fr (scWd P (nW D)) s (uI s P 3 (gI s P 3 + 1)) := fr_I (by simp [scWd])
      have hF2 := (hf.mono scWr_Wd).tr hfP
      refine hQ _ (hF2.mono (scWd_Dr c)) ⟨b, ψ, hPX.o (S := fun o j => o == P && j == 3) (fun o k q => by simp; omega) (fr_I (by simp)), ?_⟩
      rcases h with ⟨f, h1, h2⟩ | ⟨ss, h1, h2, h3, h4, h5, h7, h8, h9⟩
      · rw [h1]; exact Or.inl h2
      · rw [h1]
        refine ⟨h2, rfl, hC.word hP hD hF2 (by omega) h3 h4 (by rw [gI_uI, if_pos ⟨rfl, rfl⟩, pN hf, nI_1]) ?_ ?_ (fun j hj => ?_) (fun j hj => ?_)⟩
        · rw [gI_uI, if_neg (by omega)]; exact h5
        · rw [gI_uI, if_neg (by omega)]; exact h7
        · rw [gI_uI, if_neg (by omega)]; exact h8 j hj
        · rw [gI_uI, if_neg (by omega)]; exact h9 j hj
    -- once there is a fault
    have lpF : ∀ f, zWord t D fr a = .inl f → erOK f → ∀ r i b n s, i + r = 8 → n ≤ 8 → Fr (scWr P (nW D)) σ s → PX s t b (nI f.1, nI f.2) → gI s (P + 60 + 4 * nW D) 3 = nI n → AV Γ (d + 3) mX3_parseWord w Q 80 [(0, .ref 1), (2, .ref (P + 60 + 4 * nW D)), (3, .int (nI i))] s := by
      intro f hz hf r
      induction r with
      | zero =>
        intro i b n s hi hn hfs hPX h3
        have : i = 8 := hi
        subst this
        exact vX3_parseWord_80 hw (rN hfs) (prO hw hP) ⟨fun _ => fin b _ s hfs hPX (Or.inl ⟨f, hz, rfl⟩), fun q => absurd (by decide : (8 : Int32) ≤ nI 8) q⟩
      | succ r ih =>
        intro i b n s hi hn hfs hPX h3
        refine vX3_parseWord_80 hw (rN hfs) (prO hw hP) ⟨fun q => absurd q (nI_ge (a := i) (b := 8) (by omega) (by decide)), fun _ => c_look hw ht hPX (c_isFigH ht ?_)⟩
        rw [b2i_n0, b2i_0]
        refine ⟨fun _ => tdR' (rN hfs) ⟨prO hw hP, prO hw hP, fin b _ s hfs hPX (Or.inl ⟨f, hz, rfl⟩)⟩, fun _ => c_sound hw ht hP c hPX hn h3 fun s' y1 y2 y3 y4 y5 y6 y7 => ?_⟩
        rw [nI_1]
        have ee : erS t b n (nI f.1, nI f.2) = (nI f.1, nI f.2) := by
          unfold erS
          split
          · rw [flU_f hf, flU_f hf]
          · rw [flU_f hf]
        rw [ee] at y2
        refine ih (i + 1) _ (if n = 8 then 8 else n + 1) s' (by omega) (by split <;> omega) (hfs.tr y1) y2 y4
    -- no fault so far
    have lpG : zE t a - sk t a ≤ 8 → zWord t D fr a = (match zSnds t 601 (zE t a) [] with | .inl f => .inl f | .inr x => .inr (x.1, adW t D (sk t a) (zE t a - sk t a) x.2)) → ∀ f b ss i s, t.1 < b + f → sk t b = b → 1 ≤ ss.length → ss.length ≤ 8 → i + 1 = ss.length → Fr (scWr P (nW D)) σ s → PX s t b f00 → gI s (P + 60 + 4 * nW D) 1 = nI (zE t a - sk t a) → gI s (P + 60 + 4 * nW D) 3 = nI ss.length → (∀ j, j < zE t a - sk t a → gI s (P + 61 + 4 * nW D) j = nI (t.2 (sk t a + j) - 97)) → (∀ j, j < ss.length → gI s (P + 62 + 4 * nW D) j = ss.getD j 0) → (if zP zD t b then zSnds t f b ss else .inr (b, ss)) = zSnds t 601 (zE t a) [] → AV Γ (d + 3) mX3_parseWord w Q 80 [(0, .ref 1), (2, .ref (P + 60 + 4 * nW D)), (3, .int (nI i))] s := by
      intro h8 hz f
      induction f with
      | zero => intro b ss i s hb hs1 _ _ _ _ hPX; have := hPX.2.2.1; omega
      | succ f ih =>
        intro b ss i s hb hsk hs1 hs8 hi hfs hPX g1 g3 gL gS heq
        have hble := hPX.2.2.1
        refine vX3_parseWord_80 hw (rN hfs) (prO hw hP) ⟨fun q => absurd q (nI_ge (a := i) (b := 8) (by omega) (by decide)), fun _ => c_look hw ht hPX (c_isFigH ht ?_)⟩
        rw [b2i_n0, b2i_0]
        refine ⟨fun q => tdR' (rN hfs) ⟨prO hw hP, prO hw hP, ?_⟩, fun q => c_sound hw ht hP c hPX hs8 g3 fun s' y1 y2 y3 y4 y5 y6 y7 => ?_⟩
        · rw [q, if_neg (by decide)] at heq
          rw [← heq] at hz
          exact fin b _ s hfs hPX (Or.inr ⟨ss, hz, rfl, h8, hs8, g1, g3, gL, gS⟩)
        · rw [q, if_pos rfl] at heq
          rw [nI_1]
          have st : zSnds t (f + 1) b ss = (match zNum t 30 b with
            | .inl x => .inl x
            | .inr x => if ss.length = 8 then .inl (4, sk t b) else if zP zD t (sk t x.1) then zSnds t f (sk t x.1) (ss ++ [nI x.2]) else .inr (sk t x.1, ss ++ [nI x.2])) := rfl
          have hlt' : b ≤ t.1 := hble
          cases hn : zNum t 30 b with
          | inl g =>
            rw [hn] at st
            rw [← heq, st] at hz
            have ok := zNum_erK hn
            have ee : erS t b ss.length f00 = (nI g.1, nI g.2) := by
              unfold erS erN
              rw [hn]
              dsimp only
              rw [flU_0]
              split
              · exact flU_f ok _
              · rfl
            rw [ee] at y2
            exact lpF g hz ok (8 - (i + 1)) (i + 1) _ _ s' (by omega) (by split <;> omega) (hfs.tr y1) y2 y4
          | inr x =>
            rw [hn] at st
            dsimp only at st
            obtain ⟨b1, b2, b3, b4, b5⟩ := zNum_ok hn hlt'
            by_cases e8 : ss.length = 8
            · rw [if_pos e8] at st
              rw [← heq, st] at hz
              have ok : erOK (4, sk t b) := ⟨Nat.le_of_ble_eq_true rfl, Nat.le_of_ble_eq_true rfl⟩
              have ee : erS t b ss.length f00 = (nI 4, nI (sk t b)) := by
                unfold erS erN
                rw [hn, if_pos e8]
                rfl
              rw [ee] at y2
              exact lpF (4, sk t b) hz ok (8 - (i + 1)) (i + 1) _ _ s' (by omega) (by split <;> omega) (hfs.tr y1) y2 y4
            · rw [if_neg e8] at st
              have ee : erS t b ss.length f00 = f00 := by
                unfold erS erN
                rw [hn, if_neg e8]
                rfl
              have ev : (flU f00 (erN t 30 b)).1 = 0 := by
                unfold erN
                rw [hn]
                rfl
              have hx2 : x.2 = zV t (sk t b) (zR zD t (sk t b)) := by
                unfold zNum zNm at hn
                split at hn
                · cases hn
                · split at hn
                  · cases hn
                  · cases hn; rfl
              rw [ee, ← b5] at y2
              rw [if_neg e8] at y4
              have y7' := y7 e8
              rw [if_pos ev, ← hx2] at y7'
              have hlen : (ss ++ [nI x.2]).length = ss.length + 1 := by rw [List.length_append]; rfl
              have b6 := sk_ge t x.1
              refine ih (sk t x.1) (ss ++ [nI x.2]) (i + 1) s' (by omega) (sk_sk t x.1) (by omega) (by omega) (by omega) (hfs.tr y1) y2 (y3.trans g1) (by rw [hlen]; exact y4) (fun j hj => (y5 j).trans (gL j hj)) (fun j hj => ?_) (st.symm.trans heq)
              rw [hlen] at hj
              by_cases ej : j = ss.length
              · subst ej
                rw [y7']
                simp
              · rw [y6 j (by omega), gS j (by omega)]
                simp [List.getElem?_append_left (show j < ss.length by omega)]
    -- from the letters on
    have body : ∀ (ψ : Int32 × Int32) (s2 : St), Fr scN σ s2 → PX s2 t (sk t a) ψ → ((ψ = f00 ∧ wOf t D (sk t a) (zE t a) (nW D) = none) ∨ (ψ = (nI 5, nI (sk t a)) ∧ zWord t D fr a = .inl (5, sk t a))) → ((∀ r4, (gR s2 1 4) = some r4 → (okO w r4 4) ∧ (∃ r5, w.2 r4 2 = some r5 ∧ ((∀ r6, (gR s2 1 4) = some r6 → (okO w r6 4) ∧ (r5 < w.1) ∧ (24 ≤ (kd r5).1) ∧ ((kd r5).1 ≤ 28) ∧ (vp_in (gI s2 r6 3) (kd r5).2) ∧ (∃ r7, w.2 r5 (gI s2 r6 3).toNatClampNeg = some r7 ∧ (okO w r7 10) ∧ (∃ r8, w.2 r7 0 = some r8 ∧ SpI Γ (d + 2) mX3_parseLetters [.ref 1, .ref r8] s2 w (fun v10 s9 => (okO w r7 10) ∧ (okO w r7 10) ∧ SpV Γ (d + 2) mX3_parseSound [.ref 1, .ref r7] (uI (uI s9 r7 1 v10) r7 3 0) w (fun s11 => AV Γ (d + 3) mX3_parseWord w Q 80 [(0, .ref 1), (2, .ref r7), (3, .int 0)] s11))))) ∧ ((gR s2 1 4) = none → False)))) ∧ ((gR s2 1 4) = none → False)) := by
      intro ψ s2 hf2 hPX2 hψ
      have hR2 : gR s2 1 4 = some P := rN (hf2.mono scN_Wr)
      have n2 : gI s2 P 3 = nI (nW D) := pN (hf2.mono scN_Wr)
      refine tdR' hR2 ⟨prO hw hP, P + 2, pr2 hw hP, tdR' hR2 ⟨prO hw hP, lo_ hw (by omega), k24 (pO2 hP) (by decide), k28 (pO2 hP) (by decide), by rw [n2]; exact vk (pO2 hP) (by omega), P + 60 + 4 * nW D, by rw [n2, ← wdA_ (P := P) c]; exact wdE hw hP (by omega), o3, P + 61 + 4 * nW D, r1, ?_⟩⟩
      refine c_lets hw ht o4 z4 (by decide) (by omega) (by omega) hPX2 (fun s9 u1 u2 u3 => ⟨o3, o3, ?_⟩)
      rw [zE_sk, erL_sk] at u2
      rw [zE_sk, sk_sk] at u3 ⊢
      have hfu : Fr (fun o _ => decide (P + 60 + 4 * nW D ≤ o) && decide (o ≤ P + 62 + 4 * nW D)) s9 (uI (uI s9 (P + 60 + 4 * nW D) 1 (nI (min (zE t a - sk t a) 8))) (P + 60 + 4 * nW D) 3 0) := (fr_I (by simp)).tr (fr_I (by simp))
      have hf9 : Fr (scWr P (nW D)) σ s9 := (hf2.mono scN_Wr).tr (u1.mono (fun o j h => by
        unfold scLt at h
        unfold scWr
        simp only [Bool.or_eq_true, beq_iff_eq, Bool.and_eq_true, decide_eq_true_eq] at h ⊢
        rcases h with h | h
        · exact Or.inl h
        · exact Or.inr (by omega)))
      have hf9' := hf9.tr (hfu.mono (fun o j q => by unfold scWr; rw [q]; simp))
      refine c_sound (n := 0) hw ht hP c (u2.o (fun o k q => by simp; omega) hfu) (by decide) (by rw [gI_uI, if_pos ⟨rfl, rfl⟩]; rfl) fun s' y1 y2 y3 y4 y5 y6 y7 => ?_
      have hfs' := hf9'.tr y1
      have toF : ∀ g, zWord t D fr a = .inl g → erOK g → erS t (zE t a) 0 (flU ψ (erL t 8 a)) = (nI g.1, nI g.2) → AV Γ (d + 3) mX3_parseWord w Q 80 [(0, .ref 1), (2, .ref (P + 60 + 4 * nW D)), (3, .int 0)] s' := by
        intro g hz ok ee
        rw [ee] at y2
        exact lpF g hz ok 8 0 _ 1 s' rfl (by decide) hfs' y2 y4
      have es : ∀ φ, erS t (zE t a) 0 φ = flU φ (erN t 30 (zE t a)) := fun φ => by unfold erS; rw [if_neg (by decide)]
      rcases hψ with ⟨h0, hno⟩ | ⟨h0, hz5⟩
      · rw [h0] at y2 y7 toF
        by_cases c1 : zE t a = sk t a
        · have hz : zWord t D fr a = .inl (1, sk t a) := by rw [zs, if_pos c1]
          have ok : erOK (1, sk t a) := ⟨Nat.le_of_ble_eq_true rfl, Nat.le_of_ble_eq_true rfl⟩
          refine toF _ hz ok ?_
          rw [es]
          unfold erL
          rw [if_pos c1, flU_0, flU_f ok]
        · rw [if_neg c1, hno] at zs
          dsimp only at zs
          by_cases c8 : 8 < zE t a - sk t a
          · rw [if_pos c8] at zs
            have ok : erOK (4, sk t a + 8) := ⟨Nat.le_of_ble_eq_true rfl, Nat.le_of_ble_eq_true rfl⟩
            refine toF _ zs ok ?_
            rw [es]
            unfold erL
            rw [if_neg c1, if_pos c8, flU_0, flU_f ok]
          · rw [if_neg c8] at zs
            have eL : erL t 8 a = none := by
              unfold erL
              rw [if_neg c1, if_neg c8]
            have st : zSnds t 601 (zE t a) [] = (match zNum t 30 (zE t a) with
              | .inl x => .inl x
              | .inr x => if ([] : List Int32).length = 8 then .inl (4, sk t (zE t a)) else if zP zD t (sk t x.1) then zSnds t 600 (sk t x.1) ([] ++ [nI x.2]) else .inr (sk t x.1, [] ++ [nI x.2])) := rfl
            cases hn : zNum t 30 (zE t a) with
            | inl g =>
              rw [hn] at st
              rw [st] at zs
              have ok := zNum_erK hn
              refine toF g zs ok ?_
              rw [es, eL]
              unfold erN
              rw [hn]
              rfl
            | inr x =>
              rw [hn] at st
              dsimp only at st
              rw [if_neg (by decide)] at st
              obtain ⟨b1, b2, b3, b4, b5⟩ := zNum_ok hn e1
              have hx2 : x.2 = zV t (sk t (zE t a)) (zR zD t (sk t (zE t a))) := by
                unfold zNum zNm at hn
                split at hn
                · cases hn
                · split at hn
                  · cases hn
                  · cases hn; rfl
              have ev : flU (flU f00 (erL t 8 a)) (erN t 30 (zE t a)) = f00 := by
                rw [eL]
                unfold erN
                rw [hn]
                rfl
              rw [es, ev, ← b5] at y2
              have y7' := y7 (by decide)
              rw [ev, if_pos (show f00.1 = 0 from rfl), ← hx2] at y7'
              have b6 := sk_ge t x.1
              have hm : min (zE t a - sk t a) 8 = zE t a - sk t a := Nat.min_eq_left (by omega)
              refine lpG (by omega) zs 600 (sk t x.1) [nI x.2] 0 s' (by omega) (sk_sk t x.1) (by simp) (by simp) rfl hfs' y2 ?_ y4 (fun j hj => ?_) (fun j hj => ?_) st.symm
              · rw [y3, gI_uI, if_neg (by omega), gI_uI, if_pos ⟨rfl, rfl⟩, hm]
              · rw [y5, gI_uI, if_neg (by omega), gI_uI, if_neg (by omega)]
                exact u3 j (by omega)
              · have : j = 0 := by
                  have : j < 1 := hj
                  omega
                subst this
                exact y7'
      · have ok : erOK (5, sk t a) := ⟨Nat.le_of_ble_eq_true rfl, Nat.le_of_ble_eq_true rfl⟩
        refine toF _ hz5 ok ?_
        rw [h0, es, flU_f ok, flU_f ok]
    refine c_ahead hw ht hD hP (rN (z1.mono scN_Wr)) hC1 z2 ?_
    have hzr : zR zL t (sk t a) = zE t a := rfl
    rw [hzr]
    cases hwo : wOf t D (sk t a) (zE t a) (nW D) with
    | none =>
      exact ⟨fun _ => body f00 s1 z1 z2 (Or.inl ⟨rfl, hwo⟩), fun q => absurd rfl q⟩
    | some v =>
      have hv := wOf_lt v hwo
      refine ⟨fun q => absurd q (nI_ne_m1 (by omega)), fun _ => ?_⟩
      rw [z2.2.1]
      refine c_failC hw z2 fun s2 y1 y2 _ => body _ s2 (z1.tr y1) y2 (Or.inr ⟨rfl, ?_⟩)
      have c1 : zE t a ≠ sk t a := by
        intro e
        have hm := (wOf_some hwo).2
        unfold mtW at hm
        rw [Bool.and_eq_true, decide_eq_true_eq] at hm
        have := (hD.1.2.2.1 v hv).2.1
        omega
      rw [zs, if_neg c1, hwo]
  · refine hQ s (z1.mono scN_Dr) ⟨a, _, z2, ?_⟩
    have hz : zWord t D fr a = .inl (3, fr) := by
      unfold zWord
      rw [if_pos (by omega)]
    rw [hz]
    exact Or.inl rfl
end CWD
