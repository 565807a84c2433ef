/-! the class reads its text: pages -/
def scPw (P p o j : Nat) : Bool := scN o j || o == P + 7 + p || ((o == P + 15 || o == P + 16) && j == p)
def scPn (P p o j : Nat) : Bool := scPw P p o j || (o == P && j == 11)
theorem scN_Pw {P v : Nat} : ∀ o j, scN o j = true → scPw P v o j = true := fun o j h => by unfold scPw; rw [h]; rfl
theorem scPw_Pn {P v : Nat} : ∀ o j, scPw P v o j = true → scPn P v o j = true := fun o j h => by unfold scPn; rw [h]; rfl
theorem scPn_Dr {P v : Nat} (hv : v < 8) : ∀ o j, scPn P v o j = true → scDr P o j = true := by
  intro o j h
  unfold scPn scPw scN at h
  unfold scDr
  simp only [Bool.or_eq_true, Bool.and_eq_true, beq_iff_eq, decide_eq_true_eq, Bool.not_eq_true', beq_eq_false_iff_ne] at h ⊢
  omega
theorem PrC.page {σ σ' : St} {P : Nat} {D D' : PV} (hP : isP P) (hD : DOK D) (h : PrC σ P D) (hf : Fr (scPn P (nP D)) σ σ') (h8 : nP D < 8)
    (hX : (D' = D ∧ gI σ' P 11 = gI σ P 11) ∨ ∃ l : List Nat, l.length ≤ 16 ∧ D' = adP D l ∧ gI σ' P 11 = nI (nP D + 1) ∧ gI σ' (P + 15) (nP D) = nI l.length ∧ (∀ j, j < l.length → gI σ' (P + 7 + nP D) j = nI (l.getD j 0)) ∧ gI σ' (P + 16) (nP D) = pgSet l) : PrC σ' P D' := by
  have hge := P_ge hP
  have d1 := hD.nS
  have d2 := hD.nW
  have d3 := hD.nL
  obtain ⟨⟨a1, a2, a3, a4⟩, hsg, hw, hl, hp⟩ := h
  have z' : ∀ o j, ¬ (o = 1) → ¬ (o = P ∧ j = 11) → o ≠ P + 7 + nP D → (o < P + 15 ∨ P + 16 < o ∨ j ≠ nP D) → gI σ' o j = gI σ o j := fun o j q1 q2 q3 q4 => hf.1 o j (by
    unfold scPn scPw scN
    simp only [Bool.or_eq_false_iff, Bool.and_eq_false_iff, beq_eq_false_iff_ne]
    omega)
  have b1 : gI σ' P 1 = gI σ P 1 := z' _ _ (by omega) (by omega) (by omega) (by omega)
  have b2 : gI σ' P 3 = gI σ P 3 := z' _ _ (by omega) (by omega) (by omega) (by omega)
  have b3 : gI σ' P 7 = gI σ P 7 := z' _ _ (by omega) (by omega) (by omega) (by omega)
  have cS : ∀ k, k < nS D → (gI σ' (P + 20 + 2 * k) 1 = D 1 k 0 ∧ gI σ' (P + 20 + 2 * k) 2 = D 3 k 0 ∧ gI σ' (P + 20 + 2 * k) 3 = D 4 k 0 ∧ ∀ j, j < sS D k → gI σ' (P + 21 + 2 * k) j = D 2 k j) := by
    intro k hk
    obtain ⟨c1, c2, c3, c4⟩ := hsg k hk
    exact ⟨(z' _ _ (by omega) (by omega) (by omega) (by omega)).trans c1, (z' _ _ (by omega) (by omega) (by omega) (by omega)).trans c2, (z' _ _ (by omega) (by omega) (by omega) (by omega)).trans c3, fun j hj => (z' _ _ (by omega) (by omega) (by omega) (by omega)).trans (c4 j hj)⟩
  have cW : ∀ v, v < nW D → (gI σ' (P + 60 + 4 * v) 1 = D 5 v 0 ∧ gI σ' (P + 60 + 4 * v) 3 = D 7 v 0 ∧ (∀ j, j < wS D v → gI σ' (P + 61 + 4 * v) j = D 6 v j) ∧ ∀ j, j < wN D v → gI σ' (P + 62 + 4 * v) j = D 8 v j) := by
    intro v hv
    obtain ⟨c1, c2, c3, c4⟩ := hw v hv
    exact ⟨(z' _ _ (by omega) (by omega) (by omega) (by omega)).trans c1, (z' _ _ (by omega) (by omega) (by omega) (by omega)).trans c2, fun j hj => (z' _ _ (by omega) (by omega) (by omega) (by omega)).trans (c3 j hj), fun j hj => (z' _ _ (by omega) (by omega) (by omega) (by omega)).trans (c4 j hj)⟩
  have cL : ∀ l, l < nL D → ∀ j, j < 3 → gI σ' (P + 3 + j) l = D 9 l j := fun l hl' j hj => (z' _ _ (by omega) (by omega) (by omega) (by omega)).trans (hl l hl' j hj)
  have cP : ∀ p, p < nP D → (gI σ' (P + 15) p = D 10 p 0 ∧ (∀ j, j < pS D p → gI σ' (P + 7 + p) j = D 11 p j) ∧ gI σ' (P + 16) p = D 12 p 0) := by
    intro p hp'
    obtain ⟨c1, c2, c3⟩ := hp p hp'
    exact ⟨(z' _ _ (by omega) (by omega) (by omega) (by omega)).trans c1, fun j hj => (z' _ _ (by omega) (by omega) (by omega) (by omega)).trans (c2 j hj), (z' _ _ (by omega) (by omega) (by omega) (by omega)).trans c3⟩
  rcases hX with ⟨rfl, g⟩ | ⟨l, hl16, rfl, g1, g2, g3, g4⟩
  · exact ⟨⟨b1.trans a1, b2.trans a2, b3.trans a3, g.trans a4⟩, cS, cW, cL, cP⟩
  · have e := adP_n (D := D) (l := l) (Nat.le_of_lt h8)
    refine ⟨⟨b1.trans a1, b2.trans a2, b3.trans a3, g1⟩, cS, cW, cL, fun p hp' => ?_⟩
    rw [e] at hp'
    by_cases q : p = nP D
    · subst q
      have e10 : adP D l 10 (nP D) 0 = nI l.length := if_pos rfl
      have e10' : pS (adP D l) (nP D) = l.length := by
        show (adP D l 10 (nP D) 0).toNatClampNeg = _
        rw [e10, cl (by omega)]
      have e11 : ∀ j, adP D l 11 (nP D) j = nI (l.getD j 0) := fun j => if_pos rfl
      have e12 : adP D l 12 (nP D) 0 = pgSet l := if_pos rfl
      rw [e10', e10, e12]
      exact ⟨g2, fun j hj => by rw [e11]; exact g3 j hj, g4⟩
    · have e10 : adP D l 10 p 0 = D 10 p 0 := if_neg q
      have e10' : pS (adP D l) p = pS D p := congrArg Int32.toNatClampNeg e10
      have e11 : ∀ j, adP D l 11 p j = D 11 p j := fun j => if_neg q
      have e12 : adP D l 12 p 0 = D 12 p 0 := if_neg q
      rw [e10', e10, e12]
      obtain ⟨c1, c2, c3⟩ := cP p (by omega)
      exact ⟨c1, fun j hj => by rw [e11]; exact c2 j hj, c3⟩
theorem pgSet_s (v : Nat) : ∀ l, pgSet (l ++ [v]) = pgSet l ||| (1 <<< (nI v &&& 31))
  | [] => by
    show ((1 : Int32) <<< (nI v &&& 31)) ||| (0 : Int32) = 0 ||| ((1 : Int32) <<< (nI v &&& 31))
    exact Int32.or_comm _ _
  | u :: l => by
    show (1 <<< (nI u &&& 31)) ||| pgSet (l ++ [v]) = ((1 <<< (nI u &&& 31)) ||| pgSet l) ||| (1 <<< (nI v &&& 31))
    rw [pgSet_s v l, Int32.or_assoc]
section CPG
variable {Γ : Gx} {d : Nat} {w : Wd} {t : Tx} {P : Nat}
/-- one word of a page -/
theorem c_pw {Q : St → Prop} {σ : St} {a n : Nat} {φ : Int32 × Int32} {D : PV} (hw : RunW w) (ht : TxOK t) (hD : DOK D) (hP : isP P) (h8 : nP D < 8) (hR : gR σ 1 4 = some P) (hC : PrC σ P D) (hX : PX σ t a φ) (hn : n ≤ 16) (h15 : gI σ (P + 15) (nP D) = nI n)
    (hbad : ∀ σ' f, Fr (scPw P (nP D)) σ σ' → PX σ' t (sk t a) (flU φ (some f)) → gI σ' (P + 15) (nP D) = nI n → erOK f → ((zE t a = sk t a ∧ f = (1, sk t a)) ∨ (zE t a ≠ sk t a ∧ n = 16 ∧ f = (4, sk t a)) ∨ (zE t a ≠ sk t a ∧ n ≠ 16 ∧ wOf t D (sk t a) (zE t a) (nW D) = none ∧ f = (5, sk t a))) → Q σ')
    (hok : ∀ σ' v, zE t a ≠ sk t a → n ≠ 16 → wOf t D (sk t a) (zE t a) (nW D) = some v → Fr (scPw P (nP D)) σ σ' → PX σ' t (sk t (zE t a)) φ → gI σ' (P + 15) (nP D) = nI (n + 1) → (∀ j, j < n → gI σ' (P + 7 + nP D) j = gI σ (P + 7 + nP D) j) → gI σ' (P + 7 + nP D) n = nI v → gI σ' (P + 16) (nP D) = gI σ (P + 16) (nP D) ||| (1 <<< (nI v &&& 31)) → Q σ') : SpV Γ (d + 3) mX3_parsePageWord [.ref 1, .int (nI (nP D))] σ w Q := by
  have h6 := ht.1
  have hlt := P_lt hP
  have hge := P_ge hP
  have cN : ∀ {s s' : St} {o j : Nat}, Fr scN s s' → o ≠ 1 → gI s' o j = gI s o j := fun h q => h.1 _ _ (by unfold scN; simp [q])
  have o15 : okO w (P + 15) 20 := okL hw (by omega) (by rw [pO15 hP])
  have o16 : okO w (P + 16) 20 := okL hw (by omega) (by rw [pO16 hP])
  obtain ⟨r1, o7, k7⟩ := pgF' hw hP h8
  refine SpV.of pnX3 (Nat.le_of_ble_eq_true rfl) (vX3_parsePageWord_0 hw (c_skip hw ht hX fun s1 z1 z2 _ => ?_))
  have hR1 : gR s1 1 4 = some P := (z1.2.2 1 4 (by unfold scN; simp)).trans hR
  have hC1 : PrC s1 P D := hC.page hP hD (z1.mono (fun o j q => scPw_Pn o j (scN_Pw o j q))) h8 (Or.inl ⟨rfl, cN z1 (by omega)⟩)
  have g15 : gI s1 (P + 15) (nP D) = nI n := (cN z1 (by omega)).trans h15
  refine tdR' hR1 ⟨prO hw hP, P + 15, pr9 hw hP, o15, vk (pO15 hP) h8, c_ahead hw ht hD hP hR1 hC1 z2 (c_look hw ht z2 (c_isLetH ht ?_))⟩
  rw [cl (show nP D < 2 ^ 31 by omega), g15, z2.2.1, cl (show n < 2 ^ 31 by omega), b2i_n0, b2i_0]
  have hzr : zR zL t (sk t a) = zE t a := rfl
  rw [hzr]
  have l16 : nI n < 16 ↔ n < 16 := nI_ltI (b := 16) (by omega) (by decide)
  rw [l16]
  have em : zP zL t (sk t a) = false ↔ zE t a = sk t a := zP_run
  refine ⟨fun c => ?_, fun c => ?_⟩
  · have c' : zE t a ≠ sk t a := fun q => by rw [em.mpr q] at c; cases c
    refine ⟨fun c2 => ⟨fun c3 => ?_, fun c3 => ?_⟩, fun c2 => ?_⟩
    · cases hwo : wOf t D (sk t a) (zE t a) (nW D) with
      | none => rw [hwo] at c3; exact absurd rfl c3
      | some v =>
        rw [hwo] at c3
        have hv := wOf_lt v hwo
        have h24 := hD.nW
        refine tdR' hR1 ⟨prO hw hP, P + 6, pr8 hw hP, lo_ hw (by omega), k24 (pO6 hP) (by decide), k28 (pO6 hP) (by decide), vk (pO6 hP) h8, P + 7 + nP D, by rw [cl (show nP D < 2 ^ 31 by omega)] at r1; exact r1, o7, vk2 k7 c2, tdR' hR1 ⟨prO hw hP, P + 15, pr9 hw hP, o15, vk (pO15 hP) h8, tdR' hR1 ⟨prO hw hP, P + 16, pr10 hw hP, o16, vk (pO16 hP) h8, o16, vk (pO16 hP) h8, ?_⟩⟩⟩
        have bv : bI (some v) = nI v := rfl
        rw [bv, nI_1]
        generalize hsu : (uI (uI (uI s1 (P + 7 + nP D) n (nI v)) (P + 15) (nP D) (nI (n + 1))) (P + 16) (nP D) _) = su
        have hfu : Fr (fun o j => o == P + 7 + nP D || ((o == P + 15 || o == P + 16) && j == nP D)) s1 su := by
          rw [← hsu]
          exact ((fr_I (by simp)).tr (fr_I (by simp))).tr (fr_I (by simp))
        have hPu : PX su t (sk t a) φ := z2.o (fun o k q => by simp; omega) hfu
        refine c_letEnd hw ht hPu ?_
        rw [hzr]
        refine c_skip hw ht (hPu.at (zE_le hX.2.2.1)) fun s2 y1 y2 _ => ?_
        have hf2 : Fr (scPw P (nP D)) σ s2 := (z1.mono scN_Pw).tr ((hfu.mono (fun o j q => by unfold scPw; rw [Bool.or_assoc, q]; simp)).tr (((fr_I (S := scN) (by decide)).tr y1).mono scN_Pw))
        have gu : ∀ o j, o ≠ 1 → gI s2 o j = gI su o j := fun o j q => (cN y1 q).trans (by rw [gI_uI, if_neg (by omega)])
        refine hok s2 v c' (by omega) hwo hf2 y2 ?_ (fun j hj => ?_) ?_ ?_
        · rw [gu _ _ (by omega), ← hsu, gI_uI, if_neg (by omega), gI_uI, if_pos ⟨rfl, rfl⟩]
        · rw [gu _ _ (by omega), ← hsu, gI_uI, if_neg (by omega), gI_uI, if_neg (by omega), gI_uI, if_neg (by omega)]
          exact cN z1 (by omega)
        · rw [gu _ _ (by omega), ← hsu, gI_uI, if_neg (by omega), gI_uI, if_neg (by omega), gI_uI, if_pos ⟨rfl, rfl⟩]
        · rw [gu _ _ (by omega), ← hsu, gI_uI, if_pos ⟨rfl, rfl⟩, gI_uI, if_neg (by omega), gI_uI, if_neg (by omega), cN z1 (by omega)]
    · refine c_failC (n := 5) hw z2 fun s' y1 y2 _ => hbad s' (5, sk t a) ((z1.tr y1).mono scN_Pw) y2 ((cN y1 (by omega)).trans g15) ⟨Nat.le_of_ble_eq_true rfl, Nat.le_of_ble_eq_true rfl⟩ (Or.inr (Or.inr ⟨c', by omega, ?_, rfl⟩))
      cases hwo : wOf t D (sk t a) (zE t a) (nW D) with
      | none => rfl
      | some v =>
        rw [hwo] at c3
        have hv := wOf_lt v hwo
        have h24 := hD.nW
        exact absurd c3 (nI_ne_m1 (by omega))
    · exact c_failC (n := 4) hw z2 fun s' y1 y2 _ => hbad s' (4, sk t a) ((z1.tr y1).mono scN_Pw) y2 ((cN y1 (by omega)).trans g15) ⟨Nat.le_of_ble_eq_true rfl, Nat.le_of_ble_eq_true rfl⟩ (Or.inr (Or.inl ⟨c', by omega, rfl⟩))
  · exact c_failC (n := 1) hw z2 fun s' y1 y2 _ => hbad s' (1, sk t a) ((z1.tr y1).mono scN_Pw) y2 ((cN y1 (by omega)).trans g15) ⟨Nat.le_of_ble_eq_true rfl, Nat.le_of_ble_eq_true rfl⟩ (Or.inl ⟨em.mp c, rfl⟩)
theorem c_pPage {Q : St → Prop} {σ : St} {a fr : Nat} {D : PV} (hw : RunW w) (ht : TxOK t) (hD : DOK D) (hP : isP P) (hR : gR σ 1 4 = some P) (hC : PrC σ P D) (hX : PX σ t a f00) (hQ : ∀ σ', Fr (scDr P) σ σ' → BdC σ' t P (zPage t D fr a) → Q σ') : SpV Γ (d + 6) mX3_parsePage [.ref 1, .int (nI fr)] σ w Q := by
  have h6 := ht.1
  have hlt := P_lt hP
  have hge := P_ge hP
  have d4 := hD.nP
  have ha := hX.2.2.1
  obtain ⟨-, -, -, n4⟩ := wP hC hD.1
  have o15 : okO w (P + 15) 20 := okL hw (by omega) (by rw [pO15 hP])
  have o16 : okO w (P + 16) 20 := okL hw (by omega) (by rw [pO16 hP])
  refine SpV.of pnX3 (Nat.le_of_ble_eq_true rfl) (vX3_parsePage_0 hw hR (prO hw hP) (pr9 hw hP) (pr10 hw hP) o16 o15 ?_)
  have l8 : nI (nP D) < 8 ↔ nP D < 8 := nI_ltI (b := 8) (by omega) (by decide)
  rw [n4, l8]
  refine ⟨fun c => ⟨vk (pO15 hP) c, vk (pO16 hP) c, ?_⟩, fun c => c_failC (n := 3) hw hX fun s z1 z2 _ => ?_⟩
  · rw [cl (show nP D < 2 ^ 31 by omega)]
    have rN : ∀ {s : St}, Fr (scPw P (nP D)) σ s → gR s 1 4 = some P := fun h => (h.2.2 1 4 (by unfold scPw scN; simp <;> omega)).trans hR
    have pN : ∀ {s : St}, Fr (scPw P (nP D)) σ s → gI s P 11 = gI σ P 11 := fun h => h.1 P 11 (by unfold scPw scN; simp; omega)
    have cC : ∀ {s : St}, Fr (scPw P (nP D)) σ s → PrC s P D := fun h => hC.page hP hD (h.mono scPw_Pn) c (Or.inl ⟨rfl, pN h⟩)
    have zs : zPage t D fr a = (match zPg t D 601 a [] with
        | .inl f => .inl f
        | .inr x => .inr (x.1, adP D x.2)) := by
      unfold zPage
      rw [if_neg (by omega)]
      rfl
    -- the end
    have fin : ∀ (b : Nat) (ψ : Int32 × Int32) (s : St), Fr (scPw P (nP D)) σ s → PX s t b ψ → ((∃ f, zPage t D fr a = .inl f ∧ ψ = (nI f.1, nI f.2)) ∨ ∃ l : List Nat, zPg t D 601 a [] = .inr (b, l) ∧ ψ = f00 ∧ l.length ≤ 16 ∧ gI s (P + 15) (nP D) = nI l.length ∧ (∀ j, j < l.length → gI s (P + 7 + nP D) j = nI (l.getD j 0)) ∧ gI s (P + 16) (nP D) = pgSet l) → Q (uI s P 11 ((gI s P 11) + 1)) := by
      intro b ψ s hf hPX h
      have hF2 : Fr (scPn P (nP D)) σ (uI s P 11 ((gI s P 11) + 1)) := (hf.mono scPw_Pn).tr (fr_I (by simp [scPn]))
      refine hQ _ (hF2.mono (scPn_Dr c)) ⟨b, ψ, hPX.o (S := fun o j => o == P && j == 11) (fun o k q => by simp; omega) (fr_I (by simp)), ?_⟩
      rcases h with ⟨f, h1, h2⟩ | ⟨l, h1, h2, h3, h4, h5, h7⟩
      · rw [h1]; exact Or.inl h2
      · rw [zs, h1]
        refine ⟨h2, rfl, hC.page hP hD hF2 c (Or.inr ⟨l, h3, rfl, by rw [gI_uI, if_pos ⟨rfl, rfl⟩, pN hf, n4, nI_1], ?_, fun j hj => ?_, ?_⟩)⟩
        · rw [gI_uI, if_neg (by omega)]; exact h4
        · rw [gI_uI, if_neg (by omega)]; exact h5 j hj
        · rw [gI_uI, if_neg (by omega)]; exact h7
    -- once there is a fault
    have lpF : ∀ f, zPage t D fr a = .inl f → erOK f → ∀ r i b n s, i + r = 16 → n ≤ 16 → Fr (scPw P (nP D)) σ s → PX s t b (nI f.1, nI f.2) → gI s (P + 15) (nP D) = nI n → AV Γ (d + 6) mX3_parsePage w Q 48 [(0, .ref 1), (2, .int (nI (nP D))), (3, .int (nI i))] s := by
      intro f hz hf r
      induction r with
      | zero =>
        intro i b n s hi hn hfs hPX h3
        have : i = 16 := hi
        subst this
        exact vX3_parsePage_48 hw (rN hfs) (prO hw hP) ⟨fun _ => fin b _ s hfs hPX (Or.inl ⟨f, hz, rfl⟩), fun q => absurd (by decide : (16 : Int32) ≤ nI 16) q⟩
      | succ r ih =>
        intro i b n s hi hn hfs hPX h3
        refine vX3_parsePage_48 hw (rN hfs) (prO hw hP) ⟨fun q => absurd q (nI_ge (a := i) (b := 16) (by omega) (by decide)), fun _ => c_look hw ht hPX (c_isLetH ht ?_)⟩
        rw [b2i_n0, b2i_0]
        refine ⟨fun _ => tdR' (rN hfs) ⟨prO hw hP, prO hw hP, fin b _ s hfs hPX (Or.inl ⟨f, hz, rfl⟩)⟩, fun _ => c_pw hw ht hD hP c (rN hfs) (cC hfs) hPX hn h3 (fun s' g y1 y2 y3 _ _ => ?_) (fun s' v _ y0 _ y1 y2 y3 _ _ _ => ?_)⟩
        · rw [nI_1]
          rw [flU_f hf] at y2
          exact ih (i + 1) _ n s' (by omega) hn (hfs.tr y1) y2 y3
        · rw [nI_1]
          exact ih (i + 1) _ (n + 1) s' (by omega) (by omega) (hfs.tr y1) y2 y3
    have badE : ∀ (f b : Nat) (l : List Nat) (g : Er), ((zE t b = sk t b ∧ g = (1, sk t b)) ∨ (zE t b ≠ sk t b ∧ l.length = 16 ∧ g = (4, sk t b)) ∨ (zE t b ≠ sk t b ∧ l.length ≠ 16 ∧ wOf t D (sk t b) (zE t b) (nW D) = none ∧ g = (5, sk t b))) → zPg t D (f + 1) b l = .inl g := by
      intro f b l g h
      unfold zPg
      rcases h with ⟨q1, q2⟩ | ⟨q1, q2, q3⟩ | ⟨q1, q2, q3, q4⟩
      · rw [if_pos q1, q2]
      · rw [if_neg q1, if_pos q2, q3]
      · rw [if_neg q1, if_neg q2, q3, q4]
    have okE : ∀ (f b : Nat) (l : List Nat) (v : Nat), zE t b ≠ sk t b → l.length ≠ 16 → wOf t D (sk t b) (zE t b) (nW D) = some v → zPg t D (f + 1) b l = if zP zL t (sk t (zE t b)) then zPg t D f (sk t (zE t b)) (l ++ [v]) else .inr (sk t (zE t b), l ++ [v]) := by
      intro f b l v q1 q2 q3
      show (if zE t b = sk t b then _ else _) = _
      rw [if_neg q1, if_neg q2, q3]
    have snoc : ∀ (l : List Nat) (v : Nat) (s s' : St), (∀ j, j < l.length → gI s (P + 7 + nP D) j = nI (l.getD j 0)) → (∀ j, j < l.length → gI s' (P + 7 + nP D) j = gI s (P + 7 + nP D) j) → gI s' (P + 7 + nP D) l.length = nI v → ∀ j, j < (l ++ [v]).length → gI s' (P + 7 + nP D) j = nI ((l ++ [v]).getD j 0) := by
      intro l v s s' h1 h2 h3 j hj
      have hlen : (l ++ [v]).length = l.length + 1 := by rw [List.length_append]; rfl
      by_cases ej : j = l.length
      · subst ej
        rw [h3]
        simp
      · rw [h2 j (by omega), h1 j (by omega)]
        simp [List.getElem?_append_left (show j < l.length by omega)]
    -- no fault so far
    have lpG : ∀ f b (l : List Nat) i s, t.1 < b + f → 1 ≤ l.length → l.length ≤ 16 → i + 1 = l.length → Fr (scPw P (nP D)) σ s → PX s t b f00 → sk t b = b → gI s (P + 15) (nP D) = nI l.length → (∀ j, j < l.length → gI s (P + 7 + nP D) j = nI (l.getD j 0)) → gI s (P + 16) (nP D) = pgSet l → (if zP zL t b then zPg t D f b l else .inr (b, l)) = zPg t D 601 a [] → AV Γ (d + 6) mX3_parsePage w Q 48 [(0, .ref 1), (2, .int (nI (nP D))), (3, .int (nI i))] s := by
      intro f
      induction f with
      | zero => intro b l i s hb _ _ _ _ hPX; have := hPX.2.2.1; omega
      | succ f ih =>
        intro b l i s hb hl1 hl16 hi hfs hPX hsk g15 gW gS heq
        have hble := hPX.2.2.1
        refine vX3_parsePage_48 hw (rN hfs) (prO hw hP) ⟨fun q => absurd q (nI_ge (a := i) (b := 16) (by omega) (by decide)), fun _ => c_look hw ht hPX (c_isLetH ht ?_)⟩
        rw [b2i_n0, b2i_0]
        refine ⟨fun q => tdR' (rN hfs) ⟨prO hw hP, prO hw hP, fin b _ s hfs hPX (Or.inr ⟨l, ?_, rfl, hl16, g15, gW, gS⟩)⟩, fun q => c_pw hw ht hD hP c (rN hfs) (cC hfs) hPX hl16 g15 (fun s' g y1 y2 y3 ok y5 => ?_) (fun s' v y0 y0' y0'' y1 y2 y3 y4 y5 y7 => ?_)⟩
        · rw [q, if_neg (by decide)] at heq
          exact heq.symm
        · rw [q, if_pos rfl, badE f b l g y5] at heq
          rw [nI_1]
          rw [flU_0] at y2
          rw [← heq] at zs
          exact lpF g zs ok (16 - (i + 1)) (i + 1) _ l.length s' (by omega) hl16 (hfs.tr y1) y2 y3
        · rw [q, if_pos rfl, okE f b l v y0 y0' y0''] at heq
          rw [nI_1]
          have hlen : (l ++ [v]).length = l.length + 1 := by rw [List.length_append]; rfl
          have b1 := sk_ge t (zE t b)
          have b2 := zE_ge t b
          have b3 := sk_ge t b
          refine ih (sk t (zE t b)) (l ++ [v]) (i + 1) s' (by omega) (by omega) (by omega) (by omega) (hfs.tr y1) y2 (sk_sk _ _) (by rw [hlen]; exact y3) (snoc l v s s' gW y4 y5) ?_ heq
          rw [y7, gS, pgSet_s]
    have hfu : Fr (fun o j => (o == P + 15 || o == P + 16) && j == nP D) σ (uI (uI σ (P + 15) (nP D) 0) (P + 16) (nP D) 0) := (fr_I (by simp)).tr (fr_I (by simp))
    have hfu' : Fr (scPw P (nP D)) σ (uI (uI σ (P + 15) (nP D) 0) (P + 16) (nP D) 0) := hfu.mono (fun o j q => by unfold scPw; rw [q]; simp)
    have hXu : PX (uI (uI σ (P + 15) (nP D) 0) (P + 16) (nP D) 0) t a f00 := hX.o (fun o k q => by simp; omega) hfu
    have g15 : gI (uI (uI σ (P + 15) (nP D) 0) (P + 16) (nP D) 0) (P + 15) (nP D) = nI 0 := by rw [gI_uI, if_neg (by omega), gI_uI, if_pos ⟨rfl, rfl⟩]; rfl
    refine c_pw hw ht hD hP c (rN hfu') (cC hfu') hXu (by decide) g15 (fun s' g y1 y2 y3 ok y5 => ?_) (fun s' v y0 y0' y0'' y1 y2 y3 y4 y5 y7 => ?_)
    · rw [flU_0] at y2
      rw [badE 600 a [] g y5] at zs
      exact lpF g zs ok 16 0 _ 0 s' rfl (by decide) (hfu'.tr y1) y2 y3
    · have hz := okE 600 a [] v y0 y0' y0''
      have b1 := sk_ge t (zE t a)
      have b2 := zE_ge t a
      have b3 := sk_ge t a
      refine lpG 600 (sk t (zE t a)) [v] 0 s' (by omega) (by simp) (by simp) rfl (hfu'.tr y1) y2 (sk_sk _ _) y3 (fun j hj => ?_) ?_ hz.symm
      · have : j = 0 := by
          have : j < 1 := hj
          omega
        subst this
        exact y5
      · rw [y7, gI_uI, if_pos ⟨rfl, rfl⟩]
        exact (pgSet_s v []).symm
  · refine hQ s (z1.mono scN_Dr) ⟨a, _, z2, ?_⟩
    have hz : zPage t D fr a = .inl (3, fr) := by
      unfold zPage
      rw [if_pos (by omega)]
    rw [hz]
    exact Or.inl rfl
end CPG
