/-! the reference reads its text: lists, lessons, pages -/
theorem x_bd : ∀ bd, bd < 25 → ∀ v, v < 100 → (nI v ≤ nI bd - 1 ↔ v < bd) := by decide +kernel
def kwN (j : Nat) : List Nat := if j = 0 then kAfter else if j = 1 then kSigns else kSight
def bdN (D : PV) (j : Nat) : Nat := if j = 0 then nL D else if j = 1 then nS D else nW D
/-- what is left of a lesson: n lists, and the end -/
def zSt (t : Tx) (D : PV) : Nat → (Nat → Int32) → Nat → Er ⊕ (Nat × PV)
  | 0, S, a => zSemi t (.inr (a, adL D (S 0) (S 1) (S 2)))
  | n + 1, S, a => match zOpt t (kwN (2 - n)) (bdN D (2 - n)) a with
    | .inl f => Sum.inl f
    | .inr x => zSt t D n (fun j => if j = 2 - n then x.2 else S j) x.1
theorem zSt_3 {t : Tx} {D : PV} {fr a : Nat} (h7 : nL D ≠ 7) : zSemi t (zLesson t D fr a) = zSt t D 3 (fun _ => 0) a := by
  unfold zLesson
  rw [if_neg h7]
  show _ = (match zOpt t kAfter (nL D) a with
    | .inl f => Sum.inl f
    | .inr x => match zOpt t kSigns (nS D) x.1 with
      | .inl f => Sum.inl f
      | .inr y => match zOpt t kSight (nW D) y.1 with
        | .inl f => Sum.inl f
        | .inr z => zSemi t (.inr (z.1, adL D x.2 y.2 z.2)))
  cases zOpt t kAfter (nL D) a with
  | inl f => rfl
  | inr x =>
    dsimp only
    cases zOpt t kSigns (nS D) x.1 with
    | inl f => rfl
    | inr y =>
      dsimp only
      cases zOpt t kSight (nW D) y.1 with
      | inl f => rfl
      | inr z => rfl
theorem zE_sk (t : Tx) (a : Nat) : zE t (sk t a) = zE t a := by unfold zE; rw [sk_sk]
theorem zSt_sk {t : Tx} {D : PV} {n a : Nat} {S : Nat → Int32} : zSt t D n S (sk t a) = zSt t D n S a := by
  cases n with
  | zero =>
    show zSemi t (.inr (sk t a, _)) = zSemi t (.inr (a, _))
    unfold zSemi
    dsimp only
    rw [sk_sk]
  | succ n =>
    unfold zSt zOpt
    rw [sk_sk, zE_sk]
theorem zSt_skip {t : Tx} {D : PV} {n a : Nat} {S : Nat → Int32} (hk : zK t (sk t a) (zE t a) (kwN (2 - n)) = false) (hS : S (2 - n) = 0) : zSt t D (n + 1) S a = zSt t D n S a := by
  have e : zOpt t (kwN (2 - n)) (bdN D (2 - n)) a = .inr (sk t a, 0) := by
    unfold zOpt
    rw [hk]
    rfl
  have e2 : (fun j => if j = 2 - n then (0 : Int32) else S j) = S := by
    funext j
    by_cases q : j = 2 - n
    · rw [if_pos q, q, hS]
    · rw [if_neg q]
  show (match zOpt t (kwN (2 - n)) (bdN D (2 - n)) a with
    | .inl f => Sum.inl f
    | .inr x => zSt t D n (fun j => if j = 2 - n then x.2 else S j) x.1) = _
  rw [e]
  dsimp only
  rw [e2, zSt_sk]
theorem zSt_to {t : Tx} {D : PV} {a : Nat} {S : Nat → Int32} : ∀ n m, m ≤ n → (∀ i, m ≤ i → i < n → zK t (sk t a) (zE t a) (kwN (2 - i)) = false ∧ S (2 - i) = 0) → zSt t D n S a = zSt t D m S a := by
  intro n
  induction n with
  | zero =>
    intro m hm _
    rw [Nat.le_zero.mp hm]
  | succ n ih =>
    intro m hm h
    by_cases e : m = n + 1
    · rw [e]
    · obtain ⟨h1, h2⟩ := h n (by omega) (by omega)
      rw [zSt_skip h1 h2]
      exact ih m (by omega) (fun i h3 h4 => h i h3 (by omega))
theorem zSt_take {t : Tx} {D : PV} {n a : Nat} {S : Nat → Int32} (hk : zK t (sk t a) (zE t a) (kwN (2 - n)) = true) : zSt t D (n + 1) S a = (match zList t (bdN D (2 - n)) 601 (zE t a) 0 with
    | .inl f => Sum.inl f
    | .inr x => zSt t D n (fun j => if j = 2 - n then x.2 else S j) x.1) := by
  have e : zOpt t (kwN (2 - n)) (bdN D (2 - n)) a = zList t (bdN D (2 - n)) 601 (zE t a) 0 := by
    unfold zOpt
    rw [hk]
    rfl
  show (match zOpt t (kwN (2 - n)) (bdN D (2 - n)) a with
    | .inl f => Sum.inl f
    | .inr x => zSt t D n (fun j => if j = 2 - n then x.2 else S j) x.1) = _
  rw [e]
theorem AgR.lesson {D : PV} {σ σ' : St} {x y z : Int32} (hD : DOK D) (h : AgR σ D) (hF : Fr (scE D 34) σ σ') (h34 : gI σ' 390 34 = nI (nL D + 1)) (h0 : gI σ' 412 (3 * nL D) = x) (h1 : gI σ' 412 (3 * nL D + 1) = y) (h2 : gI σ' 412 (3 * nL D + 2) = z) : AgR σ' (adL D x y z) := by
  obtain ⟨⟨n1, n2, n3, n4⟩, h5⟩ := h
  obtain ⟨b1, b2, b3, b4⟩ := h5.fr hD hF
  have e := adL_n (D := D) (x := x) (y := y) (z := z) hD.nL
  refine ⟨⟨(hF.1 _ _ (scE_n (by omega) (by decide))).trans n1, (hF.1 _ _ (scE_n (by omega) (by decide))).trans n2, by rw [e]; exact h34, (hF.1 _ _ (scE_n (by omega) (by decide))).trans n4⟩, b1, b2, fun k hk j hj => ?_, b4⟩
  rw [e] at hk
  by_cases q : k = nL D
  · subst q
    have e9 : adL D x y z 9 (nL D) j = if j = 0 then x else if j = 1 then y else if j = 2 then z else 0 := if_pos rfl
    rw [e9]
    rcases j with _ | _ | _ | j
    · exact h0
    · exact h1
    · exact h2
    · omega
  · have e9 : adL D x y z 9 k j = D 9 k j := if_neg q
    rw [e9]
    exact b3 k (by omega) j hj
theorem AgR.page {D : PV} {σ σ' : St} {l : List Nat} (hD : DOK D) (h : AgR σ D) (hF : Fr (scE D 36) σ σ') (hl : l.length ≤ 16) (h36 : gI σ' 390 36 = nI (nP D + 1)) (h1 : gI σ' 413 (nP D) = nI l.length) (h2 : ∀ j, j < l.length → gI σ' 414 (16 * nP D + j) = nI (l.getD j 0)) : AgR σ' (adP D l) := by
  obtain ⟨⟨n1, n2, n3, n4⟩, h5⟩ := h
  obtain ⟨b1, b2, b3, b4⟩ := h5.fr hD hF
  have e := adP_n (D := D) (l := l) hD.nP
  refine ⟨⟨(hF.1 _ _ (scE_n (by omega) (by decide))).trans n1, (hF.1 _ _ (scE_n (by omega) (by decide))).trans n2, (hF.1 _ _ (scE_n (by omega) (by decide))).trans n3, by rw [e]; exact h36⟩, b1, b2, b3, fun k hk => ?_⟩
  rw [e] at hk
  by_cases q : k = nP D
  · subst q
    have e10 : adP D l 10 (nP D) 0 = nI l.length := if_pos rfl
    have e10' : pS (adP D l) (nP D) = l.length := by
      show (adP D l 10 (nP D) 0).toNatClampNeg = _
      rw [e10, cl (by omega)]
    have e11 : ∀ j, adP D l 11 (nP D) j = nI (l.getD j 0) := fun j => if_pos rfl
    rw [e10', e10]
    exact ⟨h1, fun j hj => by rw [e11]; exact h2 j hj⟩
  · have e10 : adP D l 10 k 0 = D 10 k 0 := if_neg q
    have e10' : pS (adP D l) k = pS D k := congrArg Int32.toNatClampNeg e10
    have e11 : ∀ j, adP D l 11 k j = D 11 k j := fun j => if_neg q
    rw [e10', e10]
    obtain ⟨c1, c2⟩ := b4 k (by omega)
    exact ⟨c1, fun j hj => by rw [e11]; exact c2 j hj⟩
theorem kwN_ne : ∀ i, i < 3 → ∀ j, j < 3 → i ≠ j → kwN i ≠ kwN j := by decide +kernel
theorem dn_lt : ∀ n, n < 4 → ((dn n < 0 ↔ n = 0) ∧ (dn n < 1 ↔ n ≤ 1) ∧ (dn n < 2 ↔ n ≤ 2) ∧ ¬ dn n < -1) := by decide +kernel
theorem ind_m1 : ∀ n, n < 3 → nI n = dn (n + 1) := by decide +kernel
def scPL (o k : Nat) : Bool := scP o k || (o == 390 && k == 39)
theorem scP_PL : ∀ o k, scP o k = true → scPL o k = true := fun o k h => by unfold scPL; rw [h]; simp
theorem scPL_D {D : PV} : ∀ o k, scPL o k = true → scD D o k = true := by
  intro o k h
  unfold scPL at h
  unfold scD
  rw [Bool.or_eq_true] at h
  rcases h with h | h <;> simp [h]
theorem scPL_T : ∀ o k, (o = 403 ∨ (o = 390 ∧ k = 17)) → scPL o k = false := by
  intro o k h
  rcases h with rfl | ⟨rfl, rfl⟩ <;> simp [scPL, scP]
theorem scPL_Q : ∀ o k, scPL o k = true → scQ o k = true := by
  intro o k h
  unfold scPL at h
  simp only [Bool.or_eq_true, Bool.and_eq_true, beq_iff_eq] at h
  rcases h with h | h
  · exact scP_Q o k h
  · rw [h.1, h.2]; decide
section PLS
variable {Γ : Gx} {d : Nat} {w : Wd} {t : Tx}
theorem lp_list {Q : Int32 → St → Prop} {bd a0 : Nat} {σ0 : St} (hw : RunW w) (ht : TxOK t) (hb : bd ≤ 24)
    (q1 : ∀ f σ', zList t bd 601 a0 0 = .inl f → (1 ≤ f.1 ∧ f.1 ≤ 6) → Fr scQ σ0 σ' → gI σ' 390 18 = nI f.2 → Q (nI f.1) σ')
    (q2 : ∀ x σ', zList t bd 601 a0 0 = .inr x → Fr scPL σ0 σ' → gI σ' 390 19 = nI x.1 → gI σ' 390 39 = x.2 → Q 0 σ') :
    ∀ f a set s, t.1 < a + f → a ≤ t.1 → Fr scPL σ0 s → TM s t → gI s 390 19 = nI a → gI s 390 39 = set → zList t bd f a set = zList t bd 601 a0 0 → AI Γ (d + 2) mX12_takeList w Q 7 [(0, .ref 390), (1, .int (nI bd - 1)), (2, .int 1)] s := by
  have h6 := ht.1
  intro f
  induction f with
  | zero => intro a set s h1 h2; omega
  | succ f ih =>
    intro a set s h1 ha hF hT h19 h39 heq
    refine vX12_takeList_7 hw ⟨fun c => absurd c (by decide), fun _ => c_takeNumber (bd := bd) hw ht ha (x_bd bd (by omega)) hT h19 (fun g s1 z1 z2 z3 => ?_) (fun x s1 z1 z2 z3 z4 z5 => ?_)⟩
    · have hk1 := (zNum_er z1).1
      have e1 : zList t bd (f + 1) a set = .inl g := by
        unfold zList
        rw [z1]
      refine ⟨fun c2 => absurd c2 ?_, fun _ => q1 g s1 (heq.symm.trans e1) (by omega) ((hF.mono scPL_Q).tr z2) z3⟩
      rcases hk1 with q | q <;> rw [q] <;> decide
    · obtain ⟨b1, b2, b3, b4, -⟩ := zNum_ok z1 ha
      have b5 := sk_ge t x.1
      have b6 := sk_le b4
      have e1 : zList t bd (f + 1) a set = if bt set x.2 then .inl (6, sk t a) else if zC t (sk t x.1) 44 then zList t bd f (sk t x.1 + 1) (set ||| (1 <<< (nI x.2 &&& 31))) else .inr (sk t x.1, set ||| (1 <<< (nI x.2 &&& 31))) := by
        show (match zNum t bd a with | .inl x => _ | .inr x => _) = _
        rw [z1]
      have g39 : gI s1 390 39 = set := (z2.1 _ _ (by decide)).trans h39
      refine ⟨fun _ => ?_, fun c => absurd (by decide) c⟩
      rw [z4]
      refine c_has (by omega) ?_
      rw [b2i_n0, b2i_0, g39, z4]
      refine ⟨fun c => ?_, fun c => c_fails hw ?_⟩
      · rw [if_neg (by rw [c]; decide)] at e1
        have hFb : Fr scPL s1 (uI s1 390 39 (set ||| (1 <<< (nI x.2 &&& 31)))) := fr_I (by decide)
        have hTb : TM (uI s1 390 39 (set ||| (1 <<< (nI x.2 &&& 31)))) t := (hT.p z2).fr scPL_T hFb
        refine c_here hw ht b4 hTb (by rw [gI_uI, if_neg (by decide)]; exact z3) fun s2 y1 y2 => ?_
        have h44 : hd t (sk t x.1) = 44 ↔ zC t (sk t x.1) 44 = true := hd_eq (c := 44) ht (by decide)
        have hF2 : Fr scPL σ0 s2 := hF.tr ((z2.mono scP_PL).tr (hFb.tr (y1.mono (fun o k q => scP_PL o k (scA_P o k q)))))
        have hT2 : TM s2 t := hTb.p (y1.mono scA_P)
        have g39' : gI s2 390 39 = set ||| (1 <<< (nI x.2 &&& 31)) := by rw [y1.1 _ _ (by decide), gI_uI, if_pos ⟨rfl, rfl⟩]
        rw [h44, y2]
        refine ⟨fun c2 => ?_, fun c2 => ?_⟩
        · rw [if_neg c2] at e1
          refine vX12_takeList_7 hw ⟨fun _ => ?_, fun c3 => absurd rfl c3⟩
          have e0 : nI (sk t x.1) + 0 = nI (sk t x.1) := nI_add _ 0
          refine q2 _ _ (heq.symm.trans e1) (hF2.tr (fr_I (by decide))) (by rw [gI_uI, if_pos ⟨rfl, rfl⟩, e0]) (by rw [gI_uI, if_neg (by decide)]; exact g39')
        · rw [if_pos c2] at e1
          rw [nI_1]
          exact ih (sk t x.1 + 1) _ _ (by omega) (zC_pos c2).1 (hF2.tr (fr_I (by decide))) (hT2.p (fr_I (by decide))) (by rw [gI_uI, if_pos ⟨rfl, rfl⟩]) (by rw [gI_uI, if_neg (by decide)]; exact g39') (e1.symm.trans heq)
      · rw [if_pos c] at e1
        refine q1 (6, sk t a) _ (heq.symm.trans e1) ⟨Nat.le_of_ble_eq_true rfl, Nat.le_of_ble_eq_true rfl⟩ (((hF.tr (z2.mono scP_PL)).mono scPL_Q).tr (fr_I (by decide))) (by rw [gI_uI, if_pos ⟨rfl, rfl⟩]; exact z5)
theorem c_takeList {Q : Int32 → St → Prop} {bd a : Nat} {σ : St} (hw : RunW w) (ht : TxOK t) (hb : bd ≤ 24) (ha : a ≤ t.1) (hT : TM σ t) (hA : gI σ 390 19 = nI a)
    (q1 : ∀ f σ', zList t bd 601 a 0 = .inl f → (1 ≤ f.1 ∧ f.1 ≤ 6) → Fr scQ σ σ' → gI σ' 390 18 = nI f.2 → Q (nI f.1) σ')
    (q2 : ∀ x σ', zList t bd 601 a 0 = .inr x → Fr scPL σ σ' → gI σ' 390 19 = nI x.1 → gI σ' 390 39 = x.2 → Q 0 σ') : SpI Γ (d + 2) mX12_takeList [.ref 390, .int (nI bd - 1)] σ w Q := by
  have h6 := ht.1
  have hFb : Fr scPL σ (uI σ 390 39 0) := fr_I (by decide)
  exact SpI.of pnX12 (Nat.le_of_ble_eq_true rfl) (vX12_takeList_0 hw (lp_list hw ht hb q1 q2 601 a 0 _ (by omega) ha hFb (hT.fr scPL_T hFb) (by rw [gI_uI, if_neg (by decide)]; exact hA) (by rw [gI_uI, if_pos ⟨rfl, rfl⟩]) rfl))
end PLS
