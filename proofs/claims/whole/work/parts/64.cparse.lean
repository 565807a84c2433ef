/-! the class reads its text: bytes, numbers, letters, words -/
def PX (σ : St) (t : Tx) (a : Nat) (φ : Int32 × Int32) : Prop := TC σ t ∧ gI σ 1 2 = nI a ∧ a ≤ t.1 ∧ gI σ 1 6 = φ.1 ∧ gI σ 1 7 = φ.2
def scN (o k : Nat) : Bool := o == 1 && (k == 2 || k == 3 || k == 6 || k == 7)
/-- the first fault stays -/
def flU (φ : Int32 × Int32) (e : Option Er) : Int32 × Int32 := match e with
  | none => φ
  | some f => if φ.1 = 0 then (nI f.1, nI f.2) else φ
theorem TC.fr {S : Nat → Nat → Bool} {σ σ' : St} {t : Tx} (h : TC σ t) (hS : ∀ o k, (o = 2 ∨ (o = 1 ∧ k = 1)) → S o k = false) (hF : Fr S σ σ') : TC σ' t := ⟨(hF.1 _ _ (hS 1 1 (Or.inr ⟨rfl, rfl⟩))).trans h.1, fun i hi => (hF.1 _ _ (hS 2 i (Or.inl rfl))).trans (h.2 i hi)⟩
theorem scN_T : ∀ o k, (o = 2 ∨ (o = 1 ∧ k = 1)) → scN o k = false := by
  intro o k h
  rcases h with rfl | ⟨rfl, rfl⟩ <;> simp [scN]
def erN (t : Tx) (bd a : Nat) : Option Er := match zNum t bd a with
  | .inl f => some f
  | .inr _ => none
def erL (t : Tx) (cap a : Nat) : Option Er := if zE t a = sk t a then some (1, sk t a) else if cap < zE t a - sk t a then some (4, sk t a + cap) else none
def scLt (o1 o k : Nat) : Bool := scN o k || o == o1
section CPS
variable {Γ : Gx} {d : Nat} {w : Wd} {t : Tx}
theorem PX.at {σ : St} {a b : Nat} {φ : Int32 × Int32} (h : PX σ t a φ) (hb : b ≤ t.1) : PX (uI σ 1 2 (nI b)) t b φ := by
  obtain ⟨h1, h2, h3, h4, h5⟩ := h
  exact ⟨h1.fr (S := fun o k => o == 1 && k == 2) (fun o k q => by rcases q with rfl | ⟨rfl, rfl⟩ <;> simp) (fr_I (by simp)), by rw [gI_uI, if_pos ⟨rfl, rfl⟩], hb, by rw [gI_uI, if_neg (by decide)]; exact h4, by rw [gI_uI, if_neg (by decide)]; exact h5⟩
theorem lp_skip {Q : St → Prop} {φ : Int32 × Int32} (hw : RunW w) (ht : TxOK t) : ∀ n a σ, t.1 - a = n → PX σ t a φ → (∀ σ', Fr scN σ σ' → PX σ' t (sk t a) φ → gI σ' 1 3 = gI σ 1 3 → Q σ') → AV Γ d mX3_skipBlanks w Q 0 [(0, .ref 1)] σ := by
  have h6 := ht.1
  intro n
  induction n with
  | zero =>
    intro a σ hn hX hQ
    obtain ⟨h1, h2, h3, h4, h5⟩ := hX
    have e : sk t a = a := zR_end (by omega)
    rw [e] at hQ
    refine vX3_skipBlanks_0 hw ?_
    rw [h1.1, h2]
    exact ⟨fun _ => hQ σ (Fr.rf σ) ⟨h1, h2, h3, h4, h5⟩ rfl, fun c => absurd (nI_le (by omega) (by omega)) c⟩
  | succ n ih =>
    intro a σ hn hX hQ
    have hX' := hX
    obtain ⟨h1, h2, h3, h4, h5⟩ := hX
    have hlt : a < t.1 := by omega
    obtain ⟨f1, -⟩ := sx_f (t.2 a) (ht.2 a)
    refine vX3_skipBlanks_0 hw ?_
    rw [h1.1, h2, cl (by omega), h1.2 a hlt, f1, nI_1]
    refine ⟨fun c => absurd c (nI_ge hlt (by omega)), fun _ => ⟨vin (by omega), fun c => ?_, fun c => ?_⟩⟩
    · have e : sk t a = a := zR_no (fun _ => by unfold zB; exact beq_eq_false_iff_ne.mpr c)
      rw [e] at hQ
      exact hQ σ (Fr.rf σ) hX' rfl
    · have e : sk t a = sk t (a + 1) := zR_yes hlt (by unfold zB; exact beq_iff_eq.mpr c)
      have hf : Fr scN σ (uI σ 1 2 (nI (a + 1))) := fr_I (by decide)
      refine ih (a + 1) _ (by omega) (hX'.at (by omega)) (fun s z1 z2 z3 => ?_)
      rw [← e] at z2
      exact hQ s (hf.tr z1) z2 (z3.trans (by rw [gI_uI, if_neg (by decide)]))
theorem c_skip {Q : St → Prop} {σ : St} {a : Nat} {φ : Int32 × Int32} (hw : RunW w) (ht : TxOK t) (hX : PX σ t a φ) (hQ : ∀ σ', Fr scN σ σ' → PX σ' t (sk t a) φ → gI σ' 1 3 = gI σ 1 3 → Q σ') : SpV Γ d mX3_skipBlanks [.ref 1] σ w Q := SpV.of pnX3 (Nat.le_of_ble_eq_true rfl) (lp_skip hw ht _ a σ rfl hX hQ)
theorem c_isLetB {Q : Int32 → St → Prop} {σ : St} {b : Nat} (hb : b < 256) (h : Q (b2i (zL b)) σ) : SpI Γ d mX3_isLetter [.int (sx (nI b))] σ w Q := by
  obtain ⟨-, f2, -⟩ := sx_f b hb
  refine SpI.of pnX3 (Nat.le_of_ble_eq_true rfl) (vX3_isLetter_0 ?_)
  rw [← f2] at h
  refine ⟨fun c => ?_, fun c => ⟨fun c2 => ?_, fun c2 => ?_⟩⟩
  · rw [if_pos c] at h; exact h
  · rw [if_neg c, if_pos c2] at h; exact h
  · rw [if_neg c, if_neg c2] at h; exact h
theorem c_isFigB {Q : Int32 → St → Prop} {σ : St} {b : Nat} (hb : b < 256) (h : Q (b2i (zD b)) σ) : SpI Γ d mX3_isFigure [.int (sx (nI b))] σ w Q := by
  obtain ⟨-, -, f2, -⟩ := sx_f b hb
  refine SpI.of pnX3 (Nat.le_of_ble_eq_true rfl) (vX3_isFigure_0 ?_)
  rw [← f2] at h
  refine ⟨fun c => ?_, fun c => ⟨fun c2 => ?_, fun c2 => ?_⟩⟩
  · rw [if_pos c] at h; exact h
  · rw [if_neg c, if_pos c2] at h; exact h
  · rw [if_neg c, if_neg c2] at h; exact h
theorem c_isLetH {Q : Int32 → St → Prop} {σ : St} {a : Nat} (ht : TxOK t) (h : Q (b2i (zP zL t a)) σ) : SpI Γ d mX3_isLetter [.int (hd t a)] σ w Q := by
  refine SpI.of pnX3 (Nat.le_of_ble_eq_true rfl) (vX3_isLetter_0 ?_)
  rw [← hd_L ht] at h
  have z := in_R (x := hd t a) (a := 97) (b := 122) (by decide) (by decide) (X := fun b => Q (b2i b) σ) h
  exact ⟨z.1, fun c => ⟨fun c2 => (z.2 c).2 (fun q => Int32.not_le.mpr c2 q), fun c2 => (z.2 c).1 (Int32.not_lt.mp c2)⟩⟩
theorem c_isFigH {Q : Int32 → St → Prop} {σ : St} {a : Nat} (ht : TxOK t) (h : Q (b2i (zP zD t a)) σ) : SpI Γ d mX3_isFigure [.int (hd t a)] σ w Q := by
  refine SpI.of pnX3 (Nat.le_of_ble_eq_true rfl) (vX3_isFigure_0 ?_)
  rw [← hd_D ht] at h
  have z := in_R (x := hd t a) (a := 48) (b := 57) (by decide) (by decide) (X := fun b => Q (b2i b) σ) h
  exact ⟨z.1, fun c => ⟨fun c2 => (z.2 c).2 (fun q => Int32.not_le.mpr c2 q), fun c2 => (z.2 c).1 (Int32.not_lt.mp c2)⟩⟩
theorem c_look {Q : Int32 → St → Prop} {σ : St} {a : Nat} {φ : Int32 × Int32} (hw : RunW w) (ht : TxOK t) (hX : PX σ t a φ) (h : Q (hd t a) σ) : SpI Γ d mX3_look [.ref 1] σ w Q := by
  have h6 := ht.1
  obtain ⟨h1, h2, h3, h4, h5⟩ := hX
  refine SpI.of pnX3 (Nat.le_of_ble_eq_true rfl) (vX3_look_0 hw ?_)
  rw [h1.1, h2, cl (by omega), nI_leI (by omega) (by omega)]
  unfold hd at h
  refine ⟨fun c => ?_, fun c => ⟨vin (by omega), ?_⟩⟩
  · rw [if_neg (by omega)] at h; exact h
  · rw [if_pos (by omega)] at h
    rw [h1.2 a (by omega), (sx_f (t.2 a) (ht.2 a)).2.2.2]
    exact h
theorem lp_letEnd {Q : Int32 → St → Prop} {σ : St} (hw : RunW w) (ht : TxOK t) (hT : TC σ t) : ∀ n a, t.1 - a = n → a ≤ t.1 → Q (nI (zR zL t a)) σ → AI Γ (d + 1) mX3_lettersEnd w Q 5 [(0, .ref 1), (1, .int (nI a))] σ := by
  have h6 := ht.1
  intro n
  induction n with
  | zero =>
    intro a hn ha hQ
    rw [zR_end (by omega)] at hQ
    refine vX3_lettersEnd_5 hw ?_
    rw [hT.1]
    exact ⟨fun _ => hQ, fun c => absurd (nI_le (by omega) (by omega)) c⟩
  | succ n ih =>
    intro a hn ha hQ
    have hlt : a < t.1 := by omega
    refine vX3_lettersEnd_5 hw ?_
    rw [hT.1, cl (by omega), hT.2 a hlt, nI_1]
    refine ⟨fun c => absurd c (nI_ge hlt (by omega)), fun _ => ⟨vin (by omega), c_isLetB (ht.2 a) ?_⟩⟩
    rw [b2i_n0, b2i_0]
    refine ⟨fun c => ?_, fun c => ih (a + 1) (by omega) hlt ?_⟩
    · rw [zR_no (fun _ => c)] at hQ; exact hQ
    · rw [zR_yes hlt c] at hQ; exact hQ
theorem c_letEnd {Q : Int32 → St → Prop} {σ : St} {a : Nat} {φ : Int32 × Int32} (hw : RunW w) (ht : TxOK t) (hX : PX σ t a φ) (hQ : Q (nI (zR zL t a)) σ) : SpI Γ (d + 1) mX3_lettersEnd [.ref 1] σ w Q := by
  refine SpI.of pnX3 (Nat.le_of_ble_eq_true rfl) (vX3_lettersEnd_0 hw ?_)
  rw [hX.2.1]
  exact lp_letEnd hw ht hX.1 _ a rfl hX.2.2.1 hQ
theorem c_failC {Q : St → Prop} {σ : St} {a n p : Nat} {φ : Int32 × Int32} (hw : RunW w) (hX : PX σ t a φ) (hQ : ∀ σ', Fr scN σ σ' → PX σ' t a (flU φ (some (n, p))) → gI σ' 1 3 = gI σ 1 3 → Q σ') : SpV Γ d mX3_fail [.ref 1, .int (nI n), .int (nI p)] σ w Q := by
  have hX' := hX
  obtain ⟨h1, h2, h3, h4, h5⟩ := hX
  refine SpV.of pnX3 (Nat.le_of_ble_eq_true rfl) (vX3_fail_0 hw ?_)
  unfold flU at hQ
  rw [h4]
  refine ⟨fun c => ?_, fun c => ?_⟩
  · dsimp only at hQ
    rw [if_neg c] at hQ
    exact hQ σ (Fr.rf σ) hX' rfl
  · dsimp only at hQ
    rw [if_pos c] at hQ
    have hf : Fr scN σ (uI (uI σ 1 6 (nI n)) 1 7 (nI p)) := (fr_I (by decide)).tr (fr_I (by decide))
    exact hQ _ hf ⟨h1.fr scN_T hf, by rw [gI_uI, if_neg (by decide), gI_uI, if_neg (by decide)]; exact h2, h3, by rw [gI_uI, if_neg (by decide), gI_uI, if_pos ⟨rfl, rfl⟩], by rw [gI_uI, if_pos ⟨rfl, rfl⟩]⟩ (by rw [gI_uI, if_neg (by decide), gI_uI, if_neg (by decide)])
theorem c_acc {Q : Int32 → St → Prop} {σ : St} {a c : Nat} {φ : Int32 × Int32} (hw : RunW w) (ht : TxOK t) (hc : c < 256) (hX : PX σ t a φ) (hQ : ∀ σ', Fr scN σ σ' → PX σ' t (if zC t (sk t a) c then sk t a + 1 else sk t a) φ → Q (b2i (zC t (sk t a) c)) σ') : SpI Γ (d + 1) mX3_accepts [.ref 1, .int (nI c)] σ w Q := by
  refine SpI.of pnX3 (Nat.le_of_ble_eq_true rfl) (vX3_accepts_0 hw (c_skip hw ht hX fun s z1 z2 _ => c_look hw ht z2 ?_))
  rw [hd_eq ht hc, z2.2.1, nI_1]
  refine ⟨fun q => ?_, fun q => ?_⟩
  · rw [q] at hQ
    exact hQ _ (z1.tr (fr_I (by decide))) (z2.at (zC_pos q).1)
  · rw [Bool.eq_false_iff.mpr q] at hQ
    exact hQ s z1 z2
/-- the program's texts are the words -/
def kwX (x : Nat) : List Nat := match x with
  | 1 => kSign
  | 2 => kStart
  | 3 => kEnd
  | 4 => kWord
  | 5 => kLesson
  | 6 => kAfter
  | 7 => kSigns
  | 8 => kSight
  | _ => kPage
theorem kwX_c : ∀ x, x < 10 → 1 ≤ x → (txL.getD (x - 1) 0 = (kwX x).length ∧ ∀ j, j < (kwX x).length → txC x j = (kwX x).getD j 0 ∧ (kwX x).getD j 0 < 128) := by decide +kernel
theorem lp_accW {Q : Int32 → St → Prop} {σ : St} {b x : Nat} (hw : RunW w) (ht : TxOK t) (h1 : 1 ≤ x) (h9 : x ≤ 9) (hT : TC σ t) (hb : gI σ 1 2 = nI b) (hlen : b + (kwX x).length ≤ t.1) (hQ1 : allB (fun i => t.2 (b + i) == (kwX x).getD i 0) (kwX x).length = true → Q 1 (uI σ 1 2 (nI (b + (kwX x).length)))) (hQ0 : allB (fun i => t.2 (b + i) == (kwX x).getD i 0) (kwX x).length = false → Q 0 σ) :
    ∀ n i, i + n = (kwX x).length → allB (fun i => t.2 (b + i) == (kwX x).getD i 0) i = true → AI Γ (d + 5) mX3_acceptsWord w Q 26 [(0, .ref 1), (1, .retAddr x), (2, .int (nI (kwX x).length)), (3, .int (nI i))] σ := by
  have h6 := ht.1
  obtain ⟨kl, kc⟩ := kwX_c x (by omega) h1
  intro n
  induction n with
  | zero =>
    intro i hi hall
    have : i = (kwX x).length := hi
    subst this
    refine vX3_acceptsWord_26 hw h1 h9 ?_
    rw [hb, nI_add]
    exact ⟨fun _ => hQ1 hall, fun c => absurd (nI_le (Nat.le_refl _) (by omega)) c⟩
  | succ n ih =>
    intro i hi hall
    obtain ⟨c1, c2⟩ := kc i (by omega)
    have st : allB (fun i => t.2 (b + i) == (kwX x).getD i 0) (i + 1) = (t.2 (b + i) == (kwX x).getD i 0) := by
      show (allB _ i && _) = _
      rw [hall, Bool.true_and]
    refine vX3_acceptsWord_26 hw h1 h9 ?_
    rw [hb, nI_add, nI_add, cl (by omega), hT.2 _ (by omega), nI_1]
    refine ⟨fun c => absurd c (nI_ge (by omega) (by omega)), fun _ => ⟨vin (by omega), c_charAt h1 h9 (by rw [kl]; omega) ?_⟩⟩
    rw [c1, sx_eq _ c2 _ (ht.2 _)]
    refine ⟨fun c => ih (i + 1) (by omega) (by rw [st, c]; simp), fun c => hQ0 ?_⟩
    refine allB_false (n := i + 1) ?_ (by omega)
    rw [st]
    simpa using c
theorem c_accW {Q : Int32 → St → Prop} {σ : St} {a x : Nat} {φ : Int32 × Int32} (hw : RunW w) (ht : TxOK t) (h1 : 1 ≤ x) (h9 : x ≤ 9) (hX : PX σ t a φ) (hQ : ∀ σ', Fr scN σ σ' → PX σ' t (if zK t (sk t a) (zE t a) (kwX x) then zE t a else sk t a) φ → Q (b2i (zK t (sk t a) (zE t a) (kwX x))) σ') : SpI Γ (d + 5) mX3_acceptsWord [.ref 1, .retAddr x] σ w Q := by
  have h6 := ht.1
  obtain ⟨kl, kc⟩ := kwX_c x (by omega) h1
  refine SpI.of pnX3 (Nat.le_of_ble_eq_true rfl) (vX3_acceptsWord_0 hw h1 h9 (c_skip hw ht hX fun s z1 z2 _ => c_letEnd hw ht z2 (c_len h1 h9 ?_)))
  have e1 := zE_le hX.2.2.1
  have e2 := zE_ge t a
  have hkl : (kwX x).length ≤ 600 := by
    have := tx_l (x - 1) (by omega)
    omega
  have zk : zK t (sk t a) (zE t a) (kwX x) = (decide (zE t a = sk t a + (kwX x).length) && allB (fun i => t.2 (sk t a + i) == (kwX x).getD i 0) (kwX x).length) := rfl
  rw [z2.2.1, show zR zL t (sk t a) = zE t a from rfl, pk_sub e2, kl, nI_eq (by omega) (by omega)]
  refine ⟨fun c => ?_, fun c => ?_⟩
  · have hE : zE t a = sk t a + (kwX x).length := by omega
    rw [c]
    refine lp_accW hw ht h1 h9 z2.1 z2.2.1 (by omega) (fun h => ?_) (fun h => ?_) (kwX x).length 0 (Nat.zero_add _) rfl
    · rw [zk, decide_eq_true hE, h] at hQ
      rw [← hE]
      exact hQ _ (z1.tr (fr_I (by decide))) (z2.at e1)
    · rw [zk, decide_eq_true hE, h] at hQ
      exact hQ s z1 z2
  · rw [zk, decide_eq_false (show ¬ zE t a = sk t a + (kwX x).length by omega)] at hQ
    exact hQ s z1 z2
theorem c_num {Q : Int32 → St → Prop} {σ : St} {a bd : Nat} {φ : Int32 × Int32} (hw : RunW w) (ht : TxOK t) (hbd : bd ≤ 30) (hX : PX σ t a φ)
    (hQ : ∀ σ', Fr scN σ σ' → PX σ' t (zR zD t (sk t a)) (flU φ (erN t bd a)) → gI σ' 1 3 = nI (sk t a) → Q (if (flU φ (erN t bd a)).1 = 0 then nI (zV t (sk t a) (zR zD t (sk t a))) else 0) σ') : SpI Γ (d + 1) mX3_parseNumber [.ref 1, .int (nI bd)] σ w Q := by
  have h6 := ht.1
  have hs6 := sk_le hX.2.2.1
  -- the end of the figures
  have fin : ∀ j s x, sk t a + j ≤ t.1 → (∀ i, i < j → zD (t.2 (sk t a + i)) = true) → zR zD t (sk t a) = sk t a + j → Fr scN σ s → PX s t (sk t a + j) φ → gI s 1 3 = nI (sk t a) → nmOK t (sk t a) j x →
      ((¬ (gI s 1 2) = (gI s 1 3) → ((2 < ((gI s 1 2) - (gI s 1 3)) → SpV Γ d mX3_fail [.ref 1, .int (2 : Int32), .int (gI s 1 3)] s w (fun s1 => ((¬ (gI s1 1 6) = 0 → Q 0 s1) ∧ ((gI s1 1 6) = 0 → Q x s1)))) ∧ (¬ 2 < ((gI s 1 2) - (gI s 1 3)) → ((x < nI bd → ((¬ (gI s 1 6) = 0 → Q 0 s) ∧ ((gI s 1 6) = 0 → Q x s))) ∧ (¬ x < nI bd → SpV Γ d mX3_fail [.ref 1, .int (2 : Int32), .int (gI s 1 3)] s w (fun s2 => ((¬ (gI s2 1 6) = 0 → Q 0 s2) ∧ ((gI s2 1 6) = 0 → Q x s2)))))))) ∧ ((gI s 1 2) = (gI s 1 3) → SpV Γ d mX3_fail [.ref 1, .int (1 : Int32), .int (gI s 1 3)] s w (fun s3 => ((¬ (gI s3 1 6) = 0 → Q 0 s3) ∧ ((gI s3 1 6) = 0 → Q x s3))))) := by
    intro j s x hj hall he hf hP h3 hv
    rw [he] at hQ
    have en : erN t bd a = (match zNm t bd (sk t a) (sk t a + j) with | .inl f => some f | .inr _ => none) := by
      unfold erN zNum
      rw [he]
    have bad : ∀ n : Nat, 1 ≤ n → n ≤ 6 → zNm t bd (sk t a) (sk t a + j) = .inl (n, sk t a) → SpV Γ d mX3_fail [.ref 1, .int (nI n), .int (nI (sk t a))] s w (fun s1 => ((¬ (gI s1 1 6) = 0 → Q 0 s1) ∧ ((gI s1 1 6) = 0 → Q x s1))) := by
      intro n hn1 hn6 hz
      rw [hz] at en
      dsimp only at en
      rw [en] at hQ
      refine c_failC hw hP (fun s1 z1 z2 z3 => ?_)
      have h0 : ¬ (flU φ (some (n, sk t a))).1 = 0 := by
        unfold flU
        dsimp only
        split
        · exact nI_ne0 (by omega) (by omega)
        · assumption
      have := hQ s1 (hf.tr z1) z2 (z3.trans h3)
      rw [if_neg h0] at this
      rw [z2.2.2.2.1]
      exact ⟨fun _ => this, fun q => absurd q h0⟩
    rw [hP.2.1, h3, nI_eq (by omega) (by omega)]
    have l2 : (2 : Int32) < nI (sk t a + j) - nI (sk t a) ↔ 2 < j := by
      rw [pk_sub (by omega), show sk t a + j - sk t a = j by omega]
      exact nI_ltI (a := 2) (by decide) (by omega)
    rw [l2]
    refine ⟨fun c => ⟨fun c2 => bad 2 (by decide) (by decide) ?_, fun c2 => ?_⟩, fun c => bad 1 (by decide) (by decide) ?_⟩
    · unfold zNm
      rw [if_neg (by omega), if_pos (Or.inl (by omega))]
    · have hval : x = nI (zV t (sk t a) (sk t a + j)) ∧ zV t (sk t a) (sk t a + j) < 100 := by
        have z1 := hall 0 (by omega)
        unfold zD at z1
        simp only [Bool.and_eq_true, decide_eq_true_eq, Nat.add_zero] at z1
        unfold zV
        by_cases e1 : j = 1
        · subst e1
          rw [if_pos rfl]
          exact ⟨hv.2.1 rfl, by omega⟩
        · have e2 : j = 2 := by omega
          subst e2
          have z2 := hall 1 (by omega)
          unfold zD at z2
          simp only [Bool.and_eq_true, decide_eq_true_eq] at z2
          rw [if_neg (by omega)]
          exact ⟨hv.2.2 rfl, by omega⟩
      have lx : x < nI bd ↔ zV t (sk t a) (sk t a + j) < bd := by rw [hval.1]; exact nI_ltI (by omega) (by omega)
      rw [lx]
      refine ⟨fun c3 => ?_, fun c3 => bad 2 (by decide) (by decide) ?_⟩
      · have hz : zNm t bd (sk t a) (sk t a + j) = .inr (sk t a + j, zV t (sk t a) (sk t a + j)) := by
          unfold zNm
          rw [if_neg (by omega), if_neg (by omega)]
        rw [hz] at en
        dsimp only at en
        rw [en] at hQ
        have := hQ s hf hP h3
        have e0 : (flU φ none).1 = φ.1 := rfl
        rw [e0, ← hval.1] at this
        rw [hP.2.2.2.1]
        refine ⟨fun q => ?_, fun q => ?_⟩
        · rw [if_neg q] at this; exact this
        · rw [if_pos q] at this; exact this
      · unfold zNm
        rw [if_neg (by omega), if_pos (Or.inr (by omega))]
    · unfold zNm
      rw [if_pos c]
  have lp : ∀ n j s x, t.1 - (sk t a + j) = n → sk t a + j ≤ t.1 → (∀ i, i < j → zD (t.2 (sk t a + i)) = true) → zR zD t (sk t a + j) = zR zD t (sk t a) → Fr scN σ s → PX s t (sk t a + j) φ → gI s 1 3 = nI (sk t a) → nmOK t (sk t a) j x → AI Γ (d + 1) mX3_parseNumber w Q 14 [(0, .ref 1), (1, .int (nI bd)), (2, .int x)] s := by
    intro n
    induction n with
    | zero =>
      intro j s x hn hj hall he hf hP h3 hv
      have e : zR zD t (sk t a + j) = sk t a + j := zR_end (by omega)
      refine vX3_parseNumber_14 hw ⟨fun _ => fin j s x hj hall (he.symm.trans e) hf hP h3 hv, fun c => ?_⟩
      rw [hP.1.1, hP.2.1] at c
      exact absurd (nI_le (by omega) (by omega)) c
    | succ n ih =>
      intro j s x hn hj hall he hf hP h3 hv
      have hlt : sk t a + j < t.1 := by omega
      have h256 := ht.2 (sk t a + j)
      refine vX3_parseNumber_14 hw ⟨fun c => ?_, fun _ => ?_⟩
      · rw [hP.1.1, hP.2.1] at c
        exact absurd c (nI_ge hlt (by omega))
      · have eg : gI s 2 (gI s 1 2).toNatClampNeg = sx (nI (t.2 (sk t a + j))) := by rw [hP.2.1, cl (by omega), hP.1.2 _ hlt]
        refine ⟨by rw [hP.2.1]; exact vin (by omega), ?_⟩
        rw [eg]
        refine c_isFigB h256 ?_
        rw [b2i_n0, b2i_0]
        refine ⟨fun c => fin j s x hj hall (he.symm.trans (zR_no (fun _ => c))) hf hP h3 hv, fun c => ⟨by rw [hP.2.1]; exact vin (by omega), ?_⟩⟩
        have hc : 48 ≤ t.2 (sk t a + j) ∧ t.2 (sk t a + j) ≤ 57 := by
          unfold zD at c
          simpa using c
        have e : zR zD t (sk t a + j) = zR zD t (sk t a + (j + 1)) := zR_yes hlt c
        have go : ∀ y, nmOK t (sk t a) (j + 1) y → AI Γ (d + 1) mX3_parseNumber w Q 14 [(0, .ref 1), (1, .int (nI bd)), (2, .int y)] (uI s 1 2 ((gI s 1 2) + 1)) := by
          intro y hy
          rw [hP.2.1, nI_1]
          refine ih (j + 1) _ y (by omega) (by omega) (fun i hi => ?_) (e.symm.trans he) (hf.tr (fr_I (by decide))) (hP.at (by omega)) (by rw [gI_uI, if_neg (by decide)]; exact h3) hy
          by_cases ei : i = j
          · subst ei; exact c
          · exact hall i (by omega)
        rw [eg, sx_lo _ (by omega)]
        have e10 : ∀ m, m ≤ 9 → nI m * 10 + nI (t.2 (sk t a + j)) - 48 = nI (10 * m + (t.2 (sk t a + j) - 48)) := by
          intro m hm
          rw [show (10 : Int32) = nI 10 from rfl, nI_mul, nI_add, show (48 : Int32) = nI 48 from rfl, pk_sub (by omega)]
          congr 1
          omega
        have big : ∀ (X : Prop) (m : Nat), m < 100 → ¬ (nI m < 1000) → X := fun X m hm q => absurd (nI_lt (b := 1000) (by omega) (by decide)) q
        refine c_min (fun c2 => go _ ?_) (fun c2 => go _ ?_)
        · refine ⟨fun q => by omega, fun q => ?_, fun q => ?_⟩
          · have : j = 0 := by omega
            subst this
            rw [hv.1 rfl, show (0 : Int32) = nI 0 from rfl, e10 0 (by decide)]
            rw [Nat.mul_zero, Nat.zero_add, Nat.add_zero]
          · have : j = 1 := by omega
            subst this
            have z1 := hall 0 (by omega)
            unfold zD at z1
            simp only [Bool.and_eq_true, decide_eq_true_eq, Nat.add_zero] at z1
            rw [hv.2.1 rfl, e10 _ (by omega)]
        · refine ⟨fun q => by omega, fun q => ?_, fun q => ?_⟩
          · have : j = 0 := by omega
            subst this
            rw [hv.1 rfl, show (0 : Int32) = nI 0 from rfl, e10 0 (by decide)] at c2
            exact big _ _ (by omega) c2
          · have : j = 1 := by omega
            subst this
            have z1 := hall 0 (by omega)
            unfold zD at z1
            simp only [Bool.and_eq_true, decide_eq_true_eq, Nat.add_zero] at z1
            rw [hv.2.1 rfl, e10 _ (by omega)] at c2
            exact big _ _ (by omega) c2
  refine SpI.of pnX3 (Nat.le_of_ble_eq_true rfl) (vX3_parseNumber_0 hw (c_skip hw ht hX fun s z1 z2 _ => ?_))
  rw [z2.2.1]
  have hf : Fr scN σ (uI s 1 3 (nI (sk t a))) := z1.tr (fr_I (by decide))
  refine lp _ 0 _ 0 rfl hs6 (fun i hi => absurd hi (Nat.not_lt_zero i)) rfl hf ⟨z2.1.fr (S := fun o k => o == 1 && k == 3) (fun o k q => by rcases q with rfl | ⟨rfl, rfl⟩ <;> simp) (fr_I (by simp)), by rw [gI_uI, if_neg (by decide)]; exact z2.2.1, hs6, by rw [gI_uI, if_neg (by decide)]; exact z2.2.2.2.1, by rw [gI_uI, if_neg (by decide)]; exact z2.2.2.2.2⟩ (by rw [gI_uI, if_pos ⟨rfl, rfl⟩]) ⟨fun _ => rfl, fun q => absurd q (by decide), fun q => absurd q (by decide)⟩
end CPS
