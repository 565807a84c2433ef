/-! the reference reads its text: bytes, words, numbers -/
def Fr (S : Nat → Nat → Bool) (σ σ' : St) : Prop := (∀ o k, S o k = false → gI σ' o k = gI σ o k) ∧ (∀ o k, S o k = false → gJ σ' o k = gJ σ o k) ∧ ∀ o k, S o k = false → gR σ' o k = gR σ o k
theorem Fr.rf {S : Nat → Nat → Bool} (σ : St) : Fr S σ σ := ⟨fun _ _ _ => rfl, fun _ _ _ => rfl, fun _ _ _ => rfl⟩
theorem Fr.tr {S : Nat → Nat → Bool} {a b c : St} (h : Fr S a b) (h2 : Fr S b c) : Fr S a c := ⟨fun o k q => (h2.1 o k q).trans (h.1 o k q), fun o k q => (h2.2.1 o k q).trans (h.2.1 o k q), fun o k q => (h2.2.2 o k q).trans (h.2.2 o k q)⟩
theorem Fr.mono {S S' : Nat → Nat → Bool} {a b : St} (h : Fr S a b) (hs : ∀ o k, S o k = true → S' o k = true) : Fr S' a b := by
  have z : ∀ o k, S' o k = false → S o k = false := fun o k q => by
    cases e : S o k with
    | false => rfl
    | true => rw [hs o k e] at q; cases q
  exact ⟨fun o k q => h.1 o k (z o k q), fun o k q => h.2.1 o k (z o k q), fun o k q => h.2.2 o k (z o k q)⟩
theorem fr_I {S : Nat → Nat → Bool} {σ : St} {o k : Nat} {v : Int32} (h : S o k = true) : Fr S σ (uI σ o k v) := by
  refine ⟨fun a b q => ?_, fun _ _ _ => rfl, fun _ _ _ => rfl⟩
  rw [gI_uI, if_neg]
  rintro ⟨rfl, rfl⟩
  rw [h] at q
  cases q
theorem fr_J {S : Nat → Nat → Bool} {σ : St} {o k : Nat} {v : Int64} (h : S o k = true) : Fr S σ (uJ σ o k v) := by
  refine ⟨fun _ _ _ => rfl, fun a b q => ?_, fun _ _ _ => rfl⟩
  rw [gJ_uJ, if_neg]
  rintro ⟨rfl, rfl⟩
  rw [h] at q
  cases q
theorem fr_R {S : Nat → Nat → Bool} {σ : St} {o k : Nat} {v : Option Nat} (h : S o k = true) : Fr S σ (uR σ o k v) := by
  refine ⟨fun _ _ _ => rfl, fun _ _ _ => rfl, fun a b q => ?_⟩
  rw [gR_uR, if_neg]
  rintro ⟨rfl, rfl⟩
  rw [h] at q
  cases q
def TM (σ : St) (t : Tx) : Prop := gI σ 390 17 = nI t.1 ∧ ∀ i, i < t.1 → gI σ 403 i = nI (t.2 i)
def scA (o k : Nat) : Bool := o == 390 && k == 19
def scP (o k : Nat) : Bool := o == 390 && (k == 19 || k == 20 || k == 21 || k == 22 || k == 23)
/-- all that reading may change; with a fault, its place too -/
def scR (o k : Nat) : Bool := scP o k || (o == 390 && (k == 39 || k == 24 || k == 29 || k == 34 || k == 36)) || (decide (404 ≤ o) && decide (o ≤ 414))
def scQ (o k : Nat) : Bool := scR o k || (o == 390 && k == 18)
theorem scR_Q : ∀ o k, scR o k = true → scQ o k = true := fun o k h => by unfold scQ; rw [h]; simp
theorem scP_Q : ∀ o k, scP o k = true → scQ o k = true := fun o k h => scR_Q o k (by unfold scR; rw [h]; simp)
theorem scA_P : ∀ o k, scA o k = true → scP o k = true := by
  intro o k h
  unfold scA at h
  unfold scP
  simp only [Bool.and_eq_true, beq_iff_eq] at h
  simp [h.1, h.2]
theorem scP_T {o k : Nat} (h : o = 403 ∨ (o = 390 ∧ k = 17)) : scP o k = false := by
  rcases h with rfl | ⟨rfl, rfl⟩ <;> simp [scP]
theorem TM.fr {S : Nat → Nat → Bool} {σ σ' : St} {t : Tx} (h : TM σ t) (hS : ∀ o k, (o = 403 ∨ (o = 390 ∧ k = 17)) → S o k = false) (hF : Fr S σ σ') : TM σ' t := ⟨(hF.1 _ _ (hS 390 17 (Or.inr ⟨rfl, rfl⟩))).trans h.1, fun i hi => (hF.1 _ _ (hS 403 i (Or.inl rfl))).trans (h.2 i hi)⟩
theorem TM.p {σ σ' : St} {t : Tx} (h : TM σ t) (hF : Fr scP σ σ') : TM σ' t := h.fr (fun _ _ => scP_T) hF
section PH
variable {Γ : Gx} {d : Nat} {w : Wd} {t : Tx}
theorem lp_here {Q : Int32 → St → Prop} (hw : RunW w) (ht : TxOK t) : ∀ n a σ, t.1 - a = n → a ≤ t.1 → TM σ t → gI σ 390 19 = nI a → (∀ σ', Fr scA σ σ' → gI σ' 390 19 = nI (sk t a) → Q (hd t (sk t a)) σ') → AI Γ d mX12_here w Q 0 [(0, .ref 390)] σ := by
  have h6 := ht.1
  intro n
  induction n with
  | zero =>
    intro a σ hn ha hT hA hQ
    have e : sk t a = a := zR_end (by omega)
    have e2 : hd t a = -1 := if_neg (by omega)
    rw [e, e2] at hQ
    refine vX12_here_0 hw ?_
    rw [hT.1, hA]
    exact ⟨fun _ => ⟨fun _ => hQ σ (Fr.rf σ) hA, fun c => absurd (nI_le (by omega) (by omega)) c⟩, fun c => absurd (nI_le (by omega) (by omega)) c⟩
  | succ n ih =>
    intro a σ hn ha hT hA hQ
    have hlt : a < t.1 := by omega
    have h256 := ht.2 a
    refine vX12_here_0 hw ?_
    rw [hT.1, hA, cl (by omega), hT.2 a hlt]
    refine ⟨fun c => absurd c (nI_ge hlt (by omega)), fun _ => ⟨vin (by omega), fun c => ⟨fun c2 => absurd c2 (nI_ge hlt (by omega)), fun _ => ⟨vin (by omega), ?_⟩⟩, fun c => ?_⟩⟩
    · have e1 : zB (t.2 a) = false := by
        unfold zB
        rw [beq_eq_false_iff_ne]
        intro q
        exact c (by rw [q]; rfl)
      have e : sk t a = a := zR_no (fun _ => e1)
      have e2 : hd t a = nI (t.2 a) := if_pos hlt
      rw [e, e2] at hQ
      exact hQ σ (Fr.rf σ) hA
    · have e1 : zB (t.2 a) = true := by
        unfold zB
        rw [beq_iff_eq]
        exact (nI_eq (b := 32) (by omega) (by decide)).mp c
      have e : sk t a = sk t (a + 1) := zR_yes hlt e1
      rw [nI_1]
      have hf : Fr scA σ (uI σ 390 19 (nI (a + 1))) := fr_I (by decide)
      refine ih (a + 1) _ (by omega) hlt (hT.p (hf.mono scA_P)) (by rw [gI_uI, if_pos ⟨rfl, rfl⟩]) (fun s hs hs2 => ?_)
      rw [← e] at hs2 ⊢
      exact hQ s (hf.tr hs) hs2
theorem c_here {Q : Int32 → St → Prop} {a : Nat} {σ : St} (hw : RunW w) (ht : TxOK t) (ha : a ≤ t.1) (hT : TM σ t) (hA : gI σ 390 19 = nI a) (hQ : ∀ σ', Fr scA σ σ' → gI σ' 390 19 = nI (sk t a) → Q (hd t (sk t a)) σ') : SpI Γ d mX12_here [.ref 390] σ w Q :=
  SpI.of pnX12 (Nat.le_of_ble_eq_true rfl) (lp_here hw ht _ a σ rfl ha hT hA hQ)
theorem c_fails {Q : Int32 → St → Prop} {x y : Int32} {σ : St} (hw : RunW w) (h : Q x (uI σ 390 18 y)) : SpI Γ d mX12_fails [.ref 390, .int x, .int y] σ w Q := SpI.of pnX12 (Nat.le_of_ble_eq_true rfl) (vX12_fails_0 hw h)
/-- the number of a word, as the reference makes it -/
def zSd (t : Tx) (b : Nat) : Nat → Nat
  | 0 => 0
  | n + 1 => if 1000000000000 < zSd t b n then 2000000000000 else 27 * zSd t b n + (t.2 (b + n) - 96)
theorem zSd_le (ht : TxOK t) (b : Nat) : ∀ n, zSd t b n ≤ 27000000000200
  | 0 => Nat.zero_le _
  | n + 1 => by
    have := ht.2 (b + n)
    unfold zSd
    split <;> omega
def enc (l : List Nat) : Nat → Nat
  | 0 => 0
  | n + 1 => 27 * enc l n + (l.getD n 0 - 96)
theorem zSd_enc {b : Nat} {l : List Nat} : ∀ n m, (∀ i, i < n → zL (t.2 (b + i)) = true) → (∀ i, i < m → zL (l.getD i 0) = true) → enc l m ≤ 1000000000000 → (zSd t b n = enc l m ↔ n = m ∧ ∀ i, i < n → t.2 (b + i) = l.getD i 0) := by
  have zl : ∀ {c : Nat}, zL c = true → 97 ≤ c ∧ c ≤ 122 := fun h => by
    unfold zL at h
    simpa using h
  intro n
  induction n with
  | zero =>
    intro m _ h2 h3
    cases m with
    | zero => exact ⟨fun _ => ⟨rfl, fun i hi => absurd hi (Nat.not_lt_zero i)⟩, fun _ => rfl⟩
    | succ m =>
      have := zl (h2 m (Nat.lt_succ_self m))
      refine ⟨fun q => ?_, fun q => by cases q.1⟩
      have q' : 0 = 27 * enc l m + (l.getD m 0 - 96) := q
      omega
  | succ n ih =>
    intro m h1 h2 h3
    have hc := zl (h1 n (Nat.lt_succ_self n))
    have hs : zSd t b (n + 1) = if 1000000000000 < zSd t b n then 2000000000000 else 27 * zSd t b n + (t.2 (b + n) - 96) := rfl
    cases m with
    | zero =>
      refine ⟨fun q => ?_, fun q => by cases q.1⟩
      have q' : zSd t b (n + 1) = 0 := q
      rw [hs] at q'
      split at q' <;> omega
    | succ m =>
      have hd' := zl (h2 m (Nat.lt_succ_self m))
      have h3' : 27 * enc l m + (l.getD m 0 - 96) ≤ 1000000000000 := h3
      have he : enc l (m + 1) = 27 * enc l m + (l.getD m 0 - 96) := rfl
      have ih' := ih m (fun i hi => h1 i (by omega)) (fun i hi => h2 i (by omega)) (by omega)
      rw [hs, he]
      constructor
      · intro q
        split at q
        · omega
        · have e1 : zSd t b n = enc l m := by omega
          have e2 : t.2 (b + n) = l.getD m 0 := by omega
          obtain ⟨r1, r2⟩ := ih'.mp e1
          subst r1
          refine ⟨rfl, fun i hi => ?_⟩
          by_cases e : i = n
          · subst e; exact e2
          · exact r2 i (by omega)
      · rintro ⟨r1, r2⟩
        have r1' : n = m := by omega
        subst r1'
        have e1 := ih'.mpr ⟨rfl, fun i hi => r2 i (by omega)⟩
        rw [if_neg (by omega), e1, r2 n (Nat.lt_succ_self n)]
theorem zSd_kw {b e : Nat} {l : List Nat} (hb : b ≤ e) (h1 : ∀ i, b ≤ i → i < e → zL (t.2 i) = true) (h2 : ∀ i, i < l.length → zL (l.getD i 0) = true) (h3 : enc l l.length ≤ 1000000000000) : zSd t b (e - b) = enc l l.length ↔ zK t b e l = true := by
  rw [zSd_enc (e - b) l.length (fun i hi => h1 _ (by omega) (by omega)) h2 h3]
  unfold zK
  rw [Bool.and_eq_true, decide_eq_true_eq, allB_iff]
  constructor
  · rintro ⟨a1, a2⟩
    exact ⟨by omega, fun j hj => by rw [beq_iff_eq]; exact a2 j (by omega)⟩
  · rintro ⟨a1, a2⟩
    refine ⟨by omega, fun i hi => ?_⟩
    have := a2 i (by omega)
    rwa [beq_iff_eq] at this
theorem lg_kw {x y : Nat} (hx : x < 2 ^ 63) (hy : y < 2 ^ 63) : lg_cmp (lN x) (lN y) = 0 ↔ x = y := by rw [lg_cmp_eq, pk_lEQ hx hy]
def scW (o k : Nat) : Bool := o == 390 && (k == 19 || k == 20 || k == 21)
theorem scW_P : ∀ o k, scW o k = true → scP o k = true := by
  intro o k h
  unfold scW at h
  unfold scP
  simp only [Bool.and_eq_true, beq_iff_eq, Bool.or_eq_true] at h ⊢
  refine ⟨h.1, ?_⟩
  omega
theorem scA_W : ∀ o k, scA o k = true → scW o k = true := by
  intro o k h
  unfold scA at h
  unfold scW
  simp only [Bool.and_eq_true, beq_iff_eq] at h
  simp [h.1, h.2]
theorem c_zL {Q : Int32 → St → Prop} {a : Nat} {σ : St} (ht : TxOK t) (h : Q (b2i (zL (t.2 a))) σ) : SpI Γ d mX12_in [.long (nI (t.2 a)).toInt64, .long (97 : Int64), .long (122 : Int64)] σ w Q := by
  have := ht.2 a
  refine c_inR (x := nI (t.2 a)) (a := 97) (b := 122) (by decide) (by decide) ?_
  rw [inR_nI (by omega)]
  exact h
theorem c_zD {Q : Int32 → St → Prop} {a : Nat} {σ : St} (ht : TxOK t) (h : Q (b2i (zD (t.2 a))) σ) : SpI Γ d mX12_in [.long (nI (t.2 a)).toInt64, .long (48 : Int64), .long (57 : Int64)] σ w Q := by
  have := ht.2 a
  refine c_inR (x := nI (t.2 a)) (a := 48) (b := 57) (by decide) (by decide) ?_
  rw [inR_nI (by omega)]
  exact h
theorem c_hL {Q : Int32 → St → Prop} {a : Nat} {σ : St} (ht : TxOK t) (h : Q (b2i (zP zL t a)) σ) : SpI Γ d mX12_in [.long (hd t a).toInt64, .long (97 : Int64), .long (122 : Int64)] σ w Q := by
  refine c_inR (x := hd t a) (a := 97) (b := 122) (by decide) (by decide) ?_
  rw [hd_L ht]
  exact h
theorem c_hD {Q : Int32 → St → Prop} {a : Nat} {σ : St} (ht : TxOK t) (h : Q (b2i (zP zD t a)) σ) : SpI Γ d mX12_in [.long (hd t a).toInt64, .long (48 : Int64), .long (57 : Int64)] σ w Q := by
  refine c_inR (x := hd t a) (a := 48) (b := 57) (by decide) (by decide) ?_
  rw [hd_D ht]
  exact h
theorem lp_readWord {Q : St → Prop} {b : Nat} (hw : RunW w) (ht : TxOK t) (hb : b ≤ t.1) : ∀ n j σ, t.1 - (b + j) = n → b + j ≤ t.1 → TM σ t → gI σ 390 21 = nI (b + j) → gJ σ 390 20 = lN (zSd t b j) → (∀ σ', Fr scW σ σ' → gI σ' 390 19 = gI σ 390 19 → gI σ' 390 21 = nI (zR zL t (b + j)) → gJ σ' 390 20 = lN (zSd t b (zR zL t (b + j) - b)) → Q σ') → AV Γ (d + 1) mX12_readWord w Q 18 [(0, .ref 390)] σ := by
  have h6 := ht.1
  intro n
  induction n with
  | zero =>
    intro j σ hn hj hT h21 h20 hQ
    have e : zR zL t (b + j) = b + j := zR_end (by omega)
    rw [e, show b + j - b = j by omega] at hQ
    refine vX12_readWord_18 hw ?_
    rw [hT.1, h21]
    exact ⟨fun _ => hQ σ (Fr.rf σ) rfl h21 h20, fun c => absurd (nI_le (by omega) (by omega)) c⟩
  | succ n ih =>
    intro j σ hn hj hT h21 h20 hQ
    have hlt : b + j < t.1 := by omega
    have h256 := ht.2 (b + j)
    have hle := zSd_le ht b j
    refine vX12_readWord_18 hw ?_
    rw [hT.1, h21, cl (by omega), hT.2 _ hlt]
    refine ⟨fun c => absurd c (nI_ge hlt (by omega)), fun _ => ⟨vin (by omega), c_zL ht ?_⟩⟩
    rw [b2i_n0, b2i_0]
    refine ⟨fun c => ?_, fun c => ?_⟩
    · have e : zR zL t (b + j) = b + j := zR_no (fun _ => c)
      rw [e, show b + j - b = j by omega] at hQ
      exact hQ σ (Fr.rf σ) rfl h21 h20
    · have hc : 97 ≤ t.2 (b + j) := by
        unfold zL at c
        simp only [Bool.and_eq_true, decide_eq_true_eq] at c
        exact c.1
      have e : zR zL t (b + j) = zR zL t (b + (j + 1)) := zR_yes hlt c
      rw [h20, h21, cl (by omega), hT.2 _ hlt, lg_cmp_le, nI_l (by omega)]
      have el : (1000000000000 : Int64) = lN 1000000000000 := rfl
      rw [el, pk_lLE (by omega) (by omega)]
      have fin : ∀ y, y = lN (zSd t b (j + 1)) → AV Γ (d + 1) mX12_readWord w Q 18 [(0, .ref 390)] (uI (uJ σ 390 20 y) 390 21 (nI (b + j) + 1)) := by
        intro y hy
        subst hy
        rw [nI_1]
        have hf : Fr scW σ (uI (uJ σ 390 20 (lN (zSd t b (j + 1)))) 390 21 (nI (b + j + 1))) := (fr_J (by decide)).tr (fr_I (by decide))
        refine ih (j + 1) _ (by omega) (by omega) (hT.p (hf.mono scW_P)) (by rw [gI_uI, if_pos ⟨rfl, rfl⟩]; rfl) (by rw [gJ_uI, gJ_uJ, if_pos ⟨rfl, rfl⟩]) (fun s g1 g2 g3 g4 => ?_)
        rw [← e] at g3 g4
        refine hQ s (hf.tr g1) (g2.trans ?_) g3 g4
        rw [gI_uI, if_neg (by decide), gI_uJ]
      refine ⟨fun c2 => ⟨vin (by omega), fin _ ?_⟩, fun c2 => fin _ ?_⟩
      · have e27 : (27 : Int64) = lN 27 := rfl
        have e96 : (96 : Int64) = lN 96 := rfl
        show _ = lN (if 1000000000000 < zSd t b j then 2000000000000 else 27 * zSd t b j + (t.2 (b + j) - 96))
        rw [if_neg (by omega), e27, e96, lN_mul, lN_add, lN_sub (by omega)]
        congr 1
        omega
      · show _ = lN (if 1000000000000 < zSd t b j then 2000000000000 else 27 * zSd t b j + (t.2 (b + j) - 96))
        rw [if_pos (by omega)]
        rfl
/-- the word at the place that stands there -/
def WordAt (t : Tx) (σ : St) (a : Nat) : Prop := gI σ 390 19 = nI (sk t a) ∧ gI σ 390 21 = nI (zE t a) ∧ gJ σ 390 20 = lN (zSd t (sk t a) (zE t a - sk t a))
theorem c_readWord {Q : St → Prop} {a : Nat} {σ : St} (hw : RunW w) (ht : TxOK t) (ha : a ≤ t.1) (hT : TM σ t) (hA : gI σ 390 19 = nI a) (hQ : ∀ σ', Fr scW σ σ' → WordAt t σ' a → Q σ') : SpV Γ (d + 1) mX12_readWord [.ref 390] σ w Q := by
  refine SpV.of pnX12 (Nat.le_of_ble_eq_true rfl) (vX12_readWord_0 hw (c_here hw ht ha hT hA fun s hs h19 => ?_))
  rw [h19]
  have hf : Fr scW s (uI (uJ s 390 20 (0 : Int64)) 390 21 (nI (sk t a))) := (fr_J (by decide)).tr (fr_I (by decide))
  have hf2 := (hs.mono scA_W).tr hf
  refine lp_readWord hw ht (sk_le ha) _ 0 _ rfl (sk_le ha) (hT.p (hf2.mono scW_P)) (by rw [gI_uI, if_pos ⟨rfl, rfl⟩]; rfl) (by rw [gJ_uI, gJ_uJ, if_pos ⟨rfl, rfl⟩]; rfl) (fun s' g1 g2 g3 g4 => ?_)
  refine hQ s' (hf2.tr g1) ⟨g2.trans ?_, g3, g4⟩
  rw [gI_uI, if_neg (by decide), gI_uJ]
  exact h19
theorem WordAt.kw {σ : St} {a : Nat} {l : List Nat} (ht : TxOK t) (h : WordAt t σ a) (h2 : ∀ i, i < l.length → zL (l.getD i 0) = true) (h3 : enc l l.length ≤ 1000000000000) : lg_cmp (gJ σ 390 20) (lN (enc l l.length)) = 0 ↔ zK t (sk t a) (zE t a) l = true := by
  have := zSd_le ht (sk t a) (zE t a - sk t a)
  rw [h.2.2, lg_kw (by omega) (by omega)]
  exact zSd_kw (zE_ge t a) (fun i => zR_all i) h2 h3
theorem c_code {Q : Int64 → St → Prop} {x0 x1 x2 x3 : Int32} {n : Nat} {σ : St} (hn : ((((27 : Int64) * ((((27 : Int64) * ((((27 : Int64) * (x0.toInt64 - (96 : Int64))) + x1.toInt64) - (96 : Int64))) + x2.toInt64) - (96 : Int64))) + x3.toInt64) - (96 : Int64)) = lN n) (h : Q (lN n) σ) : SpJ Γ d mX12_code [.int x0, .int x1, .int x2, .int x3] σ w Q := SpJ.of pnX12 (Nat.le_of_ble_eq_true rfl) (vX12_code_0 (by rw [hn]; exact h))
theorem c_longer {Q : Int64 → St → Prop} {x : Int32} {m n : Nat} {σ : St} (hn : ((((27 : Int64) * lN m) + x.toInt64) - (96 : Int64)) = lN n) (h : Q (lN n) σ) : SpJ Γ d mX12_longer [.long (lN m), .int x] σ w Q := SpJ.of pnX12 (Nat.le_of_ble_eq_true rfl) (vX12_longer_0 (by rw [hn]; exact h))
theorem zNum_er {bd a : Nat} {f : Er} (h : zNum t bd a = .inl f) : (f.1 = 1 ∨ f.1 = 2) ∧ f.2 = sk t a := by
  unfold zNum zNm at h
  split at h
  · cases h; exact ⟨Or.inl rfl, rfl⟩
  · split at h
    · cases h; exact ⟨Or.inr rfl, rfl⟩
    · cases h
/-- what a number is worth behind j figures, as far as it matters -/
def nmOK (t : Tx) (b j : Nat) (x : Int32) : Prop := (j = 0 → x = 0) ∧ (j = 1 → x = nI (t.2 b - 48)) ∧ (j = 2 → x = nI (10 * (t.2 b - 48) + (t.2 (b + 1) - 48)))
theorem lp_takeNumber {Q : Int32 → St → Prop} {b bd : Nat} {x1 : Int32} (hw : RunW w) (ht : TxOK t) (hb : b ≤ t.1) (hx : ∀ v, v < 100 → (nI v ≤ x1 ↔ v < bd)) (hp : zP zD t b = true) : ∀ n j σ, t.1 - (b + j) = n → b + j ≤ t.1 → (∀ i, i < j → zD (t.2 (b + i)) = true) → zR zD t (b + j) = zR zD t b → (j = 0 → zR zD t b ≠ b) → TM σ t → gI σ 390 19 = nI (b + j) → gI σ 390 23 = nI b → nmOK t b j (gI σ 390 22) →
    (∀ f σ', zNm t bd b (zR zD t b) = .inl f → Fr scQ σ σ' → gI σ' 390 18 = nI f.2 → Q (nI f.1) σ') → (∀ x σ', zNm t bd b (zR zD t b) = .inr x → Fr scP σ σ' → gI σ' 390 19 = nI x.1 → gI σ' 390 22 = nI x.2 → gI σ' 390 23 = nI b → Q 0 σ') → AI Γ (d + 1) mX12_takeNumber w Q 42 [(0, .ref 390), (1, .int x1)] σ := by
  have h6 := ht.1
  -- the end of the figures
  have fin : ∀ j σ, b + j ≤ t.1 → (∀ i, i < j → zD (t.2 (b + i)) = true) → zR zD t b = b + j → zR zD t b ≠ b → gI σ 390 19 = nI (b + j) → gI σ 390 23 = nI b → nmOK t b j (gI σ 390 22) → (∀ f σ', zNm t bd b (zR zD t b) = .inl f → Fr scQ σ σ' → gI σ' 390 18 = nI f.2 → Q (nI f.1) σ') → (∀ x σ', zNm t bd b (zR zD t b) = .inr x → Fr scP σ σ' → gI σ' 390 19 = nI x.1 → gI σ' 390 22 = nI x.2 → gI σ' 390 23 = nI b → Q 0 σ') →
      ((2 < (nI (b + j) - nI b) → SpI Γ d mX12_fails [.ref 390, .int 2, .int (nI b)] σ w (fun v2 s1 => Q v2 s1)) ∧ (¬ 2 < (nI (b + j) - nI b) → (((gI σ 390 22) ≤ x1 → Q 0 σ) ∧ (¬ (gI σ 390 22) ≤ x1 → SpI Γ d mX12_fails [.ref 390, .int 2, .int (nI b)] σ w (fun v4 s3 => Q v4 s3))))) := by
    intro j σ hj hall he hne h19 h23 hv q1 q2
    have l2 : (2 : Int32) < nI (b + j) - nI b ↔ 2 < j := by
      rw [pk_sub (by omega), show b + j - b = j by omega]
      exact nI_ltI (a := 2) (by decide) (by omega)
    rw [l2]
    rw [he] at q1 q2 hne
    have hj0 : j ≠ 0 := by omega
    have er : ∀ s', Fr scQ σ s' → gI s' 390 18 = nI b → (2 < b + j - b ∨ bd ≤ zV t b (b + j)) → Q 2 s' := fun s' g1 g2 g3 => q1 (2, b) s' (by unfold zNm; rw [if_neg (by omega), if_pos g3]) g1 g2
    refine ⟨fun c => c_fails hw (er _ (fr_I (by decide)) (by rw [gI_uI, if_pos ⟨rfl, rfl⟩]) (Or.inl (by omega))), fun c => ?_⟩
    have hval : gI σ 390 22 = nI (zV t b (b + j)) ∧ zV t b (b + j) < 100 := by
      have z1 := hall 0 (by omega)
      unfold zD at z1
      simp only [Bool.and_eq_true, decide_eq_true_eq, Nat.add_zero] at z1
      unfold zV
      by_cases e1 : j = 1
      · subst e1
        rw [if_pos rfl]
        exact ⟨hv.2.1 rfl, by omega⟩
      · have e2 : j = 2 := by omega
        subst e2
        have z2 := hall 1 (by omega)
        unfold zD at z2
        simp only [Bool.and_eq_true, decide_eq_true_eq] at z2
        rw [if_neg (by omega)]
        exact ⟨hv.2.2 rfl, by omega⟩
    rw [hval.1, hx _ hval.2]
    refine ⟨fun c2 => q2 (b + j, zV t b (b + j)) σ (by unfold zNm; rw [if_neg (by omega), if_neg (by omega)]) (Fr.rf σ) h19 hval.1 h23, fun c2 => c_fails hw (er _ (fr_I (by decide)) (by rw [gI_uI, if_pos ⟨rfl, rfl⟩]) (Or.inr (by omega)))⟩
  intro n
  induction n with
  | zero =>
    intro j σ hn hj hall he hne hT h19 h23 hv q1 q2
    have e : zR zD t (b + j) = b + j := zR_end (by omega)
    have ne : zR zD t b ≠ b := by
      intro q
      rw [zP_run.mpr q] at hp
      cases hp
    refine vX12_takeNumber_42 hw ?_
    rw [hT.1, h19, h23]
    refine ⟨fun _ => fin j σ hj hall (he.symm.trans e) ne h19 h23 hv q1 q2, fun c => absurd (nI_le (by omega) (by omega)) c⟩
  | succ n ih =>
    intro j σ hn hj hall he hne hT h19 h23 hv q1 q2
    have hlt : b + j < t.1 := by omega
    have h256 := ht.2 (b + j)
    have ne : zR zD t b ≠ b := by
      intro q
      rw [zP_run.mpr q] at hp
      cases hp
    refine vX12_takeNumber_42 hw ?_
    rw [hT.1, h19, h23, cl (by omega), hT.2 _ hlt]
    refine ⟨fun c => absurd c (nI_ge hlt (by omega)), fun _ => ⟨vin (by omega), c_zD ht ?_⟩⟩
    rw [b2i_n0, b2i_0]
    refine ⟨fun c => ?_, fun c => ?_⟩
    · have e : zR zD t (b + j) = b + j := zR_no (fun _ => c)
      rw [h19, h23]
      exact fin j σ hj hall (he.symm.trans e) ne h19 h23 hv q1 q2
    · have e : zR zD t (b + j) = zR zD t (b + (j + 1)) := zR_yes hlt c
      have hc : 48 ≤ t.2 (b + j) ∧ t.2 (b + j) ≤ 57 := by
        unfold zD at c
        simpa using c
      have go : ∀ y, nmOK t b (j + 1) y → AI Γ (d + 1) mX12_takeNumber w Q 42 [(0, .ref 390), (1, .int x1)] (uI (uI σ 390 22 y) 390 19 (nI (b + j) + 1)) := by
        intro y hy
        rw [nI_1]
        have hf : Fr scP σ (uI (uI σ 390 22 y) 390 19 (nI (b + j + 1))) := (fr_I (by decide)).tr (fr_I (by decide))
        refine ih (j + 1) _ (by omega) (by omega) (fun i hi => ?_) (e.symm.trans he) (fun q => absurd q (by omega)) (hT.p hf) (by rw [gI_uI, if_pos ⟨rfl, rfl⟩]; rfl) (by rw [gI_uI, if_neg (by decide), gI_uI, if_neg (by decide)]; exact h23) (by rw [gI_uI, if_neg (by decide), gI_uI, if_pos ⟨rfl, rfl⟩]; exact hy) (fun f s g1 g2 g3 => q1 f s g1 ((hf.mono scP_Q).tr g2) g3) (fun x s g1 g2 g3 g4 g5 => q2 x s g1 (hf.tr g2) g3 g4 g5)
        by_cases ei : i = j
        · subst ei; exact c
        · exact hall i (by omega)
      rw [h19, cl (by omega), hT.2 _ hlt]
      refine ⟨fun c2 => ⟨vin (by omega), go _ ?_⟩, fun c2 => go _ ?_⟩
      · refine ⟨fun q => by omega, fun q => ?_, fun q => ?_⟩
        · have : j = 0 := by omega
          subst this
          rw [hv.1 rfl]
          show (10 : Int32) * 0 + nI (t.2 b) - nI 48 = _
          rw [show (10 : Int32) * 0 + nI (t.2 b) = nI (t.2 b) from (congrArg (· + nI (t.2 b)) (by decide : (10 : Int32) * 0 = nI 0)).trans (by rw [nI_add, Nat.zero_add]), pk_sub (a := t.2 b) hc.1]
        · have : j = 1 := by omega
          subst this
          have z1 := hall 0 (by omega)
          rw [hv.2.1 rfl]
          show nI 10 * nI (t.2 b - 48) + nI (t.2 (b + 1)) - nI 48 = _
          rw [nI_mul, nI_add, pk_sub (by omega)]
          congr 1
          omega
      · refine ⟨fun q => by omega, fun q => ?_, fun q => ?_⟩
        · have : j = 0 := by omega
          subst this
          rw [hv.1 rfl] at c2
          exact absurd (by decide) c2
        · have : j = 1 := by omega
          subst this
          have h256' := ht.2 b
          rw [hv.2.1 rfl] at c2
          exact absurd (nI_le (b := 1000) (by omega) (by decide)) c2
theorem c_takeNumber {Q : Int32 → St → Prop} {a bd : Nat} {x1 : Int32} {σ : St} (hw : RunW w) (ht : TxOK t) (ha : a ≤ t.1) (hx : ∀ v, v < 100 → (nI v ≤ x1 ↔ v < bd)) (hT : TM σ t) (hA : gI σ 390 19 = nI a) (q1 : ∀ f σ', zNum t bd a = .inl f → Fr scQ σ σ' → gI σ' 390 18 = nI f.2 → Q (nI f.1) σ') (q2 : ∀ x σ', zNum t bd a = .inr x → Fr scP σ σ' → gI σ' 390 19 = nI x.1 → gI σ' 390 22 = nI x.2 → gI σ' 390 23 = nI (sk t a) → Q 0 σ') : SpI Γ (d + 1) mX12_takeNumber [.ref 390, .int x1] σ w Q := by
  have h6 := ht.1
  have hs6 := sk_le ha
  refine SpI.of pnX12 (Nat.le_of_ble_eq_true rfl) (vX12_takeNumber_0 hw (c_here hw ht ha hT hA fun s hs h19 => c_hD ht ?_))
  have hs' := hs.mono scA_P
  rw [b2i_n0, b2i_0, h19]
  refine ⟨fun c => ?_, fun c => c_fails hw ?_⟩
  · have hf : Fr scP s (uI (uI s 390 23 (nI (sk t a))) 390 22 0) := (fr_I (by decide)).tr (fr_I (by decide))
    have hf2 := hs'.tr hf
    refine lp_takeNumber (bd := bd) hw ht hs6 hx c _ 0 _ rfl hs6 (fun i hi => absurd hi (Nat.not_lt_zero i)) rfl ?_ (hT.p hf2) (by rw [gI_uI, if_neg (by decide), gI_uI, if_neg (by decide)]; exact h19) (by rw [gI_uI, if_neg (by decide), gI_uI, if_pos ⟨rfl, rfl⟩]) ?_ (fun f s' g1 g2 g3 => q1 f s' g1 ((hf2.mono scP_Q).tr g2) g3) (fun x s' g1 g2 g3 g4 g5 => q2 x s' g1 (hf2.tr g2) g3 g4 g5)
    · intro _ q
      rw [zP_run.mpr q] at c
      cases c
    · exact ⟨fun _ => (by rw [gI_uI, if_pos ⟨rfl, rfl⟩]), fun q => absurd q (by decide), fun q => absurd q (by decide)⟩
  · have e := zP_run.mp c
    exact q1 (1, sk t a) _ (by unfold zNum zNm; rw [if_pos e]) ((hs'.mono scP_Q).tr (fr_I (by decide))) (by rw [gI_uI, if_pos ⟨rfl, rfl⟩])
end PH
