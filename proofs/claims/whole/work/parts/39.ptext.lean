/-! how a text is read: its value, for both programs -/
def zL (c : Nat) : Bool := decide (97 ≤ c) && decide (c ≤ 122)
def zD (c : Nat) : Bool := decide (48 ≤ c) && decide (c ≤ 57)
def zB (c : Nat) : Bool := c == 32
/-- a text: how long, its bytes -/
abbrev Tx : Type := Nat × (Nat → Nat)
def TxOK (t : Tx) : Prop := t.1 ≤ 600 ∧ ∀ i, t.2 i < 256
def rnF (p : Nat → Bool) (T : Nat → Nat) : Nat → Nat → Nat
  | 0, a => a
  | f + 1, a => if p (T a) then rnF p T f (a + 1) else a
/-- where a run of such bytes ends -/
def zR (p : Nat → Bool) (t : Tx) (a : Nat) : Nat := rnF p t.2 (t.1 - a) a
def sk (t : Tx) (a : Nat) : Nat := zR zB t a
theorem zR_end {p : Nat → Bool} {t : Tx} {a : Nat} (h : t.1 ≤ a) : zR p t a = a := by
  unfold zR
  rw [show t.1 - a = 0 by omega]
  rfl
theorem zR_step {p : Nat → Bool} {t : Tx} {a : Nat} (h : a < t.1) : zR p t a = if p (t.2 a) then zR p t (a + 1) else a := by
  unfold zR
  rw [show t.1 - a = (t.1 - (a + 1)) + 1 by omega]
  rfl
theorem zR_yes {p : Nat → Bool} {t : Tx} {a : Nat} (h : a < t.1) (hp : p (t.2 a) = true) : zR p t a = zR p t (a + 1) := by rw [zR_step h, hp]; rfl
theorem zR_no {p : Nat → Bool} {t : Tx} {a : Nat} (hp : a < t.1 → p (t.2 a) = false) : zR p t a = a := by
  rcases Nat.lt_or_ge a t.1 with h | h
  · rw [zR_step h, hp h]; rfl
  · exact zR_end h
theorem zR_ind {p : Nat → Bool} {t : Tx} (X : Nat → Prop) (h0 : ∀ a, (a < t.1 → p (t.2 a) = false) → X a) (h1 : ∀ a, a < t.1 → p (t.2 a) = true → X (a + 1) → X a) : ∀ n a, t.1 - a = n → X a := by
  intro n
  induction n with
  | zero => intro a ha; exact h0 a (fun h => by omega)
  | succ n ih =>
    intro a ha
    cases hp : p (t.2 a) with
    | false => exact h0 a (fun _ => hp)
    | true => exact h1 a (by omega) hp (ih (a + 1) (by omega))
theorem zR_ge (p : Nat → Bool) (t : Tx) (a : Nat) : a ≤ zR p t a := by
  refine zR_ind (p := p) (t := t) (fun a => a ≤ zR p t a) (fun a h => by rw [zR_no h]; exact Nat.le_refl _) (fun a h hp ih => ?_) _ a rfl
  rw [zR_yes h hp]
  omega
theorem zR_le {p : Nat → Bool} {t : Tx} {a : Nat} (ha : a ≤ t.1) : zR p t a ≤ t.1 := by
  revert ha
  refine zR_ind (p := p) (t := t) (fun a => a ≤ t.1 → zR p t a ≤ t.1) (fun a h ha => by rw [zR_no h]; exact ha) (fun a h hp ih ha => ?_) _ a rfl
  rw [zR_yes h hp]
  exact ih h
theorem zR_all {p : Nat → Bool} {t : Tx} {a : Nat} : ∀ i, a ≤ i → i < zR p t a → p (t.2 i) = true := by
  refine zR_ind (p := p) (t := t) (fun a => ∀ i, a ≤ i → i < zR p t a → p (t.2 i) = true) (fun a h i h1 h2 => by rw [zR_no h] at h2; omega) (fun a h hp ih i h1 h2 => ?_) _ a rfl
  rw [zR_yes h hp] at h2
  by_cases e : i = a
  · subst e; exact hp
  · exact ih i (by omega) h2
theorem zR_stop {p : Nat → Bool} {t : Tx} {a : Nat} : zR p t a < t.1 → p (t.2 (zR p t a)) = false := by
  refine zR_ind (p := p) (t := t) (fun a => zR p t a < t.1 → p (t.2 (zR p t a)) = false) (fun a h q => by rw [zR_no h] at q ⊢; exact h q) (fun a h hp ih q => ?_) _ a rfl
  rw [zR_yes h hp] at q ⊢
  exact ih q
/-- a byte of that kind stands there -/
def zP (p : Nat → Bool) (t : Tx) (a : Nat) : Bool := decide (a < t.1) && p (t.2 a)
def zC (t : Tx) (a c : Nat) : Bool := decide (a < t.1) && t.2 a == c
def hd (t : Tx) (a : Nat) : Int32 := if a < t.1 then nI (t.2 a) else -1
theorem zP_run {p : Nat → Bool} {t : Tx} {a : Nat} : zP p t a = false ↔ zR p t a = a := by
  unfold zP
  rcases Nat.lt_or_ge a t.1 with h | h
  · rw [zR_step h]
    have := zR_ge p t (a + 1)
    cases p (t.2 a)
    · simp
    · simp [h]; omega
  · rw [zR_end h]
    simp; omega
theorem zP_pos {p : Nat → Bool} {t : Tx} {a : Nat} (h : zP p t a = true) : a < t.1 ∧ p (t.2 a) = true := by
  unfold zP at h
  simpa using h
theorem zC_pos {t : Tx} {a c : Nat} (h : zC t a c = true) : a < t.1 ∧ t.2 a = c := by
  unfold zC at h
  simpa using h
theorem sk_ge (t : Tx) (a : Nat) : a ≤ sk t a := zR_ge _ _ _
theorem sk_le {t : Tx} {a : Nat} (h : a ≤ t.1) : sk t a ≤ t.1 := zR_le h
theorem sk_sk (t : Tx) (a : Nat) : sk t (sk t a) = sk t a := zR_no (fun h => zR_stop h)
theorem sk_of {p : Nat → Bool} {t : Tx} {a : Nat} (hp : ∀ c, p c = true → zB c = false) (h : zP p t a = true) : sk t a = a := zR_no (fun _ => hp _ (zP_pos h).2)
theorem zL_nb {c : Nat} (h : zL c = true) : zB c = false := by
  unfold zL at h
  unfold zB
  simp only [Bool.and_eq_true, decide_eq_true_eq] at h
  simp
  omega
theorem zD_nb {c : Nat} (h : zD c = true) : zB c = false := by
  unfold zD at h
  unfold zB
  simp only [Bool.and_eq_true, decide_eq_true_eq] at h
  simp
  omega
theorem hd_eq {t : Tx} {a c : Nat} (ht : TxOK t) (hc : c < 256) : hd t a = nI c ↔ zC t a c = true := by
  unfold hd zC
  have := ht.2 a
  by_cases h : a < t.1
  · rw [if_pos h, nI_eq (by omega) (by omega)]
    simp [h]
  · rw [if_neg h]
    simp [h]
    intro e
    exact nI_ne_m1 (n := c) (by omega) e.symm
theorem hd_neg {t : Tx} {a : Nat} (ht : TxOK t) : hd t a < 0 ↔ t.1 ≤ a := by
  unfold hd
  have := ht.2 a
  by_cases h : a < t.1
  · rw [if_pos h]
    exact ⟨fun q => absurd q (nI_pos (by omega)), fun q => by omega⟩
  · rw [if_neg h]
    exact ⟨fun _ => by omega, fun _ => by decide⟩
theorem inR_nI {c a b : Nat} (hc : c < 2 ^ 31) : inR (nI c) a b = (decide (a ≤ c) && decide (c ≤ b)) := by
  unfold inR
  rw [nI_toInt hc]
  congr 1 <;> rw [decide_eq_decide] <;> omega
theorem inR_m1 {a b : Nat} : inR (-1) a b = false := by
  unfold inR
  have : (-1 : Int32).toInt = -1 := by decide
  rw [this]
  simp
  omega
theorem hd_L {t : Tx} {a : Nat} (ht : TxOK t) : inR (hd t a) 97 122 = zP zL t a := by
  unfold hd zP
  have := ht.2 a
  by_cases h : a < t.1
  · rw [if_pos h, inR_nI (by omega)]
    simp [h, zL]
  · rw [if_neg h, inR_m1]
    simp [h]
theorem hd_D {t : Tx} {a : Nat} (ht : TxOK t) : inR (hd t a) 48 57 = zP zD t a := by
  unfold hd zP
  have := ht.2 a
  by_cases h : a < t.1
  · rw [if_pos h, inR_nI (by omega)]
    simp [h, zD]
  · rw [if_neg h, inR_m1]
    simp [h]
/-- what is read, or the fault: its kind, its place -/
abbrev Er : Type := Nat × Nat
def zV (t : Tx) (b e : Nat) : Nat := if e = b + 1 then t.2 b - 48 else 10 * (t.2 b - 48) + (t.2 (b + 1) - 48)
def zNm (t : Tx) (bd b e : Nat) : Er ⊕ (Nat × Nat) := if e = b then .inl (1, b) else if 2 < e - b ∨ bd ≤ zV t b e then .inl (2, b) else .inr (e, zV t b e)
def zNum (t : Tx) (bd a : Nat) : Er ⊕ (Nat × Nat) := zNm t bd (sk t a) (zR zD t (sk t a))
theorem zNum_ok {t : Tx} {bd a c v : Nat} (h : zNum t bd a = .inr (c, v)) (ha : a ≤ t.1) : v < bd ∧ v < 100 ∧ a < c ∧ c ≤ t.1 ∧ c = zR zD t (sk t a) := by
  have e1 := zR_ge zD t (sk t a)
  have e2 : zR zD t (sk t a) ≤ t.1 := zR_le (sk_le ha)
  have e3 := sk_ge t a
  unfold zNum zNm at h
  split at h
  · cases h
  · rename_i h1
    split at h
    · cases h
    · rename_i h2
      cases h
      have z1 := zR_all (p := zD) (t := t) (a := sk t a) (sk t a) (Nat.le_refl _) (by omega)
      have hv : zV t (sk t a) (zR zD t (sk t a)) < 100 := by
        unfold zV
        unfold zD at z1
        simp only [Bool.and_eq_true, decide_eq_true_eq] at z1
        split
        · omega
        · rename_i h3
          have z2 := zR_all (p := zD) (t := t) (a := sk t a) (sk t a + 1) (by omega) (by omega)
          unfold zD at z2
          simp only [Bool.and_eq_true, decide_eq_true_eq] at z2
          omega
      exact ⟨by omega, hv, by omega, e2, rfl⟩
/-- the letters from b to e are these -/
def zK (t : Tx) (b e : Nat) (l : List Nat) : Bool := decide (e = b + l.length) && allB (fun i => t.2 (b + i) == l.getD i 0) l.length
def kSign : List Nat := [115, 105, 103, 110]
def kWord : List Nat := [119, 111, 114, 100]
def kLesson : List Nat := [108, 101, 115, 115, 111, 110]
def kPage : List Nat := [112, 97, 103, 101]
def kStart : List Nat := [115, 116, 97, 114, 116]
def kEnd : List Nat := [101, 110, 100]
def kAfter : List Nat := [97, 102, 116, 101, 114]
def kSigns : List Nat := [115, 105, 103, 110, 115]
def kSight : List Nat := [115, 105, 103, 104, 116]
theorem zK_ne {t : Tx} {b e : Nat} {l l' : List Nat} (h : zK t b e l = true) (hl : l ≠ l') : zK t b e l' = false := by
  cases h2 : zK t b e l' with
  | false => rfl
  | true =>
    unfold zK at h h2
    simp only [Bool.and_eq_true, decide_eq_true_eq, allB_iff, beq_iff_eq] at h h2
    refine absurd (List.ext_getElem (by omega) (fun i h3 h4 => ?_)) hl
    have z1 := h.2 i h3
    have z2 := h2.2 i h4
    rw [z1] at z2
    rw [List.getD_eq_getElem?_getD, List.getD_eq_getElem?_getD, List.getElem?_eq_getElem h3, List.getElem?_eq_getElem h4] at z2
    exact z2
/-- the end of the letters at a -/
def zE (t : Tx) (a : Nat) : Nat := zR zL t (sk t a)
def zSnd (t : Tx) (a : Nat) : Er ⊕ (Nat × Int32) := if zC t (sk t a) 45 then .inr (sk t a + 1, -1) else match zNum t 30 a with
  | .inl f => .inl f
  | .inr x => .inr (x.1, nI x.2)
def zSide (t : Tx) (a : Nat) : Er ⊕ (Nat × Int32) := if zE t a = sk t a then .inr (sk t a, 0) else if zK t (sk t a) (zE t a) kStart then .inr (zE t a, 1) else if zK t (sk t a) (zE t a) kEnd then .inr (zE t a, 2) else .inl (1, sk t a)
/-- a sign more -/
def adS (t : Tx) (D : PV) (b n : Nat) (s sd : Int32) : PV := fun r i j => match r with
  | 0 => if i = 0 then nI (nS D + 1) else D 0 i j
  | 1 => if i = nS D then nI n else D 1 i j
  | 2 => if i = nS D then nI (t.2 (b + j) - 97) else D 2 i j
  | 3 => if i = nS D then s else D 3 i j
  | 4 => if i = nS D then sd else D 4 i j
  | r + 5 => D (r + 5) i j
def zSign (t : Tx) (D : PV) (fr a : Nat) : Er ⊕ (Nat × PV) := if nS D = 20 then .inl (3, fr) else if zE t a = sk t a then .inl (1, sk t a) else if 4 < zE t a - sk t a then .inl (4, sk t a + 4) else
  match zSnd t (zE t a) with
  | .inl f => .inl f
  | .inr x => match zSide t x.1 with
    | .inl f => .inl f
    | .inr y => .inr (y.1, adS t D (sk t a) (zE t a - sk t a) x.2 y.2)
/-- the word with these letters -/
def mtW (t : Tx) (D : PV) (b e v : Nat) : Bool := decide (wS D v = e - b) && allB (fun i => D 6 v i == nI (t.2 (b + i) - 97)) (e - b)
def wOf (t : Tx) (D : PV) (b e : Nat) : Nat → Option Nat
  | 0 => none
  | n + 1 => if mtW t D b e n then some n else wOf t D b e n
/-- words are unlike -/
def WU (D : PV) : Prop := ∀ v v', v < nW D → v' < nW D → wS D v = wS D v' → (∀ i, i < wS D v → D 6 v i = D 6 v' i) → v = v'
def adW (t : Tx) (D : PV) (b n : Nat) (ss : List Int32) : PV := fun r i j => match r with
  | 0 => if i = 1 then nI (nW D + 1) else D 0 i j
  | 5 => if i = nW D then nI n else D 5 i j
  | 6 => if i = nW D then nI (t.2 (b + j) - 97) else D 6 i j
  | 7 => if i = nW D then nI ss.length else D 7 i j
  | 8 => if i = nW D then ss.getD j 0 else D 8 i j
  | r => D r i j
def zSnds (t : Tx) : Nat → Nat → List Int32 → Er ⊕ (Nat × List Int32)
  | 0, _, _ => .inl (0, 0)
  | f + 1, a, ss => match zNum t 30 a with
    | .inl x => .inl x
    | .inr x => if ss.length = 8 then .inl (4, sk t a) else if zP zD t (sk t x.1) then zSnds t f (sk t x.1) (ss ++ [nI x.2]) else .inr (sk t x.1, ss ++ [nI x.2])
def zWord (t : Tx) (D : PV) (fr a : Nat) : Er ⊕ (Nat × PV) := if nW D = 24 then .inl (3, fr) else if zE t a = sk t a then .inl (1, sk t a) else
  match wOf t D (sk t a) (zE t a) (nW D) with
  | some _ => .inl (5, sk t a)
  | none => if 8 < zE t a - sk t a then .inl (4, sk t a + 8) else
    match zSnds t 601 (zE t a) [] with
    | .inl f => .inl f
    | .inr x => .inr (x.1, adW t D (sk t a) (zE t a - sk t a) x.2)
def zList (t : Tx) (bd : Nat) : Nat → Nat → Int32 → Er ⊕ (Nat × Int32)
  | 0, _, _ => .inl (0, 0)
  | f + 1, a, set => match zNum t bd a with
    | .inl x => .inl x
    | .inr x => if bt set x.2 then .inl (6, sk t a) else if zC t (sk t x.1) 44 then zList t bd f (sk t x.1 + 1) (set ||| (1 <<< (nI x.2 &&& 31))) else .inr (sk t x.1, set ||| (1 <<< (nI x.2 &&& 31)))
def zOpt (t : Tx) (kw : List Nat) (bd a : Nat) : Er ⊕ (Nat × Int32) := if zK t (sk t a) (zE t a) kw then zList t bd 601 (zE t a) 0 else .inr (sk t a, 0)
def adL (D : PV) (x y z : Int32) : PV := fun r i j => match r with
  | 0 => if i = 2 then nI (nL D + 1) else D 0 i j
  | 9 => if i = nL D then (if j = 0 then x else if j = 1 then y else if j = 2 then z else 0) else D 9 i j
  | r => D r i j
def zLesson (t : Tx) (D : PV) (fr a : Nat) : Er ⊕ (Nat × PV) := if nL D = 7 then .inl (3, fr) else
  match zOpt t kAfter (nL D) a with
  | .inl f => .inl f
  | .inr x => match zOpt t kSigns (nS D) x.1 with
    | .inl f => .inl f
    | .inr y => match zOpt t kSight (nW D) y.1 with
      | .inl f => .inl f
      | .inr z => .inr (z.1, adL D x.2 y.2 z.2)
def pgSet : List Nat → Int32
  | [] => 0
  | v :: l => (1 <<< (nI v &&& 31)) ||| pgSet l
def adP (D : PV) (l : List Nat) : PV := fun r i j => match r with
  | 0 => if i = 3 then nI (nP D + 1) else D 0 i j
  | 10 => if i = nP D then nI l.length else D 10 i j
  | 11 => if i = nP D then nI (l.getD j 0) else D 11 i j
  | 12 => if i = nP D then pgSet l else D 12 i j
  | r => D r i j
def zPg (t : Tx) (D : PV) : Nat → Nat → List Nat → Er ⊕ (Nat × List Nat)
  | 0, _, _ => .inl (0, 0)
  | f + 1, a, l => if zE t a = sk t a then .inl (1, sk t a) else if l.length = 16 then .inl (4, sk t a) else
    match wOf t D (sk t a) (zE t a) (nW D) with
    | none => .inl (5, sk t a)
    | some v => if zP zL t (sk t (zE t a)) then zPg t D f (sk t (zE t a)) (l ++ [v]) else .inr (sk t (zE t a), l ++ [v])
def zPage (t : Tx) (D : PV) (fr a : Nat) : Er ⊕ (Nat × PV) := if nP D = 8 then .inl (3, fr) else
  match zPg t D 601 a [] with
  | .inl f => .inl f
  | .inr x => .inr (x.1, adP D x.2)
def zBody (t : Tx) (D : PV) (b e : Nat) : Er ⊕ (Nat × PV) := if zK t b e kSign then zSign t D b e else if zK t b e kWord then zWord t D b e else if zK t b e kLesson then zLesson t D b e else if zK t b e kPage then zPage t D b e else .inl (1, b)
def zSemi (t : Tx) (r : Er ⊕ (Nat × PV)) : Er ⊕ (Nat × PV) := match r with
  | .inl f => .inl f
  | .inr x => if zC t (sk t x.1) 59 then .inr (sk t x.1 + 1, x.2) else .inl (1, sk t x.1)
def zClause (t : Tx) (D : PV) (a : Nat) : Er ⊕ (Nat × PV) := zSemi t (zBody t D (sk t a) (zE t a))
/-- all clauses: how many, what they tell -/
def zAll (t : Tx) : Nat → Nat → PV → Nat → Er ⊕ (Nat × PV)
  | 0, n, D, _ => .inr (n, D)
  | f + 1, n, D, a => if sk t a < t.1 then (match zClause t D (sk t a) with
    | .inl x => .inl x
    | .inr x => zAll t f (n + 1) x.2 x.1) else .inr (n, D)
def pv0 : PV := fun _ _ _ => 0
def zTop (t : Tx) : Er ⊕ (Nat × PV) := zAll t 601 0 pv0 0
