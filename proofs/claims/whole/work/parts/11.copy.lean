/-! a copy between arrays; the tables' checks -/
section Copy
variable {Γ : Gx} {d : Nat} {μ : MD} {Q : Option Value → St → Wd → Prop} {pc : Nat} {L : Lv} {S : List Value} {σ : St} {w : Wd} {cc zz : Nat}
theorem aw_copy {nn w1 w2 w3 w4 : Nat} {a b : Nat} {n dp sp : Int32} (hd : decode (mB μ) pc = .ok (.invokestatic nn, 3)) (hl1 : lw_tbl[w1]? = some (.methodLink (mN μ).cls nn arraycopyName)) (hl2 : lw_tbl[w2]? = some (.native arraycopyName)) (hl3 : lw_tbl[w3]? = some (.static arraycopyName)) (hl4 : lw_tbl[w4]? = some (.initialized "java/lang/System"))
    (ha : okO w a 20) (hb0 : okO w b 20) (h1 : ¬ sp < 0) (h2 : ¬ dp < 0) (h3 : ¬ n < 0) (h4 : sp.toNatClampNeg + n.toNatClampNeg ≤ (kd a).2) (h5 : dp.toNatClampNeg + n.toNatClampNeg ≤ (kd b).2) (hS : catS S ≤ 8)
    (k : AW Γ (d + 1) μ Q (pc + 3) L S (cS σ a b sp.toNatClampNeg dp.toNatClampNeg n.toNatClampNeg) w cc zz) : AW Γ (d + 1) μ Q pc L (.int n :: .int dp :: .ref b :: .int sp :: .ref a :: S) σ w cc zz := by
  intro p l e s m args below meth c Z hF hR H locs ls hH hlo hl hc hz
  have kk := fun H locs hH hlo => k p l e s m args below meth c Z hF hR H locs ls hH hlo hl hc hz
  obtain ⟨hx, hb, hml, -, -, hown, -, -, hK⟩ := hF
  have wd : ∀ {i : Nat} {x : Cond}, lw_tbl[i]? = some x → goodWord x = true → x.before args s = true := fun h g => hK.1 _ (List.mem_of_getElem? h) g args
  have nn' : ∀ z : Int32, ¬ z < 0 → z.toInt = (z.toNatClampNeg : Int) := by
    intro z hz
    have hz0 : (0 : Int) ≤ z.toInt := by
      have := Int32.not_lt.mp hz
      simpa using Int32.le_iff_toInt_le.mp this
    show z.toInt = ((z.toInt.toNat : Nat) : Int)
    omega
  obtain ⟨c0, i0, -⟩ := ar_facts (t := 0) hK hH ha.1 ha.2 (by decide)
  obtain ⟨c1, i1, -⟩ := ar_facts (t := 0) hK hH hb0.1 hb0.2 (by decide)
  rw [av_i (Or.inl ha.2)] at c0
  rw [av_i (Or.inl hb0.2)] at c1
  intro T hT X
  obtain ⟨-, k0, hk0, cm0, hkk0⟩ := i0 (kd a).2 (fun j => .int (gI σ a j))
  obtain ⟨-, k1, hk1, cm1, hkk1⟩ := i1 (kd b).2 (fun j => .int (gI σ b j))
  obtain ⟨vm', X', step⟩ := X.arraycopy hx hown (wd hl1 rfl) (wd hl2 rfl) (wd hl3 rfl) (wd hl4 rfl) (src := gz Γ + a) (dst := gz Γ + b) (srcPos := sp) (destPos := dp) (n := n) (by rw [hT]; exact c0) (by rw [hT]; exact c1)
    (fun _ h => by cases h) (fun _ h => by cases h) (fun h => by cases h) (fun h => by cases h) hk0 hk1 hkk0 hkk1 (by rfl) h1 h2 h3
    (by rw [nn' sp h1, nn' n h3, arrV_size]; omega)
    (by rw [nn' dp h2, nn' n h3, arrV_size]; omega)
    (fun vm₁ _ i hi => by
      have e : (arrV (xA Γ 0) (kd a).2 (fun j => .int (gI σ a j))).slots.getD (sp.toNatClampNeg + i) .null = .int (gI σ a (sp.toNatClampNeg + i)) := by
        rw [Array.getD_eq_getD_getElem?, arrV_read _ _ (by omega)]
        rfl
      refine ⟨?_, ?_⟩
      · rw [e]
        rfl
      · rw [e]
        exact trivial)
    (g := F0 m pc ls ((Value.int n :: .int dp :: .ref b :: .int sp :: .ref a :: S).map (cv Γ))) rfl (by rw [hml]; exact hl.1) (rest := S.map (cv Γ)) rfl (by rw [hb]; exact hd) (by show 1 ≤ d + 1; omega) (by
      show 2 * 0 + _ + _ ≤ 36 * (d + 1)
      rw [sum_cv]
      have : nativeFrameWords "java/lang/System" "arraycopy" 5 ≤ 8 := by decide +kernel
      omega)
  have e1 : copied (arrV (xA Γ 0) (kd a).2 (fun j => .int (gI σ a j))) (arrV (xA Γ 0) (kd b).2 (fun j => .int (gI σ b j))) sp dp n = arrV (xA Γ 0) (kd b).2 (fun j => .int (va_cpy (gI σ a) (gI σ b) sp.toNatClampNeg dp.toNatClampNeg n.toNatClampNeg j)) := va_copied (fun z => .int z) _ _ _ _ h4
  rw [e1] at X' step
  have hlt : gz Γ + b < H.size := (Array.getElem?_eq_some_iff.mp c1).1
  generalize hC : arrV (xA Γ 0) (kd b).2 (fun j => Value.int (va_cpy (gI σ a) (gI σ b) sp.toNatClampNeg dp.toNatClampNeg n.toNatClampNeg j)) = C at X' step
  have hheap : ((T.setVm vm').setCell (gz Γ + b) C).heap = H.setIfInBounds (gz Γ + b) C := by rw [← hT]; rfl
  have hHR : HR Γ (cS σ a b sp.toNatClampNeg dp.toNatClampNeg n.toNatClampNeg) w (H.setIfInBounds (gz Γ + b) C) := by
    refine hH.at_one rfl hb0.1 (by simp) (fun q hq => by simp [Array.getElem?_setIfInBounds, Ne.symm hq]) ?_ (fun i hi => ⟨fun k => ?_, fun j => ?_⟩)
    · rw [atC_a (by rw [hb0.2]; decide), hb0.2]
      show (H.setIfInBounds (gz Γ + b) C)[gz Γ + b]? = some (arrV (xA Γ 0) _ _)
      rw [av_i (Or.inl rfl)]
      rw [show (H.setIfInBounds (gz Γ + b) C)[gz Γ + b]? = some C by simp [Array.getElem?_setIfInBounds, hlt], ← hC]
      congr 2
      funext j
      show _ = Value.int (if b = b then _ else _)
      rw [if_pos rfl]
      rfl
    · unfold fv gI gJ gR cS
      simp only [hi, if_false]
    · unfold av gI gJ cS
      simp only [hi, if_false]
  obtain ⟨t, a1, b1⟩ := kk _ _ hHR (by
    intro q hq
    rcases List.mem_append.mp hq with h | h
    · exact hlo q h
    · obtain ⟨z, -, hz⟩ := List.mem_map.mp h
      rw [← hz]
      exact Nat.le_add_right _ _) _ hheap X'
  exact ⟨t, step t a1, b1⟩
end Copy
/-- constants -/
def kCk (C : String) (n : Nat) (v : Value) (wi : Nat) : Bool := match v with
  | .int x => decide (lw_tbl[wi]? = some (.constant C n x))
  | .long x => decide (lw_tbl[wi]? = some (.constantLong C n x))
  | .retAddr k => decide (C = RX3) && decide (1 ≤ k) && decide (k ≤ 9) && decide (txI (k - 1) = n)
  | _ => false
/-- classes to make -/
def nCk (C : String) (n t : Nat) (ws : List Nat) : Bool := match vwCl[t]? with
  | some q => decide (lw_tbl[ws.getD 0 0]? = some (.classLink C n q.1)) && decide (lw_tbl[ws.getD 1 0]? = some (.instantiable q.1 q.2.2)) && decide (lw_tbl[ws.getD 2 0]? = some (.initialized q.1))
  | none => match t with
    | 24 => decide (lw_tbl[ws.getD 0 0]? = some (.classLink C (n - 100000) RX7))
    | 25 => decide (lw_tbl[ws.getD 0 0]? = some (.classLink C (n - 100000) RX10))
    | 26 => decide (lw_tbl[ws.getD 0 0]? = some (.classLink C (n - 100000) RX5))
    | 27 => decide (lw_tbl[ws.getD 0 0]? = some (.classLink C (n - 100000) RX6))
    | 28 => decide (lw_tbl[ws.getD 0 0]? = some (.classLink C n "[[I"))
    | _ => false
def oCk (C : String) (n : Nat) (ws : List Nat) : Bool := decide (lw_tbl[ws.getD 0 0]? = some (.methodLink C n Lib.objectInit)) && decide (lw_tbl[ws.getD 1 0]? = some (.instanceMethod Lib.objectInit)) && decide (lw_tbl[ws.getD 2 0]? = some (.code Lib.objectInit ⟨#[0xb1]⟩ 1 none))
def pCk (C : String) (n : Nat) (ws : List Nat) : Bool := decide (lw_tbl[ws.getD 0 0]? = some (.methodLink C n arraycopyName)) && decide (lw_tbl[ws.getD 1 0]? = some (.native arraycopyName)) && decide (lw_tbl[ws.getD 2 0]? = some (.static arraycopyName)) && decide (lw_tbl[ws.getD 3 0]? = some (.initialized "java/lang/System"))
/-- fields, the texts' too -/
def fxCk (C : String) (q : Nat × Nat × Nat × Nat) (wi : Nat) : Bool := match q.2.2.2 with
  | 7 => decide (lw_tbl[wi]? = some (.fieldLink C q.1 "java/lang/String" "value" "[B"))
  | 8 => decide (lw_tbl[wi]? = some (.fieldLink C q.1 "java/lang/String" "coder" "B"))
  | 9 => decide (lw_tbl[wi]? = some (.fieldLink C q.1 "java/lang/String" "COMPACT_STRINGS" "Z"))
  | 10 => decide (lw_tbl[wi]? = some (.fieldLink C q.1 "jdk/internal/util/Preconditions" "SIOOBE_FORMATTER" "Ljava/util/function/BiFunction;"))
  | _ => fCk C q wi
/-- a class's tables are right -/
def tbOK (C : String) (T : Tb) : Prop := (∀ n e, T.1.lookup n = some e → ∃ wi, fxCk C (n, e) wi = true) ∧ (∀ n k ν, T.2.1.lookup n = some (k, ν) → ∃ ws, (if k = 4 then pCk C n ws else cCk C n k ν ws) = true) ∧
  (∀ n v, T.2.2.1.lookup n = some v → ∃ wi, kCk C n v wi = true) ∧ (∀ n t, T.2.2.2.1.lookup n = some t → ∃ ws, nCk C n t ws = true) ∧ (∀ n, T.2.2.2.2.1.contains n = true → ∃ ws, oCk C n ws = true)
theorem al_mem {α : Type} {l : List (Nat × α)} {n : Nat} {v : α} (h : l.lookup n = some v) : (n, v) ∈ l := by
  induction l with
  | nil => simp [List.lookup] at h
  | cons q r ih =>
    obtain ⟨a, b⟩ := q
    by_cases e : n = a
    · subst e
      simp [List.lookup] at h
      subst h
      exact List.mem_cons_self
    · have : (n == a) = false := by simp [e]
      simp [List.lookup, this] at h
      exact List.mem_cons_of_mem _ (ih h)
theorem tbOK_of {C : String} {T : Tb} (h1 : ∀ q ∈ T.1, ∃ wi, fxCk C q wi = true) (h2 : ∀ q ∈ T.2.1, ∃ ws, (if q.2.1 = 4 then pCk C q.1 ws else cCk C q.1 q.2.1 q.2.2 ws) = true) (h3 : ∀ q ∈ T.2.2.1, ∃ wi, kCk C q.1 q.2 wi = true) (h4 : ∀ q ∈ T.2.2.2.1, ∃ ws, nCk C q.1 q.2 ws = true) (h5 : ∀ n ∈ T.2.2.2.2.1, ∃ ws, oCk C n ws = true) : tbOK C T :=
  ⟨fun _ _ he => h1 _ (al_mem he), fun _ _ _ he => h2 _ (al_mem he), fun _ _ he => h3 _ (al_mem he), fun _ _ he => h4 _ (al_mem he), fun n he => h5 n (by simpa using he)⟩
/-- a method's instructions are right -/
def swCk (pc : Nat) (i : Instr) (cs : List (Int32 × Nat)) (df : Nat) : Bool := match i with
  | .tableswitch dflt lo hi offs => decide (hi - lo + 1 = offs.size) && decide (-100 ≤ lo ∧ hi ≤ 100) && decide ((pc : Int) + dflt = (df : Int)) && decide (cs.length = offs.size) && (List.range offs.size).all (fun j => decide (((cs.getD j (0, 0)).1).toInt = lo + j) && decide ((pc : Int) + (offs[j]?).getD 0 = ((cs.getD j (0, 0)).2 : Int)))
  | _ => false
def msOK (μ : MD) (is : Is) (sw : Sw) : Prop := (∀ pc e, is.lookup pc = some e → iCk (mB μ) (pc, e) = true) ∧ ∀ pc i len cst tgt nx cs df, is.lookup pc = some (i, len, cst, tgt, nx) → sw.lookup pc = some (cs, df) → (∃ a b c e, i = .tableswitch a b c e) → swCk pc i cs df = true
def msCk (μ : MD) (is : Is) (sw : Sw) : Bool := is.all (fun q => iCk (mB μ) q) && sw.all (fun q => match is.lookup q.1 with | some e => swCk q.1 e.1 q.2.1 q.2.2 | none => true)
theorem msOK_of {μ : MD} {is : Is} {sw : Sw} (h : msCk μ is sw = true) : msOK μ is sw := by
  unfold msCk at h
  simp only [Bool.and_eq_true] at h
  refine ⟨fun pc e he => List.all_eq_true.mp h.1 _ (al_mem he), fun pc i len cst tgt nx cs df h1 h2 _ => ?_⟩
  have := List.all_eq_true.mp h.2 _ (al_mem h2)
  rw [show (pc, cs, df).1 = pc from rfl, h1] at this
  exact this
