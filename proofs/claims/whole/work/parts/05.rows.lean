/-! the engine's rows: one for each kind of instruction -/
theorem lk_mem {L : Lv} {n : Nat} {v : Value} (h : L.lookup n = some v) : (n, v) ∈ L := by
  induction L with
  | nil => simp [List.lookup] at h
  | cons q r ih =>
    obtain ⟨a, b⟩ := q
    by_cases e : n = a
    · subst e
      simp [List.lookup] at h
      subst h
      exact List.mem_cons_self
    · have : (n == a) = false := by simp [e]
      simp [List.lookup, this] at h
      exact List.mem_cons_of_mem _ (ih h)
theorem lk_at {Γ : Gx} {ls : Array Slot} {nL n : Nat} {L : Lv} {v : Value} (hl : lv_has ls nL (cL Γ L)) (h : L.lookup n = some v) : ls[n]? = some (.val (cv Γ v)) :=
  hl.2.2 (n, cv Γ v) (List.mem_map.mpr ⟨(n, v), lk_mem h, rfl⟩)
theorem lk_pick {Γ : Gx} {ls : Array Slot} {nL : Nat} {L : Lv} (ks : List Nat) (hl : lv_has ls nL (cL Γ L)) : lv_has ls nL (cL Γ (pickL ks L)) := by
  refine ⟨hl.1, hl.2.1, fun q hq => ?_⟩
  obtain ⟨q', h1, rfl⟩ := List.mem_map.mp hq
  obtain ⟨k, -, h2⟩ := List.mem_filterMap.mp h1
  cases h3 : L.lookup k with
  | none => rw [h3] at h2; cases h2
  | some v =>
    rw [h3] at h2
    cases h2
    exact lk_at hl h3
theorem cL_put1 (Γ : Gx) (L : Lv) (i : Nat) (v : Value) : (i, cv Γ v) :: (cL Γ L).filter (fun q => !(q.1 == i) && !(q.1 + 1 == i && q.2.category == 2)) = cL Γ (putL1 L i v) := by
  unfold putL1 cL
  rw [List.map_cons, List.filter_map]
  congr 2
  apply List.filter_congr
  intro q _
  simp [Function.comp, cv_cat]
theorem cL_put2 (Γ : Gx) (L : Lv) (i : Nat) (v : Value) : (i, cv Γ v) :: (cL Γ L).filter (fun q => !(q.1 == i) && (!(q.1 == i + 1) && !(q.1 + 1 == i && q.2.category == 2))) = cL Γ (putL2 L i v) := by
  unfold putL2 cL
  rw [List.map_cons, List.filter_map]
  congr 2
  apply List.filter_congr
  intro q _
  simp [Function.comp, cv_cat]
theorem AW.pick {Γ : Gx} {d : Nat} {μ : MD} {Q : Option Value → St → Wd → Prop} {pc : Nat} {L : Lv} {S : List Value} {σ : St} {w : Wd} {cc zz : Nat} (ks : List Nat) (h : AW Γ d μ Q pc (pickL ks L) S σ w cc zz) : AW Γ d μ Q pc L S σ w cc zz :=
  fun p l e s m args below meth c Z hF hR H locs ls hH hlo hl hc hz => h p l e s m args below meth c Z hF hR H locs ls hH hlo (lk_pick ks hl) hc hz
/-- a field's type, its kind -/
def ftk (t : Option FieldType) (kn : Nat) : Bool := match t, kn with
  | some .int, 0 => true
  | some .long, 1 => true
  | some (.object _), 2 => true
  | some (.array _), 2 => true
  | some (.object _), 3 => true
  | some .boolean, 4 => true
  | _, _ => false
/-- the words of a table: its check by program -/
def fCk (C : String) (q : Nat × Nat × Nat × Nat) (wi : Nat) : Bool := match vwCl[q.2.1]? with
  | some (R, T, N) => decide (q.2.2.1 < N) && decide (lw_tbl[wi]? = some (.fieldLink C q.1 R (T q.2.2.1).2.1 (T q.2.2.1).2.2.1)) && decide ((T q.2.2.1).1 = R) && decide (fk q.2.1 q.2.2.1 = q.2.2.2) && ((T q.2.2.1).2.2.2 == decide (q.2.2.2 = 2)) &&
    ftk (parseFieldDescriptor (T q.2.2.1).2.2.1) q.2.2.2
  | none => false
/-- of a row of instructions -/
def iCk (bs : ByteArray) (q : Nat × Instr × Nat × Int32 × Nat × Nat) : Bool := decide (decode bs q.1 = .ok (q.2.1, q.2.2.1)) && decide (q.1 + q.2.2.1 = q.2.2.2.2.2) && (match q.2.1 with
  | .iconst n => decide (Int32.ofInt n = q.2.2.2.1) && decide (q.2.2.1 = 1)
  | .bipush n => decide ((Int8.ofInt n).toInt32 = q.2.2.2.1) && decide (q.2.2.1 = 2)
  | .sipush n => decide ((Int16.ofInt n).toInt32 = q.2.2.2.1) && decide (q.2.2.1 = 3)
  | .iinc _ n => decide (Int32.ofInt n = q.2.2.2.1) && decide (q.2.2.1 = 3)
  | .goto o => decide ((q.1 : Int) + o = (q.2.2.2.2.1 : Int)) && decide (q.2.2.1 = 3)
  | .ifCond _ o => decide ((q.1 : Int) + o = (q.2.2.2.2.1 : Int)) && decide (q.2.2.1 = 3)
  | .if_icmp _ o => decide ((q.1 : Int) + o = (q.2.2.2.2.1 : Int)) && decide (q.2.2.1 = 3)
  | .ifnull o => decide ((q.1 : Int) + o = (q.2.2.2.2.1 : Int)) && decide (q.2.2.1 = 3)
  | .ifnonnull o => decide ((q.1 : Int) + o = (q.2.2.2.2.1 : Int)) && decide (q.2.2.1 = 3)
  | .iload _ => decide (q.2.2.1 = 2)
  | .lload _ => decide (q.2.2.1 = 2)
  | .aload _ => decide (q.2.2.1 = 2)
  | .istore _ => decide (q.2.2.1 = 2)
  | .lstore _ => decide (q.2.2.1 = 2)
  | .astore _ => decide (q.2.2.1 = 2)
  | .getfield _ => decide (q.2.2.1 = 3)
  | .getstatic _ => decide (q.2.2.1 = 3)
  | .putfield _ => decide (q.2.2.1 = 3)
  | .invokespecial _ => decide (q.2.2.1 = 3)
  | .invokestatic _ => decide (q.2.2.1 = 3)
  | .invokevirtual _ => decide (q.2.2.1 = 3)
  | .new _ => decide (q.2.2.1 = 3)
  | .anewarray _ => decide (q.2.2.1 = 3)
  | .newarray _ => decide (q.2.2.1 = 2)
  | .multianewarray _ _ => decide (q.2.2.1 = 4)
  | .ldc _ => decide (q.2.2.1 = 2)
  | .ldc_w _ => decide (q.2.2.1 = 3)
  | .ldc2_w _ => decide (q.2.2.1 = 3)
  | .tableswitch _ _ _ _ => true
  | _ => decide (q.2.2.1 = 1))
theorem lc2 : ∀ n : Fin 2, Int64.ofNat (n : Nat) = if n.val = 0 then 0 else 1 := by decide
section Rows
variable {Γ : Gx} {d : Nat} {μ : MD} {Q : Option Value → St → Wd → Prop} {pc : Nat} {L : Lv} {S : List Value} {σ : St} {w : Wd} {cc zz : Nat}
set_option maxHeartbeats 1000000 in
theorem aw_sop {i : Instr} {S S' : List Value} (hd : decode (mB μ) pc = .ok (i, 1)) (h : sop i S = some S') (k : AW Γ d μ Q (pc + 1) L S' σ w cc zz) : AW Γ d μ Q pc L S σ w cc zz := by
  intro p l e s m args below meth c Z hF hR H locs ls hH hlo hl hc hz
  have kk := k p l e s m args below meth c Z hF hR H locs ls hH hlo hl hc hz
  obtain ⟨hx, hb, -⟩ := hF
  unfold sop at h
  split at h <;> first | (cases h; done) | (injection h with h; subst h)
  · exact lv_lconst (n := _) hx hb hd (lc2 _) kk
  · exact lv_iadd hx hb hd kk
  · exact lv_isub hx hb hd kk
  · exact lv_imul hx hb hd kk
  · exact lv_iand hx hb hd kk
  · exact lv_ior hx hb hd kk
  · exact lv_ixor hx hb hd kk
  · exact lv_ishl hx hb hd kk
  · exact lv_ishr hx hb hd kk
  · exact lv_iushr hx hb hd rfl kk
  · exact lv_ladd hx hb hd kk
  · exact lv_lsub hx hb hd kk
  · exact lv_lmul hx hb hd kk
  · exact lv_land hx hb hd kk
  · exact lv_lor hx hb hd kk
  · exact lv_lshl hx hb hd rfl kk
  · exact lv_lshr hx hb hd rfl kk
  · exact lv_lushr hx hb hd rfl kk
  · exact W.lcmp hx hb hd kk
  · exact lv_i2l hx hb hd rfl kk
  · exact lv_l2i hx hb hd rfl kk
  · exact lv_i2b hx hb hd rfl kk
  · exact lv_i2c hx hb hd rfl kk
  · exact lv_pop hx hb hd rfl kk
  · exact lv_dup hx hb hd rfl kk
  · exact lv_dup hx hb hd rfl kk
  · exact lv_dup_x1 hx hb hd rfl rfl kk
  · exact lv_dup2_11 hx hb hd rfl rfl kk
theorem aw_cst {i : Instr} {len : Nat} {v : Int32} (hd : decode (mB μ) pc = .ok (i, len)) (h : (∃ n, i = .iconst n ∧ Int32.ofInt n = v ∧ len = 1) ∨ (∃ n, i = .bipush n ∧ (Int8.ofInt n).toInt32 = v ∧ len = 2) ∨ (∃ n, i = .sipush n ∧ (Int16.ofInt n).toInt32 = v ∧ len = 3)) (k : AW Γ d μ Q (pc + len) L (.int v :: S) σ w cc zz) : AW Γ d μ Q pc L S σ w cc zz := by
  intro p l e s m args below meth c Z hF hR H locs ls hH hlo hl hc hz
  have kk := k p l e s m args below meth c Z hF hR H locs ls hH hlo hl hc hz
  obtain ⟨hx, hb, -⟩ := hF
  rcases h with ⟨n, rfl, hv, rfl⟩ | ⟨n, rfl, hv, rfl⟩ | ⟨n, rfl, hv, rfl⟩
  · exact lv_iconst hx hb hd hv kk
  · exact lv_bipush hx hb hd hv kk
  · exact lv_sipush hx hb hd hv kk
theorem aw_load {i : Instr} {len n : Nat} {v : Value} (hd : decode (mB μ) pc = .ok (i, len)) (hv : L.lookup n = some v)
    (h : (∃ x, v = .int x ∧ ((i = .iload n ∧ len = 2) ∨ ∃ q : Fin 4, q.val = n ∧ i = .iload_n q ∧ len = 1)) ∨ (∃ x, v = .long x ∧ ((i = .lload n ∧ len = 2) ∨ ∃ q : Fin 4, q.val = n ∧ i = .lload_n q ∧ len = 1)) ∨ ((∃ x, v = .ref x ∨ v = .retAddr x) ∧ ((i = .aload n ∧ len = 2) ∨ ∃ q : Fin 4, q.val = n ∧ i = .aload_n q ∧ len = 1)))
    (k : AW Γ d μ Q (pc + len) L (v :: S) σ w cc zz) : AW Γ d μ Q pc L S σ w cc zz := by
  intro p l e s m args below meth c Z hF hR H locs ls hH hlo hl hc hz
  have kk := k p l e s m args below meth c Z hF hR H locs ls hH hlo hl hc hz
  obtain ⟨hx, hb, -⟩ := hF
  have ha := lk_at hl hv
  rcases h with ⟨x, rfl, ⟨rfl, rfl⟩ | ⟨q, hq, rfl, rfl⟩⟩ | ⟨x, rfl, ⟨rfl, rfl⟩ | ⟨q, hq, rfl, rfl⟩⟩ | ⟨⟨x, rfl | rfl⟩, ⟨rfl, rfl⟩ | ⟨q, hq, rfl, rfl⟩⟩
  · exact lv_iload hx hb hd ha kk
  · exact lv_iload_n hx hb hd hq ha kk
  · exact lv_lload hx hb hd ha kk
  · exact lv_lload_n hx hb hd hq ha kk
  · exact lv_aload hx hb hd ha kk
  · exact lv_aload_n hx hb hd hq ha kk
  · exact lv_aload hx hb hd ha kk
  · exact lv_aload_n hx hb hd hq ha kk
theorem aw_store1 {i : Instr} {len n : Nat} {v : Value} (hd : decode (mB μ) pc = .ok (i, len)) (hn : n < mL μ)
    (h : (∃ x, v = .int x ∧ ((i = .istore n ∧ len = 2) ∨ ∃ q : Fin 4, q.val = n ∧ i = .istore_n q ∧ len = 1)) ∨ (∃ x, v = .ref x ∧ ((i = .astore n ∧ len = 2) ∨ ∃ q : Fin 4, q.val = n ∧ i = .astore_n q ∧ len = 1)))
    (k : AW Γ d μ Q (pc + len) (putL1 L n v) S σ w cc zz) : AW Γ d μ Q pc L (v :: S) σ w cc zz := by
  intro p l e s m args below meth c Z hF hR H locs ls hH hlo hl hc hz
  have kk := fun ls hl => k p l e s m args below meth c Z hF hR H locs ls hH hlo hl hc hz
  obtain ⟨hx, hb, -⟩ := hF
  have e := cL_put1 Γ L n v
  rcases h with ⟨x, rfl, ⟨rfl, rfl⟩ | ⟨q, hq, rfl, rfl⟩⟩ | ⟨x, rfl, ⟨rfl, rfl⟩ | ⟨q, hq, rfl, rfl⟩⟩
  · exact lv_istore hx hb hd hl hn e kk
  · exact lv_istore_n hx hb hd hq hl hn e kk
  · exact lv_astore hx hb hd hl hn e kk
  · exact lv_astore_n hx hb hd hq hl hn e kk
theorem aw_store2 {i : Instr} {len n : Nat} {x : Int64} (hd : decode (mB μ) pc = .ok (i, len)) (hn : n + 1 < mL μ)
    (h : (i = .lstore n ∧ len = 2) ∨ ∃ q : Fin 4, q.val = n ∧ i = .lstore_n q ∧ len = 1)
    (k : AW Γ d μ Q (pc + len) (putL2 L n (.long x)) S σ w cc zz) : AW Γ d μ Q pc L (.long x :: S) σ w cc zz := by
  intro p l e s m args below meth c Z hF hR H locs ls hH hlo hl hc hz
  have kk := fun ls hl => k p l e s m args below meth c Z hF hR H locs ls hH hlo hl hc hz
  obtain ⟨hx, hb, -⟩ := hF
  have e := cL_put2 Γ L n (.long x)
  rcases h with ⟨rfl, rfl⟩ | ⟨q, hq, rfl, rfl⟩
  · exact lv_lstore hx hb hd hl hn e kk
  · exact lv_lstore_n hx hb hd hq hl hn e kk
theorem lk_place {L : Lv} {n : Nat} {v : Value} (h : L.lookup n = some v) : ∃ j : Nat, L[j]? = some (n, v) := List.getElem?_of_mem (lk_mem h)
theorem aw_iinc {n : Nat} {a : Int} {x v : Int32} (hd : decode (mB μ) pc = .ok (.iinc n a, 3)) (hn : n < mL μ) (hx0 : L.lookup n = some (.int x)) (hv : Int32.ofInt a = v) (k : AW Γ d μ Q (pc + 3) (putL1 L n (.int (x + v))) S σ w cc zz) : AW Γ d μ Q pc L S σ w cc zz := by
  intro p l e s m args below meth c Z hF hR H locs ls hH hlo hl hc hz
  have kk := fun ls hl => k p l e s m args below meth c Z hF hR H locs ls hH hlo hl hc hz
  obtain ⟨hx, hb, -⟩ := hF
  obtain ⟨j, hj⟩ := lk_place hx0
  have hj' : (cL Γ L)[j]? = some (n, .int x) := by unfold cL; rw [List.getElem?_map, hj]; rfl
  exact lv_iinc (k := j) hx hb hd hl hj' (by rw [hv]) hn (cL_put1 Γ L n (.int (x + v))) kk
theorem aw_goto {o : Int} {t : Nat} (hd : decode (mB μ) pc = .ok (.goto o, 3)) (ht : (pc : Int) + o = (t : Int)) (k : AW Γ d μ Q t L S σ w cc zz) : AW Γ d μ Q pc L S σ w cc zz := by
  intro p l e s m args below meth c Z hF hR H locs ls hH hlo hl hc hz
  have kk := k p l e s m args below meth c Z hF hR H locs ls hH hlo hl hc hz
  exact lv_goto hF.1 hF.2.1 hd ht kk
theorem aw_icmp {cn : ClassFile.Cond} {o : Int} {t : Nat} {x y : Int32} (hd : decode (mB μ) pc = .ok (.if_icmp cn o, 3)) (ht : (pc : Int) + o = (t : Int)) (k : bra cn x y (AW Γ d μ Q t L S σ w cc zz) (AW Γ d μ Q (pc + 3) L S σ w cc zz)) : AW Γ d μ Q pc L (.int y :: .int x :: S) σ w cc zz := by
  intro p l e s m args below meth c Z hF hR H locs ls hH hlo hl hc hz
  have go : ∀ {pc : Nat}, AW Γ d μ Q pc L S σ w cc zz → W p l e (rmOf d (mC μ) (mS μ)) s m args below meth c H locs cc zz Z (F0 m pc ls (S.map (cv Γ))) := fun k => k p l e s m args below meth c Z hF hR H locs ls hH hlo hl hc hz
  obtain ⟨hx, hb, -⟩ := hF
  cases cn
  · exact lv_icmp_eq hx hb hd ht (fun q => go (k.1 q)) (fun q => go (k.2 q))
  · exact lv_icmp_ne hx hb hd ht (fun q => go (k.1 q)) (fun q => go (k.2 q))
  · exact lv_icmp_lt hx hb hd ht (fun q => go (k.1 q)) (fun q => go (k.2 q))
  · exact lv_icmp_ge hx hb hd ht (fun q => go (k.1 q)) (fun q => go (k.2 q))
  · exact lv_icmp_gt hx hb hd ht (fun q => go (k.1 q)) (fun q => go (k.2 q))
  · exact lv_icmp_le hx hb hd ht (fun q => go (k.1 q)) (fun q => go (k.2 q))
theorem aw_if {cn : ClassFile.Cond} {o : Int} {t : Nat} {x : Int32} (hd : decode (mB μ) pc = .ok (.ifCond cn o, 3)) (ht : (pc : Int) + o = (t : Int)) (k : bra cn x 0 (AW Γ d μ Q t L S σ w cc zz) (AW Γ d μ Q (pc + 3) L S σ w cc zz)) : AW Γ d μ Q pc L (.int x :: S) σ w cc zz := by
  intro p l e s m args below meth c Z hF hR H locs ls hH hlo hl hc hz
  have go : ∀ {pc : Nat}, AW Γ d μ Q pc L S σ w cc zz → W p l e (rmOf d (mC μ) (mS μ)) s m args below meth c H locs cc zz Z (F0 m pc ls (S.map (cv Γ))) := fun k => k p l e s m args below meth c Z hF hR H locs ls hH hlo hl hc hz
  obtain ⟨hx, hb, -⟩ := hF
  cases cn
  · exact lv_if_eq hx hb hd ht (fun q => go (k.1 q)) (fun q => go (k.2 q))
  · exact lv_if_ne hx hb hd ht (fun q => go (k.1 q)) (fun q => go (k.2 q))
  · exact lv_if_lt hx hb hd ht (fun q => go (k.1 q)) (fun q => go (k.2 q))
  · exact lv_if_ge hx hb hd ht (fun q => go (k.1 q)) (fun q => go (k.2 q))
  · exact lv_if_gt hx hb hd ht (fun q => go (k.1 q)) (fun q => go (k.2 q))
  · exact lv_if_le hx hb hd ht (fun q => go (k.1 q)) (fun q => go (k.2 q))
theorem aw_ifnull {o : Int} {t x : Nat} (ht : (pc : Int) + o = (t : Int)) :
    (decode (mB μ) pc = .ok (.ifnull o, 3) → AW Γ d μ Q (pc + 3) L S σ w cc zz → AW Γ d μ Q pc L (.ref x :: S) σ w cc zz) ∧ (decode (mB μ) pc = .ok (.ifnull o, 3) → AW Γ d μ Q t L S σ w cc zz → AW Γ d μ Q pc L (.null :: S) σ w cc zz) ∧
    (decode (mB μ) pc = .ok (.ifnonnull o, 3) → AW Γ d μ Q t L S σ w cc zz → AW Γ d μ Q pc L (.ref x :: S) σ w cc zz) ∧ (decode (mB μ) pc = .ok (.ifnonnull o, 3) → AW Γ d μ Q (pc + 3) L S σ w cc zz → AW Γ d μ Q pc L (.null :: S) σ w cc zz) := by
  refine ⟨fun hd k => ?_, fun hd k => ?_, fun hd k => ?_, fun hd k => ?_⟩ <;> intro p l e s m args below meth c Z hF hR H locs ls hH hlo hl hc hz <;> have kk := k p l e s m args below meth c Z hF hR H locs ls hH hlo hl hc hz
  · exact lv_ifnull hF.1 hF.2.1 hd kk
  · exact lv_ifnullN hF.1 hF.2.1 hd ht kk
  · exact lv_ifnonnull hF.1 hF.2.1 hd ht kk
  · exact lv_ifnonnullN hF.1 hF.2.1 hd kk
theorem aw_div {x y : Int32} (hy : ¬ y = 0) : (decode (mB μ) pc = .ok (.idiv, 1) → AW Γ d μ Q (pc + 1) L (.int (x / y) :: S) σ w cc zz → AW Γ d μ Q pc L (.int y :: .int x :: S) σ w cc zz) ∧ (decode (mB μ) pc = .ok (.irem, 1) → AW Γ d μ Q (pc + 1) L (.int (x - x / y * y) :: S) σ w cc zz → AW Γ d μ Q pc L (.int y :: .int x :: S) σ w cc zz) := by
  refine ⟨fun hd k => ?_, fun hd k => ?_⟩ <;> intro p l e s m args below meth c Z hF hR H locs ls hH hlo hl hc hz <;> have kk := k p l e s m args below meth c Z hF hR H locs ls hH hlo hl hc hz
  · exact lv_idiv hF.1 hF.2.1 hd hy kk
  · exact lv_irem hF.1 hF.2.1 hd hy kk
theorem aw_ret {v : Option Value} (hq : Q v σ w) (h : (v = none ∧ decode (mB μ) pc = .ok (.return_, 1) ∧ mR μ = none) ∨ (∃ x ty, v = some (.int x) ∧ decode (mB μ) pc = .ok (.ireturn, 1) ∧ mR μ = some ty ∧ narrow ty (.int x) = .int x) ∨ (∃ x, v = some (.long x) ∧ decode (mB μ) pc = .ok (.lreturn, 1) ∧ mR μ = some .long)) : AW Γ d μ Q pc L v.toList σ w cc zz := by
  intro p l e s m args below meth c Z hF hR H locs ls hH hlo hl hc hz
  exact W.widen hc hz (hR v σ w H locs pc ls hq hH hlo h)
end Rows
