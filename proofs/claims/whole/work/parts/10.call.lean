/-! calls: contracts out of walks, and walks over contracts -/
theorem va_AOA.moved {ty : FieldType} {u U : State} (hvm : u.vm.Alike U.vm) (h : va_AOA ty u) : va_AOA ty U := by
  obtain ⟨comp, c, k, h1, h2, h3, h4, h5⟩ := arrayOverA_spec h
  obtain ⟨k', hk', he⟩ := hvm.2.2 _ _ h3
  have hi : (U.vm.classes.findIdx? fun (x : Class) => match x.kind with | .array component _ => component == comp | _ => false) = some c := by
    have b1 := va_idx_bare U.vm comp
    have b2 := va_idx_bare u.vm comp
    have b3 : U.vm.bare = u.vm.bare := by first | exact hvm.bare_eq | exact hvm.bare_eq.symm
    rw [b3] at b1
    exact b1.symm.trans (b2.trans h2)
  have hkind : k'.kind = .array comp (.array ty) := by rw [he]; exact h4
  have f1 : U.vm.findClass (FieldType.array ty).toString = some comp := by rw [hvm.findClass]; exact h1
  have f2 : U.vm.findClass ("[" ++ (FieldType.array ty).toString) = some c := by rw [hvm.findClass]; exact h5
  unfold va_AOA Cond.before Cond.holds
  simp only [Cond.value]
  rw [f1, Option.bind_some]
  refine (congrArg (fun o : Option Nat => (o.bind (fun c => (U.vm.classes[c]?).map fun (k : Class) => match k.kind with | .array _ t => decide (t = FieldType.array ty) && decide (U.vm.findClass ("[" ++ (FieldType.array ty).toString) = some c) | _ => false) == some true)) hi).trans ?_
  simp [hk', hkind, f2]
theorem GK.warm {Γ : Gx} {s U : State} (hW : s.WarmedH U.vm) (h : GK Γ s) : GK Γ U := by
  obtain ⟨h1, h2, h3, h4, ⟨h5, h6, h7, h7b⟩, h8, h9, h10, h11, h12⟩ := h
  have ha := hW.alike
  refine ⟨fun w hw hg a => word_at hW (good_of_word hg) (h1 w hw hg #[]), fun w hw => ?_, h3.moved ha, h4.moved ha, ⟨h5.moved ha, fun i hi => (h6 i hi).warm hW, h7.moved ha, h7b.elim (fun q => Or.inl (q.moved ha)) (fun q => Or.inr (q.moved ha))⟩, h8.moved ha, h9.moved ha, h10.moved ha, h11.moved ha, h12.moved ha⟩
  have hz := h2 w hw
  obtain ⟨-, hf⟩ := List.mem_filter.mp hw
  revert hf
  split
  · intro _
    exact va_Nw.warmM hW hz
  · intro hf
    cases hf
theorem sum_cv (Γ : Gx) (S : List Value) : ((S.map (cv Γ)).map fun v => v.category).sum = catS S := by
  rw [List.map_map, show (fun v => v.category) ∘ cv Γ = Value.category from funext (fun v => cv_cat Γ v)]
  rfl
/-- what a program checks of a call: the words at these places -/
def cCk (C : String) (n kind : Nat) (ν : MD) (ws : List Nat) : Bool :=
  decide ((mN ν).cls ≠ "java/lang/invoke/MethodHandle" ∧ (mN ν).cls ≠ "java/lang/invoke/VarHandle") && decide ((parseMethodDescriptor (mN ν).desc).map (fun d => d.parameters.length) = some (mA ν)) && decide (mL ν ≤ 17 ∧ (3 ≤ mK ν ∨ (mC ν = 0 ∧ mS ν = 0))) &&
  decide (lw_tbl[ws.getD 0 0]? = some (.code (mN ν) (mB ν) (mL ν) (mR ν))) && decide (lw_tbl[ws.getD 1 0]? = some (.initialized (mN ν).cls)) &&
  (match kind with
  | 0 => decide (lw_tbl[ws.getD 2 0]? = some (.methodLink C n (mN ν))) && decide (lw_tbl[ws.getD 3 0]? = some (.instanceMethod (mN ν))) && decide (lw_tbl[ws.getD 4 0]? = some (.selects (mN ν).cls (mN ν) (mN ν))) && decide (vwCl[mO ν]?.map (fun q => q.1) = some (mN ν).cls)
  | 1 => decide (lw_tbl[ws.getD 2 0]? = some (.methodLink C n (mN ν))) && decide (lw_tbl[ws.getD 3 0]? = some (.static (mN ν)))
  | 2 => decide (lw_tbl[ws.getD 2 0]? = some (.methodLink C n (mN ν))) && decide (lw_tbl[ws.getD 3 0]? = some (.instanceMethod (mN ν))) && decide ((mN ν).name = "<init>") && decide (mR ν = none)
  | 3 => decide (Cond.methodLinkNest C n (mN ν) "FirstReader" ∈ nests) && decide (lw_tbl[ws.getD 3 0]? = some (.instanceMethod (mN ν))) && decide ((mN ν).name = "<init>") && decide (mR ν = none)
  | 6 => decide (Cond.methodLinkNest C n (mN ν) "FirstReader" ∈ nests) && decide (lw_tbl[ws.getD 3 0]? = some (.static (mN ν)))
  | 5 => decide (lw_tbl[ws.getD 2 0]? = some (.methodLink C n (mN ν))) && decide (lw_tbl[ws.getD 3 0]? = some (.instanceMethod (mN ν))) && decide (lw_tbl[ws.getD 4 0]? = some (.selects (mN ν).cls (mN ν) (mN ν))) && decide ((mN ν).cls = "java/lang/String")
  | _ => false)
section Call
variable {Γ : Gx} {d : Nat} {μ : MD} {Q : Option Value → St → Wd → Prop} {pc : Nat} {L : Lv} {S : List Value} {σ : St} {w : Wd} {cc zz : Nat}
theorem aw_back {ν : MD} {S : List Value} {Q' : Option Value → St → Wd → Prop} {p : Program} {l : Launch} {e : Env} {s : State} {m : MethodId} {args : Array Value} {below : List Frame} {meth : Method} {c : Code} {Z : State → Prop} {H : Heap} {locs : List Loc} {ls : Array Slot} {st : List Value}
    (hF : Fx Γ μ p l s m meth c) (hR : RetOK Γ (d + 1) μ Q p l e s m args below meth c Z) (hlo : lcs Γ locs) (hl : lv_has ls (mL μ) (cL Γ L)) (hcc : cc + mC ν ≤ mC μ) (hzz : zz + mS ν ≤ mS μ)
    (run : va_Run p l e (rmOf (d + 1) (mC μ) (mS μ)) s m args below meth c H locs cc zz (mC ν) (mS ν) (F0 m pc ls st) (S.map (cv Γ)) (fun (_ : State) o t => ∃ v σ' w', o = Outcome.returned (v.map (cv Γ)) ∧ HR Γ σ' w' t.heap ∧ Q' v σ' w') (fun q => gz Γ ≤ q))
    (k : ∀ v σ' w', Q' v σ' w' → AW Γ (d + 1) μ Q (pc + 3) L (v.toList ++ S) σ' w' (cc + mC ν) (zz + mS ν)) : W p l e (rmOf (d + 1) (mC μ) (mS μ)) s m args below meth c H locs cc zz Z (F0 m pc ls st) := by
  intro T hT X
  obtain ⟨v, st₀, t, T', L', h0, X', hL, e1, e2, ⟨v', σ', w', hv, hHR, hq⟩, hgo⟩ := run T hT X
  cases hv
  have kk := k v' σ' w' hq p l e s m args below meth c Z hF hR T'.heap (locs ++ L') ls (by rw [e1]; exact hHR) (fun q hq => by
    rcases List.mem_append.mp hq with h | h
    · exact hlo q h
    · exact hL q h) hl hcc hzz
  have es : (v'.map (cv Γ)).toList ++ S.map (cv Γ) = (v'.toList ++ S).map (cv Γ) := by cases v' <;> simp
  obtain ⟨t2, a1, b1⟩ := kk T' rfl X'
  refine ⟨t2, hgo t2 ?_, b1⟩
  rw [es]
  exact a1
theorem pre_blind {A : List Value} : FrameBlind (fun args s => args = (A.map (cv Γ)).toArray ∧ HR Γ σ w s.heap ∧ GK Γ s) := by
  intro a U g mk h
  exact ⟨h.1, h.2.1, h.2.2.warm (U := U.calling g mk a) (State.WarmedH.refl U)⟩
theorem pre_ok {A : List Value} {s : State} {H : Heap} (hH : HR Γ σ w H) (hK : GK Γ s) (U : State) (h1 : U.heap = H) (h2 : s.WarmedH U.vm) : (fun (args : Array Value) (s : State) => args = (A.map (cv Γ)).toArray ∧ HR Γ σ w s.heap ∧ GK Γ s) (A.map (cv Γ)).toArray U := ⟨rfl, by rw [h1]; exact hH, hK.warm h2⟩
theorem cCk_spec {C : String} {n kind : Nat} {ν : MD} {ws : List Nat} (h : cCk C n kind ν ws = true) {s : State} (hK : GK Γ s) (args : Array Value) {R : Room} (hf : d + 1 ≤ R.frames) (hlo : 36 * (d + 1) ≤ R.locals) :
    ((mN ν).cls ≠ "java/lang/invoke/MethodHandle" ∧ (mN ν).cls ≠ "java/lang/invoke/VarHandle") ∧ (∀ sig, parseMethodDescriptor (mN ν).desc = some sig → mA ν = sig.parameters.length) ∧ d + 1 ≤ R.frames ∧ (8 + (mL ν + 11) + 36 * d ≤ R.locals) ∧ (∀ x ∈ [Cond.code (mN ν) (mB ν) (mL ν) (mR ν)], ∀ (a' : Array Value) (U : State), s.WarmedH U.vm → x.before a' U = true) ∧ (Cond.code (mN ν) (mB ν) (mL ν) (mR ν)).before args s = true ∧ (Cond.initialized (mN ν).cls).before args s = true := by
  unfold cCk at h
  simp only [Bool.and_eq_true, decide_eq_true_eq] at h
  obtain ⟨⟨⟨⟨⟨h1, h2⟩, h3⟩, h4⟩, h5⟩, -⟩ := h
  have wd : ∀ {i : Nat} {x : Cond}, lw_tbl[i]? = some x → goodWord x = true → x.before args s = true := fun h g => hK.1 _ (List.mem_of_getElem? h) g args
  refine ⟨h1, fun sig hs => ?_, hf, by omega, ?_, wd h4 rfl, wd h5 rfl⟩
  · rw [hs] at h2
    exact (Option.some.inj h2).symm
  · intro x hx a' U hW
    rw [List.mem_singleton.mp hx]
    exact word_at hW (good_of_word rfl) (hK.1 _ (List.mem_of_getElem? h4) rfl #[])
theorem cCk_z {C : String} {n kind : Nat} {ν : MD} {ws : List Nat} (h : cCk C n kind ν ws = true) (hk : mK ν < 3) : mC ν = 0 ∧ mS ν = 0 := by
  unfold cCk at h
  simp only [Bool.and_eq_true, decide_eq_true_eq] at h
  obtain ⟨⟨⟨⟨⟨h1, h2⟩, h3⟩, h4⟩, h5⟩, -⟩ := h
  rcases h3.2 with q | q
  · omega
  · exact q
theorem aw_callS {ν : MD} {n kind : Nat} (hkd : kind = 1 ∨ kind = 6) {ws : List Nat} {As S : List Value} {Q' : Option Value → St → Wd → Prop} (hd : decode (mB μ) pc = .ok (.invokestatic n, 3)) (hck : cCk (mN μ).cls n kind ν ws = true) (hA : As.length = mA ν) (hS : catS S ≤ 8) (hcc : cc + mC ν ≤ mC μ) (hzz : zz + mS ν ≤ mS μ) (hsp : Sp Γ d ν As σ w Q')
    (k : ∀ v σ' w', Q' v σ' w' → AW Γ (d + 1) μ Q (pc + 3) L (v.toList ++ S) σ' w' (cc + mC ν) (zz + mS ν)) : AW Γ (d + 1) μ Q pc L (As.reverse ++ S) σ w cc zz := by
  intro p l e s m args below meth c Z hF hR H locs ls hH hlo hl hc hz
  have hF' := hF
  obtain ⟨hx, hb, hml, -, -, hown, -, rfl, hK⟩ := hF
  obtain ⟨c1, c2, c3, c4, c5, c6, c7⟩ := cCk_spec hck hK args (R := rmOf (d + 1) (mC μ) (mS μ)) (Nat.le_refl _) (Nat.le_refl _)
  have wd : ∀ {i : Nat} {x : Cond}, lw_tbl[i]? = some x → goodWord x = true → x.before args s = true := fun h g => hK.1 _ (List.mem_of_getElem? h) g args
  have hst : (As.reverse ++ S).map (cv Γ) = (As.map (cv Γ)).reverse ++ S.map (cv Γ) := by rw [List.map_append, List.map_reverse]
  have hW : 2 * 0 + ((S.map (cv Γ)).map fun v => v.category).sum ≤ 8 := by
    rw [sum_cv]
    omega
  rcases hkd with rfl | rfl
  · unfold cCk at hck
    simp only [Bool.and_eq_true, decide_eq_true_eq] at hck
    exact aw_back hF' hR hlo hl hcc hzz (va_runS (As := As.map (cv Γ)) (rest := S.map (cv Γ)) (Ts := []) ⟨hx, hb, hml, hown, fun _ h => absurd h List.not_mem_nil⟩ hsp ⟨⟨rfl, rfl, c3, c4, c5, List.mem_singleton.mpr rfl, c6, c7, c1, c2, wd hck.2.1 rfl⟩, wd hck.2.2 rfl⟩ ⟨pre_blind, fun U h1 h2 => pre_ok hH hK U h1 h2⟩ rfl (by rw [List.length_map]; exact hA) hl.1 hst hW hd ⟨hcc, hzz⟩) k
  · unfold cCk at hck
    simp only [Bool.and_eq_true, decide_eq_true_eq] at hck
    exact aw_back hF' hR hlo hl hcc hzz (va_runSN (host := "FirstReader") (As := As.map (cv Γ)) (rest := S.map (cv Γ)) (Ts := []) ⟨hx, hb, hml, hown, fun _ h => absurd h List.not_mem_nil⟩ hsp ⟨⟨⟨rfl, rfl, c3, c4, c5, List.mem_singleton.mpr rfl⟩, c6, c7, c1, c2, va_Nw.use rfl (hK.2.1 _ hck.2.1)⟩, wd hck.2.2 rfl, trivial⟩ ⟨pre_blind, fun U h1 h2 => pre_ok hH hK U h1 h2⟩ rfl (by rw [List.length_map]; exact hA) hl.1 hst hW hd ⟨hcc, hzz⟩) k
theorem aw_callV {ν : MD} {n : Nat} {ws : List Nat} {o : Nat} {As S : List Value} {Q' : Option Value → St → Wd → Prop} (hd : decode (mB μ) pc = .ok (.invokevirtual n, 3)) (hck : cCk (mN μ).cls n 0 ν ws = true) (ho : okO w o (mO ν)) (hA : As.length = mA ν) (hS : catS S ≤ 8) (hcc : cc + mC ν ≤ mC μ) (hzz : zz + mS ν ≤ mS μ) (hsp : Sp Γ d ν (.ref o :: As) σ w Q')
    (k : ∀ v σ' w', Q' v σ' w' → AW Γ (d + 1) μ Q (pc + 3) L (v.toList ++ S) σ' w' (cc + mC ν) (zz + mS ν)) : AW Γ (d + 1) μ Q pc L (As.reverse ++ .ref o :: S) σ w cc zz := by
  intro p l e s m args below meth c Z hF hR H locs ls hH hlo hl hc hz
  have hF' := hF
  obtain ⟨hx, hb, hml, -, -, hown, -, rfl, hK⟩ := hF
  obtain ⟨c1, c2, c3, c4, c5, c6, c7⟩ := cCk_spec hck hK args (R := rmOf (d + 1) (mC μ) (mS μ)) (Nat.le_refl _) (Nat.le_refl _)
  have wd : ∀ {i : Nat} {x : Cond}, lw_tbl[i]? = some x → goodWord x = true → x.before args s = true := fun h g => hK.1 _ (List.mem_of_getElem? h) g args
  unfold cCk at hck
  simp only [Bool.and_eq_true, decide_eq_true_eq] at hck
  obtain ⟨-, ⟨⟨h1, h2⟩, h3⟩, h4⟩ := hck
  have hcl : ∃ q, vwCl[mO ν]? = some q ∧ q.1 = (mN ν).cls := by
    cases hq : vwCl[mO ν]? with
    | none => rw [hq] at h4; cases h4
    | some q => rw [hq] at h4; exact ⟨q, rfl, Option.some.inj h4⟩
  obtain ⟨q, hq, hqn⟩ := hcl
  have hrecv : ∃ cellB : Cell, H[gz Γ + o]? = some cellB ∧ cellB.vm.isStatics = false ∧ s.vm.findClass (mN ν).cls = some cellB.cls := by
    obtain ⟨q', hq', -, ⟨cell, g1, g2, g3, -⟩, hKn⟩ := fl_facts hK hH ho (ci_lt hq)
    cases hq'.symm.trans hq
    exact ⟨cell, g1, by rw [g3]; rfl, by rw [g2, ← hqn]; exact hKn.2.1⟩
  refine aw_back hF' hR hlo hl hcc hzz (va_runV (C := (mN ν).cls) (b := gz Γ + o) (As := As.map (cv Γ)) (rest := S.map (cv Γ)) (Ts := []) ⟨hx, hb, hml, hown, fun _ h => absurd h List.not_mem_nil⟩ hsp ⟨⟨rfl, rfl, c3, c4, c5, List.mem_singleton.mpr rfl, c6, c7, c1, c2, wd h1 rfl⟩, wd h2 rfl, wd h3 rfl⟩ ⟨pre_blind, hrecv, fun U h1 h2 => pre_ok (A := .ref o :: As) hH hK U h1 h2⟩ rfl (by rw [List.length_map]; exact hA) hl.1 ?_ ?_ hd ⟨hcc, hzz⟩) k
  · show (As.reverse ++ .ref o :: S).map (cv Γ) = _
    rw [List.map_append, List.map_reverse]
    rfl
  · show 2 * 0 + _ ≤ 8
    rw [sum_cv]
    omega
theorem aw_callX {ν : MD} {n : Nat} {ws : List Nat} {x : Nat} {As S : List Value} {Q' : Option Value → St → Wd → Prop} (hd : decode (mB μ) pc = .ok (.invokevirtual n, 3)) (hck : cCk (mN μ).cls n 5 ν ws = true) (hx1 : 1 ≤ x) (hx9 : x ≤ 9) (hA : As.length = mA ν) (hS : catS S ≤ 8) (hcc : cc + mC ν ≤ mC μ) (hzz : zz + mS ν ≤ mS μ) (hsp : Sp Γ d ν (.retAddr x :: As) σ w Q')
    (k : ∀ v σ' w', Q' v σ' w' → AW Γ (d + 1) μ Q (pc + 3) L (v.toList ++ S) σ' w' (cc + mC ν) (zz + mS ν)) : AW Γ (d + 1) μ Q pc L (As.reverse ++ .retAddr x :: S) σ w cc zz := by
  intro p l e s m args below meth c Z hF hR H locs ls hH hlo hl hc hz
  have hF' := hF
  obtain ⟨hx, hb, hml, -, -, hown, -, rfl, hK⟩ := hF
  obtain ⟨c1, c2, c3, c4, c5, c6, c7⟩ := cCk_spec hck hK args (R := rmOf (d + 1) (mC μ) (mS μ)) (Nat.le_refl _) (Nat.le_refl _)
  have wd : ∀ {i : Nat} {x : Cond}, lw_tbl[i]? = some x → goodWord x = true → x.before args s = true := fun h g => hK.1 _ (List.mem_of_getElem? h) g args
  unfold cCk at hck
  simp only [Bool.and_eq_true, decide_eq_true_eq] at hck
  obtain ⟨-, ⟨⟨h1, h2⟩, h3⟩, h4⟩ := hck
  have hrecv : ∃ cellB : Cell, H[xE Γ x]? = some cellB ∧ cellB.vm.isStatics = false ∧ s.vm.findClass (mN ν).cls = some cellB.cls := by
    obtain ⟨cell, g1, g2, g3, g4⟩ := (hK.2.2.2.2.1.1.1 (x - 1) (by omega)).1
    dsimp only at g1 g4
    rw [show 1 + (x - 1) = x by omega] at g1 g4
    exact ⟨cell, by rw [hH.2.1 _ (Nat.not_le.mp g4)]; exact g1, g2, by rw [h4]; exact g3⟩
  refine aw_back hF' hR hlo hl hcc hzz (va_runV (C := (mN ν).cls) (b := xE Γ x) (As := As.map (cv Γ)) (rest := S.map (cv Γ)) (Ts := []) ⟨hx, hb, hml, hown, fun _ h => absurd h List.not_mem_nil⟩ hsp ⟨⟨rfl, rfl, c3, c4, c5, List.mem_singleton.mpr rfl, c6, c7, c1, c2, wd h1 rfl⟩, wd h2 rfl, wd h3 rfl⟩ ⟨pre_blind, hrecv, fun U h1 h2 => pre_ok (A := .retAddr x :: As) hH hK U h1 h2⟩ rfl (by rw [List.length_map]; exact hA) hl.1 ?_ ?_ hd ⟨hcc, hzz⟩) k
  · show (As.reverse ++ .retAddr x :: S).map (cv Γ) = _
    rw [List.map_append, List.map_reverse]
    rfl
  · show 2 * 0 + _ ≤ 8
    rw [sum_cv]
    omega
theorem aw_callI {ν : MD} {n kind : Nat} {ws : List Nat} {o : Nat} {As S : List Value} {Q' : Option Value → St → Wd → Prop} (hd : decode (mB μ) pc = .ok (.invokespecial n, 3)) (hkd : kind = 2 ∨ kind = 3) (hck : cCk (mN μ).cls n kind ν ws = true) (hA : As.length = mA ν) (hS : catS S ≤ 8) (hcc : cc + mC ν ≤ mC μ) (hzz : zz + mS ν ≤ mS μ) (hsp : Sp Γ d ν (.ref o :: As) σ w Q')
    (k : ∀ v σ' w', Q' v σ' w' → AW Γ (d + 1) μ Q (pc + 3) L (v.toList ++ S) σ' w' (cc + mC ν) (zz + mS ν)) : AW Γ (d + 1) μ Q pc L (As.reverse ++ .ref o :: S) σ w cc zz := by
  intro p l e s m args below meth c Z hF hR H locs ls hH hlo hl hc hz
  have hF' := hF
  obtain ⟨hx, hb, hml, -, -, hown, -, rfl, hK⟩ := hF
  obtain ⟨c1, c2, c3, c4, c5, c6, c7⟩ := cCk_spec hck hK args (R := rmOf (d + 1) (mC μ) (mS μ)) (Nat.le_refl _) (Nat.le_refl _)
  have wd : ∀ {i : Nat} {x : Cond}, lw_tbl[i]? = some x → goodWord x = true → x.before args s = true := fun h g => hK.1 _ (List.mem_of_getElem? h) g args
  have hst : (As.reverse ++ .ref o :: S).map (cv Γ) = (As.map (cv Γ)).reverse ++ Value.ref (gz Γ + o) :: S.map (cv Γ) := by
    rw [List.map_append, List.map_reverse]
    rfl
  have hW : 2 * 0 + ((S.map (cv Γ)).map fun v => v.category).sum ≤ 8 := by
    rw [sum_cv]
    omega
  rcases hkd with rfl | rfl
  · unfold cCk at hck
    simp only [Bool.and_eq_true, decide_eq_true_eq] at hck
    obtain ⟨-, ⟨⟨h1, h2⟩, h3⟩, h4⟩ := hck
    rw [h4] at c5 c6
    have hsp' := hsp
    unfold Sp at hsp'
    rw [h4] at hsp'
    exact aw_back hF' hR hlo hl hcc hzz (va_runI (b := gz Γ + o) (As := As.map (cv Γ)) (rest := S.map (cv Γ)) (Ts := []) ⟨hx, hb, hml, hown, fun _ h => absurd h List.not_mem_nil⟩ hsp' ⟨⟨rfl, rfl, c3, c4, c5, List.mem_singleton.mpr rfl, c6, c7, c1, c2, wd h1 rfl⟩, h3, wd h2 rfl⟩ ⟨pre_blind, fun U h1 h2 => pre_ok (A := .ref o :: As) hH hK U h1 h2⟩ rfl (by rw [List.length_map]; exact hA) hl.1 hst hW hd ⟨hcc, hzz⟩) k
  · unfold cCk at hck
    simp only [Bool.and_eq_true, decide_eq_true_eq] at hck
    obtain ⟨-, ⟨⟨h1, h2⟩, h3⟩, h4⟩ := hck
    rw [h4] at c5 c6
    have hsp' := hsp
    unfold Sp at hsp'
    rw [h4] at hsp'
    exact aw_back hF' hR hlo hl hcc hzz (va_runIN (b := gz Γ + o) (host := "FirstReader") (As := As.map (cv Γ)) (rest := S.map (cv Γ)) (Ts := []) ⟨hx, hb, hml, hown, fun _ h => absurd h List.not_mem_nil⟩ hsp' ⟨⟨⟨rfl, rfl, c3, c4, c5, List.mem_singleton.mpr rfl⟩, c6, c7, c1, c2, va_Nw.use rfl (hK.2.1 _ h1)⟩, h3, wd h2 rfl⟩ ⟨pre_blind, fun U h1 h2 => pre_ok (A := .ref o :: As) hH hK U h1 h2⟩ rfl (by rw [List.length_map]; exact hA) hl.1 hst hW hd ⟨hcc, hzz⟩) k
theorem args_cv (A : List Value) : ∀ i, lv_args i (A.map (cv Γ)) = cL Γ (lv_args i A) := by
  induction A with
  | nil => intro i; rfl
  | cons v A ih =>
    intro i
    show (i, cv Γ v) :: lv_args _ (A.map (cv Γ)) = (i, cv Γ v) :: cL Γ (lv_args _ A)
    rw [ih]
    rw [cv_cat]
theorem sl_len (A : List Value) : (lg_sl (A.map (cv Γ))).length = catS A := by
  induction A with
  | nil => rfl
  | cons v A ih =>
    show (lg_sl (cv Γ v :: A.map (cv Γ))).length = _
    unfold lg_sl at ih ⊢
    rw [List.flatMap_cons, List.length_append, ih]
    unfold catS
    rw [List.map_cons, List.sum_cons]
    congr 1
    rw [cv_cat]
    cases v <;> rfl
/-- a contract out of a walk -/
theorem Sp.of {ν : MD} {A : List Value} (hn : plainName (mN ν).cls = true) (hA : catS A ≤ mL ν) (h : AW Γ d ν Q 0 (lv_args 0 A) [] σ w 0 0) : Sp Γ d ν A σ w Q := by
  refine Met.ofW (cc := mB ν) (maxL := mL ν) (ret := mR ν) hn rfl ?_
  intro p e s m args below meth c s₁ B hml hv
  obtain ⟨rfl, hH, hK⟩ := hv
  have hl := lv_entry (A.map (cv Γ)) (n := mL ν) (by rw [sl_len]; exact hA)
  rw [lg_entry_eq]
  rw [args_cv] at hl
  refine h p Γ.1 e s m _ below meth c _ ⟨B.exec, B.bytes, hml, B.returns, B.notSynchronized, findClass_of_methodNamed B.named, (name_of_methodNamed B.named B.method).1, rfl, hK⟩ ?_ s.heap [] _ hH (fun q hq => absurd hq List.not_mem_nil) hl (Nat.zero_le _) (Nat.zero_le _)
  intro v σ' w' H locs pc ls hq hHR hlo hr
  have hb := B.bytes
  have hret := B.returns
  have hlocks := B.notSynchronized
  rcases hr with ⟨rfl, h1, h2⟩ | ⟨x, ty, rfl, h1, h2, h3⟩ | ⟨x, rfl, h1, h2⟩
  · exact W.vret B.exec hb (by rw [hret]; exact h2) (fun t ht _ => ⟨none, σ', w', rfl, by rw [ht]; exact hHR, hq⟩) hlo h1
  · exact W.zret B.exec hb (by rw [hret]; exact h2) h3 (fun t ht _ => ⟨some (.int x), σ', w', rfl, by rw [ht]; exact hHR, hq⟩) hlo h1
  · exact W.lret B.exec hb (by rw [hret]; exact h2) (fun t ht _ => ⟨some (.long x), σ', w', rfl, by rw [ht]; exact hHR, hq⟩) hlo h1
/-- the texts' rows -/
theorem gt_val {s : State} (hK : GK Γ s) {x : Nat} (h1 : 1 ≤ x) (h2 : x ≤ 9) : va_OF "java/lang/String" "value" "[B" (cv Γ (.retAddr (x + 19))) (xE Γ x) (fun q => gz Γ ≤ q) s (xH Γ) := by
  have := (hK.2.2.2.2.1.1.1 (x - 1) (by omega)).2.2.1
  dsimp only at this
  rw [show 1 + (x - 1) = x by omega, show 20 + (x - 1) = x + 19 by omega] at this
  exact this
theorem gt_cod {s : State} (hK : GK Γ s) {x : Nat} (h1 : 1 ≤ x) (h2 : x ≤ 9) : va_OF "java/lang/String" "coder" "B" (cv Γ (.int 0)) (xE Γ x) (fun q => gz Γ ≤ q) s (xH Γ) := by
  have := (hK.2.2.2.2.1.1.1 (x - 1) (by omega)).2.1
  dsimp only at this
  rw [show 1 + (x - 1) = x by omega] at this
  exact this
theorem aw_xget {n x wi : Nat} {nm ds : String} {v : Value} (hd : decode (mB μ) pc = .ok (.getfield n, 3)) (hw : lw_tbl[wi]? = some (.fieldLink (mN μ).cls n "java/lang/String" nm ds)) (hv : ∀ s, GK Γ s → va_OF "java/lang/String" nm ds (cv Γ v) (xE Γ x) (fun q => gz Γ ≤ q) s (xH Γ)) (k : AW Γ d μ Q (pc + 3) L (v :: S) σ w cc zz) : AW Γ d μ Q pc L (.retAddr x :: S) σ w cc zz := by
  intro p l e s m args below meth c Z hF hR H locs ls hH hlo hl hc hz
  have kk := k p l e s m args below meth c Z hF hR H locs ls hH hlo hl hc hz
  obtain ⟨hx, hb, -, -, -, hown, -, -, hK⟩ := hF
  obtain ⟨cf, k, fi, f, cell, h1, h2, h3, h4, h5, h6⟩ := hv s hK
  exact W.getf hx hb hown (hK.1 _ (List.mem_of_getElem? hw) rfl args) h1 h2 (by rw [hH.2.1 _ (Nat.not_le.mp h6)]; exact h3) h4 (v := cv Γ v) h5 rfl rfl hd kk
theorem aw_xgets {n wi : Nat} (hd : decode (mB μ) pc = .ok (.getstatic n, 3)) (hw : lw_tbl[wi]? = some (.fieldLink (mN μ).cls n "java/lang/String" "COMPACT_STRINGS" "Z")) (k : AW Γ d μ Q (pc + 3) L (.int 1 :: S) σ w cc zz) : AW Γ d μ Q pc L S σ w cc zz := by
  intro p l e s m args below meth c Z hF hR H locs ls hH hlo hl hc hz
  have kk := k p l e s m args below meth c Z hF hR H locs ls hH hlo hl hc hz
  obtain ⟨hx, hb, -, -, -, hown, -, -, hK⟩ := hF
  obtain ⟨cf, kf, fi, f, a, cell, h1, h2, h3, h4, h5, h6, h7, h8⟩ := hK.2.2.2.2.1.2.2.1
  exact W.gets hx hb hown (hK.1 _ (List.mem_of_getElem? hw) rfl args) h1 h2 h3 h4 (by rw [hH.2.1 a (Nat.not_le.mp h8)]; exact h5) (fun e => by rw [e] at h6; cases h6) h7 rfl hd kk
theorem aw_xgetq {n wi : Nat} (hd : decode (mB μ) pc = .ok (.getstatic n, 3)) (hw : lw_tbl[wi]? = some (.fieldLink (mN μ).cls n "jdk/internal/util/Preconditions" "SIOOBE_FORMATTER" "Ljava/util/function/BiFunction;")) (k1 : AW Γ d μ Q (pc + 3) L (.null :: S) σ w cc zz) (k2 : AW Γ d μ Q (pc + 3) L (.retAddr 40 :: S) σ w cc zz) : AW Γ d μ Q pc L S σ w cc zz := by
  intro p l e s m args below meth c Z hF hR H locs ls hH hlo hl hc hz
  have kk1 := k1 p l e s m args below meth c Z hF hR H locs ls hH hlo hl hc hz
  have kk2 := k2 p l e s m args below meth c Z hF hR H locs ls hH hlo hl hc hz
  obtain ⟨hx, hb, -, -, -, hown, -, -, hK⟩ := hF
  rcases hK.2.2.2.2.1.2.2.2 with q | q
  · obtain ⟨cf, kf, fi, f, a, cell, h1, h2, h3, h4, h5, h6, h7, h8⟩ := q
    exact W.gets hx hb hown (hK.1 _ (List.mem_of_getElem? hw) rfl args) h1 h2 h3 h4 (by rw [hH.2.1 a (Nat.not_le.mp h8)]; exact h5) (fun e => by rw [e] at h6; cases h6) h7 rfl hd kk1
  · obtain ⟨cf, kf, fi, f, a, cell, h1, h2, h3, h4, h5, h6, h7, h8⟩ := q
    exact W.gets hx hb hown (hK.1 _ (List.mem_of_getElem? hw) rfl args) h1 h2 h3 h4 (by rw [hH.2.1 a (Nat.not_le.mp h8)]; exact h5) (fun e => by rw [e] at h6; cases h6) h7 rfl hd kk2
theorem aw_xlen {y : Nat} (hd : decode (mB μ) pc = .ok (.arraylength, 1)) (h1 : 20 ≤ y) (h2 : y ≤ 28) (k : AW Γ d μ Q (pc + 1) L (.int (nI (txL.getD (y - 20) 0)) :: S) σ w cc zz) : AW Γ d μ Q pc L (.retAddr y :: S) σ w cc zz := by
  intro p l e s m args below meth c Z hF hR H locs ls hH hlo hl hc hz
  have kk := k p l e s m args below meth c Z hF hR H locs ls hH hlo hl hc hz
  obtain ⟨hx, hb, -, -, -, hown, -, -, hK⟩ := hF
  obtain ⟨cell, g1, g2, g3, g4, g5, g6, g7⟩ := (hK.2.2.2.2.1.1.1 (y - 20) (by omega)).2.2.2
  dsimp only at g1 g7
  rw [show 20 + (y - 20) = y by omega] at g1 g7
  exact W.alen hx hb (by rw [hH.2.1 _ (Nat.not_le.mp g7)]; exact g1) g2 g5 rfl rfl hd kk
theorem aw_xbald {y : Nat} {j : Int32} (hd : decode (mB μ) pc = .ok (.baload, 1)) (h1 : 20 ≤ y) (h2 : y ≤ 28) (hj : vp_in j (txL.getD (y - 20) 0)) (k : AW Γ d μ Q (pc + 1) L (.int ((txB.getD (y - 20) []).getD j.toNatClampNeg 0) :: S) σ w cc zz) : AW Γ d μ Q pc L (.int j :: .retAddr y :: S) σ w cc zz := by
  intro p l e s m args below meth c Z hF hR H locs ls hH hlo hl hc hz
  have kk := k p l e s m args below meth c Z hF hR H locs ls hH hlo hl hc hz
  obtain ⟨hx, hb, -, -, -, hown, -, -, hK⟩ := hF
  obtain ⟨cell, g1, g2, g3, g4, g5, g6, g7⟩ := (hK.2.2.2.2.1.1.1 (y - 20) (by omega)).2.2.2
  dsimp only at g1 g7
  rw [show 20 + (y - 20) = y by omega] at g1 g7
  have hlt := in_lt hj
  exact W.bald hx hb (by rw [hH.2.1 _ (Nat.not_le.mp g7)]; exact g1) g2 g3 (fun q => by rcases q with q | q; exact hj (Or.inl q); omega) (g6 _ hlt) rfl rfl hd kk
end Call
