/-! the engine's rows that make cells; references into arrays; copies -/
section Make
variable {Γ : Gx} {d : Nat} {μ : MD} {Q : Option Value → St → Wd → Prop} {pc : Nat} {L : Lv} {S : List Value} {σ : St} {w : Wd} {cc zz : Nat}
/-- which class goes into which array -/
theorem ar_cls {a r : Nat} (h : ((kd a).1 = 24 ∧ (kd r).1 = 7) ∨ ((kd a).1 = 25 ∧ (kd r).1 = 10) ∨ ((kd a).1 = 26 ∧ (kd r).1 = 5) ∨ ((kd a).1 = 27 ∧ (kd r).1 = 6)) : ∃ t q, (kd a).1 = 20 + t ∧ t < 9 ∧ vwCl[(kd r).1]? = some q ∧ aty t = .object q.1 ∧ (kd r).1 < 20 ∧ 24 ≤ (kd a).1 := by
  rcases h with ⟨h1, h2⟩ | ⟨h1, h2⟩ | ⟨h1, h2⟩ | ⟨h1, h2⟩ <;> rw [h1, h2]
  · exact ⟨4, _, rfl, by decide, rfl, rfl, by decide, by decide⟩
  · exact ⟨5, _, rfl, by decide, rfl, rfl, by decide, by decide⟩
  · exact ⟨6, _, rfl, by decide, rfl, rfl, by decide, by decide⟩
  · exact ⟨7, _, rfl, by decide, rfl, rfl, by decide, by decide⟩
theorem aw_aast {a r : Nat} {j : Int32} (hd : decode (mB μ) pc = .ok (.aastore, 1)) (ha : a < w.1) (hr : r < w.1) (ht : ((kd a).1 = 24 ∧ (kd r).1 = 7) ∨ ((kd a).1 = 25 ∧ (kd r).1 = 10) ∨ ((kd a).1 = 26 ∧ (kd r).1 = 5) ∨ ((kd a).1 = 27 ∧ (kd r).1 = 6)) (hj : vp_in j (kd a).2) (k : AW Γ d μ Q (pc + 1) L S σ (uW w a j.toNatClampNeg (some r)) cc zz) : AW Γ d μ Q pc L (.ref r :: .int j :: .ref a :: S) σ w cc zz := by
  intro p l e s m args below meth c Z hF hR H locs ls hH hlo hl hc hz
  have kk := fun H locs hH hlo => k p l e s m args below meth c Z hF hR H locs ls hH hlo hl hc hz
  obtain ⟨hx, hb, -, -, -, -, -, -, hK⟩ := hF
  obtain ⟨t, q, e1, e2, e3, e4, e5, e6⟩ := ar_cls ht
  obtain ⟨h1, h2, h3⟩ := ar_facts (t := t) hK hH ha e1 e2
  obtain ⟨cell, g1, g2, g3, -⟩ := (hH.2.2 r hr).1 e5
  have hcls := (hK.2.2.1.1 _ q e3).2
  rw [e4] at h3
  obtain ⟨kA, comp, k1, k2, k3, -⟩ := h3
  have hcomp : comp = (xD Γ).1 (kd r).1 := Option.some.inj (k3.symm.trans hcls.1)
  subst hcomp
  obtain ⟨kC, hkC, -⟩ := hcls.2
  have h0 : ¬ j < 0 := fun q => hj (Or.inl q)
  refine W.aast hx hb h1 (fun q h => by cases h) (fun h => by cases h) k1 k2 rfl hkC ⟨h0, by rw [arrV_size]; exact in_lt hj⟩ g1 (fun q h => by rw [g3] at h; cases h) (by rw [g2]; exact hkC) (by rw [g2]; exact va_assign hcls) rfl rfl hd fun H' q1 q2 q3 => kk H' _ ?_ (lcs_app hlo)
  have e0 : (kd a).1 - 20 = t := by omega
  refine hH.arr ha rfl (by omega) (by rw [e0]; exact h1) (by rw [e0]; exact q1) q2 q3 ?_ (fun i hi => ⟨fun k => fv_uW hi, fun j => av_uW hi⟩)
  intro i
  rw [av_r e6, av_r e6]
  show rv Γ (up2 _ _ _ _ _ _) = _
  unfold up2
  by_cases e : i = j.toNatClampNeg
  · subst e
    simp
    rfl
  · simp [e]
/-- a heap with new cells behind -/
theorem HR.grow {H H' : Heap} {σ' : St} {w' : Wd} (h : HR Γ σ w H) {n : Nat} (hn : w'.1 = w.1 + n) (hs : H'.size = H.size + n) (hq : ∀ q, q < H.size → H'[q]? = H[q]?) (hf : ∀ i, i < w.1 → (∀ k, fv Γ σ' w'.2 (kd i).1 i k = fv Γ σ w.2 (kd i).1 i k) ∧ ∀ j, av Γ σ' w'.2 (kd i).1 i j = av Γ σ w.2 (kd i).1 i j)
    (hc : ∀ i, w.1 ≤ i → i < w.1 + n → atC Γ σ' w'.2 i H') : HR Γ σ' w' H' := by
  obtain ⟨h1, h2, h3⟩ := h
  refine ⟨by rw [hs, h1, hn]; omega, fun q hqz => ?_, fun i hi => ?_⟩
  · rw [hq q (by omega)]
    exact h2 q hqz
  · by_cases e : i < w.1
    · obtain ⟨g1, g2⟩ := h3 i e
      have hk : H'[gz Γ + i]? = H[gz Γ + i]? := hq _ (by omega)
      refine ⟨fun ht => ?_, fun ht => ?_⟩
      · exact ((g1 ht).kept hk).to (fun k _ => ((hf i e).1 k).symm)
      · rw [hk, g2 ht]
        congr 2
        funext j
        exact ((hf i e).2 j).symm
    · exact hc i (by omega) (by omega)
theorem fv_z {t i j : Nat} (h : i < w.1) : fv Γ (zS σ w.1) (zW w).2 t i j = fv Γ σ w.2 t i j := by
  have : ¬ i = w.1 := by omega
  unfold fv zW
  simp only [gI_zS, gJ_zS, gR_zS, this, if_false]
theorem av_z {t i j : Nat} (h : i < w.1) : av Γ (zS σ w.1) (zW w).2 t i j = av Γ σ w.2 t i j := by
  have : ¬ i = w.1 := by omega
  unfold av zW
  simp only [gI_zS, gJ_zS, this, if_false]
/-- a new object's fields -/
theorem fk_ty : ∀ t, t < 13 → ∀ k, k < ((vwCl[t]?.map (fun q => q.2.2)).getD 0) → (match fk t k with | 1 => Value.long 0 | 2 => .null | 3 => .null | _ => .int 0) = defaultValue (tyOf t k) := by decide +kernel
theorem fv_new {t k : Nat} {q : vw_C} (ht : vwCl[t]? = some q) (hk : k < q.2.2) : fv Γ (zS σ w.1) (zW w).2 t w.1 k = defaultValue (tyOf t k) := by
  have h13 : t < 13 := (List.getElem?_eq_some_iff.mp ht).1
  have h := fk_ty t h13 k (by rw [ht]; exact hk)
  rw [← h]
  unfold fv
  simp only [gI_zS, gJ_zS, gR_zS, zW, rv, va_rf, if_true, Option.map_none]
  rfl
theorem aw_new {n ci wi wj wk : Nat} (hd : decode (mB μ) pc = .ok (.new n, 3)) {q : vw_C} (hq : vwCl[ci]? = some q) (h1 : lw_tbl[wi]? = some (.classLink (mN μ).cls n q.1)) (h2 : lw_tbl[wj]? = some (.instantiable q.1 q.2.2)) (h3 : lw_tbl[wk]? = some (.initialized q.1)) (hk : (kd w.1).1 = ci) (hcc : cc + 1 ≤ mC μ) (hzz : zz + (kd w.1).2 ≤ mS μ)
    (k : AW Γ d μ Q (pc + 3) L (.ref w.1 :: S) (zS σ w.1) (zW w) (cc + 1) (zz + (kd w.1).2)) : AW Γ d μ Q pc L S σ w cc zz := by
  intro p l e s m args below meth c Z hF hR H locs ls hH hlo hl hc hz
  have kk := fun H hH => k p l e s m args below meth c Z hF hR H locs ls hH hlo hl hcc hzz
  obtain ⟨hx, hb, -, -, -, hown, -, -, hK⟩ := hF
  have hlt := ci_lt hq
  have hN : (kd w.1).2 = q.2.2 := by
    obtain ⟨q', g1, g2⟩ := kd_cl (i := w.1) (by rw [hk]; exact hlt)
    rw [hk, hq] at g1
    cases g1
    exact g2.symm
  rw [hN] at kk hzz
  have wd : ∀ {i : Nat} {x : Cond}, lw_tbl[i]? = some x → goodWord x = true → x.before args s = true := fun h g => hK.1 _ (List.mem_of_getElem? h) g args
  have hKn := hK.2.2.1.1 ci q hq
  obtain ⟨hw0, -, hty⟩ := cl_facts hq
  have hsz : H.size = gz Γ + w.1 := hH.1
  refine W.newcK hx hb hown (wd h1 rfl) (wd h2 rfl) (wd h3 rfl) rfl hd hcc hzz hKn.2.1 hsz fun H' kC hkC q1 q2 q3 => kk H' ?_
  refine hH.grow (n := 1) rfl (by rw [q2, hsz]) (fun x hx => q3 x (by omega)) (fun i hi => ⟨fun k => fv_z hi, fun j => av_z hi⟩) ?_
  intro i hi hi2
  have : i = w.1 := by omega
  subst this
  rw [atC_o (by rw [hk]; exact hlt), hk, hN]
  have hts : ∀ x ∈ u_ws q.1 q.2.1 q.2.2, x.before args s = true := fun x hx => hK.1 x (hw0 x hx).1 (hw0 x hx).2 args
  exact (u_born (tyOf ci) hts (fun _ h => h) hKn hkC q1 hty).to (fun k hk => (fv_new hq hk).symm)
/-- a new array -/
theorem av_new {t k : Nat} : av Γ (zS σ w.1) (zW w).2 t w.1 k = if t = 21 then .long 0 else if t < 24 then .int 0 else .null := by
  unfold av
  simp [gI_zS, gJ_zS, zW, rv, va_rf]
theorem HR.newA {H H' : Heap} (hH : HR Γ σ w H) {t N : Nat} {dv : Value} (ht : (kd w.1).1 = 20 + t) (hN : (kd w.1).2 = N) (hdv : (if 20 + t = 21 then Value.long 0 else if 20 + t < 24 then .int 0 else .null) = dv) (q1 : H'[gz Γ + w.1]? = some (arrV (xA Γ t) N (fun _ => dv))) (q2 : H'.size = gz Γ + w.1 + 1) (q3 : ∀ q, q < gz Γ + w.1 → H'[q]? = H[q]?) : HR Γ (zS σ w.1) (zW w) H' := by
  have hsz : H.size = gz Γ + w.1 := hH.1
  refine hH.grow (n := 1) rfl (by rw [q2, hsz]) (fun x hx => q3 x (by omega)) (fun i hi => ⟨fun k => fv_z hi, fun j => av_z hi⟩) ?_
  intro i hi hi2
  have : i = w.1 := by omega
  subst this
  rw [atC_a (by rw [ht]; omega), ht, hN, show 20 + t - 20 = t by omega, q1]
  congr 2
  funext j
  rw [av_new, hdv]
theorem aw_newa {ty : ArrayType} {n : Int32} (hd : decode (mB μ) pc = .ok (.newarray ty, 2)) (ht : (kd w.1).1 = 20 ∧ ty = .int ∨ (kd w.1).1 = 21 ∧ ty = .long ∨ (kd w.1).1 = 22 ∧ ty = .byte ∨ (kd w.1).1 = 23 ∧ ty = .boolean) (hn : ¬ n < 0) (hN : (kd w.1).2 = n.toNatClampNeg) (hcc : cc + 1 ≤ mC μ) (hzz : zz + (kd w.1).2 ≤ mS μ)
    (k : AW Γ d μ Q (pc + 2) L (.ref w.1 :: S) (zS σ w.1) (zW w) (cc + 1) (zz + (kd w.1).2)) : AW Γ d μ Q pc L (.int n :: S) σ w cc zz := by
  intro p l e s m args below meth c Z hF hR H locs ls hH hlo hl hc hz
  have kk := fun H hH => k p l e s m args below meth c Z hF hR H locs ls hH hlo hl hcc hzz
  obtain ⟨hx, hb, -, -, -, hown, -, -, hK⟩ := hF
  rw [hN] at kk hzz
  have hsz : H.size = gz Γ + w.1 := hH.1
  have hbig : n.toNatClampNeg ≤ 40000 := by
    rw [← hN]
    by_cases h : w.1 < 430
    · have : ∀ i, i < 430 → (kd i).2 ≤ 40000 := by decide +kernel
      exact this _ h
    · rw [kd_out h]
      decide
  have go : ∀ (t : Nat) (ty' : FieldType) (dv : Value), t < 9 → (kd w.1).1 = 20 + t → newarray.typeOf ty = ty' → aty t = ty' → (Cond.arrayClass ty').before args s = true → (if 20 + t = 21 then Value.long 0 else if 20 + t < 24 then .int 0 else .null) = dv → defaultValue ty' = dv → componentBytes ty' ≤ 8 → va_RA s (xA Γ t) (aty t) → (∀ cA, s.vm.findClass ("[" ++ ty'.toString) = some cA → va_RA s (xA Γ t) (aty t) → cA = xA Γ t) → W p l e (rmOf d (mC μ) (mS μ)) s m args below meth c H locs cc zz Z (F0 m pc ls ((Value.int n :: S).map (cv Γ))) := by
    intro t ty' dv h9 h1 h2 h3 h4 h5 h6 h7 h8 h10
    subst h2
    refine va_newaK hx hb h4 rfl hd rfl hn rfl (by have : n.toNatClampNeg * componentBytes (newarray.typeOf ty) ≤ 40000 * 8 := Nat.mul_le_mul hbig h7; omega) hcc hzz hsz fun H' cA q1 q2 q3 _ q5 => kk H' ?_
    have e : cA = xA Γ t := h10 cA q5 h8
    subst e
    rw [h6] at q1
    exact hH.newA h1 hN h5 q1 q2 q3
  have hra : ∀ t, t < 9 → va_RA s (xA Γ t) (aty t) := fun t ht => (hK.2.2.1.2 t (xA Γ t, aty t) (by rw [List.getElem?_map, List.getElem?_range ht]; rfl)).2
  have wd : ∀ {i : Nat} {x : Cond}, lw_tbl[i]? = some x → goodWord x = true → x.before args s = true := fun h g => hK.1 _ (List.mem_of_getElem? h) g args
  rcases ht with ⟨h, rfl⟩ | ⟨h, rfl⟩ | ⟨h, rfl⟩ | ⟨h, rfl⟩
  · exact go 0 .int (.int 0) (by decide) h rfl rfl (hK.1 _ (by decide +kernel) rfl args) rfl rfl (by decide) (hra 0 (by decide)) (fun cA q1 q2 => Option.some.inj (q1.symm.trans q2))
  · exact go 1 .long (.long 0) (by decide) h rfl rfl (hK.1 _ (by decide +kernel) rfl args) rfl rfl (by decide) (hra 1 (by decide)) (fun cA q1 q2 => Option.some.inj (q1.symm.trans q2))
  · exact go 2 .byte (.int 0) (by decide) h rfl rfl (hK.1 _ (by decide +kernel) rfl args) rfl rfl (by decide) (hra 2 (by decide)) (fun cA q1 q2 => Option.some.inj (q1.symm.trans q2))
  · exact go 3 .boolean (.int 0) (by decide) h rfl rfl (hK.1 _ (by decide +kernel) rfl args) rfl rfl (by decide) (hra 3 (by decide)) (fun cA q1 q2 => Option.some.inj (q1.symm.trans q2))
theorem aw_anew {n t wi : Nat} {j : Int32} {q : vw_C} {ci : Nat} (hd : decode (mB μ) pc = .ok (.anewarray n, 3)) (hq : vwCl[ci]? = some q) (hct : (t = 24 ∧ ci = 7) ∨ (t = 25 ∧ ci = 10) ∨ (t = 26 ∧ ci = 5) ∨ (t = 27 ∧ ci = 6)) (h1 : lw_tbl[wi]? = some (.classLink (mN μ).cls n q.1)) (hk : (kd w.1).1 = t) (hn : ¬ j < 0) (hN : (kd w.1).2 = j.toNatClampNeg) (hcc : cc + 1 ≤ mC μ) (hzz : zz + (kd w.1).2 ≤ mS μ)
    (k : AW Γ d μ Q (pc + 3) L (.ref w.1 :: S) (zS σ w.1) (zW w) (cc + 1) (zz + (kd w.1).2)) : AW Γ d μ Q pc L (.int j :: S) σ w cc zz := by
  intro p l e s m args below meth c Z hF hR H locs ls hH hlo hl hc hz
  have kk := fun H hH => k p l e s m args below meth c Z hF hR H locs ls hH hlo hl hcc hzz
  obtain ⟨hx, hb, -, -, -, hown, -, -, hK⟩ := hF
  rw [hN] at kk hzz
  have hsz : H.size = gz Γ + w.1 := hH.1
  have hbig : j.toNatClampNeg ≤ 40000 := by
    rw [← hN]
    by_cases h : w.1 < 430
    · have : ∀ i, i < 430 → (kd i).2 ≤ 40000 := by decide +kernel
      exact this _ h
    · rw [kd_out h]
      decide
  have hra : ∀ t, t < 9 → va_RA s (xA Γ t) (aty t) := fun t ht => (hK.2.2.1.2 t (xA Γ t, aty t) (by rw [List.getElem?_map, List.getElem?_range ht]; rfl)).2
  have hlink := hK.1 _ (List.mem_of_getElem? h1) rfl args
  obtain ⟨o1, o2, o3, o4, -⟩ := hK.2.2.2.2.2
  have go : ∀ (t' : Nat), t' < 9 → t = 20 + t' → 4 ≤ t' → aty t' = .object q.1 → va_AO q.1 s → W p l e (rmOf d (mC μ) (mS μ)) s m args below meth c H locs cc zz Z (F0 m pc ls ((Value.int j :: S).map (cv Γ))) := by
    intro t' h9 ht' h4 hty hao
    refine W.anew hx hb hown hlink (va_AO.use hao) rfl hd rfl hn (by omega) hcc hzz fun cA kA comp f1 f2 f3 f4 => ?_
    have hr := hra t' h9
    rw [hty] at hr
    obtain ⟨_, _, -, -, -, hr4⟩ := hr
    have e : cA = xA Γ t' := Option.some.inj (f1.symm.trans hr4)
    subst e
    rw [hsz]
    refine kk _ ?_
    refine hH.newA (t := t') (N := j.toNatClampNeg) (dv := .null) (by rw [hk, ht']) hN (by rw [if_neg (by omega), if_neg (by omega)]) ?_ ?_ ?_
    · rw [← hsz, Array.getElem?_push_size, ← arrV_new]
    · rw [Array.size_push, hsz]
    · intro x hx
      rw [Array.getElem?_push, if_neg (by omega)]
  rcases hct with ⟨rfl, rfl⟩ | ⟨rfl, rfl⟩ | ⟨rfl, rfl⟩ | ⟨rfl, rfl⟩ <;> cases hq
  · exact go 4 (by decide) rfl (by decide) rfl o1
  · exact go 5 (by decide) rfl (by decide) rfl o2
  · exact go 6 (by decide) rfl (by decide) rfl o3
  · exact go 7 (by decide) rfl (by decide) rfl o4
theorem vr_outer (c : ClassId) (N h0 : Nat) : ∀ i : Nat, Jvm.Free.Multi.outerC c N h0 i = arrV c N (fun j => va_rf (if j < i then some (h0 + 1 + j) else none))
  | 0 => by
    show ({ cls := c, slots := Array.replicate N .null, vm := .none } : Cell) = _
    rw [arrV_new]
    refine congrArg (arrV c N) (funext fun j => ?_)
    simp [va_rf]
  | i + 1 => by
    show (Jvm.Free.Multi.outerC c N h0 i).setSlot i (.ref (h0 + 1 + i)) = _
    rw [vr_outer c N h0 i, arrV_store]
    refine congrArg (arrV c N) (funext fun j => ?_)
    by_cases e : j = i
    · subst e
      simp [updV, va_rf]
    · by_cases h : j < i
      · simp [updV, e, h, Nat.lt_succ_of_lt h]
      · simp [updV, e, h, show ¬ j < i + 1 by omega]
theorem aw_multi {n wi : Nat} {a b : Int32} (hd : decode (mB μ) pc = .ok (.multianewarray n 2, 4)) (h1 : lw_tbl[wi]? = some (.classLink (mN μ).cls n "[[I")) (hk : kd w.1 = (28, a.toNatClampNeg)) (hrow : ∀ i, i < a.toNatClampNeg → kd (w.1 + 1 + i) = (20, b.toNatClampNeg)) (ha : ¬ a < 0) (hb0 : ¬ b < 0) (ha1 : a.toNatClampNeg ≤ 1000) (hb1 : b.toNatClampNeg ≤ 1000)
    (hcc : cc + (1 + a.toNatClampNeg) ≤ mC μ) (hzz : zz + (a.toNatClampNeg + a.toNatClampNeg * b.toNatClampNeg) ≤ mS μ)
    (k : AW Γ d μ Q (pc + 4) L (.ref w.1 :: S) (zM σ w.1 (1 + a.toNatClampNeg)) (gM w a.toNatClampNeg) (cc + 1 + a.toNatClampNeg) (zz + a.toNatClampNeg + a.toNatClampNeg * b.toNatClampNeg)) : AW Γ d μ Q pc L (.int b :: .int a :: S) σ w cc zz := by
  intro p l e s m args below meth c Z hF hR H locs ls hH hlo hl hc hz
  have kk := fun H hH => k p l e s m args below meth c Z hF hR H locs ls hH hlo hl (by omega) (by omega)
  obtain ⟨hx, hb, -, -, -, hown, -, -, hK⟩ := hF
  have hsz : H.size = gz Γ + w.1 := hH.1
  have hra : ∀ t, t < 9 → va_RA s (xA Γ t) (aty t) := fun t ht => (hK.2.2.1.2 t (xA Γ t, aty t) (by rw [List.getElem?_map, List.getElem?_range ht]; rfl)).2
  have hlink : (Cond.classLink (mN μ).cls n ("[" ++ (FieldType.array .int).toString)).before args s = true := hK.1 _ (List.mem_of_getElem? h1) rfl args
  have hao : (Cond.arrayOver (.array .int)).before args s = true := hK.2.2.2.2.2.2.2.2.2
  have hac : (Cond.arrayClass .int).before args s = true := hK.1 _ (by decide +kernel) rfl args
  intro T hT Xs
  obtain ⟨vm₁, cA, comp, -, fA, fC, hO, -, X', step⟩ := Xs.multianewarray2F hx hown hlink hao hac (g := F0 m pc ls ((Value.int b :: .int a :: S).map (cv Γ))) rfl (by rw [hb]; exact hd) rfl ha hb0 (by omega) (by show _ * 4 ≤ _; omega) (by omega) rfl rfl hcc hzz
  have e1 : cA = xA Γ 8 := by
    have := hra 8 (by decide)
    exact Option.some.inj (fA.symm.trans this)
  have e2 : comp = xA Γ 0 := by
    have := hra 0 (by decide)
    exact Option.some.inj (fC.symm.trans this)
  subst e1
  subst e2
  have hTh : (T.setVm vm₁).heap = H := hT
  obtain ⟨f1, f2, -, -⟩ := Jvm.Free.Multi.fill_facts (T.setVm vm₁) (xA Γ 8) (xA Γ 0) a.toNatClampNeg b.toNatClampNeg (defaultValue .int) a.toNatClampNeg
  have fo := fun x hx => Jvm.Free.Multi.fill_old (T.setVm vm₁) (xA Γ 8) (xA Γ 0) a.toNatClampNeg b.toNatClampNeg (defaultValue .int) (a := x) hx a.toNatClampNeg
  have fi := Jvm.Free.Multi.fill_inner (T.setVm vm₁) (xA Γ 8) (xA Γ 0) a.toNatClampNeg b.toNatClampNeg (defaultValue .int) a.toNatClampNeg
  generalize Jvm.Free.Multi.fill (T.setVm vm₁) (xA Γ 8) (xA Γ 0) a.toNatClampNeg b.toNatClampNeg (defaultValue .int) a.toNatClampNeg = F at X' step f1 f2 fo fi
  rw [hTh, hsz] at f1 f2 fi
  rw [hTh] at fo
  rw [vr_outer] at f2
  have hHR : HR Γ (zM σ w.1 (1 + a.toNatClampNeg)) (gM w a.toNatClampNeg) F.heap := by
    refine hH.grow (n := 1 + a.toNatClampNeg) (by show w.1 + 1 + a.toNatClampNeg = _; omega) (by rw [f1, hsz]; omega) (fun x hx => fo x hx) (fun i hi => ⟨fun k => ?_, fun j => ?_⟩) ?_
    · have z1 : ¬ (w.1 ≤ i ∧ i < w.1 + (1 + a.toNatClampNeg)) := by omega
      have z2 : ¬ i = w.1 := by omega
      have z3 : ¬ (w.1 ≤ i ∧ i < w.1 + 1 + a.toNatClampNeg) := by omega
      unfold fv gI gJ gR zM gM
      simp only [z1, z2, z3, if_false]
    · have z1 : ¬ (w.1 ≤ i ∧ i < w.1 + (1 + a.toNatClampNeg)) := by omega
      have z2 : ¬ i = w.1 := by omega
      have z3 : ¬ (w.1 ≤ i ∧ i < w.1 + 1 + a.toNatClampNeg) := by omega
      unfold av gI gJ zM gM
      simp only [z1, z2, z3, if_false]
    · intro i hi hi2
      by_cases e : i = w.1
      · subst e
        rw [atC_a (by rw [hk]; show 20 ≤ 28; decide), hk]
        show F.heap[gz Γ + w.1]? = some (arrV (xA Γ 8) _ _)
        rw [f2]
        congr 2
        funext j
        show _ = rv Γ ((gM w a.toNatClampNeg).2 w.1 j)
        unfold gM rv
        simp only [if_true]
        by_cases hj : j < a.toNatClampNeg
        · rw [if_pos hj, if_pos hj]
          show va_rf (some (gz Γ + w.1 + 1 + j)) = va_rf (some (gz Γ + (w.1 + 1 + j)))
          rw [show gz Γ + w.1 + 1 + j = gz Γ + (w.1 + 1 + j) by omega]
        · rw [if_neg hj, if_neg hj]
          rfl
      · have hr := hrow (i - w.1 - 1) (by omega)
        rw [show w.1 + 1 + (i - w.1 - 1) = i by omega] at hr
        rw [atC_a (by rw [hr]; show 20 ≤ 20; decide), hr]
        show F.heap[gz Γ + i]? = some (arrV (xA Γ 0) _ _)
        have := fi (i - w.1 - 1) (by omega)
        rw [show gz Γ + w.1 + 1 + (i - w.1 - 1) = gz Γ + i by omega] at this
        rw [this]
        show some ({ cls := _, slots := Array.replicate _ _, vm := .none } : Cell) = _
        rw [arrV_new]
        congr 2
        funext j
        have z1 : w.1 ≤ i ∧ i < w.1 + (1 + a.toNatClampNeg) := by omega
        unfold av gI zM
        simp only [z1, and_self, if_true]
        rfl
  obtain ⟨t, a1, b1⟩ := kk F.heap hHR F rfl X'
  refine ⟨t, step t ?_, b1⟩
  have e : T.heap.size = gz Γ + w.1 := by rw [hT, hsz]
  rw [e]
  exact a1
theorem aw_obj {n wi wj wk : Nat} {o : Nat} (hd : decode (mB μ) pc = .ok (.invokespecial n, 3)) (h1 : lw_tbl[wi]? = some (.methodLink (mN μ).cls n Lib.objectInit)) (h2 : lw_tbl[wj]? = some (.instanceMethod Lib.objectInit)) (h3 : lw_tbl[wk]? = some (.code Lib.objectInit ⟨#[0xb1]⟩ 1 none)) (h0 : 1 ≤ d) (hS : catS S ≤ 8) (k : AW Γ d μ Q (pc + 3) L S σ w cc zz) : AW Γ d μ Q pc L (.ref o :: S) σ w cc zz := by
  intro p l e s m args below meth c Z hF hR H locs ls hH hlo hl hc hz
  have kk := k p l e s m args below meth c Z hF hR H locs ls hH hlo hl hc hz
  obtain ⟨hx, hb, hml, -, -, hown, -, -, hK⟩ := hF
  have wd : ∀ {i : Nat} {x : Cond}, lw_tbl[i]? = some x → goodWord x = true → x.before args s = true := fun h g => hK.1 _ (List.mem_of_getElem? h) g args
  refine W.objInit hx hb hown (wd h1 rfl) (wd h2 rfl) (wd h3 rfl) rfl (by rw [hml]; exact hl.1) rfl hd h0 ?_ kk
  show 2 * 0 + ((S.map (cv Γ)).map fun v => v.category).sum + 12 ≤ 36 * d
  rw [List.map_map, show (fun v => v.category) ∘ cv Γ = Value.category from funext (fun v => cv_cat Γ v)]
  unfold catS at hS
  omega
end Make
