/-! the engine's rows on arrays -/
section Arr
variable {Γ : Gx} {d : Nat} {μ : MD} {Q : Option Value → St → Wd → Prop} {pc : Nat} {L : Lv} {S : List Value} {σ : St} {w : Wd} {cc zz : Nat}
/-- what the tables say of an array -/
theorem ar_facts {s : State} {H : Heap} {a t : Nat} (hK : GK Γ s) (hH : HR Γ σ w H) (ha : a < w.1) (ht : (kd a).1 = 20 + t) (ht9 : t < 9) : H[gz Γ + a]? = some (arrV (xA Γ t) (kd a).2 (av Γ σ w.2 (kd a).1 a)) ∧ (∀ n z, s.isArrayOf (arrV (xA Γ t) n z) (aty t)) ∧ va_RA s (xA Γ t) (aty t) := by
  have h1 := (hH.2.2 a ha).2 (by omega)
  rw [show (kd a).1 - 20 = t by omega] at h1
  have h2 := hK.2.2.1.2 t (xA Γ t, aty t) (by rw [List.getElem?_map, List.getElem?_range ht9]; rfl)
  exact ⟨h1, h2.1, h2.2⟩
theorem av_i {ρ : Nat → Nat → Option Nat} {a t : Nat} (h : t = 20 ∨ t = 22 ∨ t = 23) : av Γ σ ρ t a = fun j => .int (gI σ a j) := by
  funext j
  rcases h with rfl | rfl | rfl <;> rfl
theorem av_l {ρ : Nat → Nat → Option Nat} {a : Nat} : av Γ σ ρ 21 a = fun j => .long (gJ σ a j) := by
  funext j
  rfl
theorem av_r {ρ : Nat → Nat → Option Nat} {a t : Nat} (h : 24 ≤ t) : av Γ σ ρ t a = fun j => rv Γ (ρ a j) := by
  funext j
  unfold av
  rw [if_neg (by omega), if_neg (by omega)]
theorem in_sz {j : Int32} {n : Nat} {C : ClassId} {f : Nat → Value} (h : vp_in j n) : ¬ (j < 0 ∨ (arrV C n f).slots.size ≤ j.toNatClampNeg) := by rw [arrV_size]; exact h
theorem in_lt {j : Int32} {n : Nat} (h : vp_in j n) : j.toNatClampNeg < n := Nat.not_le.mp fun q => h (Or.inr q)
theorem in_rd {j : Int32} {n : Nat} {C : ClassId} {f : Nat → Value} (h : vp_in j n) : (arrV C n f).slots[j.toNatClampNeg]? = some (f j.toNatClampNeg) := arrV_read _ _ (in_lt h)
theorem aw_iald {a : Nat} {j : Int32} (hd : decode (mB μ) pc = .ok (.iaload, 1)) (ha : okO w a 20) (hj : vp_in j (kd a).2) (k : AW Γ d μ Q (pc + 1) L (.int (gI σ a j.toNatClampNeg) :: S) σ w cc zz) : AW Γ d μ Q pc L (.int j :: .ref a :: S) σ w cc zz := by
  intro p l e s m args below meth c Z hF hR H locs ls hH hlo hl hc hz
  have kk := k p l e s m args below meth c Z hF hR H locs ls hH hlo hl hc hz
  obtain ⟨hx, hb, -, -, -, -, -, -, hK⟩ := hF
  obtain ⟨h1, h2, -⟩ := ar_facts (t := 0) hK hH ha.1 ha.2 (by decide)
  rw [av_i (Or.inl ha.2)] at h1
  exact W.iald hx hb h1 (h2 _ _) (fun q => by cases q) (in_sz hj) (in_rd hj) rfl rfl hd kk
theorem aw_sld {j : Int32} (hd : decode (mB μ) pc = .ok (.iaload, 1)) (hj : vp_in j (xN Γ)) (k : AW Γ d μ Q (pc + 1) L (.int (xS Γ j.toNatClampNeg) :: S) σ w cc zz) : AW Γ d μ Q pc L (.int j :: .retAddr 0 :: S) σ w cc zz := by
  intro p l e s m args below meth c Z hF hR H locs ls hH hlo hl hc hz
  have kk := k p l e s m args below meth c Z hF hR H locs ls hH hlo hl hc hz
  obtain ⟨hx, hb, -, -, -, -, -, -, hK⟩ := hF
  obtain ⟨scr, h1, h2, h3, h4, h5⟩ := hK.2.2.2.1
  have hlt : xE Γ 0 < gz Γ := (Array.getElem?_eq_some_iff.mp h1).1
  exact W.iald (v := .int (xS Γ j.toNatClampNeg)) hx hb (by rw [hH.2.1 _ hlt]; exact h1) h2 h3 (by rw [h4]; exact hj) (h5 _ (in_lt hj)) rfl rfl hd kk
theorem aw_slen (hd : decode (mB μ) pc = .ok (.arraylength, 1)) (k : AW Γ d μ Q (pc + 1) L (.int (nI (xN Γ)) :: S) σ w cc zz) : AW Γ d μ Q pc L (.retAddr 0 :: S) σ w cc zz := by
  intro p l e s m args below meth c Z hF hR H locs ls hH hlo hl hc hz
  have kk := k p l e s m args below meth c Z hF hR H locs ls hH hlo hl hc hz
  obtain ⟨hx, hb, -, -, -, -, -, -, hK⟩ := hF
  obtain ⟨scr, h1, h2, h3, h4, h5⟩ := hK.2.2.2.1
  have hlt : xE Γ 0 < gz Γ := (Array.getElem?_eq_some_iff.mp h1).1
  exact W.alen (n := nI (xN Γ)) hx hb (by rw [hH.2.1 _ hlt]; exact h1) h2 (by rw [h4]; rfl) rfl rfl hd kk
theorem aw_lald {a : Nat} {j : Int32} (hd : decode (mB μ) pc = .ok (.laload, 1)) (ha : okO w a 21) (hj : vp_in j (kd a).2) (k : AW Γ d μ Q (pc + 1) L (.long (gJ σ a j.toNatClampNeg) :: S) σ w cc zz) : AW Γ d μ Q pc L (.int j :: .ref a :: S) σ w cc zz := by
  intro p l e s m args below meth c Z hF hR H locs ls hH hlo hl hc hz
  have kk := k p l e s m args below meth c Z hF hR H locs ls hH hlo hl hc hz
  obtain ⟨hx, hb, -, -, -, -, -, -, hK⟩ := hF
  obtain ⟨h1, h2, -⟩ := ar_facts (t := 1) hK hH ha.1 ha.2 (by decide)
  rw [ha.2, av_l] at h1
  exact W.lald hx hb h1 (h2 _ _) (fun q => by cases q) (in_sz hj) (in_rd hj) rfl rfl hd kk
theorem aw_bald {a : Nat} {j : Int32} (hd : decode (mB μ) pc = .ok (.baload, 1)) (ha : a < w.1) (ht : (kd a).1 = 22 ∨ (kd a).1 = 23) (hj : vp_in j (kd a).2) (k : AW Γ d μ Q (pc + 1) L (.int (gI σ a j.toNatClampNeg) :: S) σ w cc zz) : AW Γ d μ Q pc L (.int j :: .ref a :: S) σ w cc zz := by
  intro p l e s m args below meth c Z hF hR H locs ls hH hlo hl hc hz
  have kk := k p l e s m args below meth c Z hF hR H locs ls hH hlo hl hc hz
  obtain ⟨hx, hb, -, -, -, -, -, -, hK⟩ := hF
  rcases ht with ht | ht
  · obtain ⟨h1, h2, -⟩ := ar_facts (t := 2) hK hH ha ht (by decide)
    rw [av_i (Or.inr (Or.inl ht))] at h1
    exact W.bald hx hb h1 (h2 _ _) (fun q => by cases q) (in_sz hj) (in_rd hj) rfl rfl hd kk
  · obtain ⟨h1, h2, -⟩ := ar_facts (t := 3) hK hH ha ht (by decide)
    rw [av_i (Or.inr (Or.inr ht))] at h1
    exact W.zald hx hb h1 (h2 _ _) (fun q => by cases q) (in_sz hj) (in_rd hj) rfl rfl hd kk
theorem aw_aald {a r : Nat} {j : Int32} (hd : decode (mB μ) pc = .ok (.aaload, 1)) (ha : a < w.1) (ht : 24 ≤ (kd a).1) (ht2 : (kd a).1 ≤ 28) (hj : vp_in j (kd a).2) (hr : w.2 a j.toNatClampNeg = some r) (k : AW Γ d μ Q (pc + 1) L (.ref r :: S) σ w cc zz) : AW Γ d μ Q pc L (.int j :: .ref a :: S) σ w cc zz := by
  intro p l e s m args below meth c Z hF hR H locs ls hH hlo hl hc hz
  have kk := k p l e s m args below meth c Z hF hR H locs ls hH hlo hl hc hz
  obtain ⟨hx, hb, -, -, -, -, -, -, hK⟩ := hF
  obtain ⟨h1, h2, -⟩ := ar_facts (t := (kd a).1 - 20) hK hH ha (by omega) (by omega)
  rw [av_r ht] at h1
  have hrf : (aty ((kd a).1 - 20)).isReference = true := by
    have : (kd a).1 = 24 ∨ (kd a).1 = 25 ∨ (kd a).1 = 26 ∨ (kd a).1 = 27 ∨ (kd a).1 = 28 := by omega
    rcases this with q | q | q | q | q <;> rw [q] <;> rfl
  exact W.aald hx hb h1 (h2 _ _) hrf (fun q => by cases q) (in_sz hj) (in_rd hj) rfl rfl hd (by rw [hr]; exact kk)
theorem aw_alen {a : Nat} (hd : decode (mB μ) pc = .ok (.arraylength, 1)) (ha : a < w.1) (ht : 20 ≤ (kd a).1) (ht2 : (kd a).1 ≤ 28) (k : AW Γ d μ Q (pc + 1) L (.int (nI (kd a).2) :: S) σ w cc zz) : AW Γ d μ Q pc L (.ref a :: S) σ w cc zz := by
  intro p l e s m args below meth c Z hF hR H locs ls hH hlo hl hc hz
  have kk := k p l e s m args below meth c Z hF hR H locs ls hH hlo hl hc hz
  obtain ⟨hx, hb, -, -, -, -, -, -, hK⟩ := hF
  obtain ⟨h1, h2, -⟩ := ar_facts (t := (kd a).1 - 20) hK hH ha (by omega) (by omega)
  exact W.alen (n := nI (kd a).2) hx hb h1 (h2 _ _) (by rw [arrV_size]; rfl) rfl rfl hd kk
theorem lcs_app {locs : List Loc} {a x : Nat} (hlo : lcs Γ locs) : lcs Γ (locs ++ [⟨gz Γ + a, x⟩]) := by
  intro q hq
  rcases List.mem_append.mp hq with h | h
  · exact hlo q h
  · rw [List.mem_singleton.mp h]
    exact Nat.le_add_right _ _
/-- an array of which one place has changed -/
theorem HR.arr {H H' : Heap} {σ' : St} {w' : Wd} {a j : Nat} {v : Value} (h : HR Γ σ w H) (ha : a < w.1) (hw : w'.1 = w.1) (ht : 20 ≤ (kd a).1) (h1 : H[gz Γ + a]? = some (arrV (xA Γ ((kd a).1 - 20)) (kd a).2 (av Γ σ w.2 (kd a).1 a))) (q1 : H'[gz Γ + a]? = some ((arrV (xA Γ ((kd a).1 - 20)) (kd a).2 (av Γ σ w.2 (kd a).1 a)).setSlot j v)) (q2 : H'.size = H.size) (q3 : ∀ q, q ≠ gz Γ + a → H'[q]? = H[q]?)
    (hv : ∀ i, av Γ σ' w'.2 (kd a).1 a i = if i = j then v else av Γ σ w.2 (kd a).1 a i) (hf : ∀ i, i ≠ a → (∀ k, fv Γ σ' w'.2 (kd i).1 i k = fv Γ σ w.2 (kd i).1 i k) ∧ ∀ j, av Γ σ' w'.2 (kd i).1 i j = av Γ σ w.2 (kd i).1 i j) : HR Γ σ' w' H' := by
  refine h.at_one hw ha q2 q3 ?_ hf
  rw [atC_a ht, q1, arrV_store]
  congr 2
  funext i
  rw [hv i]
  rfl
theorem aw_iast {a : Nat} {j v : Int32} (hd : decode (mB μ) pc = .ok (.iastore, 1)) (ha : okO w a 20) (hj : vp_in j (kd a).2) (k : AW Γ d μ Q (pc + 1) L S (uI σ a j.toNatClampNeg v) w cc zz) : AW Γ d μ Q pc L (.int v :: .int j :: .ref a :: S) σ w cc zz := by
  intro p l e s m args below meth c Z hF hR H locs ls hH hlo hl hc hz
  have kk := fun H locs hH hlo => k p l e s m args below meth c Z hF hR H locs ls hH hlo hl hc hz
  obtain ⟨hx, hb, -, -, -, -, -, -, hK⟩ := hF
  obtain ⟨h1, h2, -⟩ := ar_facts (t := 0) hK hH ha.1 ha.2 (by decide)
  refine W.iast hx hb h1 (h2 _ _) (fun q => by cases q) (in_sz hj) rfl rfl hd fun H' q1 q2 q3 => kk H' _ ?_ (lcs_app hlo)
  have e0 : (kd a).1 - 20 = 0 := by rw [ha.2]
  refine hH.arr ha.1 rfl (by rw [ha.2]; decide) (by rw [e0]; exact h1) (by rw [e0]; exact q1) q2 q3 ?_ (fun i hi => ⟨fun k => fv_uI hi, fun j => av_uI hi⟩)
  intro i
  rw [av_i (Or.inl ha.2), av_i (Or.inl ha.2)]
  show Value.int (gI _ _ _) = _
  rw [gI_uI]
  by_cases e : i = j.toNatClampNeg <;> simp [e]
theorem aw_last {a : Nat} {j : Int32} {v : Int64} (hd : decode (mB μ) pc = .ok (.lastore, 1)) (ha : okO w a 21) (hj : vp_in j (kd a).2) (k : AW Γ d μ Q (pc + 1) L S (uJ σ a j.toNatClampNeg v) w cc zz) : AW Γ d μ Q pc L (.long v :: .int j :: .ref a :: S) σ w cc zz := by
  intro p l e s m args below meth c Z hF hR H locs ls hH hlo hl hc hz
  have kk := fun H locs hH hlo => k p l e s m args below meth c Z hF hR H locs ls hH hlo hl hc hz
  obtain ⟨hx, hb, -, -, -, -, -, -, hK⟩ := hF
  obtain ⟨h1, h2, -⟩ := ar_facts (t := 1) hK hH ha.1 ha.2 (by decide)
  refine W.last hx hb h1 (h2 _ _) (fun q => by cases q) (in_sz hj) rfl rfl hd fun H' q1 q2 q3 => kk H' _ ?_ (lcs_app hlo)
  have e0 : (kd a).1 - 20 = 1 := by rw [ha.2]
  refine hH.arr ha.1 rfl (by rw [ha.2]; decide) (by rw [e0]; exact h1) (by rw [e0]; exact q1) q2 q3 ?_ (fun i hi => ⟨fun k => fv_uJ hi, fun j => av_uJ hi⟩)
  intro i
  rw [ha.2, av_l, av_l]
  show Value.long (gJ _ _ _) = _
  rw [gJ_uJ]
  by_cases e : i = j.toNatClampNeg <;> simp [e]
theorem aw_bast {a : Nat} {j v : Int32} (hd : decode (mB μ) pc = .ok (.bastore, 1)) (ha : a < w.1) (ht : ((kd a).1 = 22 ∧ v.toInt8.toInt32 = v) ∨ ((kd a).1 = 23 ∧ v &&& 1 = v)) (hj : vp_in j (kd a).2) (k : AW Γ d μ Q (pc + 1) L S (uI σ a j.toNatClampNeg v) w cc zz) : AW Γ d μ Q pc L (.int v :: .int j :: .ref a :: S) σ w cc zz := by
  intro p l e s m args below meth c Z hF hR H locs ls hH hlo hl hc hz
  have kk := fun H locs hH hlo => k p l e s m args below meth c Z hF hR H locs ls hH hlo hl hc hz
  obtain ⟨hx, hb, -, -, -, -, -, -, hK⟩ := hF
  have fin : ∀ (H' : Heap) (t : Nat), ((kd a).1 = 22 ∨ (kd a).1 = 23) → (kd a).1 - 20 = t → H[gz Γ + a]? = some (arrV (xA Γ t) (kd a).2 (av Γ σ w.2 (kd a).1 a)) → H'[gz Γ + a]? = some ((arrV (xA Γ t) (kd a).2 (av Γ σ w.2 (kd a).1 a)).setSlot j.toNatClampNeg (.int v)) → H'.size = H.size → (∀ q, q ≠ gz Γ + a → H'[q]? = H[q]?) → HR Γ (uI σ a j.toNatClampNeg v) w H' := by
    intro H' t ht e0 h1 q1 q2 q3
    subst e0
    refine hH.arr ha rfl (by omega) h1 q1 q2 q3 ?_ (fun i hi => ⟨fun k => fv_uI hi, fun j => av_uI hi⟩)
    intro i
    rw [av_i (Or.inr ht), av_i (Or.inr ht)]
    show Value.int (gI _ _ _) = _
    rw [gI_uI]
    by_cases e : i = j.toNatClampNeg <;> simp [e]
  rcases ht with ⟨ht, hv⟩ | ⟨ht, hv⟩
  · obtain ⟨h1, h2, -⟩ := ar_facts (t := 2) hK hH ha ht (by decide)
    refine W.bast hx hb h1 (h2 _ _) (fun q => by cases q) (in_sz hj) rfl rfl hd fun H' q1 q2 q3 => kk H' _ ?_ (lcs_app hlo)
    have e2 : narrow .byte (.int v) = .int v := by show Value.int v.toInt8.toInt32 = _; rw [hv]
    rw [e2] at q1
    exact fin H' 2 (Or.inl ht) (by rw [ht]) h1 q1 q2 q3
  · obtain ⟨h1, h2, -⟩ := ar_facts (t := 3) hK hH ha ht (by decide)
    refine W.zast hx hb h1 (h2 _ _) (fun q => by cases q) (in_sz hj) rfl rfl hd fun H' q1 q2 q3 => kk H' _ ?_ (lcs_app hlo)
    have e2 : narrow .boolean (.int v) = .int v := by show Value.int (v &&& 1) = _; rw [hv]
    rw [e2] at q1
    exact fin H' 3 (Or.inr ht) (by rw [ht]) h1 q1 q2 q3
end Arr
