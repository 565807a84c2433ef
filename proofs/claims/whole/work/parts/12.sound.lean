theorem swP_mono {x : Int32} {k k' : Nat → Prop} {df : Nat} (hk : ∀ t, k t → k' t) : ∀ {cs : List (Int32 × Nat)}, swP x k df cs → swP x k' df cs
  | [], h => hk _ h
  | (v, t) :: r, h => ⟨fun q => hk _ (h.1 q), fun q => swP_mono hk (h.2 q)⟩
theorem swP_cases {x : Int32} {k : Nat → Prop} {df : Nat} : ∀ {cs : List (Int32 × Nat)}, swP x k df cs → (∃ (j : Nat) (v : Int32) (t : Nat), cs[j]? = some (v, t) ∧ x = v ∧ k t) ∨ ((∀ (j : Nat) (v : Int32) (t : Nat), cs[j]? = some (v, t) → ¬ x = v) ∧ k df)
  | [], h => Or.inr ⟨fun j v t q => by simp at q, h⟩
  | (v, t) :: r, h => by
    by_cases e : x = v
    · exact Or.inl ⟨0, v, t, rfl, e, h.1 e⟩
    · rcases swP_cases (h.2 e) with ⟨j, v', t', h1, h2, h3⟩ | ⟨h1, h2⟩
      · exact Or.inl ⟨j + 1, v', t', h1, h2, h3⟩
      · refine Or.inr ⟨fun j v' t' q => ?_, h2⟩
        cases j with
        | zero => cases q; exact e
        | succ j => exact h1 j v' t' q
theorem fCk_fk {C : String} {n ci f kn wi : Nat} (h : fCk C (n, ci, f, kn) wi = true) : fk ci f = kn := by
  obtain ⟨R, T, N, e1, e2, e3, e4, e5, e6, -⟩ := fCk_spec h
  exact e5
theorem fCk_ty {C : String} {n ci f kn wi : Nat} (h : fCk C (n, ci, f, kn) wi = true) : ftk (some (tyOf ci f)) kn = true := by
  obtain ⟨R, T, N, e1, e2, e3, e4, e5, e6, e7⟩ := fCk_spec h
  dsimp only at e1 e2 e7
  rw [(cl_facts e1).2.2 f e2] at e7
  exact e7
theorem fCk_n0 {C : String} {n ci f wi : Nat} {Γ : Gx} {v : Int32} (h : fCk C (n, ci, f, 0) wi = true) : narrow (tyOf ci f) (cv Γ (.int v)) = cv Γ (.int v) ∧ fits (tyOf ci f) (cv Γ (.int v)) = true := by
  have := fCk_ty h
  cases e : tyOf ci f <;> rw [e] at this <;> first | exact ⟨rfl, rfl⟩ | cases this
theorem fCk_n4 {C : String} {n ci f wi : Nat} {Γ : Gx} {v : Int32} (h : fCk C (n, ci, f, 4) wi = true) (hv : v = 0 ∨ v = 1) : narrow (tyOf ci f) (cv Γ (.int v)) = cv Γ (.int v) ∧ fits (tyOf ci f) (cv Γ (.int v)) = true := by
  have := fCk_ty h
  cases e : tyOf ci f <;> rw [e] at this <;> first | (rcases hv with rfl | rfl; (show narrow .boolean (.int 0) = .int 0 ∧ fits .boolean (.int 0) = true; decide); (show narrow .boolean (.int 1) = .int 1 ∧ fits .boolean (.int 1) = true; decide)) | cases this
theorem fCk_n1 {C : String} {n ci f wi : Nat} {Γ : Gx} {v : Int64} (h : fCk C (n, ci, f, 1) wi = true) : narrow (tyOf ci f) (cv Γ (.long v)) = cv Γ (.long v) ∧ fits (tyOf ci f) (cv Γ (.long v)) = true := by
  have := fCk_ty h
  cases e : tyOf ci f <;> rw [e] at this <;> first | exact ⟨rfl, rfl⟩ | cases this
theorem fCk_n2 {C : String} {n ci f kn wi : Nat} {Γ : Gx} {r : Nat} (h : fCk C (n, ci, f, kn) wi = true) (hk : kn = 2 ∨ kn = 3) : narrow (tyOf ci f) (cv Γ (.ref r)) = cv Γ (.ref r) ∧ fits (tyOf ci f) (cv Γ (.ref r)) = true := by
  have := fCk_ty h
  rcases hk with rfl | rfl <;> cases e : tyOf ci f <;> rw [e] at this <;> first | exact ⟨rfl, rfl⟩ | cases this
section FV
variable {Γ : Gx} {σ : St} {w : Wd} {ci o f : Nat}
theorem fv_k0 {kn : Nat} (h : fk ci f = kn) (h1 : kn = 1 → False) (h2 : kn = 2 → False) (h3 : kn = 3 → False) : cv Γ (.int (gI σ o f)) = fv Γ σ w.2 ci o f := by
  unfold fv
  rw [h]
  split <;> first | rfl | exact absurd rfl ‹_›
theorem fv_k1 (h : fk ci f = 1) : cv Γ (.long (gJ σ o f)) = fv Γ σ w.2 ci o f := by
  unfold fv
  rw [h]
  rfl
theorem fv_k2 {r : Nat} (h : fk ci f = 2) (hr : w.2 o f = some r) : cv Γ (.ref r) = fv Γ σ w.2 ci o f := by
  unfold fv
  rw [h]
  show _ = rv Γ (w.2 o f)
  rw [hr]
  rfl
theorem fv_k3 {r : Nat} (h : fk ci f = 3) (hr : gR σ o f = some r) : cv Γ (.ref r) = fv Γ σ w.2 ci o f := by
  unfold fv
  rw [h]
  show _ = rv Γ (gR σ o f)
  rw [hr]
  rfl
theorem fv_k3n (h : fk ci f = 3) (hr : gR σ o f = none) : cv Γ .null = fv Γ σ w.2 ci o f := by
  unfold fv
  rw [h]
  show _ = rv Γ (gR σ o f)
  rw [hr]
  rfl
theorem fv_p0 {kn : Nat} {v : Int32} (h : fk ci f = kn) (hk : kn = 0 ∨ kn = 4) : ∀ j, fv Γ (uI σ o f v) w.2 ci o j = if j = f then cv Γ (.int v) else fv Γ σ w.2 ci o j := by
  intro j
  by_cases e : j = f
  · subst e
    rw [if_pos rfl]
    unfold fv
    rw [h]
    rcases hk with rfl | rfl <;> (show Value.int (gI _ _ _) = _; rw [gI_uI]; simp; rfl)
  · rw [if_neg e]
    unfold fv
    simp only [gI_uI, gJ_uI, gR_uI, e, and_false, if_false]
theorem fv_p1 {v : Int64} (h : fk ci f = 1) : ∀ j, fv Γ (uJ σ o f v) w.2 ci o j = if j = f then cv Γ (.long v) else fv Γ σ w.2 ci o j := by
  intro j
  by_cases e : j = f
  · subst e
    rw [if_pos rfl]
    unfold fv
    rw [h]
    show Value.long (gJ _ _ _) = _
    rw [gJ_uJ]
    simp
    rfl
  · rw [if_neg e]
    unfold fv
    simp only [gI_uJ, gJ_uJ, gR_uJ, e, and_false, if_false]
theorem fv_p2 {r : Nat} (h : fk ci f = 2) : ∀ j, fv Γ σ (uW w o f (some r)).2 ci o j = if j = f then cv Γ (.ref r) else fv Γ σ w.2 ci o j := by
  intro j
  by_cases e : j = f
  · subst e
    rw [if_pos rfl]
    unfold fv
    rw [h]
    show rv Γ (up2 _ _ _ _ _ _) = _
    unfold up2
    simp
    rfl
  · rw [if_neg e]
    unfold fv uW up2
    simp only [e, and_false, if_false]
theorem fv_p3 {r : Nat} (h : fk ci f = 3) : ∀ j, fv Γ (uR σ o f (some r)) w.2 ci o j = if j = f then cv Γ (.ref r) else fv Γ σ w.2 ci o j := by
  intro j
  by_cases e : j = f
  · subst e
    rw [if_pos rfl]
    unfold fv
    rw [h]
    show rv Γ (gR _ _ _) = _
    rw [gR_uR]
    simp
    rfl
  · rw [if_neg e]
    unfold fv
    simp only [gI_uR, gJ_uR, gR_uR, e, and_false, if_false]
end FV
section Sound0
variable {Γ : Gx} {d : Nat} {μ : MD} {Q : Option Value → St → Wd → Prop} {pc : Nat} {L : Lv} {S : List Value} {σ : St} {w : Wd} {cc zz : Nat} {k : Nat → Lv → List Value → St → Wd → Nat → Nat → Prop}
theorem aw_table {dflt lo hi : Int} {offs : Array Int} {len df : Nat} {cs : List (Int32 × Nat)} {x : Int32} (hd : decode (mB μ) pc = .ok (.tableswitch dflt lo hi offs, len)) (hs : swCk pc (.tableswitch dflt lo hi offs) cs df = true) (h : swP x (fun t => AW Γ d μ Q t L S σ w cc zz) df cs) : AW Γ d μ Q pc L (.int x :: S) σ w cc zz := by
  unfold swCk at hs
  simp only [Bool.and_eq_true, decide_eq_true_eq] at hs
  obtain ⟨⟨⟨⟨h1, h2⟩, h3⟩, h4⟩, h5⟩ := hs
  have row : ∀ j, j < offs.size → ∃ v t, cs[j]? = some (v, t) ∧ v.toInt = lo + j ∧ (pc : Int) + (offs[j]?).getD 0 = (t : Int) := by
    intro j hj
    have := List.all_eq_true.mp h5 j (List.mem_range.mpr hj)
    simp only [Bool.and_eq_true, decide_eq_true_eq] at this
    have hlt : j < cs.length := by omega
    refine ⟨cs[j].1, cs[j].2, by simp [hlt], ?_, ?_⟩
    · have h := this.1
      simpa [List.getD_eq_getElem?_getD, hlt] using h
    · have h := this.2
      simpa [List.getD_eq_getElem?_getD, hlt] using h
  rcases swP_cases h with ⟨j, v, t, g1, rfl, g3⟩ | ⟨g1, g2⟩
  · have hj : j < offs.size := by rw [← h4]; exact (List.getElem?_eq_some_iff.mp g1).1
    obtain ⟨v', t', e1, e2, e3⟩ := row j hj
    rw [g1] at e1
    cases e1
    intro p l e s m args below meth c Z hF hR H locs ls hH hlo hl hc hz
    have kk := g3 p l e s m args below meth c Z hF hR H locs ls hH hlo hl hc hz
    exact lv_tableIn hF.1 hF.2.1 hd (by omega) (by omega) (off := offs[j]) (by rw [show (x.toInt - lo).toNat = j by omega]; simp [hj]) (by rw [← e3]; simp [hj]) kk
  · intro p l e s m args below meth c Z hF hR H locs ls hH hlo hl hc hz
    have kk := g2 p l e s m args below meth c Z hF hR H locs ls hH hlo hl hc hz
    refine lv_tableOut hF.1 hF.2.1 hd ?_ h3 kk
    rcases Int.lt_or_le x.toInt lo with q | q
    · exact Or.inl q
    · rcases Int.lt_or_le hi x.toInt with q2 | q2
      · exact Or.inr q2
      · exfalso
        obtain ⟨v, t, e1, e2, -⟩ := row (x.toInt - lo).toNat (by omega)
        refine g1 _ v t e1 (Int32.toInt_inj.mp ?_)
        omega
theorem aw_get3 {n ci f wi o : Nat} (hd : decode (mB μ) pc = .ok (.getfield n, 3)) (hw : fCk (mN μ).cls (n, ci, f, 3) wi = true) (ho : okO w o ci) (k1 : ∀ r, gR σ o f = some r → AW Γ d μ Q (pc + 3) L (.ref r :: S) σ w cc zz) (k2 : gR σ o f = none → AW Γ d μ Q (pc + 3) L (.null :: S) σ w cc zz) : AW Γ d μ Q pc L (.ref o :: S) σ w cc zz := by
  cases hr : gR σ o f with
  | none => exact aw_get hd hw ho (fv_k3n (fCk_fk hw) hr) (k2 hr)
  | some r => exact aw_get hd hw ho (fv_k3 (fCk_fk hw) hr) (k1 r hr)
theorem aw_ldcI {i : Instr} {n len wi : Nat} {x : Int32} (hd : decode (mB μ) pc = .ok (i, len)) (hi : (i = .ldc n ∧ len = 2) ∨ (i = .ldc_w n ∧ len = 3)) (hk : kCk (mN μ).cls n (.int x) wi = true) (k : AW Γ d μ Q (pc + len) L (.int x :: S) σ w cc zz) : AW Γ d μ Q pc L S σ w cc zz := by
  intro p l e s m args below meth c Z hF hR H locs ls hH hlo hl hc hz
  have kk := k p l e s m args below meth c Z hF hR H locs ls hH hlo hl hc hz
  obtain ⟨hx, hb, -, -, -, hown, -, -, hK⟩ := hF
  have hw := hK.1 _ (List.mem_of_getElem? (of_decide_eq_true hk)) rfl args
  rcases hi with ⟨rfl, rfl⟩ | ⟨rfl, rfl⟩
  · exact lv_ldc hx hb hown hw hd kk
  · exact lv_ldcw hx hb hown hw hd kk
theorem aw_ldcL {n wi : Nat} {x : Int64} (hd : decode (mB μ) pc = .ok (.ldc2_w n, 3)) (hk : kCk (mN μ).cls n (.long x) wi = true) (k : AW Γ d μ Q (pc + 3) L (.long x :: S) σ w cc zz) : AW Γ d μ Q pc L S σ w cc zz := by
  intro p l e s m args below meth c Z hF hR H locs ls hH hlo hl hc hz
  have kk := k p l e s m args below meth c Z hF hR H locs ls hH hlo hl hc hz
  obtain ⟨hx, hb, -, -, -, hown, -, -, hK⟩ := hF
  exact lv_ldc2 hx hb hown (hK.1 _ (List.mem_of_getElem? (of_decide_eq_true hk)) rfl args) hd kk
theorem aw_ldcT {n wi x : Nat} (hd : decode (mB μ) pc = .ok (.ldc n, 2)) (hk : kCk (mN μ).cls n (.retAddr x) wi = true) (k : AW Γ d μ Q (pc + 2) L (.retAddr x :: S) σ w cc zz) : AW Γ d μ Q pc L S σ w cc zz := by
  intro p l e s m args below meth c Z hF hR H locs ls hH hlo hl hc hz
  have kk := k p l e s m args below meth c Z hF hR H locs ls hH hlo hl hc hz
  obtain ⟨hx, hb, -, -, -, hown, -, -, hK⟩ := hF
  unfold kCk at hk
  simp only [Bool.and_eq_true, decide_eq_true_eq] at hk
  obtain ⟨⟨⟨h1, h2⟩, h3⟩, h4⟩ := hk
  have hz := hK.2.2.2.2.1.2.1 (x - 1) (by omega)
  rw [h4, show 1 + (x - 1) = x by omega] at hz
  rw [h1] at hown
  exact va_ldcS hx hb hown hz hd kk
theorem aw_newN {n ci : Nat} {ws : List Nat} (hd : decode (mB μ) pc = .ok (.new n, 3)) (hw : nCk (mN μ).cls n ci ws = true) (hk : (kd w.1).1 = ci ∧ ci < 20) (hcc : cc + 1 ≤ mC μ) (hzz : zz + (kd w.1).2 ≤ mS μ) (k : AW Γ d μ Q (pc + 3) L (.ref w.1 :: S) (zS σ w.1) (zW w) (cc + 1) (zz + (kd w.1).2)) : AW Γ d μ Q pc L S σ w cc zz := by
  obtain ⟨hk, hlt⟩ := hk
  obtain ⟨q, hq, -⟩ := kd_cl (i := w.1) (by omega)
  rw [hk] at hq
  unfold nCk at hw
  rw [hq] at hw
  simp only [Bool.and_eq_true, decide_eq_true_eq] at hw
  exact aw_new hd hq hw.1.1 hw.1.2 hw.2 hk hcc hzz k
theorem aw_anewN {n t : Nat} {j : Int32} {ws : List Nat} (hd : decode (mB μ) pc = .ok (.anewarray n, 3)) (hw : nCk (mN μ).cls (n + 100000) t ws = true) (hk : (kd w.1).1 = t) (h1 : 24 ≤ t) (h2 : t ≤ 27) (hn : ¬ j < 0) (hN : (kd w.1).2 = j.toNatClampNeg) (hcc : cc + 1 ≤ mC μ) (hzz : zz + (kd w.1).2 ≤ mS μ)
    (k : AW Γ d μ Q (pc + 3) L (.ref w.1 :: S) (zS σ w.1) (zW w) (cc + 1) (zz + (kd w.1).2)) : AW Γ d μ Q pc L (.int j :: S) σ w cc zz := by
  have ht : t = 24 ∨ t = 25 ∨ t = 26 ∨ t = 27 := by omega
  have hn0 : n + 100000 - 100000 = n := Nat.add_sub_cancel _ _
  unfold nCk at hw
  rcases ht with rfl | rfl | rfl | rfl <;> dsimp only [vwCl, List.getElem?_cons_succ, List.getElem?_nil] at hw
  · exact aw_anew (ci := 7) (wi := ws.getD 0 0) hd rfl (Or.inl ⟨rfl, rfl⟩) (by rw [hn0] at hw; exact of_decide_eq_true hw) hk hn hN hcc hzz k
  · exact aw_anew (ci := 10) (wi := ws.getD 0 0) hd rfl (Or.inr (Or.inl ⟨rfl, rfl⟩)) (by rw [hn0] at hw; exact of_decide_eq_true hw) hk hn hN hcc hzz k
  · exact aw_anew (ci := 5) (wi := ws.getD 0 0) hd rfl (Or.inr (Or.inr (Or.inl ⟨rfl, rfl⟩))) (by rw [hn0] at hw; exact of_decide_eq_true hw) hk hn hN hcc hzz k
  · exact aw_anew (ci := 6) (wi := ws.getD 0 0) hd rfl (Or.inr (Or.inr (Or.inr ⟨rfl, rfl⟩))) (by rw [hn0] at hw; exact of_decide_eq_true hw) hk hn hN hcc hzz k
theorem aw_static {n kind : Nat} (hkd : kind = 1 ∨ kind = 6) {ν : MD} {ws : List Nat} (hd : decode (mB μ) pc = .ok (.invokestatic n, 3)) (hw : cCk (mN μ).cls n kind ν ws = true) (h1 : mA ν ≤ S.length) (h2 : catS (S.drop (mA ν)) ≤ 8) (hk : ∀ pc L S σ w cc zz, k pc L S σ w cc zz → AW Γ (d + 1) μ Q pc L S σ w cc zz)
    (h : match mK ν with
      | 0 => SpV Γ d ν (S.take (mA ν)).reverse σ w (fun σ' => k (pc + 3) L (S.drop (mA ν)) σ' w cc zz)
      | 1 => SpI Γ d ν (S.take (mA ν)).reverse σ w (fun x σ' => k (pc + 3) L (.int x :: S.drop (mA ν)) σ' w cc zz)
      | 2 => SpJ Γ d ν (S.take (mA ν)).reverse σ w (fun x σ' => k (pc + 3) L (.long x :: S.drop (mA ν)) σ' w cc zz)
      | _ => False) : AW Γ (d + 1) μ Q pc L S σ w cc zz := by
  have hS : S = ((S.take (mA ν)).reverse).reverse ++ S.drop (mA ν) := by rw [List.reverse_reverse, List.take_append_drop]
  have hl : ((S.take (mA ν)).reverse).length = mA ν := by rw [List.length_reverse, List.length_take]; omega
  generalize (S.take (mA ν)).reverse = As at hS hl h
  generalize S.drop (mA ν) = R at hS h2 h
  subst hS
  intro p l e s m args below meth c Z hF hR H locs ls hH hlo hlv hc hz
  revert p l e s m args below meth c Z hF hR H locs ls hH hlo hlv hc hz
  show AW Γ (d + 1) μ Q pc L (As.reverse ++ R) σ w cc zz
  by_cases hc : cc ≤ mC μ ∧ zz ≤ mS μ
  · obtain ⟨hc, hz⟩ := hc
    split at h
    · rename_i e
      obtain ⟨z1, z2⟩ := cCk_z hw (by omega)
      refine aw_callS hkd hd hw hl h2 (by omega) (by omega) h (fun v σ' w' hq => ?_)
      obtain ⟨rfl, rfl, hq⟩ := hq
      rw [z1, z2]
      exact hk _ _ _ _ _ _ _ hq
    · rename_i e
      obtain ⟨z1, z2⟩ := cCk_z hw (by omega)
      refine aw_callS hkd hd hw hl h2 (by omega) (by omega) h (fun v σ' w' hq => ?_)
      obtain ⟨rfl, x, rfl, hq⟩ := hq
      rw [z1, z2]
      exact hk _ _ _ _ _ _ _ hq
    · rename_i e
      obtain ⟨z1, z2⟩ := cCk_z hw (by omega)
      refine aw_callS hkd hd hw hl h2 (by omega) (by omega) h (fun v σ' w' hq => ?_)
      obtain ⟨rfl, x, rfl, hq⟩ := hq
      rw [z1, z2]
      exact hk _ _ _ _ _ _ _ hq
    · exact h.elim
  · intro p l e s m args below meth c Z hF hR H locs ls hH hlo hlv hc1 hz1
    exact absurd ⟨hc1, hz1⟩ hc
theorem aw_virt {n o : Nat} {ν : MD} {ws : List Nat} {R : List Value} (hd : decode (mB μ) pc = .ok (.invokevirtual n, 3)) (hw : cCk (mN μ).cls n 0 ν ws = true) (hdrop : S.drop (mA ν) = .ref o :: R) (ho : okO w o (mO ν)) (h2 : catS R ≤ 8) (hk : ∀ pc L S σ w cc zz, k pc L S σ w cc zz → AW Γ (d + 1) μ Q pc L S σ w cc zz)
    (h : match mK ν with
        | 0 => SpV Γ d ν (.ref o :: (S.take (mA ν)).reverse) σ w (fun σ' => k (pc + 3) L R σ' w cc zz)
        | 1 => SpI Γ d ν (.ref o :: (S.take (mA ν)).reverse) σ w (fun x σ' => k (pc + 3) L (.int x :: R) σ' w cc zz)
        | 2 => SpJ Γ d ν (.ref o :: (S.take (mA ν)).reverse) σ w (fun x σ' => k (pc + 3) L (.long x :: R) σ' w cc zz)
        | 4 => cc + mC ν ≤ mC μ ∧ zz + mS ν ≤ mS μ ∧ SpN Γ d ν (.ref o :: (S.take (mA ν)).reverse) σ w (fun x σ' w' => k (pc + 3) L (.int x :: R) σ' w' (cc + mC ν) (zz + mS ν))
        | _ => False) : AW Γ (d + 1) μ Q pc L S σ w cc zz := by
  have hlt : mA ν < S.length := by
    rcases Nat.lt_or_ge (mA ν) S.length with q | q
    · exact q
    · rw [List.drop_eq_nil_of_le q] at hdrop
      cases hdrop
  have hS : S = ((S.take (mA ν)).reverse).reverse ++ (.ref o :: R) := by rw [List.reverse_reverse, ← hdrop, List.take_append_drop]
  have hl : ((S.take (mA ν)).reverse).length = mA ν := by rw [List.length_reverse, List.length_take]; omega
  generalize (S.take (mA ν)).reverse = As at hS hl h
  subst hS
  by_cases hc : cc ≤ mC μ ∧ zz ≤ mS μ
  · obtain ⟨hc, hz⟩ := hc
    split at h
    · rename_i e
      obtain ⟨z1, z2⟩ := cCk_z hw (by omega)
      refine aw_callV hd hw ho hl h2 (by omega) (by omega) h (fun v σ' w' hq => ?_)
      obtain ⟨rfl, rfl, hq⟩ := hq
      rw [z1, z2]
      exact hk _ _ _ _ _ _ _ hq
    · rename_i e
      obtain ⟨z1, z2⟩ := cCk_z hw (by omega)
      refine aw_callV hd hw ho hl h2 (by omega) (by omega) h (fun v σ' w' hq => ?_)
      obtain ⟨rfl, x, rfl, hq⟩ := hq
      rw [z1, z2]
      exact hk _ _ _ _ _ _ _ hq
    · rename_i e
      obtain ⟨z1, z2⟩ := cCk_z hw (by omega)
      refine aw_callV hd hw ho hl h2 (by omega) (by omega) h (fun v σ' w' hq => ?_)
      obtain ⟨rfl, x, rfl, hq⟩ := hq
      rw [z1, z2]
      exact hk _ _ _ _ _ _ _ hq
    · obtain ⟨h3, h4, h⟩ := h
      refine aw_callV hd hw ho hl h2 h3 h4 h (fun v σ' w' hq => ?_)
      obtain ⟨x, rfl, hq⟩ := hq
      exact hk _ _ _ _ _ _ _ hq
    · exact h.elim
  · intro p l e s m args below meth c Z hF hR H locs ls hH hlo hlv hc1 hz1
    exact absurd ⟨hc1, hz1⟩ hc
theorem aw_virtX {n x : Nat} {ν : MD} {ws : List Nat} {R : List Value} (hd : decode (mB μ) pc = .ok (.invokevirtual n, 3)) (hw : cCk (mN μ).cls n 5 ν ws = true) (hdrop : S.drop (mA ν) = .retAddr x :: R) (hx1 : 1 ≤ x) (hx9 : x ≤ 9) (h2 : catS R ≤ 8) (hk : ∀ pc L S σ w cc zz, k pc L S σ w cc zz → AW Γ (d + 1) μ Q pc L S σ w cc zz)
    (h : match mK ν with
        | 1 => SpI Γ d ν (.retAddr x :: (S.take (mA ν)).reverse) σ w (fun x σ' => k (pc + 3) L (.int x :: R) σ' w cc zz)
        | _ => False) : AW Γ (d + 1) μ Q pc L S σ w cc zz := by
  have hlt : mA ν < S.length := by
    rcases Nat.lt_or_ge (mA ν) S.length with q | q
    · exact q
    · rw [List.drop_eq_nil_of_le q] at hdrop
      cases hdrop
  have hS : S = ((S.take (mA ν)).reverse).reverse ++ (.retAddr x :: R) := by rw [List.reverse_reverse, ← hdrop, List.take_append_drop]
  have hl : ((S.take (mA ν)).reverse).length = mA ν := by rw [List.length_reverse, List.length_take]; omega
  generalize (S.take (mA ν)).reverse = As at hS hl h
  subst hS
  by_cases hc : cc ≤ mC μ ∧ zz ≤ mS μ
  · obtain ⟨hc, hz⟩ := hc
    split at h
    · rename_i e
      obtain ⟨z1, z2⟩ := cCk_z hw (by omega)
      refine aw_callX hd hw hx1 hx9 hl h2 (by omega) (by omega) h (fun v σ' w' hq => ?_)
      obtain ⟨rfl, x, rfl, hq⟩ := hq
      rw [z1, z2]
      exact hk _ _ _ _ _ _ _ hq
    · exact h.elim
  · intro p l e s m args below meth c Z hF hR H locs ls hH hlo hlv hc1 hz1
    exact absurd ⟨hc1, hz1⟩ hc
end Sound0
section Sound
variable {Γ : Gx} {d : Nat} {μ : MD} {Q : Option Value → St → Wd → Prop} {T : Tb} {sw : Sw} {i : Instr} {len : Nat} {cst : Int32} {tgt nx : Nat} {pc : Nat} {L : Lv} {S : List Value} {σ : St} {w : Wd} {cc zz : Nat} {k : Nat → Lv → List Value → St → Wd → Nat → Nat → Prop}
set_option maxHeartbeats 4000000 in
theorem stp_sound (hT : tbOK (mN μ).cls T) (hi : iCk (mB μ) (pc, i, len, cst, tgt, nx) = true) (hs : ∀ cs df, sw.lookup pc = some (cs, df) → (∃ a b c e, i = .tableswitch a b c e) → swCk pc i cs df = true)
    (hk : ∀ pc L S σ w cc zz, k pc L S σ w cc zz → AW Γ d μ Q pc L S σ w cc zz) (h : stp Γ d μ Q T sw i cst tgt nx pc L S σ w cc zz k) : AW Γ d μ Q pc L S σ w cc zz := by
  unfold iCk at hi
  rw [Bool.and_eq_true, Bool.and_eq_true, decide_eq_true_eq, decide_eq_true_eq] at hi
  obtain ⟨⟨hd, hnx⟩, hi⟩ := hi
  dsimp only at hd hnx hi
  subst hnx
  unfold stp at h
  split at h
  · rename_i S' hS'
    have hl : len = 1 := by
      cases i <;> first | (cases hS'; done) | simpa using hi
    subst hl
    exact aw_sop hd hS' (hk _ _ _ _ _ _ _ h)
  · split at h
    · simp only [Bool.and_eq_true, decide_eq_true_eq] at hi
      exact aw_cst hd (Or.inl ⟨_, rfl, hi.1, hi.2⟩) (hk _ _ _ _ _ _ _ h)
    · simp only [Bool.and_eq_true, decide_eq_true_eq] at hi
      exact aw_cst hd (Or.inr (Or.inl ⟨_, rfl, hi.1, hi.2⟩)) (hk _ _ _ _ _ _ _ h)
    · simp only [Bool.and_eq_true, decide_eq_true_eq] at hi
      exact aw_cst hd (Or.inr (Or.inr ⟨_, rfl, hi.1, hi.2⟩)) (hk _ _ _ _ _ _ _ h)
    · simp only [decide_eq_true_eq] at hi
      split at h
      · rename_i heq
        exact aw_load hd heq (Or.inl ⟨_, rfl, Or.inl ⟨rfl, hi⟩⟩) (hk _ _ _ _ _ _ _ h)
      · exact h.elim
    · simp only [decide_eq_true_eq] at hi
      split at h
      · rename_i heq
        exact aw_load hd heq (Or.inl ⟨_, rfl, Or.inr ⟨_, rfl, rfl, hi⟩⟩) (hk _ _ _ _ _ _ _ h)
      · exact h.elim
    · simp only [decide_eq_true_eq] at hi
      split at h
      · rename_i heq
        exact aw_load hd heq (Or.inr (Or.inl ⟨_, rfl, Or.inl ⟨rfl, hi⟩⟩)) (hk _ _ _ _ _ _ _ h)
      · exact h.elim
    · simp only [decide_eq_true_eq] at hi
      split at h
      · rename_i heq
        exact aw_load hd heq (Or.inr (Or.inl ⟨_, rfl, Or.inr ⟨_, rfl, rfl, hi⟩⟩)) (hk _ _ _ _ _ _ _ h)
      · exact h.elim
    · simp only [decide_eq_true_eq] at hi
      split at h
      · rename_i heq
        exact aw_load hd heq (Or.inr (Or.inr ⟨⟨_, Or.inl rfl⟩, Or.inl ⟨rfl, hi⟩⟩)) (hk _ _ _ _ _ _ _ h)
      · rename_i heq
        exact aw_load hd heq (Or.inr (Or.inr ⟨⟨_, Or.inr rfl⟩, Or.inl ⟨rfl, hi⟩⟩)) (hk _ _ _ _ _ _ _ h)
      · exact h.elim
    · simp only [decide_eq_true_eq] at hi
      split at h
      · rename_i heq
        exact aw_load hd heq (Or.inr (Or.inr ⟨⟨_, Or.inl rfl⟩, Or.inr ⟨_, rfl, rfl, hi⟩⟩)) (hk _ _ _ _ _ _ _ h)
      · rename_i heq
        exact aw_load hd heq (Or.inr (Or.inr ⟨⟨_, Or.inr rfl⟩, Or.inr ⟨_, rfl, rfl, hi⟩⟩)) (hk _ _ _ _ _ _ _ h)
      · exact h.elim
    · simp only [decide_eq_true_eq] at hi
      split at h
      · rename_i hn
        exact aw_store1 hd hn (Or.inl ⟨_, rfl, Or.inl ⟨rfl, hi⟩⟩) (hk _ _ _ _ _ _ _ h)
      · exact h.elim
    · simp only [decide_eq_true_eq] at hi
      split at h
      · rename_i hn
        exact aw_store1 hd hn (Or.inl ⟨_, rfl, Or.inr ⟨_, rfl, rfl, hi⟩⟩) (hk _ _ _ _ _ _ _ h)
      · exact h.elim
    · simp only [decide_eq_true_eq] at hi
      split at h
      · rename_i hn
        exact aw_store1 hd hn (Or.inr ⟨_, rfl, Or.inl ⟨rfl, hi⟩⟩) (hk _ _ _ _ _ _ _ h)
      · exact h.elim
    · simp only [decide_eq_true_eq] at hi
      split at h
      · rename_i hn
        exact aw_store1 hd hn (Or.inr ⟨_, rfl, Or.inr ⟨_, rfl, rfl, hi⟩⟩) (hk _ _ _ _ _ _ _ h)
      · exact h.elim
    · simp only [decide_eq_true_eq] at hi
      split at h
      · rename_i hn
        exact aw_store2 hd hn (Or.inl ⟨rfl, hi⟩) (hk _ _ _ _ _ _ _ h)
      · exact h.elim
    · simp only [decide_eq_true_eq] at hi
      split at h
      · rename_i hn
        exact aw_store2 hd hn (Or.inr ⟨_, rfl, rfl, hi⟩) (hk _ _ _ _ _ _ _ h)
      · exact h.elim
    · simp only [Bool.and_eq_true, decide_eq_true_eq] at hi
      split at h
      · rename_i heq
        split at h
        · rename_i hn
          obtain ⟨hi1, rfl⟩ := hi
          exact aw_iinc hd hn heq hi1 (hk _ _ _ _ _ _ _ h)
        · exact h.elim
      · exact h.elim
    · simp only [decide_eq_true_eq] at hi
      subst hi
      exact (aw_div h.1).1 hd (hk _ _ _ _ _ _ _ h.2)
    · simp only [decide_eq_true_eq] at hi
      subst hi
      exact (aw_div h.1).2 hd (hk _ _ _ _ _ _ _ h.2)
    · simp only [Bool.and_eq_true, decide_eq_true_eq] at hi
      obtain ⟨hi1, rfl⟩ := hi
      exact aw_goto hd hi1 (hk _ _ _ _ _ _ _ h)
    · simp only [Bool.and_eq_true, decide_eq_true_eq] at hi
      obtain ⟨hi1, rfl⟩ := hi
      refine aw_if hd hi1 ?_
      revert h
      unfold bra
      split <;> exact fun h => ⟨fun q => hk _ _ _ _ _ _ _ (h.1 q), fun q => hk _ _ _ _ _ _ _ (h.2 q)⟩
    · simp only [Bool.and_eq_true, decide_eq_true_eq] at hi
      obtain ⟨hi1, rfl⟩ := hi
      refine aw_icmp hd hi1 ?_
      revert h
      unfold bra
      split <;> exact fun h => ⟨fun q => hk _ _ _ _ _ _ _ (h.1 q), fun q => hk _ _ _ _ _ _ _ (h.2 q)⟩
    · simp only [Bool.and_eq_true, decide_eq_true_eq] at hi
      obtain ⟨hi1, rfl⟩ := hi
      exact (aw_ifnull hi1).1 hd (hk _ _ _ _ _ _ _ h)
    · simp only [Bool.and_eq_true, decide_eq_true_eq] at hi
      obtain ⟨hi1, rfl⟩ := hi
      exact (aw_ifnull (x := 0) hi1).2.1 hd (hk _ _ _ _ _ _ _ h)
    · simp only [Bool.and_eq_true, decide_eq_true_eq] at hi
      obtain ⟨hi1, rfl⟩ := hi
      exact (aw_ifnull hi1).2.2.1 hd (hk _ _ _ _ _ _ _ h)
    · simp only [Bool.and_eq_true, decide_eq_true_eq] at hi
      obtain ⟨hi1, rfl⟩ := hi
      exact (aw_ifnull (x := 0) hi1).2.2.2 hd (hk _ _ _ _ _ _ _ h)
    · split at h
      · rename_i heq
        exact aw_table hd (hs _ _ heq ⟨_, _, _, _, rfl⟩) (swP_mono (fun t h => hk _ _ _ _ _ _ _ h) h)
      · exact h.elim
    · simp only [decide_eq_true_eq] at hi
      subst hi
      split at h
      · rename_i heq
        obtain ⟨wi, hw⟩ := hT.2.2.1 _ _ heq
        exact aw_ldcI hd (Or.inl ⟨rfl, rfl⟩) hw (hk _ _ _ _ _ _ _ h)
      · rename_i heq
        obtain ⟨wi, hw⟩ := hT.2.2.1 _ _ heq
        exact aw_ldcT hd hw (hk _ _ _ _ _ _ _ h)
      · exact h.elim
    · simp only [decide_eq_true_eq] at hi
      subst hi
      split at h
      · rename_i heq
        obtain ⟨wi, hw⟩ := hT.2.2.1 _ _ heq
        exact aw_ldcI hd (Or.inr ⟨rfl, rfl⟩) hw (hk _ _ _ _ _ _ _ h)
      · exact h.elim
    · simp only [decide_eq_true_eq] at hi
      subst hi
      split at h
      · rename_i heq
        obtain ⟨wi, hw⟩ := hT.2.2.1 _ _ heq
        exact aw_ldcL hd hw (hk _ _ _ _ _ _ _ h)
      · exact h.elim
    · simp only [decide_eq_true_eq] at hi
      subst hi
      split at h
      · rename_i heq
        obtain ⟨wi, hw⟩ := hT.1 _ _ heq
        exact aw_get hd hw h.1 (fv_k1 (fCk_fk hw)) (hk _ _ _ _ _ _ _ h.2)
      · rename_i heq
        obtain ⟨wi, hw⟩ := hT.1 _ _ heq
        obtain ⟨ho, r, hr, h⟩ := h
        exact aw_get hd hw ho (fv_k2 (fCk_fk hw) hr) (hk _ _ _ _ _ _ _ h)
      · rename_i heq
        obtain ⟨wi, hw⟩ := hT.1 _ _ heq
        obtain ⟨ho, h1, h2⟩ := h
        exact aw_get3 hd hw ho (fun r hr => hk _ _ _ _ _ _ _ (h1 r hr)) (fun hr => hk _ _ _ _ _ _ _ (h2 hr))
      · rename_i heq
        obtain ⟨wi, hw⟩ := hT.1 _ _ heq
        exact aw_get hd hw h.1 (fv_k0 (fCk_fk hw) (by decide) (by decide) (by decide)) (hk _ _ _ _ _ _ _ h.2)
      · rename_i heq
        obtain ⟨wi, hw⟩ := hT.1 _ _ heq
        exact aw_get hd hw h.1 (fv_k0 (fCk_fk hw) (by decide) (by decide) (by decide)) (hk _ _ _ _ _ _ _ h.2)
      · exact h.elim
    · simp only [decide_eq_true_eq] at hi
      subst hi
      split at h
      · rename_i heq
        obtain ⟨wi, hw⟩ := hT.1 _ _ heq
        obtain ⟨h1, h2, h⟩ := h
        exact aw_xget hd (of_decide_eq_true hw) (fun s hK => gt_val hK h1 h2) (hk _ _ _ _ _ _ _ h)
      · rename_i heq
        obtain ⟨wi, hw⟩ := hT.1 _ _ heq
        obtain ⟨h1, h2, h⟩ := h
        exact aw_xget hd (of_decide_eq_true hw) (fun s hK => gt_cod hK h1 h2) (hk _ _ _ _ _ _ _ h)
      · exact h.elim
    · simp only [decide_eq_true_eq] at hi
      subst hi
      split at h
      · rename_i heq
        obtain ⟨wi, hw⟩ := hT.1 _ _ heq
        exact aw_xgets hd (of_decide_eq_true hw) (hk _ _ _ _ _ _ _ h)
      · rename_i heq
        obtain ⟨wi, hw⟩ := hT.1 _ _ heq
        exact aw_xgetq hd (of_decide_eq_true hw) (hk _ _ _ _ _ _ _ h.1) (hk _ _ _ _ _ _ _ h.2)
      · exact h.elim
    · simp only [decide_eq_true_eq] at hi
      subst hi
      split at h
      · rename_i heq
        obtain ⟨wi, hw⟩ := hT.1 _ _ heq
        exact aw_put hd hw (fun q => absurd q (by decide)) h.1 rfl (fv_p0 (fCk_fk hw) (Or.inl rfl)) (fun i hi => ⟨fun k => fv_uI hi, fun j => av_uI hi⟩) (fCk_n0 hw).1 (fCk_n0 hw).2 (hk _ _ _ _ _ _ _ h.2)
      · rename_i heq
        obtain ⟨wi, hw⟩ := hT.1 _ _ heq
        exact aw_put hd hw (fun q => absurd q (by decide)) h.1 rfl (fv_p0 (fCk_fk hw) (Or.inr rfl)) (fun i hi => ⟨fun k => fv_uI hi, fun j => av_uI hi⟩) (fCk_n4 hw h.2.1).1 (fCk_n4 hw h.2.1).2 (hk _ _ _ _ _ _ _ h.2.2)
      · exact h.elim
    · simp only [decide_eq_true_eq] at hi
      subst hi
      split at h
      · rename_i heq
        obtain ⟨wi, hw⟩ := hT.1 _ _ heq
        exact aw_put hd hw (fun q => absurd q (by decide)) h.1 rfl (fv_p1 (fCk_fk hw)) (fun i hi => ⟨fun k => fv_uJ hi, fun j => av_uJ hi⟩) (fCk_n1 hw).1 (fCk_n1 hw).2 (hk _ _ _ _ _ _ _ h.2)
      · exact h.elim
    · simp only [decide_eq_true_eq] at hi
      subst hi
      split at h
      · rename_i heq
        obtain ⟨wi, hw⟩ := hT.1 _ _ heq
        exact aw_put (w' := uW w _ _ _) hd hw (fun _ => h.2.1) h.1 rfl (fv_p2 (fCk_fk hw)) (fun i hi => ⟨fun k => fv_uW hi, fun j => av_uW hi⟩) (fCk_n2 hw (Or.inl rfl)).1 (fCk_n2 hw (Or.inl rfl)).2 (hk _ _ _ _ _ _ _ h.2.2)
      · rename_i heq
        obtain ⟨wi, hw⟩ := hT.1 _ _ heq
        exact aw_put hd hw (fun q => absurd q (by decide)) h.1 rfl (fv_p3 (fCk_fk hw)) (fun i hi => ⟨fun k => fv_uR hi, fun j => av_uR⟩) (fCk_n2 hw (Or.inr rfl)).1 (fCk_n2 hw (Or.inr rfl)).2 (hk _ _ _ _ _ _ _ h.2)
      · exact h.elim
    · simp only [decide_eq_true_eq] at hi
      subst hi
      exact aw_iald hd h.1 h.2.1 (hk _ _ _ _ _ _ _ h.2.2)
    · simp only [decide_eq_true_eq] at hi
      subst hi
      exact aw_sld hd h.1 (hk _ _ _ _ _ _ _ h.2)
    · simp only [decide_eq_true_eq] at hi
      subst hi
      exact aw_lald hd h.1 h.2.1 (hk _ _ _ _ _ _ _ h.2.2)
    · simp only [decide_eq_true_eq] at hi
      subst hi
      exact aw_bald hd h.1 h.2.1 h.2.2.1 (hk _ _ _ _ _ _ _ h.2.2.2)
    · simp only [decide_eq_true_eq] at hi
      subst hi
      obtain ⟨h1, h2, h3, h4, r, h5, h⟩ := h
      exact aw_aald hd h1 h2 h3 h4 h5 (hk _ _ _ _ _ _ _ h)
    · simp only [decide_eq_true_eq] at hi
      subst hi
      exact aw_iast hd h.1 h.2.1 (hk _ _ _ _ _ _ _ h.2.2)
    · simp only [decide_eq_true_eq] at hi
      subst hi
      exact aw_last hd h.1 h.2.1 (hk _ _ _ _ _ _ _ h.2.2)
    · simp only [decide_eq_true_eq] at hi
      subst hi
      exact aw_bast hd h.1 h.2.1 h.2.2.1 (hk _ _ _ _ _ _ _ h.2.2.2)
    · simp only [decide_eq_true_eq] at hi
      subst hi
      exact aw_aast hd h.1 h.2.1 h.2.2.1 h.2.2.2.1 (hk _ _ _ _ _ _ _ h.2.2.2.2)
    · simp only [decide_eq_true_eq] at hi
      subst hi
      exact aw_alen hd h.1 h.2.1 h.2.2.1 (hk _ _ _ _ _ _ _ h.2.2.2)
    · simp only [decide_eq_true_eq] at hi
      subst hi
      exact aw_slen hd (hk _ _ _ _ _ _ _ h)
    · simp only [decide_eq_true_eq] at hi
      subst hi
      exact aw_xlen hd h.1 h.2.1 (hk _ _ _ _ _ _ _ h.2.2)
    · simp only [decide_eq_true_eq] at hi
      subst hi
      exact aw_xbald hd h.1 h.2.1 h.2.2.1 (hk _ _ _ _ _ _ _ h.2.2.2)
    · simp only [decide_eq_true_eq] at hi
      subst hi
      split at h
      · rename_i heq
        obtain ⟨ws, hw⟩ := hT.2.2.2.1 _ _ heq
        exact aw_newN hd hw h.1 h.2.1 h.2.2.1 (hk _ _ _ _ _ _ _ h.2.2.2)
      · exact h.elim
    · simp only [decide_eq_true_eq] at hi
      subst hi
      exact aw_newa hd h.1 h.2.1 h.2.2.1 h.2.2.2.1 h.2.2.2.2.1 (hk _ _ _ _ _ _ _ h.2.2.2.2.2)
    · simp only [decide_eq_true_eq] at hi
      subst hi
      split at h
      · rename_i heq
        obtain ⟨ws, hw⟩ := hT.2.2.2.1 _ _ heq
        obtain ⟨h1, h2, h3, h4, h5, h6, h7, h⟩ := h
        exact aw_anewN hd hw h1 h2 h3 h4 h5 h6 h7 (hk _ _ _ _ _ _ _ h)
      · exact h.elim
    · simp only [decide_eq_true_eq] at hi
      subst hi
      split at h
      · rename_i heq
        obtain ⟨ws, hw⟩ := hT.2.2.2.1 _ _ heq
        obtain ⟨h1, h2, h3, h4, h5, h6, h7, h8, h⟩ := h
        exact aw_multi hd (by have := hw; unfold nCk at this; simpa [vwCl] using this) h1 h2 h3 h4 h5 h6 h7 h8 (hk _ _ _ _ _ _ _ h)
      · exact h.elim
    · simp only [decide_eq_true_eq] at hi
      subst hi
      split at h
      · rename_i hc
        obtain ⟨ws, hw⟩ := hT.2.2.2.2 _ hc
        unfold oCk at hw
        simp only [Bool.and_eq_true, decide_eq_true_eq] at hw
        exact aw_obj hd hw.1.1 hw.1.2 hw.2 h.1 h.2.1 (hk _ _ _ _ _ _ _ h.2.2)
      · split at h
        · rename_i heq
          obtain ⟨ws, hw⟩ := hT.2.1 _ _ _ heq
          rw [if_neg (by decide)] at hw
          obtain ⟨h1, h2, h3, h4, h⟩ := h
          exact aw_callI (As := []) hd (Or.inl rfl) hw h1.symm h2 h3 h4 h (fun v σ' w' hq => by obtain ⟨rfl, hq⟩ := hq; exact hk _ _ _ _ _ _ _ hq)
        · rename_i heq
          obtain ⟨ws, hw⟩ := hT.2.1 _ _ _ heq
          rw [if_neg (by decide)] at hw
          obtain ⟨h1, h2, h3, h4, h⟩ := h
          exact aw_callI (As := []) hd (Or.inr rfl) hw h1.symm h2 h3 h4 h (fun v σ' w' hq => by obtain ⟨rfl, hq⟩ := hq; exact hk _ _ _ _ _ _ _ hq)
        · exact h.elim
    · simp only [decide_eq_true_eq] at hi
      subst hi
      split at h
      · rename_i heq
        obtain ⟨ws, hw⟩ := hT.2.1 _ _ _ heq
        rw [if_neg (by decide)] at hw
        obtain ⟨h1, h2, h3, h4, h⟩ := h
        exact aw_callI (As := [.int _]) hd (Or.inl rfl) hw h1.symm h2 h3 h4 h (fun v σ' w' hq => by obtain ⟨rfl, hq⟩ := hq; exact hk _ _ _ _ _ _ _ hq)
      · exact h.elim
    · simp only [decide_eq_true_eq] at hi
      subst hi
      split at h
      · rename_i heq
        obtain ⟨ws, hw⟩ := hT.2.1 _ _ _ heq
        rw [if_pos rfl] at hw
        unfold pCk at hw
        simp only [Bool.and_eq_true, decide_eq_true_eq] at hw
        split at h
        · obtain ⟨h1, h2, h3, h4, h5, h6, h7, h8, h⟩ := h
          exact aw_copy hd hw.1.1.1 hw.1.1.2 hw.1.2 hw.2 h1 h2 h3 h4 h5 h6 h7 h8 (hk _ _ _ _ _ _ _ h)
        · exact h.elim
      · rename_i heq
        obtain ⟨ws, hw⟩ := hT.2.1 _ _ _ heq
        rw [if_neg (by decide)] at hw
        obtain ⟨h1, h2, h⟩ := h
        exact aw_static (Or.inl rfl) hd hw h1 h2 hk h
      · rename_i heq
        obtain ⟨ws, hw⟩ := hT.2.1 _ _ _ heq
        rw [if_neg (by decide)] at hw
        obtain ⟨h1, h2, h⟩ := h
        exact aw_static (Or.inr rfl) hd hw h1 h2 hk h
      · exact h.elim
    · simp only [decide_eq_true_eq] at hi
      subst hi
      split at h
      · rename_i heq
        obtain ⟨ws, hw⟩ := hT.2.1 _ _ _ heq
        rw [if_neg (by decide)] at hw
        split at h
        · rename_i hdrop
          exact aw_virt hd hw hdrop h.1 h.2.1 hk h.2.2
        · exact h.elim
      · rename_i heq
        obtain ⟨ws, hw⟩ := hT.2.1 _ _ _ heq
        rw [if_neg (by decide)] at hw
        split at h
        · rename_i hdrop
          exact aw_virtX hd hw hdrop h.1 h.2.1 h.2.2.1 hk h.2.2.2
        · exact h.elim
      · exact h.elim
    · simp only [decide_eq_true_eq] at hi
      subst hi
      split at h
      · rename_i hr
        exact aw_ret (v := some (.int _)) h.2 (Or.inr (Or.inl ⟨_, _, rfl, hd, hr, h.1⟩))
      · exact h.elim
    · simp only [decide_eq_true_eq] at hi
      subst hi
      exact aw_ret (v := some (.long _)) h.2 (Or.inr (Or.inr ⟨_, rfl, hd, h.1⟩))
    · simp only [decide_eq_true_eq] at hi
      subst hi
      exact aw_ret (v := none) h.2 (Or.inl ⟨rfl, hd, h.1⟩)
    · exact h.elim
/-- n steps of a method -/
theorem wp_sound {is : Is} {cu : Cu} (hT : tbOK (mN μ).cls T) (hm : msOK μ is sw) : ∀ (n pc : Nat) (L : Lv) (S : List Value) (σ : St) (w : Wd) (cc zz : Nat), wp Γ d μ Q T is sw cu n pc L S σ w cc zz → AW Γ d μ Q pc L S σ w cc zz
  | 0, _, _, _, _, _, _, _, h => h
  | n + 1, pc, L, S, σ, w, cc, zz, h => by
    unfold wp at h
    split at h
    · exact h.elim
    · rename_i i len cst tgt nx heq
      refine stp_sound hT (hm.1 _ _ heq) (fun cs df h1 h2 => hm.2 _ _ _ _ _ _ _ _ heq h1 h2) ?_ h
      intro pc' L' S' σ' w' cc' zz' h'
      split at h'
      · exact AW.pick _ h'
      · exact wp_sound hT hm n _ _ _ _ _ _ _ h'
end Sound
