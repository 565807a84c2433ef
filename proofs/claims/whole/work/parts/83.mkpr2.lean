/-! what makes a primer: its signs, its words -/
theorem AW.cz {Γ : Gx} {d : Nat} {μ : MD} {Q : Option Value → St → Wd → Prop} {pc : Nat} {L : Lv} {S : List Value} {σ : St} {w : Wd} {cc zz cc' zz' : Nat} (e1 : cc = cc') (e2 : zz = zz') (h : AW Γ d μ Q pc L S σ w cc' zz') : AW Γ d μ Q pc L S σ w cc zz := e1 ▸ e2 ▸ h
def stS (o i : Nat) (q : St × Wd) : St × Wd := (sX7 (zS q.1 q.2.1) (zW q.2) q.2.1, uW (wX7 (zW q.2) q.2.1) (o + 1) i (some q.2.1))
def itS (o : Nat) : Nat → Nat → St × Wd → St × Wd
  | 0, _, q => q
  | n + 1, i, q => itS o n (i + 1) (stS o i q)
def stW (o i : Nat) (q : St × Wd) : St × Wd := (sX10 (zS q.1 q.2.1) (zW q.2) q.2.1, uW (wX10 (zW q.2) q.2.1) (o + 2) i (some q.2.1))
def itW (o : Nat) : Nat → Nat → St × Wd → St × Wd
  | 0, _, q => q
  | n + 1, i, q => itW o n (i + 1) (stW o i q)
theorem sg_n : ∀ k, k < 20 → kd (3 + 20 + 2 * k) = (7, 4) ∧ kd (159 + 20 + 2 * k) = (7, 4) := by decide +kernel
theorem wd_n : ∀ k, k < 24 → kd (3 + 60 + 4 * k) = (10, 5) ∧ kd (159 + 60 + 4 * k) = (10, 5) := by decide +kernel
section MKP
variable {Γ : Gx} {d : Nat} {Q : St → Wd → Prop} {o : Nat}
theorem l_96 (hP : isP o) {zz : Nat} (hzz : zz ≤ 400) : ∀ n i q, i + n = 20 → okO q.2 o 4 → q.2.2 o 0 = some (o + 1) → q.2.1 = o + 20 + 2 * i → AW Γ (d + 2) mX4_init (qC Q) 123 [(0, .ref o), (1, .int 0)] [] (itS o n i q).1 (itS o n i q).2 59 (zz + 160) → AW Γ (d + 2) mX4_init (qC Q) 96 [(0, .ref o), (1, .int (nI i))] [] q.1 q.2 (19 + 2 * i) (zz + 8 * i) := by
  have hlt := P_lt hP
  intro n
  induction n with
  | zero =>
    intro i q hi ho h0 h1 h
    have : i = 20 := hi
    subst this
    exact wp_sound (μ := mX4_init) (T := tbX4) (is := isX4_init) (sw := swX4_init) (cu := cuX4_init) tbX4_ok msX4_init 20 _ _ _ _ _ _ _ (And.intro (fun _ => h) (fun z => absurd (by decide : (20 : Int32) ≤ nI 20) z))
  | succ n ih =>
    intro i q hi ho h0 h1 h
    have kS : kd q.2.1 = (7, 4) := by
      rw [h1]
      rcases hP with rfl | rfl
      · exact (sg_n i (by omega)).1
      · exact (sg_n i (by omega)).2
    have kL : kd (q.2.1 + 1) = (20, 4) := by
      rw [h1]
      rcases hP with rfl | rfl
      · have := ((sg_f i (by omega)).1).2.2
        rw [show 3 + 20 + 2 * i + 1 = 3 + 21 + 2 * i by omega]; exact this
      · have := ((sg_f i (by omega)).2).2.2
        rw [show 159 + 20 + 2 * i + 1 = 159 + 21 + 2 * i by omega]; exact this
    have hz : zz + 8 * i + (kd q.2.1).2 = zz + 8 * i + 4 := by rw [kS]
    have nx := ih (i + 1) (stS o i q) (by omega) ⟨by have := ho.1; show o < q.2.1 + 1 + 1; omega, ho.2⟩ (by
      show (if o = o + 1 ∧ 0 = i then some q.2.1 else (if o = q.2.1 ∧ 0 = 0 then some (q.2.1 + 1) else (if o = q.2.1 + 1 then none else (if o = q.2.1 then none else q.2.2 o 0)))) = _
      rw [if_neg (by omega), if_neg (by omega), if_neg (by omega), if_neg (by omega)]
      exact h0) (by show q.2.1 + 1 + 1 = _; omega) h
    have en : nI i + 1 = nI (i + 1) := nI_add i 1
    rw [← en] at nx
    refine wp_sound (μ := mX4_init) (T := tbX4) (is := isX4_init) (sw := swX4_init) (cu := cuX4_init) tbX4_ok msX4_init 20 _ _ _ _ _ _ _ ?_
    refine And.intro (fun z => absurd z (nI_ge (a := i) (b := 20) (by omega) (by decide))) (fun _ => ?_)
    refine And.intro ho (Exists.intro (o + 1) (And.intro h0 ?_))
    refine And.intro (And.intro (congrArg Prod.fst kS) (Nat.le_of_ble_eq_true rfl)) (And.intro (show 19 + 2 * i + 1 ≤ 155 by omega) (And.intro (show zz + 8 * i + (kd q.2.1).2 ≤ 1214 by omega) ?_))
    refine And.intro rfl (And.intro (Nat.le_of_ble_eq_true rfl) (And.intro (show 19 + 2 * i + 1 + 1 ≤ 155 by omega) (And.intro (show zz + 8 * i + (kd q.2.1).2 + 4 ≤ 1214 by omega) ?_)))
    refine i_X7 (And.intro (Nat.lt_succ_self _) (congrArg Prod.fst kS)) (fun x hx => ?_) ?_
    · have : x = 0 := by omega
      subst this
      exact kL.trans (by decide +kernel)
    · refine And.intro (show o + 1 < q.2.1 + 1 + 1 by omega) (And.intro (show q.2.1 < q.2.1 + 1 + 1 by omega) (And.intro (Or.inl (And.intro (congrArg Prod.fst (pO1 hP)) (congrArg Prod.fst kS))) (And.intro (vkn (pO1 hP) (vp_in_nI (by omega) (by decide))) ?_)))
      refine AW.cz (cc' := 19 + 2 * (i + 1)) (zz' := zz + 8 * (i + 1)) (by show 19 + 2 * i + 1 + 1 = _; omega) (by show zz + 8 * i + (kd q.2.1).2 + 4 = _; omega) (AW.fw ?_ nx)
      show uW (wX7 (zW q.2) q.2.1) (o + 1) (nI i).toNatClampNeg (some q.2.1) = _
      rw [cl (by omega)]
      rfl
theorem l_123 (hP : isP o) : ∀ n i q, i + n = 24 → okO q.2 o 4 → q.2.2 o 2 = some (o + 2) → q.2.2 o 13 = some (o + 19) → q.2.1 = o + 60 + 4 * i → (∀ σ', Fr (scO (o + 19)) (itW o n i q).1 σ' → (∀ a, a < 128 → gI σ' (o + 19) a = -1) → Q σ' (itW o n i q).2) → AW Γ (d + 2) mX4_init (qC Q) 123 [(0, .ref o), (1, .int (nI i))] [] q.1 q.2 (59 + 4 * i) (518 + 29 * i) := by
  have hlt := P_lt hP
  intro n
  induction n with
  | zero =>
    intro i q hi ho h0 h13 h1 h
    have : i = 24 := hi
    subst this
    have o19 : okO q.2 (o + 19) 20 := ⟨by omega, by rw [pO19 hP]⟩
    exact wp_sound (μ := mX4_init) (T := tbX4) (is := isX4_init) (sw := swX4_init) (cu := cuX4_init) tbX4_ok msX4_init 20 _ _ _ _ _ _ _ (And.intro (fun _ => And.intro ho (Exists.intro (o + 19) (And.intro h13 (And.intro (Nat.le_of_ble_eq_true rfl) (And.intro (Nat.le_of_ble_eq_true rfl) (c_fillI (n := 128) o19 (by rw [pO19 hP]) (by decide) (fun σ' y1 y2 => And.intro rfl (And.intro rfl (h σ' y1 y2))))))))) (fun z => absurd (by decide : (24 : Int32) ≤ nI 24) z))
  | succ n ih =>
    intro i q hi ho h0 h13 h1 h
    have kS : kd q.2.1 = (10, 5) := by
      rw [h1]
      rcases hP with rfl | rfl
      · exact (wd_n i (by omega)).1
      · exact (wd_n i (by omega)).2
    have kL : kd (q.2.1 + 1) = (20, 8) ∧ kd (q.2.1 + 2) = (20, 8) ∧ kd (q.2.1 + 3) = (20, 8) := by
      rw [h1]
      rcases hP with rfl | rfl
      · obtain ⟨a, b, c⟩ := ((wd_f i (by omega)).1).2.2
        rw [show 3 + 60 + 4 * i + 1 = 3 + 61 + 4 * i by omega, show 3 + 60 + 4 * i + 2 = 3 + 62 + 4 * i by omega, show 3 + 60 + 4 * i + 3 = 3 + 63 + 4 * i by omega]; exact ⟨a, b, c⟩
      · obtain ⟨a, b, c⟩ := ((wd_f i (by omega)).2).2.2
        rw [show 159 + 60 + 4 * i + 1 = 159 + 61 + 4 * i by omega, show 159 + 60 + 4 * i + 2 = 159 + 62 + 4 * i by omega, show 159 + 60 + 4 * i + 3 = 159 + 63 + 4 * i by omega]; exact ⟨a, b, c⟩
    have hz : 518 + 29 * i + (kd q.2.1).2 = 518 + 29 * i + 5 := by rw [kS]
    have old : ∀ k, (stW o i q).2.2 o k = q.2.2 o k := fun k => by
      show (if o = o + 2 ∧ k = i then some q.2.1 else (if o = q.2.1 ∧ k = 4 then some (q.2.1 + 1 + 2) else (if o = q.2.1 + 1 + 1 + 1 then none else (if o = q.2.1 ∧ k = 2 then some (q.2.1 + 1 + 1) else (if o = q.2.1 + 1 + 1 then none else (if o = q.2.1 ∧ k = 0 then some (q.2.1 + 1) else (if o = q.2.1 + 1 then none else (if o = q.2.1 then none else q.2.2 o k)))))))) = _
      rw [if_neg (by omega), if_neg (by omega), if_neg (by omega), if_neg (by omega), if_neg (by omega), if_neg (by omega), if_neg (by omega), if_neg (by omega)]
    have nx := ih (i + 1) (stW o i q) (by omega) ⟨by have := ho.1; show o < q.2.1 + 1 + 1 + 1 + 1; omega, ho.2⟩ ((old 2).trans h0) ((old 13).trans h13) (by show q.2.1 + 1 + 1 + 1 + 1 = _; omega) h
    have en : nI i + 1 = nI (i + 1) := nI_add i 1
    rw [← en] at nx
    refine wp_sound (μ := mX4_init) (T := tbX4) (is := isX4_init) (sw := swX4_init) (cu := cuX4_init) tbX4_ok msX4_init 20 _ _ _ _ _ _ _ ?_
    refine And.intro (fun z => absurd z (nI_ge (a := i) (b := 24) (by omega) (by decide))) (fun _ => ?_)
    refine And.intro ho (Exists.intro (o + 2) (And.intro h0 ?_))
    refine And.intro (And.intro (congrArg Prod.fst kS) (Nat.le_of_ble_eq_true rfl)) (And.intro (show 59 + 4 * i + 1 ≤ 155 by omega) (And.intro (show 518 + 29 * i + (kd q.2.1).2 ≤ 1214 by omega) ?_))
    refine And.intro rfl (And.intro (Nat.le_of_ble_eq_true rfl) (And.intro (show 59 + 4 * i + 1 + 3 ≤ 155 by omega) (And.intro (show 518 + 29 * i + (kd q.2.1).2 + 24 ≤ 1214 by omega) ?_)))
    refine i_X10 (And.intro (Nat.lt_succ_self _) (congrArg Prod.fst kS)) (fun x hx => ?_) ?_
    · have : x = 0 ∨ x = 1 ∨ x = 2 := by omega
      rcases this with rfl | rfl | rfl
      · exact kL.1.trans (by decide +kernel)
      · exact kL.2.1.trans (by decide +kernel)
      · exact kL.2.2.trans (by decide +kernel)
    · refine And.intro (show o + 2 < q.2.1 + 1 + 1 + 1 + 1 by omega) (And.intro (show q.2.1 < q.2.1 + 1 + 1 + 1 + 1 by omega) (And.intro (Or.inr (Or.inl (And.intro (congrArg Prod.fst (pO2 hP)) (congrArg Prod.fst kS)))) (And.intro (vkn (pO2 hP) (vp_in_nI (by omega) (by decide))) ?_)))
      refine AW.cz (cc' := 59 + 4 * (i + 1)) (zz' := 518 + 29 * (i + 1)) (by show 59 + 4 * i + 1 + 3 = _; omega) (by show 518 + 29 * i + (kd q.2.1).2 + 24 = _; omega) (AW.fw ?_ nx)
      show uW (wX10 (zW q.2) q.2.1) (o + 2) (nI i).toNatClampNeg (some q.2.1) = _
      rw [cl (by omega)]
      rfl
/-- what a primer's making leaves, but for the row of NONE -/
def mkP (o : Nat) (σ : St) (w : Wd) : St × Wd := itW o 24 0 (itS o 20 0 (sX4 σ w o, wX4 w o))
theorem itS_1 : ∀ n i q, (itS o n i q).2.1 = q.2.1 + 2 * n
  | 0, _, _ => rfl
  | n + 1, i, q => by
    show (itS o n (i + 1) (stS o i q)).2.1 = _
    rw [itS_1 n]
    show q.2.1 + 1 + 1 + 2 * n = _
    omega
theorem itS_o : ∀ n i q, o < q.2.1 → ∀ k, (itS o n i q).2.2 o k = q.2.2 o k
  | 0, _, _, _, _ => rfl
  | n + 1, i, q, h, k => by
    show (itS o n (i + 1) (stS o i q)).2.2 o k = _
    rw [itS_o n (i + 1) (stS o i q) (by show o < q.2.1 + 1 + 1; omega) k]
    show (if o = o + 1 ∧ k = i then some q.2.1 else (if o = q.2.1 ∧ k = 0 then some (q.2.1 + 1) else (if o = q.2.1 + 1 then none else (if o = q.2.1 then none else q.2.2 o k)))) = _
    rw [if_neg (by omega), if_neg (by omega), if_neg (by omega), if_neg (by omega)]
def stSW (o i : Nat) (w : Wd) : Wd := uW (wX7 (zW w) w.1) (o + 1) i (some w.1)
def itSW (o : Nat) : Nat → Nat → Wd → Wd
  | 0, _, w => w
  | n + 1, i, w => itSW o n (i + 1) (stSW o i w)
def stWW (o i : Nat) (w : Wd) : Wd := uW (wX10 (zW w) w.1) (o + 2) i (some w.1)
def itWW (o : Nat) : Nat → Nat → Wd → Wd
  | 0, _, w => w
  | n + 1, i, w => itWW o n (i + 1) (stWW o i w)
def wP4 (o : Nat) (w : Wd) : Wd := itWW o 24 0 (itSW o 20 0 (wX4 w o))
theorem itS_w : ∀ n i q, (itS o n i q).2 = itSW o n i q.2
  | 0, _, _ => rfl
  | n + 1, i, q => itS_w n (i + 1) (stS o i q)
theorem itW_w : ∀ n i q, (itW o n i q).2 = itWW o n i q.2
  | 0, _, _ => rfl
  | n + 1, i, q => itW_w n (i + 1) (stW o i q)
theorem mkP_w {σ : St} {w : Wd} : (mkP o σ w).2 = wP4 o w := by
  unfold mkP wP4
  rw [itW_w, itS_w]
theorem kd_P : ∀ q, q < 155 → kd (160 + q) = kd (4 + q) := by decide +kernel
theorem i_X4 {w : Wd} {σ : St} (hP : isP o) (hw : w.1 = o + 1) (h : ∀ σ', Fr (scO (o + 19)) (mkP o σ w).1 σ' → (∀ a, a < 128 → gI σ' (o + 19) a = -1) → Q σ' (wP4 o w)) : SpC Γ (d + 2) mX4_init [.ref o] σ w Q := by
  rw [← mkP_w (σ := σ)] at h
  have hlt := P_lt hP
  have k4 : (kd o).1 = 4 := by rcases hP with rfl | rfl <;> decide +kernel
  have w1 : (wX4 w o).1 = o + 20 := by
    show w.1 + 1 + 1 + 1 + 1 + 1 + (1 + 8) + 1 + 1 + 1 + 1 + 1 = _
    omega
  obtain ⟨o0, o2, o13⟩ : (wX4 w o).2 o 0 = some (o + 1) ∧ (wX4 w o).2 o 2 = some (o + 2) ∧ (wX4 w o).2 o 13 = some (o + 19) := by
    obtain ⟨n, ρ⟩ := w
    have hw' : n = o + 1 := hw
    subst hw'
    rcases hP with rfl | rfl
    · exact ⟨rfl, rfl, rfl⟩
    · exact ⟨rfl, rfl, rfl⟩
  refine j_X4 ⟨by omega, k4⟩ (fun q hq => ?_) ?_
  · rw [hw]
    rcases hP with rfl | rfl
    · rfl
    · exact kd_P q hq
  · refine l_96 hP (zz := 358) (by decide) 20 0 (sX4 σ w o, wX4 w o) rfl ⟨by show o < (wX4 w o).1; omega, k4⟩ o0 w1 ?_
    have ho' : o < (wX4 w o).1 := by omega
    exact l_123 hP 24 0 (itS o 20 0 (sX4 σ w o, wX4 w o)) rfl ⟨by rw [itS_1]; show o < (wX4 w o).1 + _; omega, k4⟩ ((itS_o 20 0 _ ho' 2).trans o2) ((itS_o 20 0 _ ho' 13).trans o13) (by rw [itS_1]; show (wX4 w o).1 + _ = _; omega) h
end MKP
