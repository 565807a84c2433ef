/-! courses: a search from the start, in order of steps -/
theorem pigeon : ∀ (n c : Nat) (f : Nat → Nat), (∀ i, i < c → f i < n) → (∀ i j, i < c → j < c → f i = f j → i = j) → c ≤ n
  | 0, c, f, h, _ => by
    rcases Nat.eq_zero_or_pos c with e | e
    · omega
    · exact absurd (h 0 e) (Nat.not_lt_zero _)
  | n + 1, c, f, h, hi => by
    rcases Nat.eq_zero_or_pos c with e | e
    · omega
    · have := pigeon n (c - 1) (fun i => if f i = n then f (c - 1) else f i) (fun i q => by
        have a1 := h i (by omega)
        have a2 := h (c - 1) (by omega)
        split
        · rename_i e1
          have : f (c - 1) ≠ n := fun e2 => by
            have := hi i (c - 1) (by omega) (by omega) (by omega)
            omega
          omega
        · omega) (fun i j q1 q2 q3 => by
        split at q3
        · rename_i e1
          split at q3
          · rename_i e2
            exact hi i j (by omega) (by omega) (by omega)
          · have := hi (c - 1) j (by omega) (by omega) q3
            omega
        · split at q3
          · have := hi i (c - 1) (by omega) (by omega) q3
            omega
          · exact hi i j (by omega) (by omega) q3)
      omega
theorem no_bit {s k : Nat} (h : s.testBit k = false) : s / 2 ^ k % 2 = 0 := by
  rw [Nat.testBit_eq_decide_div_mod_eq] at h
  simp only [decide_eq_false_iff_not] at h
  omega
/-- states without one page: so many -/
theorem few_states {p c : Nat} {f : Nat → Nat} (hp : p < 8) (h1 : ∀ j, j < c → f j < 32768 ∧ (f j).testBit (7 + p) = false) (h2 : ∀ i j, i < c → j < c → f i = f j → i = j) : c ≤ 16384 := by
  refine pigeon 16384 c (fun j => f j % 2 ^ (7 + p) + 2 ^ (7 + p) * (f j / 2 ^ (7 + p) / 2)) (fun i hi => ?_) (fun i j hi hj e => h2 i j hi hj ?_)
  · obtain ⟨a, b⟩ := h1 i hi
    have b' := no_bit b
    have q : p = 0 ∨ p = 1 ∨ p = 2 ∨ p = 3 ∨ p = 4 ∨ p = 5 ∨ p = 6 ∨ p = 7 := by omega
    rcases q with rfl | rfl | rfl | rfl | rfl | rfl | rfl | rfl <;> simp only [Nat.reduceAdd, Nat.reducePow] at b' ⊢ <;> omega
  · obtain ⟨a, b⟩ := h1 i hi
    obtain ⟨a2, b2⟩ := h1 j hj
    have b' := no_bit b
    have b2' := no_bit b2
    have q : p = 0 ∨ p = 1 ∨ p = 2 ∨ p = 3 ∨ p = 4 ∨ p = 5 ∨ p = 6 ∨ p = 7 := by omega
    rcases q with rfl | rfl | rfl | rfl | rfl | rfl | rfl | rfl <;> simp only [Nat.reduceAdd, Nat.reducePow] at b' b2' e ⊢ <;> omega
section SRC
variable {π : PV} {p u : Nat}
/-- c states f were met, from r; all that follows those before i is met, and the first m steps of i -/
def BI (π : PV) (p u : Nat) (f r : Nat → Nat) (c i m : Nat) : Prop :=
  (1 ≤ c ∧ f 0 = 0 ∧ i < c) ∧
  (∀ j, j < c → f j < 128 * 2 ^ nP π ∧ f j % 128 < 2 ^ nL π ∧ (f j).testBit (7 + p) = false ∧ dst π p u 0 ≤ dst π p u (f j) + pc (f j) ∧ stP π u (f j) p = none) ∧
  (∀ j j', j < c → j' < c → f j = f j' → j = j') ∧
  ((∀ j j', j ≤ j' → j' < c → pc (f j) ≤ pc (f j')) ∧ ∀ j, j < c → pc (f j) ≤ pc (f i) + 1) ∧
  (∀ j k t, k < nL π + nP π → (j < i ∨ (j = i ∧ k < m)) → prX π p u (f j) k t → ∃ j', j' < c ∧ f j' = t) ∧
  (dst π p u 0 < 1000 → ∀ j, j < c → dst π p u (f j) + pc (f j) = dst π p u 0 → (∃ j', j' ≤ j ∧ f j' = gs π p u (pc (f j))) ∧ (f j = gs π p u (pc (f j)) → j ≠ 0 → r j < j ∧ f (r j) = gs π p u (pc (f j) - 1)))
variable {f r : Nat → Nat} {c i m t : Nat}
theorem gs_prn (hF : WF π) (hp : p < nP π) (hD : dst π p u 0 < 1000) {k : Nat} (hk : k + 2 ≤ dst π p u 0) : prX π p u (gs π p u k) (gsI π p u (gs π p u k)) (gs π p u (k + 1)) ∧ gsI π p u (gs π p u k) < nL π + nP π := by
  obtain ⟨h1, h2, h3, h4⟩ := gs_ok hF hD k (by omega)
  obtain ⟨a, b, c, e⟩ := h4 (by omega)
  obtain ⟨x, hx, -⟩ := ok_prn hF hp h1 (by omega) c (fstB_spec b).2.1
  have : x = gs π p u (k + 1) := Option.some.inj (hx.1.symm.trans e)
  subst this
  exact ⟨hx, c⟩
theorem BI.new (hF : WF π) (hp : p < nP π) (hB : BI π p u f r c i m) (hm : m < nL π + nP π) (hpr : prX π p u (f i) m t) :
    (t < 128 * 2 ^ nP π ∧ t % 128 < 2 ^ nL π ∧ t.testBit (7 + p) = false ∧ dst π p u 0 ≤ dst π p u t + pc t ∧ pc t = pc (f i) + 1) ∧
    (dst π p u 0 < 1000 → dst π p u t + pc t = dst π p u 0 → (t = gs π p u (pc t) ∧ f i = gs π p u (pc t - 1)) ∨ ∃ j', j' < c ∧ f j' = gs π p u (pc t)) := by
  obtain ⟨⟨c1, c0, ci⟩, hb1, hb2, hb3, hb4, hb6⟩ := hB
  obtain ⟨x1, x2, x3, x4, x5⟩ := hb1 i ci
  obtain ⟨hst, hpg⟩ := hpr
  obtain ⟨b1, b2, b3⟩ := stX_bit hF hm hst
  have h7 := hF.1.2.2.1.2
  have tri := dst_tri (p := p) hF x1 x2 hm hst
  have hpc : pc t = pc (f i) + 1 := by rw [b2, pc_or (by omega) b1]
  have hbx : bxX π m ≠ 7 + p := by
    unfold bxX
    split
    · omega
    · have := (hpg (by omega)).1
      omega
  refine ⟨⟨stX_spec hF hm hst x1, ?_, by rw [b2, t_or, x3, decide_eq_false hbx]; rfl, by omega, hpc⟩, fun hD he => ?_⟩
  · by_cases q : m < nL π
    · have e : t % 128 = (f i % 128) ||| 2 ^ m := by
        have hbm : bxX π m = m := by unfold bxX; rw [if_pos q]
        rw [b2, hbm]
        exact Nat.eq_of_testBit_eq (fun j => by
          rw [tmod, t_or, t_or, tmod]
          by_cases e : j < 7
          · rw [decide_eq_true e]; simp
          · rw [decide_eq_false e, decide_eq_false (show ¬ m = j by omega)]; simp)
      rw [e]
      exact next_lt x2 rfl q
    · have hbm : bxX π m = 7 + (m - nL π) := by unfold bxX; rw [if_neg q]
      rw [b2, hbm, or_mod]
      exact x2
  · have dx : dst π p u (f i) + pc (f i) = dst π p u 0 := by omega
    have d0 : dst π p u (f i) ≠ 0 := fun q => by rw [(dst_zero hF hp x1).mp q] at x3; cases x3
    have d1 : dst π p u (f i) ≠ 1 := fun q => by
      obtain ⟨t', ht'⟩ := dst1_goal hF hp x1 q
      rw [x5] at ht'; cases ht'
    obtain ⟨⟨j', hj', ej⟩, -⟩ := hb6 hD i ci dx
    obtain ⟨pr, hI⟩ := gs_prn hF hp hD (k := pc (f i)) (by omega)
    rw [hpc, Nat.add_sub_cancel]
    rcases Nat.lt_or_ge j' i with q | q
    · right
      rw [← ej] at pr hI
      exact hb4 j' _ _ hI (Or.inl q) pr
    · have : j' = i := by omega
      subst this
      rw [← ej] at pr hI
      rcases Nat.lt_trichotomy (gsI π p u (f j')) m with g | g | g
      · right
        exact hb4 j' _ _ hI (Or.inr ⟨rfl, g⟩) pr
      · left
        rw [g] at pr
        exact ⟨Option.some.inj (hst.symm.trans pr.1), ej⟩
      · exfalso
        obtain ⟨-, -, -, h4⟩ := gs_ok hF hD (pc (f j')) (by omega)
        rw [← ej] at h4
        have hno := (fstB_spec (h4 (by omega)).2.1).2.2 m g
        have : okX π p u (f j') m = true := by
          unfold okX
          rw [hst]
          simp only [decide_eq_true_eq]
          omega
        rw [this] at hno
        cases hno
def upN (f : Nat → Nat) (c t : Nat) : Nat → Nat := fun j => if j = c then t else f j
theorem upN_c : upN f c t c = t := if_pos rfl
theorem upN_l {j : Nat} (h : j < c) : upN f c t j = f j := if_neg (by omega)
theorem BI.add (hF : WF π) (hp : p < nP π) (hB : BI π p u f r c i m) (hm : m < nL π + nP π) (hpr : prX π p u (f i) m t) (hnew : ∀ j, j < c → f j ≠ t) (hng : stP π u t p = none) : BI π p u (upN f c t) (upN r c i) (c + 1) i (m + 1) := by
  obtain ⟨⟨n1, n2, n3, n4, n5⟩, n6⟩ := hB.new hF hp hm hpr
  obtain ⟨⟨c1, c0, ci⟩, hb1, hb2, ⟨hb3, hb3'⟩, hb4, hb6⟩ := hB
  have fi : upN f c t i = f i := upN_l ci
  have cs : ∀ j, j < c + 1 → (j < c ∧ upN f c t j = f j ∧ upN r c i j = r j) ∨ (j = c ∧ upN f c t j = t ∧ upN r c i j = i) := by
    intro j hj
    by_cases e : j = c
    · exact Or.inr ⟨e, by rw [e]; exact upN_c, by rw [e]; exact upN_c⟩
    · exact Or.inl ⟨by omega, upN_l (by omega), upN_l (by omega)⟩
  refine ⟨⟨by omega, by rw [upN_l (by omega)]; exact c0, by omega⟩, fun j hj => ?_, fun j j' hj hj' e => ?_, ⟨fun j j' hjj hj' => ?_, fun j hj => ?_⟩, fun j k x hk hjk hx => ?_, fun hD j hj e => ?_⟩
  · rcases cs j hj with ⟨q, e, -⟩ | ⟨q, e, -⟩
    · rw [e]; exact hb1 j q
    · rw [e]; exact ⟨n1, n2, n3, n4, hng⟩
  · rcases cs j hj with ⟨q, e1, -⟩ | ⟨q, e1, -⟩ <;> rcases cs j' hj' with ⟨q', e2, -⟩ | ⟨q', e2, -⟩
    · rw [e1, e2] at e; exact hb2 j j' q q' e
    · rw [e1, e2] at e; exact absurd e (hnew j q)
    · rw [e1, e2] at e; exact absurd e.symm (hnew j' q')
    · omega
  · rcases cs j' hj' with ⟨q', e2, -⟩ | ⟨q', e2, -⟩
    · rw [e2, upN_l (by omega)]; exact hb3 j j' hjj q'
    · rcases cs j (by omega) with ⟨q, e1, -⟩ | ⟨q, e1, -⟩
      · rw [e1, e2, n5]; exact hb3' j q
      · rw [e1, e2]; exact Nat.le_refl _
  · rw [fi]
    rcases cs j hj with ⟨q, e1, -⟩ | ⟨q, e1, -⟩
    · rw [e1]; exact hb3' j q
    · rw [e1, n5]; exact Nat.le_refl _
  · have hjc : j < c := by omega
    rw [upN_l hjc] at hx
    by_cases e : j = i ∧ k = m
    · obtain ⟨rfl, rfl⟩ := e
      have : x = t := Option.some.inj (hx.1.symm.trans hpr.1)
      exact ⟨c, by omega, by rw [upN_c, this]⟩
    · obtain ⟨j', g1, g2⟩ := hb4 j k x hk (by omega) hx
      exact ⟨j', by omega, by rw [upN_l g1]; exact g2⟩
  · rcases cs j hj with ⟨q, e1, e2⟩ | ⟨q, e1, e2⟩
    · rw [e1] at e ⊢
      rw [e2]
      obtain ⟨⟨j', g1, g2⟩, g3⟩ := hb6 hD j q e
      refine ⟨⟨j', g1, by rw [upN_l (by omega)]; exact g2⟩, fun z1 z2 => ?_⟩
      obtain ⟨w1, w2⟩ := g3 z1 z2
      exact ⟨w1, by rw [upN_l (by omega)]; exact w2⟩
    · rw [e1] at e ⊢
      rw [e2, upN_l ci]
      subst q
      rcases n6 hD e with ⟨g1, g2⟩ | ⟨j', g1, g2⟩
      · exact ⟨⟨j, Nat.le_refl _, by rw [upN_c]; exact g1⟩, fun _ _ => ⟨ci, g2⟩⟩
      · exact ⟨⟨j', by omega, by rw [upN_l g1]; exact g2⟩, fun z _ => absurd (g2.trans z.symm) (hnew j' g1)⟩
theorem BI.skip (hB : BI π p u f r c i m) (h : ∀ t, prX π p u (f i) m t → ∃ j', j' < c ∧ f j' = t) : BI π p u f r c i (m + 1) := by
  obtain ⟨hb0, hb1, hb2, hb3, hb4, hb6⟩ := hB
  refine ⟨hb0, hb1, hb2, hb3, fun j k x hk hjk hx => ?_, hb6⟩
  by_cases e : j = i ∧ k = m
  · obtain ⟨rfl, rfl⟩ := e
    exact h x hx
  · exact hb4 j k x hk (by omega) hx
theorem BI.next (hB : BI π p u f r c i (nL π + nP π)) (h : i + 1 < c) : BI π p u f r c (i + 1) 0 := by
  obtain ⟨⟨c1, c0, ci⟩, hb1, hb2, ⟨hb3, hb3'⟩, hb4, hb6⟩ := hB
  refine ⟨⟨c1, c0, h⟩, hb1, hb2, ⟨hb3, fun j hj => ?_⟩, fun j k x hk hjk hx => ?_, hb6⟩
  · have := hb3' j hj
    have := hb3 i (i + 1) (by omega) h
    omega
  · exact hb4 j k x hk (by omega) hx
/-- the course's states are met -/
theorem BI.reach (hF : WF π) (hp : p < nP π) (hB : BI π p u f r c i m) (hD : dst π p u 0 < 1000) {K : Nat} (hK : ∀ j, j < c → pc (f j) < K → ∀ k t, k < nL π + nP π → prX π p u (f j) k t → ∃ j', j' < c ∧ f j' = t) : ∀ k, k ≤ K → k + 1 ≤ dst π p u 0 → ∃ j, j < c ∧ f j = gs π p u k := by
  obtain ⟨⟨c1, c0, ci⟩, -⟩ := hB
  intro k
  induction k with
  | zero => intro _ _; exact ⟨0, by omega, c0⟩
  | succ k ih =>
    intro h1 h2
    obtain ⟨j, j1, j2⟩ := ih (by omega) (by omega)
    obtain ⟨pr, hI⟩ := gs_prn hF hp hD (k := k) (by omega)
    have hpk := (gs_ok hF hD k (by omega)).2.2.1
    rw [← j2] at pr hI hpk
    exact hK j j1 (by omega) _ _ hI pr
theorem no_goal (hF : WF π) (hp : p < nP π) (hB : BI π p u f r c i m) (hD : dst π p u 0 < 1000) {j k : Nat} (hk : k + 1 = dst π p u 0) (hj : j < c) (e : f j = gs π p u k) : False := by
  obtain ⟨hb0, hb1, -⟩ := hB
  obtain ⟨x1, -, -, -, x5⟩ := hb1 j hj
  obtain ⟨h1, h2, -⟩ := gs_ok hF hD k (by omega)
  obtain ⟨t', ht'⟩ := dst1_goal hF hp (u := u) h1 (by omega)
  rw [← e, x5] at ht'
  cases ht'
theorem BI.nix (hF : WF π) (hp : p < nP π) (hB : BI π p u f r c i (nL π + nP π)) (h : c ≤ i + 1) : ¬ dst π p u 0 < 1000 := by
  intro hD
  have hB' := hB
  obtain ⟨⟨c1, c0, ci⟩, hb1, hb2, hb3, hb4, hb6⟩ := hB
  have h0 : dst π p u 0 ≠ 0 := fun q => by
    obtain ⟨x1, -, x3, -⟩ := hb1 0 (by omega)
    rw [c0] at x1 x3
    rw [(dst_zero hF hp x1).mp q] at x3
    cases x3
  obtain ⟨j, j1, j2⟩ := hB'.reach hF hp hD (K := 1000) (fun j hj _ k t hk hx => hb4 j k t hk (by omega) hx) (dst π p u 0 - 1) (by omega) (by omega)
  exact no_goal hF hp hB' hD (by omega) j1 j2
theorem pc_le (s : Nat) : pc s ≤ 32 := cntB_le _ _
/-- what a search leaves: the last state, and how it was come to -/
def CH (π : PV) (p u : Nat) (f r : Nat → Nat) (c g : Nat) : Prop := dst π p u 0 < 1000 ∧ 1 ≤ dst π p u 0 ∧ g < c ∧ f g = gs π p u (dst π p u 0 - 1) ∧ (∀ j k, j < c → 1 ≤ k → k + 1 ≤ dst π p u 0 → f j = gs π p u k → r j < c ∧ f (r j) = gs π p u (k - 1)) ∧ f 0 = 0
theorem BI.goal (hF : WF π) (hp : p < nP π) (hB : BI π p u f r c i m) (hm : m < nL π + nP π) (hpr : prX π p u (f i) m t) (hnew : ∀ j, j < c → f j ≠ t) {x : Nat} (hg : stP π u t p = some x) : CH π p u (upN f c t) (upN r c i) (c + 1) c := by
  obtain ⟨⟨n1, n2, n3, n4, n5⟩, n6⟩ := hB.new hF hp hm hpr
  have hB' := hB
  obtain ⟨⟨c1, c0, ci⟩, hb1, hb2, ⟨hb3, hb3'⟩, hb4, hb6⟩ := hB
  have gd := goal_dst hF hp n1 n2 hg
  have gp := pc_le t
  have g0 : dst π p u t ≠ 0 := fun q => by rw [(dst_zero hF hp n1).mp q] at n3; cases n3
  have hD : dst π p u 0 < 1000 := by omega
  have low : pc (f i) + 2 ≤ dst π p u 0 := by
    rcases Nat.lt_or_ge (pc (f i) + 1) (dst π p u 0) with q | q
    · omega
    · exfalso
      have h0 : dst π p u 0 ≠ 0 := fun q => by
        obtain ⟨x1, -, x3, -⟩ := hb1 0 (by omega)
        rw [c0] at x1 x3
        rw [(dst_zero hF hp x1).mp q] at x3
        cases x3
      obtain ⟨j, j1, j2⟩ := hB'.reach hF hp hD (K := pc (f i)) (fun j hj hlt k t hk hx => hb4 j k t hk (Or.inl (by
        rcases Nat.lt_or_ge j i with q | q
        · exact q
        · have := hb3 i j q hj
          omega)) hx) (dst π p u 0 - 1) (by omega) (by omega)
      exact no_goal hF hp hB' hD (by omega) j1 j2
  have he : dst π p u t + pc t = dst π p u 0 := by omega
  have hpt : pc t = dst π p u 0 - 1 := by omega
  have main : t = gs π p u (pc t) ∧ f i = gs π p u (pc t - 1) := by
    rcases n6 hD he with h | ⟨j', g1, g2⟩
    · exact h
    · exact absurd (no_goal hF hp hB' hD (k := pc t) (by omega) g1 g2) id
  refine ⟨hD, by omega, by omega, by rw [upN_c, ← hpt]; exact main.1, fun j k hj hk1 hk2 e => ?_, by rw [upN_l (by omega)]; exact c0⟩
  obtain ⟨k1, k2, k3, -⟩ := gs_ok hF hD k (by omega)
  by_cases q : j = c
  · subst q
    rw [upN_c] at e
    rw [upN_c, upN_l ci]
    have : pc t = k := by rw [e]; exact k3
    rw [← this]
    exact ⟨by omega, main.2⟩
  · have hjc : j < c := by omega
    rw [upN_l hjc] at e
    rw [upN_l hjc]
    have hpk : pc (f j) = k := by rw [e]; exact k3
    have hj0 : j ≠ 0 := fun z => by
      rw [z, c0] at hpk
      rw [pc_0] at hpk
      omega
    obtain ⟨-, g3⟩ := hb6 hD j hjc (by rw [hpk, e]; exact k2)
    obtain ⟨w1, w2⟩ := g3 (by rw [hpk]; exact e) hj0
    rw [hpk] at w2
    exact ⟨by omega, by rw [upN_l (by omega)]; exact w2⟩
theorem BI.start (hF : WF π) (hp : p < nP π) (hng : stP π u 0 p = none) : BI π p u (fun _ => 0) (fun _ => 0) 1 0 0 := by
  have h0 : 0 < 128 * 2 ^ nP π := Nat.mul_pos (by decide) (Nat.pow_pos (by decide))
  refine ⟨⟨Nat.le_refl _, rfl, by decide⟩, fun j hj => ⟨h0, Nat.pow_pos (by decide), Nat.zero_testBit _, Nat.le_add_right _ _, hng⟩, fun j j' h1 h2 _ => by omega, ⟨fun j j' _ _ => Nat.le_refl _, fun j _ => Nat.le_succ _⟩, fun j k x _ h _ => by omega, fun hD j hj e => ⟨⟨j, Nat.le_refl _, ?_⟩, fun _ h => by omega⟩⟩
  show 0 = gs π p u (pc 0)
  rw [pc_0]
  rfl
theorem CH.start (hF : WF π) (hp : p < nP π) {x : Nat} (hg : stP π u 0 p = some x) : CH π p u (fun _ => 0) (fun _ => 0) 1 0 := by
  have h0 : 0 < 128 * 2 ^ nP π := Nat.mul_pos (by decide) (Nat.pow_pos (by decide))
  have gd := goal_dst hF hp h0 (Nat.pow_pos (by decide)) hg
  have g0 : dst π p u 0 ≠ 0 := fun q => by
    have := (dst_zero hF hp h0).mp q
    rw [Nat.zero_testBit] at this
    cases this
  have e1 : dst π p u 0 = 1 := by omega
  refine ⟨by omega, by omega, by decide, by rw [e1]; rfl, fun j k _ h1 h2 _ => (by omega), rfl⟩
end SRC
