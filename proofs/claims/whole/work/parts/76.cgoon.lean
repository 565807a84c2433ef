/-! the class: a course goes on from a state -/
def kn (π : PV) (s : Nat) : Int32 := metS π (nI (s / 128)) ||| readS π (nI (s % 128))
theorem tdR425 {s : St} {P : Nat} (hR : gR s 425 4 = some P) {X : Nat → Prop} {Y : Prop} (h : X P) : (∀ r, gR s 425 4 = some r → X r) ∧ (gR s 425 4 = none → Y) := ⟨mR1 hR h, mR2 hR⟩
theorem tdR425' {s : St} {P : Nat} (hR : gR s 425 4 = some P) {X : Nat → Prop} {Y : Prop} (h : X P) : (∀ r, gR s 425 4 = some r → X r) ∧ (gR s 425 4 = none → Y) := ⟨mR1 hR h, mR2 hR⟩
section CGO
variable {Γ : Gx} {d : Nat} {w : Wd} {P : Nat} {π : PV} {p u : Nat} {f r : Nat → Nat} {c i m t : Nat}
theorem stP_kn {s q : Nat} (hq : q < 8) (hb : s.testBit (7 + q) = false) : stP π u s q = if unkS π q (kn π s) ≤ u then some (s ||| 2 ^ (7 + q)) else none := by
  unfold stP
  rw [bit_p hq, hb, if_neg (by decide)]
  have e : π 12 q 0 &&& (readS π (nI (s % 128)) ^^^ (-1)) &&& (metS π (nI (s / 128)) ^^^ (-1)) = π 12 q 0 &&& (kn π s ^^^ (-1)) := b_ext fun b hb => by
    unfold kn
    rw [b_and, b_and, b_and, b_not _ hb, b_not _ hb, b_not _ hb, b_or]
    cases bt (π 12 q 0) b <;> cases bt (readS π (nI (s % 128))) b <;> cases bt (metS π (nI (s / 128))) b <;> rfl
  rw [e]
  unfold unkS
  rw [show 128 * 2 ^ q = 2 ^ (7 + q) by rw [Nat.pow_add]]
  by_cases z : cntB (π 12 q 0 &&& (kn π s ^^^ (-1))) 24 ≤ u
  · rw [if_pos z, if_pos (decide_eq_true z)]
  · rw [if_neg z, if_neg (by simpa using z)]
theorem or_div {s l : Nat} (hl : l < 7) : (s ||| 2 ^ l) / 128 = s / 128 := Nat.eq_of_testBit_eq (fun i => by
  rw [tdiv, tdiv, t_or, decide_eq_false (show ¬ l = 7 + i by omega), Bool.or_false])
theorem met_add {s q : Nat} (hF : WF π) (hq : q < nP π) : metS π (nI ((s ||| 2 ^ (7 + q)) / 128)) = metS π (nI (s / 128)) ||| π 12 q 0 := b_ext fun b hb => by
  rw [b_or, Bool.eq_iff_iff, Bool.or_eq_true, bt_met hF, bt_met hF]
  constructor
  · rintro ⟨x, h1, h2, h3⟩
    rw [tdiv, t_or, Bool.or_eq_true, decide_eq_true_eq] at h2
    rcases h2 with h2 | h2
    · exact Or.inl ⟨x, h1, by rw [tdiv]; exact h2, h3⟩
    · have : x = q := by omega
      subst this
      exact Or.inr h3
  · rintro (⟨x, h1, h2, h3⟩ | h)
    · rw [tdiv] at h2
      exact ⟨x, h1, by rw [tdiv, t_or, h2]; rfl, h3⟩
    · exact ⟨q, hq, by rw [tdiv, t_or]; simp, h⟩
theorem kn_page {s q : Nat} (hF : WF π) (hq : q < nP π) : kn π s ||| π 12 q 0 = kn π (s ||| 2 ^ (7 + q)) := by
  unfold kn
  rw [met_add hF hq, or_mod, Int32.or_assoc, Int32.or_assoc, Int32.or_comm (readS π (nI (s % 128)))]
theorem after_eq {s l : Nat} (hF : WF π) (hl : l < nL π) : π 9 l 0 &&& (nI s ^^^ (-1)) = π 9 l 0 &&& (nI (s % 128) ^^^ (-1)) := b_ext fun b hb => by
  have h7 := hF.1.2.2.1.2
  obtain ⟨⟨n, hn, e⟩, -⟩ := hF.2.2.2.1 l hl
  rw [b_and, b_and, b_not _ hb, b_not _ hb, b_nI _ hb, b_nI _ hb, tmod, e, b_nI _ hb]
  by_cases q : b < 7
  · rw [decide_eq_true q, Bool.true_and]
  · have : n.testBit b = false := Nat.testBit_lt_two_pow (Nat.lt_of_lt_of_le hn (Nat.pow_le_pow_right (by decide) (by omega)))
    rw [this, Bool.false_and, Bool.false_and]
theorem BI.cap (hF : WF π) (hp : p < nP π) (hB : BI π p u f r c i m) : c ≤ 16384 := by
  have h8 := hF.1.2.2.2.2
  have h256 : 2 ^ nP π ≤ 2 ^ 8 := Nat.pow_le_pow_right (by decide) h8
  obtain ⟨-, hb1, hb2, -⟩ := hB
  exact few_states (p := p) (by omega) (fun j hj => by obtain ⟨x1, -, x3, -⟩ := hb1 j hj; exact ⟨by omega, x3⟩) hb2
theorem BI.room (hF : WF π) (hp : p < nP π) (hB : BI π p u f r c i m) (hm : m < nL π + nP π) (hpr : prX π p u (f i) m t) (hnew : ∀ j, j < c → f j ≠ t) : c < 16384 := by
  have h8 := hF.1.2.2.2.2
  have h256 : 2 ^ nP π ≤ 2 ^ 8 := Nat.pow_le_pow_right (by decide) h8
  obtain ⟨⟨n1, n2, n3, -⟩, -⟩ := hB.new hF hp hm hpr
  obtain ⟨-, hb1, hb2, -⟩ := hB
  have := few_states (p := p) (c := c + 1) (f := upN f c t) (by omega) (fun j hj => by
    by_cases e : j = c
    · rw [e, upN_c]; exact ⟨by omega, n3⟩
    · rw [upN_l (by omega)]
      obtain ⟨x1, -, x3, -⟩ := hb1 j (by omega)
      exact ⟨by omega, x3⟩) (fun j j' hj hj' e => by
    by_cases q : j = c
    · by_cases q' : j' = c
      · omega
      · rw [q, upN_c, upN_l (by omega)] at e
        exact absurd e.symm (hnew j' (by omega))
    · by_cases q' : j' = c
      · rw [q', upN_c, upN_l (by omega)] at e
        exact absurd e (hnew j (by omega))
      · rw [upN_l (by omega), upN_l (by omega)] at e
        exact hb2 j j' (by omega) (by omega) e)
  omega
/-- what going on leaves -/
def GoC (σ : St) (P : Nat) (π : PV) (p u i : Nat) : Prop := ∃ (f r : Nat → Nat) (c : Nat), TP σ P π ∧ CS σ P p u f r c ∧ c ≤ 16384 ∧ ((gI σ 425 7 = -1 ∧ BI π p u f r c i (nL π + nP π)) ∨ ∃ g, gI σ 425 7 = nI g ∧ CH π p u f r c g)
theorem rI_up {j : Nat} (hj : j < c) : rI (upN r c i) j = rI r j := by
  unfold rI
  rw [upN_l hj]
theorem rI_c (hc : 1 ≤ c) : rI (upN r c i) c = nI i := by
  unfold rI
  rw [if_neg (by omega), upN_c]
theorem scV_Co : ∀ o k, scV P o k = true → scCo P o k = true := fun o k h => by unfold scCo; rw [h]; rfl
theorem big_Co : ∀ o k, (fun (o _k : Nat) => decide (425 ≤ o)) o k = true → scCo P o k = true := fun o k h => by unfold scCo; dsimp only at h; rw [h]; simp
theorem c_goOn {Q : St → Prop} {σ : St} (hwc : RunC w) (hP : isP P) (hF : WF π) (hp : p < nP π) (hu : u < 17) (hT : TP σ P π) (hCS : CS σ P p u f r c) (h7 : gI σ 425 7 = -1) (hB : BI π p u f r c i 0) (hQ : ∀ σ', Fr (scCo P) σ σ' → GoC σ' P π p u i → Q σ') : SpV Γ (d + 4) mX0_goOnFrom [.ref 425, .int (nI i)] σ w Q := by
  have hw := hwc.run
  have hlt := P_lt hP
  have h8 := hF.1.2.2.2.2
  have hl7 := hF.1.2.2.1.2
  have h256 : 2 ^ nP π ≤ 2 ^ 8 := Nat.pow_le_pow_right (by decide) h8
  have o16 : okO w (P + 16) 20 := okL hw (by omega) (by rw [pO16 hP])
  have cap := hB.cap hF hp
  have ci := hB.1.2.2
  obtain ⟨x1, x2, x3, -⟩ := hB.2.1 i ci
  generalize hsi : f i = s at x1 x2 x3
  have hs15 : s < 32768 := by omega
  have pk : ∀ {σ' : St}, TP σ' P π → gI σ' P 7 = nI (nL π) ∧ gI σ' P 11 = nI (nP π) := fun h => (wP h.1 hF).2.2
  -- a goal was found
  have f111 : ∀ (σ' : St) (f r : Nat → Nat) (c g : Nat) (a b e : Int32), Fr (scCo P) σ σ' → TP σ' P π → CS σ' P p u f r c → c ≤ 16384 → gI σ' 425 7 = nI g → CH π p u f r c g → AV Γ (d + 4) mX0_goOnFrom w Q 111 [(0, .ref 425), (1, .int (nI i)), (2, .int (nI s)), (3, .int a), (4, .int b), (5, .int e)] σ' := by
    intro σ' f r c g a b e q1 q2 q3 q4 q5 q6
    have hq := hQ σ' q1 ⟨f, r, c, q2, q3, q4, Or.inr ⟨g, q5, q6⟩⟩
    have hg : g < c := q6.2.2.1
    refine vX0_goOnFrom_111 hwc q3.1 (prO hw hP) (pr10 hw hP) o16 ⟨fun _ => hq, fun _ => ⟨fun _ => hq, fun z => absurd z ?_⟩⟩
    rw [q5]
    exact nI_ne_m1 (by omega)
  have f31 : ∀ (σ' : St) (f r : Nat → Nat) (c g : Nat) (a b e : Int32), Fr (scCo P) σ σ' → TP σ' P π → CS σ' P p u f r c → c ≤ 16384 → gI σ' 425 7 = nI g → CH π p u f r c g → AV Γ (d + 4) mX0_goOnFrom w Q 31 [(0, .ref 425), (1, .int (nI i)), (2, .int (nI s)), (3, .int a), (4, .int b), (5, .int e)] σ' := by
    intro σ' f r c g a b e q1 q2 q3 q4 q5 q6
    have hq := f111 σ' f r c g a b 0 q1 q2 q3 q4 q5 q6
    have hg : g < c := q6.2.2.1
    refine vX0_goOnFrom_31 hwc q3.1 (prO hw hP) ⟨fun _ => hq, fun _ => ⟨fun _ => hq, fun z => absurd z ?_⟩⟩
    rw [q5]
    exact nI_ne_m1 (by omega)
  -- a new state
  have arr : ∀ (X : St → Prop) (σ' : St) (f r : Nat → Nat) (c m t : Nat), Fr (scCo P) σ σ' → TP σ' P π → CS σ' P p u f r c → gI σ' 425 7 = -1 → BI π p u f r c i m → f i = s → m < nL π + nP π → prX π p u s m t → (∀ j, j < c → f j ≠ t) →
      (∀ σ2 f2 r2 c2, Fr (scCo P) σ σ2 → TP σ2 P π → CS σ2 P p u f2 r2 c2 → c2 ≤ 16384 → ((gI σ2 425 7 = -1 ∧ BI π p u f2 r2 c2 i (m + 1) ∧ f2 i = s) ∨ ∃ g, gI σ2 425 7 = nI g ∧ CH π p u f2 r2 c2 g) → X σ2) → SpV Γ (d + 3) mX0_arrive [.ref 425, .int (nI t), .int (nI i), .int (kn π t)] σ' w X := by
    intro X σ' f r c m t q1 q2 q3 q4 q5 q6 q7 q8 q9 hX
    rw [← q6] at q8
    have room := q5.room hF hp q7 q8 q9
    obtain ⟨⟨n1, n2, n3, -⟩, -⟩ := q5.new hF hp q7 q8
    have hci := q5.1.2.2
    have e : nI i = rI (upN r c i) c := (rI_c (by omega)).symm
    rw [e]
    refine c_arrive (f := f) (r := r) hwc hP hF hp hu (show t < 32768 by omega) room (fun j hj => rI_up hj) q2 q3 fun σ2 y1 y2 y3 y4 => ?_
    refine hX σ2 (upN f c t) (upN r c i) (c + 1) (q1.tr (y1.mono big_Co)) y2 y3 (by omega) ?_
    have hst := stP_kn (π := π) (u := u) (s := t) (q := p) (by omega) n3
    by_cases z : unkS π p (kn π t) ≤ u
    · rw [if_pos z] at y4 hst
      exact Or.inr ⟨c, y4, q5.goal hF hp q7 q8 q9 hst⟩
    · rw [if_neg z] at y4 hst
      exact Or.inl ⟨y4.trans q4, q5.add hF hp q7 q8 q9 hst, by rw [upN_l hci]; exact q6⟩
  -- pages
  have lpP : ∀ n q (f r : Nat → Nat) c σ', q + n = nP π → Fr (scCo P) σ σ' → TP σ' P π → CS σ' P p u f r c → gI σ' 425 7 = -1 → BI π p u f r c i (nL π + q) → f i = s → AV Γ (d + 4) mX0_goOnFrom w Q 111 [(0, .ref 425), (1, .int (nI i)), (2, .int (nI s)), (3, .int (metS π (nI (s / 128)))), (4, .int (kn π s)), (5, .int (nI q))] σ' := by
    intro n
    induction n with
    | zero =>
      intro q f r c σ' hq q1 q2 q3 q4 q5 q6
      have : q = nP π := hq
      subst this
      refine vX0_goOnFrom_111 hwc q3.1 (prO hw hP) (pr10 hw hP) o16 ?_
      rw [(pk q2).2]
      exact ⟨fun _ => hQ σ' q1 ⟨f, r, c, q2, q3, q5.cap hF hp, Or.inl ⟨q4, q5⟩⟩, fun z => absurd (nI_le (Nat.le_refl _) (by omega)) z⟩
    | succ n ih =>
      intro q f r c σ' hq q1 q2 q3 q4 q5 q6
      have hqn : q < nP π := by omega
      have eq : gI σ' (P + 16) q = π 12 q 0 := (q2.1.2.2.2.2 q hqn).2.2
      have e7 : (7 : Int32) + nI q = nI (7 + q) := nI_add 7 q
      have enx : nI s ||| ((1 : Int32) <<< (nI (7 + q) &&& 31)) = nI (s ||| 2 ^ (7 + q)) := by rw [shl_nI _ (by omega), or_nI]
      have e1 : nI q + 1 = nI (q + 1) := nI_add q 1
      have hbx : bxX π (nL π + q) = 7 + q := by unfold bxX; rw [if_neg (by omega), Nat.add_sub_cancel_left]
      have hsub : nL π + q - nL π = q := Nat.add_sub_cancel_left _ _
      -- the step is no step, or leads to a state that was met
      have skip : (∀ x, prX π p u s (nL π + q) x → ∃ j, j < c ∧ f j = x) → ∀ σ2, Fr (scCo P) σ σ2 → TP σ2 P π → CS σ2 P p u f r c → gI σ2 425 7 = -1 → AV Γ (d + 4) mX0_goOnFrom w Q 111 [(0, .ref 425), (1, .int (nI i)), (2, .int (nI s)), (3, .int (metS π (nI (s / 128)))), (4, .int (kn π s)), (5, .int (nI (q + 1)))] σ2 := fun hx σ2 z1 z2 z3 z4 => ih (q + 1) f r c σ2 (by omega) z1 z2 z3 z4 (q5.skip (by rw [q6]; exact hx)) q6
      refine vX0_goOnFrom_111 hwc q3.1 (prO hw hP) (pr10 hw hP) o16 ?_
      rw [(pk q2).2, q4, q3.2.1, cl (show q < 2 ^ 31 by omega), eq, e7, enx, e1]
      refine ⟨fun z => absurd z (nI_ge hqn (by omega)), fun _ => ⟨fun z => absurd rfl z, fun _ => ⟨fun z => skip (fun x hx => ?_) σ' q1 q2 q3 q4, fun z => ⟨vk (pO16 hP) (by omega), fun z2 => skip (fun x hx => ?_) σ' q1 q2 q3 q4, fun z2 => ?_⟩⟩⟩⟩
      · rw [nI_eq (by omega) (by omega)] at z
        have := (hx.2 (by omega)).1
        omega
      · have := (hx.2 (by omega)).2
        rw [hsub] at this
        exact absurd z2 this
      · have hqp : q ≠ p := fun e => z (by rw [e])
        refine c_isNew (f := f) (c := c) hwc (by rw [show (32768 : Nat) = 2 ^ 15 from rfl]; exact next_lt (k := 15) hs15 rfl (by omega)) q3.2.2.2.2.1 (fun hex => ⟨fun _ => skip (fun x hx => ?_) σ' q1 q2 q3 q4, fun z => absurd rfl z⟩) (fun hnew => ⟨fun z => absurd z (by decide), fun _ => tdR425 q3.1 ⟨prO hw hP, c_unknownOn hw hP q2.1 hF hqn ?_⟩⟩)
        · obtain ⟨-, b2, -⟩ := stX_bit hF (by omega) hx.1
          rw [hbx] at b2
          rw [b2]
          exact hex
        · have hun : unkS π q (kn π s) ≤ 24 := cntB_le _ _
          rw [q3.2.2.1, nI_ltI (show u < 2 ^ 31 by omega) (show unkS π q (kn π s) < 2 ^ 31 by omega)]
          have hbit : s.testBit (7 + q) = false := by
            cases hb : s.testBit (7 + q) with
            | false => rfl
            | true => exact absurd (q6.trans (or_self2 hb).symm) (hnew i q5.1.2.2)
          have hst := stP_kn (π := π) (u := u) (s := s) (q := q) (by omega) hbit
          refine ⟨fun z3 => skip (fun x hx => ?_) σ' q1 q2 q3 q4, fun z3 => tdR425 q3.1 ⟨prO hw hP, P + 16, pr10 hw hP, o16, vk (pO16 hP) (by omega), ?_⟩⟩
          · rw [if_neg (by omega)] at hst
            have := hx.1
            unfold stX at this
            rw [if_neg (by omega), hsub, hst] at this
            cases this
          · rw [if_pos (by omega)] at hst
            rw [eq, kn_page hF hqn]
            have hpr : prX π p u s (nL π + q) (s ||| 2 ^ (7 + q)) := by
              refine ⟨?_, fun _ => ⟨by rw [hsub]; exact hqp, by rw [hsub]; exact z2⟩⟩
              unfold stX
              rw [if_neg (by omega), hsub]
              exact hst
            refine arr _ σ' f r c (nL π + q) _ q1 q2 q3 q4 q5 q6 (by omega) hpr hnew fun σ2 f2 r2 c2 y1 y2 y3 y4 y5 => ?_
            rcases y5 with ⟨y5, y6, y7⟩ | ⟨g, y5, y6⟩
            · exact ih (q + 1) f2 r2 c2 σ2 (by omega) y1 y2 y3 y5 y6 y7
            · exact f111 σ2 f2 r2 c2 g _ _ _ y1 y2 y3 y4 y5 y6
  have lpL : ∀ n l (f r : Nat → Nat) c σ', l + n = nL π → Fr (scCo P) σ σ' → TP σ' P π → CS σ' P p u f r c → gI σ' 425 7 = -1 → BI π p u f r c i l → f i = s → AV Γ (d + 4) mX0_goOnFrom w Q 31 [(0, .ref 425), (1, .int (nI i)), (2, .int (nI s)), (3, .int (metS π (nI (s / 128)))), (4, .int (kn π s)), (5, .int (nI l))] σ' := by
    intro n
    induction n with
    | zero =>
      intro l f r c σ' hl q1 q2 q3 q4 q5 q6
      have : l = nL π := hl
      subst this
      refine vX0_goOnFrom_31 hwc q3.1 (prO hw hP) ?_
      rw [(pk q2).1]
      exact ⟨fun _ => lpP (nP π) 0 f r c σ' (Nat.zero_add _) q1 q2 q3 q4 q5 q6, fun z => absurd (nI_le (Nat.le_refl _) (by omega)) z⟩
    | succ n ih =>
      intro l f r c σ' hl q1 q2 q3 q4 q5 q6
      have hln : l < nL π := by omega
      have enx : nI s ||| ((1 : Int32) <<< (nI l &&& 31)) = nI (s ||| 2 ^ l) := by rw [shl_nI _ (by omega), or_nI]
      have e1 : nI l + 1 = nI (l + 1) := nI_add l 1
      have hbx : bxX π l = l := by unfold bxX; rw [if_pos hln]
      have skip : (∀ x, prX π p u s l x → ∃ j, j < c ∧ f j = x) → ∀ σ2, Fr (scCo P) σ σ2 → TP σ2 P π → CS σ2 P p u f r c → gI σ2 425 7 = -1 → AV Γ (d + 4) mX0_goOnFrom w Q 31 [(0, .ref 425), (1, .int (nI i)), (2, .int (nI s)), (3, .int (metS π (nI (s / 128)))), (4, .int (kn π s)), (5, .int (nI (l + 1)))] σ2 := fun hx σ2 z1 z2 z3 z4 => ih (l + 1) f r c σ2 (by omega) z1 z2 z3 z4 (q5.skip (by rw [q6]; exact hx)) q6
      refine vX0_goOnFrom_31 hwc q3.1 (prO hw hP) ?_
      rw [(pk q2).1, q4, enx, e1]
      refine ⟨fun z => absurd z (nI_ge hln (by omega)), fun _ => ⟨fun z => absurd rfl z, fun _ => c_isNew (f := f) (c := c) hwc (by rw [show (32768 : Nat) = 2 ^ 15 from rfl]; exact next_lt (k := 15) hs15 rfl (by omega)) q3.2.2.2.2.1 (fun hex => ⟨fun _ => skip (fun x hx => ?_) σ' q1 q2 q3 q4, fun z => absurd rfl z⟩) (fun hnew => ⟨fun z => absurd z (by decide), fun _ => tdR425 q3.1 ⟨prO hw hP, c_mayFollow hw hP q2.1 hF hln ?_⟩⟩)⟩⟩
      · obtain ⟨-, b2, -⟩ := stX_bit hF (by omega) hx.1
        rw [hbx] at b2
        rw [b2]
        exact hex
      · rw [b2i_n0, b2i_0, after_eq hF hln]
        have hbit : s.testBit l = false := by
          cases hb : s.testBit l with
          | false => rfl
          | true => exact absurd (q6.trans (or_self2 hb).symm) (hnew i q5.1.2.2)
        have hbt : bt (nI (s % 128)) l = false := by rw [b_nI _ (by omega), tmod, hbit, Bool.and_false]
        refine ⟨fun z3 => skip (fun x hx => ?_) σ' q1 q2 q3 q4, fun z3 => tdR425' q3.1 (c_lessonsIn ⟨prO hw hP, ?_⟩)⟩
        · have := hx.1
          unfold stX stL at this
          rw [if_pos hln, hbt, if_neg (by decide), z3, if_neg (by decide)] at this
          cases this
        · have hpr : prX π p u s l (s ||| 2 ^ l) := by
            refine ⟨?_, fun z => by omega⟩
            unfold stX stL
            rw [if_pos hln, hbt, if_neg (by decide), z3, if_pos rfl]
          have hpr' : prX π p u (f i) l (s ||| 2 ^ l) := by rw [q6]; exact hpr
          obtain ⟨⟨n1, n2, n3, -⟩, -⟩ := q5.new hF hp (by omega) hpr'
          refine c_readBy hw hP q2.1 q2.2.1 hF q2.2.2 n2 fun σ2 y1 y2 => ?_
          have ek : metS π (nI (s / 128)) ||| readS π (nI ((s ||| 2 ^ l) % 128)) = kn π (s ||| 2 ^ l) := by
            unfold kn
            rw [or_div (by omega)]
          rw [ek]
          have hf0 : ∀ o k, 425 ≤ o → scV P o k = false := fun o k h => by unfold scV; simp; omega
          refine arr _ σ2 f r c l _ (q1.tr (y1.mono scV_Co)) (q2.v hF y1 y2) (q3.fr hf0 y1) ((y1.1 425 7 (hf0 _ _ (by decide))).trans q4) q5 q6 (by omega) hpr hnew fun σ3 f2 r2 c2 g1 g2 g3 g4 g5 => ?_
          rcases g5 with ⟨g5, g6, g7⟩ | ⟨g, g5, g6⟩
          · exact ih (l + 1) f2 r2 c2 σ3 (by omega) g1 g2 g3 g5 g6 g7
          · exact f31 σ3 f2 r2 c2 g _ _ _ g1 g2 g3 g4 g5 g6
  refine SpV.of pnX0' (Nat.le_of_ble_eq_true rfl) (vX0_goOnFrom_0 hwc ?_)
  rw [cl (show i < 2 ^ 31 by omega), hCS.2.2.2.2.2.1 i ci, hsi]
  refine ⟨vp_in_nI (by omega) (by decide), c_metIn hwc hP hF hT.1 hCS.1 (tdR425' hCS.1 (c_lessonsIn ⟨prO hw hP, c_readBy hw hP hT.1 hT.2.1 hF hT.2.2 x2 fun σ2 y1 y2 => ?_⟩))⟩
  have hf0 : ∀ o k, 425 ≤ o → scV P o k = false := fun o k h => by unfold scV; simp; omega
  exact lpL (nL π) 0 f r c σ2 (Nat.zero_add _) (y1.mono scV_Co) (hT.v hF y1 y2) (hCS.fr hf0 y1) ((y1.1 425 7 (hf0 _ _ (by decide))).trans h7) hB hsi
end CGO
