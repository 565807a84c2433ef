/-! the class answers: lessons -/
theorem cnt7 : ∀ n, n < 128 → cntB (nI n) 24 ≤ 7 ∧ cntB (nI n) 32 = cntB (nI n) 24 := by decide +kernel
def fewC (π : PV) (r : Option Nat) : Nat := match r with
  | none => 8
  | some b => cntB (nI b) 24
theorem and_lt {a n : Nat} (h : a < 2 ^ n) (y : Int32) : ∃ m, m < 2 ^ n ∧ nI a &&& y = nI m := by
  obtain ⟨Y, -, rfl⟩ := int_nI y
  exact ⟨a &&& Y, Nat.lt_of_le_of_lt Nat.and_le_left h, and_nI a Y⟩
section CL
variable {Γ : Gx} {d : Nat} {w : Wd} {π : PV} {P : Nat}
theorem lp_taken {Q : Int32 → St → Prop} {s : St} {v : Nat} {out : List Int32} (hw : RunW w) (hP : isP P) (hC : PrC s P π) (hF : WF π) (h1 : gI s (P + 17) 1 = nI out.length) (h2 : ∀ j, j < out.length → gI s (P + 18) j = out.getD j 0) (hl : out.length ≤ 8) (hnv : ¬ out = sndL π v) (hQ : Q (mixF π v out (nW π)) s) :
    ∀ n u, u + n = nW π → AI Γ (d + 1) mX4_takenFor w Q 37 [(0, .ref P), (3, .int (mixF π v out u)), (4, .int (nI u))] s := by
  have hlt := P_lt hP
  have h24 := hF.1.2.1.2
  have o17 : okO w (P + 17) 8 := okL hw (by omega) (pO17 hP)
  intro n
  induction n with
  | zero =>
    intro u hu
    have : u = nW π := hu
    subst this
    have ho := wdO hw hP (k := nW π)
    refine vX4_takenFor_37 (r_e_r_o0_2_x4_2 := (w.2 (wdA P (nW π)) 2).getD 0) (prO hw hP) (pr2 hw hP) (wdE hw hP (by omega)) ho ?_ (pr12 hw hP) o17 (pr17 hw hP) (lo_ hw (by omega)) (k24 (pO2 hP) (by decide)) (k28 (pO2 hP) (by decide)) ?_
    · rw [hw.2]
      rfl
    · rw [(wP hC hF).2.1]
      exact ⟨fun _ => hQ, fun c => absurd (nI_le (Nat.le_refl _) (by omega)) c⟩
  | succ n ih =>
    intro u hu
    have nx := ih (u + 1) (by omega)
    obtain ⟨w1, w2, w3, w4, w5, w6, -⟩ := hF.2.2.1 u (by omega)
    obtain ⟨e1, e2, e3, e4⟩ := hC.2.2.1 u (by omega)
    obtain ⟨o3, ⟨r1, r2, r3⟩, -, ⟨o5, z5⟩, -⟩ := wdF hw hP (k := u) (by omega)
    have g3 : gI s (P + 60 + 4 * u) 3 = nI (wN π u) := Eq.trans e2 w4
    have hE : w.2 (P + 2) (nI u).toNatClampNeg = some (P + 60 + 4 * u) := by rw [← wdA_ (P := P) (show u < 24 by omega)]; exact wdE hw hP (by omega)
    have st : mixF π v out (u + 1) = if !decide (u = v) && decide (out = sndL π u) then mixF π v out u ||| (1 <<< (nI u &&& 31)) else mixF π v out u := rfl
    have st' : mixF π v out (u + 1) = if decide (out = sndL π u) then mixF π v out u ||| (1 <<< (nI u &&& 31)) else mixF π v out u := by
      rw [st]
      by_cases e : u = v
      · subst e
        rw [decide_eq_false hnv]
        simp
      · simp [e]
    refine vX4_takenFor_37 (prO hw hP) (pr2 hw hP) hE o3 r2 (pr12 hw hP) o17 (pr17 hw hP) (lo_ hw (by omega)) (k24 (pO2 hP) (by decide)) (k28 (pO2 hP) (by decide)) ?_
    rw [(wP hC hF).2.1, g3, h1, nI_1]
    refine ⟨fun c => absurd c (nI_ge (by omega) (by omega)), fun _ => ⟨vk (pO2 hP) (by omega), vk (pO2 hP) (by omega), ?_⟩⟩
    refine c_alike (a := fun j => π 8 u j) (b := fun j => out.getD j 0) o5 (ok_ hw (by omega) (pO18 hP)) z5 (by rw [pO18 hP]) (by decide) (by decide) w6 hl (fun j hj => e4 j hj) h2 ?_
    rw [snd_alike, b2i_n0, b2i_0]
    rw [st'] at nx
    refine ⟨fun c => ?_, fun c => ?_⟩
    · rw [c] at nx; exact nx
    · rw [c] at nx; exact nx
theorem c_taken {Q : Int32 → St → Prop} {σ : St} {v : Nat} {set : Int32} (hw : RunW w) (hP : isP P) (hC : PrC σ P π) (hT : FtC σ P π) (hF : WF π) (hv : v < nW π) (hQ : ∀ σ', Fr (scSp P) σ σ' → Q (mixS π v set) σ') : SpI Γ (d + 2) mX4_takenFor [.ref P, .ref (P + 60 + 4 * v), .int set] σ w Q := by
  have hlt := P_lt hP
  have o17 : okO w (P + 17) 8 := okL hw (by omega) (pO17 hP)
  refine SpI.of pnX4 (Nat.le_of_ble_eq_true rfl) (vX4_takenFor_0 (prO hw hP) (pr12 hw hP) o17 (c_say hw hP hC hT hF hv fun s z => ?_))
  have fin := hQ s z.1
  unfold mixS at fin
  rw [z.2.2.2.2.2.1, z.2.2.2.2.1, b2i_n0, b2i_0, b2i_n0, b2i_0]
  refine ⟨fun c => ?_, fun c => ⟨fun c2 => ?_, fun c2 => ?_⟩⟩
  · rw [c] at fin; exact fin
  · rw [c, c2] at fin
    refine lp_taken hw hP (hC.fr hF scSp_pr z.1) hF z.2.1 z.2.2.1 z.2.2.2.2.2.2 ?_ fin (nW π) 0 (Nat.zero_add _)
    intro e
    unfold rightS at c
    rw [c2, decide_eq_true e] at c
    cases c
  · rw [c, c2] at fin; exact fin
theorem C_taught {Q : Int32 → St → Prop} {σ : St} {x : Int32} (hw : RunW w) (hF : WF π) (hC : CP σ P π) (hQ : Q (A_taught π x) σ) : SpI Γ (d + 2) mX11_taught [.ref 0, .int x] σ w Q := by
  have hP := hC.2.1
  refine SpI.of pnX11 (Nat.le_of_ble_eq_true rfl) (vX11_taught_0 hw (c_areLessonsC hw hF hC ?_))
  rw [b2i_n0, b2i_0]
  unfold A_taught at hQ
  refine ⟨fun q => ?_, fun q => by rw [q] at hQ; exact hQ⟩
  rw [q, if_pos rfl] at hQ
  refine tdR hC.1 ⟨prO hw hP, c_closedC hw hP hC.2.2.1 hF ?_⟩
  rw [b2i_n0, b2i_0]
  refine ⟨fun q2 => by rw [q2] at hQ; exact hQ, fun q2 => tdR hC.1 ⟨prO hw hP, c_signsOf hw hP hC.2.2.1 hF ?_⟩⟩
  rw [q2] at hQ; exact hQ
theorem C_reads {Q : Int32 → St → Prop} {σ : St} {x : Int32} (hw : RunW w) (hF : WF π) (hC : CP σ P π) (hQ : ∀ σ', AskC P π σ σ' → Q (A_reads π x) σ') : SpI Γ (d + 4) mX11_reads [.ref 0, .int x] σ w Q := by
  have hP := hC.2.1
  refine SpI.of pnX11 (Nat.le_of_ble_eq_true rfl) (vX11_reads_0 hw (c_areLessonsC hw hF hC ?_))
  rw [b2i_n0, b2i_0]
  unfold A_reads at hQ
  refine ⟨fun q => ?_, fun q => by rw [q] at hQ; exact hQ σ hC.rf⟩
  rw [q, if_pos rfl] at hQ
  refine tdR hC.1 ⟨prO hw hP, c_closedC hw hP hC.2.2.1 hF ?_⟩
  rw [b2i_n0, b2i_0]
  obtain ⟨a, ha, rfl⟩ := inB_of q
  refine ⟨fun q2 => by rw [q2] at hQ; exact hQ σ hC.rf, fun q2 => tdR hC.1 ⟨prO hw hP, c_readBy hw hP hC.2.2.1 hC.2.2.2.1 hF hC.2.2.2.2 ha fun s z1 z2 => ?_⟩⟩
  rw [q2] at hQ; exact hQ s (hC.v hF z1 z2)
theorem C_mixed {Q : Int32 → St → Prop} {σ : St} {x y : Int32} (hw : RunW w) (hF : WF π) (hC : CP σ P π) (hQ : ∀ σ', AskC P π σ σ' → Q (A_mixed π x y) σ') : SpI Γ (d + 3) mX11_mixed [.ref 0, .int x, .int y] σ w Q := by
  have h24 := hF.1.2.1.2
  have hP := hC.2.1
  refine SpI.of pnX11 (Nat.le_of_ble_eq_true rfl) (vX11_mixed_0 hw (c_isWordC hw hF hC ?_))
  rw [b2i_n0, b2i_0]
  unfold A_mixed at hQ
  refine ⟨fun q => by rw [q] at hQ; exact hQ σ hC.rf, fun q => c_areLessonsC hw hF hC ?_⟩
  rw [b2i_n0, b2i_0]
  rw [q, Bool.true_and] at hQ
  refine ⟨fun q2 => ?_, fun q2 => by rw [q2] at hQ; exact hQ σ hC.rf⟩
  rw [q2, if_pos rfl] at hQ
  refine tdR hC.1 ⟨prO hw hP, c_closedC hw hP hC.2.2.1 hF ?_⟩
  rw [b2i_n0, b2i_0]
  obtain ⟨v, hv, rfl⟩ := inB_of q
  rw [cl (by omega)] at hQ
  refine ⟨fun q3 => by rw [q3] at hQ; exact hQ σ hC.rf, fun q3 => tdR hC.1 (wdR hw hP hC.1 (by omega) (tdR hC.1 ⟨prO hw hP, c_signsOf hw hP hC.2.2.1 hF ⟨prO hw hP, c_taken hw hP hC.2.2.1 hC.2.2.2.1 hF hv fun s z => ?_⟩⟩))⟩
  rw [q3] at hQ
  exact hQ s (hC.sp hF z)
theorem C_unknown {Q : Int32 → St → Prop} {σ : St} {x y : Int32} (hw : RunW w) (hF : WF π) (hC : CP σ P π) (hQ : ∀ σ', AskC P π σ σ' → Q (A_unknown π x y) σ') : SpI Γ (d + 4) mX11_unknown [.ref 0, .int x, .int y] σ w Q := by
  have h8 := hF.1.2.2.2.2
  have hP := hC.2.1
  refine SpI.of pnX11 (Nat.le_of_ble_eq_true rfl) (vX11_unknown_0 hw (c_isPageC hw hF hC ?_))
  rw [b2i_n0, b2i_0]
  unfold A_unknown at hQ
  refine ⟨fun q => by rw [q] at hQ; exact hQ σ hC.rf, fun q => c_areLessonsC hw hF hC ?_⟩
  rw [b2i_n0, b2i_0]
  rw [q, Bool.true_and] at hQ
  refine ⟨fun q2 => ?_, fun q2 => by rw [q2] at hQ; exact hQ σ hC.rf⟩
  rw [q2, if_pos rfl] at hQ
  refine tdR hC.1 ⟨prO hw hP, c_closedC hw hP hC.2.2.1 hF ?_⟩
  rw [b2i_n0, b2i_0]
  obtain ⟨p, hp, rfl⟩ := inB_of q
  rw [cl (by omega)] at hQ
  obtain ⟨a, ha, rfl⟩ := inB_of q2
  refine ⟨fun q3 => by rw [q3] at hQ; exact hQ σ hC.rf, fun q3 => tdR hC.1 (tdR hC.1 ⟨prO hw hP, c_readBy hw hP hC.2.2.1 hC.2.2.2.1 hF hC.2.2.2.2 ha fun s z1 z2 => ⟨prO hw hP, ?_⟩⟩)⟩
  rw [q3] at hQ
  have h1 := hC.v hF z1 z2
  exact c_unknownOn hw hP h1.2.2.2.1 hF hp (hQ s h1)
theorem lp_fewC {Q : Int32 → St → Prop} {σ0 : St} {p few : Nat} (hw : RunW w) (hF : WF π) (hp : p < nP π) (hf : few < 17) (hQ : ∀ s, AskC P π σ0 s → Q (bI (fewF π p few (2 ^ nL π))) s) :
    ∀ r n s, n + r = 2 ^ nL π → AskC P π σ0 s → AI Γ (d + 4) mX11_fewest w Q 32 [(0, .ref 0), (1, .int (nI p)), (2, .int (nI few)), (3, .int (bI (fewF π p few n))), (4, .int (nI (fewC π (fewF π p few n)))), (5, .int (nI n))] s := by
  have h7 := hF.1.2.2.1.2
  have hpw : 2 ^ nL π ≤ 2 ^ 7 := Nat.pow_le_pow_right (by decide) h7
  have hpos := Nat.two_pow_pos (nL π)
  have flt : ∀ {n b : Nat}, fewF π p few n = some b → b < n := by
    intro n
    induction n with
    | zero => intro b h; cases h
    | succ n ih =>
      intro b h
      unfold fewF at h
      split at h
      · split at h
        · cases h; exact Nat.lt_succ_self _
        · cases h
      · rename_i b' hb'
        have := ih hb'
        split at h
        · cases h; exact Nat.lt_succ_self _
        · cases h; omega
  intro r
  induction r with
  | zero =>
    intro n s hn hA
    have : n = 2 ^ nL π := hn
    subst this
    refine vX11_fewest_32 hw hA.2.1 (prO hw hA.2.2.1) (SpI.of pnX4 (Nat.le_of_ble_eq_true rfl) (vX4_allLessons_0 (prO hw hA.2.2.1) ?_))
    rw [(wP hA.2.2.2.1 hF).2.2.1, full_nI _ (by omega), nI_ltI (by omega) (by omega)]
    exact ⟨fun _ => hQ s hA, fun c => absurd (by omega) c⟩
  | succ r ih =>
    intro n s hn hA
    have hP := hA.2.2.1
    obtain ⟨c7, c32⟩ := cnt7 n (by omega)
    have bl : fewC π (fewF π p few n) ≤ 8 := by
      cases hb : fewF π p few n with
      | none => exact Nat.le_refl _
      | some b => exact Nat.le_trans (cnt7 b (by have := flt hb; omega)).1 (by decide)
    have st : fewF π p few (n + 1) = (match fewF π p few n with
      | none => if doesS π p few n then some n else none
      | some b => if decide (cntB (nI n) 24 < cntB (nI b) 24) && doesS π p few n then some n else some b) := rfl
    have st' : fewF π p few (n + 1) = if decide (cntB (nI n) 24 < fewC π (fewF π p few n)) && doesS π p few n then some n else fewF π p few n := by
      rw [st]
      cases hb : fewF π p few n with
      | none =>
        show (if doesS π p few n then some n else none) = if decide (cntB (nI n) 24 < 8) && doesS π p few n then some n else none
        have : cntB (nI n) 24 < 8 := by omega
        simp [this]
      | some b => rfl
    have skip : ∀ s', AskC P π σ0 s' → (decide (cntB (nI n) 24 < fewC π (fewF π p few n)) && doesS π p few n) = false → AI Γ (d + 4) mX11_fewest w Q 32 [(0, .ref 0), (1, .int (nI p)), (2, .int (nI few)), (3, .int (bI (fewF π p few n))), (4, .int (nI (fewC π (fewF π p few n)))), (5, .int (nI (n + 1)))] s' := by
      intro s' hA' h
      have nx := ih (n + 1) s' (by omega) hA'
      rw [st', h] at nx
      exact nx
    refine vX11_fewest_32 hw hA.2.1 (prO hw hP) (SpI.of pnX4 (Nat.le_of_ble_eq_true rfl) (vX4_allLessons_0 (prO hw hP) ?_))
    rw [(wP hA.2.2.2.1 hF).2.2.1, full_nI _ (by omega), nI_ltI (by omega) (by omega)]
    refine ⟨fun c => absurd c (by omega), fun _ => c_bitCount ?_⟩
    rw [c32, nI_leI (by omega) (by omega), nI_1]
    refine ⟨fun c => skip s hA (by rw [decide_eq_false (by omega)]; rfl), fun c => tdR hA.2.1 ⟨prO hw hP, c_closedC hw hP hA.2.2.2.1 hF ?_⟩⟩
    have dc : doesS π p few n = (closedS π (nI n) && decide (unkS π p (readS π (nI n)) ≤ few)) := rfl
    rw [b2i_n0, b2i_0]
    refine ⟨fun c2 => skip s hA (by rw [dc, c2]; simp), fun c2 => tdR hA.2.1 (tdR hA.2.1 ⟨prO hw hP, c_readBy hw hP hA.2.2.2.1 hA.2.2.2.2.1 hF hA.2.2.2.2.2 (by omega) fun s1 z1 z2 => ⟨prO hw hP, ?_⟩⟩)⟩
    have hA1 := hA.tr (hA.2.v hF z1 z2)
    refine c_unknownOn hw hP hA1.2.2.2.1 hF hp ?_
    have ule : unkS π p (readS π (nI n)) ≤ 24 := cntB_le _ 24
    rw [nI_ltI (by omega) (by omega)]
    refine ⟨fun c3 => skip s1 hA1 (by rw [dc, c2, decide_eq_false (show ¬ unkS π p (readS π (nI n)) ≤ few by omega)]; simp), fun c3 => ?_⟩
    have nx := ih (n + 1) s1 (by omega) hA1
    rw [st', dc, c2, decide_eq_true (show cntB (nI n) 24 < fewC π (fewF π p few n) by omega), decide_eq_true (show unkS π p (readS π (nI n)) ≤ few by omega)] at nx
    exact nx
theorem C_fewest {Q : Int32 → St → Prop} {σ : St} {x y : Int32} (hw : RunW w) (hF : WF π) (hC : CP σ P π) (hQ : ∀ σ', AskC P π σ σ' → Q (A_fewest π x y) σ') : SpI Γ (d + 4) mX11_fewest [.ref 0, .int x, .int y] σ w Q := by
  have h8 := hF.1.2.2.2.2
  refine SpI.of pnX11 (Nat.le_of_ble_eq_true rfl) (vX11_fewest_0 hw (c_isPageC hw hF hC ?_))
  rw [b2i_n0, b2i_0]
  unfold A_fewest at hQ
  refine ⟨fun q => c_outC ?_, fun q => by rw [q] at hQ; exact hQ σ hC.rf⟩
  rw [q, if_pos rfl] at hQ
  rw [b2i_n0, b2i_0]
  refine ⟨fun q2 => ?_, fun q2 => ?_⟩
  · have q2' : inB y 17 = true := by simpa using q2
    rw [q2', if_pos rfl] at hQ
    obtain ⟨p, hp, rfl⟩ := inB_of q
    obtain ⟨few, hfew, rfl⟩ := inB_of q2'
    rw [cl (by omega), cl (by omega)] at hQ
    exact lp_fewC hw hF hp hfew hQ (2 ^ nL π) 0 σ (Nat.zero_add _) hC.rf
  · have q2' : inB y 17 = false := by simpa using q2
    rw [q2'] at hQ
    exact hQ σ hC.rf
theorem lp_behC {Q : Int32 → St → Prop} {s : St} {l : Nat} (hw : RunW w) (hP : isP P) (hC : PrC s P π) (hF : WF π) (hQ : Q (behS π l) s) :
    ∀ r n, n + r = nL π → l + 1 ≤ n → AI Γ d mX4_withAllBehind w Q 8 [(0, .ref P), (2, .int (behF π l n)), (3, .int (nI n))] s := by
  have hlt := P_lt hP
  have h7 := hF.1.2.2.1.2
  intro r
  induction r with
  | zero =>
    intro n hn hl
    have : n = nL π := hn
    subst this
    refine vX4_withAllBehind_8 (prO hw hP) (pr4 hw hP) (ok_ hw (by omega) (pO3 hP)) ?_
    rw [(wP hC hF).2.2.1]
    exact ⟨fun _ => hQ, fun c => absurd (nI_le (Nat.le_refl _) (by omega)) c⟩
  | succ r ih =>
    intro n hn hl
    have nx := ih (n + 1) (by omega) (by omega)
    have st : behF π l (n + 1) = if decide (l < n) && !(π 9 n 0 &&& behF π l n == 0) then behF π l n ||| (1 <<< (nI n &&& 31)) else behF π l n := rfl
    have e : gI s (P + 3) n = π 9 n 0 := hC.2.2.2.1 n (by omega) 0 (by decide)
    have hln : decide (l < n) = true := decide_eq_true (by omega)
    refine vX4_withAllBehind_8 (prO hw hP) (pr4 hw hP) (ok_ hw (by omega) (pO3 hP)) ?_
    rw [(wP hC hF).2.2.1, cl (by omega), e, nI_1]
    rw [st, hln, Bool.true_and] at nx
    refine ⟨fun c => absurd c (nI_ge (by omega) (by omega)), fun _ => ⟨vk (pO3 hP) (by omega), fun c => ?_, fun c => ?_⟩⟩
    · rw [beq_iff_eq.mpr c] at nx; exact nx
    · rw [beq_eq_false_iff_ne.mpr c] at nx; exact nx
theorem c_behC {Q : Int32 → St → Prop} {s : St} {l : Nat} (hw : RunW w) (hP : isP P) (hC : PrC s P π) (hF : WF π) (hl : l < nL π) (hQ : Q (behS π l) s) : SpI Γ d mX4_withAllBehind [.ref P, .int (nI l)] s w Q := by
  have nx := lp_behC (Γ := Γ) (d := d) hw hP hC hF hQ (nL π - (l + 1)) (l + 1) (by omega) (Nat.le_refl _)
  rw [behF_lo (l + 1) (Nat.le_refl _)] at nx
  refine SpI.of pnX4 (Nat.le_of_ble_eq_true rfl) (vX4_withAllBehind_0 ?_)
  rw [nI_1]
  exact nx
theorem lp_hangsC {Q : Int32 → St → Prop} {σ0 : St} {v : Nat} (hw : RunW w) (hF : WF π) (hv : v < nW π) (hQ : ∀ s, AskC P π σ0 s → Q (hngF π v (nL π)) s) :
    ∀ r l s, l + r = nL π → AskC P π σ0 s → AI Γ (d + 4) mX11_hangs w Q 42 [(0, .ref 0), (1, .int (nI v)), (2, .int (fullL π)), (3, .int (hngF π v l)), (4, .int (nI l))] s := by
  have h7 := hF.1.2.2.1.2
  have h24 := hF.1.2.1.2
  intro r
  induction r with
  | zero =>
    intro l s hl hA
    have : l = nL π := hl
    subst this
    refine vX11_hangs_42 hw hA.2.1 (prO hw hA.2.2.1) ?_
    rw [(wP hA.2.2.2.1 hF).2.2.1]
    exact ⟨fun _ => hQ s hA, fun c => absurd (nI_le (Nat.le_refl _) (by omega)) c⟩
  | succ r ih =>
    intro l s hl hA
    have hP := hA.2.2.1
    refine vX11_hangs_42 hw hA.2.1 (prO hw hP) ?_
    rw [(wP hA.2.2.2.1 hF).2.2.1, nI_1]
    refine ⟨fun c => absurd c (nI_ge (by omega) (by omega)), fun _ => c_behC hw hP hA.2.2.2.1 hF (by omega) ?_⟩
    have fe : fullL π = nI (2 ^ nL π - 1) := full_nI (nL π) (by omega)
    obtain ⟨m, hm, em⟩ := and_lt (a := 2 ^ nL π - 1) (n := nL π) (by have := Nat.two_pow_pos (nL π); omega) (behS π l ^^^ (-1))
    rw [← fe] at em
    rw [em]
    refine c_readBy hw hP hA.2.2.2.1 hA.2.2.2.2.1 hF hA.2.2.2.2.2 hm fun s1 z1 z2 => ?_
    have hA1 := hA.tr (hA.2.v hF z1 z2)
    have nx := ih (l + 1) s1 (by omega) hA1
    have st : hngF π v (l + 1) = if bt (readS π (fullL π &&& (behS π l ^^^ (-1)))) v then hngF π v l else hngF π v l ||| (1 <<< (nI l &&& 31)) := rfl
    rw [st, em] at nx
    rw [bit_v _ (by omega), b2i_n0, b2i_0]
    refine ⟨fun c => ?_, fun c => ?_⟩
    · rw [c] at nx; exact nx
    · rw [c] at nx; exact nx
theorem C_hangs {Q : Int32 → St → Prop} {σ : St} {x : Int32} (hw : RunW w) (hF : WF π) (hC : CP σ P π) (hQ : ∀ σ', AskC P π σ σ' → Q (A_hangs π x) σ') : SpI Γ (d + 4) mX11_hangs [.ref 0, .int x] σ w Q := by
  have h7 := hF.1.2.2.1.2
  have h24 := hF.1.2.1.2
  have hP := hC.2.1
  refine SpI.of pnX11 (Nat.le_of_ble_eq_true rfl) (vX11_hangs_0 hw (c_isWordC hw hF hC ?_))
  rw [b2i_n0, b2i_0]
  unfold A_hangs at hQ
  refine ⟨fun q => ?_, fun q => by rw [q] at hQ; exact hQ σ hC.rf⟩
  rw [q, if_pos rfl] at hQ
  obtain ⟨v, hv, rfl⟩ := inB_of q
  rw [cl (by omega)] at hQ
  refine tdR hC.1 ⟨prO hw hP, SpI.of pnX4 (Nat.le_of_ble_eq_true rfl) (vX4_allLessons_0 (prO hw hP) ?_)⟩
  rw [(wP hC.2.2.1 hF).2.2.1]
  have fe : ((1 : Int32) <<< (nI (nL π) &&& 31)) - 1 = nI (2 ^ nL π - 1) := full_nI (nL π) (by omega)
  have fe2 : fullL π = nI (2 ^ nL π - 1) := fe
  rw [fe]
  refine tdR hC.1 ⟨prO hw hP, c_readBy hw hP hC.2.2.1 hC.2.2.2.1 hF hC.2.2.2.2 (by have := Nat.two_pow_pos (nL π); omega) fun s z1 z2 => ?_⟩
  have hA := hC.v hF z1 z2
  rw [fe2] at hQ
  rw [bit_v _ (by omega), b2i_n0, b2i_0]
  refine ⟨fun c => ?_, fun c => by rw [c] at hQ; exact hQ s hA⟩
  rw [c, if_pos rfl] at hQ
  have := lp_hangsC (Γ := Γ) (d := d) (σ0 := σ) hw hF hv hQ (nL π) 0 s (Nat.zero_add _) hA
  rw [fe2] at this
  exact this
end CL
