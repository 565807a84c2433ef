/-! the class answers: what was told, signs and words -/
def CP (σ : St) (P : Nat) (π : PV) : Prop := gR σ 0 1 = some P ∧ isP P ∧ PrC σ P π ∧ FtC σ P π ∧ CaC σ P π
/-- cells that a question may change -/
def scAsk (P o _k : Nat) : Bool := o == P + 17 || o == P + 18 || o == P + 19 || (decide (315 ≤ o) && decide (o ≤ 319))
theorem scSp_Ask {P : Nat} : ∀ o k, scSp P o k = true → scAsk P o k = true := fun o k h => by
  unfold scSp at h
  unfold scAsk
  rw [h]
  rfl
theorem scV_Ask {P : Nat} : ∀ o k, scV P o k = true → scAsk P o k = true := fun o k h => by
  unfold scV at h
  unfold scAsk
  rw [h]
  rfl
theorem scCu_Ask {P : Nat} : ∀ o k, scCu o k = true → scAsk P o k = true := fun o k h => by
  unfold scCu at h
  unfold scAsk
  simp only [Bool.or_eq_true, beq_iff_eq, Bool.and_eq_true, decide_eq_true_eq] at h ⊢
  omega
theorem scSpl_Ask {P : Nat} : ∀ o k, scSpl o k = true → scAsk P o k = true := fun o k h => by
  unfold scSpl at h
  unfold scAsk
  simp only [Bool.or_eq_true, beq_iff_eq, Bool.and_eq_true, decide_eq_true_eq] at h ⊢
  omega
theorem scAsk_pr {P : Nat} (hP : isP P) : ∀ o k, inPr P o → scAsk P o k = false := by
  intro o k h
  have := P_lt hP
  unfold inPr at h
  unfold scAsk
  simp only [Bool.or_eq_false_iff, beq_eq_false_iff_ne, Bool.and_eq_false_iff, decide_eq_false_iff_not]
  omega
def AskC (P : Nat) (π : PV) (σ σ' : St) : Prop := Fr (scAsk P) σ σ' ∧ CP σ' P π
theorem CP.r0 {S : Nat → Nat → Bool} {P : Nat} {π : PV} {σ σ' : St} (h : CP σ P π) (hS : S 0 1 = false) (hf : Fr S σ σ') : gR σ' 0 1 = some P := (hf.2.2 0 1 hS).trans h.1
theorem CP.sp {P : Nat} {π : PV} {σ σ' : St} (h : CP σ P π) (hF : WF π) (hf : Fr (scSp P) σ σ') : AskC P π σ σ' := ⟨hf.mono scSp_Ask, h.r0 (by simp [scSp]) hf, h.2.1, h.2.2.1.fr hF scSp_pr hf, h.2.2.2.1.fr hF scSp_pr hf, h.2.2.2.2.sp hf⟩
theorem CP.v {P : Nat} {π : PV} {σ σ' : St} (h : CP σ P π) (hF : WF π) (hf : Fr (scV P) σ σ') (hA : CaC σ' P π) : AskC P π σ σ' := ⟨hf.mono scV_Ask, h.r0 (by simp [scV]) hf, h.2.1, h.2.2.1.fr hF scV_pr hf, h.2.2.2.1.fr hF scV_pr hf, hA⟩
theorem CP.o {S : Nat → Nat → Bool} {P : Nat} {π : PV} {σ σ' : St} (h : CP σ P π) (hF : WF π) (h1 : ∀ o k, S o k = true → scAsk P o k = true) (h2 : ∀ o k, inPr P o → S o k = false) (h3 : S 0 1 = false) (h4 : ∀ k, S (P + 19) k = false) (hf : Fr S σ σ') : AskC P π σ σ' := ⟨hf.mono h1, h.r0 h3 hf, h.2.1, h.2.2.1.fr hF h2 hf, h.2.2.2.1.fr hF h2 hf, fun a ha => by rw [hf.1 _ _ (h4 a)]; exact h.2.2.2.2 a ha⟩
theorem CP.cu {P : Nat} {π : PV} {σ σ' : St} (h : CP σ P π) (hF : WF π) (hf : Fr scCu σ σ') : AskC P π σ σ' := h.o hF scCu_Ask (scCu_pr h.2.1) (by decide) (fun k => by have := P_lt h.2.1; simp [scCu]; omega) hf
theorem CP.spl {P : Nat} {π : PV} {σ σ' : St} (h : CP σ P π) (hF : WF π) (hf : Fr scSpl σ σ') : AskC P π σ σ' := h.o hF scSpl_Ask (scSpl_pr h.2.1) (by decide) (fun k => by have := P_lt h.2.1; simp [scSpl]; omega) hf
theorem CP.rf {P : Nat} {π : PV} {σ : St} (h : CP σ P π) : AskC P π σ σ := ⟨Fr.rf σ, h⟩
theorem AskC.tr {P : Nat} {π : PV} {a b c : St} (h : AskC P π a b) (h2 : AskC P π b c) : AskC P π a c := ⟨h.1.tr h2.1, h2.2⟩
section CQ
variable {Γ : Gx} {d : Nat} {w : Wd} {π : PV} {P : Nat}
theorem tdR {s : St} (hR : gR s 0 1 = some P) {X : Nat → Prop} {Y : Prop} (h : X P) : (∀ r, gR s 0 1 = some r → X r) ∧ (gR s 0 1 = none → Y) := ⟨mR1 hR h, mR2 hR⟩
theorem wdR {s : St} {v : Nat} (hw : RunW w) (hP : isP P) (hR : gR s 0 1 = some P) (hv : v < 24) {X : Nat → Prop} {Y : Prop} (h : X (P + 60 + 4 * v)) : (∀ r, gR s 0 1 = some r → (okO w r 4) ∧ (∃ r4, w.2 r 2 = some r4 ∧ (r4 < w.1) ∧ (24 ≤ (kd r4).1) ∧ ((kd r4).1 ≤ 28) ∧ (vp_in (nI v) (kd r4).2) ∧ (∃ r5, w.2 r4 (nI v).toNatClampNeg = some r5 ∧ X r5))) ∧ (gR s 0 1 = none → Y) := by
  have hlt := P_lt hP
  exact tdR hR ⟨prO hw hP, P + 2, pr2 hw hP, lo_ hw (by omega), k24 (pO2 hP) (by decide), k28 (pO2 hP) (by decide), vk (pO2 hP) (by omega), P + 60 + 4 * v, by rw [← wdA_ (P := P) hv]; exact wdE hw hP (by omega), h⟩
theorem c_inC {Q : Int32 → St → Prop} {s : St} {x : Int32} {n : Nat} (hn : n < 2 ^ 31) (h : Q (b2i (inB x n)) s) : ((x < 0 → Q 0 s) ∧ (¬ x < 0 → ((nI n ≤ x → Q 0 s) ∧ (¬ nI n ≤ x → Q 1 s)))) := by
  have e : inB x n = (decide (0 ≤ x.toInt) && decide (x.toInt < n)) := rfl
  refine ⟨fun c => ?_, fun c => ⟨fun c2 => ?_, fun c2 => ?_⟩⟩
  · rw [Int32.lt_iff_toInt_lt] at c
    have c' : x.toInt < 0 := c
    have : ¬ 0 ≤ x.toInt := by omega
    rw [e] at h
    simp [this] at h
    exact h
  · rw [Int32.le_iff_toInt_le, nI_toInt hn] at c2
    have : ¬ x.toInt < n := by omega
    rw [e] at h
    simp [this] at h
    exact h
  · rw [Int32.lt_iff_toInt_lt] at c
    rw [Int32.le_iff_toInt_le, nI_toInt hn] at c2
    have c' : ¬ x.toInt < 0 := c
    have e1 : 0 ≤ x.toInt := by omega
    have e2 : x.toInt < n := by omega
    rw [e] at h
    simp [e1, e2] at h
    exact h
theorem c_isSignC {Q : Int32 → St → Prop} {σ : St} {x : Int32} (hw : RunW w) (hF : WF π) (hC : CP σ P π) (h : Q (b2i (inB x (nS π))) σ) : SpI Γ d mX11_isSign [.ref 0, .int x] σ w Q := by
  have := hF.1.1.2
  refine SpI.of pnX11 (Nat.le_of_ble_eq_true rfl) (vX11_isSign_0 hw hC.1 (prO hw hC.2.1) ?_)
  rw [(wP hC.2.2.1 hF).1]
  exact c_inC (by omega) h
theorem c_isWordC {Q : Int32 → St → Prop} {σ : St} {x : Int32} (hw : RunW w) (hF : WF π) (hC : CP σ P π) (h : Q (b2i (inB x (nW π))) σ) : SpI Γ d mX11_isWord [.ref 0, .int x] σ w Q := by
  have := hF.1.2.1.2
  refine SpI.of pnX11 (Nat.le_of_ble_eq_true rfl) (vX11_isWord_0 hw hC.1 (prO hw hC.2.1) ?_)
  rw [(wP hC.2.2.1 hF).2.1]
  exact c_inC (by omega) h
theorem c_isLessonC {Q : Int32 → St → Prop} {σ : St} {x : Int32} (hw : RunW w) (hF : WF π) (hC : CP σ P π) (h : Q (b2i (inB x (nL π))) σ) : SpI Γ d mX11_isLesson [.ref 0, .int x] σ w Q := by
  have := hF.1.2.2.1.2
  refine SpI.of pnX11 (Nat.le_of_ble_eq_true rfl) (vX11_isLesson_0 hw hC.1 (prO hw hC.2.1) ?_)
  rw [(wP hC.2.2.1 hF).2.2.1]
  exact c_inC (by omega) h
theorem c_isPageC {Q : Int32 → St → Prop} {σ : St} {x : Int32} (hw : RunW w) (hF : WF π) (hC : CP σ P π) (h : Q (b2i (inB x (nP π))) σ) : SpI Γ d mX11_isPage [.ref 0, .int x] σ w Q := by
  have := hF.1.2.2.2.2
  refine SpI.of pnX11 (Nat.le_of_ble_eq_true rfl) (vX11_isPage_0 hw hC.1 (prO hw hC.2.1) ?_)
  rw [(wP hC.2.2.1 hF).2.2.2]
  exact c_inC (by omega) h
theorem c_isPupilC {Q : Int32 → St → Prop} {σ : St} {x : Int32} (h : Q (b2i (inB x 3)) σ) : SpI Γ d mX11_isPupil [.int x] σ w Q := SpI.of pnX11 (Nat.le_of_ble_eq_true rfl) (vX11_isPupil_0 (c_inC (n := 3) (by decide) h))
theorem c_outC {Q : Int32 → St → Prop} {σ : St} {x : Int32} (h : Q (b2i (!inB x 17)) σ) : SpI Γ d mX11_isOutsideUnknown [.int x] σ w Q := by
  refine SpI.of pnX11 (Nat.le_of_ble_eq_true rfl) (vX11_isOutsideUnknown_0 ?_)
  have z := c_inC (Q := fun v s => Q (if v = 0 then 1 else 0) s) (s := σ) (x := x) (n := 17) (by decide) (by cases hb : inB x 17 <;> (rw [hb] at h; exact h))
  have e17 : ∀ y : Int32, nI 17 ≤ y ↔ ¬ y ≤ 16 := by
    intro y
    have a1 : (nI 17).toInt = 17 := by decide
    have a2 : (16 : Int32).toInt = 16 := by decide
    rw [Int32.le_iff_toInt_le, Int32.le_iff_toInt_le, a1, a2]
    omega
  rw [e17] at z
  exact ⟨z.1, fun c => ⟨fun c2 => (z.2 c).2 (fun q => q c2), fun c2 => (z.2 c).1 c2⟩⟩
theorem sets_in {x : Int32} {n : Nat} (hn : n ≤ 30) : (x.toUInt32 >>> ((nI n).toUInt32 &&& Int32.toUInt32 31)).toInt32 = 0 ↔ inB x (2 ^ n) = true := by
  obtain ⟨X, hX, rfl⟩ := int_nI x
  rw [pk_ushrN hX (nI n) n (s_u n (by omega))]
  have hd : X / 2 ^ n < 2 ^ 32 := Nat.lt_of_le_of_lt (Nat.div_le_self _ _) hX
  have e1 : nI (X / 2 ^ n) = 0 ↔ X / 2 ^ n = 0 := by
    constructor
    · intro h
      have := congrArg (fun y : Int32 => y.toBitVec.toNat) h
      simp only [pk_tn hd] at this
      exact this
    · intro h
      rw [h]
      rfl
  have hp : 2 ^ n ≤ 2 ^ 30 := Nat.pow_le_pow_right (by decide) hn
  rw [e1, Nat.div_eq_zero_iff]
  have hp0 : 2 ^ n ≠ 0 := Nat.pos_iff_ne_zero.mp (Nat.two_pow_pos n)
  rcases Nat.lt_or_ge X (2 ^ 31) with h | h
  · rw [inB_nI h, decide_eq_true_eq]
    omega
  · have : inB (nI X) (2 ^ n) = false := by
      unfold inB
      have e : (nI X).toInt < 0 := by
        have : (nI X).toInt = (X : Int) - 2 ^ 32 := by
          show (BitVec.ofNat 32 X).toInt = _
          rw [BitVec.toInt_ofNat']
          rw [Int.bmod_def]
          omega
        omega
      have : ¬ 0 ≤ (nI X).toInt := by omega
      simp [this]
    rw [this]
    constructor
    · intro q
      omega
    · intro q
      cases q
theorem c_areSignsC {Q : Int32 → St → Prop} {σ : St} {x : Int32} (hw : RunW w) (hF : WF π) (hC : CP σ P π) (h : Q (b2i (inB x (2 ^ nS π))) σ) : SpI Γ d mX11_areSigns [.ref 0, .int x] σ w Q := by
  have := hF.1.1.2
  refine SpI.of pnX11 (Nat.le_of_ble_eq_true rfl) (vX11_areSigns_0 hw hC.1 (prO hw hC.2.1) ?_)
  rw [(wP hC.2.2.1 hF).1, sets_in (by omega)]
  refine ⟨fun c => ?_, fun c => ?_⟩
  · rw [Bool.eq_false_iff.mpr c] at h; exact h
  · rw [c] at h; exact h
theorem c_areLessonsC {Q : Int32 → St → Prop} {σ : St} {x : Int32} (hw : RunW w) (hF : WF π) (hC : CP σ P π) (h : Q (b2i (inB x (2 ^ nL π))) σ) : SpI Γ d mX11_areLessons [.ref 0, .int x] σ w Q := by
  have := hF.1.2.2.1.2
  refine SpI.of pnX11 (Nat.le_of_ble_eq_true rfl) (vX11_areLessons_0 hw hC.1 (prO hw hC.2.1) ?_)
  rw [(wP hC.2.2.1 hF).2.2.1, sets_in (by omega)]
  refine ⟨fun c => ?_, fun c => ?_⟩
  · rw [Bool.eq_false_iff.mpr c] at h; exact h
  · rw [c] at h; exact h
/-- the j-th of a row, or NONE -/
theorem c_at {Q : Int32 → St → Prop} {s : St} {o n m : Nat} {x : Int32} (ho : okO w o 20) (hm : (kd o).2 = m) (hm2 : m < 2 ^ 31) (hn : n ≤ m) (h : Q (if inB x n then gI s o x.toNatClampNeg else -1) s) : SpI Γ d mX11_at [.ref o, .int (nI n), .int x] s w Q := by
  refine SpI.of pnX11 (Nat.le_of_ble_eq_true rfl) (vX11_at_0 ho ho.1 (by rw [ho.2]; decide) (by rw [ho.2]; decide) ?_)
  have z := c_inC (Q := fun v s => Q (if v = 0 then -1 else gI s o x.toNatClampNeg) s) (s := s) (x := x) (n := n) (by omega) (by cases hb : inB x n <;> (rw [hb] at h; exact h))
  rw [hm]
  refine ⟨z.1, fun c => ⟨(z.2 c).1, fun c2 => ⟨fun c3 => ?_, fun c3 => ⟨?_, (z.2 c).2 c2⟩⟩⟩⟩
  · obtain ⟨j, hj, rfl⟩ := nI_of c
    rw [nI_leI (by omega) (by omega)] at c2 c3
    omega
  · obtain ⟨j, hj, rfl⟩ := nI_of c
    rw [nI_leI (by omega) (by omega)] at c3
    exact vp_in_nI (by omega) hm2
theorem c_bit {Q : Int32 → St → Prop} {s : St} {b : Bool} (h : Q (b2i b) s) : SpI Γ d mX11_bit [.int (b2i b)] s w Q := by
  refine SpI.of pnX11 (Nat.le_of_ble_eq_true rfl) (vX11_bit_0 ?_)
  cases b
  · exact ⟨fun _ => h, fun c => absurd rfl c⟩
  · exact ⟨fun c => absurd c (by decide), fun _ => h⟩
theorem C_sign {Q : Int32 → St → Prop} {σ : St} {x y : Int32} (hw : RunW w) (hF : WF π) (hC : CP σ P π) (hQ : Q (A_sign π x y) σ) : SpI Γ (d + 1) mX11_sign [.ref 0, .int x, .int y] σ w Q := by
  have hlt := P_lt hC.2.1
  have h20 := hF.1.1.2
  refine SpI.of pnX11 (Nat.le_of_ble_eq_true rfl) (vX11_sign_0 hw (c_isSignC hw hF hC ?_))
  rw [b2i_n0, b2i_0]
  unfold A_sign at hQ
  refine ⟨fun q => ?_, fun q => by rw [q] at hQ; exact hQ⟩
  rw [q, if_pos rfl] at hQ
  obtain ⟨k, hk, rfl⟩ := inB_of q
  rw [cl (by omega)] at hQ
  obtain ⟨s1, s2, s3, -⟩ := hF.2.1 k hk
  obtain ⟨c1, c2, c3, c4⟩ := hC.2.2.1.2.1 k hk
  obtain ⟨o1, r1, o2, z1⟩ := sgF hw hC.2.1 (k := k) (by omega)
  have o2' : ∀ m, m < 7 → ¬ (3 ≤ m) → (m = 0 ∨ m = 1 ∨ m = 2) := fun m h1 h2 => by omega
  have bw : ∀ z : Int32, bwI z 3 6 = true → ∃ m, 3 ≤ m ∧ m ≤ 6 ∧ z = nI m := fun z h => bwI_of h
  have out : ∀ z : Int32, (z < 0 ∨ ¬ z ≤ 6) → (¬ z = 0 ∧ ¬ z = 1 ∧ ¬ z = 2 ∧ bwI z 3 6 = false) := by
    intro z h
    have i6 : (6 : Int32).toInt = 6 := by decide
    have i0 : (0 : Int32).toInt = 0 := by decide
    have i1 : (1 : Int32).toInt = 1 := by decide
    have i2 : (2 : Int32).toInt = 2 := by decide
    rw [Int32.lt_iff_toInt_lt, Int32.le_iff_toInt_le, i6, i0] at h
    refine ⟨fun e => by rw [e, i0] at h; omega, fun e => by rw [e, i1] at h; omega, fun e => by rw [e, i2] at h; omega, ?_⟩
    unfold bwI
    simp
    omega
  refine ⟨fun q => ?_, fun q => ⟨fun q2 => ?_, fun q2 => ?_⟩⟩
  · obtain ⟨a1, a2, a3, a4⟩ := out y (Or.inl q)
    rw [if_neg a1, if_neg a2, if_neg a3, a4] at hQ
    exact hQ
  · refine tdR hC.1 ⟨prO hw hC.2.1, P + 1, pr0 hw hC.2.1, lo_ hw (by omega), k24 (pO1 hC.2.1) (by decide), k28 (pO1 hC.2.1) (by decide), vk (pO1 hC.2.1) (by omega), P + 20 + 2 * k, by rw [← sgA_ (P := P) (show k < 20 by omega)]; exact sgE hw hC.2.1 (by omega), fun q3 => ⟨fun q4 => ⟨fun q5 => ⟨o1, P + 21 + 2 * k, r1, o1, ?_⟩, fun q5 => ⟨o1, ?_⟩⟩, fun q4 => ⟨o1, ?_⟩⟩, fun q3 => ⟨o1, ?_⟩⟩
    · rw [if_neg q3, if_neg q4, if_neg q5] at hQ
      have g1 : gI σ (P + 20 + 2 * k) 1 = nI (sS π k) := Eq.trans c1 s1
      obtain ⟨m, hm, rfl⟩ := nI_of q
      have m6 : m ≤ 6 := (nI_leI (b := 6) (by omega) (by decide)).mp q2
      have m0 : ¬ m = 0 := fun e => q3 (by rw [e]; rfl)
      have m1 : ¬ m = 1 := fun e => q4 (by rw [e]; rfl)
      have m2 : ¬ m = 2 := fun e => q5 (by rw [e]; rfl)
      have bw : bwI (nI m) 3 6 = true := by
        unfold bwI
        rw [nI_toInt (by omega)]
        simp
        omega
      rw [bw, if_pos rfl, cl (by omega)] at hQ
      rw [g1, show nI m - (3 : Int32) = nI (m - 3) from pk_sub (b := 3) (by omega)]
      refine c_at o2 z1 (by decide) (by omega) ?_
      rw [inB_nI (by omega), cl (by omega)]
      by_cases e : m - 3 < sS π k
      · rw [if_pos e] at hQ
        rw [decide_eq_true e, if_pos rfl]
        have : gI σ (P + 21 + 2 * k) (m - 3) = π 2 k (m - 3) := c4 _ e
        rw [this]
        exact hQ
      · rw [if_neg e] at hQ
        rw [decide_eq_false e, if_neg (by decide)]
        exact hQ
    · rw [if_neg q3, if_neg q4, if_pos q5] at hQ
      have : gI σ (P + 20 + 2 * k) 3 = π 4 k 0 := c3
      rw [this]
      exact hQ
    · rw [if_neg q3, if_pos q4] at hQ
      have : gI σ (P + 20 + 2 * k) 2 = π 3 k 0 := c2
      rw [this]
      exact hQ
    · rw [if_pos q3] at hQ
      have : gI σ (P + 20 + 2 * k) 1 = π 1 k 0 := c1
      rw [this]
      exact hQ
  · obtain ⟨a1, a2, a3, a4⟩ := out y (Or.inr q2)
    rw [if_neg a1, if_neg a2, if_neg a3, a4] at hQ
    exact hQ
end CQ
