/-! the class: a course's states -/
def b64 (x : Int64) (i : Nat) : Bool := x.toBitVec.getLsbD i
theorem b64_or (x y : Int64) (i : Nat) : b64 (x ||| y) i = (b64 x i || b64 y i) := by unfold b64; rw [Int64.toBitVec_or, BitVec.getLsbD_or]
theorem b64_and (x y : Int64) (i : Nat) : b64 (x &&& y) i = (b64 x i && b64 y i) := by unfold b64; rw [Int64.toBitVec_and, BitVec.getLsbD_and]
theorem b64_0 (i : Nat) : b64 0 i = false := BitVec.getLsbD_zero
theorem b64_ext {x y : Int64} (h : ∀ i, i < 64 → b64 x i = b64 y i) : x = y := Int64.toBitVec_inj.mp (BitVec.eq_of_getLsbD_eq (fun i hi => h i hi))
theorem b64_1 : ∀ i, i < 64 → b64 1 i = decide (i = 0) := by decide +kernel
theorem s64_u : ∀ n, n < 64 → (((nI n).toInt64.toUInt64 &&& Int64.toUInt64 63).toBitVec % 64).toNat = n := by decide +kernel
theorem s64_l : ∀ n, n < 64 → (((nI n).toInt64 &&& (63 : Int64)).toBitVec.smod 64).toNat = n := by decide +kernel
theorem b64_ushr (n : Nat) (hn : n < 64) (x : Int64) (i : Nat) : b64 ((x.toUInt64 >>> ((nI n).toInt64.toUInt64 &&& Int64.toUInt64 63)).toInt64) i = b64 x (n + i) := by
  show (x.toUInt64 >>> ((nI n).toInt64.toUInt64 &&& Int64.toUInt64 63)).toBitVec.getLsbD i = x.toUInt64.toBitVec.getLsbD (n + i)
  rw [UInt64.toBitVec_shiftRight]
  show (x.toUInt64.toBitVec >>> (((nI n).toInt64.toUInt64 &&& Int64.toUInt64 63).toBitVec % 64).toNat).getLsbD i = _
  rw [s64_u n hn, BitVec.getLsbD_ushiftRight]
theorem b64_shl1 (n : Nat) (hn : n < 64) {i : Nat} (hi : i < 64) : b64 ((1 : Int64) <<< ((nI n).toInt64 &&& (63 : Int64))) i = decide (i = n) := by
  unfold b64
  rw [Int64.toBitVec_shiftLeft]
  show ((1 : Int64).toBitVec <<< (((nI n).toInt64 &&& (63 : Int64)).toBitVec.smod 64).toNat).getLsbD i = _
  rw [s64_l n hn, BitVec.getLsbD_shiftLeft]
  rcases Nat.lt_or_ge i n with h | h
  · simp [h, Nat.ne_of_lt h]
  · have e : (1 : Int64).toBitVec.getLsbD (i - n) = decide (i - n = 0) := b64_1 (i - n) (by omega)
    rw [e]
    by_cases q : i = n
    · subst q; simp [hi]
    · rw [decide_eq_false (show ¬ i - n = 0 by omega), decide_eq_false q]; simp
theorem bit64_0 (x : Int64) {n : Nat} (hn : n < 64) : (x.toUInt64 >>> ((nI n).toInt64.toUInt64 &&& Int64.toUInt64 63)).toInt64 &&& (1 : Int64) = 0 ↔ b64 x n = false := by
  constructor
  · intro h
    have : b64 ((x.toUInt64 >>> ((nI n).toInt64.toUInt64 &&& Int64.toUInt64 63)).toInt64 &&& (1 : Int64)) 0 = false := by rw [h]; exact b64_0 0
    rw [b64_and, b64_ushr n hn, b64_1 0 (by decide), decide_eq_true rfl, Bool.and_true, Nat.add_zero] at this
    exact this
  · intro h
    refine b64_ext (fun i hi => ?_)
    rw [b64_and, b64_ushr n hn, b64_1 i hi, b64_0]
    by_cases e : i = 0
    · subst e; rw [Nat.add_zero, h]; rfl
    · rw [decide_eq_false e, Bool.and_false]
theorem and63 (s : Nat) : nI s &&& (63 : Int32) = nI (s % 64) := by
  rw [show (63 : Int32) = nI 63 from rfl, and_nI]
  congr 1
  exact Nat.and_two_pow_sub_one_eq_mod s 6
theorem and127 (s : Nat) : nI s &&& (127 : Int32) = nI (s % 128) := by
  rw [show (127 : Int32) = nI 127 from rfl, and_nI]
  congr 1
  exact Nat.and_two_pow_sub_one_eq_mod s 7
theorem shr6 {s : Nat} (hs : s < 32768) : nI s >>> ((6 : Int32) &&& 31) = nI (s / 64) := b_ext fun i hi => by
  rw [show ((6 : Int32) &&& 31) = (nI 6 &&& 31) from rfl, b_sshr 6 (by decide) _ hi, b_nI _ hi, show (64 : Nat) = 2 ^ 6 from rfl, Nat.testBit_div_two_pow]
  split
  · rw [b_nI _ (by omega), Nat.add_comm]
  · rw [b_nI _ (by decide), Nat.testBit_lt_two_pow (Nat.lt_of_lt_of_le hs (by decide)), Nat.testBit_lt_two_pow (Nat.lt_of_lt_of_le hs (Nat.le_trans (by decide : 32768 ≤ 2 ^ 15) (Nat.pow_le_pow_right (by decide) (by omega))))]
/-- which states were seen -/
def SN (σ : St) (f : Nat → Nat) (c : Nat) : Prop := ∀ s, s < 32768 → (b64 (gJ σ 428 (s / 64)) (s % 64) = true ↔ ∃ j, j < c ∧ f j = s)
def rI (r : Nat → Nat) (j : Nat) : Int32 := if j = 0 then -1 else nI (r j)
def CS (σ : St) (P p u : Nat) (f r : Nat → Nat) (c : Nat) : Prop := gR σ 425 4 = some P ∧ gI σ 425 5 = nI p ∧ gI σ 425 6 = nI u ∧ gI σ 425 3 = nI c ∧ SN σ f c ∧ (∀ j, j < c → gI σ 426 j = nI (f j)) ∧ ∀ j, j < c → gI σ 427 j = rI r j
def TP (σ : St) (P : Nat) (π : PV) : Prop := PrC σ P π ∧ FtC σ P π ∧ CaC σ P π
def scCo (P o k : Nat) : Bool := scV P o k || decide (425 ≤ o)
theorem CS.fr {σ σ' : St} {P p u c : Nat} {f r : Nat → Nat} {S : Nat → Nat → Bool} (h : CS σ P p u f r c) (hS : ∀ o k, 425 ≤ o → S o k = false) (hf : Fr S σ σ') : CS σ' P p u f r c := by
  obtain ⟨h1, h2, h3, h4, h5, h6, h7⟩ := h
  refine ⟨(hf.2.2 _ _ (hS _ _ (by decide))).trans h1, (hf.1 _ _ (hS _ _ (by decide))).trans h2, (hf.1 _ _ (hS _ _ (by decide))).trans h3, (hf.1 _ _ (hS _ _ (by decide))).trans h4, fun s hs => ?_, fun j hj => (hf.1 _ _ (hS _ _ (by decide))).trans (h6 j hj), fun j hj => (hf.1 _ _ (hS _ _ (by decide))).trans (h7 j hj)⟩
  rw [hf.2.1 _ _ (hS _ _ (by decide))]
  exact h5 s hs
theorem TP.co {σ σ' : St} {P : Nat} {π : PV} (hP : isP P) (hF : WF π) (h : TP σ P π) (hf : Fr (fun o _ => decide (425 ≤ o)) σ σ') : TP σ' P π := by
  have hlt := P_lt hP
  have z : ∀ o k, o < 425 → ((fun (o _k : Nat) => decide (425 ≤ o)) o k) = false := fun o k q => by simp; omega
  exact ⟨h.1.fr hF (fun o k q => z o k (by unfold inPr at q; omega)) hf, h.2.1.fr hF (fun o k q => z o k (by unfold inPr at q; omega)) hf, fun a ha => by rw [hf.1 _ _ (z _ a (by omega))]; exact h.2.2 a ha⟩
theorem TP.v {σ σ' : St} {P : Nat} {π : PV} (hF : WF π) (h : TP σ P π) (hf : Fr (scV P) σ σ') (hA : CaC σ' P π) : TP σ' P π := ⟨h.1.fr hF scV_pr hf, h.2.1.fr hF scV_pr hf, hA⟩
theorem kd428 : kd 428 = (21, 512) := by decide +kernel
section CCS
variable {Γ : Gx} {d : Nat} {w : Wd} {P : Nat} {π : PV} {p u : Nat} {f r : Nat → Nat} {c : Nat}
theorem c_isNew {Q : Int32 → St → Prop} {σ : St} {s : Nat} (hwc : RunC w) (hs : s < 32768) (hS : SN σ f c) (h0 : (∃ j, j < c ∧ f j = s) → Q 0 σ) (h1 : (∀ j, j < c → f j ≠ s) → Q 1 σ) : SpI Γ d mX0_isNew [.ref 425, .int (nI s)] σ w Q := by
  refine SpI.of pnX0' (Nat.le_of_ble_eq_true rfl) (vX0_isNew_0 hwc ?_)
  rw [shr6 hs, cl (by omega), and63, lg_cmp_eq, bit64_0 _ (by omega)]
  refine ⟨vp_in_nI (by omega) (by decide), fun q => h0 ((hS s hs).mp (by simpa using q)), fun q => h1 (fun j hj e => ?_)⟩
  have := (hS s hs).mpr ⟨j, hj, e⟩
  rw [q] at this
  cases this
theorem lp_metIn {Q : Int32 → St → Prop} {σ : St} {s : Nat} (hwc : RunC w) (hP : isP P) (hF : WF π) (hC : PrC σ P π) (hR : gR σ 425 4 = some P) (hQ : Q (metS π (nI (s / 128))) σ) : ∀ n q, q + n = nP π → AI Γ d mX0_metIn w Q 4 [(0, .ref 425), (1, .int (nI s)), (2, .int (metF π (nI (s / 128)) q)), (3, .int (nI q))] σ := by
  have hw := hwc.run
  have hlt := P_lt hP
  have h8 := hF.1.2.2.2.2
  have o16 : okO w (P + 16) 20 := okL hw (by omega) (by rw [pO16 hP])
  have n4 := (wP hC hF).2.2.2
  intro n
  induction n with
  | zero =>
    intro q hq
    have : q = nP π := hq
    subst this
    refine vX0_metIn_4 hwc hR (prO hw hP) (pr10 hw hP) o16 ?_
    rw [n4]
    exact ⟨fun _ => hQ, fun z => absurd (nI_le (Nat.le_refl _) (by omega)) z⟩
  | succ n ih =>
    intro q hq
    refine vX0_metIn_4 hwc hR (prO hw hP) (pr10 hw hP) o16 ?_
    have e7 : (7 : Int32) + nI q = nI (7 + q) := nI_add 7 q
    have st : metF π (nI (s / 128)) (q + 1) = if bt (nI (s / 128)) q then metF π (nI (s / 128)) q ||| π 12 q 0 else metF π (nI (s / 128)) q := rfl
    rw [bit_p (by omega)] at st
    have eq : gI σ (P + 16) q = π 12 q 0 := (hC.2.2.2.2 q (by omega)).2.2
    rw [n4, e7, bit_0 _ (by omega), b_nI _ (by omega), cl (show q < 2 ^ 31 by omega), eq, nI_1]
    refine ⟨fun z => absurd z (nI_ge (by omega) (by omega)), fun _ => ⟨fun z => ?_, fun z => ⟨vk (pO16 hP) (by omega), ?_⟩⟩⟩
    · have := ih (q + 1) (by omega)
      rw [st, z, if_neg (by decide)] at this
      exact this
    · have := ih (q + 1) (by omega)
      rw [st, if_pos (by simpa using z)] at this
      exact this
theorem c_metIn {Q : Int32 → St → Prop} {σ : St} {s : Nat} (hwc : RunC w) (hP : isP P) (hF : WF π) (hC : PrC σ P π) (hR : gR σ 425 4 = some P) (hQ : Q (metS π (nI (s / 128))) σ) : SpI Γ d mX0_metIn [.ref 425, .int (nI s)] σ w Q :=
  SpI.of pnX0' (Nat.le_of_ble_eq_true rfl) (vX0_metIn_0 (lp_metIn hwc hP hF hC hR hQ (nP π) 0 (Nat.zero_add _)))
theorem c_lessonsIn {Q : Int32 → St → Prop} {σ : St} {s : Nat} (hQ : Q (nI (s % 128)) σ) : SpI Γ d mX0_lessonsIn [.int (nI s)] σ w Q := by
  refine SpI.of pnX0' (Nat.le_of_ble_eq_true rfl) (vX0_lessonsIn_0 ?_)
  rw [and127]
  exact hQ
theorem c_arrive {Q : St → Prop} {σ : St} {t : Nat} {known : Int32} {r' : Nat → Nat} (hwc : RunC w) (hP : isP P) (hF : WF π) (hp : p < nP π) (hu : u < 17) (ht : t < 32768) (hc : c < 16384) (hr : ∀ j, j < c → rI r' j = rI r j) (hT : TP σ P π) (hCS : CS σ P p u f r c) (hQ : ∀ σ', Fr (fun o _ => decide (425 ≤ o)) σ σ' → TP σ' P π → CS σ' P p u (upN f c t) r' (c + 1) → gI σ' 425 7 = (if unkS π p known ≤ u then nI c else gI σ 425 7) → Q σ') : SpV Γ (d + 2) mX0_arrive [.ref 425, .int (nI t), .int (rI r' c), .int known] σ w Q := by
  have hw := hwc.run
  obtain ⟨h1, h2, h3, h4, h5, h6, h7⟩ := hCS
  refine SpV.of pnX0' (Nat.le_of_ble_eq_true rfl) (vX0_arrive_0 hwc h1 (prO hw hP) ?_)
  have lc : nI c < 16384 ↔ c < 16384 := nI_ltI (b := 16384) (by omega) (by decide)
  rw [h4, lc, h2, shr6 ht, cl (show t / 64 < 2 ^ 31 by omega), cl (show c < 2 ^ 31 by omega), and63]
  refine ⟨fun _ => ⟨vp_in_nI (by omega) (by decide), vp_in_nI (by omega) (by decide), vp_in_nI hc (by decide), vp_in_nI hc (by decide), ?_⟩, fun q => absurd hc q⟩
  generalize hs : (uI (uI (uJ σ 428 (t / 64) _) 426 c (nI t)) 427 c (rI r' c)) = s
  have hf : Fr (fun o _ => decide (425 ≤ o)) σ s := by
    rw [← hs]
    exact ((fr_J (by decide)).tr (fr_I (by decide))).tr (fr_I (by decide))
  have hTs := hT.co hP hF hf
  have e25 : ∀ k, gI s 425 k = gI σ 425 k := fun k => by rw [← hs, gI_uI, if_neg (by omega), gI_uI, if_neg (by omega)]; rfl
  refine c_unknownOn hw hP hTs.1 hF hp ?_
  rw [e25 6, h3, e25 3, h4, nI_1]
  have hun : unkS π p known ≤ 24 := cntB_le _ _
  rw [nI_ltI (show u < 2 ^ 31 by omega) (show unkS π p known < 2 ^ 31 by omega)]
  -- the state behind it
  have fin : ∀ s', Fr (fun o k => o == 425 && (k == 3 || k == 7)) s s' → gI s' 425 3 = nI (c + 1) → gI s' 425 7 = (if unkS π p known ≤ u then nI c else gI σ 425 7) → Q s' := by
    intro s' hf' k3 k7
    have hfa : Fr (fun o _ => decide (425 ≤ o)) s s' := hf'.mono (fun o k q => by simp only [Bool.and_eq_true, beq_iff_eq] at q; rw [q.1]; decide)
    refine hQ s' (hf.tr hfa) (hTs.co hP hF hfa) ⟨?_, ?_, ?_, k3, fun x hx => ?_, fun j hj => ?_, fun j hj => ?_⟩ k7
    · rw [hf'.2.2 425 4 (by decide), ← hs]; exact h1
    · rw [hf'.1 425 5 (by decide), e25]; exact h2
    · rw [hf'.1 425 6 (by decide), e25]; exact h3
    · rw [hf'.2.1 428 _ (by simp), ← hs]
      show (b64 (gJ (uJ σ 428 (t / 64) _) 428 (x / 64)) (x % 64) = true ↔ _)
      rw [gJ_uJ]
      have old := h5 x hx
      have key : (∃ j, j < c + 1 ∧ upN f c t j = x) ↔ ((∃ j, j < c ∧ f j = x) ∨ x = t) := by
        constructor
        · rintro ⟨j, g1, g2⟩
          by_cases e : j = c
          · subst e; rw [upN_c] at g2; exact Or.inr g2.symm
          · rw [upN_l (by omega)] at g2; exact Or.inl ⟨j, by omega, g2⟩
        · rintro (⟨j, g1, g2⟩ | g)
          · exact ⟨j, by omega, by rw [upN_l g1]; exact g2⟩
          · exact ⟨c, by omega, by rw [upN_c, g]⟩
      rw [key]
      by_cases e : x / 64 = t / 64
      · rw [if_pos ⟨rfl, e⟩, ← e, b64_or, b64_shl1 _ (by omega) (by omega), Bool.or_eq_true, old, decide_eq_true_eq]
        have : x % 64 = t % 64 ↔ x = t := by omega
        rw [this]
      · rw [if_neg (by omega), old]
        have : x ≠ t := fun q => e (by rw [q])
        simp [this]
    · rw [hf'.1 426 j (by simp), ← hs, gI_uI, if_neg (by omega), gI_uI]
      by_cases e : j = c
      · subst e; rw [if_pos ⟨rfl, rfl⟩, upN_c]
      · rw [if_neg (by omega), upN_l (by omega)]; exact h6 j (by omega)
    · rw [hf'.1 427 j (by simp), ← hs, gI_uI]
      by_cases e : j = c
      · subst e; rw [if_pos ⟨rfl, rfl⟩]
      · rw [if_neg (by omega), gI_uI, if_neg (by omega), hr j (by omega)]; exact h7 j (by omega)
  refine ⟨fun q => fin _ (fr_I (by decide)) (by rw [gI_uI, if_pos ⟨rfl, rfl⟩]) ?_, fun q => fin _ ((fr_I (by decide)).tr (fr_I (by decide))) ?_ ?_⟩
  · rw [gI_uI, if_neg (by decide), e25, if_neg (by omega)]
  · rw [gI_uI, if_pos ⟨rfl, rfl⟩]
  · rw [gI_uI, if_neg (by decide), gI_uI, if_pos ⟨rfl, rfl⟩, if_pos (by omega)]
end CCS
