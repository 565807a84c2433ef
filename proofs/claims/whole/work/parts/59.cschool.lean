/-! the class: the school, what its pupils hold -/
def isA (A : Nat) : Prop := A = 320 ∨ A = 344 ∨ A = 367
def KR (σ : St) (A : Nat) (κ : KV) : Prop := (∀ q, q < 3 → gI σ (A + 2 + 7 * q) 0 = κ 0 q ∧ gI σ (A + 2 + 7 * q) 1 = κ 1 q ∧ MemV σ κ q 0 (A + 4 + 7 * q) (A + 5 + 7 * q) 20 ∧ MemV σ κ q 20 (A + 7 + 7 * q) (A + 8 + 7 * q) 24) ∧ gI σ A 1 = κ 4 0
theorem KR.fr {S : Nat → Nat → Bool} {σ σ' : St} {A : Nat} {κ : KV} (h : KR σ A κ) (hS : ∀ o k, A ≤ o → o ≤ A + 22 → S o k = false) (hf : Fr S σ σ') : KR σ' A κ := by
  have z : ∀ o k, A ≤ o → o ≤ A + 22 → gI σ' o k = gI σ o k := fun o k h1 h2 => hf.1 o k (hS o k h1 h2)
  refine ⟨fun q hq => ?_, (z _ _ (by omega) (by omega)).trans h.2⟩
  obtain ⟨a1, a2, a3, a4⟩ := h.1 q hq
  refine ⟨(z _ _ (by omega) (by omega)).trans a1, (z _ _ (by omega) (by omega)).trans a2, fun k hk => ?_, fun k hk => ?_⟩
  · exact ⟨(z _ _ (by omega) (by omega)).trans (a3 k hk).1, (z _ _ (by omega) (by omega)).trans (a3 k hk).2⟩
  · exact ⟨(z _ _ (by omega) (by omega)).trans (a4 k hk).1, (z _ _ (by omega) (by omega)).trans (a4 k hk).2⟩
/-- nothing is known of what there is not -/
def KOK (π : PV) (κ : KV) : Prop := ∀ q, q < 3 → (∀ k, nS π ≤ k → k < 20 → κ 2 (44 * q + (0 + k)) = 0) ∧ ∀ v, nW π ≤ v → v < 24 → κ 2 (44 * q + (20 + v)) = 0
theorem held_0 {κ : KV} {q j : Nat} (h : κ 2 (44 * q + j) = 0) : heldS κ q j = false := by
  unfold heldS
  rw [h]
  rfl
theorem KOK.hS {π : PV} {κ : KV} {q : Nat} (h : KOK π κ) (hq : q < 3) (h20 : nS π ≤ 20) : heldF κ q 0 20 = heldF κ q 0 (nS π) := by
  have := heldF_ext (κ := κ) (q := q) (off := 0) (n := nS π) (20 - nS π) (fun k h1 h2 => held_0 ((h q hq).1 k h1 (by omega)))
  rw [show nS π + (20 - nS π) = 20 by omega] at this
  exact this
theorem KOK.hW {π : PV} {κ : KV} {q : Nat} (h : KOK π κ) (hq : q < 3) (h24 : nW π ≤ 24) : heldF κ q 20 24 = heldF κ q 20 (nW π) := by
  have := heldF_ext (κ := κ) (q := q) (off := 20) (n := nW π) (24 - nW π) (fun k h1 h2 => held_0 ((h q hq).2 k h1 (by omega)))
  rw [show nW π + (24 - nW π) = 24 by omega] at this
  exact this
theorem KOK.use {π : PV} {κ : KV} {q : Nat} {sg wd : Int32} (h : KOK π κ) (hq : q < 3) (h20 : nS π ≤ 20) (h24 : nW π ≤ 24) : KOK π (useA π κ q sg wd) := by
  intro p hp
  obtain ⟨a1, a2⟩ := h p hp
  refine ⟨fun k h1 h2 => ?_, fun v h1 h2 => ?_⟩
  · unfold useA
    rw [useF_o _ (fun e => by omega), useF_o _ (fun e => by omega)]
    exact a1 k h1 h2
  · unfold useA
    rw [useF_o _ (fun e => by omega), useF_o _ (fun e => by omega)]
    exact a2 v h1 h2
theorem KOK.upd {π : PV} {κ : KV} {t i : Nat} {v : Int32} (h : KOK π κ) (ht : t ≠ 2) : KOK π (updK κ t i v) := fun q hq => ⟨fun k h1 h2 => by rw [updK_o (Ne.symm ht)]; exact (h q hq).1 k h1 h2, fun k h1 h2 => by rw [updK_o (Ne.symm ht)]; exact (h q hq).2 k h1 h2⟩
def puA (c : Nat) : Nat := 322 + 7 * (if c < 3 then c else 0)
theorem pu_c : ∀ c, c < 4 → rf 321 c = puA c := by decide +kernel
theorem pu_d : rf 321 = fun c => (([322, 329, 336, 322] : List Nat).getD c 322) := by
  funext c
  rfl
theorem pu_f : ∀ q, q < 3 → ∀ A, A ∈ [320, 344, 367] → ((kd (A + 2 + 7 * q)).1 = 5 ∧ rf (A + 2 + 7 * q) 2 = A + 3 + 7 * q ∧ rf (A + 2 + 7 * q) 3 = A + 6 + 7 * q) ∧ ((kd (A + 3 + 7 * q)).1 = 2 ∧ rf (A + 3 + 7 * q) 0 = A + 4 + 7 * q ∧ rf (A + 3 + 7 * q) 1 = A + 5 + 7 * q ∧ kd (A + 4 + 7 * q) = (20, 20) ∧ kd (A + 5 + 7 * q) = (20, 20)) ∧ ((kd (A + 6 + 7 * q)).1 = 2 ∧ rf (A + 6 + 7 * q) 0 = A + 7 + 7 * q ∧ rf (A + 6 + 7 * q) 1 = A + 8 + 7 * q ∧ kd (A + 7 + 7 * q) = (20, 24) ∧ kd (A + 8 + 7 * q) = (20, 24)) ∧ rf (A + 1) q = A + 2 + 7 * q := by decide +kernel
theorem pnX5 : plainName RX5 = true := by decide +kernel
theorem pnX6 : plainName RX6 = true := by decide +kernel
theorem isA_mem {A : Nat} (h : isA A) : A ∈ [320, 344, 367] := by rcases h with rfl | rfl | rfl <;> decide
theorem isA_lt {A : Nat} (h : isA A) : 320 ≤ A ∧ A ≤ 367 := by rcases h with rfl | rfl | rfl <;> decide
section CSC
variable {Γ : Gx} {d : Nat} {w : Wd} {π : PV} {κ : KV} {P A : Nat}
theorem puE (hw : RunW w) (c : Nat) : w.2 321 c = some (puA c) := by
  refine rS_ hw ?_
  rcases Nat.lt_or_ge c 4 with h | h
  · exact pu_c c h
  · rw [pu_d]
    show (([322, 329, 336, 322] : List Nat).getD c 322) = puA c
    rw [List.getD_eq_getElem?_getD, List.getElem?_eq_none (by simp; omega)]
    unfold puA
    rw [if_neg (by omega)]
    rfl
theorem puP (hw : RunW w) (hA : isA A) {q : Nat} (hq : q < 3) : okO w (A + 2 + 7 * q) 5 ∧ w.2 (A + 2 + 7 * q) 2 = some (A + 3 + 7 * q) ∧ w.2 (A + 2 + 7 * q) 3 = some (A + 6 + 7 * q) ∧ MemC w (A + 3 + 7 * q) (A + 4 + 7 * q) (A + 5 + 7 * q) 20 ∧ MemC w (A + 6 + 7 * q) (A + 7 + 7 * q) (A + 8 + 7 * q) 24 ∧ w.2 (A + 1) q = some (A + 2 + 7 * q) := by
  obtain ⟨⟨a1, a2, a3⟩, ⟨b1, b2, b3, b4, b5⟩, ⟨c1, c2, c3, c4, c5⟩, d1⟩ := pu_f q hq A (isA_mem hA)
  have := isA_lt hA
  exact ⟨okL hw (by omega) a1, rS_ hw a2, rS_ hw a3, ⟨okL hw (by omega) b1, rS_ hw b2, rS_ hw b3, ok_ hw (by omega) b4, ok_ hw (by omega) b5, by rw [b4], by rw [b5], by decide, by omega⟩, ⟨okL hw (by omega) c1, rS_ hw c2, rS_ hw c3, ok_ hw (by omega) c4, ok_ hw (by omega) c5, by rw [c4], by rw [c5], by decide, by omega⟩, rS_ hw d1⟩
theorem pu0 (hw : RunW w) {q : Nat} (hq : q < 3) : okO w (322 + 7 * q) 5 ∧ w.2 (322 + 7 * q) 2 = some (323 + 7 * q) ∧ w.2 (322 + 7 * q) 3 = some (326 + 7 * q) ∧ MemC w (323 + 7 * q) (324 + 7 * q) (325 + 7 * q) 20 ∧ MemC w (326 + 7 * q) (327 + 7 * q) (328 + 7 * q) 24 ∧ w.2 321 q = some (322 + 7 * q) := puP (A := 320) hw (Or.inl rfl) hq
theorem puA_ {q : Nat} (h : q < 3) : puA q = 322 + 7 * q := by unfold puA; rw [if_pos h]
theorem puO (hw : RunW w) (c : Nat) : ∃ q, q < 3 ∧ puA c = 322 + 7 * q := by
  unfold puA
  split
  · rename_i h
    exact ⟨c, h, rfl⟩
  · exact ⟨0, by decide, rfl⟩
theorem c_hS {Q : Int32 → St → Prop} {σ : St} {q : Nat} (hw : RunW w) (hF : WF π) (hK : KR σ 320 κ) (hO : KOK π κ) (hq : q < 3) (hQ : Q (heldF κ q 0 (nS π)) σ) : SpI Γ (d + 1) mX5_heldSigns [.ref (322 + 7 * q)] σ w Q := by
  obtain ⟨o1, r1, r2, m1, m2, -⟩ := pu0 hw hq
  obtain ⟨k1, k2, k3, k4⟩ := hK.1 q hq
  refine SpI.of pnX5 (Nat.le_of_ble_eq_true rfl) (vX5_heldSigns_0 o1 r1 m1.1 ?_)
  have k1' : gI σ (322 + 7 * q) 0 = κ 0 q := k1
  rw [k1']
  refine c_heldOn m1 k3 ?_
  rw [hO.hS hq hF.1.1.2]
  exact hQ
theorem c_hW {Q : Int32 → St → Prop} {σ : St} {q : Nat} (hw : RunW w) (hF : WF π) (hK : KR σ 320 κ) (hO : KOK π κ) (hq : q < 3) (hQ : Q (heldF κ q 20 (nW π)) σ) : SpI Γ (d + 1) mX5_heldWords [.ref (322 + 7 * q)] σ w Q := by
  obtain ⟨o1, r1, r2, m1, m2, -⟩ := pu0 hw hq
  obtain ⟨k1, k2, k3, k4⟩ := hK.1 q hq
  refine SpI.of pnX5 (Nat.le_of_ble_eq_true rfl) (vX5_heldWords_0 o1 r2 m2.1 ?_)
  have k1' : gI σ (322 + 7 * q) 0 = κ 0 q := k1
  rw [k1']
  refine c_heldOn m2 k4 ?_
  rw [hO.hW hq hF.1.2.1.2]
  exact hQ
theorem cnt_sm {x n : Nat} {y : Int32} (h : x < 2 ^ n) (hn : n ≤ 24) : cntB (nI x &&& y) 32 = cntB (nI x &&& y) 24 := cnt_24 (fun i h1 h2 => by rw [b_and, b_small h (by omega) h2]; rfl)
theorem c_miss {Q : Int32 → St → Prop} {σ : St} {q l : Nat} (hw : RunW w) (hF : WF π) (hC : CP σ P π) (hK : KR σ 320 κ) (hO : KOK π κ) (hq : q < 3) (hl : l < nL π) (hQ : Q (nI (lackS π κ q l)) σ) : SpI Γ (d + 2) mX11_missingOf [.ref 0, .ref (322 + 7 * q), .int (nI l)] σ w Q := by
  have hP := hC.2.1
  have hlt := P_lt hP
  have h7 := hF.1.2.2.1.2
  have h20 := hF.1.1.2
  have h24 := hF.1.2.1.2
  obtain ⟨-, ⟨x, hx, ex⟩, y, hy, ey⟩ := hF.2.2.2.1 l hl
  have e1 : gI σ (P + 4) l = π 9 l 1 := hC.2.2.1.2.2.2.1 l hl 1 (by decide)
  have e2 : gI σ (P + 5) l = π 9 l 2 := hC.2.2.1.2.2.2.1 l hl 2 (by decide)
  refine SpI.of pnX11 (Nat.le_of_ble_eq_true rfl) (vX11_missingOf_0 hw hC.1 (prO hw hP) (pr5 hw hP) (pu0 hw hq).1 (ok_ hw (by omega) (pO4 hP)) ⟨vk (pO4 hP) (by omega), ?_⟩)
  rw [cl (by omega), e1]
  refine c_hS hw hF hK hO hq (c_bitCount (tdR hC.1 ⟨prO hw hP, P + 5, pr6 hw hP, ok_ hw (by omega) (pO5 hP), vk (pO5 hP) (by omega), ?_⟩))
  rw [e2]
  refine c_hW hw hF hK hO hq (c_bitCount ?_)
  rw [nI_add, ex, ey, cnt_sm hx (by omega), cnt_sm hy h24, ← ex, ← ey]
  exact hQ
theorem unk_mt {hs hv : Int32} {p : Nat} (hF : WF π) (hp : p < nP π) : ∀ n, n ≤ nW π → cntB (π 12 p 0 &&& (amgF π (π 12 p 0) hs hv (nW π) ^^^ (-1))) n = (mtF π hs hv p n).1
  | 0, _ => rfl
  | n + 1, hn => by
    have h24 := hF.1.2.1.2
    have ih := unk_mt (hs := hs) (hv := hv) hF hp n (by omega)
    have b : bt (π 12 p 0 &&& (amgF π (π 12 p 0) hs hv (nW π) ^^^ (-1))) n = (bt (π 12 p 0) n && !bt hv n && !rightS π n hs) := by
      rw [b_and, b_not _ (by omega), b_amg _ (by omega) n (by omega)]
      have : n < nW π := by omega
      simp only [this, decide_true, Bool.true_and]
      cases bt (π 12 p 0) n <;> cases bt hv n <;> cases rightS π n hs <;> rfl
    show cntB _ n + (if bt _ n then 1 else 0) = (if bt (π 12 p 0) n && !bt hv n then (if rightS π n hs then ((mtF π hs hv p n).1, (mtF π hs hv p n).2 ||| (spkAll π n hs).2.2) else ((mtF π hs hv p n).1 + 1, (mtF π hs hv p n).2)) else mtF π hs hv p n).1
    rw [ih, b]
    cases bt (π 12 p 0) n <;> cases bt hv n <;> cases rightS π n hs <;> rfl
theorem unk_mtS {q p : Nat} (hF : WF π) (hp : p < nP π) : unkS π p (amgF π (π 12 p 0) (heldF κ q 0 (nS π)) (heldF κ q 20 (nW π)) (nW π)) = (mtS π κ q p).1 := by
  have h24 := hF.1.2.1.2
  obtain ⟨-, -, -, p4, p5⟩ := hF.2.2.2.2 p hp
  have hb : ∀ i, nW π ≤ i → i < 32 → bt (π 12 p 0) i = false := by
    intro i h1 h2
    cases hb : bt (π 12 p 0) i with
    | false => rfl
    | true =>
      obtain ⟨j, hj, e⟩ := (p5 i h2).mp hb
      obtain ⟨v, hv, e2⟩ := p4 j hj
      rw [e2, nI_eq (by omega) (by omega)] at e
      omega
  have up : ∀ x : Int32, (∀ i, nW π ≤ i → i < 32 → bt x i = false) → ∀ r, nW π + r ≤ 32 → cntB x (nW π + r) = cntB x (nW π) := by
    intro x hx r
    induction r with
    | zero => intro _; rfl
    | succ r ih =>
      intro h
      show cntB x (nW π + r) + (if bt x (nW π + r) then 1 else 0) = _
      rw [ih (by omega), hx _ (by omega) (by omega)]
      simp
  show cntB _ 24 = _
  have := up (π 12 p 0 &&& (amgF π (π 12 p 0) (heldF κ q 0 (nS π)) (heldF κ q 20 (nW π)) (nW π) ^^^ (-1))) (fun i h1 h2 => by rw [b_and, hb i h1 h2]; rfl) (24 - nW π) (by omega)
  rw [show nW π + (24 - nW π) = 24 by omega] at this
  rw [this]
  exact unk_mt hF hp (nW π) (Nat.le_refl _)
theorem KR.ask {σ σ' : St} (hC : CP σ P π) (h : KR σ 320 κ) (hA : AskC P π σ σ') : KR σ' 320 κ := h.fr (fun o k h1 h2 => by
  have := P_lt hC.2.1
  unfold scAsk
  simp only [Bool.or_eq_false_iff, beq_eq_false_iff_ne, Bool.and_eq_false_iff, decide_eq_false_iff_not]
  omega) hA.1
theorem c_unkFor {Q : Int32 → St → Prop} {σ : St} {q p : Nat} (hw : RunW w) (hF : WF π) (hC : CP σ P π) (hK : KR σ 320 κ) (hO : KOK π κ) (hq : q < 3) (hp : p < nP π) (hQ : ∀ σ', AskC P π σ σ' → Q (nI (mtS π κ q p).1) σ') : SpI Γ (d + 3) mX11_unknownFor [.ref 0, .ref (322 + 7 * q), .int (nI p)] σ w Q := by
  have hP := hC.2.1
  have hlt := P_lt hP
  have h8 := hF.1.2.2.2.2
  have e1 : gI σ (P + 16) p = π 12 p 0 := (hC.2.2.1.2.2.2.2 p hp).2.2
  refine SpI.of pnX11 (Nat.le_of_ble_eq_true rfl) (vX11_unknownFor_0 hw hC.1 (prO hw hP) (pr10 hw hP) (pu0 hw hq).1 (ok_ hw (by omega) (pO16 hP)) ⟨vk (pO16 hP) (by omega), ?_⟩)
  rw [cl (by omega), e1]
  refine c_hS hw hF hK hO hq (c_hW hw hF hK hO hq (c_among hw hP hC.2.2.1 hC.2.2.2.1 hF fun s z => ?_))
  have hA := hC.sp hF z
  refine c_unknownOn hw hP hA.2.2.2.1 hF hp ?_
  rw [unk_mtS hF hp]
  exact hQ s hA
/-- use of signs, of words -/
theorem KR.useS {σ σ' : St} {q : Nat} {set : Int32} (h : KR σ A κ) (hq : q < 3) (hf : Fr (scM2 (A + 4 + 7 * q) (A + 5 + 7 * q)) σ σ') (hv : ∀ k, k < 20 → gI σ' (A + 4 + 7 * q) k = usS κ q set 0 k ∧ gI σ' (A + 5 + 7 * q) k = usL κ q set 0 k) : KR σ' A (useF κ q set 0 20) := by
  have z : ∀ o k, o ≠ A + 4 + 7 * q → o ≠ A + 5 + 7 * q → gI σ' o k = gI σ o k := fun o k h1 h2 => hf.1 o k (by simp [scM2, h1, h2])
  refine ⟨fun r hr => ?_, ?_⟩
  · obtain ⟨a1, a2, a3, a4⟩ := h.1 r hr
    refine ⟨?_, ?_, fun k hk => ?_, fun k hk => ?_⟩
    · rw [useF_o _ (fun e => by omega), z _ _ (by omega) (by omega)]; exact a1
    · rw [useF_o _ (fun e => by omega), z _ _ (by omega) (by omega)]; exact a2
    · by_cases e : r = q
      · subst e
        obtain ⟨i1, i2⟩ := useF_i (κ := κ) (q := r) (set := set) (off := 0) 20 k hk
        rw [i1, i2]
        exact hv k hk
      · rw [useF_o _ (fun e => by omega), useF_o _ (fun e => by omega), z _ _ (by omega) (by omega), z _ _ (by omega) (by omega)]
        exact a3 k hk
    · rw [useF_o _ (fun e => by omega), useF_o _ (fun e => by omega), z _ _ (by omega) (by omega), z _ _ (by omega) (by omega)]
      exact a4 k hk
  · rw [useF_o _ (fun e => by omega), z _ _ (by omega) (by omega)]; exact h.2
theorem KR.useW {σ σ' : St} {q : Nat} {set : Int32} (h : KR σ A κ) (hq : q < 3) (hf : Fr (scM2 (A + 7 + 7 * q) (A + 8 + 7 * q)) σ σ') (hv : ∀ k, k < 24 → gI σ' (A + 7 + 7 * q) k = usS κ q set 20 k ∧ gI σ' (A + 8 + 7 * q) k = usL κ q set 20 k) : KR σ' A (useF κ q set 20 24) := by
  have z : ∀ o k, o ≠ A + 7 + 7 * q → o ≠ A + 8 + 7 * q → gI σ' o k = gI σ o k := fun o k h1 h2 => hf.1 o k (by simp [scM2, h1, h2])
  refine ⟨fun r hr => ?_, ?_⟩
  · obtain ⟨a1, a2, a3, a4⟩ := h.1 r hr
    refine ⟨?_, ?_, fun k hk => ?_, fun k hk => ?_⟩
    · rw [useF_o _ (fun e => by omega), z _ _ (by omega) (by omega)]; exact a1
    · rw [useF_o _ (fun e => by omega), z _ _ (by omega) (by omega)]; exact a2
    · rw [useF_o _ (fun e => by omega), useF_o _ (fun e => by omega), z _ _ (by omega) (by omega), z _ _ (by omega) (by omega)]
      exact a3 k hk
    · by_cases e : r = q
      · subst e
        obtain ⟨i1, i2⟩ := useF_i (κ := κ) (q := r) (set := set) (off := 20) 24 k hk
        rw [i1, i2]
        exact hv k hk
      · rw [useF_o _ (fun e => by omega), useF_o _ (fun e => by omega), z _ _ (by omega) (by omega), z _ _ (by omega) (by omega)]
        exact a4 k hk
  · rw [useF_o _ (fun e => by omega), z _ _ (by omega) (by omega)]; exact h.2
theorem useA_full {q : Nat} {sg wd : Int32} (hF : WF π) (hs : ∀ k, nS π ≤ k → k < 32 → bt sg k = false) (hv : ∀ k, nW π ≤ k → k < 32 → bt wd k = false) : useF (useF κ q sg 0 20) q wd 20 24 = useA π κ q sg wd := by
  have h20 := hF.1.1.2
  have h24 := hF.1.2.1.2
  have e1 := useF_ext (κ := κ) (q := q) (set := sg) (off := 0) (n := nS π) (20 - nS π) (fun k h1 h2 => hs k h1 (by omega))
  rw [show nS π + (20 - nS π) = 20 by omega] at e1
  have e2 := useF_ext (κ := useF κ q sg 0 20) (q := q) (set := wd) (off := 20) (n := nW π) (24 - nW π) (fun k h1 h2 => hv k h1 (by omega))
  rw [show nW π + (24 - nW π) = 24 by omega] at e2
  rw [e2, e1]
  rfl
end CSC
