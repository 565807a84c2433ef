/-! the class answers: pupils -/
def scSc (o _k : Nat) : Bool := decide (320 ≤ o) && decide (o ≤ 342)
def scCh (P o k : Nat) : Bool := scAsk P o k || scSc o k
def ChC (P : Nat) (π : PV) (σ σ' : St) : Prop := Fr (scCh P) σ σ' ∧ CP σ' P π
theorem AskC.ch {P : Nat} {π : PV} {σ σ' : St} (h : AskC P π σ σ') : ChC P π σ σ' := ⟨h.1.mono (fun o k q => by unfold scCh; rw [q]; rfl), h.2⟩
theorem ChC.tr {P : Nat} {π : PV} {a b c : St} (h : ChC P π a b) (h2 : ChC P π b c) : ChC P π a c := ⟨h.1.tr h2.1, h2.2⟩
theorem CP.sc {P : Nat} {π : PV} {σ σ' : St} (h : CP σ P π) (hF : WF π) (hf : Fr scSc σ σ') : ChC P π σ σ' := by
  have hlt := P_lt h.2.1
  have z : ∀ o k, inPr P o → scSc o k = false := by
    intro o k h
    unfold inPr at h
    unfold scSc
    simp
    omega
  exact ⟨hf.mono (fun o k q => by unfold scCh; rw [q]; simp), h.r0 (by decide) hf, h.2.1, h.2.2.1.fr hF z hf, h.2.2.2.1.fr hF z hf, fun a ha => by rw [hf.1 _ _ (by unfold scSc; simp; omega)]; exact h.2.2.2.2 a ha⟩
theorem ChC.rf {P : Nat} {π : PV} {σ : St} (h : CP σ P π) : ChC P π σ σ := ⟨Fr.rf σ, h⟩
theorem b_spk {π : PV} {v : Nat} {set : Int32} {k : Nat} (h20 : nS π ≤ 20) (h1 : nS π ≤ k) (h2 : k < 32) : ∀ f i out sg, bt sg k = false → bt (spk π v set f i out sg).2.2 k = false := by
  intro f
  induction f with
  | zero => intro i out sg h; exact h
  | succ f ih =>
    intro i out sg h
    unfold spk
    split
    · split
      · exact h
      · rename_i m hm
        have := (bst_spec hm).1
        refine ih _ _ _ ?_
        rw [b_or, h, one_shl (by omega) h2]
        simp
        omega
    · exact h
theorem b_mtF {π : PV} {hs hv : Int32} {p k : Nat} (h20 : nS π ≤ 20) (h1 : nS π ≤ k) (h2 : k < 32) : ∀ n, bt (mtF π hs hv p n).2 k = false
  | 0 => b_0 k
  | n + 1 => by
    have ih := b_mtF (π := π) (hs := hs) (hv := hv) (p := p) h20 h1 h2 n
    unfold mtF
    split
    · split
      · show bt (_ ||| _) k = false
        rw [b_or, ih, Bool.false_or]
        exact b_spk h20 h1 h2 _ _ _ _ (b_0 k)
      · exact ih
    · exact ih
theorem pg_hi {π : PV} {p k : Nat} (hF : WF π) (hp : p < nP π) (h1 : nW π ≤ k) (h2 : k < 32) : bt (π 12 p 0) k = false := by
  have h24 := hF.1.2.1.2
  obtain ⟨-, -, -, p4, p5⟩ := hF.2.2.2.2 p hp
  cases hb : bt (π 12 p 0) k with
  | false => rfl
  | true =>
    obtain ⟨j, hj, e⟩ := (p5 k h2).mp hb
    obtain ⟨v, hv, e2⟩ := p4 j hj
    rw [e2, nI_eq (by omega) (by omega)] at e
    omega
theorem cnt_rm {x : Int32} {v : Nat} (hv : v < 32) : ∀ n, n ≤ 32 → cntB x n ≤ cntB (x &&& ((1 <<< (nI v &&& 31)) ^^^ (-1))) n + (if v < n then 1 else 0)
  | 0, _ => Nat.zero_le _
  | n + 1, hn => by
    have ih := cnt_rm (x := x) hv n (by omega)
    have hb : bt (x &&& ((1 <<< (nI v &&& 31)) ^^^ (-1))) n = (bt x n && !decide (n = v)) := by rw [b_and, b_not _ (by omega), one_shl hv (by omega)]
    show cntB x n + (if bt x n then 1 else 0) ≤ cntB (x &&& ((1 <<< (nI v &&& 31)) ^^^ (-1))) n + (if bt (x &&& ((1 <<< (nI v &&& 31)) ^^^ (-1))) n then 1 else 0) + _
    rw [hb]
    generalize cntB (x &&& ((1 <<< (nI v &&& 31)) ^^^ (-1))) n = C at ih ⊢
    by_cases e : n = v
    · subst e
      rw [if_neg (Nat.lt_irrefl n)] at ih
      rw [if_pos (Nat.lt_succ_self n)]
      cases bt x n <;> simp <;> omega
    · by_cases h : v < n
      · rw [if_pos h] at ih
        rw [if_pos (show v < n + 1 by omega)]
        cases bt x n <;> simp [e] <;> omega
      · rw [if_neg h] at ih
        rw [if_neg (show ¬ v < n + 1 by omega)]
        cases bt x n <;> simp [e] <;> omega
theorem cnt_cov : ∀ (m : Nat) (g : Nat → Nat) (x : Int32), (∀ v, v < 24 → bt x v = true → ∃ i, i < m ∧ g i = v) → cntB x 24 ≤ m := by
  intro m
  induction m with
  | zero =>
    intro g x h
    have z : ∀ n, n ≤ 24 → cntB x n = 0 := by
      intro n
      induction n with
      | zero => intro _; rfl
      | succ n ih =>
        intro hn
        show cntB x n + (if bt x n then 1 else 0) = 0
        have : bt x n = false := by
          cases hb : bt x n with
          | false => rfl
          | true =>
            obtain ⟨i, hi, -⟩ := h n (by omega) hb
            omega
        rw [ih (by omega), this]
        rfl
    rw [z 24 (Nat.le_refl _)]
    exact Nat.le_refl _
  | succ m ih =>
    intro g x h
    by_cases hv : g m < 24
    · have h1 := cnt_rm (x := x) (v := g m) (by omega) 24 (by decide)
      have h2 := ih g (x &&& ((1 <<< (nI (g m) &&& 31)) ^^^ (-1))) (fun v hv' hb => by
        rw [b_and, b_not _ (by omega), one_shl (by omega) (by omega), Bool.and_eq_true] at hb
        obtain ⟨i, hi, e⟩ := h v hv' hb.1
        refine ⟨i, ?_, e⟩
        have : ¬ v = g m := by simpa using hb.2
        rcases Nat.lt_succ_iff_lt_or_eq.mp hi with q | q
        · exact q
        · subst q; exact absurd e.symm this)
      rw [if_pos hv] at h1
      omega
    · have := ih g x (fun v hv' hb => by
        obtain ⟨i, hi, e⟩ := h v hv' hb
        refine ⟨i, ?_, e⟩
        rcases Nat.lt_succ_iff_lt_or_eq.mp hi with q | q
        · exact q
        · subst q; omega)
      omega
theorem mt_le {π : PV} {hs hv : Int32} {p : Nat} : ∀ n, n ≤ 24 → (mtF π hs hv p n).1 ≤ cntB (π 12 p 0) n
  | 0, _ => Nat.le_refl _
  | n + 1, hn => by
    have ih := mt_le (π := π) (hs := hs) (hv := hv) (p := p) n (by omega)
    show (if bt (π 12 p 0) n && !bt hv n then (if rightS π n hs then ((mtF π hs hv p n).1, (mtF π hs hv p n).2 ||| (spkAll π n hs).2.2) else ((mtF π hs hv p n).1 + 1, (mtF π hs hv p n).2)) else mtF π hs hv p n).1 ≤ cntB (π 12 p 0) n + (if bt (π 12 p 0) n then 1 else 0)
    cases bt (π 12 p 0) n <;> cases bt hv n <;> cases rightS π n hs <;> simp <;> omega
theorem mt_16 {π : PV} {κ : KV} {q p : Nat} (hF : WF π) (hp : p < nP π) : (mtS π κ q p).1 ≤ 16 := by
  have h24 := hF.1.2.1.2
  obtain ⟨-, -, p3, p4, p5⟩ := hF.2.2.2.2 p hp
  have h1 : (mtS π κ q p).1 ≤ cntB (π 12 p 0) (nW π) := mt_le (nW π) h24
  have up : ∀ r, nW π + r ≤ 24 → cntB (π 12 p 0) (nW π) ≤ cntB (π 12 p 0) (nW π + r) := by
    intro r
    induction r with
    | zero => intro _; exact Nat.le_refl _
    | succ r ih =>
      intro h
      have := ih (by omega)
      show _ ≤ cntB (π 12 p 0) (nW π + r) + _
      omega
  have h2 := up (24 - nW π) (by omega)
  rw [show nW π + (24 - nW π) = 24 by omega] at h2
  have h3 := cnt_cov (pS π p) (fun i => (π 11 p i).toNatClampNeg) (π 12 p 0) (fun v hv hb => by
    obtain ⟨i, hi, e⟩ := (p5 v (by omega)).mp hb
    refine ⟨i, hi, ?_⟩
    show (π 11 p i).toNatClampNeg = v
    rw [e, cl (by omega)])
  omega
section CT
variable {Γ : Gx} {d : Nat} {w : Wd} {π : PV} {κ : KV} {P : Nat}
theorem in_R {x : Int32} {a b : Nat} (ha : a < 1000) (hb : b < 1000) {X : Bool → Prop} (h : X (inR x a b)) : ((x < nI a → X false) ∧ (¬ x < nI a → ((x ≤ nI b → X true) ∧ (¬ x ≤ nI b → X false)))) := by
  have e : inR x a b = (decide ((a : Int) ≤ x.toInt) && decide (x.toInt ≤ (b : Int))) := rfl
  rw [Int32.lt_iff_toInt_lt, Int32.le_iff_toInt_le, nI_toInt (by omega), nI_toInt (by omega)]
  refine ⟨fun c => ?_, fun c => ⟨fun c2 => ?_, fun c2 => ?_⟩⟩
  · have : ¬ (a : Int) ≤ x.toInt := by omega
    rw [e] at h; simp [this] at h; exact h
  · have h1 : (a : Int) ≤ x.toInt := by omega
    rw [e] at h; simp [h1, c2] at h; exact h
  · rw [e] at h; simp [c2] at h; exact h
theorem C_base {Q : Int32 → St → Prop} {σ : St} {x : Int32} (hw : RunW w) (hF : WF π) (hC : CP σ P π) (hK : KR σ 320 κ) (hO : KOK π κ) (hQ : ∀ σ', ChC P π σ σ' → KR σ' 320 (R_base κ x).2 → KOK π (R_base κ x).2 → Q (R_base κ x).1 σ') : SpI Γ d mX11_base [.ref 0, .int x] σ w Q := by
  refine SpI.of pnX11 (Nat.le_of_ble_eq_true rfl) (vX11_base_0 hw ?_)
  have h2 : gI σ 320 1 = κ 4 0 := hK.2
  rw [h2]
  unfold R_base at hQ
  have z := in_R (x := x) (a := 1) (b := 30) (by decide) (by decide) (X := fun b => if b then Q (κ 4 0) (uI σ 320 1 x) else Q (-1002) σ) (by
    cases hb : inR x 1 30 with
    | false =>
      rw [hb] at hQ
      exact hQ σ (ChC.rf hC) hK hO
    | true =>
      rw [hb, if_pos rfl] at hQ
      refine hQ _ (hC.sc hF (fr_I (by decide))) ⟨fun q hq => ?_, by rw [gI_uI, if_pos ⟨rfl, rfl⟩]; rfl⟩ (fun q hq => ?_)
      · obtain ⟨a1, a2, a3, a4⟩ := hK.1 q hq
        refine ⟨?_, ?_, fun k hk => ?_, fun k hk => ?_⟩
        · rw [gI_uI, if_neg (by omega)]; exact a1
        · rw [gI_uI, if_neg (by omega)]; exact a2
        · rw [gI_uI, if_neg (by omega), gI_uI, if_neg (by omega)]; exact a3 k hk
        · rw [gI_uI, if_neg (by omega), gI_uI, if_neg (by omega)]; exact a4 k hk
      · exact hO q hq)
  exact z
theorem chk_3 (x : Int32) (c : inB x 3 = true) : ∃ q, q < 3 ∧ x = nI q ∧ puA x.toNatClampNeg = 322 + 7 * q := by
  obtain ⟨q, hq, rfl⟩ := inB_of c
  exact ⟨q, hq, rfl, by rw [cl (by omega)]; exact puA_ hq⟩
theorem pu_any (hw : RunW w) (c : Nat) : okO w (puA c) 5 ∧ (∃ r2 r3, w.2 (puA c) 2 = some r2 ∧ w.2 (puA c) 3 = some r3 ∧ (∃ s l, MemC w r2 s l 20) ∧ ∃ s l, MemC w r3 s l 24) := by
  obtain ⟨q, hq, e⟩ := puO hw c
  rw [e]
  obtain ⟨o1, r1, r2, m1, m2, -⟩ := pu0 hw hq
  exact ⟨o1, _, _, r1, r2, ⟨_, _, m1⟩, _, _, m2⟩
theorem C_rest {Q : Int32 → St → Prop} {σ : St} {x y : Int32} (hw : RunW w) (hF : WF π) (hC : CP σ P π) (hK : KR σ 320 κ) (hO : KOK π κ) (hQ : ∀ σ', ChC P π σ σ' → KR σ' 320 (R_rest κ x y).2 → KOK π (R_rest κ x y).2 → Q (R_rest κ x y).1 σ') : SpI Γ (d + 1) mX11_rest [.ref 0, .int x, .int y] σ w Q := by
  refine SpI.of pnX11 (Nat.le_of_ble_eq_true rfl) (vX11_rest_0 hw (puE hw _) (pu_any hw _).1 (c_isPupilC ?_))
  rw [b2i_n0, b2i_0]
  unfold R_rest at hQ
  refine ⟨fun c => ?_, fun c => by rw [c] at hQ; exact hQ σ (ChC.rf hC) hK hO⟩
  rw [c, if_pos rfl] at hQ
  obtain ⟨q, hq, rfl, e⟩ := chk_3 x c
  rw [cl (by omega)] at hQ
  rw [e]
  have k1 : gI σ (322 + 7 * q) 0 = κ 0 q := (hK.1 q hq).1
  rw [k1]
  refine ⟨vin (by omega), ?_⟩
  have e999 : ∀ z : Int32, (999 < z) ↔ ¬ z ≤ nI 999 := fun z => (Int32.not_le (n := z) (m := 999)).symm
  rw [e999]
  have nope : (inR y 1 999 && decide (κ 0 q + y ≤ 9999)) = false → Q (-1002) σ := fun h => by
    rw [h] at hQ; exact hQ σ (ChC.rf hC) hK hO
  have z := in_R (x := y) (a := 1) (b := 999) (by decide) (by decide) (X := fun b => b = inR y 1 999) rfl
  refine ⟨fun c2 => nope (by rw [← z.1 c2]; rfl), fun c2 => ⟨fun c3 => nope (by rw [← (z.2 c2).2 c3]; rfl), fun c3 => ?_⟩⟩
  have c3' : y ≤ nI 999 := Decidable.not_not.mp c3
  have hin := (z.2 c2).1 c3'
  refine ⟨fun c4 => ?_, fun c4 => nope (by rw [← hin, decide_eq_false c4]; rfl)⟩
  rw [← hin, decide_eq_true c4, Bool.and_true, if_pos rfl] at hQ
  rw [gI_uI, if_pos ⟨rfl, rfl⟩]
  refine hQ _ (hC.sc hF (fr_I (by unfold scSc; simp; omega))) ⟨fun r hr => ?_, ?_⟩ (hO.upd (by decide))
  · obtain ⟨a1, a2, a3, a4⟩ := hK.1 r hr
    refine ⟨?_, ?_, fun k hk => ?_, fun k hk => ?_⟩
    · rw [gI_uI]
      show _ = updK κ 0 q (κ 0 q + y) 0 r
      unfold updK
      by_cases e : r = q
      · subst e; rw [if_pos ⟨by omega, rfl⟩, if_pos ⟨rfl, rfl⟩]
      · rw [if_neg (by omega), if_neg (by omega)]; exact a1
    · rw [gI_uI, if_neg (by omega)]
      exact a2
    · rw [gI_uI, if_neg (by omega), gI_uI, if_neg (by omega)]
      exact ⟨(a3 k hk).1, (a3 k hk).2⟩
    · rw [gI_uI, if_neg (by omega), gI_uI, if_neg (by omega)]
      exact ⟨(a4 k hk).1, (a4 k hk).2⟩
  · rw [gI_uI, if_neg (by omega)]
    exact hK.2
theorem C_about {Q : Int32 → St → Prop} {σ : St} {x y : Int32} (hw : RunW w) (hF : WF π) (hK : KR σ 320 κ) (hO : KOK π κ) (hQ : Q (A_about π κ x y) σ) : SpI Γ (d + 2) mX11_about [.ref 0, .int x, .int y] σ w Q := by
  refine SpI.of pnX11 (Nat.le_of_ble_eq_true rfl) (vX11_about_0 hw (puE hw _) (pu_any hw _).1 (c_isPupilC ?_))
  rw [b2i_n0, b2i_0]
  unfold A_about at hQ
  refine ⟨fun c => ?_, fun c => by rw [c] at hQ; exact hQ⟩
  rw [c, if_pos rfl] at hQ
  obtain ⟨q, hq, rfl, e⟩ := chk_3 x c
  rw [cl (by omega)] at hQ
  rw [e]
  have k1 : gI σ (322 + 7 * q) 0 = κ 0 q := (hK.1 q hq).1
  have k2 : gI σ (322 + 7 * q) 1 = κ 1 q := (hK.1 q hq).2.1
  rw [k1, k2]
  refine ⟨vin (by omega), fun c0 => ?_, fun c0 => ⟨fun c1 => ?_, fun c1 => ⟨fun c2 => c_hS hw hF hK hO hq ?_, fun c2 => ⟨fun c3 => c_hW hw hF hK hO hq ?_, fun c3 => ?_⟩⟩⟩⟩
  · rw [if_pos c0] at hQ; exact hQ
  · rw [if_neg c0, if_pos c1] at hQ; exact hQ
  · rw [if_neg c0, if_neg c1, if_pos c2] at hQ; exact hQ
  · rw [if_neg c0, if_neg c1, if_neg c2, if_pos c3] at hQ; exact hQ
  · rw [if_neg c0, if_neg c1, if_neg c2, if_neg c3] at hQ; exact hQ
theorem C_span {Q : Int32 → St → Prop} {σ : St} {x y z : Int32} (hw : RunW w) (hF : WF π) (hC : CP σ P π) (hK : KR σ 320 κ) (hQ : Q (A_span π κ x y z) σ) : SpI Γ (d + 1) mX11_span [.ref 0, .int x, .int y, .int z] σ w Q := by
  have h20 := hF.1.1.2
  have h24 := hF.1.2.1.2
  obtain ⟨o1, r2, r3, e2, e3, ⟨s, l, m1⟩, s', l', m2⟩ := pu_any hw x.toNatClampNeg
  refine SpI.of pnX11 (Nat.le_of_ble_eq_true rfl) (vX11_span_0 hw (puE hw _) o1 e2 m1.1 m1.2.1 m1.2.2.2.1 e3 m2.1 m2.2.1 m2.2.2.2.1 (c_isPupilC ?_))
  rw [b2i_n0, b2i_0]
  unfold A_span at hQ
  refine ⟨fun c => by rw [c] at hQ; exact hQ, fun c => ?_⟩
  rw [c, if_pos rfl] at hQ
  obtain ⟨q, hq, rfl, e⟩ := chk_3 x c
  rw [cl (by omega)] at hQ
  rw [e] at e2 e3
  obtain ⟨-, f1, f2, n1, n2, -⟩ := pu0 hw hq
  obtain ⟨k1, k2, k3, k4⟩ := hK.1 q hq
  cases f1.symm.trans e2
  cases f2.symm.trans e3
  cases n1.2.1.symm.trans m1.2.1
  cases n2.2.1.symm.trans m2.2.1
  refine ⟨fun c0 => c_isSignC hw hF hC ?_, fun c0 => c_isWordC hw hF hC ?_⟩
  · rw [b2i_n0, b2i_0]
    rw [if_pos c0] at hQ
    refine ⟨fun c1 => ⟨vin (by omega), fun _ => ?_, fun c2 => absurd c0 c2⟩, fun c1 => by rw [c1] at hQ; exact hQ⟩
    rw [c1, if_pos rfl] at hQ
    obtain ⟨k, hk, rfl⟩ := inB_of c1
    rw [cl (by omega)] at hQ
    have g := (k3 k (by omega)).1
    rw [Nat.zero_add] at g
    have g' : gI σ (324 + 7 * q) k = κ 2 (44 * q + k) := g
    rw [cl (by omega), g']
    exact ⟨vk2 m1.2.2.2.2.2.1 (by omega), hQ⟩
  · rw [b2i_n0, b2i_0]
    rw [if_neg c0] at hQ
    refine ⟨fun c1 => ⟨vin (by omega), fun c2 => absurd c2 c0, fun _ => ?_⟩, fun c1 => by rw [c1] at hQ; exact hQ⟩
    rw [c1, if_pos rfl] at hQ
    obtain ⟨k, hk, rfl⟩ := inB_of c1
    rw [cl (by omega)] at hQ
    have g' : gI σ (327 + 7 * q) k = κ 2 (44 * q + (20 + k)) := (k4 k (by omega)).1
    rw [cl (by omega), g']
    exact ⟨vk2 m2.2.2.2.2.2.1 (by omega), hQ⟩
theorem C_meets {Q : Int32 → St → Prop} {σ : St} {x y : Int32} (hw : RunW w) (hF : WF π) (hC : CP σ P π) (hK : KR σ 320 κ) (hO : KOK π κ) (hQ : ∀ σ', AskC P π σ σ' → Q (A_meets π κ x y) σ') : SpI Γ (d + 4) mX11_meets [.ref 0, .int x, .int y] σ w Q := by
  have h8 := hF.1.2.2.2.2
  refine SpI.of pnX11 (Nat.le_of_ble_eq_true rfl) (vX11_meets_0 hw (puE hw _) (c_isPupilC ?_))
  rw [b2i_n0, b2i_0]
  unfold A_meets at hQ
  refine ⟨fun c => by rw [c] at hQ; exact hQ σ hC.rf, fun c => c_isPageC hw hF hC ?_⟩
  rw [c, Bool.true_and] at hQ
  rw [b2i_n0, b2i_0]
  refine ⟨fun c2 => ⟨?_, ?_⟩, fun c2 => by rw [c2] at hQ; exact hQ σ hC.rf⟩
  · obtain ⟨q, hq, rfl, e⟩ := chk_3 x c
    exact vin (by omega)
  · rw [c2, if_pos rfl] at hQ
    obtain ⟨q, hq, rfl, e⟩ := chk_3 x c
    obtain ⟨p, hp, rfl⟩ := inB_of c2
    rw [cl (by omega), cl (by omega)] at hQ
    rw [e]
    exact c_unkFor hw hF hC hK hO hq hp hQ
end CT
