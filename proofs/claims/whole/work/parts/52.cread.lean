/-! the class: what lessons teach, which words are read -/
def CaC (σ : St) (P : Nat) (π : PV) : Prop := ∀ a, a < 2 ^ nL π → gI σ (P + 19) a = -1 ∨ gI σ (P + 19) a = readS π (nI a)
/-- cells that hold nothing, or what follows from the rest -/
def scV (P o _k : Nat) : Bool := o == P + 17 || o == P + 18 || o == P + 19
theorem scV_pr {P : Nat} : ∀ o k, inPr P o → scV P o k = false := by
  intro o k h
  unfold inPr at h
  unfold scV
  have h1 : o ≠ P + 17 := by omega
  have h2 : o ≠ P + 18 := by omega
  have h3 : o ≠ P + 19 := by omega
  simp [h1, h2, h3]
theorem scSp_V {P : Nat} : ∀ o k, scSp P o k = true → scV P o k = true := by
  intro o k h
  unfold scSp at h
  unfold scV
  rw [h]
  rfl
theorem CaC.sp {σ σ' : St} {P : Nat} {π : PV} (h : CaC σ P π) (hf : Fr (scSp P) σ σ') : CaC σ' P π := fun a ha => by
  rw [hf.1 _ _ (by simp [scSp])]
  exact h a ha
/-- a set of all of n things -/
theorem full_nI : ∀ n, n ≤ 30 → ((1 : Int32) <<< (nI n &&& 31)) - 1 = nI (2 ^ n - 1) := by decide +kernel
theorem b_full {n i : Nat} (hn : n ≤ 30) (hi : i < 32) : bt (((1 : Int32) <<< (nI n &&& 31)) - 1) i = decide (i < n) := by rw [full_nI n hn, b_nI _ hi, Nat.testBit_two_pow_sub_one]
/-- bits of a small set -/
theorem b_small {x n i : Nat} (h : x < 2 ^ n) (hi : n ≤ i) (hi2 : i < 32) : bt (nI x) i = false := by
  rw [b_nI _ hi2]
  exact Nat.testBit_lt_two_pow (Nat.lt_of_lt_of_le h (Nat.pow_le_pow_right (by decide) hi))
theorem b_teach {π : PV} (hF : WF π) {set : Int32} {what m i : Nat} (hm : ∀ l, l < nL π → ∃ n, n < 2 ^ m ∧ π 9 l what = nI n) (hi : m ≤ i) (hi2 : i < 32) : ∀ n, n ≤ nL π → bt (teachF π set what n) i = false := by
  intro n
  induction n with
  | zero => intro _; exact b_0 i
  | succ n ih =>
    intro hn
    have st : teachF π set what (n + 1) = if bt set n then teachF π set what n ||| π 9 n what else teachF π set what n := rfl
    obtain ⟨x, hx, e⟩ := hm n (by omega)
    rw [st]
    split
    · rw [b_or, ih (by omega), Bool.false_or, e]; exact b_small hx hi hi2
    · exact ih (by omega)
def amgF (π : PV) (asked set known : Int32) : Nat → Int32
  | 0 => asked &&& known
  | n + 1 => if bt (asked &&& (known ^^^ (-1))) n && rightS π n set then amgF π asked set known n ||| (1 <<< (nI n &&& 31)) else amgF π asked set known n
theorem b_amg {π : PV} {asked set known : Int32} : ∀ n, n ≤ 32 → ∀ i, i < 32 → bt (amgF π asked set known n) i = ((bt asked i && bt known i) || (decide (i < n) && (bt asked i && !bt known i && rightS π i set)))
  | 0, _, i, hi => by
    show bt (asked &&& known) i = _
    rw [b_and]
    simp
  | n + 1, hn, i, hi => by
    have ih := b_amg (π := π) (asked := asked) (set := set) (known := known) n (by omega) i hi
    have st : amgF π asked set known (n + 1) = if bt (asked &&& (known ^^^ (-1))) n && rightS π n set then amgF π asked set known n ||| (1 <<< (nI n &&& 31)) else amgF π asked set known n := rfl
    rw [st]
    by_cases e : i = n
    · subst e
      have hb : bt (asked &&& (known ^^^ (-1))) i = (bt asked i && !bt known i) := by rw [b_and, b_not _ hi]
      have d1 : decide (i < i) = false := by simp
      have d2 : decide (i < i + 1) = true := by simp
      rw [d1, Bool.false_and, Bool.or_false] at ih
      rw [d2, Bool.true_and, hb]
      cases hc : (bt asked i && !bt known i && rightS π i set) with
      | false =>
        rw [if_neg (by simp), ih, Bool.or_false]
      | true =>
        rw [if_pos rfl, b_or, one_shl hi hi]
        simp
    · have hd' : decide (i < n + 1) = decide (i < n) := by rw [decide_eq_decide]; omega
      rw [hd']
      split
      · rw [b_or, one_shl (by omega) hi, ih]
        simp [e]
      · exact ih
theorem b_readF {π : PV} {st by_ : Int32} : ∀ n, n ≤ 32 → ∀ i, i < 32 → bt (readF π st by_ n) i = (bt st i || (decide (i < n) && rightS π i by_))
  | 0, _, i, hi => by
    show bt st i = _
    simp
  | n + 1, hn, i, hi => by
    have ih := b_readF (π := π) (st := st) (by_ := by_) n (by omega) i hi
    have st' : readF π st by_ (n + 1) = if rightS π n by_ then readF π st by_ n ||| (1 <<< (nI n &&& 31)) else readF π st by_ n := rfl
    rw [st']
    by_cases e : i = n
    · subst e
      split
      · rename_i h
        rw [b_or, ih, one_shl hi hi]
        simp [h]
      · rename_i h
        rw [ih]
        simp [h]
    · have hd' : decide (i < n + 1) = decide (i < n) := by rw [decide_eq_decide]; omega
      rw [hd']
      split
      · rw [b_or, ih, one_shl (by omega) hi]
        simp [e]
      · rw [ih]
theorem amg_reads {π : PV} (hF : WF π) (set : Int32) : amgF π (((1 : Int32) <<< (nI (nW π) &&& 31)) - 1) (teachS π set 1) (teachS π set 2) (nW π) = readS π set := by
  have h24 := hF.1.2.1.2
  refine b_ext fun i hi => ?_
  show _ = bt (readF π (teachS π set 2) (teachS π set 1) (nW π)) i
  rw [b_amg _ (by omega) i hi, b_readF _ (by omega) i hi, b_full (by omega) hi]
  by_cases h : i < nW π
  · simp [h]
    cases bt (teachS π set 2) i <;> simp
  · have e : bt (teachS π set 2) i = false := b_teach hF (m := nW π) (fun l hl => (hF.2.2.2.1 l hl).2.2) (by omega) hi _ (Nat.le_refl _)
    simp [h, e]
section CR
variable {Γ : Gx} {d : Nat} {w : Wd} {π : PV} {P : Nat}
theorem wP {σ : St} (hC : PrC σ P π) (hF : WF π) : gI σ P 1 = nI (nS π) ∧ gI σ P 3 = nI (nW π) ∧ gI σ P 7 = nI (nL π) ∧ gI σ P 11 = nI (nP π) := ⟨Eq.trans hC.1.1 hF.1.1.1, Eq.trans hC.1.2.1 hF.1.2.1.1, Eq.trans hC.1.2.2.1 hF.1.2.2.1.1, Eq.trans hC.1.2.2.2 hF.1.2.2.2.1⟩
theorem c_mayFollow {Q : Int32 → St → Prop} {σ : St} {l : Nat} {set : Int32} (hw : RunW w) (hP : isP P) (hC : PrC σ P π) (hF : WF π) (hl : l < nL π) (hQ : Q (b2i (π 9 l 0 &&& (set ^^^ (-1)) == 0)) σ) : SpI Γ d mX4_mayFollow [.ref P, .int (nI l), .int set] σ w Q := by
  have hlt := P_lt hP
  have h7 := hF.1.2.2.1.2
  have e : gI σ (P + 3) l = π 9 l 0 := hC.2.2.2.1 l hl 0 (by decide)
  refine SpI.of pnX4 (Nat.le_of_ble_eq_true rfl) (vX4_mayFollow_0 (prO hw hP) (pr4 hw hP) (ok_ hw (by omega) (pO3 hP)) ⟨vk (pO3 hP) (by omega), ?_⟩)
  rw [cl (by omega), e]
  refine ⟨fun c => ?_, fun c => ?_⟩
  · rw [beq_eq_false_iff_ne.mpr c] at hQ
    exact hQ
  · rw [beq_iff_eq.mpr c] at hQ
    exact hQ
theorem lp_closedC {Q : Int32 → St → Prop} {σ : St} {set : Int32} (hw : RunW w) (hP : isP P) (hC : PrC σ P π) (hF : WF π) (hQ : Q (b2i (closedS π set)) σ) :
    ∀ n l, l + n = nL π → allB (fun l => !bt set l || (π 9 l 0 &&& (set ^^^ (-1)) == 0)) l = true → AI Γ (d + 1) mX4_isClosed w Q 2 [(0, .ref P), (1, .int set), (2, .int (nI l))] σ := by
  have h7 := hF.1.2.2.1.2
  have e0 := (wP hC hF).2.2.1
  intro n
  induction n with
  | zero =>
    intro l hl hall
    have : l = nL π := hl
    subst this
    refine vX4_isClosed_2 (prO hw hP) ?_
    rw [e0]
    refine ⟨fun _ => ?_, fun c => absurd (nI_le (Nat.le_refl _) (by omega)) c⟩
    have : closedS π set = true := hall
    rw [this] at hQ
    exact hQ
  | succ n ih =>
    intro l hl hall
    have st : allB (fun l => !bt set l || (π 9 l 0 &&& (set ^^^ (-1)) == 0)) (l + 1) = (!bt set l || (π 9 l 0 &&& (set ^^^ (-1)) == 0)) := by
      show (allB _ l && _) = _
      rw [hall, Bool.true_and]
    refine vX4_isClosed_2 (prO hw hP) ?_
    rw [e0, bit_v set (by omega), nI_1, b2i_n0, b2i_0]
    refine ⟨fun c => absurd c (nI_ge (by omega) (by omega)), fun _ => ⟨fun c => ih (l + 1) (by omega) (by rw [st, c]; rfl), fun c => c_mayFollow hw hP hC hF (by omega) ?_⟩⟩
    rw [b2i_n0, b2i_0]
    refine ⟨fun c2 => ih (l + 1) (by omega) (by rw [st, c2]; simp), fun c2 => ?_⟩
    have : closedS π set = false := by
      refine allB_false (n := l + 1) ?_ (by omega)
      rw [st, c, c2]
      rfl
    rw [this] at hQ
    exact hQ
theorem c_closedC {Q : Int32 → St → Prop} {σ : St} {set : Int32} (hw : RunW w) (hP : isP P) (hC : PrC σ P π) (hF : WF π) (hQ : Q (b2i (closedS π set)) σ) : SpI Γ (d + 1) mX4_isClosed [.ref P, .int set] σ w Q :=
  SpI.of pnX4 (Nat.le_of_ble_eq_true rfl) (vX4_isClosed_0 (lp_closedC hw hP hC hF hQ (nL π) 0 (Nat.zero_add _) rfl))
theorem lp_union {Q : Int32 → St → Prop} {σ : St} {set : Int32} {what : Nat} (hw : RunW w) (hP : isP P) (hC : PrC σ P π) (hF : WF π) (hwh : what = 1 ∨ what = 2) (hQ : Q (teachS π set what) σ) :
    ∀ n l, l + n = nL π → AI Γ d mX4_unionOf w Q 5 [(0, .ref P), (1, .ref (P + 3 + what)), (2, .int set), (3, .int (teachF π set what l)), (4, .int (nI l))] σ := by
  have hlt := P_lt hP
  have h7 := hF.1.2.2.1.2
  have e0 := (wP hC hF).2.2.1
  have kk : kd (P + 3 + what) = (20, 7) := by
    rcases hwh with rfl | rfl
    · exact pO4 hP
    · exact pO5 hP
  intro n
  induction n with
  | zero =>
    intro l hl
    have : l = nL π := hl
    subst this
    refine vX4_unionOf_5 (prO hw hP) (ok_ hw (by omega) kk) ?_
    rw [e0]
    exact ⟨fun _ => hQ, fun c => absurd (nI_le (Nat.le_refl _) (by omega)) c⟩
  | succ n ih =>
    intro l hl
    have nx := ih (l + 1) (by omega)
    have st : teachF π set what (l + 1) = if bt set l then teachF π set what l ||| π 9 l what else teachF π set what l := rfl
    have e : gI σ (P + 3 + what) l = π 9 l what := hC.2.2.2.1 l (by omega) what (by omega)
    refine vX4_unionOf_5 (prO hw hP) (ok_ hw (by omega) kk) ?_
    rw [e0, bit_v set (by omega), nI_1, b2i_n0, b2i_0, cl (by omega), e]
    refine ⟨fun c => absurd c (nI_ge (by omega) (by omega)), fun _ => ⟨fun c => ?_, fun c => ⟨vk kk (by omega), ?_⟩⟩⟩
    · rw [st, c, if_neg (by decide)] at nx
      exact nx
    · rw [st, c, if_pos rfl] at nx
      exact nx
theorem c_union {Q : Int32 → St → Prop} {σ : St} {set : Int32} {what : Nat} (hw : RunW w) (hP : isP P) (hC : PrC σ P π) (hF : WF π) (hwh : what = 1 ∨ what = 2) (hQ : Q (teachS π set what) σ) : SpI Γ d mX4_unionOf [.ref P, .ref (P + 3 + what), .int set] σ w Q :=
  SpI.of pnX4 (Nat.le_of_ble_eq_true rfl) (vX4_unionOf_0 (lp_union hw hP hC hF hwh hQ (nL π) 0 (Nat.zero_add _)))
theorem c_signsOf {Q : Int32 → St → Prop} {σ : St} {set : Int32} (hw : RunW w) (hP : isP P) (hC : PrC σ P π) (hF : WF π) (hQ : Q (teachS π set 1) σ) : SpI Γ (d + 1) mX4_signsOf [.ref P, .int set] σ w Q :=
  SpI.of pnX4 (Nat.le_of_ble_eq_true rfl) (vX4_signsOf_0 (prO hw hP) (pr5 hw hP) (c_union hw hP hC hF (Or.inl rfl) hQ))
theorem lp_among {Q : Int32 → St → Prop} {σ0 : St} {asked set known : Int32} (hw : RunW w) (hP : isP P) (hC0 : PrC σ0 P π) (hT0 : FtC σ0 P π) (hF : WF π) (hQ : ∀ σ', Fr (scSp P) σ0 σ' → Q (amgF π asked set known (nW π)) σ') :
    ∀ n v s, v + n = nW π → Fr (scSp P) σ0 s → AI Γ (d + 2) mX4_readAmong w Q 8 [(0, .ref P), (1, .int asked), (2, .int set), (3, .int known), (4, .int (amgF π asked set known v)), (5, .int (nI v))] s := by
  have hlt := P_lt hP
  have h24 := hF.1.2.1.2
  intro n
  induction n with
  | zero =>
    intro v s hv hf
    have : v = nW π := hv
    subst this
    refine vX4_readAmong_8 (prO hw hP) (pr12 hw hP) (pr2 hw hP) (wdE hw hP (by omega)) (okL hw (by omega) (pO17 hP)) (lo_ hw (by omega)) (k24 (pO2 hP) (by decide)) (k28 (pO2 hP) (by decide)) ?_
    rw [(wP (hC0.fr hF scSp_pr hf) hF).2.1]
    exact ⟨fun _ => hQ s hf, fun c => absurd (nI_le (Nat.le_refl _) (by omega)) c⟩
  | succ n ih =>
    intro v s hv hf
    have hC := hC0.fr hF scSp_pr hf
    have st : amgF π asked set known (v + 1) = if bt (asked &&& (known ^^^ (-1))) v && rightS π v set then amgF π asked set known v ||| (1 <<< (nI v &&& 31)) else amgF π asked set known v := rfl
    refine vX4_readAmong_8 (prO hw hP) (pr12 hw hP) (pr2 hw hP) (wdE hw hP (by omega)) (okL hw (by omega) (pO17 hP)) (lo_ hw (by omega)) (k24 (pO2 hP) (by decide)) (k28 (pO2 hP) (by decide)) ?_
    rw [(wP hC hF).2.1, wdA_ (by omega), bit_v _ (by omega), nI_1, b2i_n0, b2i_0]
    refine ⟨fun c => absurd c (nI_ge (by omega) (by omega)), fun _ => ⟨fun c => ⟨vk (pO2 hP) (by omega), c_say hw hP hC (hT0.fr hF scSp_pr hf) hF (by omega) fun s1 z => ?_⟩, fun c => ?_⟩⟩
    · have nx := ih (v + 1) s1 (by omega) (hf.tr z.1)
      rw [st, c, Bool.true_and] at nx
      rw [z.2.2.2.2.2.1, b2i_n0, b2i_0]
      refine ⟨fun c2 => ?_, fun c2 => ?_⟩
      · rw [c2] at nx; exact nx
      · rw [c2] at nx; exact nx
    · have nx := ih (v + 1) s (by omega) hf
      rw [st, c, Bool.false_and] at nx
      exact nx
theorem c_among {Q : Int32 → St → Prop} {σ : St} {asked set known : Int32} (hw : RunW w) (hP : isP P) (hC : PrC σ P π) (hT : FtC σ P π) (hF : WF π) (hQ : ∀ σ', Fr (scSp P) σ σ' → Q (amgF π asked set known (nW π)) σ') : SpI Γ (d + 2) mX4_readAmong [.ref P, .int asked, .int set, .int known] σ w Q :=
  SpI.of pnX4 (Nat.le_of_ble_eq_true rfl) (vX4_readAmong_0 (lp_among hw hP hC hT hF hQ (nW π) 0 σ (Nat.zero_add _) (Fr.rf σ)))
theorem c_readBy {Q : Int32 → St → Prop} {σ : St} {a : Nat} (hw : RunW w) (hP : isP P) (hC : PrC σ P π) (hT : FtC σ P π) (hF : WF π) (hA : CaC σ P π) (ha : a < 2 ^ nL π) (hQ : ∀ σ', Fr (scV P) σ σ' → CaC σ' P π → Q (readS π (nI a)) σ') : SpI Γ (d + 3) mX4_readBy [.ref P, .int (nI a)] σ w Q := by
  have hlt := P_lt hP
  have h7 := hF.1.2.2.1.2
  have h128 : a < 128 := Nat.lt_of_lt_of_le ha (Nat.pow_le_pow_right (by decide) h7 : 2 ^ nL π ≤ 2 ^ 7)
  have o19 := ok_ hw (by omega) (pO19 hP)
  refine SpI.of pnX4 (Nat.le_of_ble_eq_true rfl) (vX4_readBy_0 (prO hw hP) (pr13 hw hP) o19 (pr6 hw hP) (lo_ hw (by omega)) (k20 (pO19 hP) (by decide)) (k28 (pO19 hP) (by decide)) ?_)
  have vi : vp_in (nI a) (kd (P + 19)).2 := vk (pO19 hP) h128
  rw [pO19 hP, cl (by omega)]
  rw [pO19 hP] at vi
  refine ⟨fun c => absurd c (nI_pos (by omega)), fun _ => ⟨fun _ => ⟨vi, fun c => ⟨vi, ?_⟩, fun c => ?_⟩, fun c => absurd (nI_lt (b := 128) h128 (by decide)) c⟩⟩
  · rcases hA a ha with e | e
    · exact absurd e c
    · rw [e]
      exact hQ σ (Fr.rf σ) hA
  · refine c_signsOf hw hP hC hF (c_union (what := 2) hw hP hC hF (Or.inr rfl) ?_)
    rw [(wP hC hF).2.1]
    refine c_among hw hP hC hT hF fun s hs => ⟨vi, vi, ?_⟩
    rw [amg_reads hF, gI_uI, if_pos ⟨rfl, rfl⟩]
    refine hQ _ ((hs.mono scSp_V).tr (fr_I (by simp [scV]))) (fun b hb => ?_)
    rw [gI_uI]
    by_cases e : b = a
    · subst e
      rw [if_pos ⟨rfl, rfl⟩]
      exact Or.inr rfl
    · rw [if_neg (by omega)]
      exact hA.sp hs b hb
theorem c_unknownOn {Q : Int32 → St → Prop} {σ : St} {p : Nat} {known : Int32} (hw : RunW w) (hP : isP P) (hC : PrC σ P π) (hF : WF π) (hp : p < nP π) (hQ : Q (nI (unkS π p known)) σ) : SpI Γ (d + 1) mX4_unknownOn [.ref P, .int (nI p), .int known] σ w Q := by
  have hlt := P_lt hP
  have h8 := hF.1.2.2.2.2
  have h24 := hF.1.2.1.2
  have e : gI σ (P + 16) p = π 12 p 0 := (hC.2.2.2.2 p hp).2.2
  refine SpI.of pnX4 (Nat.le_of_ble_eq_true rfl) (vX4_unknownOn_0 (prO hw hP) (pr10 hw hP) (ok_ hw (by omega) (pO16 hP)) ⟨vk (pO16 hP) (by omega), ?_⟩)
  rw [cl (by omega), e]
  refine c_bitCount ?_
  rw [cnt_24]
  · exact hQ
  · intro i hi hi2
    rw [b_and]
    obtain ⟨-, -, -, p4, p5⟩ := hF.2.2.2.2 p hp
    cases hb : bt (π 12 p 0) i with
    | false => rfl
    | true =>
      obtain ⟨j, hj, q⟩ := (p5 i hi2).mp hb
      obtain ⟨v, hv, q2⟩ := p4 j hj
      rw [q2, nI_eq (by omega) (by omega)] at q
      omega
end CR
