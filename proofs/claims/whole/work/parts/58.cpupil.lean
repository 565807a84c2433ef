/-! the class: pupils hold and use -/
def usB (κ : KV) (q : Nat) (set : Int32) (off k : Nat) : Bool := bt set k && !(heldS κ q (off + k) && (κ 3 (44 * q + (off + k)) == κ 0 q))
def usS (κ : KV) (q : Nat) (set : Int32) (off k : Nat) : Int32 := if usB κ q set off k then spanN κ q (off + k) else κ 2 (44 * q + (off + k))
def usL (κ : KV) (q : Nat) (set : Int32) (off k : Nat) : Int32 := if usB κ q set off k then κ 0 q else κ 3 (44 * q + (off + k))
theorem useK_o {κ : KV} {q j t i : Nat} (h : ¬ ((t = 2 ∨ t = 3) ∧ i = 44 * q + j)) : useK κ q j t i = κ t i := by
  unfold useK
  split
  · rfl
  · unfold updK
    rw [if_neg (fun e => h ⟨Or.inr e.1, e.2⟩), if_neg (fun e => h ⟨Or.inl e.1, e.2⟩)]
theorem useF_o {κ : KV} {q : Nat} {set : Int32} {off t i : Nat} : ∀ n, ¬ ((t = 2 ∨ t = 3) ∧ 44 * q + off ≤ i ∧ i < 44 * q + off + n) → useF κ q set off n t i = κ t i
  | 0, _ => rfl
  | n + 1, h => by
    have ih := useF_o (κ := κ) (q := q) (set := set) (off := off) (t := t) (i := i) n (fun e => h ⟨e.1, e.2.1, by omega⟩)
    show (if bt set n then useK (useF κ q set off n) q (off + n) else useF κ q set off n) t i = _
    split
    · rw [useK_o (fun e => h ⟨e.1, by omega, by omega⟩)]
      exact ih
    · exact ih
theorem useF_i {κ : KV} {q : Nat} {set : Int32} {off : Nat} : ∀ n k, k < n → useF κ q set off n 2 (44 * q + (off + k)) = usS κ q set off k ∧ useF κ q set off n 3 (44 * q + (off + k)) = usL κ q set off k
  | 0, k, h => absurd h (Nat.not_lt_zero k)
  | n + 1, k, h => by
    have st : useF κ q set off (n + 1) = if bt set n then useK (useF κ q set off n) q (off + n) else useF κ q set off n := rfl
    by_cases e : k = n
    · subst e
      have o2 : useF κ q set off k 2 (44 * q + (off + k)) = κ 2 (44 * q + (off + k)) := useF_o k (fun e => by omega)
      have o3 : useF κ q set off k 3 (44 * q + (off + k)) = κ 3 (44 * q + (off + k)) := useF_o k (fun e => by omega)
      have o0 : useF κ q set off k 0 q = κ 0 q := useF_o k (fun e => by omega)
      have o4 : useF κ q set off k 4 0 = κ 4 0 := useF_o k (fun e => by omega)
      have hh : heldS (useF κ q set off k) q (off + k) = heldS κ q (off + k) := by unfold heldS; rw [o2, o3, o0]
      have hsp : spanN (useF κ q set off k) q (off + k) = spanN κ q (off + k) := by unfold spanN; rw [hh, o2, o4]
      unfold usS usL usB
      rw [st]
      cases hb : bt set k with
      | false =>
        rw [if_neg (by decide), Bool.false_and, if_neg (by decide), if_neg (by decide)]
        exact ⟨o2, o3⟩
      | true =>
        rw [if_pos rfl, Bool.true_and]
        unfold useK
        rw [hh, o3, o0, hsp]
        cases hc : (heldS κ q (off + k) && (κ 3 (44 * q + (off + k)) == κ 0 q)) with
        | true =>
          rw [if_pos rfl, if_neg (by decide), if_neg (by decide)]
          exact ⟨o2, o3⟩
        | false =>
          rw [if_neg (by decide), if_pos (by decide), if_pos (by decide)]
          unfold updK
          refine ⟨?_, ?_⟩
          · rw [if_neg (by omega), if_pos ⟨rfl, rfl⟩]
          · rw [if_pos ⟨rfl, rfl⟩]
    · obtain ⟨i1, i2⟩ := useF_i (κ := κ) (q := q) (set := set) (off := off) n k (by omega)
      rw [st]
      split
      · rw [useK_o (fun e => by omega), useK_o (fun e => by omega)]
        exact ⟨i1, i2⟩
      · exact ⟨i1, i2⟩
theorem useF_ext {κ : KV} {q : Nat} {set : Int32} {off n : Nat} : ∀ r, (∀ k, n ≤ k → k < n + r → bt set k = false) → useF κ q set off (n + r) = useF κ q set off n
  | 0, _ => rfl
  | r + 1, h => by
    show (if bt set (n + r) then _ else useF κ q set off (n + r)) = _
    rw [h (n + r) (by omega) (by omega), if_neg (by decide)]
    exact useF_ext r (fun k h1 h2 => h k h1 (by omega))
theorem heldF_ext {κ : KV} {q off n : Nat} : ∀ r, (∀ k, n ≤ k → k < n + r → heldS κ q (off + k) = false) → heldF κ q off (n + r) = heldF κ q off n
  | 0, _ => rfl
  | r + 1, h => by
    show (if heldS κ q (off + (n + r)) then _ else heldF κ q off (n + r)) = _
    rw [h (n + r) (by omega) (by omega), if_neg (by decide)]
    exact heldF_ext r (fun k h1 h2 => h k h1 (by omega))
theorem b_heldF {κ : KV} {q off : Nat} : ∀ n, n ≤ 32 → ∀ i, i < 32 → bt (heldF κ q off n) i = (decide (i < n) && heldS κ q (off + i))
  | 0, _, i, _ => by
    show bt 0 i = _
    rw [b_0]; simp
  | n + 1, hn, i, hi => by
    have ih := b_heldF (κ := κ) (q := q) (off := off) n (by omega) i hi
    show bt (if heldS κ q (off + n) then heldF κ q off n ||| (1 <<< (nI n &&& 31)) else heldF κ q off n) i = _
    by_cases e : i = n
    · subst e
      split
      · rename_i h
        rw [b_or, one_shl hi hi]
        simp [h]
      · rename_i h
        rw [ih]
        simp [h]
    · have hd' : decide (i < n + 1) = decide (i < n) := by rw [decide_eq_decide]; omega
      rw [hd']
      split
      · rw [b_or, ih, one_shl (by omega) hi]
        simp [e]
      · exact ih
theorem today {κ : KV} {q j : Nat} : (heldS κ q j && (κ 3 (44 * q + j) == κ 0 q)) = (!decide (κ 2 (44 * q + j) ≤ 0) && (κ 3 (44 * q + j) == κ 0 q)) := by
  cases hb : (κ 3 (44 * q + j) == κ 0 q) with
  | false => simp
  | true =>
    rw [beq_iff_eq] at hb
    unfold heldS
    rw [hb, show κ 0 q - κ 0 q = 0 from Int32.sub_self _]
    cases hc : decide (κ 2 (44 * q + j) ≤ 0) with
    | true => rfl
    | false =>
      have : decide (κ 2 (44 * q + j) < 0) = false := by
        rw [decide_eq_false_iff_not] at hc ⊢
        intro h
        exact hc (Int32.le_of_lt h)
      rw [this]
      rfl
def scM2 (s l o _k : Nat) : Bool := o == s || o == l
theorem pnX2 : plainName RX2 = true := by decide +kernel
section CPU
variable {Γ : Gx} {d : Nat} {w : Wd} {κ : KV}
/-- a memory: its rows, what they hold -/
def MemC (w : Wd) (M s l n : Nat) : Prop := okO w M 2 ∧ w.2 M 0 = some s ∧ w.2 M 1 = some l ∧ okO w s 20 ∧ okO w l 20 ∧ (kd s).2 = n ∧ (kd l).2 = n ∧ n ≤ 24 ∧ s ≠ l
def MemV (σ : St) (κ : KV) (q off s l n : Nat) : Prop := ∀ k, k < n → gI σ s k = κ 2 (44 * q + (off + k)) ∧ gI σ l k = κ 3 (44 * q + (off + k))
theorem lp_heldOn {Q : Int32 → St → Prop} {σ : St} {q off M s l n : Nat} (hM : MemC w M s l n) (hV : MemV σ κ q off s l n) (hQ : Q (heldF κ q off n) σ) :
    ∀ r k, k + r = n → AI Γ d mX2_heldOn w Q 4 [(0, .ref M), (1, .int (κ 0 q)), (2, .int (heldF κ q off k)), (3, .int (nI k))] σ := by
  obtain ⟨m1, m2, m3, m4, m5, m6, m7, m8, m9⟩ := hM
  intro r
  induction r with
  | zero =>
    intro k hk
    have : k = n := hk
    subst this
    refine vX2_heldOn_4 m1 m2 m3 m4 m5 m4.1 (by rw [m4.2]; decide) (by rw [m4.2]; decide) ?_
    rw [m6]
    exact ⟨fun _ => hQ, fun c => absurd (nI_le (Nat.le_refl _) (by omega)) c⟩
  | succ r ih =>
    intro k hk
    have nx := ih (k + 1) (by omega)
    obtain ⟨v1, v2⟩ := hV k (by omega)
    have st : heldF κ q off (k + 1) = if heldS κ q (off + k) then heldF κ q off k ||| (1 <<< (nI k &&& 31)) else heldF κ q off k := rfl
    have hh : heldS κ q (off + k) = (!decide (κ 2 (44 * q + (off + k)) ≤ 0) && !decide (κ 2 (44 * q + (off + k)) < κ 0 q - κ 3 (44 * q + (off + k)))) := rfl
    refine vX2_heldOn_4 m1 m2 m3 m4 m5 m4.1 (by rw [m4.2]; decide) (by rw [m4.2]; decide) ?_
    rw [m6, m7, cl (by omega), v1, v2, nI_1]
    have vi : vp_in (nI k) n := vp_in_nI (by omega) (by omega)
    rw [st, hh] at nx
    refine ⟨fun c => absurd c (nI_ge (by omega) (by omega)), fun _ => ⟨vi, fun c => ?_, fun c => ⟨vi, vi, fun c2 => ?_, fun c2 => ?_⟩⟩⟩
    · rw [decide_eq_true c] at nx; exact nx
    · rw [decide_eq_false c, decide_eq_true c2] at nx; exact nx
    · rw [decide_eq_false c, decide_eq_false c2] at nx; exact nx
theorem c_heldOn {Q : Int32 → St → Prop} {σ : St} {q off M s l n : Nat} (hM : MemC w M s l n) (hV : MemV σ κ q off s l n) (hQ : Q (heldF κ q off n) σ) : SpI Γ d mX2_heldOn [.ref M, .int (κ 0 q)] σ w Q :=
  SpI.of pnX2 (Nat.le_of_ble_eq_true rfl) (vX2_heldOn_0 (lp_heldOn hM hV hQ n 0 (Nat.zero_add _)))
theorem span_min {x : Int32} : (if 2 * x < 999 then 2 * x else 999) = (if 2 * x ≤ 999 then 2 * x else (999 : Int32)) := by
  by_cases h : 2 * x < 999
  · rw [if_pos h, if_pos (Int32.le_of_lt h)]
  · rw [if_neg h]
    by_cases h2 : 2 * x ≤ 999
    · rw [if_pos h2]
      exact (Int32.le_antisymm h2 (Int32.not_lt.mp h)).symm
    · rw [if_neg h2]
theorem lp_use {Q : St → Prop} {σ0 : St} {q off M s l n : Nat} {set : Int32} (hM : MemC w M s l n) (hV0 : MemV σ0 κ q off s l n) (hQ : ∀ σ', Fr (scM2 s l) σ0 σ' → (∀ k, k < n → gI σ' s k = usS κ q set off k ∧ gI σ' l k = usL κ q set off k) → Q σ') :
    ∀ r k u, k + r = n → Fr (scM2 s l) σ0 u → (∀ j, j < k → gI u s j = usS κ q set off j ∧ gI u l j = usL κ q set off j) → (∀ j, k ≤ j → j < n → gI u s j = κ 2 (44 * q + (off + j)) ∧ gI u l j = κ 3 (44 * q + (off + j))) → AV Γ (d + 1) mX2_use w Q 10 [(0, .ref M), (1, .int set), (2, .int (κ 0 q)), (3, .int (κ 4 0)), (4, .int (heldF κ q off n)), (5, .int (nI k))] u := by
  obtain ⟨m1, m2, m3, m4, m5, m6, m7, m8, m9⟩ := hM
  intro r
  induction r with
  | zero =>
    intro k u hk hf hd _
    have : k = n := hk
    subst this
    refine vX2_use_10 m1 m2 m3 m5 m4 m4.1 (by rw [m4.2]; decide) (by rw [m4.2]; decide) ?_
    rw [m6]
    exact ⟨fun _ => hQ u hf hd, fun c => absurd (nI_le (Nat.le_refl _) (by omega)) c⟩
  | succ r ih =>
    intro k u hk hf hd hr
    obtain ⟨v1, v2⟩ := hr k (Nat.le_refl _) (by omega)
    have vi : vp_in (nI k) n := vp_in_nI (by omega) (by omega)
    have hh : bt (heldF κ q off n) k = heldS κ q (off + k) := by
      rw [b_heldF n (by omega) k (by omega)]
      simp [show k < n by omega]
    have td := today (κ := κ) (q := q) (j := off + k)
    -- it stays
    have stay : usB κ q set off k = false → AV Γ (d + 1) mX2_use w Q 10 [(0, .ref M), (1, .int set), (2, .int (κ 0 q)), (3, .int (κ 4 0)), (4, .int (heldF κ q off n)), (5, .int (nI (k + 1)))] u := by
      intro hb
      refine ih (k + 1) u (by omega) hf (fun j hj => ?_) (fun j h1 h2 => hr j (by omega) h2)
      by_cases e : j = k
      · subst e
        unfold usS usL
        rw [hb]
        exact ⟨v1, v2⟩
      · exact hd j (by omega)
    -- it is used
    have used : ∀ x : Int32, usB κ q set off k = true → x = spanN κ q (off + k) → AV Γ (d + 1) mX2_use w Q 10 [(0, .ref M), (1, .int set), (2, .int (κ 0 q)), (3, .int (κ 4 0)), (4, .int (heldF κ q off n)), (5, .int (nI (k + 1)))] (uI (uI u s k x) l k (κ 0 q)) := by
      intro x hb hx
      refine ih (k + 1) _ (by omega) (hf.tr ((fr_I (by simp [scM2])).tr (fr_I (by simp [scM2])))) (fun j hj => ?_) (fun j h1 h2 => ?_)
      · by_cases e : j = k
        · subst e
          unfold usS usL
          rw [hb]
          refine ⟨?_, ?_⟩
          · rw [gI_uI, if_neg (fun e => m9 e.1), gI_uI, if_pos ⟨rfl, rfl⟩, hx]; rfl
          · rw [gI_uI, if_pos ⟨rfl, rfl⟩]; rfl
        · obtain ⟨a1, a2⟩ := hd j (by omega)
          refine ⟨?_, ?_⟩
          · rw [gI_uI, if_neg (by omega), gI_uI, if_neg (by omega)]; exact a1
          · rw [gI_uI, if_neg (by omega), gI_uI, if_neg (by omega)]; exact a2
      · obtain ⟨a1, a2⟩ := hr j (by omega) h2
        refine ⟨?_, ?_⟩
        · rw [gI_uI, if_neg (by omega), gI_uI, if_neg (by omega)]; exact a1
        · rw [gI_uI, if_neg (by omega), gI_uI, if_neg (by omega)]; exact a2
    have put : usB κ q set off k = true → ((heldS κ q (off + k) = false → (vp_in (nI k) n) ∧ (vp_in (nI k) n) ∧ AV Γ (d + 1) mX2_use w Q 10 [(0, .ref M), (1, .int set), (2, .int (κ 0 q)), (3, .int (κ 4 0)), (4, .int (heldF κ q off n)), (5, .int (nI (k + 1)))] (uI (uI u s k (κ 4 0)) l k (κ 0 q))) ∧ (heldS κ q (off + k) = true → (vp_in (nI k) n) ∧ SpI Γ d mJ9_min_7cf53 [.int (999 : Int32), .int ((2 : Int32) * κ 2 (44 * q + (off + k)))] u w (fun v2 s1 => (vp_in (nI k) n) ∧ (vp_in (nI k) n) ∧ AV Γ (d + 1) mX2_use w Q 10 [(0, .ref M), (1, .int set), (2, .int (κ 0 q)), (3, .int (κ 4 0)), (4, .int (heldF κ q off n)), (5, .int (nI (k + 1)))] (uI (uI s1 s k v2) l k (κ 0 q))))) := by
      intro hb
      refine ⟨fun c => ⟨vi, vi, used _ hb ?_⟩, fun c => ⟨vi, c_min (fun c2 => ⟨vi, vi, used _ hb ?_⟩) (fun c2 => ⟨vi, vi, used _ hb ?_⟩)⟩⟩
      · unfold spanN; rw [c]; rfl
      · unfold spanN
        rw [c, if_pos rfl, ← span_min, if_pos c2]
      · unfold spanN
        rw [c, if_pos rfl, ← span_min, if_neg c2]
    have ub : usB κ q set off k = (bt set k && !(!decide (κ 2 (44 * q + (off + k)) ≤ 0) && (κ 3 (44 * q + (off + k)) == κ 0 q))) := by unfold usB; rw [td]
    refine vX2_use_10 m1 m2 m3 m5 m4 m4.1 (by rw [m4.2]; decide) (by rw [m4.2]; decide) ?_
    rw [m6, m7, cl (by omega), v1, v2, nI_1, bit_v set (by omega), bit_v _ (by omega), hh, b2i_n0, b2i_0, b2i_n0, b2i_0]
    refine ⟨fun c => absurd c (nI_ge (by omega) (by omega)), fun _ => ⟨fun c => ?_, fun c => ⟨vi, fun c2 => put ?_, fun c2 => ⟨vi, fun c3 => put ?_, fun c3 => stay ?_⟩⟩⟩⟩
    · have sb := stay (by rw [ub, c]; rfl)
      exact ⟨vi, fun _ => sb, fun _ => ⟨vi, fun _ => sb, fun _ => sb⟩⟩
    · rw [ub, c, decide_eq_true c2]; rfl
    · rw [ub, c, decide_eq_false c2, beq_eq_false_iff_ne.mpr c3]; rfl
    · rw [ub, c, decide_eq_false c2, beq_iff_eq.mpr c3]; rfl
theorem c_useC {Q : St → Prop} {σ : St} {q off M s l n : Nat} {set : Int32} (hM : MemC w M s l n) (hV : MemV σ κ q off s l n) (hQ : ∀ σ', Fr (scM2 s l) σ σ' → (∀ k, k < n → gI σ' s k = usS κ q set off k ∧ gI σ' l k = usL κ q set off k) → Q σ') : SpV Γ (d + 1) mX2_use [.ref M, .int set, .int (κ 0 q), .int (κ 4 0)] σ w Q :=
  SpV.of pnX2 (Nat.le_of_ble_eq_true rfl) (vX2_use_0 hM.1 (c_heldOn hM hV (lp_use hM hV hQ n 0 σ (Nat.zero_add _) (Fr.rf σ) (fun j hj => absurd hj (Nat.not_lt_zero j)) (fun j _ hj => hV j hj))))
end CPU
