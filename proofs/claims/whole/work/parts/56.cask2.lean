/-! the class answers: words, lessons, pages, cuts, speech -/
section CQ2
variable {Γ : Gx} {d : Nat} {w : Wd} {π : PV} {P : Nat}
theorem out_n {z : Int32} {N : Nat} (hN : N < 1000) (h : z < 0 ∨ ¬ z ≤ nI N) : ∀ m, m ≤ N → ¬ z = nI m := by
  intro m hm e
  subst e
  rcases h with h | h
  · exact nI_pos (by omega) h
  · exact h (nI_le hm (by omega))
theorem bw_n {z : Int32} {N a b : Nat} (hN : N < 1000) (hb : b ≤ N) (h : z < 0 ∨ ¬ z ≤ nI N) : bwI z a b = false := by
  cases hc : bwI z a b with
  | false => rfl
  | true =>
    obtain ⟨m, m1, m2, e⟩ := bwI_of hc
    exact absurd e (out_n hN h m (by omega))
theorem bw_y {m a b : Nat} (hm : m < 2 ^ 31) : bwI (nI m) a b = (decide (a ≤ m) && decide (m ≤ b)) := by
  unfold bwI
  rw [nI_toInt hm]
  congr 1 <;> rw [decide_eq_decide] <;> omega
theorem C_word {Q : Int32 → St → Prop} {σ : St} {x y : Int32} (hw : RunW w) (hF : WF π) (hC : CP σ P π) (hQ : Q (A_word π x y) σ) : SpI Γ (d + 1) mX11_word [.ref 0, .int x, .int y] σ w Q := by
  have hlt := P_lt hC.2.1
  have h24 := hF.1.2.1.2
  refine SpI.of pnX11 (Nat.le_of_ble_eq_true rfl) (vX11_word_0 hw (c_isWordC hw hF hC ?_))
  rw [b2i_n0, b2i_0]
  unfold A_word at hQ
  refine ⟨fun q => ?_, fun q => by rw [q] at hQ; exact hQ⟩
  rw [q, if_pos rfl] at hQ
  obtain ⟨v, hv, rfl⟩ := inB_of q
  rw [cl (by omega)] at hQ
  obtain ⟨w1, w2, w3, w4, w5, w6, -⟩ := hF.2.2.1 v hv
  obtain ⟨e1, e2, e3, e4⟩ := hC.2.2.1.2.2.1 v hv
  obtain ⟨o3, ⟨r1, r2, r3⟩, ⟨o4, z4⟩, ⟨o5, z5⟩, -⟩ := wdF hw hC.2.1 (k := v) (by omega)
  have out : (y < 0 ∨ ¬ y ≤ nI 17) → Q (-1002) σ := by
    intro h
    have n0 : ¬ y = 0 := out_n (by decide) h 0 (by decide)
    have n1 : ¬ y = 1 := out_n (by decide) h 1 (by decide)
    rw [if_neg n0, if_neg n1, bw_n (by decide) (by decide) h, bw_n (by decide) (by decide) h] at hQ
    exact hQ
  refine ⟨fun q => out (Or.inl q), fun q => ⟨fun q2 => wdR hw hC.2.1 hC.1 (by omega) ⟨fun q3 => ⟨fun q4 => ⟨fun q5 => ⟨o3, P + 62 + 4 * v, r2, o3, ?_⟩, fun q5 => ⟨o3, P + 61 + 4 * v, r1, o3, ?_⟩⟩, fun q4 => ⟨o3, ?_⟩⟩, fun q3 => ⟨o3, ?_⟩⟩, fun q2 => out (Or.inr q2)⟩⟩
  · obtain ⟨m, hm, rfl⟩ := nI_of q
    have m17 : m ≤ 17 := (nI_leI (b := 17) (by omega) (by decide)).mp q2
    have m10 : 10 ≤ m := (nI_leI (a := 10) (by decide) (by omega)).mp q5
    rw [if_neg q3, if_neg q4, bw_y (by omega), bw_y (by omega), cl (by omega)] at hQ
    have d1 : (decide (2 ≤ m) && decide (m ≤ 9)) = false := by simp; omega
    have d2 : (decide (10 ≤ m) && decide (m ≤ 17)) = true := by simp; omega
    rw [d1, d2, if_neg (by decide), if_pos rfl] at hQ
    have g1 : gI σ (P + 60 + 4 * v) 3 = nI (wN π v) := Eq.trans e2 w4
    rw [g1, show nI m - (2 : Int32) = nI (m - 2) from pk_sub (b := 2) (by omega), show nI (m - 2) - (8 : Int32) = nI (m - 2 - 8) from pk_sub (b := 8) (by omega), show m - 2 - 8 = m - 10 by omega]
    refine c_at o5 z5 (by decide) w6 ?_
    rw [inB_nI (by omega), cl (by omega)]
    by_cases e : m - 10 < wN π v
    · rw [if_pos e] at hQ
      have : gI σ (P + 62 + 4 * v) (m - 10) = π 8 v (m - 10) := e4 _ e
      rw [decide_eq_true e, if_pos rfl, this]
      exact hQ
    · rw [if_neg e] at hQ
      rw [decide_eq_false e, if_neg (by decide)]
      exact hQ
  · obtain ⟨m, hm, rfl⟩ := nI_of q
    have m10 : ¬ 10 ≤ m := fun e => q5 (nI_le (a := 10) e (by omega))
    have m0 : ¬ m = 0 := fun e => q3 (by rw [e]; rfl)
    have m1 : ¬ m = 1 := fun e => q4 (by rw [e]; rfl)
    rw [if_neg q3, if_neg q4, bw_y (by omega), cl (by omega)] at hQ
    have d1 : (decide (2 ≤ m) && decide (m ≤ 9)) = true := by simp; omega
    rw [d1, if_pos rfl] at hQ
    have g1 : gI σ (P + 60 + 4 * v) 1 = nI (wS π v) := Eq.trans e1 w1
    rw [g1, show nI m - (2 : Int32) = nI (m - 2) from pk_sub (b := 2) (by omega)]
    refine c_at o4 z4 (by decide) w3 ?_
    rw [inB_nI (by omega), cl (by omega)]
    by_cases e : m - 2 < wS π v
    · rw [if_pos e] at hQ
      have : gI σ (P + 61 + 4 * v) (m - 2) = π 6 v (m - 2) := e3 _ e
      rw [decide_eq_true e, if_pos rfl, this]
      exact hQ
    · rw [if_neg e] at hQ
      rw [decide_eq_false e, if_neg (by decide)]
      exact hQ
  · rw [if_neg q3, if_pos q4] at hQ
    have : gI σ (P + 60 + 4 * v) 3 = π 7 v 0 := e2
    rw [this]
    exact hQ
  · rw [if_pos q3] at hQ
    have : gI σ (P + 60 + 4 * v) 1 = π 5 v 0 := e1
    rw [this]
    exact hQ
theorem C_lesson {Q : Int32 → St → Prop} {σ : St} {x y : Int32} (hw : RunW w) (hF : WF π) (hC : CP σ P π) (hQ : Q (A_lesson π x y) σ) : SpI Γ (d + 1) mX11_lesson [.ref 0, .int x, .int y] σ w Q := by
  have hlt := P_lt hC.2.1
  have h7 := hF.1.2.2.1.2
  refine SpI.of pnX11 (Nat.le_of_ble_eq_true rfl) (vX11_lesson_0 hw (c_isLessonC hw hF hC ?_))
  rw [b2i_n0, b2i_0]
  unfold A_lesson at hQ
  refine ⟨fun q => ?_, fun q => by rw [q] at hQ; exact hQ⟩
  rw [q, if_pos rfl] at hQ
  obtain ⟨l, hl, rfl⟩ := inB_of q
  rw [cl (by omega)] at hQ
  have row : ∀ j, j < 3 → gI σ (P + 3 + j) l = π 9 l j := fun j hj => hC.2.2.1.2.2.2.1 l hl j hj
  have hP := hC.2.1
  have out : (y < 0 ∨ ¬ y ≤ nI 2) → Q (-1002) σ := by
    intro h
    have : inB y 3 = false := by
      cases hc : inB y 3 with
      | false => rfl
      | true =>
        obtain ⟨m, hm, e⟩ := inB_of hc
        exact absurd e (out_n (by decide) h m (by omega))
    rw [this] at hQ
    exact hQ
  have yes : ∀ j, j < 3 → y = nI j → Q (gI σ (P + 3 + j) l) σ := by
    intro j hj e
    rw [e, inB_nI (by omega), decide_eq_true hj, if_pos rfl, cl (by omega)] at hQ
    rw [row j hj]
    exact hQ
  refine ⟨fun q => out (Or.inl q), fun q => ⟨fun q2 => ?_, fun q2 => out (Or.inr q2)⟩⟩
  rw [cl (n := l) (by omega)]
  refine ⟨fun q3 => ⟨fun q4 => tdR hC.1 ⟨prO hw hP, P + 5, pr6 hw hP, ok_ hw (by omega) (pO5 hP), vk (pO5 hP) (by omega), ?_⟩, fun q4 => tdR hC.1 ⟨prO hw hP, P + 4, pr5 hw hP, ok_ hw (by omega) (pO4 hP), vk (pO4 hP) (by omega), ?_⟩⟩, fun q3 => tdR hC.1 ⟨prO hw hP, P + 3, pr4 hw hP, ok_ hw (by omega) (pO3 hP), vk (pO3 hP) (by omega), ?_⟩⟩
  · obtain ⟨m, hm, rfl⟩ := nI_of q
    have m2 : m ≤ 2 := (nI_leI (b := 2) (by omega) (by decide)).mp q2
    have m0 : ¬ m = 0 := fun e => q3 (by rw [e]; rfl)
    have m1 : ¬ m = 1 := fun e => q4 (by rw [e]; rfl)
    have : m = 2 := by omega
    subst this
    exact yes 2 (by decide) rfl
  · exact yes 1 (by decide) q4
  · exact yes 0 (by decide) q3
theorem pg_k : ∀ p, p < 8 → (rf 9 p = 10 + p ∧ rf 165 p = 166 + p ∧ kd (10 + p) = (20, 16) ∧ kd (166 + p) = (20, 16)) := by decide +kernel
theorem pgF' (hw : RunW w) (hP : isP P) {p : Nat} (hp : p < 8) : w.2 (P + 6) (nI p).toNatClampNeg = some (P + 7 + p) ∧ okO w (P + 7 + p) 20 ∧ (kd (P + 7 + p)).2 = 16 := by
  rw [cl (by omega)]
  rcases hP with rfl | rfl
  · obtain ⟨a, -, b, -⟩ := pg_k p hp
    exact ⟨rS_ hw a, ok_ hw (by omega) b, by rw [b]⟩
  · obtain ⟨-, a, -, b⟩ := pg_k p hp
    exact ⟨rS_ hw a, ok_ hw (by omega) b, by rw [b]⟩
theorem C_page {Q : Int32 → St → Prop} {σ : St} {x y : Int32} (hw : RunW w) (hF : WF π) (hC : CP σ P π) (hQ : Q (A_page π x y) σ) : SpI Γ (d + 1) mX11_page [.ref 0, .int x, .int y] σ w Q := by
  have hlt := P_lt hC.2.1
  have h8 := hF.1.2.2.2.2
  refine SpI.of pnX11 (Nat.le_of_ble_eq_true rfl) (vX11_page_0 hw (c_isPageC hw hF hC ?_))
  rw [b2i_n0, b2i_0]
  unfold A_page at hQ
  refine ⟨fun q => ?_, fun q => by rw [q] at hQ; exact hQ⟩
  rw [q, if_pos rfl] at hQ
  obtain ⟨p, hp, rfl⟩ := inB_of q
  rw [cl (by omega)] at hQ
  have hP := hC.2.1
  obtain ⟨c1, c2, c3⟩ := hC.2.2.1.2.2.2.2 p hp
  obtain ⟨p1, p2, p3, -⟩ := hF.2.2.2.2 p hp
  obtain ⟨r1, o1, z1⟩ := pgF' hw hP (p := p) (by omega)
  have i16 : (16 : Int32).toInt = 16 := by decide
  have im1 : (-1 : Int32).toInt = -1 := by decide
  have in16 : inB y 16 = (decide (0 ≤ y.toInt) && decide (y.toInt < 16)) := rfl
  refine ⟨fun q => ?_, fun q => ⟨fun q2 => ⟨fun q3 => tdR hC.1 ⟨prO hw hP, P + 6, pr8 hw hP, lo_ hw (by omega), k24 (pO6 hP) (by decide), k28 (pO6 hP) (by decide), vk (pO6 hP) (by omega), P + 7 + p, r1, tdR hC.1 ⟨prO hw hP, P + 15, pr9 hw hP, ok_ hw (by omega) (pO15 hP), vk (pO15 hP) (by omega), ?_⟩⟩, fun q3 => tdR hC.1 ⟨prO hw hP, P + 16, pr10 hw hP, ok_ hw (by omega) (pO16 hP), vk (pO16 hP) (by omega), ?_⟩⟩, fun q2 => ?_⟩⟩
  · have : ¬ y = -1 := fun e => by rw [e] at q; exact absurd q (by decide)
    rw [Int32.lt_iff_toInt_lt, im1] at q
    have h0 : ¬ 0 ≤ y.toInt := by omega
    rw [if_neg this, in16] at hQ
    simp [h0] at hQ
    exact hQ
  · rw [if_neg q3] at hQ
    have g : gI σ (P + 15) p = nI (pS π p) := Eq.trans c1 p1
    rw [cl (by omega), g]
    refine c_at o1 z1 (by decide) p3 ?_
    have q' : ¬ y.toInt < -1 := by rw [Int32.lt_iff_toInt_lt, im1] at q; exact q
    have q2' : y.toInt < 16 := by rw [Int32.lt_iff_toInt_lt, i16] at q2; exact q2
    have q3' : y.toInt ≠ -1 := fun e => q3 (Int32.toInt_inj.mp (e.trans im1.symm))
    have hin : inB y 16 = true := by rw [in16]; simp; omega
    rw [hin, if_pos rfl] at hQ
    obtain ⟨m, hm, rfl⟩ := inB_of hin
    rw [cl (by omega)] at hQ
    rw [inB_nI (by omega), cl (by omega)]
    by_cases e : m < pS π p
    · rw [if_pos e] at hQ
      have : gI σ (P + 7 + p) m = π 11 p m := c2 m e
      rw [decide_eq_true e, if_pos rfl, this]
      exact hQ
    · rw [if_neg e] at hQ
      rw [decide_eq_false e, if_neg (by decide)]
      exact hQ
  · rw [if_pos q3] at hQ
    have : gI σ (P + 16) p = π 12 p 0 := c3
    rw [cl (by omega), this]
    exact hQ
  · have : ¬ y = -1 := fun e => by rw [e] at q2; exact absurd (by decide) q2
    rw [Int32.lt_iff_toInt_lt, i16] at q2
    have h0 : ¬ y.toInt < 16 := q2
    rw [if_neg this, in16] at hQ
    simp [h0] at hQ
    exact hQ
theorem C_count {Q : Int32 → St → Prop} {σ : St} {x tx bs : Int32} (hw : RunW w) (hF : WF π) (hC : CP σ P π) (h1 : gI σ 1 1 = tx) (h2 : gI σ 320 1 = bs) (hQ : Q (A_count π tx bs x) σ) : SpI Γ d mX11_count [.ref 0, .int x] σ w Q := by
  obtain ⟨a1, a2, a3, a4⟩ := hC.2.2.1.1
  have b1 : gI σ P 1 = π 0 0 0 := a1
  have b2 : gI σ P 3 = π 0 1 0 := a2
  have b3 : gI σ P 7 = π 0 2 0 := a3
  have b4 : gI σ P 11 = π 0 3 0 := a4
  refine SpI.of pnX11 (Nat.le_of_ble_eq_true rfl) (vX11_count_0 hw hC.1 (prO hw hC.2.1) ?_)
  rw [b1, b2, b3, b4, h1, h2]
  unfold A_count at hQ
  refine ⟨fun q => ?_, fun q => ⟨fun q1 => ?_, fun q1 => ⟨fun q2 => ?_, fun q2 => ⟨fun q3 => ?_, fun q3 => ⟨fun q4 => ?_, fun q4 => ⟨fun q5 => ?_, fun q5 => ?_⟩⟩⟩⟩⟩⟩
  · rw [if_pos q] at hQ; exact hQ
  · rw [if_neg q, if_pos q1] at hQ; exact hQ
  · rw [if_neg q, if_neg q1, if_pos q2] at hQ; exact hQ
  · rw [if_neg q, if_neg q1, if_neg q2, if_pos q3] at hQ; exact hQ
  · rw [if_neg q, if_neg q1, if_neg q2, if_neg q3, if_pos q4] at hQ; exact hQ
  · rw [if_neg q, if_neg q1, if_neg q2, if_neg q3, if_neg q4, if_pos q5] at hQ; exact hQ
  · rw [if_neg q, if_neg q1, if_neg q2, if_neg q3, if_neg q4, if_neg q5] at hQ; exact hQ
theorem C_fits {Q : Int32 → St → Prop} {σ : St} {x y z : Int32} (hw : RunW w) (hF : WF π) (hC : CP σ P π) (hQ : Q (A_fits π x y z) σ) : SpI Γ (d + 1) mX11_fits [.ref 0, .int x, .int y, .int z] σ w Q := by
  have hlt := P_lt hC.2.1
  have h20 := hF.1.1.2
  have h24 := hF.1.2.1.2
  refine SpI.of pnX11 (Nat.le_of_ble_eq_true rfl) (vX11_fits_0 hw (c_isSignC hw hF hC ?_))
  rw [b2i_n0, b2i_0]
  unfold A_fits at hQ
  refine ⟨fun q => by rw [q] at hQ; exact hQ, fun q => c_isWordC hw hF hC ?_⟩
  rw [b2i_n0, b2i_0]
  rw [q, Bool.true_and] at hQ
  refine ⟨fun q2 => ?_, fun q2 => by rw [q2] at hQ; exact hQ⟩
  rw [q2, if_pos rfl] at hQ
  obtain ⟨k, hk, rfl⟩ := inB_of q
  obtain ⟨v, hv, rfl⟩ := inB_of q2
  rw [cl (by omega), cl (by omega)] at hQ
  obtain ⟨w1, w2, w3, -⟩ := hF.2.2.1 v hv
  have ew : gI σ (P + 60 + 4 * v) 1 = nI (wS π v) := Eq.trans (hC.2.2.1.2.2.1 v hv).1 w1
  obtain ⟨o3, ⟨r1, r2, r3⟩, -, -, o6, z6⟩ := wdF hw hC.2.1 (k := v) (by omega)
  refine wdR hw hC.2.1 hC.1 (by omega) ?_
  rw [ew]
  have lt_iff : ∀ {x : Int32}, x < nI (wS π v) ↔ ¬ nI (wS π v) ≤ x := fun {x} => by rw [Int32.not_le]
  have zz := c_inC (Q := fun u s => Q (if u = 0 then -1002 else b2i (fitS π k v z.toNatClampNeg)) s) (s := σ) (x := z) (n := wS π v) (by omega) (by cases hb : inB z (wS π v) <;> (rw [hb] at hQ; exact hQ))
  refine ⟨zz.1, fun c => ⟨o3, fun c2 => ⟨o3, P + 63 + 4 * v, r3, o6, ?_⟩, fun c2 => (zz.2 c).1 (by rw [lt_iff] at c2; exact Decidable.not_not.mp c2)⟩⟩
  have r := (zz.2 c).2 (lt_iff.mp c2)
  obtain ⟨i, hi, rfl⟩ := nI_of c
  rw [nI_ltI (by omega) (by omega)] at c2
  have r' : Q (b2i (fitS π k v i)) σ := by
    rw [cl (by omega)] at r
    exact r
  refine ⟨vk2 z6 (by omega), ?_⟩
  rw [cl (by omega), hC.2.2.2.1 v hv i c2, bit_v _ (by omega), b_fitI h20 hk]
  exact r'
theorem A_out_at {out : List Int32} {s : St} {o : Nat} {x : Int32} (hl : out.length < 2 ^ 31) (hx : ¬ x = -1) (h : ∀ j, j < out.length → gI s o j = out.getD j 0) : (if inB x out.length then gI s o x.toNatClampNeg else -1) = A_out out x := by
  unfold A_out
  rw [if_neg hx]
  cases hb : inB x out.length with
  | false => rfl
  | true =>
    rw [if_pos rfl, if_pos rfl]
    obtain ⟨j, hj, e⟩ := inB_of hb
    have : x.toNatClampNeg = j := by
      rw [e]
      exact cl (by omega)
    rw [this]
    exact h j hj
theorem C_ways {Q : Int64 → St → Prop} {σ : St} {x y : Int32} (hw : RunW w) (hF : WF π) (hC : CP σ P π) (hQ : ∀ σ', AskC P π σ σ' → Q (A_ways π x y) σ') : SpJ Γ (d + 2) mX11_ways [.ref 0, .int x, .int y] σ w Q := by
  have h24 := hF.1.2.1.2
  refine SpJ.of pnX11 (Nat.le_of_ble_eq_true rfl) (vX11_ways_0 hw (c_isWordC hw hF hC ?_))
  rw [b2i_n0, b2i_0]
  unfold A_ways at hQ
  refine ⟨fun q => by rw [q] at hQ; exact hQ σ hC.rf, fun q => c_areSignsC hw hF hC ?_⟩
  rw [b2i_n0, b2i_0]
  rw [q, Bool.true_and] at hQ
  refine ⟨fun q2 => ?_, fun q2 => by rw [q2] at hQ; exact hQ σ hC.rf⟩
  rw [q2, if_pos rfl] at hQ
  obtain ⟨v, hv, rfl⟩ := inB_of q
  rw [cl (by omega)] at hQ
  refine tdR hC.1 (wdR hw hC.2.1 hC.1 (by omega) (c_countWays hw hC.2.1 hC.2.2.1 hC.2.2.2.1 hF hv fun s z1 z2 => c_inAll hw ?_))
  rw [show gJ s 318 0 = lN (wy π v y 0 0) from z2 0 0 (Nat.zero_le _) (Nat.zero_le _) (Or.inr ⟨rfl, Nat.le_refl _⟩)]
  exact hQ s (hC.cu hF z1)
theorem C_cut {Q : Int32 → St → Prop} {σ : St} {x y z : Int32} (hw : RunW w) (hF : WF π) (hC : CP σ P π) (hQ : ∀ σ', AskC P π σ σ' → Q (A_cut π x y z) σ') : SpI Γ (d + 3) mX11_cut [.ref 0, .int x, .int y, .int z] σ w Q := by
  have h24 := hF.1.2.1.2
  refine SpI.of pnX11 (Nat.le_of_ble_eq_true rfl) (vX11_cut_0 hw (c_isWordC hw hF hC ?_))
  rw [b2i_n0, b2i_0]
  unfold A_cut at hQ
  refine ⟨fun q => by rw [q] at hQ; exact hQ σ hC.rf, fun q => c_areSignsC hw hF hC ?_⟩
  rw [b2i_n0, b2i_0]
  rw [q, Bool.true_and] at hQ
  refine ⟨fun q2 => ?_, fun q2 => by rw [q2] at hQ; exact hQ σ hC.rf⟩
  rw [q2, if_pos rfl] at hQ
  obtain ⟨v, hv, rfl⟩ := inB_of q
  rw [cl (by omega)] at hQ
  refine tdR hC.1 (wdR hw hC.2.1 hC.1 (by omega) (c_countWays hw hC.2.1 hC.2.2.1 hC.2.2.2.1 hF hv fun s z1 z2 => ?_))
  have hC1 := (hC.cu hF z1).2
  refine tdR hC1.1 (wdR hw hC1.2.1 hC1.1 (by omega) (c_findFirst hw hC1.2.1 hC1.2.2.1 hC1.2.2.2.1 hF hv z2 (fun e s' g1 g2 => ?_) (fun e s' g1 g2 => ?_)))
  · rw [if_pos e] at hQ
    have fin := hQ s' ((hC.cu hF z1).tr (hC1.cu hF g1))
    rw [g2]
    refine ⟨fun _ => SpI.of pnX11 (Nat.le_of_ble_eq_true rfl) (vX11_at_0 (ok_ hw (by decide) kd319) (lo_ hw (by decide)) (k20 kd319 (by decide)) (k28 kd319 (by decide)) ⟨fun _ => fin, fun c2 => ⟨fun _ => fin, fun c3 => ?_⟩⟩), fun _ => fin⟩
    exfalso
    have i1 : (-1 : Int32).toInt = -1 := by decide
    have i0 : (0 : Int32).toInt = 0 := by decide
    rw [Int32.lt_iff_toInt_lt, i0] at c2
    rw [Int32.le_iff_toInt_le, i1] at c3
    omega
  · rw [if_neg e] at hQ
    have fin := hQ s' ((hC.cu hF z1).tr (hC1.cu hF g1))
    rw [g2.1]
    refine ⟨fun c => c_at (ok_ hw (by decide) kd319) (m := 8) (by rw [kd319]) (by decide) g2.2.1 ?_, fun c => ?_⟩
    · rw [A_out_at (by have := g2.2.1; omega) c g2.2.2]
      exact fin
    · unfold A_out at fin
      rw [if_pos c] at fin
      exact fin
theorem C_aloud {Q : Int32 → St → Prop} {σ : St} {x y z : Int32} (hw : RunW w) (hF : WF π) (hC : CP σ P π) (hQ : ∀ σ', AskC P π σ σ' → Q (A_aloud π x y z) σ') : SpI Γ (d + 2) mX11_aloud [.ref 0, .int x, .int y, .int z] σ w Q := by
  have hlt := P_lt hC.2.1
  have h24 := hF.1.2.1.2
  have hP := hC.2.1
  refine SpI.of pnX11 (Nat.le_of_ble_eq_true rfl) (vX11_aloud_0 hw (c_isWordC hw hF hC ?_))
  rw [b2i_n0, b2i_0]
  unfold A_aloud at hQ
  refine ⟨fun q => by rw [q] at hQ; exact hQ σ hC.rf, fun q => c_areSignsC hw hF hC ?_⟩
  rw [b2i_n0, b2i_0]
  rw [q, Bool.true_and] at hQ
  refine ⟨fun q2 => ?_, fun q2 => by rw [q2] at hQ; exact hQ σ hC.rf⟩
  rw [q2, if_pos rfl] at hQ
  obtain ⟨v, hv, rfl⟩ := inB_of q
  rw [cl (by omega)] at hQ
  have o17 : okO w (P + 17) 8 := okL hw (by omega) (pO17 hP)
  refine tdR hC.1 ⟨prO hw hP, P + 17, pr12 hw hP, tdR hC.1 (wdR hw hP hC.1 (by omega) ⟨o17, c_say hw hP hC.2.2.1 hC.2.2.2.1 hF hv fun s z => ?_⟩)⟩
  have fin := hQ s (hC.sp hF z.1)
  rw [z.2.1]
  refine ⟨fun c => ⟨o17, P + 18, pr17 hw hP, o17, c_at (ok_ hw (by omega) (pO18 hP)) (m := 8) (by rw [pO18 hP]) (by decide) z.2.2.2.2.2.2 ?_⟩, fun c => ⟨o17, ?_⟩⟩
  · rw [A_out_at (by have := z.2.2.2.2.2.2; omega) c z.2.2.1]
    exact fin
  · unfold A_out at fin
    rw [if_pos c] at fin
    exact fin
theorem C_spelt {Q : Int32 → St → Prop} {σ : St} {x y z : Int32} (hw : RunW w) (hF : WF π) (hC : CP σ P π) (hQ : ∀ σ', AskC P π σ σ' → Q (A_spelt π x y z) σ') : SpI Γ (d + 2) mX11_spelt [.ref 0, .int x, .int y, .int z] σ w Q := by
  have h24 := hF.1.2.1.2
  refine SpI.of pnX11 (Nat.le_of_ble_eq_true rfl) (vX11_spelt_0 hw (c_isWordC hw hF hC ?_))
  rw [b2i_n0, b2i_0]
  unfold A_spelt at hQ
  refine ⟨fun q => by rw [q] at hQ; exact hQ σ hC.rf, fun q => c_areSignsC hw hF hC ?_⟩
  rw [b2i_n0, b2i_0]
  rw [q, Bool.true_and] at hQ
  refine ⟨fun q2 => ?_, fun q2 => by rw [q2] at hQ; exact hQ σ hC.rf⟩
  rw [q2, if_pos rfl] at hQ
  obtain ⟨v, hv, rfl⟩ := inB_of q
  rw [cl (by omega)] at hQ
  refine tdR hC.1 (wdR hw hC.2.1 hC.1 (by omega) (c_spellC hw hC.2.1 hC.2.2.1 hF hv fun s z => ?_))
  have fin := hQ s (hC.spl hF z.1)
  rw [z.2.1.1]
  refine ⟨fun c => c_at (ok_ hw (by decide) kd316) (m := 32) (by rw [kd316]) (by decide) z.2.2.2 ?_, fun c => ?_⟩
  · rw [A_out_at (by have := z.2.2.2; omega) c z.2.1.2]
    exact fin
  · unfold A_out at fin
    rw [if_pos c] at fin
    exact fin
theorem C_right {Q : Int32 → St → Prop} {σ : St} {x y z : Int32} (hw : RunW w) (hF : WF π) (hC : CP σ P π) (hQ : ∀ σ', AskC P π σ σ' → Q (A_right π x y z) σ') : SpI Γ (d + 2) mX11_right [.ref 0, .int x, .int y, .int z] σ w Q := by
  have hlt := P_lt hC.2.1
  have h24 := hF.1.2.1.2
  have hP := hC.2.1
  refine SpI.of pnX11 (Nat.le_of_ble_eq_true rfl) (vX11_right_0 hw (c_isWordC hw hF hC ?_))
  rw [b2i_n0, b2i_0]
  unfold A_right at hQ
  refine ⟨fun q => by rw [q] at hQ; exact hQ σ hC.rf, fun q => c_areSignsC hw hF hC ?_⟩
  rw [b2i_n0, b2i_0]
  rw [q, Bool.true_and] at hQ
  refine ⟨fun q2 => ?_, fun q2 => by rw [q2] at hQ; exact hQ σ hC.rf⟩
  rw [q2, if_pos rfl] at hQ
  obtain ⟨v, hv, rfl⟩ := inB_of q
  rw [cl (by omega)] at hQ
  have o17 : okO w (P + 17) 8 := okL hw (by omega) (pO17 hP)
  refine wdR hw hP hC.1 (by omega) ⟨fun c => tdR hC.1 ⟨prO hw hP, P + 17, pr12 hw hP, tdR hC.1 ⟨o17, c_say hw hP hC.2.2.1 hC.2.2.2.1 hF hv fun s z => ?_⟩⟩, fun c => ⟨fun c2 => tdR hC.1 (c_spellC hw hP hC.2.2.1 hF hv fun s z => ?_), fun c2 => ⟨fun c3 => tdR hC.1 (c_countWays hw hP hC.2.2.1 hC.2.2.2.1 hF hv fun s z1 z2 => c_inAll hw ?_), fun c3 => ?_⟩⟩⟩
  · have hC1 := (hC.sp hF z.1)
    rw [if_pos c] at hQ
    refine tdR hC1.2.1 ⟨prO hw hP, P + 17, pr12 hw hP, o17, ?_⟩
    rw [z.2.2.2.2.2.1]
    exact c_bit (hQ s hC1)
  · rw [if_neg c, if_pos c2] at hQ
    rw [z.2.2.1]
    exact c_bit (hQ s (hC.spl hF z.1))
  · rw [if_neg c, if_neg c2, if_pos c3] at hQ
    have hlt2 := wy_lt (set := y) hF hv (i := 0) (j := 0) (Nat.zero_le _) (Nat.zero_le _)
    have fin := hQ s (hC.cu hF z1)
    rw [show gJ s 318 0 = lN (wy π v y 0 0) from z2 0 0 (Nat.zero_le _) (Nat.zero_le _) (Or.inr ⟨rfl, Nat.le_refl _⟩), lN_pos hlt2]
    refine ⟨fun c4 => c_bit (b := false) ?_, fun c4 => c_bit (b := true) ?_⟩
    · rw [c4] at fin
      exact fin
    · rw [decide_eq_true (by omega)] at fin
      exact fin
  · rw [if_neg c, if_neg c2, if_neg c3] at hQ
    exact hQ σ hC.rf
end CQ2
