/-! the class: its primers, as values; signs at places -/
def isP (P : Nat) : Prop := P = 3 ∨ P = 159
/-- what a Primer holds -/
def CV (σ : St) (P : Nat) : PV := fun t i j => match t with
  | 0 => match i with
    | 0 => gI σ P 1
    | 1 => gI σ P 3
    | 2 => gI σ P 7
    | _ => gI σ P 11
  | 1 => gI σ (P + 20 + 2 * i) 1
  | 2 => gI σ (P + 21 + 2 * i) j
  | 3 => gI σ (P + 20 + 2 * i) 2
  | 4 => gI σ (P + 20 + 2 * i) 3
  | 5 => gI σ (P + 60 + 4 * i) 1
  | 6 => gI σ (P + 61 + 4 * i) j
  | 7 => gI σ (P + 60 + 4 * i) 3
  | 8 => gI σ (P + 62 + 4 * i) j
  | 9 => gI σ (P + 3 + j) i
  | 10 => gI σ (P + 15) i
  | 11 => gI σ (P + 7 + i) j
  | _ => gI σ (P + 16) i
/-- the cells that hold it -/
def inPr (P o : Nat) : Prop := o = P ∨ (P + 3 ≤ o ∧ o ≤ P + 16) ∨ (P + 20 ≤ o ∧ o ≤ P + 155)
def PrC (σ : St) (P : Nat) (π : PV) : Prop := AgV (CV σ P) π
theorem PrC.fr {S : Nat → Nat → Bool} {σ σ' : St} {P : Nat} {π : PV} (h : PrC σ P π) (hF : WF π) (hS : ∀ o k, inPr P o → S o k = false) (hf : Fr S σ σ') : PrC σ' P π := by
  obtain ⟨⟨a1, a2, a3, a4⟩, hs, hw, hl, hp⟩ := h
  obtain ⟨⟨⟨-, h20⟩, ⟨-, h24⟩, ⟨-, h7⟩, -, h8⟩, -⟩ := hF
  have z : ∀ o k, inPr P o → gI σ' o k = gI σ o k := fun o k q => hf.1 o k (hS o k q)
  refine ⟨⟨(z _ _ (Or.inl rfl)).trans a1, (z _ _ (Or.inl rfl)).trans a2, (z _ _ (Or.inl rfl)).trans a3, (z _ _ (Or.inl rfl)).trans a4⟩, fun k hk => ?_, fun v hv => ?_, fun l hl' j hj => ?_, fun p hp' => ?_⟩
  · obtain ⟨b1, b2, b3, b4⟩ := hs k hk
    exact ⟨(z _ _ (Or.inr (Or.inr (by omega)))).trans b1, (z _ _ (Or.inr (Or.inr (by omega)))).trans b2, (z _ _ (Or.inr (Or.inr (by omega)))).trans b3, fun j hj => (z _ _ (Or.inr (Or.inr (by omega)))).trans (b4 j hj)⟩
  · obtain ⟨b1, b2, b3, b4⟩ := hw v hv
    exact ⟨(z _ _ (Or.inr (Or.inr (by omega)))).trans b1, (z _ _ (Or.inr (Or.inr (by omega)))).trans b2, fun j hj => (z _ _ (Or.inr (Or.inr (by omega)))).trans (b3 j hj), fun j hj => (z _ _ (Or.inr (Or.inr (by omega)))).trans (b4 j hj)⟩
  · exact (z _ _ (Or.inr (Or.inl (by omega)))).trans (hl l hl' j hj)
  · obtain ⟨b1, b2, b3⟩ := hp p hp'
    exact ⟨(z _ _ (Or.inr (Or.inl (by omega)))).trans b1, fun j hj => (z _ _ (Or.inr (Or.inl (by omega)))).trans (b2 j hj), (z _ _ (Or.inr (Or.inl (by omega)))).trans b3⟩
/-- the signs that fit at a letter -/
def fitI (π : PV) (v i : Nat) : Int32 := setOf (fun k => fitS π k v i) (nS π)
def FtC (σ : St) (P : Nat) (π : PV) : Prop := ∀ v, v < nW π → ∀ i, i < wS π v → gI σ (P + 63 + 4 * v) i = fitI π v i
theorem FtC.fr {S : Nat → Nat → Bool} {σ σ' : St} {P : Nat} {π : PV} (h : FtC σ P π) (hF : WF π) (hS : ∀ o k, inPr P o → S o k = false) (hf : Fr S σ σ') : FtC σ' P π := fun v hv i hi => (hf.1 _ _ (hS _ _ (Or.inr (Or.inr (by
  have := hF.1.2.1.2
  omega))))).trans (h v hv i hi)
theorem pnX4 : plainName RX4 = true := by decide +kernel
theorem pnX7 : plainName RX7 = true := by decide +kernel
theorem pnX8 : plainName RX8 = true := by decide +kernel
theorem pnX11 : plainName RX11 = true := by decide +kernel
def sgA (P k : Nat) : Nat := if k < 20 then P + 20 + 2 * k else P + 20
def wdA (P v : Nat) : Nat := if v < 24 then P + 60 + 4 * v else P + 60
theorem sg_k : ∀ k, k < 21 → (rf 4 k = sgA 3 k ∧ rf 160 k = sgA 159 k) := by decide +kernel
theorem wd_k : ∀ k, k < 25 → (rf 5 k = wdA 3 k ∧ rf 161 k = wdA 159 k) := by decide +kernel
theorem sg_f : ∀ k, k < 20 → ((kd (3 + 20 + 2 * k)).1 = 7 ∧ rf (3 + 20 + 2 * k) 0 = 3 + 21 + 2 * k ∧ kd (3 + 21 + 2 * k) = (20, 4)) ∧ ((kd (159 + 20 + 2 * k)).1 = 7 ∧ rf (159 + 20 + 2 * k) 0 = 159 + 21 + 2 * k ∧ kd (159 + 21 + 2 * k) = (20, 4)) := by decide +kernel
theorem wd_f : ∀ k, k < 24 → ((kd (3 + 60 + 4 * k)).1 = 10 ∧ (rf (3 + 60 + 4 * k) 0 = 3 + 61 + 4 * k ∧ rf (3 + 60 + 4 * k) 2 = 3 + 62 + 4 * k ∧ rf (3 + 60 + 4 * k) 4 = 3 + 63 + 4 * k) ∧ kd (3 + 61 + 4 * k) = (20, 8) ∧ kd (3 + 62 + 4 * k) = (20, 8) ∧ kd (3 + 63 + 4 * k) = (20, 8)) ∧ ((kd (159 + 60 + 4 * k)).1 = 10 ∧ (rf (159 + 60 + 4 * k) 0 = 159 + 61 + 4 * k ∧ rf (159 + 60 + 4 * k) 2 = 159 + 62 + 4 * k ∧ rf (159 + 60 + 4 * k) 4 = 159 + 63 + 4 * k) ∧ kd (159 + 61 + 4 * k) = (20, 8) ∧ kd (159 + 62 + 4 * k) = (20, 8) ∧ kd (159 + 63 + 4 * k) = (20, 8)) := by decide +kernel
section CB
variable {Γ : Gx} {d : Nat} {w : Wd} {π : PV} {P : Nat}
theorem rS_ {o k r : Nat} (hw : RunW w) (h : rf o k = r) : w.2 o k = some r := rfL_ hw h
theorem ok_ {o c n : Nat} (hw : RunW w) (h1 : o < 425) (h2 : kd o = (c, n)) : okO w o c := okL hw h1 (by rw [h2])
theorem P_lt (hP : isP P) : P ≤ 159 := by rcases hP with rfl | rfl <;> decide
theorem sgE (hw : RunW w) (hP : isP P) {k : Nat} (hk : k < 21) : w.2 (P + 1) (nI k).toNatClampNeg = some (sgA P k) := by
  rw [cl (by omega)]
  rcases hP with rfl | rfl
  · exact rS_ hw (sg_k k hk).1
  · exact rS_ hw (sg_k k hk).2
theorem wdE (hw : RunW w) (hP : isP P) {k : Nat} (hk : k < 25) : w.2 (P + 2) (nI k).toNatClampNeg = some (wdA P k) := by
  rw [cl (by omega)]
  rcases hP with rfl | rfl
  · exact rS_ hw (wd_k k hk).1
  · exact rS_ hw (wd_k k hk).2
theorem sgF (hw : RunW w) (hP : isP P) {k : Nat} (hk : k < 20) : okO w (P + 20 + 2 * k) 7 ∧ w.2 (P + 20 + 2 * k) 0 = some (P + 21 + 2 * k) ∧ okO w (P + 21 + 2 * k) 20 ∧ (kd (P + 21 + 2 * k)).2 = 4 := by
  rcases hP with rfl | rfl
  · obtain ⟨⟨a, b, c⟩, -⟩ := sg_f k hk
    exact ⟨okL hw (by omega) a, rS_ hw b, ok_ hw (by omega) c, by rw [c]⟩
  · obtain ⟨-, a, b, c⟩ := sg_f k hk
    exact ⟨okL hw (by omega) a, rS_ hw b, ok_ hw (by omega) c, by rw [c]⟩
theorem sgO (hw : RunW w) (hP : isP P) {k : Nat} : okO w (sgA P k) 7 := by
  unfold sgA
  split
  · rename_i h
    exact (sgF hw hP h).1
  · exact (sgF hw hP (k := 0) (by decide)).1
theorem sgA_ {k : Nat} (h : k < 20) : sgA P k = P + 20 + 2 * k := if_pos h
theorem wdA_ {k : Nat} (h : k < 24) : wdA P k = P + 60 + 4 * k := if_pos h
theorem wdF (hw : RunW w) (hP : isP P) {k : Nat} (hk : k < 24) : okO w (P + 60 + 4 * k) 10 ∧ (w.2 (P + 60 + 4 * k) 0 = some (P + 61 + 4 * k) ∧ w.2 (P + 60 + 4 * k) 2 = some (P + 62 + 4 * k) ∧ w.2 (P + 60 + 4 * k) 4 = some (P + 63 + 4 * k)) ∧ (okO w (P + 61 + 4 * k) 20 ∧ (kd (P + 61 + 4 * k)).2 = 8) ∧ (okO w (P + 62 + 4 * k) 20 ∧ (kd (P + 62 + 4 * k)).2 = 8) ∧ (okO w (P + 63 + 4 * k) 20 ∧ (kd (P + 63 + 4 * k)).2 = 8) := by
  rcases hP with rfl | rfl
  · obtain ⟨⟨a, ⟨b1, b2, b3⟩, c1, c2, c3⟩, -⟩ := wd_f k hk
    exact ⟨okL hw (by omega) a, ⟨rS_ hw b1, rS_ hw b2, rS_ hw b3⟩, ⟨ok_ hw (by omega) c1, by rw [c1]⟩, ⟨ok_ hw (by omega) c2, by rw [c2]⟩, ok_ hw (by omega) c3, by rw [c3]⟩
  · obtain ⟨-, a, ⟨b1, b2, b3⟩, c1, c2, c3⟩ := wd_f k hk
    exact ⟨okL hw (by omega) a, ⟨rS_ hw b1, rS_ hw b2, rS_ hw b3⟩, ⟨ok_ hw (by omega) c1, by rw [c1]⟩, ⟨ok_ hw (by omega) c2, by rw [c2]⟩, ok_ hw (by omega) c3, by rw [c3]⟩
theorem wdO (hw : RunW w) (hP : isP P) {k : Nat} : okO w (wdA P k) 10 := by
  unfold wdA
  split
  · rename_i h
    exact (wdF hw hP h).1
  · exact (wdF hw hP (k := 0) (by decide)).1
theorem prO (hw : RunW w) (hP : isP P) : okO w P 4 := by rcases hP with rfl | rfl <;> exact okL hw (by decide) (by decide +kernel)
theorem pr0 (hw : RunW w) (hP : isP P) : w.2 P 0 = some (P + 1) := by rcases hP with rfl | rfl <;> exact rS_ hw (by decide +kernel)
theorem pr2 (hw : RunW w) (hP : isP P) : w.2 P 2 = some (P + 2) := by rcases hP with rfl | rfl <;> exact rS_ hw (by decide +kernel)
theorem pr4 (hw : RunW w) (hP : isP P) : w.2 P 4 = some (P + 3) := by rcases hP with rfl | rfl <;> exact rS_ hw (by decide +kernel)
theorem pr5 (hw : RunW w) (hP : isP P) : w.2 P 5 = some (P + 4) := by rcases hP with rfl | rfl <;> exact rS_ hw (by decide +kernel)
theorem pr6 (hw : RunW w) (hP : isP P) : w.2 P 6 = some (P + 5) := by rcases hP with rfl | rfl <;> exact rS_ hw (by decide +kernel)
theorem pr8 (hw : RunW w) (hP : isP P) : w.2 P 8 = some (P + 6) := by rcases hP with rfl | rfl <;> exact rS_ hw (by decide +kernel)
theorem pr9 (hw : RunW w) (hP : isP P) : w.2 P 9 = some (P + 15) := by rcases hP with rfl | rfl <;> exact rS_ hw (by decide +kernel)
theorem pr10 (hw : RunW w) (hP : isP P) : w.2 P 10 = some (P + 16) := by rcases hP with rfl | rfl <;> exact rS_ hw (by decide +kernel)
theorem pr12 (hw : RunW w) (hP : isP P) : w.2 P 12 = some (P + 17) := by rcases hP with rfl | rfl <;> exact rS_ hw (by decide +kernel)
theorem pr13 (hw : RunW w) (hP : isP P) : w.2 P 13 = some (P + 19) := by rcases hP with rfl | rfl <;> exact rS_ hw (by decide +kernel)
theorem pr17 (hw : RunW w) (hP : isP P) : w.2 (P + 17) 0 = some (P + 18) := by rcases hP with rfl | rfl <;> exact rS_ hw (by decide +kernel)
theorem pO1 (hP : isP P) : kd (P + 1) = (24, 20) := by rcases hP with rfl | rfl <;> decide +kernel
theorem pO2 (hP : isP P) : kd (P + 2) = (25, 24) := by rcases hP with rfl | rfl <;> decide +kernel
theorem pO3 (hP : isP P) : kd (P + 3) = (20, 7) := by rcases hP with rfl | rfl <;> decide +kernel
theorem pO4 (hP : isP P) : kd (P + 4) = (20, 7) := by rcases hP with rfl | rfl <;> decide +kernel
theorem pO5 (hP : isP P) : kd (P + 5) = (20, 7) := by rcases hP with rfl | rfl <;> decide +kernel
theorem pO6 (hP : isP P) : kd (P + 6) = (28, 8) := by rcases hP with rfl | rfl <;> decide +kernel
theorem pO15 (hP : isP P) : kd (P + 15) = (20, 8) := by rcases hP with rfl | rfl <;> decide +kernel
theorem pO16 (hP : isP P) : kd (P + 16) = (20, 8) := by rcases hP with rfl | rfl <;> decide +kernel
theorem pO17 (hP : isP P) : (kd (P + 17)).1 = 8 := by rcases hP with rfl | rfl <;> decide +kernel
theorem pO18 (hP : isP P) : kd (P + 18) = (20, 8) := by rcases hP with rfl | rfl <;> decide +kernel
theorem pO19 (hP : isP P) : kd (P + 19) = (20, 128) := by rcases hP with rfl | rfl <;> decide +kernel
theorem lo_ (hw : RunW w) {o : Nat} (h : o < 425) : o < w.1 := Nat.lt_of_lt_of_le h hw.1
theorem k20 {o c n : Nat} (h : kd o = (c, n)) (h2 : 20 ≤ c) : 20 ≤ (kd o).1 := by rw [h]; exact h2
theorem k24 {o c n : Nat} (h : kd o = (c, n)) (h2 : 24 ≤ c) : 24 ≤ (kd o).1 := by rw [h]; exact h2
theorem k28 {o c n : Nat} (h : kd o = (c, n)) (h2 : c ≤ 28) : (kd o).1 ≤ 28 := by rw [h]; exact h2
/-- a place in a row -/
theorem vk {o c n j : Nat} (h : kd o = (c, n)) (hj : j < n) (hn : n < 2 ^ 31 := by decide) : vp_in (nI j) (kd o).2 := by rw [h]; exact vp_in_nI hj hn
theorem vk2 {o n j : Nat} (h : (kd o).2 = n) (hj : j < n) (hn : n < 2 ^ 31 := by decide) : vp_in (nI j) (kd o).2 := by rw [h]; exact vp_in_nI hj hn
theorem lp_stands {Q : Int32 → St → Prop} {σ : St} {k v i : Nat} (hw : RunW w) (hP : isP P) (hC : PrC σ P π) (hF : WF π) (hk : k < nS π) (hv : v < nW π) (hle : i + sS π k ≤ wS π v) (hQ : Q (b2i (fitL π k v i (sS π k))) σ) :
    ∀ n j, j + n = sS π k → fitL π k v i j = true → AI Γ d mX7_standsAt w Q 48 [(0, .ref (P + 20 + 2 * k)), (1, .ref (P + 60 + 4 * v)), (2, .int (nI i)), (4, .int (nI j))] σ := by
  obtain ⟨⟨⟨-, h20⟩, ⟨-, h24⟩, -⟩, hs, hwd, -⟩ := hF
  obtain ⟨s1, s2, s3, -⟩ := hs k hk
  obtain ⟨w1, w2, w3, -⟩ := hwd v hv
  obtain ⟨c1, c2, c3, c4⟩ := hC.2.1 k hk
  obtain ⟨e1, e2, e3, e4⟩ := hC.2.2.1 v hv
  obtain ⟨o1, r1, o2, z1⟩ := sgF hw hP (k := k) (by omega)
  obtain ⟨o3, ⟨r2, -, -⟩, ⟨o4, z2⟩, -⟩ := wdF hw hP (k := v) (by omega)
  have ek : gI σ (P + 20 + 2 * k) 1 = nI (sS π k) := Eq.trans c1 s1
  intro n
  induction n with
  | zero =>
    intro j hj hfit
    have : j = sS π k := hj
    subst this
    refine vX7_standsAt_48 o1 o3 r2 r1 o2 o4 ?_
    rw [ek]
    refine ⟨fun _ => ?_, fun c => absurd (nI_le (Nat.le_refl _) (by omega)) c⟩
    rw [hfit] at hQ
    exact hQ
  | succ n ih =>
    intro j hj hfit
    have g1 : gI σ (P + 61 + 4 * v) (i + j) = π 6 v (i + j) := e3 (i + j) (by omega)
    have g2 : gI σ (P + 21 + 2 * k) j = π 2 k j := c4 j (by omega)
    have stp : fitL π k v i (j + 1) = (π 6 v (i + j) == π 2 k j) := by
      show (allB _ j && _) = _
      have : allB (fun j => π 6 v (i + j) == π 2 k j) j = true := hfit
      rw [this, Bool.true_and]
    refine vX7_standsAt_48 o1 o3 r2 r1 o2 o4 ?_
    rw [ek, nI_add, cl (by omega), cl (by omega), g1, g2, nI_1]
    refine ⟨fun c => absurd c (nI_ge (by omega) (by omega)), fun _ => ⟨vk2 z2 (by omega), vk2 z1 (by omega), fun c => ih (j + 1) (by omega) (by rw [stp, c]; simp), fun c => ?_⟩⟩
    have : fitL π k v i (sS π k) = false := by
      refine allB_false (n := j + 1) ?_ (by omega)
      show fitL π k v i (j + 1) = false
      rw [stp]
      simpa using c
    rw [this] at hQ
    exact hQ
theorem c_stands {Q : Int32 → St → Prop} {σ : St} {k v i : Nat} (hw : RunW w) (hP : isP P) (hC : PrC σ P π) (hF : WF π) (hk : k < nS π) (hv : v < nW π) (hi : i < 1000) (hQ : Q (b2i (fitS π k v i)) σ) : SpI Γ d mX7_standsAt [.ref (P + 20 + 2 * k), .ref (P + 60 + 4 * v), .int (nI i)] σ w Q := by
  have hF' := hF
  obtain ⟨⟨⟨-, h20⟩, ⟨-, h24⟩, -⟩, hs, hwd, -⟩ := hF
  obtain ⟨s1, s2, s3, -, s4⟩ := hs k hk
  obtain ⟨w1, w2, w3, -⟩ := hwd v hv
  obtain ⟨c1, c2, c3, c4⟩ := hC.2.1 k hk
  obtain ⟨e1, e2, e3, e4⟩ := hC.2.2.1 v hv
  obtain ⟨o1, -⟩ := sgF hw hP (k := k) (by omega)
  obtain ⟨o3, -⟩ := wdF hw hP (k := v) (by omega)
  have ek : gI σ (P + 20 + 2 * k) 1 = nI (sS π k) := Eq.trans c1 s1
  have ew : gI σ (P + 60 + 4 * v) 1 = nI (wS π v) := Eq.trans e1 w1
  have es : gI σ (P + 20 + 2 * k) 3 = π 4 k 0 := c3
  have fb : fitS π k v i = (fitB π k v i && fitL π k v i (sS π k)) := rfl
  have fb2 : fitB π k v i = (decide (i + sS π k ≤ wS π v) && (!(π 4 k 0 == 1) || decide (i = 0)) && (!(π 4 k 0 == 2) || decide (i + sS π k = wS π v))) := rfl
  have no : fitB π k v i = false → Q 0 σ := by
    intro q
    rw [fb, q] at hQ
    exact hQ
  have go : fitB π k v i = true → i + sS π k ≤ wS π v → AI Γ d mX7_standsAt w Q 48 [(0, .ref (P + 20 + 2 * k)), (1, .ref (P + 60 + 4 * v)), (2, .int (nI i)), (4, .int 0)] σ := by
    intro q hle
    rw [fb, q, Bool.true_and] at hQ
    exact lp_stands hw hP hC hF' hk hv hle hQ (sS π k) 0 (Nat.zero_add _) rfl
  refine SpI.of pnX7 (Nat.le_of_ble_eq_true rfl) (vX7_standsAt_0 o1 o3 ?_)
  rw [ek, ew, es, nI_add]
  have l1 : nI (wS π v) < nI (i + sS π k) ↔ ¬ i + sS π k ≤ wS π v := by rw [nI_ltI (by omega) (by omega)]; omega
  have l2 : nI (i + sS π k) = nI (wS π v) ↔ i + sS π k = wS π v := nI_eq (by omega) (by omega)
  have l3 : nI i = 0 ↔ i = 0 := nI_eq (b := 0) (by omega) (by omega)
  rw [l1, l2, l3]
  have n12 : (1 : Int32) ≠ 2 := by decide
  refine ⟨fun q => no ?_, fun q => ?_⟩
  · rw [fb2]; simp [q]
  · have q' : i + sS π k ≤ wS π v := by simpa using q
    refine ⟨fun q1 => ⟨fun q2 => go ?_ q', fun q2 => ⟨fun q3 => go ?_ q', fun q3 => no ?_⟩⟩, fun q1 => ⟨fun q2 => no ?_, fun q2 => ⟨fun q3 => go ?_ q', fun q3 => absurd (q1.symm.trans q3) n12⟩⟩⟩
    · rw [fb2]; simp [q', q1, q2]
    · rw [fb2]; simp [q1, q2, q3]
    · rw [fb2]; simp [q1, q2, q3]
    · rw [fb2]; simp [q1, q2]
    · rw [fb2]; simp [q1, q2]; omega
theorem lp_signsSt {Q : Int32 → St → Prop} {σ : St} {v i : Nat} (hw : RunW w) (hP : isP P) (hC : PrC σ P π) (hF : WF π) (hv : v < nW π) (hi : i < 1000) (hQ : Q (fitI π v i) σ) :
    ∀ n k, k + n = nS π → AI Γ (d + 1) mX4_signsStandingAt w Q 5 [(0, .ref P), (1, .ref (P + 60 + 4 * v)), (2, .int (nI i)), (3, .int (setOf (fun k => fitS π k v i) k)), (4, .int (nI k))] σ := by
  have hF' := hF
  have hlt := P_lt hP
  obtain ⟨⟨⟨n1, h20⟩, -⟩, -⟩ := hF
  have e0 : gI σ P 1 = nI (nS π) := Eq.trans hC.1.1 n1
  intro n
  induction n with
  | zero =>
    intro k hk
    have : k = nS π := hk
    subst this
    refine vX4_signsStandingAt_5 (prO hw hP) (pr0 hw hP) (sgE hw hP (by omega)) (sgO hw hP) (lo_ hw (by omega)) (k24 (pO1 hP) (by decide)) (k28 (pO1 hP) (by decide)) ?_
    rw [e0]
    exact ⟨fun _ => hQ, fun c => absurd (nI_le (Nat.le_refl _) (by omega)) c⟩
  | succ n ih =>
    intro k hk
    have nx := ih (k + 1) (by omega)
    refine vX4_signsStandingAt_5 (prO hw hP) (pr0 hw hP) (sgE hw hP (by omega)) (sgO hw hP) (lo_ hw (by omega)) (k24 (pO1 hP) (by decide)) (k28 (pO1 hP) (by decide)) ?_
    rw [e0, sgA_ (by omega), nI_1]
    refine ⟨fun c => absurd c (nI_ge (by omega) (by omega)), fun _ => ⟨vk (pO1 hP) (by omega), c_stands hw hP hC hF' (by omega) hv hi ?_⟩⟩
    have st : setOf (fun k => fitS π k v i) (k + 1) = if fitS π k v i then setOf (fun k => fitS π k v i) k ||| (1 <<< (nI k &&& 31)) else setOf (fun k => fitS π k v i) k := rfl
    rw [st] at nx
    rw [b2i_n0, b2i_0]
    refine ⟨fun c => ?_, fun c => ?_⟩
    · rw [c] at nx; exact nx
    · rw [c] at nx; exact nx
theorem c_signsSt {Q : Int32 → St → Prop} {σ : St} {v i : Nat} (hw : RunW w) (hP : isP P) (hC : PrC σ P π) (hF : WF π) (hv : v < nW π) (hi : i < 1000) (hQ : Q (fitI π v i) σ) : SpI Γ (d + 1) mX4_signsStandingAt [.ref P, .ref (P + 60 + 4 * v), .int (nI i)] σ w Q :=
  SpI.of pnX4 (Nat.le_of_ble_eq_true rfl) (vX4_signsStandingAt_0 (lp_signsSt hw hP hC hF hv hi hQ (nS π) 0 (Nat.zero_add _)))
end CB
