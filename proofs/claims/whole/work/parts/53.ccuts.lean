/-! the class: spelling, cuts -/
theorem and_bit {x : Int32} {k : Nat} (hk : k < 32) : (x &&& (1 <<< (nI k &&& 31))) = 0 ↔ bt x k = false := by
  constructor
  · intro h
    have := congrArg (fun y => bt y k) h
    simp only [b_and, one_shl hk hk, b_0] at this
    simpa using this
  · intro h
    refine b_ext fun i hi => ?_
    rw [b_and, one_shl hk hi, b_0]
    by_cases e : i = k
    · subst e; simp [h]
    · simp [e]
def wbN (π : PV) (v : Nat) (set : Int32) (i j k : Nat) : Nat := match ldS π v set i j k with
  | none => 0
  | some q => wy π v set q.1 q.2
/-- ways that are known: behind letter i, sound j -/
def WyC (π : PV) (v : Nat) (set : Int32) (σ : St) (i j : Nat) : Prop := ∀ a b, a ≤ wS π v → b ≤ wN π v → (i < a ∨ (i = a ∧ j ≤ b)) → gJ σ 318 (9 * a + b) = lN (wy π v set a b)
def scCu (o _k : Nat) : Bool := o == 317 || o == 318 || o == 319
def scSpl (o _k : Nat) : Bool := o == 315 || o == 316
theorem scCu_pr {P : Nat} (hP : isP P) : ∀ o k, inPr P o → scCu o k = false := by
  intro o k h
  have := P_lt hP
  unfold inPr at h
  unfold scCu
  have h1 : o ≠ 317 := by omega
  have h2 : o ≠ 318 := by omega
  have h3 : o ≠ 319 := by omega
  simp [h1, h2, h3]
theorem scSpl_pr {P : Nat} (hP : isP P) : ∀ o k, inPr P o → scSpl o k = false := by
  intro o k h
  have := P_lt hP
  unfold inPr at h
  unfold scSpl
  have h1 : o ≠ 315 := by omega
  have h2 : o ≠ 316 := by omega
  simp [h1, h2]
theorem pnX1 : plainName RX1 = true := by decide +kernel
theorem pnX9 : plainName RX9 = true := by decide +kernel
theorem kd316 : kd 316 = (20, 32) := by decide +kernel
theorem kd318 : kd 318 = (21, 81) := by decide +kernel
theorem kd319 : kd 319 = (20, 8) := by decide +kernel
section CC
variable {Γ : Gx} {d : Nat} {w : Wd} {π : PV} {P : Nat}
theorem c_inAll {Q : Int64 → St → Prop} {σ : St} (hw : RunW w) (hQ : Q (gJ σ 318 0) σ) : SpJ Γ d mX1_inAll [.ref 317] σ w Q := SpJ.of pnX1 (Nat.le_of_ble_eq_true rfl) (vX1_inAll_0 hw ⟨vin (n := 0) (by decide), hQ⟩)
theorem c_waysBehind {Q : Int64 → St → Prop} {σ : St} {v i j k : Nat} {set : Int32} (hw : RunW w) (hP : isP P) (hC : PrC σ P π) (hF : WF π) (hv : v < nW π) (hk : k < nS π) (hb : (bt set k && fitS π k v i) = true) (hj : j ≤ wN π v) (hY : WyC π v set σ i (wN π v + 1)) (hQ : Q (lN (wbN π v set i j k)) σ) : SpJ Γ d mX1_waysBehind [.ref 317, .ref (P + 20 + 2 * k), .ref (P + 60 + 4 * v), .int (nI i), .int (nI j)] σ w Q := by
  have hF' := hF
  obtain ⟨⟨⟨-, h20⟩, ⟨-, h24⟩, -⟩, hs, hwd, -⟩ := hF
  obtain ⟨s1, s2, s3, s4, -⟩ := hs k hk
  obtain ⟨w1, w2, w3, w4, w5, w6, -⟩ := hwd v hv
  obtain ⟨c1, c2, -, -⟩ := hC.2.1 k hk
  obtain ⟨e1, e2, e3, e4⟩ := hC.2.2.1 v hv
  obtain ⟨o1, -⟩ := sgF hw hP (k := k) (by omega)
  obtain ⟨o3, ⟨-, r2, -⟩, -, ⟨o5, z5⟩, -⟩ := wdF hw hP (k := v) (by omega)
  have g1 : gI σ (P + 20 + 2 * k) 1 = nI (sS π k) := Eq.trans c1 s1
  have g2 : gI σ (P + 20 + 2 * k) 2 = π 3 k 0 := c2
  have g3 : gI σ (P + 60 + 4 * v) 3 = nI (wN π v) := Eq.trans e2 w4
  have hle : i + sS π k ≤ wS π v := fitS_le (by rw [Bool.and_eq_true] at hb; exact hb.2)
  have ld : ldS π v set i j k = (if π 3 k 0 < 0 then some (i + sS π k, j) else if decide (j < wN π v) && (π 8 v j == π 3 k 0) then some (i + sS π k, j + 1) else none) := by
    unfold ldS
    rw [if_pos hb]
  have neg1 : π 3 k 0 = -1 ↔ π 3 k 0 < 0 := by
    rcases s4 with e | ⟨m, hm, e⟩
    · rw [e]; decide
    · rw [e]
      exact ⟨fun q => absurd q (nI_ne_m1 (by omega)), fun q => absurd q (nI_pos (by omega))⟩
  have ix : (nI i + nI (sS π k)) * 9 + nI j = nI (9 * (i + sS π k) + j) := by
    rw [nI_add, show (9 : Int32) = nI 9 from rfl, nI_mul, nI_add]
    congr 1
    omega
  refine SpJ.of pnX1 (Nat.le_of_ble_eq_true rfl) (vX1_waysBehind_0 hw o1 o3 r2 o5 ?_)
  rw [g1, g2, g3, ix, nI_1, nI_leI (by omega) (by omega)]
  unfold wbN at hQ
  refine ⟨fun c => ⟨fun c2 => ?_, fun c2 => ⟨vk2 z5 (by omega), ?_⟩⟩, fun c => ⟨vin (by omega), ?_⟩⟩
  · rw [ld, if_neg (fun q => c (neg1.mpr q))] at hQ
    have : ¬ j < wN π v := by omega
    simp [this] at hQ
    exact hQ
  · have g4 : gI σ (P + 62 + 4 * v) j = π 8 v j := e4 j (by omega)
    rw [ld, if_neg (fun q => c (neg1.mpr q))] at hQ
    rw [cl (by omega), g4]
    refine ⟨fun c3 => ?_, fun c3 => ⟨vin (by omega), ?_⟩⟩
    · simp [c3] at hQ
      exact hQ
    · have hj' : j < wN π v := by omega
      simp [c3, hj'] at hQ
      rw [cl (by omega), show 9 * (i + sS π k) + j + 1 = 9 * (i + sS π k) + (j + 1) by omega, hY (i + sS π k) (j + 1) hle (by omega) (Or.inl (by omega))]
      exact hQ
  · rw [ld, if_pos (neg1.mp c)] at hQ
    rw [cl (by omega), hY (i + sS π k) j hle hj (Or.inl (by omega))]
    exact hQ
theorem wb_sum {v i j : Nat} {set : Int32} (hF : WF π) (hi : i < wS π v) (hj : j ≤ wN π v) : sumN (wbN π v set i j) (nS π) = wy π v set i j := (wy_step hF.2.1 hi hj).symm
theorem lp_count56 {Q : St → Prop} {s : St} {v i j : Nat} {set : Int32} (hw : RunW w) (hP : isP P) (hC : PrC s P π) (hT : FtC s P π) (hF : WF π) (hv : v < nW π) (hi : i < wS π v) (hj : j ≤ wN π v) (hY : WyC π v set s i (j + 1))
    (hX : AV Γ (d + 1) mX1_countWays w Q 45 [(0, .ref 317), (1, .ref P), (2, .ref (P + 60 + 4 * v)), (3, .int set), (4, .int (nI i)), (5, .int (nI j + (-1)))] (uJ s 318 (9 * i + j) (lN (wy π v set i j)))) :
    ∀ n k, k + n = nS π → AV Γ (d + 1) mX1_countWays w Q 56 [(0, .ref 317), (1, .ref P), (2, .ref (P + 60 + 4 * v)), (3, .int set), (4, .int (nI i)), (5, .int (nI j)), (6, .long (lN (sumN (wbN π v set i j) k))), (8, .int (nI k))] s := by
  have hlt := P_lt hP
  have h20 := hF.1.1.2
  have h24 := hF.1.2.1.2
  obtain ⟨w1, w2, w3, w4, w5, w6, -⟩ := hF.2.2.1 v hv
  obtain ⟨o3, ⟨-, -, r3⟩, -, -, o6, z6⟩ := wdF hw hP (k := v) (by omega)
  have ix : nI i * 9 + nI j = nI (9 * i + j) := by
    rw [show (9 : Int32) = nI 9 from rfl, nI_mul, nI_add]
    congr 1
    omega
  intro n
  induction n with
  | zero =>
    intro k hk
    have : k = nS π := hk
    subst this
    refine vX1_countWays_56 hw (prO hw hP) o3 r3 (pr0 hw hP) (sgE hw hP (by omega)) (lo_ hw (by omega)) (k24 (pO1 hP) (by decide)) (k28 (pO1 hP) (by decide)) o6 ?_
    rw [(wP hC hF).1, ix, cl (by omega), wb_sum hF hi hj]
    exact ⟨fun _ => ⟨vin (by omega), hX⟩, fun c => absurd (nI_le (Nat.le_refl _) (by omega)) c⟩
  | succ n ih =>
    intro k hk
    have nx := ih (k + 1) (by omega)
    have st : sumN (wbN π v set i j) (k + 1) = sumN (wbN π v set i j) k + wbN π v set i j k := rfl
    refine vX1_countWays_56 hw (prO hw hP) o3 r3 (pr0 hw hP) (sgE hw hP (by omega)) (lo_ hw (by omega)) (k24 (pO1 hP) (by decide)) (k28 (pO1 hP) (by decide)) o6 ?_
    rw [(wP hC hF).1, cl (n := i) (by omega), hT v hv i hi, and_bit (by omega), b_and, b_fitI h20 (by omega), nI_1, sgA_ (by omega)]
    refine ⟨fun c => absurd c (nI_ge (by omega) (by omega)), fun _ => ⟨vk2 z6 (by omega), fun c => ?_, fun c => ⟨vk (pO1 hP) (by omega), ?_⟩⟩⟩
    · have e0 : wbN π v set i j k = 0 := by
        unfold wbN ldS
        rw [Bool.and_comm, if_neg (by rw [c]; decide)]
      rw [st, e0, Nat.add_zero] at nx
      exact nx
    · have hb : (bt set k && fitS π k v i) = true := by
        rw [Bool.and_comm]
        simpa using c
      refine c_waysBehind hw hP hC hF hv (by omega) hb hj (fun a b h1 h2 h3 => hY a b h1 h2 (by omega)) ?_
      rw [lN_add, ← st]
      exact nx
theorem WyC.set {v i j : Nat} {set : Int32} {s : St} (hi : i ≤ wS π v) (hj : j ≤ wN π v) (hw8 : wN π v ≤ 8) (h : WyC π v set s i (j + 1)) : WyC π v set (uJ s 318 (9 * i + j) (lN (wy π v set i j))) i j := by
  intro a b h1 h2 h3
  rw [gJ_uJ]
  by_cases e : a = i ∧ b = j
  · rw [e.1, e.2, if_pos ⟨rfl, rfl⟩]
  · rw [if_neg (by omega)]
    exact h a b h1 h2 (by omega)
theorem lp_count45 {Q : St → Prop} {σ0 : St} {v i : Nat} {set : Int32} (hw : RunW w) (hP : isP P) (hC0 : PrC σ0 P π) (hT0 : FtC σ0 P π) (hF : WF π) (hv : v < nW π) (hi : i < wS π v)
    (hX : ∀ s, Fr scCu σ0 s → WyC π v set s i 0 → AV Γ (d + 1) mX1_countWays w Q 34 [(0, .ref 317), (1, .ref P), (2, .ref (P + 60 + 4 * v)), (3, .int set), (4, .int (nI i + (-1)))] s) :
    ∀ r s, r ≤ wN π v + 1 → Fr scCu σ0 s → WyC π v set s i r → AV Γ (d + 1) mX1_countWays w Q 45 [(0, .ref 317), (1, .ref P), (2, .ref (P + 60 + 4 * v)), (3, .int set), (4, .int (nI i)), (5, .int (dn r))] s := by
  obtain ⟨w1, w2, w3, w4, w5, w6, -⟩ := hF.2.2.1 v hv
  intro r
  induction r with
  | zero =>
    intro s hr hf hY
    exact vX1_countWays_45 ⟨fun _ => hX s hf hY, fun c => absurd dn_0 c⟩
  | succ r ih =>
    intro s hr hf hY
    rw [dn_s]
    refine vX1_countWays_45 ⟨fun c => absurd c (nI_pos (by omega)), fun _ => ?_⟩
    refine lp_count56 hw hP (hC0.fr hF (scCu_pr hP) hf) (hT0.fr hF (scCu_pr hP) hf) hF hv hi (by omega) hY ?_ (nS π) 0 (Nat.zero_add _)
    exact ih _ (by omega) (hf.tr (fr_J (by simp [scCu]))) (hY.set (by omega) (by omega) w6)
theorem lp_count34 {Q : St → Prop} {σ0 : St} {v : Nat} {set : Int32} (hw : RunW w) (hP : isP P) (hC0 : PrC σ0 P π) (hT0 : FtC σ0 P π) (hF : WF π) (hv : v < nW π) (hQ : ∀ s, Fr scCu σ0 s → WyC π v set s 0 0 → Q s) :
    ∀ r s, r ≤ wS π v → Fr scCu σ0 s → WyC π v set s r 0 → AV Γ (d + 1) mX1_countWays w Q 34 [(0, .ref 317), (1, .ref P), (2, .ref (P + 60 + 4 * v)), (3, .int set), (4, .int (dn r))] s := by
  have h24 := hF.1.2.1.2
  obtain ⟨w1, w2, w3, w4, w5, w6, -⟩ := hF.2.2.1 v hv
  obtain ⟨o3, -⟩ := wdF hw hP (k := v) (by omega)
  intro r
  induction r with
  | zero =>
    intro s hr hf hY
    exact vX1_countWays_34 o3 ⟨fun _ => hQ s hf hY, fun c => absurd dn_0 c⟩
  | succ r ih =>
    intro s hr hf hY
    have hC := hC0.fr hF (scCu_pr hP) hf
    have g3 : gI s (P + 60 + 4 * v) 3 = nI (wN π v) := Eq.trans (hC.2.2.1 v hv).2.1 w4
    rw [dn_s]
    refine vX1_countWays_34 o3 ⟨fun c => absurd c (nI_pos (by omega)), fun _ => ?_⟩
    rw [g3]
    have nx := lp_count45 (Γ := Γ) (d := d) (Q := Q) (set := set) hw hP hC0 hT0 hF hv (show r < wS π v by omega) (fun s' z1 z2 => ih s' (by omega) z1 z2) (wN π v + 1) s (Nat.le_refl _) hf (fun a b h1 h2 h3 => hY a b h1 h2 (by omega))
    rw [dn_s] at nx
    exact nx
theorem c_countWays {Q : St → Prop} {σ : St} {v : Nat} {set : Int32} (hw : RunW w) (hP : isP P) (hC : PrC σ P π) (hT : FtC σ P π) (hF : WF π) (hv : v < nW π) (hQ : ∀ s, Fr scCu σ s → WyC π v set s 0 0 → Q s) : SpV Γ (d + 1) mX1_countWays [.ref 317, .ref P, .ref (P + 60 + 4 * v), .int set] σ w Q := by
  have h24 := hF.1.2.1.2
  obtain ⟨w1, w2, w3, w4, w5, w6, -⟩ := hF.2.2.1 v hv
  obtain ⟨o3, -⟩ := wdF hw hP (k := v) (by omega)
  refine SpV.of pnX1 (Nat.le_of_ble_eq_true rfl) (vX1_countWays_0 hw o3 (c_fillJ (ok_ hw (by decide) kd318) (n := 81) (by rw [kd318]) (by decide) fun s z1 z2 => ?_))
  have hf : Fr scCu σ s := z1.mono (fun o k q => by
    unfold scO at q
    unfold scCu
    rw [beq_iff_eq] at q
    simp [q])
  have hCs := hC.fr hF (scCu_pr hP) hf
  have g1 : gI s (P + 60 + 4 * v) 1 = nI (wS π v) := Eq.trans (hCs.2.2.1 v hv).1 w1
  have g3 : gI s (P + 60 + 4 * v) 3 = nI (wN π v) := Eq.trans (hCs.2.2.1 v hv).2.1 w4
  have ix : nI (wS π v) * 9 + nI (wN π v) = nI (9 * wS π v + wN π v) := by
    rw [show (9 : Int32) = nI 9 from rfl, nI_mul, nI_add]
    congr 1
    omega
  rw [g1, g3, ix, cl (by omega), dn_m]
  refine ⟨vin (by omega), lp_count34 hw hP hC hT hF hv hQ (wS π v) _ (Nat.le_refl _) (hf.tr (fr_J (by simp [scCu]))) (fun a b h1 h2 h3 => ?_)⟩
  have ea : a = wS π v := by omega
  subst ea
  rw [gJ_uJ, wy_end]
  by_cases e : b = wN π v
  · rw [if_pos ⟨rfl, by omega⟩, if_pos e]
    rfl
  · rw [if_neg (by omega), if_neg e, z2 _ (by omega)]
    rfl
theorem gd_iff {v i j k : Nat} {set : Int32} (hF : WF π) (hv : v < nW π) (hi : i < wS π v) (hj : j ≤ wN π v) (hk : k < nS π) : gdS π v set i j k = !decide (wbN π v set i j k = 0) := by
  unfold gdS wbN
  cases ldS π v set i j k with
  | none => rfl
  | some q => rfl
theorem lp_goesOn {Q : Int32 → St → Prop} {s : St} {v i j : Nat} {set : Int32} (hw : RunW w) (hP : isP P) (hC : PrC s P π) (hT : FtC s P π) (hF : WF π) (hv : v < nW π) (hi : i < wS π v) (hj : j ≤ wN π v) (hY : WyC π v set s 0 0) (hQ : Q (bI (fstB (gdS π v set i j) (nS π))) s) :
    ∀ n k, k + n = nS π → fstB (gdS π v set i j) k = none → AI Γ (d + 1) mX1_firstThatGoesOn w Q 3 [(0, .ref 317), (1, .ref P), (2, .ref (P + 60 + 4 * v)), (3, .int (nI i)), (4, .int (nI j)), (5, .int set), (6, .int (nI k))] s := by
  have hlt := P_lt hP
  have h20 := hF.1.1.2
  have h24 := hF.1.2.1.2
  obtain ⟨w1, w2, w3, w4, w5, w6, -⟩ := hF.2.2.1 v hv
  obtain ⟨o3, ⟨-, -, r3⟩, -, -, o6, z6⟩ := wdF hw hP (k := v) (by omega)
  intro n
  induction n with
  | zero =>
    intro k hk hn
    have : k = nS π := hk
    subst this
    refine vX1_firstThatGoesOn_3 hw (prO hw hP) o3 r3 (pr0 hw hP) (sgE hw hP (by omega)) (lo_ hw (by omega)) (k24 (pO1 hP) (by decide)) (k28 (pO1 hP) (by decide)) o6 ?_
    rw [(wP hC hF).1]
    rw [hn] at hQ
    exact ⟨fun _ => hQ, fun c => absurd (nI_le (Nat.le_refl _) (by omega)) c⟩
  | succ n ih =>
    intro k hk hn
    have st : fstB (gdS π v set i j) (k + 1) = if gdS π v set i j k then some k else none := by
      show (match fstB (gdS π v set i j) k with | some m => some m | none => _) = _
      rw [hn]
    have up : ∀ n', k + 1 + n' = nS π → fstB (gdS π v set i j) (k + 1) = some k → fstB (gdS π v set i j) (nS π) = some k := by
      intro n' hn' h
      have : ∀ m, fstB (gdS π v set i j) (k + 1 + m) = some k := by
        intro m
        induction m with
        | zero => exact h
        | succ m ihm =>
          show (match fstB (gdS π v set i j) (k + 1 + m) with | some m => some m | none => _) = _
          rw [ihm]
      rw [← hn']
      exact this n'
    refine vX1_firstThatGoesOn_3 hw (prO hw hP) o3 r3 (pr0 hw hP) (sgE hw hP (by omega)) (lo_ hw (by omega)) (k24 (pO1 hP) (by decide)) (k28 (pO1 hP) (by decide)) o6 ?_
    rw [(wP hC hF).1, cl (n := i) (by omega), hT v hv i hi, and_bit (by omega), b_and, b_fitI h20 (by omega), nI_1, sgA_ (by omega)]
    have hg := gd_iff (set := set) hF hv hi hj (show k < nS π by omega)
    refine ⟨fun c => absurd c (nI_ge (by omega) (by omega)), fun _ => ⟨vk2 z6 (by omega), fun c => ?_, fun c => ⟨vk (pO1 hP) (by omega), ?_⟩⟩⟩
    · have e0 : wbN π v set i j k = 0 := by
        unfold wbN ldS
        rw [Bool.and_comm, if_neg (by rw [c]; decide)]
      exact ih (k + 1) (by omega) (by rw [st, hg, e0]; rfl)
    · have hb : (bt set k && fitS π k v i) = true := by
        rw [Bool.and_comm]
        simpa using c
      have hwb : wbN π v set i j k < 2 ^ 63 := by
        unfold wbN
        cases hq : ldS π v set i j k with
        | none => exact Nat.two_pow_pos 63
        | some q =>
          obtain ⟨-, q1, q2, -, q4⟩ := ldS_spec hq hj
          exact wy_lt hF hv q2 q4
      refine c_waysBehind hw hP hC hF hv (by omega) hb hj (fun a b h1 h2 h3 => hY a b h1 h2 (by omega)) ?_
      rw [lN_pos hwb]
      refine ⟨fun c2 => ih (k + 1) (by omega) (by rw [st, hg, c2]; rfl), fun c2 => ?_⟩
      have e : fstB (gdS π v set i j) (k + 1) = some k := by
        rw [st, hg]
        simp [c2]
      rw [up n (by omega) e] at hQ
      exact hQ
theorem c_goesOn {Q : Int32 → St → Prop} {s : St} {v i j : Nat} {set : Int32} (hw : RunW w) (hP : isP P) (hC : PrC s P π) (hT : FtC s P π) (hF : WF π) (hv : v < nW π) (hi : i < wS π v) (hj : j ≤ wN π v) (hY : WyC π v set s 0 0) (hQ : Q (bI (fstB (gdS π v set i j) (nS π))) s) : SpI Γ (d + 1) mX1_firstThatGoesOn [.ref 317, .ref P, .ref (P + 60 + 4 * v), .int (nI i), .int (nI j), .int set] s w Q :=
  SpI.of pnX1 (Nat.le_of_ble_eq_true rfl) (vX1_firstThatGoesOn_0 (lp_goesOn hw hP hC hT hF hv hi hj hY hQ (nS π) 0 (Nat.zero_add _) rfl))
/-- the first cut, found -/
def CutC (σ : St) (l : List Int32) : Prop := gI σ 317 2 = nI l.length ∧ l.length ≤ 8 ∧ ∀ j, j < l.length → gI σ 319 j = l.getD j 0
theorem lp_first {Q : St → Prop} {σ0 : St} {v : Nat} {set : Int32} (hw : RunW w) (hP : isP P) (hC0 : PrC σ0 P π) (hT0 : FtC σ0 P π) (hF : WF π) (hv : v < nW π) (hY0 : WyC π v set σ0 0 0) (hQ : ∀ s, Fr scCu σ0 s → CutC s (cutL π v set 9 0 0) → Q s) :
    ∀ f i j l s, wS π v < i + f → i ≤ wS π v → j ≤ wN π v → l.length ≤ i → wy π v set i j ≠ 0 → Fr scCu σ0 s → (∀ a, gJ s 318 a = gJ σ0 318 a) → CutC s l → l ++ cutL π v set f i j = cutL π v set 9 0 0 → AV Γ (d + 2) mX1_findFirst w Q 24 [(0, .ref 317), (1, .ref P), (2, .ref (P + 60 + 4 * v)), (3, .int set), (4, .int (nI i)), (5, .int (nI j))] s := by
  have hlt := P_lt hP
  have h20 := hF.1.1.2
  have h24 := hF.1.2.1.2
  obtain ⟨w1, w2, w3, w4, w5, w6, -⟩ := hF.2.2.1 v hv
  obtain ⟨o3, -⟩ := wdF hw hP (k := v) (by omega)
  intro f
  induction f with
  | zero => intro i j l s h1 h2; omega
  | succ f ih =>
    intro i j l s h1 hi hj hl hwy hf hJ hL heq
    have hC := hC0.fr hF (scCu_pr hP) hf
    have hT := hT0.fr hF (scCu_pr hP) hf
    have ew : gI s (P + 60 + 4 * v) 1 = nI (wS π v) := Eq.trans (hC.2.2.1 v hv).1 w1
    have hY : WyC π v set s 0 0 := fun a b q1 q2 q3 => (hJ _).trans (hY0 a b q1 q2 q3)
    have st : cutL π v set (f + 1) i j = if i < wS π v then (match fstB (gdS π v set i j) (nS π) with
      | none => []
      | some k => (match ldS π v set i j k with
        | none => []
        | some q => nI k :: cutL π v set f q.1 q.2)) else [] := rfl
    refine vX1_findFirst_24 hw o3 (prO hw hP) (pr0 hw hP) (lo_ hw (by omega)) (k24 (pO1 hP) (by decide)) (k28 (pO1 hP) (by decide)) ?_
    have lw : nI (wS π v) ≤ nI i ↔ wS π v ≤ i := nI_leI (by omega) (by omega)
    have hl8 := hL.2.1
    rw [hL.1, kd319, ew, lw]
    refine ⟨fun c => absurd c (nI_ne_m1 (by omega)), fun _ => ⟨fun c => ?_, fun c => ⟨fun c2 => ?_, fun c2 => ?_⟩⟩⟩
    · have c' : 8 ≤ l.length := (nI_leI (a := 8) (by decide) (by omega)).mp c
      rw [st, if_neg (by omega), List.append_nil] at heq
      exact hQ s hf (by rw [← heq]; exact hL)
    · rw [st, if_neg (by omega), List.append_nil] at heq
      exact hQ s hf (by rw [← heq]; exact hL)
    · have c' : l.length < 8 := by
        have : ¬ 8 ≤ l.length := fun q => c (nI_le (a := 8) q (by omega))
        omega
      rw [if_pos (by omega)] at st
      obtain ⟨k, q, hk1, hk2, hq, hwq⟩ := gd_some hF.2.1 (show i < wS π v by omega) hj hwy
      obtain ⟨-, q1, q2, q3, q4⟩ := ldS_spec hq hj
      obtain ⟨s1, s2, s3, s4, -⟩ := hF.2.1 k hk2
      obtain ⟨o1, -⟩ := sgF hw hP (k := k) (by omega)
      refine c_goesOn hw hP hC hT hF hv (by omega) hj hY ?_
      rw [hk1] at st ⊢
      dsimp only at st
      rw [hq] at st
      dsimp only at st
      have er : w.2 (P + 1) (nI k).toNatClampNeg = some (P + 20 + 2 * k) := by rw [← sgA_ (P := P) (show k < 20 by omega)]; exact sgE hw hP (by omega)
      rw [hL.1, cl (n := l.length) (by omega), nI_1]
      refine ⟨fun _ => ⟨vin (by omega), vk (pO1 hP) (by omega), P + 20 + 2 * k, er, o1, vk (pO1 hP) (by omega), P + 20 + 2 * k, er, o1, ?_⟩, fun c3 => absurd c3 (nI_ne_m1 (by omega))⟩
      have hfb : Fr scCu s (uI (uI s 317 2 (nI (l.length + 1))) 319 l.length (bI (some k))) := (fr_I (by simp [scCu])).tr (fr_I (by simp [scCu]))
      have hCb := hC0.fr hF (scCu_pr hP) (hf.tr hfb)
      have g1 : gI (uI (uI s 317 2 (nI (l.length + 1))) 319 l.length (bI (some k))) (P + 20 + 2 * k) 1 = nI (sS π k) := Eq.trans (hCb.2.1 k hk2).1 s1
      have g2 : gI (uI (uI s 317 2 (nI (l.length + 1))) 319 l.length (bI (some k))) (P + 20 + 2 * k) 2 = π 3 k 0 := (hCb.2.1 k hk2).2.1
      rw [g1, g2, nI_add]
      have hlen : (l ++ [nI k]).length = l.length + 1 := by rw [List.length_append]; rfl
      have hL' : CutC (uI (uI s 317 2 (nI (l.length + 1))) 319 l.length (bI (some k))) (l ++ [nI k]) := by
        refine ⟨?_, by omega, fun m hm => ?_⟩
        · rw [gI_uI, if_neg (by omega), gI_uI, if_pos ⟨rfl, rfl⟩, hlen]
        · rw [hlen] at hm
          rw [gI_uI]
          by_cases e : m = l.length
          · subst e
            rw [if_pos ⟨rfl, rfl⟩]
            simp
            rfl
          · rw [if_neg (by omega), gI_uI, if_neg (by omega), hL.2.2 m (by omega)]
            simp [List.getElem?_append_left (show m < l.length by omega)]
      have heq' : (l ++ [nI k]) ++ cutL π v set f q.1 q.2 = cutL π v set 9 0 0 := by
        rw [← heq, st, List.append_assoc]
        rfl
      have neg1 : π 3 k 0 = -1 ↔ π 3 k 0 < 0 := by
        rcases s4 with e | ⟨m, hm, e⟩
        · rw [e]; decide
        · rw [e]
          exact ⟨fun q => absurd q (nI_ne_m1 (by omega)), fun q => absurd q (nI_pos (by omega))⟩
      have go : ∀ x5, x5 = nI q.2 → AV Γ (d + 2) mX1_findFirst w Q 24 [(0, .ref 317), (1, .ref P), (2, .ref (P + 60 + 4 * v)), (3, .int set), (4, .int (nI (i + sS π k))), (5, .int x5)] (uI (uI s 317 2 (nI (l.length + 1))) 319 l.length (bI (some k))) := by
        intro x5 hx5
        subst hx5
        rw [← q1]
        exact ih q.1 q.2 (l ++ [nI k]) _ (by omega) q2 q4 (by omega) hwq (hf.tr hfb) hJ hL' heq'
      have hq' := hq
      unfold ldS at hq'
      split at hq'
      · split at hq'
        · rename_i hn
          cases hq'
          refine ⟨fun c3 => absurd (neg1.mpr hn) c3, fun _ => go _ (nI_add j 0)⟩
        · rename_i hn
          split at hq'
          · cases hq'
            refine ⟨fun _ => go _ (nI_1 j), fun c3 => absurd (neg1.mp c3) hn⟩
          · cases hq'
      · cases hq'
theorem c_findFirst {Q : St → Prop} {σ : St} {v : Nat} {set : Int32} (hw : RunW w) (hP : isP P) (hC : PrC σ P π) (hT : FtC σ P π) (hF : WF π) (hv : v < nW π) (hY : WyC π v set σ 0 0)
    (hQ0 : wy π v set 0 0 = 0 → ∀ s, Fr scCu σ s → gI s 317 2 = -1 → Q s) (hQ : wy π v set 0 0 ≠ 0 → ∀ s, Fr scCu σ s → CutC s (cutL π v set 9 0 0) → Q s) : SpV Γ (d + 2) mX1_findFirst [.ref 317, .ref P, .ref (P + 60 + 4 * v), .int set] σ w Q := by
  have hlt := P_lt hP
  have h24 := hF.1.2.1.2
  obtain ⟨w1, w2, w3, w4, w5, w6, -⟩ := hF.2.2.1 v hv
  obtain ⟨o3, -⟩ := wdF hw hP (k := v) (by omega)
  have hlt2 := wy_lt (set := set) hF hv (i := 0) (j := 0) (Nat.zero_le _) (Nat.zero_le _)
  have e0 : gJ σ 318 0 = lN (wy π v set 0 0) := hY 0 0 (Nat.zero_le _) (Nat.zero_le _) (Or.inr ⟨rfl, Nat.le_refl _⟩)
  refine SpV.of pnX1 (Nat.le_of_ble_eq_true rfl) (vX1_findFirst_0 hw (c_inAll hw ?_))
  rw [e0, lN_pos hlt2]
  have hfb : ∀ x, Fr scCu σ (uI σ 317 2 x) := fun x => fr_I (by simp [scCu])
  refine ⟨fun c => ?_, fun c => ?_⟩
  · refine vX1_findFirst_24 hw o3 (prO hw hP) (pr0 hw hP) (lo_ hw (by omega)) (k24 (pO1 hP) (by decide)) (k28 (pO1 hP) (by decide)) ?_
    refine ⟨fun _ => hQ0 c _ (hfb _) (by rw [gI_uI, if_pos ⟨rfl, rfl⟩]), fun c2 => absurd (by rw [gI_uI, if_pos ⟨rfl, rfl⟩]) c2⟩
  · exact lp_first hw hP hC hT hF hv hY (hQ c) 9 0 0 [] _ (by omega) (Nat.zero_le _) (Nat.zero_le _) (Nat.le_refl _) c (hfb 0) (fun _ => rfl) ⟨by rw [gI_uI, if_pos ⟨rfl, rfl⟩]; rfl, by decide, fun m hm => absurd hm (Nat.not_lt_zero m)⟩ rfl
end CC
