/-! the class: how a word comes out aloud -/
theorem b_fitI {π : PV} {v i : Nat} (h20 : nS π ≤ 20) {k : Nat} (hk : k < nS π) : bt (fitI π v i) k = fitS π k v i := by
  unfold fitI
  rw [b_setOf _ _ (by omega) k (by omega)]
  simp [hk]
/-- how long the best is -/
def bstN (π : PV) (r : Option Nat) : Nat := match r with
  | none => 0
  | some m => sS π m
def scSp (P o _k : Nat) : Bool := o == P + 17 || o == P + 18
theorem scSp_pr {P : Nat} : ∀ o k, inPr P o → scSp P o k = false := by
  intro o k h
  unfold inPr at h
  unfold scSp
  have h1 : o ≠ P + 17 := by omega
  have h2 : o ≠ P + 18 := by omega
  simp [h1, h2]
section CS
variable {Γ : Gx} {d : Nat} {w : Wd} {π : PV} {P : Nat}
theorem lp_longest {Q : Int32 → St → Prop} {σ : St} {v i : Nat} {set x : Int32} (hw : RunW w) (hP : isP P) (hC : PrC σ P π) (hF : WF π) (hx : ∀ k, k < nS π → bt x k = (bt set k && fitS π k v i)) (hQ : Q (bI (bst π v set i (nS π))) σ) :
    ∀ n k, k + n = nS π → AI Γ d mX8_longest w Q 7 [(0, .ref P), (1, .int x), (2, .int (bI (bst π v set i k))), (3, .int (nI (bstN π (bst π v set i k)))), (4, .int (nI k))] σ := by
  have hlt := P_lt hP
  obtain ⟨⟨⟨n1, h20⟩, -⟩, hs, -⟩ := hF
  have e0 : gI σ P 1 = nI (nS π) := Eq.trans hC.1.1 n1
  intro n
  induction n with
  | zero =>
    intro k hk
    have : k = nS π := hk
    subst this
    refine vX8_longest_7 (prO hw hP) (pr0 hw hP) (sgE hw hP (by omega)) (sgO hw hP) (lo_ hw (by omega)) (k24 (pO1 hP) (by decide)) (k28 (pO1 hP) (by decide)) ?_
    rw [e0]
    exact ⟨fun _ => hQ, fun c => absurd (nI_le (Nat.le_refl _) (by omega)) c⟩
  | succ n ih =>
    intro k hk
    have nx := ih (k + 1) (by omega)
    obtain ⟨s1, s2, s3, -⟩ := hs k (by omega)
    have ek : gI σ (P + 20 + 2 * k) 1 = nI (sS π k) := Eq.trans (hC.2.1 k (by omega)).1 s1
    have st : bst π v set i (k + 1) = if bt set k && fitS π k v i then (match bst π v set i k with
      | none => some k
      | some m => if sS π m < sS π k then some k else some m) else bst π v set i k := rfl
    have bn : bstN π (bst π v set i k) ≤ 4 := by
      cases hb : bst π v set i k with
      | none => exact Nat.zero_le _
      | some m => exact (hs m (by have := (bst_spec hb).1; omega)).2.2.1
    refine vX8_longest_7 (prO hw hP) (pr0 hw hP) (sgE hw hP (by omega)) (sgO hw hP) (lo_ hw (by omega)) (k24 (pO1 hP) (by decide)) (k28 (pO1 hP) (by decide)) ?_
    have lk : nI (sS π k) ≤ nI (bstN π (bst π v set i k)) ↔ sS π k ≤ bstN π (bst π v set i k) := nI_leI (by omega) (by omega)
    rw [e0, sgA_ (by omega), ek, nI_1, bit_v x (by omega), hx k (by omega), b2i_n0, b2i_0, lk]
    refine ⟨fun c => absurd c (nI_ge (by omega) (by omega)), fun _ => ⟨fun c => ?_, fun c => ⟨vk (pO1 hP) (by omega), fun c2 => ?_, fun c2 => ⟨vk (pO1 hP) (by omega), ?_⟩⟩⟩⟩
    · rw [st, c] at nx
      exact nx
    · rw [st, c] at nx
      cases hb : bst π v set i k with
      | none =>
        rw [hb] at c2
        have : sS π k ≤ 0 := c2
        omega
      | some m =>
        rw [hb] at nx c2
        have c2' : sS π k ≤ sS π m := c2
        have e : ¬ sS π m < sS π k := by omega
        simp only [e, if_false, if_true] at nx
        exact nx
    · rw [st, c] at nx
      cases hb : bst π v set i k with
      | none =>
        rw [hb] at nx
        exact nx
      | some m =>
        rw [hb] at nx c2
        have c2' : ¬ sS π k ≤ sS π m := c2
        have e : sS π m < sS π k := by omega
        simp only [e, if_true] at nx
        exact nx
theorem c_longest {Q : Int32 → St → Prop} {σ : St} {v i : Nat} {set x : Int32} (hw : RunW w) (hP : isP P) (hC : PrC σ P π) (hF : WF π) (hx : ∀ k, k < nS π → bt x k = (bt set k && fitS π k v i)) (hQ : Q (bI (bst π v set i (nS π))) σ) : SpI Γ d mX8_longest [.ref P, .int x] σ w Q :=
  SpI.of pnX8 (Nat.le_of_ble_eq_true rfl) (vX8_longest_0 (lp_longest hw hP hC hF hx hQ (nS π) 0 (Nat.zero_add _)))
theorem lp_alike {Q : Int32 → St → Prop} {σ : St} {o1 o2 m1 m2 : Nat} {a b : Nat → Int32} {n : Nat} (h1 : okO w o1 20) (h2 : okO w o2 20) (k1 : (kd o1).2 = m1) (k2 : (kd o2).2 = m2) (hm1 : m1 < 2 ^ 31) (hm2 : m2 < 2 ^ 31) (hn1 : n ≤ m1) (hn2 : n ≤ m2) (ha : ∀ j, j < n → gI σ o1 j = a j) (hb : ∀ j, j < n → gI σ o2 j = b j) (hQ : Q (b2i (allB (fun j => a j == b j) n)) σ) :
    ∀ r j, j + r = n → allB (fun j => a j == b j) j = true → AI Γ d mX11_areAlike w Q 22 [(0, .ref o1), (1, .int (nI n)), (2, .ref o2), (4, .int (nI j))] σ := by
  intro r
  induction r with
  | zero =>
    intro j hj hall
    have : j = n := hj
    subst this
    refine vX11_areAlike_22 h2 h1 ⟨fun _ => ?_, fun c => absurd (nI_le (Nat.le_refl _) (by omega)) c⟩
    rw [hall] at hQ
    exact hQ
  | succ r ih =>
    intro j hj hall
    have st : allB (fun j => a j == b j) (j + 1) = (a j == b j) := by
      show (allB _ j && _) = _
      rw [hall, Bool.true_and]
    refine vX11_areAlike_22 h2 h1 ?_
    rw [cl (by omega), ha j (by omega), hb j (by omega), nI_1]
    refine ⟨fun c => absurd c (nI_ge (by omega) (by omega)), fun _ => ⟨vk2 k1 (by omega) hm1, vk2 k2 (by omega) hm2, fun c => ih (j + 1) (by omega) (by rw [st, c]; simp), fun c => ?_⟩⟩
    have : allB (fun j => a j == b j) n = false := by
      refine allB_false (n := j + 1) ?_ (by omega)
      rw [st]
      simpa using c
    rw [this] at hQ
    exact hQ
theorem c_alike {Q : Int32 → St → Prop} {σ : St} {o1 o2 m1 m2 : Nat} {a b : Nat → Int32} {n n2 : Nat} (h1 : okO w o1 20) (h2 : okO w o2 20) (k1 : (kd o1).2 = m1) (k2 : (kd o2).2 = m2) (hm1 : m1 < 2 ^ 31) (hm2 : m2 < 2 ^ 31) (hn1 : n ≤ m1) (hn2 : n2 ≤ m2) (ha : ∀ j, j < n → gI σ o1 j = a j) (hb : ∀ j, j < n2 → gI σ o2 j = b j) (hQ : Q (b2i (decide (n = n2) && allB (fun j => a j == b j) n)) σ) : SpI Γ d mX11_areAlike [.ref o1, .int (nI n), .ref o2, .int (nI n2)] σ w Q := by
  refine SpI.of pnX11 (Nat.le_of_ble_eq_true rfl) (vX11_areAlike_0 h2.1 (by rw [h2.2]; decide) (by rw [h2.2]; decide) h1.1 (by rw [h1.2]; decide) (by rw [h1.2]; decide) ?_)
  rw [nI_eq (by omega) (by omega), k1, k2, nI_ltI (by omega) (by omega), nI_leI (by omega) (by omega)]
  refine ⟨fun c => ?_, fun c => ⟨fun c2 => by omega, fun _ => ⟨fun _ => ?_, fun c2 => by omega⟩⟩⟩
  · rw [decide_eq_false c, Bool.false_and] at hQ
    exact hQ
  · subst c
    rw [decide_eq_true rfl, Bool.true_and] at hQ
    exact lp_alike h1 h2 k1 k2 hm1 hm2 hn1 hn2 ha hb hQ n 0 (Nat.zero_add _) rfl
theorem snd_alike {π : PV} {v : Nat} {out : List Int32} : (decide (wN π v = out.length) && allB (fun j => π 8 v j == out.getD j 0) (wN π v)) = decide (out = sndL π v) := by
  rw [Bool.eq_iff_iff, Bool.and_eq_true, decide_eq_true_eq, decide_eq_true_eq, allB_iff, list_eq_iff, sndL_len]
  constructor
  · rintro ⟨h1, h2⟩
    refine ⟨h1.symm, fun j hj => ?_⟩
    have := h2 j (by omega)
    rw [beq_iff_eq] at this
    rw [← this, sndL_get (by omega)]
  · rintro ⟨h1, h2⟩
    refine ⟨h1.symm, fun j hj => ?_⟩
    rw [beq_iff_eq, h2 j (by omega), sndL_get hj]
/-- it has been said -/
def SaidC (π : PV) (P v : Nat) (set : Int32) (σ σ' : St) : Prop := Fr (scSp P) σ σ' ∧ gI σ' (P + 17) 1 = nI (spkAll π v set).2.1.length ∧ (∀ j, j < (spkAll π v set).2.1.length → gI σ' (P + 18) j = (spkAll π v set).2.1.getD j 0) ∧ gI σ' (P + 17) 2 = (spkAll π v set).2.2 ∧ gI σ' (P + 17) 3 = b2i (decide ((spkAll π v set).1 = wS π v)) ∧ gI σ' (P + 17) 4 = b2i (rightS π v set) ∧ (spkAll π v set).2.1.length ≤ 8
def sayEnd (Γ : Gx) (d : Nat) (w : Wd) (Q : St → Prop) (P v : Nat) (x4 : Int32) (s : St) : Prop := ((x4 < (gI s (P + 60 + 4 * v) 1) → (((gI (uI s (P + 17) 3 (0 : Int32)) (P + 17) 3) = (0 : Int32) → Q (uI (uI s (P + 17) 3 (0 : Int32)) (P + 17) 4 (0 : Int32))) ∧ (¬ (gI (uI s (P + 17) 3 (0 : Int32)) (P + 17) 3) = (0 : Int32) → SpI Γ d mX11_areAlike [.ref (P + 62 + 4 * v), .int (gI (uI s (P + 17) 3 (0 : Int32)) (P + 60 + 4 * v) 3), .ref (P + 18), .int (gI (uI s (P + 17) 3 (0 : Int32)) (P + 17) 1)] (uI s (P + 17) 3 (0 : Int32)) w (fun v2 s1 => ((v2 = (0 : Int32) → Q (uI s1 (P + 17) 4 (0 : Int32))) ∧ (¬ v2 = (0 : Int32) → Q (uI s1 (P + 17) 4 (1 : Int32)))))))) ∧ (¬ x4 < (gI s (P + 60 + 4 * v) 1) → (((gI (uI s (P + 17) 3 (1 : Int32)) (P + 17) 3) = (0 : Int32) → Q (uI (uI s (P + 17) 3 (1 : Int32)) (P + 17) 4 (0 : Int32))) ∧ (¬ (gI (uI s (P + 17) 3 (1 : Int32)) (P + 17) 3) = (0 : Int32) → SpI Γ d mX11_areAlike [.ref (P + 62 + 4 * v), .int (gI (uI s (P + 17) 3 (1 : Int32)) (P + 60 + 4 * v) 3), .ref (P + 18), .int (gI (uI s (P + 17) 3 (1 : Int32)) (P + 17) 1)] (uI s (P + 17) 3 (1 : Int32)) w (fun v4 s3 => ((v4 = (0 : Int32) → Q (uI s3 (P + 17) 4 (0 : Int32))) ∧ (¬ v4 = (0 : Int32) → Q (uI s3 (P + 17) 4 (1 : Int32)))))))))
theorem c_sayEnd {Q : St → Prop} {σ0 s : St} {v i : Nat} {set : Int32} {out : List Int32} {sg : Int32} (hw : RunW w) (hP : isP P) (hC : PrC s P π) (hF : WF π) (hv : v < nW π) (hi : i ≤ wS π v) (hf : Fr (scSp P) σ0 s) (h1 : gI s (P + 17) 1 = nI out.length) (h2 : ∀ j, j < out.length → gI s (P + 18) j = out.getD j 0) (h3 : gI s (P + 17) 2 = sg) (hl : out.length ≤ 8) (hsp : spkAll π v set = (i, out, sg)) (hQ : ∀ σ', SaidC π P v set σ0 σ' → Q σ') : sayEnd Γ d w Q P v (nI i) s := by
  have hlt := P_lt hP
  obtain ⟨⟨-, ⟨-, h24⟩, -⟩, -, hwd, -⟩ := hF
  obtain ⟨w1, w2, w3, w4, w5, w6, -⟩ := hwd v hv
  obtain ⟨e1, e2, e3, e4⟩ := hC.2.2.1 v hv
  obtain ⟨o3, -, -, ⟨o5, z5⟩, -⟩ := wdF hw hP (k := v) (by omega)
  have ew : gI s (P + 60 + 4 * v) 1 = nI (wS π v) := Eq.trans e1 w1
  have en : gI s (P + 60 + 4 * v) 3 = nI (wN π v) := Eq.trans e2 w4
  have hrt : rightS π v set = (decide (i = wS π v) && decide (out = sndL π v)) := by unfold rightS; rw [hsp]
  have fin : ∀ (b : Bool) (r : Bool) (s' : St), b = decide (i = wS π v) → r = rightS π v set → s' = uI (uI s (P + 17) 3 (b2i b)) (P + 17) 4 (b2i r) → Q s' := by
    intro b r s' hb hr hs'
    subst hs'
    refine hQ _ ⟨hf.tr ((fr_I (by simp [scSp])).tr (fr_I (by simp [scSp]))), ?_, ?_, ?_, ?_, ?_, ?_⟩ <;> (try rw [hsp])
    · rw [gI_uI, if_neg (by omega), gI_uI, if_neg (by omega)]; exact h1
    · intro j hj
      rw [gI_uI, if_neg (by omega), gI_uI, if_neg (by omega)]; exact h2 j hj
    · rw [gI_uI, if_neg (by omega), gI_uI, if_neg (by omega)]; exact h3
    · rw [gI_uI, if_neg (by omega), gI_uI, if_pos ⟨rfl, rfl⟩, hb]
    · rw [gI_uI, if_pos ⟨rfl, rfl⟩, hr]
    · exact hl
  unfold sayEnd
  rw [ew, nI_ltI (by omega) (by omega)]
  refine ⟨fun c => ⟨fun _ => ?_, fun c2 => ?_⟩, fun c => ⟨fun c2 => ?_, fun _ => ?_⟩⟩
  · have e : decide (i = wS π v) = false := decide_eq_false (by omega)
    exact fin false false _ e.symm (by rw [hrt, e]; rfl) rfl
  · rw [gI_uI, if_pos ⟨rfl, rfl⟩] at c2
    exact absurd rfl c2
  · rw [gI_uI, if_pos ⟨rfl, rfl⟩] at c2
    exact absurd c2 (by decide)
  · have e : decide (i = wS π v) = true := decide_eq_true (by omega)
    have g1 : gI (uI s (P + 17) 3 1) (P + 60 + 4 * v) 3 = nI (wN π v) := by rw [gI_uI, if_neg (by omega)]; exact en
    have g2 : gI (uI s (P + 17) 3 1) (P + 17) 1 = nI out.length := by rw [gI_uI, if_neg (by omega)]; exact h1
    rw [g1, g2]
    refine c_alike (a := fun j => π 8 v j) (b := fun j => out.getD j 0) o5 (ok_ hw (by omega) (pO18 hP)) z5 (by rw [pO18 hP]) (by decide) (by decide) w6 hl (fun j hj => ?_) (fun j hj => ?_) ?_
    · rw [gI_uI, if_neg (by omega)]; exact e4 j hj
    · rw [gI_uI, if_neg (by omega)]; exact h2 j hj
    · rw [snd_alike, b2i_n0, b2i_0]
      refine ⟨fun q => fin true false _ e.symm (by rw [hrt, e, q]; rfl) rfl, fun q => fin true true _ e.symm (by rw [hrt, e, q]; rfl) rfl⟩
theorem lp_say {Q : St → Prop} {σ0 : St} {v : Nat} {set : Int32} (hw : RunW w) (hP : isP P) (hC0 : PrC σ0 P π) (hT0 : FtC σ0 P π) (hF : WF π) (hv : v < nW π) (hQ : ∀ σ', SaidC π P v set σ0 σ' → Q σ') :
    ∀ f i out sg (s : St), wS π v < i + f → i ≤ wS π v → out.length ≤ i → Fr (scSp P) σ0 s → gI s (P + 17) 1 = nI out.length → (∀ j, j < out.length → gI s (P + 18) j = out.getD j 0) → gI s (P + 17) 2 = sg → spk π v set f i out sg = spkAll π v set → AV Γ (d + 1) mX8_say w Q 13 [(0, .ref (P + 17)), (1, .ref P), (2, .ref (P + 60 + 4 * v)), (3, .int set), (4, .int (nI i))] s := by
  have hF' := hF
  have hlt := P_lt hP
  obtain ⟨⟨⟨n1, h20⟩, ⟨-, h24⟩, -⟩, hs, hwd, -⟩ := hF
  obtain ⟨w1, w2, w3, w4, w5, w6, -⟩ := hwd v hv
  obtain ⟨o3, ⟨r1, r2, r3⟩, ⟨o4, z4⟩, ⟨o5, z5⟩, o6, z6⟩ := wdF hw hP (k := v) (by omega)
  have oS : okO w (P + 17) 8 := okL hw (by omega) (pO17 hP)
  have o18 := ok_ hw (by omega) (pO18 hP)
  intro f
  induction f with
  | zero => intro i out sg s h1 h2; omega
  | succ f ih =>
    intro i out sg s h1 h2 hlen hf g1 g2 g3 heq
    have hC : PrC s P π := hC0.fr hF' scSp_pr hf
    have hT : FtC s P π := hT0.fr hF' scSp_pr hf
    have ew : gI s (P + 60 + 4 * v) 1 = nI (wS π v) := Eq.trans (hC.2.2.1 v hv).1 w1
    have st : spk π v set (f + 1) i out sg = if i < wS π v then (match bst π v set i (nS π) with
      | none => (i, out, sg)
      | some k => spk π v set f (i + sS π k) (if π 3 k 0 < 0 then out else out ++ [π 3 k 0]) (sg ||| (1 <<< (nI k &&& 31)))) else (i, out, sg) := rfl
    have en : ∀ {s' : St}, spk π v set (f + 1) i out sg = (i, out, sg) → s' = s → sayEnd Γ d w Q P v (nI i) s' := fun q e => by
      subst e
      exact c_sayEnd hw hP hC hF' hv h2 hf g1 g2 g3 (by omega) (heq.symm.trans q) hQ
    refine vX8_say_13 o3 oS r2 (pr17 hw hP) r3 (prO hw hP) (pr0 hw hP) o18 (lo_ hw (by omega)) (k20 (pO18 hP) (by decide)) (k28 (pO18 hP) (by decide)) (lo_ hw (by omega)) (k24 (pO1 hP) (by decide)) (k28 (pO1 hP) (by decide)) o6 ?_
    refine ⟨fun c => ?_, fun c => ?_⟩
    · rw [ew, nI_leI (by omega) (by omega)] at c
      exact en (by rw [st, if_neg (by omega)]) rfl
    · rw [ew, nI_leI (by omega) (by omega)] at c
      rw [if_pos (by omega)] at st
      rw [cl (by omega), hT v hv i (by omega)]
      refine ⟨vk2 z6 (by omega), c_longest hw hP hC hF' (v := v) (i := i) (set := set) (fun k hk => by rw [b_and, b_fitI h20 hk, Bool.and_comm]) ?_⟩
      cases hb : bst π v set i (nS π) with
      | none =>
        rw [hb] at st
        exact ⟨fun q => absurd rfl q, fun _ => en st rfl⟩
      | some k =>
        rw [hb] at st
        dsimp only at st
        obtain ⟨hk, -, hfit⟩ := bst_spec hb
        have hle := fitS_le hfit
        obtain ⟨s1, s2, s3, s4, -⟩ := hs k hk
        obtain ⟨o1, -⟩ := sgF hw hP (k := k) (by omega)
        refine ⟨fun _ => ⟨vk (pO1 hP) (by omega), P + 20 + 2 * k, by rw [← sgA_ (P := P) (show k < 20 by omega)]; exact sgE hw hP (by omega), o1, ?_⟩, fun q => absurd q (nI_ne_m1 (by omega))⟩
        have eS : ∀ {s' : St}, Fr (scSp P) σ0 s' → gI s' (P + 20 + 2 * k) 1 = nI (sS π k) ∧ gI s' (P + 20 + 2 * k) 2 = π 3 k 0 := fun q => ⟨Eq.trans ((hC0.fr hF' scSp_pr q).2.1 k hk).1 s1, ((hC0.fr hF' scSp_pr q).2.1 k hk).2.1⟩
        rw [show bI (some k) = nI k from rfl, g3]
        have hf1 : Fr (scSp P) s (uI s (P + 17) 2 (sg ||| (1 <<< (nI k &&& 31)))) := fr_I (by simp [scSp])
        obtain ⟨q1, q2⟩ := eS (hf.tr hf1)
        have k1 : gI (uI s (P + 17) 2 (sg ||| (1 <<< (nI k &&& 31)))) (P + 17) 1 = nI out.length := by rw [gI_uI, if_neg (by omega)]; exact g1
        rw [q1, q2, k1, pO18 hP]
        have neg1 : π 3 k 0 = -1 ↔ π 3 k 0 < 0 := by
          rcases s4 with e | ⟨m, hm, e⟩
          · rw [e]; decide
          · rw [e]
            exact ⟨fun q => absurd q (nI_ne_m1 (by omega)), fun q => absurd q (nI_pos (by omega))⟩
        have mx : ∀ {Q' : Int32 → St → Prop} {s' : St}, Q' (nI (sS π k)) s' → SpI Γ d mJ9_max_7cf53 [.int 1, .int (nI (sS π k))] s' w Q' := by
          intro Q' s' h
          refine c_max (fun _ => h) (fun c2 => ?_)
          have : ¬ (1 : Nat) < sS π k := fun q => c2 (nI_lt (a := 1) q (by omega))
          rw [show sS π k = 1 by omega] at h
          exact h
        refine ⟨fun c2 => ⟨o1, mx ?_⟩, fun c2 => ⟨fun c3 => absurd c3 (nI_ge (b := 8) (by omega) (by decide)), fun _ => ⟨o1, vp_in_nI (by omega) (by decide), o1, ?_⟩⟩⟩
        · rw [nI_add]
          rw [if_pos (neg1.mp c2)] at st
          exact ih (i + sS π k) out _ _ (by omega) hle (by omega) (hf.tr hf1) k1 (fun j hj => by rw [gI_uI, if_neg (by omega)]; exact g2 j hj) (by rw [gI_uI, if_pos ⟨rfl, rfl⟩]) (st.symm.trans heq)
        · rw [if_neg (fun q => c2 (neg1.mpr q))] at st
          rw [nI_1, cl (by omega)]
          have hf2 : Fr (scSp P) s (uI (uI s (P + 17) 2 (sg ||| (1 <<< (nI k &&& 31)))) (P + 17) 1 (nI (out.length + 1))) := hf1.tr (fr_I (by simp [scSp]))
          rw [(eS (hf.tr hf2)).2]
          have hf3 : Fr (scSp P) s (uI (uI (uI s (P + 17) 2 (sg ||| (1 <<< (nI k &&& 31)))) (P + 17) 1 (nI (out.length + 1))) (P + 18) out.length (π 3 k 0)) := hf2.tr (fr_I (by simp [scSp]))
          rw [(eS (hf.tr hf3)).1]
          refine mx ?_
          rw [nI_add]
          have hlen' : (out ++ [π 3 k 0]).length = out.length + 1 := by rw [List.length_append]; rfl
          refine ih (i + sS π k) (out ++ [π 3 k 0]) _ _ (by omega) hle (by omega) (hf.tr hf3) ?_ (fun j hj => ?_) ?_ (st.symm.trans heq)
          · rw [gI_uI, if_neg (by omega), gI_uI, if_pos ⟨rfl, rfl⟩, hlen']
          · rw [hlen'] at hj
            rw [gI_uI]
            by_cases e : j = out.length
            · subst e
              rw [if_pos ⟨rfl, rfl⟩]
              simp
            · rw [if_neg (by omega), gI_uI, if_neg (by omega), gI_uI, if_neg (by omega), g2 j (by omega)]
              simp [List.getElem?_append_left (show j < out.length by omega)]
          · rw [gI_uI, if_neg (by omega), gI_uI, if_neg (by omega), gI_uI, if_pos ⟨rfl, rfl⟩]
theorem c_say {Q : St → Prop} {σ : St} {v : Nat} {set : Int32} (hw : RunW w) (hP : isP P) (hC : PrC σ P π) (hT : FtC σ P π) (hF : WF π) (hv : v < nW π) (hQ : ∀ σ', SaidC π P v set σ σ' → Q σ') : SpV Γ (d + 1) mX8_say [.ref (P + 17), .ref P, .ref (P + 60 + 4 * v), .int set] σ w Q := by
  have hlt := P_lt hP
  have w3 := (hF.2.2.1 v hv).2.2.1
  refine SpV.of pnX8 (Nat.le_of_ble_eq_true rfl) (vX8_say_0 (okL hw (by omega) (pO17 hP)) ?_)
  exact lp_say hw hP hC hT hF hv hQ 9 0 [] 0 _ (by omega) (Nat.zero_le _) (Nat.zero_le _) ((fr_I (by simp [scSp])).tr (fr_I (by simp [scSp]))) (by rw [gI_uI, if_neg (by omega), gI_uI, if_pos ⟨rfl, rfl⟩]; rfl) (fun j hj => absurd hj (Nat.not_lt_zero j)) (by rw [gI_uI, if_pos ⟨rfl, rfl⟩]) rfl
end CS
