/-! the class: spelling -/
def OutC (σ : St) (out : List Int32) : Prop := gI σ 315 1 = nI out.length ∧ ∀ j, j < out.length → gI σ 316 j = out.getD j 0
def SpeltC (π : PV) (v : Nat) (set : Int32) (σ σ' : St) : Prop := Fr scSpl σ σ' ∧ OutC σ' (spl π v set).2 ∧ gI σ' 315 2 = b2i (wellS π v set) ∧ (spl π v set).2.length ≤ 32
theorem ltr_len (π : PV) (k : Nat) : (ltr π k).length = sS π k := by simp [ltr]
theorem ltr_get {π : PV} {k j : Nat} (h : j < sS π k) : (ltr π k).getD j 0 = π 2 k j := by simp [ltr, h]
section CSP
variable {Γ : Gx} {d : Nat} {w : Wd} {π : PV} {P : Nat}
theorem lp_firstFor {Q : Int32 → St → Prop} {s : St} {v j : Nat} {set : Int32} (hw : RunW w) (hP : isP P) (hC : PrC s P π) (hF : WF π) (hv : v < nW π) (hj : j < wN π v) (hQ : Q (bI (fstB (oks π v set j) (nS π))) s) :
    ∀ n k, k + n = nS π → fstB (oks π v set j) k = none → AI Γ d mX9_firstFor w Q 3 [(0, .ref P), (1, .ref (P + 60 + 4 * v)), (2, .int (nI j)), (3, .int set), (4, .int (nI k))] s := by
  have hlt := P_lt hP
  have h20 := hF.1.1.2
  have h24 := hF.1.2.1.2
  obtain ⟨w1, w2, w3, w4, w5, w6, -⟩ := hF.2.2.1 v hv
  obtain ⟨o3, ⟨-, r2, -⟩, -, ⟨o5, z5⟩, -⟩ := wdF hw hP (k := v) (by omega)
  obtain ⟨e1, e2, e3, e4⟩ := hC.2.2.1 v hv
  have g3 : gI s (P + 60 + 4 * v) 3 = nI (wN π v) := Eq.trans e2 w4
  have g8 : gI s (P + 62 + 4 * v) j = π 8 v j := e4 j hj
  intro n
  induction n with
  | zero =>
    intro k hk hn
    have : k = nS π := hk
    subst this
    refine vX9_firstFor_3 (prO hw hP) (pr0 hw hP) (sgE hw hP (by omega)) (sgO hw hP) o3 r2 o5 (lo_ hw (by omega)) (k24 (pO1 hP) (by decide)) (k28 (pO1 hP) (by decide)) ?_
    rw [(wP hC hF).1]
    rw [hn] at hQ
    exact ⟨fun _ => hQ, fun c => absurd (nI_le (Nat.le_refl _) (by omega)) c⟩
  | succ n ih =>
    intro k hk hn
    have st : fstB (oks π v set j) (k + 1) = if oks π v set j k then some k else none := by
      show (match fstB (oks π v set j) k with | some m => some m | none => _) = _
      rw [hn]
    have up : fstB (oks π v set j) (k + 1) = some k → fstB (oks π v set j) (nS π) = some k := by
      intro h
      have : ∀ m, fstB (oks π v set j) (k + 1 + m) = some k := by
        intro m
        induction m with
        | zero => exact h
        | succ m ihm =>
          show (match fstB (oks π v set j) (k + 1 + m) with | some m => some m | none => _) = _
          rw [ihm]
      rw [show nS π = k + 1 + n by omega]
      exact this n
    have no : oks π v set j k = false → AI Γ d mX9_firstFor w Q 3 [(0, .ref P), (1, .ref (P + 60 + 4 * v)), (2, .int (nI j)), (3, .int set), (4, .int (nI (k + 1)))] s := fun h => ih (k + 1) (by omega) (by rw [st, h]; rfl)
    have yes : oks π v set j k = true → Q (nI k) s := by
      intro h
      have := up (by rw [st, h]; rfl)
      rw [this] at hQ
      exact hQ
    obtain ⟨c1, c2, c3, -⟩ := hC.2.1 k (by omega)
    have gk2 : gI s (P + 20 + 2 * k) 2 = π 3 k 0 := c2
    have gk3 : gI s (P + 20 + 2 * k) 3 = π 4 k 0 := c3
    have ok : oks π v set j k = (bt set k && (π 3 k 0 == π 8 v j) && (!(π 4 k 0 == 1) || decide (j = 0)) && (!(π 4 k 0 == 2) || decide (j + 1 = wN π v))) := rfl
    have e1' : nI (wN π v) - 1 = nI (wN π v - 1) := pk_sub (b := 1) (by omega)
    have lj : nI j = nI (wN π v - 1) ↔ j + 1 = wN π v := by rw [nI_eq (by omega) (by omega)]; omega
    have l0 : nI j = 0 ↔ j = 0 := nI_eq (b := 0) (by omega) (by decide)
    refine vX9_firstFor_3 (prO hw hP) (pr0 hw hP) (sgE hw hP (by omega)) (sgO hw hP) o3 r2 o5 (lo_ hw (by omega)) (k24 (pO1 hP) (by decide)) (k28 (pO1 hP) (by decide)) ?_
    rw [(wP hC hF).1, sgA_ (by omega), gk2, gk3, g3, e1', lj, l0, cl (n := j) (by omega), g8, bit_v set (by omega), nI_1, b2i_n0, b2i_0]
    have vj : vp_in (nI j) (kd (P + 62 + 4 * v)).2 := vk2 z5 (by omega)
    have good : ((!(π 4 k 0 == 1) || decide (j = 0)) && (!(π 4 k 0 == 2) || decide (j + 1 = wN π v))) = true → ((bt set k = false → AI Γ d mX9_firstFor w Q 3 [(0, .ref P), (1, .ref (P + 60 + 4 * v)), (2, .int (nI j)), (3, .int set), (4, .int (nI (k + 1)))] s) ∧ (bt set k = true → (vp_in (nI j) (kd (P + 62 + 4 * v)).2) ∧ ((¬ π 3 k 0 = π 8 v j → AI Γ d mX9_firstFor w Q 3 [(0, .ref P), (1, .ref (P + 60 + 4 * v)), (2, .int (nI j)), (3, .int set), (4, .int (nI (k + 1)))] s) ∧ (π 3 k 0 = π 8 v j → Q (nI k) s)))) := by
      intro h
      rw [Bool.and_assoc, h, Bool.and_true] at ok
      refine ⟨fun q => no (by rw [ok, q]; rfl), fun q => ⟨vj, fun q2 => no ?_, fun q2 => yes ?_⟩⟩
      · rw [ok, q]; simpa using q2
      · rw [ok, q]; simpa using q2
    have bad : ((!(π 4 k 0 == 1) || decide (j = 0)) && (!(π 4 k 0 == 2) || decide (j + 1 = wN π v))) = false → ((bt set k = false → AI Γ d mX9_firstFor w Q 3 [(0, .ref P), (1, .ref (P + 60 + 4 * v)), (2, .int (nI j)), (3, .int set), (4, .int (nI (k + 1)))] s) ∧ (bt set k = true → (vp_in (nI j) (kd (P + 62 + 4 * v)).2) ∧ ((¬ π 3 k 0 = π 8 v j → AI Γ d mX9_firstFor w Q 3 [(0, .ref P), (1, .ref (P + 60 + 4 * v)), (2, .int (nI j)), (3, .int set), (4, .int (nI (k + 1)))] s) ∧ (π 3 k 0 = π 8 v j → AI Γ d mX9_firstFor w Q 3 [(0, .ref P), (1, .ref (P + 60 + 4 * v)), (2, .int (nI j)), (3, .int set), (4, .int (nI (k + 1)))] s)))) := by
      intro h
      rw [Bool.and_assoc, h, Bool.and_false] at ok
      exact ⟨fun _ => no ok, fun _ => ⟨vj, fun _ => no ok, fun _ => no ok⟩⟩
    refine ⟨fun c => absurd c (nI_ge (by omega) (by omega)), fun _ => ⟨vk (pO1 hP) (by omega), fun p1 => ⟨fun p2 => good ?_, fun p2 => ⟨fun p3 => good ?_, fun p3 => bad ?_⟩⟩, fun p1 => ⟨fun p2 => bad ?_, fun p2 => ⟨fun p3 => good ?_, fun p3 => absurd (p1.symm.trans p3) (by decide)⟩⟩⟩⟩
    · simp [p1, p2]
    · simp [p1, p2, p3]
    · simp [p1, p2, p3]
    · simp [p1, p2]
    · simp [p1, p2]
theorem c_firstFor {Q : Int32 → St → Prop} {s : St} {v j : Nat} {set : Int32} (hw : RunW w) (hP : isP P) (hC : PrC s P π) (hF : WF π) (hv : v < nW π) (hj : j < wN π v) (hQ : Q (bI (fstB (oks π v set j) (nS π))) s) : SpI Γ d mX9_firstFor [.ref P, .ref (P + 60 + 4 * v), .int (nI j), .int set] s w Q :=
  SpI.of pnX9 (Nat.le_of_ble_eq_true rfl) (vX9_firstFor_0 (lp_firstFor hw hP hC hF hv hj hQ (nS π) 0 (Nat.zero_add _) rfl))
theorem lp_app {Q : St → Prop} {σ0 : St} {k : Nat} {out : List Int32} (hw : RunW w) (hP : isP P) (hC0 : PrC σ0 P π) (hF : WF π) (hk : k < nS π) (hl : out.length ≤ 28) (hQ : ∀ s, Fr scSpl σ0 s → OutC s (out ++ ltr π k) → gI s 315 2 = gI σ0 315 2 → Q s) :
    ∀ n i s, i + n = sS π k → Fr scSpl σ0 s → OutC s (out ++ (ltr π k).take i) → gI s 315 2 = gI σ0 315 2 → AV Γ d mX9_append w Q 2 [(0, .ref 315), (1, .ref (P + 20 + 2 * k)), (2, .int (nI i))] s := by
  have hlt := P_lt hP
  have h20 := hF.1.1.2
  obtain ⟨s1, s2, s3, -⟩ := hF.2.1 k hk
  obtain ⟨o1, r1, o2, z1⟩ := sgF hw hP (k := k) (by omega)
  intro n
  induction n with
  | zero =>
    intro i s hi hf hO h2
    have : i = sS π k := hi
    subst this
    have hC := hC0.fr hF (scSpl_pr hP) hf
    have ek : gI s (P + 20 + 2 * k) 1 = nI (sS π k) := Eq.trans (hC.2.1 k hk).1 s1
    refine vX9_append_2 hw o1 r1 o2 ?_
    rw [ek]
    refine ⟨fun _ => hQ s hf ?_ h2, fun c => absurd (nI_le (Nat.le_refl _) (by omega)) c⟩
    rw [← ltr_len, List.take_length] at hO
    exact hO
  | succ n ih =>
    intro i s hi hf hO h2
    have hC := hC0.fr hF (scSpl_pr hP) hf
    have ek : gI s (P + 20 + 2 * k) 1 = nI (sS π k) := Eq.trans (hC.2.1 k hk).1 s1
    have hlen : (out ++ (ltr π k).take i).length = out.length + i := by rw [List.length_append, List.length_take, ltr_len]; omega
    have h1 : gI s 315 1 = nI (out.length + i) := by rw [hO.1, hlen]
    have el : ∀ x, gI (uI s 315 1 x) (P + 21 + 2 * k) i = π 2 k i := by
      intro x
      rw [gI_uI, if_neg (by omega)]
      exact (hC.2.1 k hk).2.2.2 i (by omega)
    refine vX9_append_2 hw o1 r1 o2 ?_
    rw [ek, h1, kd316, nI_1, nI_1, cl (n := i) (by omega), cl (n := out.length + i) (by omega), el]
    refine ⟨fun c => absurd c (nI_ge (by omega) (by omega)), fun _ => ⟨fun c => absurd c (nI_ge (b := 32) (by omega) (by decide)), fun _ => ⟨vk2 z1 (by omega), vin (by omega), ?_⟩⟩⟩
    refine ih (i + 1) _ (by omega) (hf.tr ((fr_I (by simp [scSpl])).tr (fr_I (by simp [scSpl])))) ?_ (by rw [gI_uI, if_neg (by omega), gI_uI, if_neg (by omega)]; exact h2)
    have et : out ++ (ltr π k).take (i + 1) = (out ++ (ltr π k).take i) ++ [π 2 k i] := by
      rw [List.append_assoc, List.take_add_one]
      congr 2
      rw [List.getElem?_eq_getElem (by rw [ltr_len]; omega)]
      have := ltr_get (π := π) (k := k) (j := i) (by omega)
      rw [List.getD_eq_getElem?_getD, List.getElem?_eq_getElem (by rw [ltr_len]; omega)] at this
      exact congrArg (fun x => [x]) this
    rw [et]
    refine ⟨?_, fun j hj => ?_⟩
    · rw [gI_uI, if_neg (by omega), gI_uI, if_pos ⟨rfl, rfl⟩, List.length_append, hlen]
      rfl
    · rw [List.length_append, hlen] at hj
      have hj' : j < out.length + i + 1 := hj
      rw [gI_uI]
      by_cases e : j = out.length + i
      · rw [if_pos ⟨rfl, e⟩]
        rw [List.getD_eq_getElem?_getD, List.getElem?_append_right (by omega), show j - (out ++ (ltr π k).take i).length = 0 by omega]
        rfl
      · rw [if_neg (by omega), gI_uI, if_neg (by omega), hO.2 j (by omega)]
        rw [List.getD_eq_getElem?_getD, List.getD_eq_getElem?_getD, List.getElem?_append_left (l₁ := out ++ (ltr π k).take i) (by omega)]
theorem c_app {Q : St → Prop} {σ : St} {k : Nat} {out : List Int32} (hw : RunW w) (hP : isP P) (hC : PrC σ P π) (hF : WF π) (hk : k < nS π) (hl : out.length ≤ 28) (hO : OutC σ out) (hQ : ∀ s, Fr scSpl σ s → OutC s (out ++ ltr π k) → gI s 315 2 = gI σ 315 2 → Q s) : SpV Γ d mX9_append [.ref 315, .ref (P + 20 + 2 * k)] σ w Q :=
  SpV.of pnX9 (Nat.le_of_ble_eq_true rfl) (vX9_append_0 (lp_app hw hP hC hF hk hl hQ (sS π k) 0 σ (Nat.zero_add _) (Fr.rf σ) (by rw [List.take_zero, List.append_nil]; exact hO) rfl))
theorem well_alike {v : Nat} {set : Int32} : (decide (wS π v = (spl π v set).2.length) && allB (fun j => π 6 v j == (spl π v set).2.getD j 0) (wS π v)) = (decide ((spl π v set).2.length = wS π v) && allB (fun j => (spl π v set).2.getD j 0 == π 6 v j) (spl π v set).2.length) := by
  rw [Bool.eq_iff_iff, Bool.and_eq_true, Bool.and_eq_true, decide_eq_true_eq, decide_eq_true_eq, allB_iff, allB_iff]
  constructor
  · rintro ⟨h1, h2⟩
    refine ⟨h1.symm, fun j hj => ?_⟩
    have := h2 j (by omega)
    rw [beq_iff_eq] at this ⊢
    exact this.symm
  · rintro ⟨h1, h2⟩
    refine ⟨h1.symm, fun j hj => ?_⟩
    have := h2 j (by omega)
    rw [beq_iff_eq] at this ⊢
    exact this.symm
theorem lp_spellC {Q : St → Prop} {σ0 : St} {v : Nat} {set : Int32} (hw : RunW w) (hP : isP P) (hC0 : PrC σ0 P π) (hF : WF π) (hv : v < nW π) (hQ : ∀ σ', SpeltC π v set σ0 σ' → Q σ') :
    ∀ n j out s, j + n = wN π v → out.length ≤ 4 * j → Fr scSpl σ0 s → OutC s out → gI s 315 2 = 0 → splN π v set n j out = spl π v set → AV Γ (d + 1) mX9_spell w Q 13 [(0, .ref 315), (1, .ref P), (2, .ref (P + 60 + 4 * v)), (3, .int set), (4, .int (nI j))] s := by
  have hlt := P_lt hP
  have h20 := hF.1.1.2
  have h24 := hF.1.2.1.2
  obtain ⟨w1, w2, w3, w4, w5, w6, -⟩ := hF.2.2.1 v hv
  obtain ⟨o3, ⟨r1, -, -⟩, ⟨o4, z4⟩, -⟩ := wdF hw hP (k := v) (by omega)
  intro n
  induction n with
  | zero =>
    intro j out s hj hl hf hO h2 heq
    have : j = wN π v := hj
    subst this
    have heq' : spl π v set = (true, out) := heq.symm
    have hC := hC0.fr hF (scSpl_pr hP) hf
    obtain ⟨e1, e2, e3, e4⟩ := hC.2.2.1 v hv
    have g1 : gI s (P + 60 + 4 * v) 1 = nI (wS π v) := Eq.trans e1 w1
    have g3 : gI s (P + 60 + 4 * v) 3 = nI (wN π v) := Eq.trans e2 w4
    refine vX9_spell_13 hw o3 r1 (prO hw hP) (pr0 hw hP) (lo_ hw (by omega)) (k24 (pO1 hP) (by decide)) (k28 (pO1 hP) (by decide)) ?_
    rw [g1, g3, hO.1]
    refine ⟨fun _ => c_alike (a := fun j => π 6 v j) (b := fun j => out.getD j 0) o4 (ok_ hw (by decide) kd316) z4 (by rw [kd316]) (by decide) (by decide) w3 (by omega) (fun i hi => e3 i hi) (fun i hi => hO.2 i hi) ⟨b2i_01 _, ?_⟩, fun c => absurd (nI_le (Nat.le_refl _) (by omega)) c⟩
    have wl := well_alike (π := π) (v := v) (set := set)
    rw [heq'] at wl
    refine hQ _ ⟨hf.tr (fr_I (by simp [scSpl])), ?_, ?_, ?_⟩
    · rw [heq']
      exact ⟨by rw [gI_uI, if_neg (by omega)]; exact hO.1, fun i hi => by rw [gI_uI, if_neg (by omega)]; exact hO.2 i hi⟩
    · rw [gI_uI, if_pos ⟨rfl, rfl⟩]
      congr 1
      unfold wellS
      rw [heq', wl]
      simp
    · rw [heq']
      show out.length ≤ 32
      omega
  | succ n ih =>
    intro j out s hj hl hf hO h2 heq
    have hC := hC0.fr hF (scSpl_pr hP) hf
    have g3 : gI s (P + 60 + 4 * v) 3 = nI (wN π v) := Eq.trans (hC.2.2.1 v hv).2.1 w4
    have st : splN π v set (n + 1) j out = (match fstB (oks π v set j) (nS π) with
      | none => (false, out)
      | some k => splN π v set n (j + 1) (out ++ ltr π k)) := rfl
    refine vX9_spell_13 hw o3 r1 (prO hw hP) (pr0 hw hP) (lo_ hw (by omega)) (k24 (pO1 hP) (by decide)) (k28 (pO1 hP) (by decide)) ?_
    rw [g3, nI_1]
    refine ⟨fun c => absurd c (nI_ge (by omega) (by omega)), fun _ => c_firstFor hw hP hC hF hv (by omega) ?_⟩
    cases hb : fstB (oks π v set j) (nS π) with
    | none =>
      rw [hb] at st
      have heq' : spl π v set = (false, out) := heq.symm.trans st
      refine ⟨fun c => absurd rfl c, fun _ => hQ s ⟨hf, by rw [heq']; exact hO, ?_, by rw [heq']; show out.length ≤ 32; omega⟩⟩
      rw [h2]
      unfold wellS
      rw [heq']
      rfl
    | some k =>
      rw [hb] at st
      obtain ⟨hk, -⟩ := fstB_spec hb
      have s3 := (hF.2.1 k hk).2.2.1
      refine ⟨fun _ => ⟨vk (pO1 hP) (by omega), P + 20 + 2 * k, by rw [← sgA_ (P := P) (show k < 20 by omega)]; exact sgE hw hP (by omega), c_app hw hP hC hF hk (by omega) hO fun s1 z1 z2 z3 => ?_⟩, fun c => absurd c (nI_ne_m1 (by omega))⟩
      exact ih (j + 1) (out ++ ltr π k) s1 (by omega) (by rw [List.length_append, ltr_len]; omega) (hf.tr z1) z2 (z3.trans h2) (st.symm.trans heq)
theorem c_spellC {Q : St → Prop} {σ : St} {v : Nat} {set : Int32} (hw : RunW w) (hP : isP P) (hC : PrC σ P π) (hF : WF π) (hv : v < nW π) (hQ : ∀ σ', SpeltC π v set σ σ' → Q σ') : SpV Γ (d + 1) mX9_spell [.ref 315, .ref P, .ref (P + 60 + 4 * v), .int set] σ w Q := by
  refine SpV.of pnX9 (Nat.le_of_ble_eq_true rfl) (vX9_spell_0 hw ?_)
  exact lp_spellC hw hP hC hF hv hQ (wN π v) 0 [] _ (Nat.zero_add _) (Nat.le_refl _) ((fr_I (by simp [scSpl])).tr (fr_I (by simp [scSpl]))) ⟨by rw [gI_uI, if_neg (by omega), gI_uI, if_pos ⟨rfl, rfl⟩]; rfl, fun i hi => absurd hi (Nat.not_lt_zero i)⟩ (by rw [gI_uI, if_pos ⟨rfl, rfl⟩]) rfl
end CSP
