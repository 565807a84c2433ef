/-! the class: images, pupils anew -/
def KRq (σ : St) (A : Nat) (κ : KV) (q : Nat) : Prop := gI σ (A + 2 + 7 * q) 0 = κ 0 q ∧ gI σ (A + 2 + 7 * q) 1 = κ 1 q ∧ MemV σ κ q 0 (A + 4 + 7 * q) (A + 5 + 7 * q) 20 ∧ MemV σ κ q 20 (A + 7 + 7 * q) (A + 8 + 7 * q) 24
def scSch (A o _k : Nat) : Bool := decide (A ≤ o) && decide (o ≤ A + 22)
def scPu (A q o _k : Nat) : Bool := decide (A + 2 + 7 * q ≤ o) && decide (o ≤ A + 8 + 7 * q)
theorem scPu_Sch {A q : Nat} (hq : q < 3) : ∀ o k, scPu A q o k = true → scSch A o k = true := by
  intro o k h
  unfold scPu at h
  unfold scSch
  simp only [Bool.and_eq_true, decide_eq_true_eq] at h ⊢
  omega
theorem KRq.fr {S : Nat → Nat → Bool} {σ σ' : St} {A q : Nat} {κ : KV} (h : KRq σ A κ q) (hS : ∀ o k, A + 2 + 7 * q ≤ o → o ≤ A + 8 + 7 * q → S o k = false) (hf : Fr S σ σ') : KRq σ' A κ q := by
  have z : ∀ o k, A + 2 + 7 * q ≤ o → o ≤ A + 8 + 7 * q → gI σ' o k = gI σ o k := fun o k h1 h2 => hf.1 o k (hS o k h1 h2)
  obtain ⟨a1, a2, a3, a4⟩ := h
  exact ⟨(z _ _ (by omega) (by omega)).trans a1, (z _ _ (by omega) (by omega)).trans a2, fun k hk => ⟨(z _ _ (by omega) (by omega)).trans (a3 k hk).1, (z _ _ (by omega) (by omega)).trans (a3 k hk).2⟩, fun k hk => ⟨(z _ _ (by omega) (by omega)).trans (a4 k hk).1, (z _ _ (by omega) (by omega)).trans (a4 k hk).2⟩⟩
theorem gI_cS (σ : St) (a b n o k : Nat) : gI (cS σ a b 0 0 n) o k = if o = b ∧ k < n then gI σ a k else gI σ o k := by
  show (if o = b then va_cpy (σ.1 a) (σ.1 b) 0 0 n k else σ.1 o k) = _
  by_cases e : o = b
  · subst e
    rw [if_pos rfl]
    by_cases h : k < n
    · rw [if_pos ⟨rfl, h⟩, pk_cpy_in (Nat.zero_le _) (by omega)]
      show σ.1 a (0 + (k - 0)) = σ.1 a k
      rw [show 0 + (k - 0) = k by omega]
    · rw [if_neg (fun q => h q.2), pk_cpy_out (Or.inr (by omega))]
      rfl
  · rw [if_neg e, if_neg (fun q => e q.1)]
    rfl
theorem fr_cS {S : Nat → Nat → Bool} {σ : St} {a b n : Nat} (h : ∀ k, S b k = true) : Fr S σ (cS σ a b 0 0 n) := by
  refine ⟨fun o k q => ?_, fun _ _ _ => rfl, fun _ _ _ => rfl⟩
  rw [gI_cS, if_neg]
  rintro ⟨rfl, -⟩
  rw [h k] at q
  cases q
def imA (c : Nat) : Nat := if c = 1 then 367 else 344
theorem im_d : rf 343 = fun c => (([344, 367, 344] : List Nat).getD c 344) := by
  funext c
  rfl
def ImC (σ : St) (π : PV) (ι : IV) : Prop := ∀ k, k < 2 → (ι k = none ∧ bt (gI σ 0 7) k = false) ∨ ∃ κ, ι k = some κ ∧ bt (gI σ 0 7) k = true ∧ KR σ (imA k) κ ∧ KOK π κ
theorem kdA : ∀ A, A ∈ [320, 344, 367] → ((kd A).1 = 6 ∧ rf A 0 = A + 1 ∧ kd (A + 1) = (26, 3)) := by decide +kernel
theorem scr_A {A : Nat} : ∀ A, A ∈ [320, 344, 367] → rf (A + 1) 3 = A + 2 := by decide +kernel
theorem inR_B {x : Int32} : inR x 0 1 = inB x 2 := by
  unfold inR inB
  congr 1
  rw [decide_eq_decide]
  omega
section CI
variable {Γ : Gx} {d : Nat} {w : Wd} {π : PV} {κ : KV} {P A B : Nat}
theorem c_memLike {Q : St → Prop} {σ : St} {M0 s0 l0 M1 s1 l1 n : Nat} (h0 : MemC w M0 s0 l0 n) (h1 : MemC w M1 s1 l1 n) (hne : l1 ≠ s0) (hQ : ∀ σ', Fr (scM2 s0 l0) σ σ' → (∀ k, k < n → gI σ' s0 k = gI σ s1 k ∧ gI σ' l0 k = gI σ l1 k) → Q σ') : SpV Γ (d + 1) mX2_becomeLike [.ref M0, .ref M1] σ w Q := by
  obtain ⟨a1, a2, a3, a4, a5, a6, a7, a8, a9⟩ := h0
  obtain ⟨b1, b2, b3, b4, b5, b6, b7, b8, b9⟩ := h1
  have fin : Q (cS (cS σ s1 s0 0 0 n) l1 l0 0 0 n) := by
    refine hQ _ ((fr_cS (fun k => by simp [scM2])).tr (fr_cS (fun k => by simp [scM2]))) (fun k hk => ⟨?_, ?_⟩)
    · rw [gI_cS, if_neg (fun q => a9 q.1), gI_cS, if_pos ⟨rfl, hk⟩]
    · rw [gI_cS, if_pos ⟨rfl, hk⟩, gI_cS, if_neg (fun q => hne q.1)]
  have z0 : (0 : Int32).toNatClampNeg = 0 := by decide
  have c : ¬ nI n < 0 := nI_pos (by omega)
  have cn : (nI n).toNatClampNeg = n := cl (by omega)
  refine SpV.of pnX2 (Nat.le_of_ble_eq_true rfl) (vX2_becomeLike_0 a1 a2 b1 b2 b3 a3 a5 b5 a4 b4 b4.1 (by rw [b4.2]; decide) (by rw [b4.2]; decide) a4.1 (by rw [a4.2]; decide) (by rw [a4.2]; decide) ?_)
  rw [a6, b6, a7, b7]
  refine c_min (fun _ => ?_) (fun _ => ?_) <;>
  · rw [z0, cn]
    exact ⟨by decide, by decide, c, by omega, by omega, by decide, by decide, c, by omega, by omega, fin⟩
theorem c_puLike {Q : St → Prop} {σ : St} {q : Nat} (hw : RunW w) (hA : isA A) (hB : isA B) (hAB : A ≠ B) (hq : q < 3) (hK : KRq σ B κ q) (hQ : ∀ σ', Fr (scPu A q) σ σ' → KRq σ' A κ q → Q σ') : SpV Γ (d + 2) mX5_becomeLike [.ref (A + 2 + 7 * q), .ref (B + 2 + 7 * q)] σ w Q := by
  obtain ⟨o1, r1, r2, m1, m2, -⟩ := puP hw hA hq
  obtain ⟨o1', r1', r2', m1', m2', -⟩ := puP hw hB hq
  have gap : (A + 22 < B ∨ B + 22 < A) := by
    rcases hA with rfl | rfl | rfl <;> rcases hB with rfl | rfl | rfl <;> omega
  obtain ⟨k1, k2, k3, k4⟩ := hK
  refine SpV.of pnX5 (Nat.le_of_ble_eq_true rfl) (vX5_becomeLike_0 o1' o1 r1 r1' r2 r2' m2.1 m1.1 ?_)
  have g1 : gI (uI σ (A + 2 + 7 * q) 0 (gI σ (B + 2 + 7 * q) 0)) (B + 2 + 7 * q) 1 = κ 1 q := by rw [gI_uI, if_neg (by omega)]; exact k2
  rw [g1, k1]
  have hf0 : Fr (scPu A q) σ (uI (uI σ (A + 2 + 7 * q) 0 (κ 0 q)) (A + 2 + 7 * q) 1 (κ 1 q)) := (fr_I (by unfold scPu; simp <;> omega)).tr (fr_I (by unfold scPu; simp <;> omega))
  have m2p : ∀ i j, 2 ≤ i → i ≤ 8 → 2 ≤ j → j ≤ 8 → ∀ o k, scM2 (A + i + 7 * q) (A + j + 7 * q) o k = true → scPu A q o k = true := by
    intro i j h1 h2 h3 h4 o k h
    unfold scM2 at h
    unfold scPu
    simp only [Bool.or_eq_true, beq_iff_eq] at h
    simp only [Bool.and_eq_true, decide_eq_true_eq]
    omega
  refine c_memLike m1 m1' (by omega) (fun s z1 z2 => c_memLike m2 m2' (by omega) (fun s' y1 y2 => ?_))
  have hfs : Fr (scPu A q) σ s := hf0.tr (z1.mono (m2p 4 5 (by omega) (by omega) (by omega) (by omega)))
  have hfs' : Fr (scPu A q) σ s' := hfs.tr (y1.mono (m2p 7 8 (by omega) (by omega) (by omega) (by omega)))
  have out : ∀ o k, B ≤ o → o ≤ B + 22 → scPu A q o k = false := by
    intro o k h1 h2
    unfold scPu
    simp
    omega
  refine hQ s' hfs' ⟨?_, ?_, fun k hk => ⟨?_, ?_⟩, fun k hk => ⟨?_, ?_⟩⟩
  · rw [y1.1 _ _ (by unfold scM2; simp <;> omega), z1.1 _ _ (by unfold scM2; simp <;> omega), gI_uI, if_neg (by omega), gI_uI, if_pos ⟨rfl, rfl⟩]
  · rw [y1.1 _ _ (by unfold scM2; simp <;> omega), z1.1 _ _ (by unfold scM2; simp <;> omega), gI_uI, if_pos ⟨rfl, rfl⟩]
  · rw [y1.1 _ _ (by unfold scM2; simp <;> omega), (z2 k hk).1, hf0.1 _ _ (out _ _ (by omega) (by omega))]; exact (k3 k hk).1
  · rw [y1.1 _ _ (by unfold scM2; simp <;> omega), (z2 k hk).2, hf0.1 _ _ (out _ _ (by omega) (by omega))]; exact (k3 k hk).2
  · rw [(y2 k hk).1, hfs.1 _ _ (out _ _ (by omega) (by omega))]; exact (k4 k hk).1
  · rw [(y2 k hk).2, hfs.1 _ _ (out _ _ (by omega) (by omega))]; exact (k4 k hk).2
theorem aF (hw : RunW w) (hA : isA A) : okO w A 6 ∧ w.2 A 0 = some (A + 1) ∧ kd (A + 1) = (26, 3) := by
  obtain ⟨a, b, c⟩ := kdA A (isA_mem hA)
  have := isA_lt hA
  exact ⟨okL hw (by omega) a, rS_ hw b, c⟩
def pqA (A q : Nat) : Nat := if q < 3 then A + 2 + 7 * q else A + 2
theorem pqE (hw : RunW w) (hA : isA A) {q : Nat} (hq : q < 4) : w.2 (A + 1) (nI q).toNatClampNeg = some (pqA A q) := by
  rw [cl (by omega)]
  unfold pqA
  by_cases e : q < 3
  · rw [if_pos e]
    exact (puP hw hA e).2.2.2.2.2
  · have : q = 3 := by omega
    subst this
    rw [if_neg (by decide)]
    exact rS_ hw (scr_A (A := A) A (isA_mem hA))
theorem pqO (hw : RunW w) (hA : isA A) (q : Nat) : okO w (pqA A q) 5 := by
  unfold pqA
  split
  · rename_i h
    exact (puP hw hA h).1
  · exact (puP hw hA (q := 0) (by decide)).1
theorem lp_schLike {Q : St → Prop} {σ0 : St} (hw : RunW w) (hA : isA A) (hB : isA B) (hAB : A ≠ B) (hK : KR σ0 B κ) (hQ : ∀ σ', Fr (scSch A) σ0 σ' → KR σ' A κ → Q σ') :
    ∀ r q s, q + r = 3 → Fr (scSch A) σ0 s → gI s A 1 = κ 4 0 → (∀ p, p < q → KRq s A κ p) → AV Γ (d + 3) mX6_becomeLike w Q 10 [(0, .ref A), (1, .ref B), (2, .int (nI q))] s := by
  have gap : (A + 22 < B ∨ B + 22 < A) := by
    rcases hA with rfl | rfl | rfl <;> rcases hB with rfl | rfl | rfl <;> omega
  have lA := isA_lt hA
  have lB := isA_lt hB
  obtain ⟨a1, a2, a3⟩ := aF hw hA
  obtain ⟨b1, b2, b3⟩ := aF hw hB
  intro r
  induction r with
  | zero =>
    intro q s hq hf h4 hp
    have : q = 3 := hq
    subst this
    refine vX6_becomeLike_10 a1 a2 (pqE hw hA (by decide)) b1 b2 (pqE hw hB (by decide)) (pqO hw hA _) (lo_ hw (by omega)) (k24 b3 (by decide)) (k28 b3 (by decide)) (lo_ hw (by omega)) (k24 a3 (by decide)) (k28 a3 (by decide)) ⟨fun _ => hQ s hf ⟨hp, h4⟩, fun c => absurd (by decide : (3 : Int32) ≤ nI 3) c⟩
  | succ r ih =>
    intro q s hq hf h4 hp
    refine vX6_becomeLike_10 a1 a2 (pqE hw hA (by omega)) b1 b2 (pqE hw hB (by omega)) (pqO hw hA _) (lo_ hw (by omega)) (k24 b3 (by decide)) (k28 b3 (by decide)) (lo_ hw (by omega)) (k24 a3 (by decide)) (k28 a3 (by decide)) ⟨fun c => absurd c (nI_ge (a := q) (b := 3) (by omega) (by decide)), fun _ => ⟨vk a3 (by omega), vk b3 (by omega), ?_⟩⟩
    rw [show pqA A q = A + 2 + 7 * q from if_pos (by omega), show pqA B q = B + 2 + 7 * q from if_pos (by omega), nI_1]
    have hB' : KRq s B κ q := KRq.fr (hK.1 q (by omega)) (fun o k h1 h2 => by unfold scSch; simp <;> omega) hf
    refine c_puLike hw hA hB hAB (by omega) hB' (fun s1 z1 z2 => ?_)
    refine ih (q + 1) s1 (by omega) (hf.tr (z1.mono (scPu_Sch (by omega)))) ?_ (fun p hp' => ?_)
    · rw [z1.1 _ _ (by unfold scPu; simp <;> omega)]; exact h4
    · by_cases e : p = q
      · subst e; exact z2
      · exact (hp p (by omega)).fr (fun o k h1 h2 => by unfold scPu; simp <;> omega) z1
theorem c_schLike {Q : St → Prop} {σ : St} (hw : RunW w) (hA : isA A) (hB : isA B) (hAB : A ≠ B) (hK : KR σ B κ) (hQ : ∀ σ', Fr (scSch A) σ σ' → KR σ' A κ → Q σ') : SpV Γ (d + 3) mX6_becomeLike [.ref A, .ref B] σ w Q := by
  obtain ⟨a1, a2, a3⟩ := aF hw hA
  obtain ⟨b1, b2, b3⟩ := aF hw hB
  refine SpV.of pnX6 (Nat.le_of_ble_eq_true rfl) (vX6_becomeLike_0 b1 a1 ?_)
  rw [hK.2]
  exact lp_schLike hw hA hB hAB hK hQ 3 0 _ rfl (fr_I (by unfold scSch; simp)) (by rw [gI_uI, if_pos ⟨rfl, rfl⟩]) (fun p hp => absurd hp (Nat.not_lt_zero p))
theorem imE (hw : RunW w) (c : Nat) : w.2 343 c = some (imA c) := by
  refine rS_ hw ?_
  rw [im_d]
  unfold imA
  rcases c with _ | _ | _ | c
  · rfl
  · rfl
  · rfl
  · rw [if_neg (by omega)]
    show (([344, 367, 344] : List Nat).getD (c + 3) 344) = 344
    rw [List.getD_eq_getElem?_getD, List.getElem?_eq_none (by simp)]
    rfl
theorem im_A (c : Nat) : isA (imA c) ∧ imA c ≠ 320 := by
  unfold imA
  split
  · exact ⟨Or.inr (Or.inr rfl), by decide⟩
  · exact ⟨Or.inr (Or.inl rfl), by decide⟩
theorem c_isImage {Q : Int32 → St → Prop} {σ : St} {x : Int32} (h : Q (b2i (inB x 2)) σ) : SpI Γ d mX11_isImage [.int x] σ w Q := SpI.of pnX11 (Nat.le_of_ble_eq_true rfl) (vX11_isImage_0 (c_inC (n := 2) (by decide) h))
/-- what keeping and going back may change -/
def scIm (o k : Nat) : Bool := (decide (320 ≤ o) && decide (o ≤ 389) && !(o == 343)) || (o == 0 && k == 7)
theorem CP.im {σ σ' : St} (h : CP σ P π) (hF : WF π) (hf : Fr scIm σ σ') : CP σ' P π := by
  have hlt := P_lt h.2.1
  have h3 : P ≠ 0 := by rcases h.2.1 with e | e <;> omega
  have z : ∀ o k, inPr P o → scIm o k = false := by
    intro o k h
    unfold inPr at h
    unfold scIm
    simp
    omega
  exact ⟨h.r0 (by decide) hf, h.2.1, h.2.2.1.fr hF z hf, h.2.2.2.1.fr hF z hf, fun a ha => by rw [hf.1 _ _ (by unfold scIm; simp <;> omega)]; exact h.2.2.2.2 a ha⟩
theorem C_keep {Q : Int32 → St → Prop} {σ : St} {ι : IV} {x : Int32} (hw : RunW w) (hK : KR σ 320 κ) (hO : KOK π κ) (hI : ImC σ π ι) (hQ : ∀ σ', Fr scIm σ σ' → KR σ' 320 κ → ImC σ' π (R_keep κ ι x).2 → Q (R_keep κ ι x).1 σ') : SpI Γ (d + 4) mX11_keep [.ref 0, .int x] σ w Q := by
  refine SpI.of pnX11 (Nat.le_of_ble_eq_true rfl) (vX11_keep_0 hw (imE hw _) (aF hw (im_A _).1).1 (c_isImage ?_))
  rw [b2i_n0, b2i_0]
  unfold R_keep at hQ
  rw [inR_B] at hQ
  refine ⟨fun c => ?_, fun c => by rw [c] at hQ; exact hQ σ (Fr.rf σ) hK hI⟩
  rw [c, if_pos rfl] at hQ
  obtain ⟨i, hi, rfl⟩ := inB_of c
  rw [cl (by omega)] at hQ ⊢
  have hA := (im_A i).1
  have lA := isA_lt hA
  have hn := (im_A i).2
  have lb : 344 ≤ imA i := by unfold imA; split <;> decide
  refine ⟨vin (by omega), c_schLike hw hA (Or.inl rfl) hn hK (fun s z1 z2 => ?_)⟩
  have g7 : gI s 0 7 = gI σ 0 7 := z1.1 _ _ (by unfold scSch; simp <;> omega)
  have hf : Fr scIm σ (uI s 0 7 (gI s 0 7 ||| (1 <<< (nI i &&& 31)))) := (z1.mono (fun o k h => by
    unfold scSch at h
    unfold scIm
    simp only [Bool.and_eq_true, decide_eq_true_eq] at h
    have h1 : 320 ≤ o := by omega
    have h2 : o ≤ 389 := by omega
    have h3 : o ≠ 343 := by omega
    simp [h1, h2, h3])).tr (fr_I (by decide))
  have kk : ∀ B, isA B → B ≠ imA i → ∀ κ', KR σ B κ' → KR (uI s 0 7 (gI s 0 7 ||| (1 <<< (nI i &&& 31)))) B κ' := by
    intro B hB hne κ' h
    have lB := isA_lt hB
    have gap : (imA i + 22 < B ∨ B + 22 < imA i) := by
      rcases hA with e | e | e <;> rcases hB with f | f | f <;> omega
    have h1 : KR s B κ' := h.fr (fun o k q1 q2 => by unfold scSch; simp <;> omega) z1
    exact h1.fr (S := fun o k => o == 0 && k == 7) (fun o k q1 q2 => by simp; omega) (fr_I (by simp))
  refine hQ _ hf (kk 320 (Or.inl rfl) (fun e => hn e.symm) κ hK) (fun k hk => ?_)
  have b7 : bt (gI (uI s 0 7 (gI s 0 7 ||| (1 <<< (nI i &&& 31)))) 0 7) k = (bt (gI σ 0 7) k || decide (k = i)) := by
    rw [gI_uI, if_pos ⟨rfl, rfl⟩, b_or, g7, one_shl (by omega) (by omega)]
  by_cases e : k = i
  · subst e
    refine Or.inr ⟨κ, if_pos rfl, by rw [b7]; simp, ?_, hO⟩
    exact z2.fr (S := fun o k => o == 0 && k == 7) (fun o k q1 q2 => by simp; omega) (fr_I (by simp))
  · rw [b7]
    have eu : updS ι i (some κ) k = ι k := if_neg e
    show (updS ι i (some κ) k = none ∧ _) ∨ _
    rw [eu]
    rcases hI k hk with ⟨q1, q2⟩ | ⟨κ', q1, q2, q3, q4⟩
    · exact Or.inl ⟨q1, by rw [q2]; simp [e]⟩
    · refine Or.inr ⟨κ', eu.trans q1, by rw [q2]; simp, kk _ (im_A k).1 ?_ κ' q3, q4⟩
      unfold imA
      split <;> split <;> omega
theorem C_goBack {Q : Int32 → St → Prop} {σ : St} {ι : IV} {x : Int32} (hw : RunW w) (hK : KR σ 320 κ) (hO : KOK π κ) (hI : ImC σ π ι) (hQ : ∀ σ', Fr scIm σ σ' → KR σ' 320 (R_back κ ι x).2 → KOK π (R_back κ ι x).2 → ImC σ' π ι → Q (R_back κ ι x).1 σ') : SpI Γ (d + 4) mX11_goBack [.ref 0, .int x] σ w Q := by
  refine SpI.of pnX11 (Nat.le_of_ble_eq_true rfl) (vX11_goBack_0 hw (imE hw _) (c_isImage ?_))
  rw [b2i_n0, b2i_0]
  unfold R_back at hQ
  rw [inR_B] at hQ
  refine ⟨fun c => ?_, fun c => by rw [c] at hQ; exact hQ σ (Fr.rf σ) hK hO hI⟩
  rw [c, if_pos rfl] at hQ
  obtain ⟨i, hi, rfl⟩ := inB_of c
  rw [cl (by omega)] at hQ ⊢
  rw [bit_v _ (by omega), b2i_n0, b2i_0]
  rcases hI i hi with ⟨q1, q2⟩ | ⟨κ', q1, q2, q3, q4⟩
  · rw [q1] at hQ
    refine ⟨fun c2 => absurd (q2.symm.trans c2) (by decide), fun _ => hQ σ (Fr.rf σ) hK hO hI⟩
  · rw [q1] at hQ
    dsimp only at hQ
    refine ⟨fun _ => ⟨vin (by omega), ?_⟩, fun c2 => by rw [q2] at c2; cases c2⟩
    refine c_schLike hw (Or.inl rfl) (im_A i).1 (fun e => (im_A i).2 e.symm) q3 (fun s z1 z2 => ?_)
    refine hQ s (z1.mono (fun o k h => by
      unfold scSch at h
      unfold scIm
      simp only [Bool.and_eq_true, decide_eq_true_eq] at h
      have h1 : 320 ≤ o := by omega
      have h2 : o ≤ 389 := by omega
      have h3 : o ≠ 343 := by omega
      simp [h1, h2, h3])) z2 q4 (fun k hk => ?_)
    have lb : 344 ≤ imA k := by unfold imA; split <;> decide
    have g7 : gI s 0 7 = gI σ 0 7 := z1.1 _ _ (by unfold scSch; simp)
    rw [g7]
    rcases hI k hk with h | ⟨κ2, p1, p2, p3, p4⟩
    · exact Or.inl h
    · exact Or.inr ⟨κ2, p1, p2, p3.fr (fun o k q1 q2 => by unfold scSch; simp <;> omega) z1, p4⟩
theorem c_clear {Q : St → Prop} {σ : St} {M s l n : Nat} (hM : MemC w M s l n) (hQ : ∀ σ', Fr (scM2 s l) σ σ' → (∀ k, k < n → gI σ' s k = 0 ∧ gI σ' l k = 0) → Q σ') : SpV Γ (d + 1) mX2_clear [.ref M] σ w Q := by
  obtain ⟨a1, a2, a3, a4, a5, a6, a7, a8, a9⟩ := hM
  refine SpV.of pnX2 (Nat.le_of_ble_eq_true rfl) (vX2_clear_0 a1 a2 a3 (c_fillI a4 a6 (by omega) fun s1 z1 z2 => c_fillI a5 a7 (by omega) fun s2 y1 y2 => ?_))
  refine hQ s2 ((z1.mono (fun o k h => by unfold scO at h; unfold scM2; rw [h]; rfl)).tr (y1.mono (fun o k h => by unfold scO at h; unfold scM2; rw [h]; simp))) (fun k hk => ⟨?_, y2 k hk⟩)
  rw [y1.1 _ _ (by simp [scO]; exact a9)]
  exact z2 k hk
theorem c_puAnew {Q : St → Prop} {σ : St} {q : Nat} (hw : RunW w) (hq : q < 3) (hQ : ∀ σ', Fr (scPu 320 q) σ σ' → KRq σ' 320 (begK κ) q → Q σ') : SpV Γ (d + 2) mX5_beginAnew [.ref (322 + 7 * q)] σ w Q := by
  obtain ⟨o1, r1, r2, m1, m2, -⟩ := pu0 hw hq
  refine SpV.of pnX5 (Nat.le_of_ble_eq_true rfl) (vX5_beginAnew_0 o1 r1 r2 m2.1 m1.1 (c_clear m1 fun s z1 z2 => c_clear m2 fun s' y1 y2 => ?_))
  have m2p : ∀ i j, 2 ≤ i → i ≤ 8 → 2 ≤ j → j ≤ 8 → ∀ o k, scM2 (320 + i + 7 * q) (320 + j + 7 * q) o k = true → scPu 320 q o k = true := by
    intro i j h1 h2 h3 h4 o k h
    unfold scM2 at h
    unfold scPu
    simp only [Bool.or_eq_true, beq_iff_eq] at h
    simp only [Bool.and_eq_true, decide_eq_true_eq]
    omega
  have hf0 : Fr (scPu 320 q) σ (uI (uI σ (322 + 7 * q) 0 0) (322 + 7 * q) 1 0) := (fr_I (by unfold scPu; simp <;> omega)).tr (fr_I (by unfold scPu; simp <;> omega))
  refine hQ s' (hf0.tr ((z1.mono (m2p 4 5 (by omega) (by omega) (by omega) (by omega))).tr (y1.mono (m2p 7 8 (by omega) (by omega) (by omega) (by omega))))) ⟨?_, ?_, fun k hk => ⟨?_, ?_⟩, fun k hk => ⟨?_, ?_⟩⟩
  · rw [y1.1 _ _ (by unfold scM2; simp <;> omega), z1.1 _ _ (by unfold scM2; simp <;> omega), gI_uI, if_neg (by omega), gI_uI, if_pos ⟨by omega, rfl⟩]; rfl
  · rw [y1.1 _ _ (by unfold scM2; simp <;> omega), z1.1 _ _ (by unfold scM2; simp <;> omega), gI_uI, if_pos ⟨by omega, rfl⟩]; rfl
  · rw [y1.1 _ _ (by unfold scM2; simp <;> omega)]; exact (z2 k hk).1
  · rw [y1.1 _ _ (by unfold scM2; simp <;> omega)]; exact (z2 k hk).2
  · exact (y2 k hk).1
  · exact (y2 k hk).2
theorem lp_anew {Q : St → Prop} {σ0 : St} (hw : RunW w) (hK : gI σ0 320 1 = κ 4 0) (hQ : ∀ σ', Fr scSc σ0 σ' → KR σ' 320 (begK κ) → Q σ') :
    ∀ r q s, q + r = 3 → Fr scSc σ0 s → gI s 320 1 = κ 4 0 → (∀ p, p < q → KRq s 320 (begK κ) p) → AV Γ (d + 3) mX6_beginAnew w Q 10 [(1, .ref 321), (2, .int (nI 3)), (3, .int (nI q))] s := by
  have k321 : kd 321 = (26, 3) := by decide +kernel
  intro r
  induction r with
  | zero =>
    intro q s hq hf h4 hp
    have : q = 3 := hq
    subst this
    exact vX6_beginAnew_10 (pqE (A := 320) hw (Or.inl rfl) (by decide)) (pqO hw (Or.inl rfl) _) (lo_ hw (by decide)) (k24 k321 (by decide)) (k28 k321 (by decide)) ⟨fun _ => hQ s hf ⟨hp, h4⟩, fun c => absurd (Int32.le_refl _) c⟩
  | succ r ih =>
    intro q s hq hf h4 hp
    refine vX6_beginAnew_10 (pqE (A := 320) hw (Or.inl rfl) (by omega)) (pqO hw (Or.inl rfl) _) (lo_ hw (by decide)) (k24 k321 (by decide)) (k28 k321 (by decide)) ⟨fun c => absurd c (nI_ge (by omega) (by omega)), fun _ => ⟨vk k321 (by omega), ?_⟩⟩
    rw [show pqA 320 q = 322 + 7 * q from if_pos (by omega), nI_1]
    refine c_puAnew (κ := κ) hw (by omega) (fun s1 z1 z2 => ?_)
    refine ih (q + 1) s1 (by omega) (hf.tr (z1.mono (fun o k h => by
      unfold scPu at h
      unfold scSc
      simp only [Bool.and_eq_true, decide_eq_true_eq] at h ⊢
      omega))) ?_ (fun p hp' => ?_)
    · rw [z1.1 _ _ (by unfold scPu; simp <;> omega)]; exact h4
    · by_cases e : p = q
      · subst e; exact z2
      · exact (hp p (by omega)).fr (fun o k h1 h2 => by unfold scPu; simp <;> omega) z1
theorem c_anew {Q : St → Prop} {σ : St} (hw : RunW w) (hK : gI σ 320 1 = κ 4 0) (hQ : ∀ σ', Fr scSc σ σ' → KR σ' 320 (begK κ) → Q σ') : SpV Γ (d + 3) mX6_beginAnew [.ref 320] σ w Q := by
  have k321 : kd 321 = (26, 3) := by decide +kernel
  refine SpV.of pnX6 (Nat.le_of_ble_eq_true rfl) (vX6_beginAnew_0 (aF hw (Or.inl rfl)).1 (aF hw (Or.inl rfl)).2.1 (lo_ hw (by decide)) (k20 k321 (by decide)) (k28 k321 (by decide)) ?_)
  rw [k321]
  exact lp_anew hw hK hQ 3 0 σ rfl (Fr.rf σ) hK (fun p hp => absurd hp (Nat.not_lt_zero p))
end CI
