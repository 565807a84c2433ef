/-! the class reads its text: lists, lessons -/
theorem bt_sh1 {v : Nat} (hv : v < 31) (i : Nat) : bt ((1 : Int32) <<< (nI v &&& 31)) i = decide (i = v) := by
  rcases Nat.lt_or_ge i 32 with hi | hi
  · rw [b_shl v (by omega) 1 hi, b_1 _ (by omega)]
    by_cases e : i = v
    · subst e; simp
    · rw [decide_eq_false e]
      by_cases q : v ≤ i
      · rw [decide_eq_false (show ¬ i - v = 0 by omega), Bool.and_false]
      · rw [decide_eq_false q, Bool.false_and]
  · rw [b_big hi, decide_eq_false (by omega)]
theorem nI_geL {a b : Nat} (h : a ≤ b) (hb : b < 2 ^ 31) : ¬ nI b < nI a := by
  rw [nI_ltI (by omega) (by omega)]
  omega
theorem cntB_or {x : Int32} {v : Nat} (hv : v < 31) (h : bt x v = false) : ∀ n, cntB (x ||| (1 <<< (nI v &&& 31))) n = cntB x n + (if v < n then 1 else 0) := by
  intro n
  induction n with
  | zero => rfl
  | succ n ih =>
    show cntB _ n + (if bt _ n then 1 else 0) = cntB x n + (if bt x n then 1 else 0) + _
    rw [ih, b_or, bt_sh1 hv]
    by_cases e : n = v
    · subst e
      rw [h, if_neg (Nat.lt_irrefl n), if_pos (Nat.lt_succ_self n)]
      simp
    · rw [decide_eq_false e, Bool.or_false]
      by_cases q : v < n
      · rw [if_pos q, if_pos (show v < n + 1 by omega)]; omega
      · rw [if_neg q, if_neg (show ¬ v < n + 1 by omega)]; omega
/-- what a list may leave -/
def OpO (t : Tx) (kw : List Nat) (bd a : Nat) (φ : Int32 × Int32) (v : Int32) (b : Nat) (ψ : Int32 × Int32) : Prop := (∀ f, erOK f → φ = (nI f.1, nI f.2) → ψ = φ) ∧ (φ = f00 → (∀ f, zOpt t kw bd a = .inl f → erOK f ∧ ψ = (nI f.1, nI f.2)) ∧ ∀ y, zOpt t kw bd a = .inr y → ψ = f00 ∧ b = y.1 ∧ v = y.2)
theorem f00_er {f : Er} (h : erOK f) : f00 ≠ (nI f.1, nI f.2) := by
  intro e
  have h1 := h.1
  have h2 := h.2
  have : (0 : Int32) = nI f.1 := congrArg Prod.fst e
  exact nI_ne0 (by omega) (by omega) this.symm
section CLS
variable {Γ : Gx} {d : Nat} {w : Wd} {t : Tx} {P : Nat}
theorem c_list {Q : Int32 → St → Prop} {σ : St} {a bd : Nat} {φ : Int32 × Int32} {kw : List Nat} {a0 : Nat} (hw : RunW w) (ht : TxOK t) (hb : bd ≤ 24) (hφ : φ = f00 ∨ ∃ f, erOK f ∧ φ = (nI f.1, nI f.2)) (hz : zOpt t kw bd a0 = zList t bd 601 a 0) (hX : PX σ t a φ)
    (hQ : ∀ v σ' b ψ, Fr scN σ σ' → PX σ' t b ψ → OpO t kw bd a0 φ v b ψ → Q v σ') : SpI Γ (d + 2) mX3_parseList [.ref 1, .int (nI bd)] σ w Q := by
  have h6 := ht.1
  have stop : ∀ (y i : Int32) s, Q y s → AI Γ (d + 2) mX3_parseList w Q 7 [(0, .ref 1), (1, .int (nI bd)), (2, .int y), (3, .int 0), (4, .int i)] s := fun y i s h => vX3_parseList_7 hw ⟨fun _ => h, fun _ => ⟨fun _ => h, fun q => absurd rfl q⟩⟩
  -- a fault stands
  have bad : ∀ f, erOK f → (∀ v σ' b, Fr scN σ σ' → PX σ' t b (nI f.1, nI f.2) → Q v σ') → ∀ (y v : Int32) (i : Int32) (p : Nat) s b, Fr scN σ s → PX s t b (nI f.1, nI f.2) → gI s 1 3 = nI p →
      ((((y >>> (v &&& 31)) &&& 1) = 0 → ((¬ (gI s 1 6) = 0 → AI Γ (d + 2) mX3_parseList w Q 7 [(0, .ref 1), (1, .int (nI bd)), (2, .int (y ||| (1 <<< (v &&& 31)))), (3, .int 0), (4, .int (i + 1))] s) ∧ ((gI s 1 6) = 0 → SpI Γ (d + 1) mX3_accepts [.ref 1, .int 44] s w (fun v4 s3 => ((v4 = 0 → AI Γ (d + 2) mX3_parseList w Q 7 [(0, .ref 1), (1, .int (nI bd)), (2, .int (y ||| (1 <<< (v &&& 31)))), (3, .int 0), (4, .int (i + 1))] s3) ∧ (¬ v4 = 0 → AI Γ (d + 2) mX3_parseList w Q 7 [(0, .ref 1), (1, .int (nI bd)), (2, .int (y ||| (1 <<< (v &&& 31)))), (3, .int 1), (4, .int (i + 1))] s3)))))) ∧ (¬ ((y >>> (v &&& 31)) &&& 1) = 0 → SpV Γ (d + 1) mX3_fail [.ref 1, .int 6, .int (gI s 1 3)] s w (fun s5 => ((¬ (gI s5 1 6) = 0 → AI Γ (d + 2) mX3_parseList w Q 7 [(0, .ref 1), (1, .int (nI bd)), (2, .int (y ||| (1 <<< (v &&& 31)))), (3, .int 0), (4, .int (i + 1))] s5) ∧ ((gI s5 1 6) = 0 → SpI Γ (d + 1) mX3_accepts [.ref 1, .int 44] s5 w (fun v7 s6 => ((v7 = 0 → AI Γ (d + 2) mX3_parseList w Q 7 [(0, .ref 1), (1, .int (nI bd)), (2, .int (y ||| (1 <<< (v &&& 31)))), (3, .int 0), (4, .int (i + 1))] s6) ∧ (¬ v7 = 0 → AI Γ (d + 2) mX3_parseList w Q 7 [(0, .ref 1), (1, .int (nI bd)), (2, .int (y ||| (1 <<< (v &&& 31)))), (3, .int 1), (4, .int (i + 1))] s6)))))))) := by
    intro f hf hq y v i p s b hfs hPX h3
    have n0 : ¬ nI f.1 = 0 := nI_ne0 (by have := hf.1; omega) (by have := hf.2; omega)
    have one : ∀ s', Fr scN σ s' → PX s' t b (nI f.1, nI f.2) → ∀ X : Prop, (¬ (gI s' 1 6) = 0 → AI Γ (d + 2) mX3_parseList w Q 7 [(0, .ref 1), (1, .int (nI bd)), (2, .int (y ||| (1 <<< (v &&& 31)))), (3, .int 0), (4, .int (i + 1))] s') ∧ ((gI s' 1 6) = 0 → X) := by
      intro s' hf' hP' X
      rw [hP'.2.2.2.1]
      exact ⟨fun _ => stop _ _ _ (hq _ _ b hf' hP'), fun q => absurd q n0⟩
    refine ⟨fun _ => one s hfs hPX _, fun _ => ?_⟩
    rw [h3]
    refine c_failC (n := 6) hw hPX fun s5 z1 z2 _ => ?_
    rw [flU_f hf] at z2
    exact one s5 (hfs.tr z1) z2 _
  refine SpI.of pnX3 (Nat.le_of_ble_eq_true rfl) (vX3_parseList_0 ?_)
  rcases hφ with h0 | ⟨f, hf, h0⟩
  · subst h0
    have hq1 : ∀ f, zList t bd 601 a 0 = .inl f → erOK f → ∀ v σ' b, Fr scN σ σ' → PX σ' t b (nI f.1, nI f.2) → Q v σ' := by
      intro f hl hf v σ' b g1 g2
      refine hQ v σ' b _ g1 g2 ⟨fun f' hf' e => absurd e (f00_er hf'), fun _ => ⟨fun g hg => ?_, fun y hy => ?_⟩⟩
      · rw [hz, hl] at hg
        cases hg
        exact ⟨hf, rfl⟩
      · rw [hz, hl] at hy
        cases hy
    have hq2 : ∀ x, zList t bd 601 a 0 = .inr x → ∀ σ', Fr scN σ σ' → PX σ' t x.1 f00 → Q x.2 σ' := by
      intro x hl σ' g1 g2
      refine hQ x.2 σ' x.1 _ g1 g2 ⟨fun f' hf' e => absurd e (f00_er hf'), fun _ => ⟨fun g hg => ?_, fun y hy => ?_⟩⟩
      · rw [hz, hl] at hg
        cases hg
      · rw [hz, hl] at hy
        cases hy
        exact ⟨rfl, rfl, rfl⟩
    have lp : ∀ f b set i s, t.1 < b + f → cntB set bd = i → Fr scN σ s → PX s t b f00 → zList t bd f b set = zList t bd 601 a 0 → AI Γ (d + 2) mX3_parseList w Q 7 [(0, .ref 1), (1, .int (nI bd)), (2, .int set), (3, .int 1), (4, .int (nI i))] s := by
      intro f
      induction f with
      | zero => intro b set i s hb _ _ hPX; have := hPX.2.2.1; omega
      | succ f ih =>
        intro b set i s hlt hi hfs hPX heq
        have hib := cntB_le set bd
        have hble := hPX.2.2.1
        refine vX3_parseList_7 hw ⟨fun q => absurd q (nI_geL (by omega) (by omega)), fun _ => ⟨fun q => absurd q (by decide), fun _ => c_num hw ht (by omega) hPX fun s1 z1 z2 z3 => ?_⟩⟩
        have st : zList t bd (f + 1) b set = (match zNum t bd b with
            | .inl x => .inl x
            | .inr x => if bt set x.2 then .inl (6, sk t b) else if zC t (sk t x.1) 44 then zList t bd f (sk t x.1 + 1) (set ||| (1 <<< (nI x.2 &&& 31))) else .inr (sk t x.1, set ||| (1 <<< (nI x.2 &&& 31)))) := rfl
        cases hn : zNum t bd b with
        | inl g =>
          rw [hn] at st
          have ok := zNum_erK hn
          have ee : erN t bd b = some g := by unfold erN; rw [hn]
          rw [ee, flU_0] at z2
          exact bad g ok (fun v σ' b' => hq1 g (heq.symm.trans st) ok v σ' b') set _ _ (sk t b) s1 _ (hfs.tr z1) z2 z3
        | inr x =>
          rw [hn] at st
          dsimp only at st
          obtain ⟨b1, b2, b3, b4, b5⟩ := zNum_ok hn hble
          have ee : erN t bd b = none := by unfold erN; rw [hn]
          have hx2 : zV t (sk t b) (zR zD t (sk t b)) = x.2 := by
            unfold zNum zNm at hn
            split at hn
            · cases hn
            · split at hn
              · cases hn
              · cases hn; rfl
          rw [ee, flU_n, ← b5] at z2
          rw [ee, flU_n, if_pos (show f00.1 = 0 from rfl), hx2, bit_0 set (by omega)]
          have c6 : gI s1 1 6 = 0 := z2.2.2.2.1
          refine ⟨fun c => ?_, fun c => ?_⟩
          · rw [if_neg (by rw [c]; decide)] at st
            refine ⟨fun q => absurd c6 q, fun _ => c_acc (c := 44) hw ht (by decide) z2 fun s3 y1 y2 => ?_⟩
            rw [b2i_n0, b2i_0, nI_1]
            have hf3 := (hfs.tr z1).tr y1
            refine ⟨fun c4 => stop _ _ _ ?_, fun c4 => ?_⟩
            · rw [c4, if_neg (by decide)] at y2 st
              exact hq2 _ (heq.symm.trans st) s3 hf3 y2
            · rw [c4, if_pos rfl] at y2 st
              have := sk_ge t x.1
              refine ih (sk t x.1 + 1) _ (i + 1) s3 (by omega) ?_ hf3 y2 (st.symm.trans heq)
              rw [cntB_or (by omega) c, if_pos b1, hi]
          · rw [if_pos (by simpa using c)] at st
            have ok : erOK (6, sk t b) := ⟨Nat.le_of_ble_eq_true rfl, Nat.le_of_ble_eq_true rfl⟩
            rw [z3]
            refine c_failC (n := 6) hw z2 fun s5 y1 y2 _ => ?_
            rw [flU_0] at y2
            have n0 : ¬ gI s5 1 6 = 0 := by
              rw [y2.2.2.2.1]
              exact nI_ne0 (n := 6) (by decide) (by decide)
            exact ⟨fun _ => stop _ _ _ (hq1 _ (heq.symm.trans st) ok _ _ _ ((hfs.tr z1).tr y1) y2), fun q => absurd q n0⟩
    refine lp 601 a 0 0 σ (by omega) ?_ (Fr.rf σ) hX rfl
    have : ∀ n, cntB 0 n = 0 := by
      intro n
      induction n with
      | zero => rfl
      | succ n ih =>
        show cntB 0 n + (if bt 0 n then 1 else 0) = 0
        rw [ih, b_0]
        rfl
    exact this bd
  · subst h0
    refine vX3_parseList_7 hw ⟨fun q => absurd q (nI_geL (a := 0) (by omega) (by omega)), fun _ => ⟨fun q => absurd q (by decide), fun _ => c_num hw ht (by omega) hX fun s1 z1 z2 z3 => ?_⟩⟩
    rw [flU_f hf] at z2
    exact bad f hf (fun v σ' b g1 g2 => hQ v σ' b _ g1 g2 ⟨fun _ _ _ => rfl, fun e => absurd e.symm (f00_er hf)⟩) 0 _ 0 (sk t a) s1 _ z1 z2 z3
end CLS
