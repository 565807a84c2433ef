/-! what is read is a primer -/
theorem zE_le {t : Tx} {a : Nat} (h : a ≤ t.1) : zE t a ≤ t.1 := zR_le (sk_le h)
theorem zE_ge (t : Tx) (a : Nat) : sk t a ≤ zE t a := zR_ge _ _ _
theorem zSnd_ok {t : Tx} {a : Nat} {x : Nat × Int32} (h : zSnd t a = .inr x) (ha : a ≤ t.1) : a < x.1 ∧ x.1 ≤ t.1 ∧ (x.2 = -1 ∨ ∃ n, n < 30 ∧ x.2 = nI n) := by
  have e3 := sk_ge t a
  unfold zSnd at h
  split at h
  · rename_i hc
    cases h
    have := (zC_pos hc).1
    exact ⟨by show a < sk t a + 1; omega, this, Or.inl rfl⟩
  · split at h
    · cases h
    · rename_i y hy
      cases h
      obtain ⟨h1, h2, h3, h4, h5⟩ := zNum_ok hy ha
      exact ⟨h3, h4, Or.inr ⟨y.2, h1, rfl⟩⟩
theorem zSide_ok {t : Tx} {a : Nat} {x : Nat × Int32} (h : zSide t a = .inr x) (ha : a ≤ t.1) : a ≤ x.1 ∧ x.1 ≤ t.1 ∧ (x.2 = 0 ∨ x.2 = 1 ∨ x.2 = 2) := by
  have e1 := zE_le ha
  have e2 := zE_ge t a
  have e3 := sk_ge t a
  unfold zSide at h
  split at h
  · cases h
    exact ⟨e3, by show sk t a ≤ t.1; omega, Or.inl rfl⟩
  · split at h
    · cases h
      exact ⟨by show a ≤ zE t a; omega, e1, Or.inr (Or.inl rfl)⟩
    · split at h
      · cases h
        exact ⟨by show a ≤ zE t a; omega, e1, Or.inr (Or.inr rfl)⟩
      · cases h
theorem zSnds_ok {t : Tx} : ∀ f a ss x, zSnds t f a ss = .inr x → a ≤ t.1 → ss.length ≤ 8 → (∀ s, s ∈ ss → ∃ n, n < 30 ∧ s = nI n) → a < x.1 ∧ x.1 ≤ t.1 ∧ 1 ≤ x.2.length ∧ x.2.length ≤ 8 ∧ ∀ s, s ∈ x.2 → ∃ n, n < 30 ∧ s = nI n := by
  intro f
  induction f with
  | zero => intro a ss x h; cases h
  | succ f ih =>
    intro a ss x h ha hl hs
    unfold zSnds at h
    split at h
    · cases h
    · rename_i y hy
      obtain ⟨h1, h2, h3, h4, -⟩ := zNum_ok hy ha
      have h5 := sk_le h4
      have h6 := sk_ge t y.1
      have hs' : ∀ s, s ∈ ss ++ [nI y.2] → ∃ n, n < 30 ∧ s = nI n := by
        intro s q
        rcases List.mem_append.mp q with q | q
        · exact hs s q
        · exact ⟨y.2, h1, List.mem_singleton.mp q⟩
      split at h
      · cases h
      · rename_i h8
        have hl' : (ss ++ [nI y.2]).length = ss.length + 1 := by rw [List.length_append]; rfl
        split at h
        · obtain ⟨z1, z2⟩ := ih _ _ x h h5 (by omega) hs'
          exact ⟨by omega, z2⟩
        · cases h
          exact ⟨by show a < sk t y.1; omega, h5, by show 1 ≤ (ss ++ [nI y.2]).length; omega, by show (ss ++ [nI y.2]).length ≤ 8; omega, hs'⟩
theorem shl_nI : ∀ v, v < 31 → ((1 : Int32) <<< (nI v &&& 31)) = nI (2 ^ v) := by decide +kernel
theorem or_lt2 {bd n v : Nat} (h : n < 2 ^ bd) (hv : v < bd) : n ||| 2 ^ v < 2 ^ bd := Nat.or_lt_two_pow h (Nat.pow_lt_pow_right (by decide) hv)
theorem set_or {bd v : Nat} {set : Int32} (hb : bd ≤ 24) (hv : v < bd) (h : ∃ n, n < 2 ^ bd ∧ set = nI n) : ∃ n, n < 2 ^ bd ∧ set ||| (1 <<< (nI v &&& 31)) = nI n := by
  obtain ⟨n, hn, rfl⟩ := h
  exact ⟨n ||| 2 ^ v, or_lt2 hn hv, by rw [shl_nI v (by omega), or_nI]⟩
theorem zList_ok {t : Tx} {bd : Nat} (hb : bd ≤ 24) : ∀ f a set x, zList t bd f a set = .inr x → a ≤ t.1 → (∃ n, n < 2 ^ bd ∧ set = nI n) → a < x.1 ∧ x.1 ≤ t.1 ∧ ∃ n, n < 2 ^ bd ∧ x.2 = nI n := by
  intro f
  induction f with
  | zero => intro a set x h; cases h
  | succ f ih =>
    intro a set x h ha hs
    unfold zList at h
    split at h
    · cases h
    · rename_i y hy
      obtain ⟨h1, h2, h3, h4, -⟩ := zNum_ok hy ha
      have h5 := sk_le h4
      have h6 := sk_ge t y.1
      have hs' := set_or hb h1 hs
      split at h
      · cases h
      · split at h
        · rename_i hc
          obtain ⟨z1, z2⟩ := ih _ _ x h (zC_pos hc).1 hs'
          exact ⟨by omega, z2⟩
        · cases h
          exact ⟨by show a < sk t y.1; omega, h5, hs'⟩
theorem zOpt_ok {t : Tx} {kw : List Nat} {bd a : Nat} {x : Nat × Int32} (hb : bd ≤ 24) (h : zOpt t kw bd a = .inr x) (ha : a ≤ t.1) : a ≤ x.1 ∧ x.1 ≤ t.1 ∧ ∃ n, n < 2 ^ bd ∧ x.2 = nI n := by
  have e1 := zE_le ha
  have e2 := zE_ge t a
  have e3 := sk_ge t a
  have z : ∃ n, n < 2 ^ bd ∧ (0 : Int32) = nI n := ⟨0, Nat.two_pow_pos _, rfl⟩
  unfold zOpt at h
  split at h
  · obtain ⟨z1, z2⟩ := zList_ok hb _ _ _ x h e1 z
    exact ⟨by omega, z2⟩
  · cases h
    exact ⟨e3, by show sk t a ≤ t.1; omega, z⟩
theorem wOf_some {t : Tx} {D : PV} {b e : Nat} : ∀ {n v : Nat}, wOf t D b e n = some v → v < n ∧ mtW t D b e v = true
  | 0, v, h => by cases h
  | n + 1, v, h => by
    unfold wOf at h
    split at h
    · rename_i hc
      cases h
      exact ⟨Nat.lt_succ_self _, hc⟩
    · obtain ⟨a, b⟩ := wOf_some h
      exact ⟨by omega, b⟩
theorem wOf_none {t : Tx} {D : PV} {b e : Nat} : ∀ {n : Nat}, wOf t D b e n = none → ∀ v, v < n → mtW t D b e v = false
  | 0, h, v, hv => absurd hv (Nat.not_lt_zero v)
  | n + 1, h, v, hv => by
    unfold wOf at h
    split at h
    · cases h
    · rename_i hc
      by_cases e : v = n
      · subst e; simpa using hc
      · exact wOf_none h v (by omega)
theorem zPg_ok {t : Tx} {D : PV} : ∀ f a l x, zPg t D f a l = .inr x → a ≤ t.1 → l.length ≤ 16 → (∀ v, v ∈ l → v < nW D) → a < x.1 ∧ x.1 ≤ t.1 ∧ 1 ≤ x.2.length ∧ x.2.length ≤ 16 ∧ ∀ v, v ∈ x.2 → v < nW D := by
  intro f
  induction f with
  | zero => intro a l x h; cases h
  | succ f ih =>
    intro a l x h ha hl hs
    have e1 := zE_le ha
    have e2 := zE_ge t a
    have e3 := sk_ge t a
    unfold zPg at h
    split at h
    · cases h
    · split at h
      · cases h
      · split at h
        · cases h
        · rename_i v hv
          obtain ⟨w1, -⟩ := wOf_some hv
          have h5 := sk_le e1
          have h6 := sk_ge t (zE t a)
          have hs' : ∀ u, u ∈ l ++ [v] → u < nW D := by
            intro s q
            rcases List.mem_append.mp q with q | q
            · exact hs s q
            · rw [List.mem_singleton.mp q]; exact w1
          have hl' : (l ++ [v]).length = l.length + 1 := by rw [List.length_append]; rfl
          split at h
          · obtain ⟨z1, z2⟩ := ih _ _ x h h5 (by omega) hs'
            exact ⟨by omega, z2⟩
          · cases h
            exact ⟨by show a < sk t (zE t a); omega, h5, by show 1 ≤ (l ++ [v]).length; omega, by show (l ++ [v]).length ≤ 16; omega, hs'⟩
def DOK (D : PV) : Prop := WF D ∧ WU D
theorem pv0_ok : DOK pv0 := by
  refine ⟨⟨⟨⟨rfl, by decide⟩, ⟨rfl, by decide⟩, ⟨rfl, by decide⟩, rfl, by decide⟩, fun k hk => ?_, fun k hk => ?_, fun k hk => ?_, fun k hk => ?_⟩, fun v v' hv => ?_⟩
  · exact absurd hk (by show ¬ k < 0; omega)
  · exact absurd hk (by show ¬ k < 0; omega)
  · exact absurd hk (by show ¬ k < 0; omega)
  · exact absurd hk (by show ¬ k < 0; omega)
  · exact absurd hv (by show ¬ v < 0; omega)
theorem DOK.nS {D : PV} (h : DOK D) : nS D ≤ 20 := h.1.1.1.2
theorem DOK.nW {D : PV} (h : DOK D) : nW D ≤ 24 := h.1.1.2.1.2
theorem DOK.nL {D : PV} (h : DOK D) : nL D ≤ 7 := h.1.1.2.2.1.2
theorem DOK.nP {D : PV} (h : DOK D) : nP D ≤ 8 := h.1.1.2.2.2.2
theorem adS_n {t : Tx} {D : PV} {b n : Nat} {s sd : Int32} (h : nS D ≤ 20) : nS (adS t D b n s sd) = nS D + 1 := cl (n := nS D + 1) (by omega)
theorem adS_ok {t : Tx} {D : PV} {b n : Nat} {s sd : Int32} (hD : DOK D) (h20 : nS D ≠ 20) (hn1 : 1 ≤ n) (hn4 : n ≤ 4) (hs : s = -1 ∨ ∃ n, n < 30 ∧ s = nI n) (hsd : sd = 0 ∨ sd = 1 ∨ sd = 2) : DOK (adS t D b n s sd) := by
  obtain ⟨⟨⟨⟨n1, n2⟩, nw, nl, np⟩, hS, hW, hL, hP⟩, hU⟩ := hD
  have e := adS_n (t := t) (D := D) (b := b) (n := n) (s := s) (sd := sd) n2
  refine ⟨⟨⟨⟨by rw [e]; rfl, by omega⟩, nw, nl, np⟩, fun k hk => ?_, hW, fun l hl => ?_, hP⟩, hU⟩
  · rw [e] at hk
    by_cases q : k = nS D
    · subst q
      have e1 : adS t D b n s sd 1 (nS D) 0 = nI n := if_pos rfl
      have e2 : sS (adS t D b n s sd) (nS D) = n := by
        show (adS t D b n s sd 1 (nS D) 0).toNatClampNeg = n
        rw [e1, cl (by omega)]
      have e3 : adS t D b n s sd 3 (nS D) 0 = s := if_pos rfl
      have e4 : adS t D b n s sd 4 (nS D) 0 = sd := if_pos rfl
      rw [e2, e1, e3, e4]
      exact ⟨rfl, hn1, hn4, hs, hsd⟩
    · have e1 : adS t D b n s sd 1 k 0 = D 1 k 0 := if_neg q
      have e2 : sS (adS t D b n s sd) k = sS D k := congrArg Int32.toNatClampNeg e1
      have e3 : adS t D b n s sd 3 k 0 = D 3 k 0 := if_neg q
      have e4 : adS t D b n s sd 4 k 0 = D 4 k 0 := if_neg q
      rw [e2, e1, e3, e4]
      exact hS k (by omega)
  · obtain ⟨h1, ⟨m, h2, h3⟩, h4⟩ := hL l hl
    refine ⟨h1, ⟨m, ?_, h3⟩, h4⟩
    rw [e]
    exact Nat.lt_of_lt_of_le h2 (Nat.pow_le_pow_right (by decide) (by omega))
theorem zSign_ok {t : Tx} {D : PV} {fr a : Nat} {x : Nat × PV} (hD : DOK D) (ha : a ≤ t.1) (h : zSign t D fr a = .inr x) : a < x.1 ∧ x.1 ≤ t.1 ∧ DOK x.2 := by
  have e1 := zE_le ha
  have e2 := zE_ge t a
  have e3 := sk_ge t a
  unfold zSign at h
  split at h
  · cases h
  · rename_i h20
    split at h
    · cases h
    · rename_i h1
      split at h
      · cases h
      · rename_i h4
        split at h
        · cases h
        · rename_i y hy
          obtain ⟨a1, a2, a3⟩ := zSnd_ok hy e1
          split at h
          · cases h
          · rename_i z hz
            cases h
            obtain ⟨b1, b2, b3⟩ := zSide_ok hz a2
            exact ⟨by show a < z.1; omega, b2, adS_ok hD h20 (by omega) (by omega) a3 b3⟩
theorem adW_n {t : Tx} {D : PV} {b n : Nat} {ss : List Int32} (h : nW D ≤ 24) : nW (adW t D b n ss) = nW D + 1 := cl (n := nW D + 1) (by omega)
theorem getD_mem {α : Type} {l : List α} {j : Nat} {d : α} (h : j < l.length) : l.getD j d ∈ l := by
  rw [List.getD_eq_getElem?_getD, List.getElem?_eq_getElem h]
  exact List.getElem_mem h
theorem mtW_of {t : Tx} {D : PV} {b e v : Nat} (h1 : wS D v = e - b) (h2 : ∀ i, i < e - b → D 6 v i = nI (t.2 (b + i) - 97)) : mtW t D b e v = true := by
  unfold mtW
  rw [Bool.and_eq_true, decide_eq_true_eq, allB_iff]
  exact ⟨h1, fun j hj => by rw [beq_iff_eq]; exact h2 j hj⟩
theorem adW_ok {t : Tx} {D : PV} {b e : Nat} {ss : List Int32} (hD : DOK D) (h24 : nW D ≠ 24) (hn1 : 1 ≤ e - b) (hn8 : e - b ≤ 8) (hno : wOf t D b e (nW D) = none) (hs1 : 1 ≤ ss.length) (hs8 : ss.length ≤ 8) (hs : ∀ s, s ∈ ss → ∃ n, n < 30 ∧ s = nI n) : DOK (adW t D b (e - b) ss) := by
  obtain ⟨⟨⟨ns, ⟨n1, n2⟩, nl, np⟩, hS, hW, hL, hP⟩, hU⟩ := hD
  have en := adW_n (t := t) (D := D) (b := b) (n := e - b) (ss := ss) n2
  have e5 : adW t D b (e - b) ss 5 (nW D) 0 = nI (e - b) := if_pos rfl
  have e5' : wS (adW t D b (e - b) ss) (nW D) = e - b := by
    show (adW t D b (e - b) ss 5 (nW D) 0).toNatClampNeg = e - b
    rw [e5, cl (by omega)]
  have o5 : ∀ v, v ≠ nW D → wS (adW t D b (e - b) ss) v = wS D v := fun v q => congrArg Int32.toNatClampNeg (if_neg q)
  refine ⟨⟨⟨ns, ⟨by rw [en]; rfl, by omega⟩, nl, np⟩, hS, fun v hv => ?_, fun l hl => ?_, fun p hp => ?_⟩, fun v v' hv hv' h1 h2 => ?_⟩
  · rw [en] at hv
    by_cases q : v = nW D
    · subst q
      have e7 : adW t D b (e - b) ss 7 (nW D) 0 = nI ss.length := if_pos rfl
      have e7' : wN (adW t D b (e - b) ss) (nW D) = ss.length := by
        show (adW t D b (e - b) ss 7 (nW D) 0).toNatClampNeg = _
        rw [e7, cl (by omega)]
      rw [e5', e5, e7', e7]
      refine ⟨rfl, hn1, hn8, rfl, hs1, hs8, fun j hj => ?_⟩
      have e8 : adW t D b (e - b) ss 8 (nW D) j = ss.getD j 0 := if_pos rfl
      rw [e8]
      exact hs _ (getD_mem hj)
    · have e1 : adW t D b (e - b) ss 5 v 0 = D 5 v 0 := if_neg q
      have e3 : adW t D b (e - b) ss 7 v 0 = D 7 v 0 := if_neg q
      have e4 : wN (adW t D b (e - b) ss) v = wN D v := congrArg Int32.toNatClampNeg e3
      have e8 : ∀ j, adW t D b (e - b) ss 8 v j = D 8 v j := fun j => if_neg q
      rw [o5 v q, e1, e4, e3]
      obtain ⟨w1, w2, w3, w4, w5, w6, w7⟩ := hW v (by omega)
      exact ⟨w1, w2, w3, w4, w5, w6, fun j hj => by rw [e8]; exact w7 j hj⟩
  · obtain ⟨h1, h2, m, h3, h4⟩ := hL l hl
    refine ⟨h1, h2, m, ?_, h4⟩
    rw [en]
    exact Nat.lt_of_lt_of_le h3 (Nat.pow_le_pow_right (by decide) (by omega))
  · obtain ⟨p1, p2, p3, p4, p5⟩ := hP p hp
    refine ⟨p1, p2, p3, fun i hi => ?_, p5⟩
    obtain ⟨v, q1, q2⟩ := p4 i hi
    exact ⟨v, by rw [en]; omega, q2⟩
  · rw [en] at hv hv'
    have hno' := wOf_none hno
    by_cases q : v = nW D <;> by_cases q' : v' = nW D
    · omega
    · subst q
      rw [e5', o5 v' q'] at h1
      rw [e5'] at h2
      have := hno' v' (by omega)
      rw [mtW_of h1.symm (fun i hi => by
        have z := h2 i hi
        have z1 : adW t D b (e - b) ss 6 (nW D) i = nI (t.2 (b + i) - 97) := if_pos rfl
        have z2 : adW t D b (e - b) ss 6 v' i = D 6 v' i := if_neg q'
        rw [← z2, ← z, z1])] at this
      cases this
    · subst q'
      rw [e5', o5 v q] at h1
      rw [o5 v q] at h2
      have := hno' v (by omega)
      rw [mtW_of h1 (fun i hi => by
        have z := h2 i (by omega)
        have z1 : adW t D b (e - b) ss 6 (nW D) i = nI (t.2 (b + i) - 97) := if_pos rfl
        have z2 : adW t D b (e - b) ss 6 v i = D 6 v i := if_neg q
        rw [← z2, z, z1])] at this
      cases this
    · rw [o5 v q, o5 v' q'] at h1
      rw [o5 v q] at h2
      refine hU v v' (by omega) (by omega) h1 (fun i hi => ?_)
      have z1 : adW t D b (e - b) ss 6 v i = D 6 v i := if_neg q
      have z2 : adW t D b (e - b) ss 6 v' i = D 6 v' i := if_neg q'
      rw [← z1, ← z2]
      exact h2 i hi
theorem zWord_ok {t : Tx} {D : PV} {fr a : Nat} {x : Nat × PV} (hD : DOK D) (ha : a ≤ t.1) (h : zWord t D fr a = .inr x) : a < x.1 ∧ x.1 ≤ t.1 ∧ DOK x.2 := by
  have e1 := zE_le ha
  have e2 := zE_ge t a
  have e3 := sk_ge t a
  unfold zWord at h
  split at h
  · cases h
  · rename_i h24
    split at h
    · cases h
    · rename_i h1
      split at h
      · cases h
      · rename_i hno
        split at h
        · cases h
        · rename_i h8
          split at h
          · cases h
          · rename_i y hy
            cases h
            obtain ⟨a1, a2, a3, a4, a5⟩ := zSnds_ok _ _ _ y hy e1 (Nat.zero_le _) (fun s q => absurd q List.not_mem_nil)
            exact ⟨by show a < y.1; omega, a2, adW_ok hD h24 (by omega) (by omega) hno a3 a4 a5⟩
theorem adL_n {D : PV} {x y z : Int32} (h : nL D ≤ 7) : nL (adL D x y z) = nL D + 1 := cl (n := nL D + 1) (by omega)
theorem adL_ok {D : PV} {x y z : Int32} (hD : DOK D) (h7 : nL D ≠ 7) (hx : ∃ n, n < 2 ^ nL D ∧ x = nI n) (hy : ∃ n, n < 2 ^ nS D ∧ y = nI n) (hz : ∃ n, n < 2 ^ nW D ∧ z = nI n) : DOK (adL D x y z) := by
  obtain ⟨⟨⟨ns, nw, ⟨n1, n2⟩, np⟩, hS, hW, hL, hP⟩, hU⟩ := hD
  have en := adL_n (D := D) (x := x) (y := y) (z := z) n2
  refine ⟨⟨⟨ns, nw, ⟨by rw [en]; rfl, by omega⟩, np⟩, hS, hW, fun l hl => ?_, hP⟩, hU⟩
  rw [en] at hl
  by_cases q : l = nL D
  · subst q
    have e0 : adL D x y z 9 (nL D) 0 = x := if_pos rfl
    have e1 : adL D x y z 9 (nL D) 1 = y := if_pos rfl
    have e2 : adL D x y z 9 (nL D) 2 = z := if_pos rfl
    rw [e0, e1, e2]
    exact ⟨hx, hy, hz⟩
  · have e : ∀ j, adL D x y z 9 l j = D 9 l j := fun j => if_neg q
    rw [e, e, e]
    exact hL l (by omega)
theorem zLesson_ok {t : Tx} {D : PV} {fr a : Nat} {x : Nat × PV} (hD : DOK D) (ha : a ≤ t.1) (h : zLesson t D fr a = .inr x) : a ≤ x.1 ∧ x.1 ≤ t.1 ∧ DOK x.2 := by
  have d1 := hD.nS
  have d2 := hD.nW
  have d3 := hD.nL
  unfold zLesson at h
  split at h
  · cases h
  · rename_i h7
    split at h
    · cases h
    · rename_i y hy
      obtain ⟨a1, a2, a3⟩ := zOpt_ok (by omega) hy ha
      split at h
      · cases h
      · rename_i z hz
        obtain ⟨b1, b2, b3⟩ := zOpt_ok (by omega) hz a2
        split at h
        · cases h
        · rename_i u hu
          obtain ⟨c1, c2, c3⟩ := zOpt_ok (by omega) hu b2
          cases h
          exact ⟨by show a ≤ u.1; omega, c2, adL_ok hD h7 a3 b3 c3⟩
theorem b_pgSet : ∀ (l : List Nat), (∀ v, v ∈ l → v < 32) → ∀ i, i < 32 → (bt (pgSet l) i = true ↔ i ∈ l)
  | [], _, i, _ => by
    show bt 0 i = true ↔ _
    rw [b_0]
    simp
  | v :: l, h, i, hi => by
    show bt (_ ||| _) i = true ↔ _
    rw [b_or, one_shl (h v List.mem_cons_self) hi, Bool.or_eq_true, b_pgSet l (fun u hu => h u (List.mem_cons_of_mem _ hu)) i hi]
    simp
theorem adP_n {D : PV} {l : List Nat} (h : nP D ≤ 8) : nP (adP D l) = nP D + 1 := cl (n := nP D + 1) (by omega)
theorem adP_ok {D : PV} {l : List Nat} (hD : DOK D) (h8 : nP D ≠ 8) (h1 : 1 ≤ l.length) (h16 : l.length ≤ 16) (hl : ∀ v, v ∈ l → v < nW D) : DOK (adP D l) := by
  have d2 := hD.nW
  obtain ⟨⟨⟨ns, nw, nl, n1, n2⟩, hS, hW, hL, hP⟩, hU⟩ := hD
  have en := adP_n (D := D) (l := l) n2
  refine ⟨⟨⟨ns, nw, nl, by rw [en]; rfl, by omega⟩, hS, hW, hL, fun p hp => ?_⟩, hU⟩
  rw [en] at hp
  by_cases q : p = nP D
  · subst q
    have e10 : adP D l 10 (nP D) 0 = nI l.length := if_pos rfl
    have e10' : pS (adP D l) (nP D) = l.length := by
      show (adP D l 10 (nP D) 0).toNatClampNeg = _
      rw [e10, cl (by omega)]
    have e11 : ∀ j, adP D l 11 (nP D) j = nI (l.getD j 0) := fun j => if_pos rfl
    have e12 : adP D l 12 (nP D) 0 = pgSet l := if_pos rfl
    rw [e10', e10, e12]
    refine ⟨rfl, h1, h16, fun i hi => ⟨_, hl _ (getD_mem hi), e11 i⟩, fun v hv => ?_⟩
    rw [b_pgSet l (fun u hu => by have := hl u hu; omega) v hv]
    constructor
    · intro hm
      obtain ⟨i, hi, e⟩ := List.getElem_of_mem hm
      refine ⟨i, hi, ?_⟩
      rw [e11, List.getD_eq_getElem?_getD, List.getElem?_eq_getElem hi]
      exact congrArg nI e
    · rintro ⟨i, hi, e⟩
      rw [e11] at e
      have hm := getD_mem (d := 0) hi
      have := hl _ hm
      rw [nI_eq (by omega) (by omega)] at e
      rw [← e]
      exact hm
  · have e10 : adP D l 10 p 0 = D 10 p 0 := if_neg q
    have e10' : pS (adP D l) p = pS D p := congrArg Int32.toNatClampNeg e10
    have e11 : ∀ j, adP D l 11 p j = D 11 p j := fun j => if_neg q
    have e12 : adP D l 12 p 0 = D 12 p 0 := if_neg q
    rw [e10', e10, e12]
    obtain ⟨p1, p2, p3, p4, p5⟩ := hP p (by omega)
    refine ⟨p1, p2, p3, fun i hi => by rw [e11]; exact p4 i hi, fun v hv => ?_⟩
    rw [p5 v hv]
    constructor
    · rintro ⟨i, hi, e⟩
      exact ⟨i, hi, by rw [e11]; exact e⟩
    · rintro ⟨i, hi, e⟩
      exact ⟨i, hi, by rw [← e11]; exact e⟩
theorem zPage_ok {t : Tx} {D : PV} {fr a : Nat} {x : Nat × PV} (hD : DOK D) (ha : a ≤ t.1) (h : zPage t D fr a = .inr x) : a < x.1 ∧ x.1 ≤ t.1 ∧ DOK x.2 := by
  unfold zPage at h
  split at h
  · cases h
  · rename_i h8
    split at h
    · cases h
    · rename_i y hy
      cases h
      obtain ⟨a1, a2, a3, a4, a5⟩ := zPg_ok _ _ _ y hy ha (Nat.zero_le _) (fun s q => absurd q List.not_mem_nil)
      exact ⟨a1, a2, adP_ok hD h8 a3 a4 a5⟩
theorem zBody_ok {t : Tx} {D : PV} {b e : Nat} {x : Nat × PV} (hD : DOK D) (he : e ≤ t.1) (h : zBody t D b e = .inr x) : e ≤ x.1 ∧ x.1 ≤ t.1 ∧ DOK x.2 := by
  unfold zBody at h
  split at h
  · obtain ⟨a1, a2⟩ := zSign_ok hD he h
    exact ⟨by omega, a2⟩
  · split at h
    · obtain ⟨a1, a2⟩ := zWord_ok hD he h
      exact ⟨by omega, a2⟩
    · split at h
      · exact zLesson_ok hD he h
      · split at h
        · obtain ⟨a1, a2⟩ := zPage_ok hD he h
          exact ⟨by omega, a2⟩
        · cases h
theorem zSemi_ok {t : Tx} {r : Er ⊕ (Nat × PV)} {x : Nat × PV} (h : zSemi t r = .inr x) : ∃ y, r = .inr y ∧ y.1 < x.1 ∧ x.1 ≤ t.1 ∧ x.2 = y.2 := by
  unfold zSemi at h
  split at h
  · cases h
  · rename_i y
    split at h
    · rename_i hc
      cases h
      have := sk_ge t y.1
      exact ⟨y, rfl, by show y.1 < sk t y.1 + 1; omega, (zC_pos hc).1, rfl⟩
    · cases h
theorem zClause_ok {t : Tx} {D : PV} {a : Nat} {x : Nat × PV} (hD : DOK D) (ha : a ≤ t.1) (h : zClause t D a = .inr x) : a < x.1 ∧ x.1 ≤ t.1 ∧ DOK x.2 := by
  obtain ⟨y, h1, h2, h3, h4⟩ := zSemi_ok h
  obtain ⟨b1, b2, b3⟩ := zBody_ok hD (zE_le ha) h1
  have e2 := zE_ge t a
  have e3 := sk_ge t a
  rw [h4]
  exact ⟨by omega, h3, b3⟩
theorem zAll_ok {t : Tx} : ∀ f n D a x, zAll t f n D a = .inr x → DOK D → a ≤ t.1 → DOK x.2 := by
  intro f
  induction f with
  | zero => intro n D a x h hD _; cases h; exact hD
  | succ f ih =>
    intro n D a x h hD ha
    unfold zAll at h
    split at h
    · split at h
      · cases h
      · rename_i y hy
        obtain ⟨a1, a2, a3⟩ := zClause_ok hD (sk_le ha) hy
        exact ih _ _ _ x h a3 a2
    · cases h
      exact hD
