/-! the law: what is so of the machine at the start -/
theorem vk_S_ex {N : Nat} {len : List Nat} {byt : List (List Int32)} {adK adV adK' adV' : Nat → Nat} {A : Nat → Prop} {U : State} {H : Heap} (h : vk_S N len byt adK adV A U H) (e1 : ∀ i, i < N → adK' i = adK i) (e2 : ∀ i, i < N → adV' i = adV i) : vk_S N len byt adK' adV' A U H :=
  ⟨fun i hi => by rw [e1 i hi, e2 i hi]; exact h.1 i hi, fun i j hi hj e => h.2 i j hi hj (by rw [← e1 i hi, ← e1 j hj]; exact e)⟩
theorem tab_any {args a' : Array Value} {s : State} {c : Cond} (hc : c.onTables = true) (h : c.before args s = true) : c.before a' s = true := by
  have e := Cond.onTables_vm (A := a') (A' := args) (U := s) (U' := s) s.vm c hc
  rw [State.setVm_self] at e
  rw [e]
  exact h
theorem good_any {w : Cond} (hg : goodWord w = true) {a a' : Array Value} {s : State} (h : w.before a s = true) : w.before a' s = true := by
  rcases good_of_word hg with q | ⟨ty, rfl⟩
  · exact tab_any (Bool.and_eq_true_iff.mp q).1 h
  · exact h
theorem nests_all : nests.all (fun w => w.onTables) = true := by decide +kernel
theorem in_tbl {w : Cond} (h : w ∈ tables_1) : w ∈ lw_tbl := List.mem_append_right _ h
theorem inst_all : vwCl.all (fun q => decide (Cond.instantiable q.1 q.2.2 ∈ lw_tbl)) = true := by decide +kernel
/-- the text's i-th constant -/
abbrev txM (i : Nat) : Term := .string RX3 (txI i)
abbrev FW : List Cond := flatC (Jvm.Cond.and given_1 narrow_1)
theorem fw_ex : ∀ i, i < 9 → Cond.exactly (txM i) "java/lang/String" ∈ FW := by decide +kernel
theorem fw_co : ∀ i, i < 9 → Cond.eq (.field (txM i) "java/lang/String" "coder" "B") (.int 0) ∈ FW := by decide +kernel
theorem fw_ar : ∀ i, i < 9 → Cond.arrayOf (.field (txM i) "java/lang/String" "value" "[B") .byte ∈ FW := by decide +kernel
theorem fw_le : ∀ i, i < 9 → Cond.eq (.length (.field (txM i) "java/lang/String" "value" "[B")) (.int (Int32.ofNat (txL.getD i 0))) ∈ FW := by decide +kernel
theorem fw_el : ∀ i, i < 9 → ∀ j, j < txL.getD i 0 → Cond.eq (.elem (.field (txM i) "java/lang/String" "value" "[B") (.int (Int32.ofNat j))) (.int ((txB.getD i []).getD j 0)) ∈ FW := by decide +kernel
theorem fw_ne : ∀ i, i < 9 → ∀ j, j < 9 → i ≠ j → (Cond.not (Cond.eq (txM i) (txM j)) ∈ FW ∨ Cond.not (Cond.eq (txM j) (txM i)) ∈ FW) := by decide +kernel
theorem tb_st : ∀ i, i < 9 → Cond.stringRef RX3 (txI i) (txT i) ∈ lw_tbl := by decide +kernel
theorem tx_31 : ∀ i, i < 9 → txL.getD i 0 < 2 ^ 31 := by decide +kernel
theorem arr_st {s : State} {a : Array Value} (hts : ∀ w ∈ lw_tbl, w.before a s = true) : ∀ t : Nat, ∃ cA : ClassId, t < 9 → ArrOfT s cA (aty t) ∧ va_RA s cA (aty t) := by
  have pr : ∀ ty, Cond.arrayClass ty ∈ lw_tbl → (∀ cA, s.vm.findClass ("[" ++ ty.toString) = some cA → va_RA s cA ty) → ∃ cA : ClassId, ArrOfT s cA ty ∧ va_RA s cA ty := by
    intro ty h1 h2
    obtain ⟨c, k, comp, q1, q2, q3⟩ := Cond.arrayClass_spec (hts _ h1)
    exact ⟨c, fun n z => ⟨fun k h => (by cases h), k, q2, comp, q3⟩, h2 c q1⟩
  have ob : ∀ n, Cond.arrayOver (.object n) ∈ lw_tbl → ∃ cA : ClassId, ArrOfT s cA (.object n) ∧ va_RA s cA (.object n) := by
    intro n h1
    obtain ⟨comp, c, k, q1, q2, q3, q4, q5⟩ := Cond.arrayOver_spec (hts _ h1)
    exact ⟨c, fun n z => ⟨fun k h => (by cases h), k, q3, comp, q4⟩, k, comp, q3, q4, q1, q5⟩
  have ar : Cond.arrayOver (.array .int) ∈ lw_tbl → ∃ cA : ClassId, ArrOfT s cA (.array .int) ∧ va_RA s cA (.array .int) := by
    intro h1
    obtain ⟨comp, c, k, q1, q3, q4, q5⟩ := Cond.arrayOver_specA (hts _ h1)
    exact ⟨c, fun n z => ⟨fun k h => (by cases h), k, q3, comp, q4⟩, q5⟩
  intro t
  have hh : ∃ cA : ClassId, ArrOfT s cA (aty t) ∧ va_RA s cA (aty t) := by
    unfold aty
    split
    · exact pr _ (by decide +kernel) (fun cA q => q)
    · exact pr _ (by decide +kernel) (fun cA q => q)
    · exact pr _ (by decide +kernel) (fun cA q => q)
    · exact pr _ (by decide +kernel) (fun cA q => q)
    · exact ob _ (by decide +kernel)
    · exact ob _ (by decide +kernel)
    · exact ob _ (by decide +kernel)
    · exact ob _ (by decide +kernel)
    · exact ar (by decide +kernel)
  obtain ⟨cA, q⟩ := hh
  exact ⟨cA, fun _ => q⟩
theorem cls_st {s : State} {a : Array Value} (hts : ∀ w ∈ lw_tbl, w.before a s = true) : ∀ c : Nat, ∃ r : ClassId × (Nat → Nat), ∀ q : vw_C, vwCl[c]? = some q → u_Kn s q.1 q.2.1 q.2.2 r.1 r.2 := by
  intro c
  cases h : vwCl[c]? with
  | none => exact ⟨(default, fun _ => 0), fun q e => (by cases e)⟩
  | some q =>
    have h1 := (cl_facts h).1
    have h2 := List.all_eq_true.mp inst_all q (List.mem_of_getElem? h)
    rw [decide_eq_true_eq] at h2
    obtain ⟨cC, iS, k⟩ := u_known (ws := lw_tbl) hts (fun w hw => (h1 w hw).1) (hts _ h2)
    exact ⟨(cC, iS), fun q' e => (by cases e; exact k)⟩
/-- the values that stay the same through the run -/
theorem gk_start {s : State} {b L : Nat} {xs : Nat → Int32} (l : Launch) (hts : ∀ w ∈ lw_tbl, w.before #[Value.ref b] s = true) (hX : va_X b L xs s s.heap) (hgv : (Jvm.Cond.and given_1 narrow_1).before #[Value.ref b] s = true) :
    ∃ Γ : Gx, Γ.1 = l ∧ xH Γ = s.heap ∧ xE Γ 0 = b ∧ xN Γ = L ∧ GK Γ s := by
  have hs : ∀ c ∈ FW, c.before #[Value.ref b] s = true := flat_of_before _ hgv
  have hA : ∀ a : Nat, a < s.heap.size → ¬ (fun q : Nat => s.heap.size ≤ q) a := fun a h => Nat.not_le.mpr h
  obtain ⟨dd, hdd⟩ := Classical.axiomOfChoice (cls_st hts)
  obtain ⟨aa, haa⟩ := Classical.axiomOfChoice (arr_st hts)
  obtain ⟨adK, adV, hS, hR⟩ := vk_Sof (args := #[Value.ref b]) (s := s) (N := 9) (tm := txM) (len := txL) (byt := txB) (A := fun q => s.heap.size ≤ q) tx_31 (fun i hi => hs _ (fw_ex i hi)) (fun i hi => hs _ (fw_co i hi)) (fun i hi => hs _ (fw_ar i hi)) (fun i hi => hs _ (fw_le i hi)) (fun i hi j hj => hs _ (fw_el i hi j hj)) (fun i j hi hj hij => (fw_ne i hi j hj hij).imp (hs _) (hs _)) hA
  have hZ : va_Z "java/lang/String" "COMPACT_STRINGS" "Z" (.int 1) (fun q => s.heap.size ≤ q) s s.heap := va_Zof (hts _ (in_tbl (by decide +kernel))) (hts _ (in_tbl (by decide +kernel))) (va_eqt (hs (Cond.eq (.static "java/lang/String" "COMPACT_STRINGS" "Z") (.int 1)) (by decide +kernel))) hA
  have hQ : va_Zq "jdk/internal/util/Preconditions" "SIOOBE_FORMATTER" "Ljava/util/function/BiFunction;" (fun q => s.heap.size ≤ q) s s.heap := va_Zqof (hts _ (in_tbl (by decide +kernel))) (hts _ (in_tbl (by decide +kernel))) (hs _ (by decide +kernel)) hA
  have hq : ∃ t : Nat, va_Z "jdk/internal/util/Preconditions" "SIOOBE_FORMATTER" "Ljava/util/function/BiFunction;" .null (fun q => s.heap.size ≤ q) s s.heap ∨ va_Z "jdk/internal/util/Preconditions" "SIOOBE_FORMATTER" "Ljava/util/function/BiFunction;" (.ref t) (fun q => s.heap.size ≤ q) s s.heap := by
    rcases hQ with h | ⟨t, h⟩
    · exact ⟨0, Or.inl h⟩
    · exact ⟨t, Or.inr h⟩
  obtain ⟨ft, hft⟩ := hq
  refine ⟨(l, s.heap, (fun c => (dd c).1, fun c => (dd c).2), aa, (fun k => if k = 0 then b else if k < 20 then adK (k - 1) else if k < 40 then adV (k - 20) else ft), xs, L), rfl, rfl, rfl, rfl, ?_⟩
  have eK : ∀ i, i < 9 → (if 1 + i = 0 then b else if 1 + i < 20 then adK (1 + i - 1) else if 1 + i < 40 then adV (1 + i - 20) else ft) = adK i := fun i hi => by
    rw [if_neg (by omega), if_pos (by omega), show 1 + i - 1 = i by omega]
  have eV : ∀ i, i < 9 → (if 20 + i = 0 then b else if 20 + i < 20 then adK (20 + i - 1) else if 20 + i < 40 then adV (20 + i - 20) else ft) = adV i := fun i hi => by
    rw [if_neg (by omega), if_neg (by omega), if_pos (by omega), show 20 + i - 20 = i by omega]
  refine ⟨fun w hw hg a => good_any hg (hts w hw), fun w hw => ?_, ⟨fun c q hc => hdd c q hc, fun k q hk => ?_⟩, hX, ⟨vk_S_ex hS eK eV, fun i hi => ?_, hZ, hft⟩, ?_⟩
  · have h1 := List.all_eq_true.mp nests_all w hw
    exact tab_any h1 (hts w (in_tbl (List.mem_filter.mp hw).1))
  · have hl : k < 9 := by
      have := (List.getElem?_eq_some_iff.mp hk).1
      simpa using this
    rw [List.getElem?_map, List.getElem?_range hl] at hk
    cases hk
    exact haa k hl
  · refine vk_R.of (A := #[Value.ref b]) (hts _ (tb_st i hi)) ?_
    refine (hR i hi).trans (congrArg (fun q => some (Value.ref q)) (eK i hi).symm)
  · exact ⟨va_AO.of (hts (Cond.arrayOver (.object RX7)) (in_tbl (by decide +kernel))), va_AO.of (hts (Cond.arrayOver (.object RX10)) (in_tbl (by decide +kernel))), va_AO.of (hts (Cond.arrayOver (.object RX5)) (in_tbl (by decide +kernel))), va_AO.of (hts (Cond.arrayOver (.object RX6)) (in_tbl (by decide +kernel))), hts (Cond.arrayOver (.array .int)) (in_tbl (by decide +kernel))⟩
