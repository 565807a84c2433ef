/-! the engine's rows on the heap -/
/-- a class's table: its number of fields, by kd -/
theorem kd_N : ∀ i, i < 430 → (kd i).1 < 20 → (vwCl[(kd i).1]?.map (fun q => q.2.2)) = some (kd i).2 := by decide +kernel
theorem kd_out {i : Nat} (h : ¬ i < 430) : kd i = (99, 0) := by
  have e : kdL.length = 430 := by decide +kernel
  unfold kd
  rw [List.getD_eq_getElem?_getD, List.getElem?_eq_none (by omega)]
  rfl
theorem kd_cl {i : Nat} (h : (kd i).1 < 20) : ∃ q : vw_C, vwCl[(kd i).1]? = some q ∧ q.2.2 = (kd i).2 := by
  by_cases hi : i < 430
  · have e := kd_N i hi h
    cases hq : vwCl[(kd i).1]? with
    | none => rw [hq] at e; cases e
    | some q => rw [hq] at e; exact ⟨q, rfl, Option.some.inj e⟩
  · rw [kd_out hi] at h
    exact absurd h (by decide)
/-- what a program checks of the classes' tables -/
def clCk (q : vw_C) (ty : Nat → FieldType) : Bool := (u_ws q.1 q.2.1 q.2.2).all (fun w => decide (w ∈ lw_tbl) && goodWord w) && (List.range q.2.2).all (fun a => (List.range q.2.2).all (fun b => decide (a = b) || decide ((q.2.1 a).2.1 ≠ (q.2.1 b).2.1))) && (List.range q.2.2).all (fun k => decide (parseFieldDescriptor (q.2.1 k).2.2.1 = some (ty k)))
def tyOf (t : Nat) : Nat → FieldType := match t with
  | 0 => tyX0
  | 1 => tyX1
  | 2 => tyX2
  | 3 => tyX3
  | 4 => tyX4
  | 5 => tyX5
  | 6 => tyX6
  | 7 => tyX7
  | 8 => tyX8
  | 9 => tyX9
  | 10 => tyX10
  | 11 => tyX11
  | _ => tyX12
theorem clCk_0 : clCk (RX0, TX0, 10) tyX0 = true := by decide +kernel
theorem clCk_1 : clCk (RX1, TX1, 3) tyX1 = true := by decide +kernel
theorem clCk_2 : clCk (RX2, TX2, 2) tyX2 = true := by decide +kernel
theorem clCk_3 : clCk (RX3, TX3, 8) tyX3 = true := by decide +kernel
theorem clCk_4 : clCk (RX4, TX4, 14) tyX4 = true := by decide +kernel
theorem clCk_5 : clCk (RX5, TX5, 4) tyX5 = true := by decide +kernel
theorem clCk_6 : clCk (RX6, TX6, 2) tyX6 = true := by decide +kernel
theorem clCk_7 : clCk (RX7, TX7, 4) tyX7 = true := by decide +kernel
theorem clCk_8 : clCk (RX8, TX8, 5) tyX8 = true := by decide +kernel
theorem clCk_9 : clCk (RX9, TX9, 3) tyX9 = true := by decide +kernel
theorem clCk_10 : clCk (RX10, TX10, 5) tyX10 = true := by decide +kernel
theorem clCk_11 : clCk (RX11, TX11, 9) tyX11 = true := by decide +kernel
theorem clCk_12 : clCk (RX12, TX12, 55) tyX12 = true := by decide +kernel
theorem clCk_all {t : Nat} {q : vw_C} (h : vwCl[t]? = some q) : clCk q (tyOf t) = true := by
  match t, h with
  | 0, h => cases h; exact clCk_0
  | 1, h => cases h; exact clCk_1
  | 2, h => cases h; exact clCk_2
  | 3, h => cases h; exact clCk_3
  | 4, h => cases h; exact clCk_4
  | 5, h => cases h; exact clCk_5
  | 6, h => cases h; exact clCk_6
  | 7, h => cases h; exact clCk_7
  | 8, h => cases h; exact clCk_8
  | 9, h => cases h; exact clCk_9
  | 10, h => cases h; exact clCk_10
  | 11, h => cases h; exact clCk_11
  | 12, h => cases h; exact clCk_12
  | t + 13, h => simp [vwCl] at h
theorem cl_facts {t : Nat} {q : vw_C} (h : vwCl[t]? = some q) : (∀ w ∈ u_ws q.1 q.2.1 q.2.2, w ∈ lw_tbl ∧ goodWord w = true) ∧ (∀ a, a < q.2.2 → ∀ b, b < q.2.2 → a ≠ b → (q.2.1 a).2.1 ≠ (q.2.1 b).2.1) ∧ (∀ k, k < q.2.2 → parseFieldDescriptor (q.2.1 k).2.2.1 = some (tyOf t k)) := by
  have e := clCk_all h
  unfold clCk at e
  simp only [Bool.and_eq_true] at e
  obtain ⟨⟨e1, e2⟩, e3⟩ := e
  refine ⟨fun w hw => ?_, fun a ha b hb hab => ?_, fun k hk => ?_⟩
  · have := List.all_eq_true.mp e1 w hw
    simp only [Bool.and_eq_true, decide_eq_true_eq] at this
    exact this
  · have h1 := List.all_eq_true.mp e2 a (List.mem_range.mpr ha)
    have h2 := List.all_eq_true.mp h1 b (List.mem_range.mpr hb)
    simp only [Bool.or_eq_true, decide_eq_true_eq] at h2
    rcases h2 with h2 | h2
    · exact absurd h2 hab
    · exact h2
  · have := List.all_eq_true.mp e3 k (List.mem_range.mpr hk)
    simpa using this
