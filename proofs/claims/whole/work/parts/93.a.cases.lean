/-! the law: one call of the class, the same of the reference -/
abbrev LL (i : Int32) : Lv := [(0, .retAddr 0), (1, .ref 0), (2, .ref 390), (3, .int i)]
def Ix (Γ : Gx) (i : Int32) : Prop := vp_in (i + 1) (xN Γ) ∧ vp_in (i + 2) (xN Γ) ∧ vp_in (i + 3) (xN Γ)
section CAS
variable {Γ : Gx} {Q : Option Value → St → Wd → Prop} {σ : St} {w : Wd} {cc zz : Nat} {i : Int32}
theorem lg_same (x : Int64) : lg_cmp x x = 0 := by
  unfold lg_cmp
  simp
set_option maxRecDepth 100000 in
theorem cs_0 (hI : Inv σ w) (hi : Ix Γ i) (hK : ∀ σ', Inv σ' w → AW Γ 12 mL_law Q 1219 (LL i) [] σ' w cc zz) : AW Γ 12 mL_law Q 176 (LL i) [] σ w cc zz := by
  obtain ⟨P, P', π, κ, ι, tx, f, hC, hM, hF, hO, hB⟩ := hI
  have hw := hC.2.2.2.2.2.2.2.2.run
  have hP := hC.1.2.1
  refine wp_sound (μ := mL_law) (T := tbL) (is := isL_0) (sw := []) (cu := cuE) tbL_ok msL_0 64 _ _ _ _ _ _ _ ?_
  refine And.intro hi.1 (And.intro hi.2.1 (And.intro hi.2.2 (And.intro (ok_0 hw) (And.intro (Nat.le_of_ble_eq_true rfl) ?_))))
  refine C_feed hw hC.2.2.2.2.2.2.1 (fun s1 f1 t1 => ?_)
  have hC1 := hC.fed hF f1 t1
  have hM1 := hM.fr (f1.mono scTx_o)
  refine And.intro hi.1 (And.intro hi.2.1 (And.intro hi.2.2 (And.intro (ok_390 hw) (And.intro (Nat.le_of_ble_eq_true rfl) ?_))))
  refine M_feed hw hM1.2.2.2.1 (fun s2 e2 t2 => ?_)
  exact And.intro (fun _ => hK _ ⟨P, P', π, κ, ι, _, f, (hC1.fr hF (fr_EqT e2)), (hM1.t e2 t2), hF, hO, hB.feed⟩) (fun h => absurd rfl h)
set_option maxRecDepth 100000 in
theorem cs_1 (hI : Inv σ w) (hi : Ix Γ i) (hK : ∀ σ', Inv σ' w → AW Γ 12 mL_law Q 1219 (LL i) [] σ' w cc zz) : AW Γ 12 mL_law Q 239 (LL i) [] σ w cc zz := by
  obtain ⟨P, P', π, κ, ι, tx, f, hC, hM, hF, hO, hB⟩ := hI
  have hw := hC.2.2.2.2.2.2.2.2.run
  have hP := hC.1.2.1
  refine wp_sound (μ := mL_law) (T := tbL) (is := isL_1) (sw := []) (cu := cuE) tbL_ok msL_1 64 _ _ _ _ _ _ _ ?_
  refine And.intro (ok_0 hw) (And.intro (Nat.le_of_ble_eq_true rfl) ?_)
  refine C_primer (κ := κ) hw (txt_ok hB) hP hC.2.1 hC.2.2.1 hC.1.1 hC.2.2.2.1 (hC.2.2.2.2.2.2.1.tc hB) hC.2.2.2.2.1.2 hC.2.2.2.2.2.2.2.2.cow (fun x s1 z1 z2 z3 z4 z5 => ?_) (fun x s1 z1 z2 z3 z4 z5 z6 z7 z8 z9 za zb => ?_)
  · have hC1 := hC.pe hF z3 z4 z5
    have hM1 := hM.fr (z3.mono (scPa_o hC.2.1))
    refine And.intro (ok_390 hw) (And.intro (Nat.le_of_ble_eq_true rfl) ?_)
    refine M_primer hw hM1.1 hM1.2.1 hM1.2.2.1 hM1.2.2.2.1 hB (fun y s2 y1 y2 y3 y4 y5 y6 y7 y8 => ?_) (fun y s2 y1 y2 y3 y4 y5 y6 y7 y8 => ?_)
    · rw [z1] at y1
      cases y1
      exact And.intro (fun _ => hK _ ⟨P, P', π, κ, ι, [], _, hC1.fr hF (fr_Own y3), ⟨y4, y5, y6, y7, y8⟩, hF, hO, TxB.nil⟩) (fun h => absurd rfl h)
    · rw [z1] at y1
      cases y1
  · have hM1 := hM.fr (z3.mono (scPrm_o hC.2.1))
    refine And.intro (ok_390 hw) (And.intro (Nat.le_of_ble_eq_true rfl) ?_)
    refine M_primer hw hM1.1 hM1.2.1 hM1.2.2.1 hM1.2.2.2.1 hB (fun y s2 y1 y2 y3 y4 y5 y6 y7 y8 => ?_) (fun y s2 y1 y2 y3 y4 y5 y6 y7 y8 => ?_)
    · rw [z1] at y1
      cases y1
    · rw [z1] at y1
      cases y1
      have hF2 : WF (MV s2) := y4.wf y2.1
      exact And.intro (fun _ => hK _ ⟨P', P, MV s2, begK κ, im0, [], -1, (hC.pg z3 z4 z5 z6 z7 z8 z9 za zb y4 hF2).fr hF2 (fr_Own y3), ⟨rfl, y5, y6, y7, y8⟩, hF2, kok_b, TxB.nil⟩) (fun h => absurd rfl h)
set_option maxRecDepth 100000 in
theorem cs_2 (hI : Inv σ w) (hi : Ix Γ i) (hK : ∀ σ', Inv σ' w → AW Γ 12 mL_law Q 1219 (LL i) [] σ' w cc zz) : AW Γ 12 mL_law Q 252 (LL i) [] σ w cc zz := by
  obtain ⟨P, P', π, κ, ι, tx, f, hC, hM, hF, hO, hB⟩ := hI
  have hw := hC.2.2.2.2.2.2.2.2.run
  have hP := hC.1.2.1
  refine wp_sound (μ := mL_law) (T := tbL) (is := isL_2) (sw := []) (cu := cuE) tbL_ok msL_2 64 _ _ _ _ _ _ _ ?_
  refine And.intro (ok_0 hw) (And.intro (Nat.le_of_ble_eq_true rfl) ?_)
  refine C_fault hw ?_
  rw [hC.2.2.2.2.2.2.2.1]
  refine And.intro (ok_390 hw) (And.intro (Nat.le_of_ble_eq_true rfl) ?_)
  refine M_fault hw ?_
  rw [hM.2.2.2.2]
  exact And.intro (fun _ => hK _ ⟨P, P', π, κ, ι, tx, f, hC, hM, hF, hO, hB⟩) (fun h => absurd rfl h)
set_option maxRecDepth 100000 in
theorem cs_3 (hI : Inv σ w) (hi : Ix Γ i) (hK : ∀ σ', Inv σ' w → AW Γ 12 mL_law Q 1219 (LL i) [] σ' w cc zz) : AW Γ 12 mL_law Q 265 (LL i) [] σ w cc zz := by
  obtain ⟨P, P', π, κ, ι, tx, f, hC, hM, hF, hO, hB⟩ := hI
  have hw := hC.2.2.2.2.2.2.2.2.run
  have hP := hC.1.2.1
  refine wp_sound (μ := mL_law) (T := tbL) (is := isL_3) (sw := []) (cu := cuE) tbL_ok msL_3 64 _ _ _ _ _ _ _ ?_
  refine And.intro hi.1 (And.intro hi.2.1 (And.intro (ok_0 hw) (And.intro (Nat.le_of_ble_eq_true rfl) ?_)))
  refine C_sign hw hF hC.1 ?_
  refine And.intro hi.1 (And.intro hi.2.1 (And.intro (ok_390 hw) (And.intro (Nat.le_of_ble_eq_true rfl) ?_)))
  refine M_sign hw hM.1 hF ?_
  exact And.intro (fun _ => hK _ ⟨P, P', π, κ, ι, tx, f, hC, hM, hF, hO, hB⟩) (fun h => absurd rfl h)
set_option maxRecDepth 100000 in
theorem cs_4 (hI : Inv σ w) (hi : Ix Γ i) (hK : ∀ σ', Inv σ' w → AW Γ 12 mL_law Q 1219 (LL i) [] σ' w cc zz) : AW Γ 12 mL_law Q 298 (LL i) [] σ w cc zz := by
  obtain ⟨P, P', π, κ, ι, tx, f, hC, hM, hF, hO, hB⟩ := hI
  have hw := hC.2.2.2.2.2.2.2.2.run
  have hP := hC.1.2.1
  refine wp_sound (μ := mL_law) (T := tbL) (is := isL_4) (sw := []) (cu := cuE) tbL_ok msL_4 64 _ _ _ _ _ _ _ ?_
  refine And.intro hi.1 (And.intro hi.2.1 (And.intro (ok_0 hw) (And.intro (Nat.le_of_ble_eq_true rfl) ?_)))
  refine C_word hw hF hC.1 ?_
  refine And.intro hi.1 (And.intro hi.2.1 (And.intro (ok_390 hw) (And.intro (Nat.le_of_ble_eq_true rfl) ?_)))
  refine M_word hw hM.1 hF ?_
  exact And.intro (fun _ => hK _ ⟨P, P', π, κ, ι, tx, f, hC, hM, hF, hO, hB⟩) (fun h => absurd rfl h)
set_option maxRecDepth 100000 in
theorem cs_5 (hI : Inv σ w) (hi : Ix Γ i) (hK : ∀ σ', Inv σ' w → AW Γ 12 mL_law Q 1219 (LL i) [] σ' w cc zz) : AW Γ 12 mL_law Q 331 (LL i) [] σ w cc zz := by
  obtain ⟨P, P', π, κ, ι, tx, f, hC, hM, hF, hO, hB⟩ := hI
  have hw := hC.2.2.2.2.2.2.2.2.run
  have hP := hC.1.2.1
  refine wp_sound (μ := mL_law) (T := tbL) (is := isL_5) (sw := []) (cu := cuE) tbL_ok msL_5 64 _ _ _ _ _ _ _ ?_
  refine And.intro hi.1 (And.intro hi.2.1 (And.intro (ok_0 hw) (And.intro (Nat.le_of_ble_eq_true rfl) ?_)))
  refine C_lesson hw hF hC.1 ?_
  refine And.intro hi.1 (And.intro hi.2.1 (And.intro (ok_390 hw) (And.intro (Nat.le_of_ble_eq_true rfl) ?_)))
  refine M_lesson hw hM.1 hF ?_
  exact And.intro (fun _ => hK _ ⟨P, P', π, κ, ι, tx, f, hC, hM, hF, hO, hB⟩) (fun h => absurd rfl h)
set_option maxRecDepth 100000 in
theorem cs_6 (hI : Inv σ w) (hi : Ix Γ i) (hK : ∀ σ', Inv σ' w → AW Γ 12 mL_law Q 1219 (LL i) [] σ' w cc zz) : AW Γ 12 mL_law Q 364 (LL i) [] σ w cc zz := by
  obtain ⟨P, P', π, κ, ι, tx, f, hC, hM, hF, hO, hB⟩ := hI
  have hw := hC.2.2.2.2.2.2.2.2.run
  have hP := hC.1.2.1
  refine wp_sound (μ := mL_law) (T := tbL) (is := isL_6) (sw := []) (cu := cuE) tbL_ok msL_6 64 _ _ _ _ _ _ _ ?_
  refine And.intro hi.1 (And.intro hi.2.1 (And.intro (ok_0 hw) (And.intro (Nat.le_of_ble_eq_true rfl) ?_)))
  refine C_page hw hF hC.1 ?_
  refine And.intro hi.1 (And.intro hi.2.1 (And.intro (ok_390 hw) (And.intro (Nat.le_of_ble_eq_true rfl) ?_)))
  refine M_page hw hM.1 hF ?_
  exact And.intro (fun _ => hK _ ⟨P, P', π, κ, ι, tx, f, hC, hM, hF, hO, hB⟩) (fun h => absurd rfl h)
set_option maxRecDepth 100000 in
theorem cs_7 (hI : Inv σ w) (hi : Ix Γ i) (hK : ∀ σ', Inv σ' w → AW Γ 12 mL_law Q 1219 (LL i) [] σ' w cc zz) : AW Γ 12 mL_law Q 397 (LL i) [] σ w cc zz := by
  obtain ⟨P, P', π, κ, ι, tx, f, hC, hM, hF, hO, hB⟩ := hI
  have hw := hC.2.2.2.2.2.2.2.2.run
  have hP := hC.1.2.1
  refine wp_sound (μ := mL_law) (T := tbL) (is := isL_7) (sw := []) (cu := cuE) tbL_ok msL_7 64 _ _ _ _ _ _ _ ?_
  refine And.intro hi.1 (And.intro (ok_0 hw) (And.intro (Nat.le_of_ble_eq_true rfl) ?_))
  refine C_count hw hF hC.1 (tx := gI σ 390 17) (bs := gI σ 390 47) (hC.2.2.2.2.2.2.1.1.trans hM.2.2.2.1.1.symm) (hC.2.2.2.2.1.2.trans (congrFun (congrFun hM.2.1 4) 0).symm) ?_
  refine And.intro hi.1 (And.intro (ok_390 hw) (And.intro (Nat.le_of_ble_eq_true rfl) ?_))
  refine M_count hw hM.1 ?_
  exact And.intro (fun _ => hK _ ⟨P, P', π, κ, ι, tx, f, hC, hM, hF, hO, hB⟩) (fun h => absurd rfl h)
set_option maxRecDepth 100000 in
theorem cs_8 (hI : Inv σ w) (hi : Ix Γ i) (hK : ∀ σ', Inv σ' w → AW Γ 12 mL_law Q 1219 (LL i) [] σ' w cc zz) : AW Γ 12 mL_law Q 420 (LL i) [] σ w cc zz := by
  obtain ⟨P, P', π, κ, ι, tx, f, hC, hM, hF, hO, hB⟩ := hI
  have hw := hC.2.2.2.2.2.2.2.2.run
  have hP := hC.1.2.1
  refine wp_sound (μ := mL_law) (T := tbL) (is := isL_8) (sw := []) (cu := cuE) tbL_ok msL_8 64 _ _ _ _ _ _ _ ?_
  refine And.intro hi.1 (And.intro hi.2.1 (And.intro hi.2.2 (And.intro (ok_0 hw) (And.intro (Nat.le_of_ble_eq_true rfl) ?_))))
  refine C_fits hw hF hC.1 ?_
  refine And.intro hi.1 (And.intro hi.2.1 (And.intro hi.2.2 (And.intro (ok_390 hw) (And.intro (Nat.le_of_ble_eq_true rfl) ?_))))
  refine M_fits hw hM.1 hF ?_
  exact And.intro (fun _ => hK _ ⟨P, P', π, κ, ι, tx, f, hC, hM, hF, hO, hB⟩) (fun h => absurd rfl h)
set_option maxRecDepth 100000 in
theorem cs_9 (hI : Inv σ w) (hi : Ix Γ i) (hK : ∀ σ', Inv σ' w → AW Γ 12 mL_law Q 1219 (LL i) [] σ' w cc zz) : AW Γ 12 mL_law Q 463 (LL i) [] σ w cc zz := by
  obtain ⟨P, P', π, κ, ι, tx, f, hC, hM, hF, hO, hB⟩ := hI
  have hw := hC.2.2.2.2.2.2.2.2.run
  have hP := hC.1.2.1
  refine wp_sound (μ := mL_law) (T := tbL) (is := isL_9) (sw := []) (cu := cuE) tbL_ok msL_9 64 _ _ _ _ _ _ _ ?_
  refine And.intro hi.1 (And.intro hi.2.1 (And.intro (ok_0 hw) (And.intro (Nat.le_of_ble_eq_true rfl) ?_)))
  refine C_ways hw hF hC.1 (fun s1 a1 => ?_)
  have hC1 := hC.ask a1
  have hM1 := hM.fr (a1.1.mono (scAsk_o hP))
  refine And.intro hi.1 (And.intro hi.2.1 (And.intro (ok_390 hw) (And.intro (Nat.le_of_ble_eq_true rfl) ?_)))
  refine M_ways hw hM1.1 hF (fun s2 e2 => ?_)
  exact And.intro (fun _ => hK _ ⟨P, P', π, κ, ι, tx, f, (hC1.fr hF (fr_EqM e2)), (hM1.m e2), hF, hO, hB⟩) (fun h => absurd (lg_same _) h)
set_option maxRecDepth 100000 in
theorem cs_10 (hI : Inv σ w) (hi : Ix Γ i) (hK : ∀ σ', Inv σ' w → AW Γ 12 mL_law Q 1219 (LL i) [] σ' w cc zz) : AW Γ 12 mL_law Q 497 (LL i) [] σ w cc zz := by
  obtain ⟨P, P', π, κ, ι, tx, f, hC, hM, hF, hO, hB⟩ := hI
  have hw := hC.2.2.2.2.2.2.2.2.run
  have hP := hC.1.2.1
  refine wp_sound (μ := mL_law) (T := tbL) (is := isL_10) (sw := []) (cu := cuE) tbL_ok msL_10 64 _ _ _ _ _ _ _ ?_
  refine And.intro hi.1 (And.intro hi.2.1 (And.intro hi.2.2 (And.intro (ok_0 hw) (And.intro (Nat.le_of_ble_eq_true rfl) ?_))))
  refine C_cut hw hF hC.1 (fun s1 a1 => ?_)
  have hC1 := hC.ask a1
  have hM1 := hM.fr (a1.1.mono (scAsk_o hP))
  refine And.intro hi.1 (And.intro hi.2.1 (And.intro hi.2.2 (And.intro (ok_390 hw) (And.intro (Nat.le_of_ble_eq_true rfl) ?_))))
  refine M_cut hw hM1.1 hF (fun s2 e2 => ?_)
  exact And.intro (fun _ => hK _ ⟨P, P', π, κ, ι, tx, f, (hC1.fr hF (fr_EqM e2)), (hM1.m e2), hF, hO, hB⟩) (fun h => absurd rfl h)
set_option maxRecDepth 100000 in
theorem cs_11 (hI : Inv σ w) (hi : Ix Γ i) (hK : ∀ σ', Inv σ' w → AW Γ 12 mL_law Q 1219 (LL i) [] σ' w cc zz) : AW Γ 12 mL_law Q 540 (LL i) [] σ w cc zz := by
  obtain ⟨P, P', π, κ, ι, tx, f, hC, hM, hF, hO, hB⟩ := hI
  have hw := hC.2.2.2.2.2.2.2.2.run
  have hP := hC.1.2.1
  refine wp_sound (μ := mL_law) (T := tbL) (is := isL_11) (sw := []) (cu := cuE) tbL_ok msL_11 64 _ _ _ _ _ _ _ ?_
  refine And.intro hi.1 (And.intro hi.2.1 (And.intro hi.2.2 (And.intro (ok_0 hw) (And.intro (Nat.le_of_ble_eq_true rfl) ?_))))
  refine C_aloud hw hF hC.1 (fun s1 a1 => ?_)
  have hC1 := hC.ask a1
  have hM1 := hM.fr (a1.1.mono (scAsk_o hP))
  refine And.intro hi.1 (And.intro hi.2.1 (And.intro hi.2.2 (And.intro (ok_390 hw) (And.intro (Nat.le_of_ble_eq_true rfl) ?_))))
  refine M_aloud hw hM1.1 hF (fun s2 e2 => ?_)
  exact And.intro (fun _ => hK _ ⟨P, P', π, κ, ι, tx, f, (hC1.fr hF (fr_EqM e2)), (hM1.m e2), hF, hO, hB⟩) (fun h => absurd rfl h)
set_option maxRecDepth 100000 in
theorem cs_12 (hI : Inv σ w) (hi : Ix Γ i) (hK : ∀ σ', Inv σ' w → AW Γ 12 mL_law Q 1219 (LL i) [] σ' w cc zz) : AW Γ 12 mL_law Q 583 (LL i) [] σ w cc zz := by
  obtain ⟨P, P', π, κ, ι, tx, f, hC, hM, hF, hO, hB⟩ := hI
  have hw := hC.2.2.2.2.2.2.2.2.run
  have hP := hC.1.2.1
  refine wp_sound (μ := mL_law) (T := tbL) (is := isL_12) (sw := []) (cu := cuE) tbL_ok msL_12 64 _ _ _ _ _ _ _ ?_
  refine And.intro hi.1 (And.intro hi.2.1 (And.intro hi.2.2 (And.intro (ok_0 hw) (And.intro (Nat.le_of_ble_eq_true rfl) ?_))))
  refine C_right hw hF hC.1 (fun s1 a1 => ?_)
  have hC1 := hC.ask a1
  have hM1 := hM.fr (a1.1.mono (scAsk_o hP))
  refine And.intro hi.1 (And.intro hi.2.1 (And.intro hi.2.2 (And.intro (ok_390 hw) (And.intro (Nat.le_of_ble_eq_true rfl) ?_))))
  refine M_right hw hM1.1 hF (fun s2 e2 => ?_)
  exact And.intro (fun _ => hK _ ⟨P, P', π, κ, ι, tx, f, (hC1.fr hF (fr_EqM e2)), (hM1.m e2), hF, hO, hB⟩) (fun h => absurd rfl h)
set_option maxRecDepth 100000 in
theorem cs_13 (hI : Inv σ w) (hi : Ix Γ i) (hK : ∀ σ', Inv σ' w → AW Γ 12 mL_law Q 1219 (LL i) [] σ' w cc zz) : AW Γ 12 mL_law Q 626 (LL i) [] σ w cc zz := by
  obtain ⟨P, P', π, κ, ι, tx, f, hC, hM, hF, hO, hB⟩ := hI
  have hw := hC.2.2.2.2.2.2.2.2.run
  have hP := hC.1.2.1
  refine wp_sound (μ := mL_law) (T := tbL) (is := isL_13) (sw := []) (cu := cuE) tbL_ok msL_13 64 _ _ _ _ _ _ _ ?_
  refine And.intro hi.1 (And.intro hi.2.1 (And.intro hi.2.2 (And.intro (ok_0 hw) (And.intro (Nat.le_of_ble_eq_true rfl) ?_))))
  refine C_spelt hw hF hC.1 (fun s1 a1 => ?_)
  have hC1 := hC.ask a1
  have hM1 := hM.fr (a1.1.mono (scAsk_o hP))
  refine And.intro hi.1 (And.intro hi.2.1 (And.intro hi.2.2 (And.intro (ok_390 hw) (And.intro (Nat.le_of_ble_eq_true rfl) ?_))))
  refine M_spelt hw hM1.1 hF (fun s2 e2 => ?_)
  exact And.intro (fun _ => hK _ ⟨P, P', π, κ, ι, tx, f, (hC1.fr hF (fr_EqM e2)), (hM1.m e2), hF, hO, hB⟩) (fun h => absurd rfl h)
set_option maxRecDepth 100000 in
theorem cs_14 (hI : Inv σ w) (hi : Ix Γ i) (hK : ∀ σ', Inv σ' w → AW Γ 12 mL_law Q 1219 (LL i) [] σ' w cc zz) : AW Γ 12 mL_law Q 669 (LL i) [] σ w cc zz := by
  obtain ⟨P, P', π, κ, ι, tx, f, hC, hM, hF, hO, hB⟩ := hI
  have hw := hC.2.2.2.2.2.2.2.2.run
  have hP := hC.1.2.1
  refine wp_sound (μ := mL_law) (T := tbL) (is := isL_14) (sw := []) (cu := cuE) tbL_ok msL_14 64 _ _ _ _ _ _ _ ?_
  refine And.intro hi.1 (And.intro (ok_0 hw) (And.intro (Nat.le_of_ble_eq_true rfl) ?_))
  refine C_taught hw hF hC.1 ?_
  refine And.intro hi.1 (And.intro (ok_390 hw) (And.intro (Nat.le_of_ble_eq_true rfl) ?_))
  refine M_taught hw hM.1 hF ?_
  exact And.intro (fun _ => hK _ ⟨P, P', π, κ, ι, tx, f, hC, hM, hF, hO, hB⟩) (fun h => absurd rfl h)
set_option maxRecDepth 100000 in
theorem cs_15 (hI : Inv σ w) (hi : Ix Γ i) (hK : ∀ σ', Inv σ' w → AW Γ 12 mL_law Q 1219 (LL i) [] σ' w cc zz) : AW Γ 12 mL_law Q 692 (LL i) [] σ w cc zz := by
  obtain ⟨P, P', π, κ, ι, tx, f, hC, hM, hF, hO, hB⟩ := hI
  have hw := hC.2.2.2.2.2.2.2.2.run
  have hP := hC.1.2.1
  refine wp_sound (μ := mL_law) (T := tbL) (is := isL_15) (sw := []) (cu := cuE) tbL_ok msL_15 64 _ _ _ _ _ _ _ ?_
  refine And.intro hi.1 (And.intro (ok_0 hw) (And.intro (Nat.le_of_ble_eq_true rfl) ?_))
  refine C_reads hw hF hC.1 (fun s1 a1 => ?_)
  have hC1 := hC.ask a1
  have hM1 := hM.fr (a1.1.mono (scAsk_o hP))
  refine And.intro hi.1 (And.intro (ok_390 hw) (And.intro (Nat.le_of_ble_eq_true rfl) ?_))
  refine M_reads hw hM1.1 hF (fun s2 e2 => ?_)
  exact And.intro (fun _ => hK _ ⟨P, P', π, κ, ι, tx, f, (hC1.fr hF (fr_EqM e2)), (hM1.m e2), hF, hO, hB⟩) (fun h => absurd rfl h)
end CAS
