/-! the law: one call of the class, the same of the reference (the other half) -/
section CAS
variable {Γ : Gx} {Q : Option Value → St → Wd → Prop} {σ : St} {w : Wd} {cc zz : Nat} {i : Int32}
set_option maxRecDepth 100000 in
theorem cs_16 (hI : Inv σ w) (hi : Ix Γ i) (hK : ∀ σ', Inv σ' w → AW Γ 12 mL_law Q 1219 (LL i) [] σ' w cc zz) : AW Γ 12 mL_law Q 715 (LL i) [] σ w cc zz := by
  obtain ⟨P, P', π, κ, ι, tx, f, hC, hM, hF, hO, hB⟩ := hI
  have hw := hC.2.2.2.2.2.2.2.2.run
  have hP := hC.1.2.1
  refine wp_sound (μ := mL_law) (T := tbL) (is := isL_16) (sw := []) (cu := cuE) tbL_ok msL_16 64 _ _ _ _ _ _ _ ?_
  refine And.intro hi.1 (And.intro hi.2.1 (And.intro (ok_0 hw) (And.intro (Nat.le_of_ble_eq_true rfl) ?_)))
  refine C_mixed hw hF hC.1 (fun s1 a1 => ?_)
  have hC1 := hC.ask a1
  have hM1 := hM.fr (a1.1.mono (scAsk_o hP))
  refine And.intro hi.1 (And.intro hi.2.1 (And.intro (ok_390 hw) (And.intro (Nat.le_of_ble_eq_true rfl) ?_)))
  refine M_mixed hw hM1.1 hF (fun s2 e2 => ?_)
  exact And.intro (fun _ => hK _ ⟨P, P', π, κ, ι, tx, f, (hC1.fr hF (fr_EqM e2)), (hM1.m e2), hF, hO, hB⟩) (fun h => absurd rfl h)
set_option maxRecDepth 100000 in
theorem cs_17 (hI : Inv σ w) (hi : Ix Γ i) (hK : ∀ σ', Inv σ' w → AW Γ 12 mL_law Q 1219 (LL i) [] σ' w cc zz) : AW Γ 12 mL_law Q 748 (LL i) [] σ w cc zz := by
  obtain ⟨P, P', π, κ, ι, tx, f, hC, hM, hF, hO, hB⟩ := hI
  have hw := hC.2.2.2.2.2.2.2.2.run
  have hP := hC.1.2.1
  refine wp_sound (μ := mL_law) (T := tbL) (is := isL_17) (sw := []) (cu := cuE) tbL_ok msL_17 64 _ _ _ _ _ _ _ ?_
  refine And.intro hi.1 (And.intro hi.2.1 (And.intro (ok_0 hw) (And.intro (Nat.le_of_ble_eq_true rfl) ?_)))
  refine C_unknown hw hF hC.1 (fun s1 a1 => ?_)
  have hC1 := hC.ask a1
  have hM1 := hM.fr (a1.1.mono (scAsk_o hP))
  refine And.intro hi.1 (And.intro hi.2.1 (And.intro (ok_390 hw) (And.intro (Nat.le_of_ble_eq_true rfl) ?_)))
  refine M_unknown hw hM1.1 hF (fun s2 e2 => ?_)
  exact And.intro (fun _ => hK _ ⟨P, P', π, κ, ι, tx, f, (hC1.fr hF (fr_EqM e2)), (hM1.m e2), hF, hO, hB⟩) (fun h => absurd rfl h)
set_option maxRecDepth 100000 in
theorem cs_18 (hI : Inv σ w) (hi : Ix Γ i) (hK : ∀ σ', Inv σ' w → AW Γ 12 mL_law Q 1219 (LL i) [] σ' w cc zz) : AW Γ 12 mL_law Q 781 (LL i) [] σ w cc zz := by
  obtain ⟨P, P', π, κ, ι, tx, f, hC, hM, hF, hO, hB⟩ := hI
  have hw := hC.2.2.2.2.2.2.2.2.run
  have hP := hC.1.2.1
  refine wp_sound (μ := mL_law) (T := tbL) (is := isL_18) (sw := []) (cu := cuE) tbL_ok msL_18 64 _ _ _ _ _ _ _ ?_
  refine And.intro hi.1 (And.intro hi.2.1 (And.intro (ok_0 hw) (And.intro (Nat.le_of_ble_eq_true rfl) ?_)))
  refine C_fewest hw hF hC.1 (fun s1 a1 => ?_)
  have hC1 := hC.ask a1
  have hM1 := hM.fr (a1.1.mono (scAsk_o hP))
  refine And.intro hi.1 (And.intro hi.2.1 (And.intro (ok_390 hw) (And.intro (Nat.le_of_ble_eq_true rfl) ?_)))
  refine M_fewest hw hM1.1 hF (fun s2 e2 => ?_)
  exact And.intro (fun _ => hK _ ⟨P, P', π, κ, ι, tx, f, (hC1.fr hF (fr_EqM e2)), (hM1.m e2), hF, hO, hB⟩) (fun h => absurd rfl h)
set_option maxRecDepth 100000 in
theorem cs_19 (hI : Inv σ w) (hi : Ix Γ i) (hc : cc + 5 ≤ 600000) (hz : zz + 33305 ≤ 7302250) (hK : ∀ σ' w', Inv σ' w' → AW Γ 12 mL_law Q 1219 (LL i) [] σ' w' (cc + 5) (zz + 33305)) : AW Γ 12 mL_law Q 814 (LL i) [] σ w cc zz := by
  obtain ⟨P, P', π, κ, ι, tx, f, hC, hM, hF, hO, hB⟩ := hI
  have hw := hC.2.2.2.2.2.2.2.2.run
  have hP := hC.1.2.1
  refine wp_sound (μ := mL_law) (T := tbL) (is := isL_19) (sw := []) (cu := cuE) tbL_ok msL_19 64 _ _ _ _ _ _ _ ?_
  refine And.intro hi.1 (And.intro hi.2.1 (And.intro hi.2.2 (And.intro (ok_0 hw) (And.intro (Nat.le_of_ble_eq_true rfl) (And.intro hc (And.intro hz ?_))))))
  refine C_course hF hC.1 hC.2.2.2.2.2.2.2.2 (fun s1 w1 f1 c1 o1 => ?_)
  have hC1 := hC.crs f1 c1 o1
  have hM1 := hM.fr (f1.mono (scCrs_o hP))
  have hw1 := o1.run
  refine And.intro hi.1 (And.intro hi.2.1 (And.intro hi.2.2 (And.intro (ok_390 hw1) (And.intro (Nat.le_of_ble_eq_true rfl) ?_))))
  refine M_course hw1 hM1.1 hF (fun s2 e2 => ?_)
  exact And.intro (fun _ => hK _ _ ⟨P, P', π, κ, ι, tx, f, hC1.fr hF (fr_EqC e2), hM1.c e2, hF, hO, hB⟩) (fun h => absurd rfl h)
set_option maxRecDepth 100000 in
theorem cs_20 (hI : Inv σ w) (hi : Ix Γ i) (hK : ∀ σ', Inv σ' w → AW Γ 12 mL_law Q 1219 (LL i) [] σ' w cc zz) : AW Γ 12 mL_law Q 857 (LL i) [] σ w cc zz := by
  obtain ⟨P, P', π, κ, ι, tx, f, hC, hM, hF, hO, hB⟩ := hI
  have hw := hC.2.2.2.2.2.2.2.2.run
  have hP := hC.1.2.1
  refine wp_sound (μ := mL_law) (T := tbL) (is := isL_20) (sw := []) (cu := cuE) tbL_ok msL_20 64 _ _ _ _ _ _ _ ?_
  refine And.intro hi.1 (And.intro (ok_0 hw) (And.intro (Nat.le_of_ble_eq_true rfl) ?_))
  refine C_hangs hw hF hC.1 (fun s1 a1 => ?_)
  have hC1 := hC.ask a1
  have hM1 := hM.fr (a1.1.mono (scAsk_o hP))
  refine And.intro hi.1 (And.intro (ok_390 hw) (And.intro (Nat.le_of_ble_eq_true rfl) ?_))
  refine M_hangs hw hM1.1 hF (fun s2 e2 => ?_)
  exact And.intro (fun _ => hK _ ⟨P, P', π, κ, ι, tx, f, (hC1.fr hF (fr_EqM e2)), (hM1.m e2), hF, hO, hB⟩) (fun h => absurd rfl h)
set_option maxRecDepth 100000 in
theorem cs_21 (hI : Inv σ w) (hi : Ix Γ i) (hK : ∀ σ', Inv σ' w → AW Γ 12 mL_law Q 1219 (LL i) [] σ' w cc zz) : AW Γ 12 mL_law Q 880 (LL i) [] σ w cc zz := by
  obtain ⟨P, P', π, κ, ι, tx, f, hC, hM, hF, hO, hB⟩ := hI
  have hw := hC.2.2.2.2.2.2.2.2.run
  have hP := hC.1.2.1
  refine wp_sound (μ := mL_law) (T := tbL) (is := isL_21) (sw := []) (cu := cuE) tbL_ok msL_21 64 _ _ _ _ _ _ _ ?_
  refine And.intro hi.1 (And.intro (ok_0 hw) (And.intro (Nat.le_of_ble_eq_true rfl) ?_))
  refine C_base hw hF hC.1 hC.2.2.2.2.1 hO (fun s1 a1 k1 o1 => ?_)
  have hC1 := hC.ch a1 k1
  have hM1 := hM.fr (a1.1.mono (scCh_o hP))
  refine And.intro hi.1 (And.intro (ok_390 hw) (And.intro (Nat.le_of_ble_eq_true rfl) ?_))
  refine M_base hw hM1.2.1 (fun s2 e2 k2 => ?_)
  exact And.intro (fun _ => hK _ ⟨P, P', π, _, ι, tx, f, (hC1.fr hF (fr_EqU e2)), (hM1.u e2 k2), hF, o1, hB⟩) (fun h => absurd rfl h)
set_option maxRecDepth 100000 in
theorem cs_22 (hI : Inv σ w) (hi : Ix Γ i) (hK : ∀ σ', Inv σ' w → AW Γ 12 mL_law Q 1219 (LL i) [] σ' w cc zz) : AW Γ 12 mL_law Q 903 (LL i) [] σ w cc zz := by
  obtain ⟨P, P', π, κ, ι, tx, f, hC, hM, hF, hO, hB⟩ := hI
  have hw := hC.2.2.2.2.2.2.2.2.run
  have hP := hC.1.2.1
  refine wp_sound (μ := mL_law) (T := tbL) (is := isL_22) (sw := []) (cu := cuE) tbL_ok msL_22 64 _ _ _ _ _ _ _ ?_
  refine And.intro hi.1 (And.intro hi.2.1 (And.intro (ok_0 hw) (And.intro (Nat.le_of_ble_eq_true rfl) ?_)))
  refine C_take hw hF hC.1 hC.2.2.2.2.1 hO (fun s1 a1 k1 o1 => ?_)
  have hC1 := hC.ch a1 k1
  have hM1 := hM.fr (a1.1.mono (scCh_o hP))
  refine And.intro hi.1 (And.intro hi.2.1 (And.intro (ok_390 hw) (And.intro (Nat.le_of_ble_eq_true rfl) ?_)))
  refine M_take hw hM1.1 hF hM1.2.1 (fun s2 e2 k2 => ?_)
  exact And.intro (fun _ => hK _ ⟨P, P', π, _, ι, tx, f, (hC1.fr hF (fr_EqU e2)), (hM1.u e2 k2), hF, o1, hB⟩) (fun h => absurd rfl h)
set_option maxRecDepth 100000 in
theorem cs_23 (hI : Inv σ w) (hi : Ix Γ i) (hK : ∀ σ', Inv σ' w → AW Γ 12 mL_law Q 1219 (LL i) [] σ' w cc zz) : AW Γ 12 mL_law Q 936 (LL i) [] σ w cc zz := by
  obtain ⟨P, P', π, κ, ι, tx, f, hC, hM, hF, hO, hB⟩ := hI
  have hw := hC.2.2.2.2.2.2.2.2.run
  have hP := hC.1.2.1
  refine wp_sound (μ := mL_law) (T := tbL) (is := isL_23) (sw := []) (cu := cuE) tbL_ok msL_23 64 _ _ _ _ _ _ _ ?_
  refine And.intro hi.1 (And.intro hi.2.1 (And.intro (ok_0 hw) (And.intro (Nat.le_of_ble_eq_true rfl) ?_)))
  refine C_read hw hF hC.1 hC.2.2.2.2.1 hO (fun s1 a1 k1 o1 => ?_)
  have hC1 := hC.ch a1 k1
  have hM1 := hM.fr (a1.1.mono (scCh_o hP))
  refine And.intro hi.1 (And.intro hi.2.1 (And.intro (ok_390 hw) (And.intro (Nat.le_of_ble_eq_true rfl) ?_)))
  refine M_read hw hM1.1 hF hM1.2.1 (fun s2 e2 k2 => ?_)
  exact And.intro (fun _ => hK _ ⟨P, P', π, _, ι, tx, f, (hC1.fr hF (fr_EqU e2)), (hM1.u e2 k2), hF, o1, hB⟩) (fun h => absurd rfl h)
set_option maxRecDepth 100000 in
theorem cs_24 (hI : Inv σ w) (hi : Ix Γ i) (hK : ∀ σ', Inv σ' w → AW Γ 12 mL_law Q 1219 (LL i) [] σ' w cc zz) : AW Γ 12 mL_law Q 969 (LL i) [] σ w cc zz := by
  obtain ⟨P, P', π, κ, ι, tx, f, hC, hM, hF, hO, hB⟩ := hI
  have hw := hC.2.2.2.2.2.2.2.2.run
  have hP := hC.1.2.1
  refine wp_sound (μ := mL_law) (T := tbL) (is := isL_24) (sw := []) (cu := cuE) tbL_ok msL_24 64 _ _ _ _ _ _ _ ?_
  refine And.intro hi.1 (And.intro hi.2.1 (And.intro (ok_0 hw) (And.intro (Nat.le_of_ble_eq_true rfl) ?_)))
  refine C_rest hw hF hC.1 hC.2.2.2.2.1 hO (fun s1 a1 k1 o1 => ?_)
  have hC1 := hC.ch a1 k1
  have hM1 := hM.fr (a1.1.mono (scCh_o hP))
  refine And.intro hi.1 (And.intro hi.2.1 (And.intro (ok_390 hw) (And.intro (Nat.le_of_ble_eq_true rfl) ?_)))
  refine M_rest hw hM1.2.1 (fun s2 e2 k2 => ?_)
  exact And.intro (fun _ => hK _ ⟨P, P', π, _, ι, tx, f, (hC1.fr hF (fr_EqU e2)), (hM1.u e2 k2), hF, o1, hB⟩) (fun h => absurd rfl h)
set_option maxRecDepth 100000 in
theorem cs_25 (hI : Inv σ w) (hi : Ix Γ i) (hK : ∀ σ', Inv σ' w → AW Γ 12 mL_law Q 1219 (LL i) [] σ' w cc zz) : AW Γ 12 mL_law Q 1002 (LL i) [] σ w cc zz := by
  obtain ⟨P, P', π, κ, ι, tx, f, hC, hM, hF, hO, hB⟩ := hI
  have hw := hC.2.2.2.2.2.2.2.2.run
  have hP := hC.1.2.1
  refine wp_sound (μ := mL_law) (T := tbL) (is := isL_25) (sw := []) (cu := cuE) tbL_ok msL_25 64 _ _ _ _ _ _ _ ?_
  refine And.intro hi.1 (And.intro hi.2.1 (And.intro (ok_0 hw) (And.intro (Nat.le_of_ble_eq_true rfl) ?_)))
  refine C_about hw hF hC.2.2.2.2.1 hO ?_
  refine And.intro hi.1 (And.intro hi.2.1 (And.intro (ok_390 hw) (And.intro (Nat.le_of_ble_eq_true rfl) ?_)))
  refine M_about hw hM.1 hF hM.2.1 ?_
  exact And.intro (fun _ => hK _ ⟨P, P', π, κ, ι, tx, f, hC, hM, hF, hO, hB⟩) (fun h => absurd rfl h)
set_option maxRecDepth 100000 in
theorem cs_26 (hI : Inv σ w) (hi : Ix Γ i) (hK : ∀ σ', Inv σ' w → AW Γ 12 mL_law Q 1219 (LL i) [] σ' w cc zz) : AW Γ 12 mL_law Q 1035 (LL i) [] σ w cc zz := by
  obtain ⟨P, P', π, κ, ι, tx, f, hC, hM, hF, hO, hB⟩ := hI
  have hw := hC.2.2.2.2.2.2.2.2.run
  have hP := hC.1.2.1
  refine wp_sound (μ := mL_law) (T := tbL) (is := isL_26) (sw := []) (cu := cuE) tbL_ok msL_26 64 _ _ _ _ _ _ _ ?_
  by_cases hz : xS Γ (i + 2).toNatClampNeg = 0
  · refine And.intro hi.1 (And.intro hi.2.1 (And.intro (fun _ => ?_) (fun h => absurd hz h)))
    refine And.intro hi.2.2 (And.intro (ok_0 hw) (And.intro (Nat.le_of_ble_eq_true rfl) ?_))
    refine C_span hw hF hC.1 hC.2.2.2.2.1 ?_
    refine And.intro hi.1 (And.intro hi.2.1 (And.intro (fun _ => ?_) (fun h => absurd hz h)))
    refine And.intro hi.2.2 (And.intro (ok_390 hw) (And.intro (Nat.le_of_ble_eq_true rfl) ?_))
    refine M_span hw hM.1 hF hM.2.1 ?_
    exact And.intro (fun _ => hK _ ⟨P, P', π, κ, ι, tx, f, hC, hM, hF, hO, hB⟩) (fun h => absurd rfl h)
  · refine And.intro hi.1 (And.intro hi.2.1 (And.intro (fun h => absurd h hz) (fun _ => ?_)))
    refine And.intro hi.2.2 (And.intro (ok_0 hw) (And.intro (Nat.le_of_ble_eq_true rfl) ?_))
    refine C_span hw hF hC.1 hC.2.2.2.2.1 ?_
    refine And.intro hi.1 (And.intro hi.2.1 (And.intro (fun h => absurd h hz) (fun _ => ?_)))
    refine And.intro hi.2.2 (And.intro (ok_390 hw) (And.intro (Nat.le_of_ble_eq_true rfl) ?_))
    refine M_span hw hM.1 hF hM.2.1 ?_
    exact And.intro (fun _ => hK _ ⟨P, P', π, κ, ι, tx, f, hC, hM, hF, hO, hB⟩) (fun h => absurd rfl h)
set_option maxRecDepth 100000 in
theorem cs_27 (hI : Inv σ w) (hi : Ix Γ i) (hK : ∀ σ', Inv σ' w → AW Γ 12 mL_law Q 1219 (LL i) [] σ' w cc zz) : AW Γ 12 mL_law Q 1094 (LL i) [] σ w cc zz := by
  obtain ⟨P, P', π, κ, ι, tx, f, hC, hM, hF, hO, hB⟩ := hI
  have hw := hC.2.2.2.2.2.2.2.2.run
  have hP := hC.1.2.1
  refine wp_sound (μ := mL_law) (T := tbL) (is := isL_27) (sw := []) (cu := cuE) tbL_ok msL_27 64 _ _ _ _ _ _ _ ?_
  refine And.intro hi.1 (And.intro hi.2.1 (And.intro (ok_0 hw) (And.intro (Nat.le_of_ble_eq_true rfl) ?_)))
  refine C_meets hw hF hC.1 hC.2.2.2.2.1 hO (fun s1 a1 => ?_)
  have hC1 := hC.ask a1
  have hM1 := hM.fr (a1.1.mono (scAsk_o hP))
  refine And.intro hi.1 (And.intro hi.2.1 (And.intro (ok_390 hw) (And.intro (Nat.le_of_ble_eq_true rfl) ?_)))
  refine M_meets hw hM1.1 hF hM1.2.1 (fun s2 e2 => ?_)
  exact And.intro (fun _ => hK _ ⟨P, P', π, κ, ι, tx, f, (hC1.fr hF (fr_EqC e2)), (hM1.c e2), hF, hO, hB⟩) (fun h => absurd rfl h)
set_option maxRecDepth 100000 in
theorem cs_28 (hI : Inv σ w) (hi : Ix Γ i) (hK : ∀ σ', Inv σ' w → AW Γ 12 mL_law Q 1219 (LL i) [] σ' w cc zz) : AW Γ 12 mL_law Q 1127 (LL i) [] σ w cc zz := by
  obtain ⟨P, P', π, κ, ι, tx, f, hC, hM, hF, hO, hB⟩ := hI
  have hw := hC.2.2.2.2.2.2.2.2.run
  have hP := hC.1.2.1
  refine wp_sound (μ := mL_law) (T := tbL) (is := isL_28) (sw := []) (cu := cuE) tbL_ok msL_28 64 _ _ _ _ _ _ _ ?_
  refine And.intro hi.1 (And.intro hi.2.1 (And.intro (ok_0 hw) (And.intro (Nat.le_of_ble_eq_true rfl) ?_)))
  refine C_next hw hF hC.1 hC.2.2.2.2.1 hO (fun s1 a1 => ?_)
  have hC1 := hC.ask a1
  have hM1 := hM.fr (a1.1.mono (scAsk_o hP))
  refine And.intro hi.1 (And.intro hi.2.1 (And.intro (ok_390 hw) (And.intro (Nat.le_of_ble_eq_true rfl) ?_)))
  refine M_next hw hM1.1 hF hM1.2.1 (fun s2 e2 => ?_)
  exact And.intro (fun _ => hK _ ⟨P, P', π, κ, ι, tx, f, (hC1.fr hF (fr_EqC e2)), (hM1.c e2), hF, hO, hB⟩) (fun h => absurd rfl h)
set_option maxRecDepth 100000 in
theorem cs_29 (hI : Inv σ w) (hi : Ix Γ i) (hK : ∀ σ', Inv σ' w → AW Γ 12 mL_law Q 1219 (LL i) [] σ' w cc zz) : AW Γ 12 mL_law Q 1160 (LL i) [] σ w cc zz := by
  obtain ⟨P, P', π, κ, ι, tx, f, hC, hM, hF, hO, hB⟩ := hI
  have hw := hC.2.2.2.2.2.2.2.2.run
  have hP := hC.1.2.1
  refine wp_sound (μ := mL_law) (T := tbL) (is := isL_29) (sw := []) (cu := cuE) tbL_ok msL_29 64 _ _ _ _ _ _ _ ?_
  refine And.intro (ok_0 hw) (And.intro (Nat.le_of_ble_eq_true rfl) ?_)
  refine C_forAll hw hF hC.1 hC.2.2.2.2.1 hO (fun s1 a1 => ?_)
  have hC1 := hC.ask a1
  have hM1 := hM.fr (a1.1.mono (scAsk_o hP))
  refine And.intro (ok_390 hw) (And.intro (Nat.le_of_ble_eq_true rfl) ?_)
  refine M_forAll hw hM1.1 hF hM1.2.1 (fun s2 e2 => ?_)
  exact And.intro (fun _ => hK _ ⟨P, P', π, κ, ι, tx, f, (hC1.fr hF (fr_EqC e2)), (hM1.c e2), hF, hO, hB⟩) (fun h => absurd rfl h)
set_option maxRecDepth 100000 in
theorem cs_30 (hI : Inv σ w) (hi : Ix Γ i) (hK : ∀ σ', Inv σ' w → AW Γ 12 mL_law Q 1219 (LL i) [] σ' w cc zz) : AW Γ 12 mL_law Q 1173 (LL i) [] σ w cc zz := by
  obtain ⟨P, P', π, κ, ι, tx, f, hC, hM, hF, hO, hB⟩ := hI
  have hw := hC.2.2.2.2.2.2.2.2.run
  have hP := hC.1.2.1
  refine wp_sound (μ := mL_law) (T := tbL) (is := isL_30) (sw := []) (cu := cuE) tbL_ok msL_30 64 _ _ _ _ _ _ _ ?_
  refine And.intro hi.1 (And.intro (ok_0 hw) (And.intro (Nat.le_of_ble_eq_true rfl) ?_))
  refine C_keep hw hC.2.2.2.2.1 hO hC.2.2.2.2.2.1 (fun s1 f1 k1 i1 => ?_)
  have hC1 := hC.im hF f1 k1 i1
  have hM1 := hM.fr (f1.mono scIm_o)
  refine And.intro hi.1 (And.intro (ok_390 hw) (And.intro (Nat.le_of_ble_eq_true rfl) ?_))
  refine M_keep hw hM1.2.1 hM1.2.2.1 (fun s2 e2 k2 i2 => ?_)
  exact And.intro (fun _ => hK _ ⟨P, P', π, κ, _, tx, f, (hC1.fr hF (fr_EqI e2)), (hM1.i e2 k2 i2), hF, hO, hB⟩) (fun h => absurd rfl h)
set_option maxRecDepth 100000 in
theorem cs_31 (hI : Inv σ w) (hi : Ix Γ i) (hK : ∀ σ', Inv σ' w → AW Γ 12 mL_law Q 1219 (LL i) [] σ' w cc zz) : AW Γ 12 mL_law Q 1196 (LL i) [] σ w cc zz := by
  obtain ⟨P, P', π, κ, ι, tx, f, hC, hM, hF, hO, hB⟩ := hI
  have hw := hC.2.2.2.2.2.2.2.2.run
  have hP := hC.1.2.1
  refine wp_sound (μ := mL_law) (T := tbL) (is := isL_31) (sw := []) (cu := cuE) tbL_ok msL_31 64 _ _ _ _ _ _ _ ?_
  refine And.intro hi.1 (And.intro (ok_0 hw) (And.intro (Nat.le_of_ble_eq_true rfl) ?_))
  refine C_goBack hw hC.2.2.2.2.1 hO hC.2.2.2.2.2.1 (fun s1 f1 k1 o1 i1 => ?_)
  have hC1 := hC.im hF f1 k1 i1
  have hM1 := hM.fr (f1.mono scIm_o)
  refine And.intro hi.1 (And.intro (ok_390 hw) (And.intro (Nat.le_of_ble_eq_true rfl) ?_))
  refine M_goBack hw hM1.2.1 hM1.2.2.1 (fun s2 e2 k2 => ?_)
  exact And.intro (fun _ => hK _ ⟨P, P', π, _, ι, tx, f, (hC1.fr hF (fr_EqU e2)), (hM1.u e2 k2), hF, o1, hB⟩) (fun h => absurd rfl h)
end CAS
