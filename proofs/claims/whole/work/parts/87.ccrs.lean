/-! the class: course -/
def cuC : Cu := [(41, [0, 1, 2, 3])]
def CK (σ : St) (π : PV) : Prop := ∀ p u, p < nP π → u < 17 → gI σ 425 5 = nI p → gI σ 425 6 = nI u → ResC σ π p u
theorem runC430 : RunC (430, rfS) := ⟨Nat.le_refl _, rfl⟩
section CCC
variable {Γ : Gx} {d : Nat} {P : Nat} {π : PV}
theorem c_atN {Q : Int32 → St → Prop} {s : St} {w : Wd} {o : Nat} {x : Int32} (ho : okO w o 20) (h : Q (-1) s) : SpI Γ d mX11_at [.ref o, .int (-1), .int x] s w Q := by
  refine SpI.of pnX11 (Nat.le_of_ble_eq_true rfl) (vX11_at_0 ho ho.1 (by rw [ho.2]; decide) (by rw [ho.2]; decide) ?_)
  exact ⟨fun _ => h, fun c => ⟨fun _ => h, fun c2 => absurd (Int32.lt_trans (Int32.not_le.mp c2) (by decide)) c⟩⟩
set_option maxRecDepth 100000 in
theorem crs_41 {Q : Int32 → St → Wd → Prop} {σ : St} {p u cc zz : Nat} {z : Int32} (hF : WF π) (hC : CP σ P π) (h8 : gR σ 0 8 = some 425) (hp : p < nP π) (hu : u < 17) (hK : CK σ π) (hQ : ∀ σ', Fr (scCo P) σ σ' → CP σ' P π → gR σ' 0 8 = some 425 → CK σ' π → Q (if dst π p u 0 < 1000 then A_out (crs π p u) z else -1) σ' (430, rfS)) : AW Γ (d + 6) mX11_course (qN Q) 41 [(0, .ref 0), (1, .int (nI p)), (2, .int (nI u)), (3, .int z)] [] σ (430, rfS) cc zz := by
  have hwc := runC430
  have hw := hwc.run
  have hP := hC.2.1
  have hlt := P_lt hP
  have hn8 := hF.1.2.2.2.2
  have ok0 : okO (430, rfS) 0 11 := okL hw (by decide) (by decide +kernel)
  have okc : okO (430, rfS) 425 0 := ok425 hwc
  refine wp_sound (μ := mX11_course) (T := tbX11) (is := isX11_course) (sw := swX11_course) (cu := cuC) tbX11_ok msX11_course 40 _ _ _ _ _ _ _ ?_
  refine And.intro ok0 (And.intro (mR1 h8 ?_) (mR2 h8))
  refine And.intro ok0 (And.intro (mR1 hC.1 ?_) (mR2 hC.1))
  refine And.intro okc (And.intro (Nat.le_of_ble_eq_true rfl) (c_find hwc hP hF hp hu ⟨hC.2.2.1, hC.2.2.2.1, hC.2.2.2.2⟩ (hK p u hp hu) (fun σ' y1 y2 y3 y4 y5 => ?_)))
  have hR : ∀ k, gR σ' 0 k = gR σ 0 k := fun k => y1.2.2 0 k (by unfold scCo scV; simp <;> omega)
  have h8' : gR σ' 0 8 = some 425 := (hR 8).trans h8
  have hq := hQ σ' y1 ⟨(hR 1).trans hC.1, hP, y2.1, y2.2.1, y2.2.2⟩ h8' (fun p' u' q1 q2 q3 q4 => by
    have e1 : p' = p := by rw [y3, nI_eq (by omega) (by omega)] at q3; exact q3.symm
    have e2 : u' = u := by rw [y4, nI_eq (by omega) (by omega)] at q4; exact q4.symm
    rw [e1, e2]
    exact y5)
  have o429 : okO (430, rfS) 429 20 := okC hwc (by decide) (by decide +kernel)
  have k429 : (kd 429).2 = 15 := by decide +kernel
  have hlen : dst π p u 0 < 1000 → (crs π p u).length = dst π p u 0 := fun hD => crs_len hF _ 0 (Nat.mul_pos (by decide) (Nat.pow_pos (by decide))) hD rfl
  refine And.intro (fun z1 => ?_) (fun z1 => ?_)
  · refine And.intro ok0 (And.intro (mR1 h8' ?_) (mR2 h8'))
    refine And.intro okc (Exists.intro 429 (And.intro rfl ?_))
    refine And.intro ok0 (And.intro (mR1 h8' ?_) (mR2 h8'))
    refine And.intro okc (And.intro (Nat.le_of_ble_eq_true rfl) (And.intro (Nat.le_of_ble_eq_true rfl) ?_))
    have fin : ∀ v, v = (if dst π p u 0 < 1000 then A_out (crs π p u) z else -1) → qN Q (some (.int v)) σ' (430, rfS) := fun v e => ⟨v, rfl, by rw [e]; exact hq⟩
    by_cases hD : dst π p u 0 < 1000
    · obtain ⟨r1, r2, r3, r4⟩ := y5.1 hD
      rw [r1]
      refine c_at o429 k429 (by decide) r3 (And.intro rfl (fin _ ?_))
      rw [if_pos hD]
      unfold A_out
      rw [if_neg z1, hlen hD]
      by_cases hb : inB z (dst π p u 0) = true
      · rw [if_pos hb, if_pos hb]
        obtain ⟨a, ha, rfl⟩ := inB_of hb
        rw [cl (by omega)]
        exact r4 a ha
      · rw [if_neg hb, if_neg hb]
    · rw [y5.2 hD]
      refine c_atN o429 (And.intro rfl (fin _ ?_))
      rw [if_neg hD]
  · refine And.intro ok0 (And.intro (mR1 h8' ?_) (mR2 h8'))
    refine And.intro okc (And.intro rfl (Exists.intro _ (And.intro rfl ?_)))
    by_cases hD : dst π p u 0 < 1000
    · rw [if_pos hD] at hq
      unfold A_out at hq
      rw [if_pos z1, hlen hD] at hq
      rw [(y5.1 hD).1]
      exact hq
    · rw [if_neg hD] at hq
      rw [y5.2 hD]
      exact hq
def w12 : Wd := wX0 (zW (425, rfS)) 425
theorem w12_1 : w12.1 = 430 := by decide +kernel
theorem w12_c : ∀ i, i < 430 → ∀ k, k < 60 → fnK i k = true → rfS i k = w12.2 i k := by decide +kernel
theorem wde12 : WdE w12 (430, rfS) := ⟨w12_1.symm, fun i k hi hf => by
  rw [w12_1] at hi
  exact w12_c i hi k (fnK_60 (by omega) hf) hf⟩
theorem fr_Z {S : Nat → Nat → Bool} {σ : St} {a : Nat} (h : ∀ k, S a k = true) : Fr S σ (zS σ a) := by
  refine ⟨fun o k q => ?_, fun o k q => ?_, fun o k q => ?_⟩
  · rw [gI_zS, if_neg (fun e => by rw [e, h k] at q; cases q)]
  · rw [gJ_zS, if_neg (fun e => by rw [e, h k] at q; cases q)]
  · rw [gR_zS, if_neg (fun e => by rw [e, h k] at q; cases q)]
def scCrs (P o k : Nat) : Bool := scAsk P o k || (o == 0 && k == 8) || decide (425 ≤ o)
def CoS (σ : St) (w : Wd) (π : PV) : Prop := (w = (425, rfS) ∧ gR σ 0 8 = none) ∨ (w = (430, rfS) ∧ gR σ 0 8 = some 425 ∧ CK σ π)
theorem scCo_Crs : ∀ o k, scCo P o k = true → scCrs P o k = true := by
  intro o k h
  unfold scCo scV at h
  unfold scCrs scAsk
  simp only [Bool.or_eq_true, Bool.and_eq_true, beq_iff_eq, decide_eq_true_eq] at h ⊢
  omega
theorem kc0 : ∀ q, q < 4 → kd (426 + q) = kd (426 + q) := fun _ _ => rfl
set_option maxRecDepth 100000 in
theorem C_course {Q : Int32 → St → Wd → Prop} {σ : St} {w : Wd} {x y z : Int32} (hF : WF π) (hC : CP σ P π) (hW : CoS σ w π) (hQ : ∀ σ' w', Fr (scCrs P) σ σ' → CP σ' P π → CoS σ' w' π → Q (A_course π x y z) σ' w') : SpN Γ (d + 6) mX11_course [.ref 0, .int x, .int y, .int z] σ w Q := by
  have hP := hC.2.1
  have hlt := P_lt hP
  have hn8 := hF.1.2.2.2.2
  have hw : RunW w := by
    rcases hW with ⟨rfl, -⟩ | ⟨rfl, -⟩
    · exact run425
    · exact runC430.run
  have ok0 : okO w 0 11 := okL hw (by decide) (by decide +kernel)
  refine Sp.of pnX11 (Nat.le_of_ble_eq_true rfl) (wp_sound (μ := mX11_course) (T := tbX11) (is := isX11_course) (sw := swX11_course) (cu := cuC) tbX11_ok msX11_course 40 _ _ _ _ _ _ _ ?_)
  unfold A_course at hQ
  refine And.intro ok0 (And.intro (Nat.le_of_ble_eq_true rfl) (c_isPageC hw hF hC ?_))
  refine And.intro (fun q => ?_) (fun q => ?_)
  · rw [b2i_n0] at q
    rw [q, if_pos rfl] at hQ
    refine And.intro (Nat.le_of_ble_eq_true rfl) (And.intro (Nat.le_of_ble_eq_true rfl) (c_outC ?_))
    refine And.intro (fun q2 => ?_) (fun q2 => ?_)
    · rw [b2i_0] at q2
      have q2' : inB y 17 = true := by simpa using q2
      rw [q2', if_pos rfl] at hQ
      obtain ⟨p, hp, rfl⟩ := inB_of q
      obtain ⟨u, hu, rfl⟩ := inB_of q2'
      rw [cl (by omega), cl (by omega)] at hQ
      refine And.intro ok0 (And.intro (fun r hr => ?_) (fun hn => ?_))
      · rcases hW with ⟨-, e⟩ | ⟨rfl, e, hK⟩
        · rw [e] at hr; cases hr
        · rw [e] at hr
          cases hr
          exact crs_41 hF hC e hp hu hK (fun σ' y1 y2 y3 y4 => hQ σ' _ (y1.mono scCo_Crs) y2 (Or.inr ⟨rfl, y3, y4⟩))
      · rcases hW with ⟨rfl, -⟩ | ⟨rfl, e, hK⟩
        · refine And.intro (And.intro (by decide +kernel) (by decide +kernel)) (And.intro (by decide +kernel) (And.intro (by decide +kernel) ?_))
          refine And.intro rfl (And.intro (Nat.le_of_ble_eq_true rfl) (And.intro (by decide +kernel) (And.intro (by decide +kernel) (i_X0 (And.intro (by decide +kernel) (by decide +kernel)) (fun q hq => kc0 q hq) ?_))))
          refine And.intro (And.intro (by decide +kernel) (by decide +kernel)) ?_
          have hf : Fr (fun o k => decide (425 ≤ o) || (o == 0 && k == 8)) σ (uR (sX0 (zS σ 425) (zW (425, rfS)) 425) 0 8 (some 425)) := by
            refine Fr.tr ?_ (fr_R (by simp))
            unfold sX0
            exact ((((fr_Z (fun k => by simp)).tr (fr_Z (fun k => by show (decide (425 ≤ 426) || _) = true; simp))).tr (fr_Z (fun k => by show (decide (425 ≤ 427) || _) = true; simp))).tr (fr_Z (fun k => by show (decide (425 ≤ 428) || _) = true; simp))).tr ((fr_I (by simp)).tr (fr_Z (fun k => by show (decide (425 ≤ 429) || _) = true; simp)))
          have z0 : ∀ o k, 1 ≤ o → o < 425 → ((fun (o k : Nat) => decide (425 ≤ o) || (o == 0 && k == 8)) o k) = false := fun o k a b => by simp; omega
          have hC' : CP (uR (sX0 (zS σ 425) (zW (425, rfS)) 425) 0 8 (some 425)) P π := by
            have hge := P_ge hP
            refine ⟨(hf.2.2 0 1 (by simp)).trans hC.1, hP, hC.2.2.1.fr hF (fun o k q => z0 o k (by unfold inPr at q; omega) (by unfold inPr at q; omega)) hf, hC.2.2.2.1.fr hF (fun o k q => z0 o k (by unfold inPr at q; omega) (by unfold inPr at q; omega)) hf, fun a ha => ?_⟩
            rw [hf.1 _ a (z0 _ _ (by omega) (by omega))]
            exact hC.2.2.2.2 a ha
          have h5 : gI (uR (sX0 (zS σ 425) (zW (425, rfS)) 425) 0 8 (some 425)) 425 5 = -1 := rfl
          refine AW.wd wde12 (crs_41 hF hC' rfl hp hu (fun p' u' a1 a2 a3 _ => ?_) (fun σ' y1 y2 y3 y4 => hQ σ' _ ((hf.mono (fun o k q => ?_)).tr (y1.mono scCo_Crs)) y2 (Or.inr ⟨rfl, y3, y4⟩)))
          · rw [h5] at a3
            exact absurd a3.symm (nI_ne_m1 (by omega))
          · unfold scCrs scAsk
            simp only [Bool.or_eq_true, Bool.and_eq_true, beq_iff_eq, decide_eq_true_eq] at q ⊢
            omega
        · rw [e] at hn; cases hn
    · rw [b2i_n0] at q2
      have q2' : inB y 17 = false := by simpa using q2
      rw [q2'] at hQ
      exact And.intro rfl (Exists.intro _ (And.intro rfl (hQ σ w (Fr.rf σ) hC hW)))
  · rw [b2i_0] at q
    rw [q] at hQ
    exact And.intro rfl (Exists.intro _ (And.intro rfl (hQ σ w (Fr.rf σ) hC hW)))
end CCC
