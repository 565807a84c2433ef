/-! the law: its loop, its start -/
theorem swP_all {x : Int32} {k : Nat → Prop} {df : Nat} : ∀ {cs : List (Int32 × Nat)}, (∀ q ∈ cs, k q.2) → k df → swP x k df cs
  | [], _, h => h
  | _ :: _, h, hd => ⟨fun _ => h _ List.mem_cons_self, fun _ => swP_all (fun q hq => h q (List.mem_cons_of_mem _ hq)) hd⟩
def qL : Option Value → St → Wd → Prop := fun v _ _ => v = some (.int 1)
theorem sub4 : ∀ N, N < 257 → (nI N - 4).toInt = (N : Int) - 4 := by decide +kernel
section LAW
variable {Γ : Gx} {σ : St} {w : Wd} {cc zz : Nat} {i : Int32}
set_option maxRecDepth 100000 in
theorem e_1219 (h : AW Γ 12 mL_law qL 18 (LL (i + 4)) [] σ w cc zz) : AW Γ 12 mL_law qL 1219 (LL i) [] σ w cc zz :=
  wp_sound (μ := mL_law) (T := tbL) (is := isL_e) (sw := []) (cu := cuS) tbL_ok msL_e 4 _ _ _ _ _ _ _ h
set_option maxRecDepth 100000 in
theorem e_1225 : AW Γ 12 mL_law qL 1225 (LL i) [] σ w cc zz :=
  wp_sound (μ := mL_law) (T := tbL) (is := isL_r) (sw := []) (cu := []) tbL_ok msL_r 4 _ _ _ _ _ _ _ (And.intro nb1 rfl)
theorem end_lt {N j : Nat} (hN : N ≤ 256) (hj : j ≤ 64) : nI N - 4 < nI (4 * j) ↔ N < 4 * j + 4 := by
  rw [Int32.lt_iff_toInt_lt, sub4 N (by omega), nI_toInt (by omega)]
  omega
set_option maxRecDepth 100000 in
theorem h_end {j : Nat} (hN : xN Γ ≤ 256) (hj : j ≤ 64) (h : xN Γ < 4 * j + 4) : AW Γ 12 mL_law qL 18 (LL (nI (4 * j))) [] σ w cc zz := by
  refine wp_sound (μ := mL_law) (T := tbL) (is := isL_h) (sw := swL_law) (cu := cuH) tbL_ok msL_h 16 _ _ _ _ _ _ _ ?_
  exact And.intro (fun _ => e_1225) (fun q => absurd ((end_lt hN hj).mpr h) q)
set_option maxRecDepth 100000 in
theorem lp_law (hN : xN Γ ≤ 256) : ∀ (n j : Nat) (σ : St) (w : Wd) (cc zz : Nat), xN Γ < 4 * (j + n) + 4 → j ≤ 64 → Inv σ w → cc ≤ 425 + 5 * j → zz ≤ 40115 + 33305 * j → AW Γ 12 mL_law qL 18 (LL (nI (4 * j))) [] σ w cc zz := by
  intro n
  induction n with
  | zero =>
    intro j σ w cc zz h1 h2 hI hc hz
    exact h_end hN h2 (by omega)
  | succ n ih =>
    intro j σ w cc zz h1 h2 hI hc hz
    by_cases hlt : xN Γ < 4 * j + 4
    · exact h_end hN h2 hlt
    · have e4 : nI (4 * j) + 4 = nI (4 * (j + 1)) := by
        show nI (4 * j) + nI 4 = nI (4 * (j + 1))
        rw [nI_add]
        rfl
      have ad : ∀ k, nI (4 * j) + nI k = nI (4 * j + k) := fun k => nI_add _ _
      have hi : Ix Γ (nI (4 * j)) := by
        refine ⟨?_, ?_, ?_⟩
        · show vp_in (nI (4 * j) + nI 1) _
          rw [ad]; exact vp_in_nI (by omega) (by omega)
        · show vp_in (nI (4 * j) + nI 2) _
          rw [ad]; exact vp_in_nI (by omega) (by omega)
        · show vp_in (nI (4 * j) + nI 3) _
          rw [ad]; exact vp_in_nI (by omega) (by omega)
      have E : ∀ σ', Inv σ' w → AW Γ 12 mL_law qL 1219 (LL (nI (4 * j))) [] σ' w cc zz := fun σ' q => e_1219 (by
        rw [e4]
        exact ih (j + 1) σ' w cc zz (by omega) (by omega) q (by omega) (by omega))
      have E' : ∀ σ' w', Inv σ' w' → AW Γ 12 mL_law qL 1219 (LL (nI (4 * j))) [] σ' w' (cc + 5) (zz + 33305) := fun σ' w' q => e_1219 (by
        rw [e4]
        exact ih (j + 1) σ' w' (cc + 5) (zz + 33305) (by omega) (by omega) q (by omega) (by omega))
      have c5 : cc + 5 ≤ 600000 := by omega
      have z5 : zz + 33305 ≤ 7302250 := by omega
      refine wp_sound (μ := mL_law) (T := tbL) (is := isL_h) (sw := swL_law) (cu := cuH) tbL_ok msL_h 32 _ _ _ _ _ _ _ ?_
      refine And.intro (fun q => absurd ((end_lt hN h2).mp q) hlt) (fun _ => ?_)
      refine And.intro (vp_in_nI (by omega) (by omega)) ?_
      refine swP_all ?_ (E σ hI)
      refine List.forall_mem_cons.mpr ⟨cs_0 hI hi E, ?_⟩
      refine List.forall_mem_cons.mpr ⟨cs_1 hI hi E, ?_⟩
      refine List.forall_mem_cons.mpr ⟨cs_2 hI hi E, ?_⟩
      refine List.forall_mem_cons.mpr ⟨cs_3 hI hi E, ?_⟩
      refine List.forall_mem_cons.mpr ⟨cs_4 hI hi E, ?_⟩
      refine List.forall_mem_cons.mpr ⟨cs_5 hI hi E, ?_⟩
      refine List.forall_mem_cons.mpr ⟨cs_6 hI hi E, ?_⟩
      refine List.forall_mem_cons.mpr ⟨cs_7 hI hi E, ?_⟩
      refine List.forall_mem_cons.mpr ⟨cs_8 hI hi E, ?_⟩
      refine List.forall_mem_cons.mpr ⟨cs_9 hI hi E, ?_⟩
      refine List.forall_mem_cons.mpr ⟨cs_10 hI hi E, ?_⟩
      refine List.forall_mem_cons.mpr ⟨cs_11 hI hi E, ?_⟩
      refine List.forall_mem_cons.mpr ⟨cs_12 hI hi E, ?_⟩
      refine List.forall_mem_cons.mpr ⟨cs_13 hI hi E, ?_⟩
      refine List.forall_mem_cons.mpr ⟨cs_14 hI hi E, ?_⟩
      refine List.forall_mem_cons.mpr ⟨cs_15 hI hi E, ?_⟩
      refine List.forall_mem_cons.mpr ⟨cs_16 hI hi E, ?_⟩
      refine List.forall_mem_cons.mpr ⟨cs_17 hI hi E, ?_⟩
      refine List.forall_mem_cons.mpr ⟨cs_18 hI hi E, ?_⟩
      refine List.forall_mem_cons.mpr ⟨cs_19 hI hi c5 z5 E', ?_⟩
      refine List.forall_mem_cons.mpr ⟨cs_20 hI hi E, ?_⟩
      refine List.forall_mem_cons.mpr ⟨cs_21 hI hi E, ?_⟩
      refine List.forall_mem_cons.mpr ⟨cs_22 hI hi E, ?_⟩
      refine List.forall_mem_cons.mpr ⟨cs_23 hI hi E, ?_⟩
      refine List.forall_mem_cons.mpr ⟨cs_24 hI hi E, ?_⟩
      refine List.forall_mem_cons.mpr ⟨cs_25 hI hi E, ?_⟩
      refine List.forall_mem_cons.mpr ⟨cs_26 hI hi E, ?_⟩
      refine List.forall_mem_cons.mpr ⟨cs_27 hI hi E, ?_⟩
      refine List.forall_mem_cons.mpr ⟨cs_28 hI hi E, ?_⟩
      refine List.forall_mem_cons.mpr ⟨cs_29 hI hi E, ?_⟩
      refine List.forall_mem_cons.mpr ⟨cs_30 hI hi E, ?_⟩
      refine List.forall_mem_cons.mpr ⟨cs_31 hI hi E, ?_⟩
      exact fun _ h => absurd h List.not_mem_nil
set_option maxRecDepth 100000 in
theorem law_start (hN : xN Γ ≤ 256) (σ0 : St) : AW Γ 12 mL_law qL 0 [(0, .retAddr 0)] [] σ0 (0, rfS) 0 0 := by
  refine wp_sound (μ := mL_law) (T := tbL) (is := isL_s) (sw := []) (cu := cuS) tbL_ok msL_s 16 _ _ _ _ _ _ _ ?_
  refine And.intro (And.intro (by decide +kernel) (by decide +kernel)) (And.intro (by decide +kernel) (And.intro (by decide +kernel) ?_))
  refine And.intro rfl (And.intro (Nat.le_of_ble_eq_true rfl) (And.intro (by decide +kernel) (And.intro (by decide +kernel) (i_X11 (fun s1 s2 f1 n1 f2 n2 => ?_)))))
  refine And.intro (And.intro (by decide +kernel) (by decide +kernel)) (And.intro (by decide +kernel) (And.intro (by decide +kernel) ?_))
  refine And.intro rfl (And.intro (Nat.le_of_ble_eq_true rfl) (And.intro (by decide +kernel) (And.intro (by decide +kernel) (i_X12 (c_begin run425 rfl (fun s3 e3 k3 => ?_))))))
  obtain ⟨m1, m2, m3, m4, m5, m6⟩ := start_M e3 k3
  obtain ⟨⟨c1, c2, c3⟩, ⟨c4, c5, c6⟩, c7, c8⟩ := start_C (π := MV s3) m1 f1 n1 f2
  have hF : WF (MV s3) := m1.wf.1
  have hf : Fr (fun a _ => decide (390 ≤ a)) (a8 s2) s3 := sX12_f.tr ((fr_EqU e3).mono (fun o k q => by unfold inM at q; simp at q ⊢; omega))
  have z : ∀ o k, o < 390 → (fun (a _k : Nat) => decide (390 ≤ a)) o k = false := fun o k q => by simp; omega
  have hI : Inv s3 (425, rfS) := ⟨3, 159, MV s3, κ0, im0, [], -1, ⟨cp_fr c7 hF (fun o k a b => z o k (by omega)) (z _ 0 (by decide)) hf, Or.inr rfl, by decide, (hf.2.2 0 2 (z _ 0 (by decide))).trans c2, c8.fr (fun o k a b => z o k (by omega)) hf, im_0 ((hf.1 0 7 (z _ 0 (by decide))).trans c4), txc_nil ((hf.1 1 1 (z _ 0 (by decide))).trans c5), (hf.1 1 7 (z _ 0 (by decide))).trans c6, Or.inl ⟨rfl, (hf.2.2 0 8 (z _ 0 (by decide))).trans c3⟩⟩, ⟨rfl, m2, m3, m4, m5⟩, hF, (fun q _ => ⟨fun k _ _ => rfl, fun k _ _ => rfl⟩), TxB.nil⟩
  exact lp_law hN 64 0 s3 (425, rfS) _ _ (by omega) (by decide) hI (by decide +kernel) (by decide +kernel)
end LAW
