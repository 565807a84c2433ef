/-- a state that differs at one cell alone -/
theorem HR.at_one {Γ : Gx} {σ σ' : St} {w w' : Wd} {H H' : Heap} {o : Nat} (h : HR Γ σ w H) (hw : w'.1 = w.1) (ho : o < w.1) (hs : H'.size = H.size) (hq : ∀ q, q ≠ gz Γ + o → H'[q]? = H[q]?) (hc : atC Γ σ' w'.2 o H')
    (hf : ∀ i, i ≠ o → (∀ k, fv Γ σ' w'.2 (kd i).1 i k = fv Γ σ w.2 (kd i).1 i k) ∧ ∀ j, av Γ σ' w'.2 (kd i).1 i j = av Γ σ w.2 (kd i).1 i j) : HR Γ σ' w' H' := by
  obtain ⟨h1, h2, h3⟩ := h
  refine ⟨by rw [hs, h1, hw], fun q hqz => ?_, fun i hi => ?_⟩
  · rw [hq q (by omega)]
    exact h2 q hqz
  · by_cases e : i = o
    · subst e
      exact hc
    · obtain ⟨g1, g2⟩ := h3 i (by rw [← hw]; exact hi)
      have hk : H'[gz Γ + i]? = H[gz Γ + i]? := hq _ (by omega)
      refine ⟨fun ht => ?_, fun ht => ?_⟩
      · exact ((g1 ht).kept hk).to (fun k _ => ((hf i e).1 k).symm)
      · rw [hk, g2 ht]
        congr 2
        funext j
        exact ((hf i e).2 j).symm
theorem fv_uI {Γ : Gx} {σ : St} {ρ : Nat → Nat → Option Nat} {o k : Nat} {v : Int32} {t i j : Nat} (h : i ≠ o) : fv Γ (uI σ o k v) ρ t i j = fv Γ σ ρ t i j := by
  unfold fv
  simp only [gI_uI, gJ_uI, gR_uI, h, false_and, if_false]
theorem av_uI {Γ : Gx} {σ : St} {ρ : Nat → Nat → Option Nat} {o k : Nat} {v : Int32} {t i j : Nat} (h : i ≠ o) : av Γ (uI σ o k v) ρ t i j = av Γ σ ρ t i j := by
  unfold av
  simp only [gI_uI, gJ_uI, h, false_and, if_false]
theorem fv_uJ {Γ : Gx} {σ : St} {ρ : Nat → Nat → Option Nat} {o k : Nat} {v : Int64} {t i j : Nat} (h : i ≠ o) : fv Γ (uJ σ o k v) ρ t i j = fv Γ σ ρ t i j := by
  unfold fv
  simp only [gI_uJ, gJ_uJ, gR_uJ, h, false_and, if_false]
theorem av_uJ {Γ : Gx} {σ : St} {ρ : Nat → Nat → Option Nat} {o k : Nat} {v : Int64} {t i j : Nat} (h : i ≠ o) : av Γ (uJ σ o k v) ρ t i j = av Γ σ ρ t i j := by
  unfold av
  simp only [gI_uJ, gJ_uJ, h, false_and, if_false]
theorem fv_uR {Γ : Gx} {σ : St} {ρ : Nat → Nat → Option Nat} {o k : Nat} {v : Option Nat} {t i j : Nat} (h : i ≠ o) : fv Γ (uR σ o k v) ρ t i j = fv Γ σ ρ t i j := by
  unfold fv
  simp only [gI_uR, gJ_uR, gR_uR, h, false_and, if_false]
theorem av_uR {Γ : Gx} {σ : St} {ρ : Nat → Nat → Option Nat} {o k : Nat} {v : Option Nat} {t i j : Nat} : av Γ (uR σ o k v) ρ t i j = av Γ σ ρ t i j := by
  unfold av
  simp only [gI_uR, gJ_uR]
theorem fv_uW {Γ : Gx} {σ : St} {ρ : Nat → Nat → Option Nat} {o k : Nat} {v : Option Nat} {t i j : Nat} (h : i ≠ o) : fv Γ σ (up2 ρ o k v) t i j = fv Γ σ ρ t i j := by
  unfold fv up2
  simp only [h, false_and, if_false]
theorem av_uW {Γ : Gx} {σ : St} {ρ : Nat → Nat → Option Nat} {o k : Nat} {v : Option Nat} {t i j : Nat} (h : i ≠ o) : av Γ σ (up2 ρ o k v) t i j = av Γ σ ρ t i j := by
  unfold av up2
  simp only [h, false_and, if_false]
/-- a field's facts: its class, its slot -/
theorem fl_facts {Γ : Gx} {s : State} {σ : St} {w : Wd} {H : Heap} {o ci : Nat} (hK : GK Γ s) (hH : HR Γ σ w H) (ho : okO w o ci) (hc : ci < 20) : ∃ q : vw_C, vwCl[ci]? = some q ∧ q.2.2 = (kd o).2 ∧ (∃ cell : Cell, H[gz Γ + o]? = some cell ∧ cell.cls = (xD Γ).1 ci ∧ cell.vm = .none ∧ ∀ k, k < q.2.2 → cell.slots[(xD Γ).2 ci k]? = some (fv Γ σ w.2 ci o k)) ∧ u_Kn s q.1 q.2.1 q.2.2 ((xD Γ).1 ci) ((xD Γ).2 ci) := by
  obtain ⟨h1, rfl⟩ := ho
  obtain ⟨q, hq, hn⟩ := kd_cl hc
  obtain ⟨cell, g1, g2, g3, g4⟩ := (hH.2.2 o h1).1 hc
  exact ⟨q, hq, hn, ⟨cell, g1, g2, g3, fun k hk => g4 k (by rw [← hn]; exact hk)⟩, hK.2.2.1.1 _ q hq⟩
section Heap
variable {Γ : Gx} {d : Nat} {μ : MD} {Q : Option Value → St → Wd → Prop} {pc : Nat} {L : Lv} {S : List Value} {σ : St} {w : Wd} {cc zz : Nat}
theorem fCk_spec {C : String} {q : Nat × Nat × Nat × Nat} {wi : Nat} (h : fCk C q wi = true) : ∃ (R : String) (T : u_T) (N : Nat), vwCl[q.2.1]? = some (R, T, N) ∧ q.2.2.1 < N ∧ lw_tbl[wi]? = some (.fieldLink C q.1 R (T q.2.2.1).2.1 (T q.2.2.1).2.2.1) ∧ (T q.2.2.1).1 = R ∧ fk q.2.1 q.2.2.1 = q.2.2.2 ∧ ((T q.2.2.1).2.2.2 = true ↔ q.2.2.2 = 2) ∧
    ftk (parseFieldDescriptor (T q.2.2.1).2.2.1) q.2.2.2 = true := by
  unfold fCk at h
  split at h
  · rename_i R T N e
    simp only [Bool.and_eq_true, decide_eq_true_eq, beq_iff_eq] at h
    obtain ⟨⟨⟨⟨⟨h1, h2⟩, h3⟩, h4⟩, h5⟩, h6⟩ := h
    exact ⟨R, T, N, e, h1, h2, h3, h4, by rw [h5]; simp, h6⟩
  · cases h
theorem ci_lt {ci : Nat} {q : vw_C} (h : vwCl[ci]? = some q) : ci < 20 := by
  have := (List.getElem?_eq_some_iff.mp h).1
  have e : vwCl.length = 13 := rfl
  omega
theorem aw_get {n ci f kn wi : Nat} {o : Nat} (hd : decode (mB μ) pc = .ok (.getfield n, 3)) (hck : fCk (mN μ).cls (n, ci, f, kn) wi = true) (ho : okO w o ci) {v : Value} (hv : cv Γ v = fv Γ σ w.2 ci o f) (k : AW Γ d μ Q (pc + 3) L (v :: S) σ w cc zz) : AW Γ d μ Q pc L (.ref o :: S) σ w cc zz := by
  intro p l e s m args below meth c Z hF hR H locs ls hH hlo hl hc hz
  have kk := k p l e s m args below meth c Z hF hR H locs ls hH hlo hl hc hz
  obtain ⟨hx, hb, -, -, -, hown, -, -, hK⟩ := hF
  obtain ⟨R, T, N, e1, e2, e3, e4, e5, e6, -⟩ := fCk_spec hck
  dsimp only at e1 e2 e3 e4 e5 e6
  obtain ⟨q, hq, hn, ⟨cell, g1, g2, g3, g4⟩, hKn⟩ := fl_facts hK hH ho (ci_lt e1)
  cases hq.symm.trans e1
  obtain ⟨hS, hfc, kC, hkC, hkind⟩ := hKn
  obtain ⟨cf, kf, fi, ff, hi, hsl⟩ := hS f e2
  have hw0 := (cl_facts e1).1
  have hlink := hK.1 _ (List.mem_of_getElem? e3) rfl args
  refine W.getf hx hb hown hlink (by rw [← e4]; exact hi) (u_facts hfc hkC (u_lays (ws := u_ws R T N) (args := args) (fun w hw => hK.1 w (hw0 w hw).1 (hw0 w hw).2 args) (fun w h => h) e2) hi).1 g1 (by rw [g3]; exact fun h => by cases h) (v := cv Γ v) ?_ rfl rfl hd kk
  rw [hsl, g4 f e2, hv]
theorem putV {o : Nat} {cell : Cell} {N : Nat} {iS : Nat → Nat} {V V' : Nat → Value} (h : ∀ k, k < N → cell.slots[iS k]? = some (V k)) (hap : ∀ a b, a < N → b < N → a ≠ b → iS a ≠ iS b) {k : Nat} (hk : k < N) (v : Value) (hV : ∀ j, j < N → V' j = if j = k then v else V j) : ∀ j, j < N → (cell.setSlot (iS k) v).slots[iS j]? = some (V' j) := by
  intro j hj
  rw [t_set h hap hk v j hj, hV j hj]
  rfl
theorem atC_o {ρ : Nat → Nat → Option Nat} {o : Nat} {H : Heap} (h : (kd o).1 < 20) : atC Γ σ ρ o H ↔ t_OB (gz Γ + o) ((xD Γ).1 (kd o).1) (kd o).2 ((xD Γ).2 (kd o).1) H (fv Γ σ ρ (kd o).1 o) := ⟨fun q => q.1 h, fun q => ⟨fun _ => q, fun q2 => by omega⟩⟩
theorem atC_a {ρ : Nat → Nat → Option Nat} {o : Nat} {H : Heap} (h : 20 ≤ (kd o).1) : atC Γ σ ρ o H ↔ H[gz Γ + o]? = some (arrV (xA Γ ((kd o).1 - 20)) (kd o).2 (av Γ σ ρ (kd o).1 o)) := ⟨fun q => q.2 h, fun q => ⟨fun q2 => by omega, fun _ => q⟩⟩
theorem aw_put {n ci f kn wi : Nat} {o : Nat} {v : Value} {σ' : St} {w' : Wd} (hd : decode (mB μ) pc = .ok (.putfield n, 3)) (hck : fCk (mN μ).cls (n, ci, f, kn) wi = true) (hfin : kn = 2 → (mN μ).name = "<init>" ∧ vwCl[ci]?.map (fun q => q.1) = some (mN μ).cls) (ho : okO w o ci) (hw : w'.1 = w.1)
    (hv : ∀ j, fv Γ σ' w'.2 ci o j = if j = f then cv Γ v else fv Γ σ w.2 ci o j) (hf : ∀ i, i ≠ o → (∀ k, fv Γ σ' w'.2 (kd i).1 i k = fv Γ σ w.2 (kd i).1 i k) ∧ ∀ j, av Γ σ' w'.2 (kd i).1 i j = av Γ σ w.2 (kd i).1 i j)
    (hn : narrow (tyOf ci f) (cv Γ v) = cv Γ v) (hft : fits (tyOf ci f) (cv Γ v) = true) (k : AW Γ d μ Q (pc + 3) L S σ' w' cc zz) : AW Γ d μ Q pc L (v :: .ref o :: S) σ w cc zz := by
  intro p l e s m args below meth c Z hF hR H locs ls hH hlo hl hc hz
  have kk := fun H locs hH hlo => k p l e s m args below meth c Z hF hR H locs ls hH hlo hl hc hz
  obtain ⟨hx, hb, -, -, -, hown, hname, -, hK⟩ := hF
  obtain ⟨R, T, N, e1, e2, e3, e4, e5, e6, -⟩ := fCk_spec hck
  dsimp only at e1 e2 e3 e4 e5 e6
  have hlt := ci_lt e1
  obtain ⟨q, hq, hn0, ⟨cell, g1, g2, g3, g4⟩, hKn⟩ := fl_facts hK hH ho hlt
  cases hq.symm.trans e1
  have hKn' := hKn
  obtain ⟨hS, hfc, kC, hkC, hkind⟩ := hKn
  obtain ⟨cf, kf, fi, ff, hi, hsl⟩ := hS f e2
  obtain ⟨hw0, hnm, hty⟩ := cl_facts e1
  dsimp only at hw0 hnm hty
  have hts : ∀ w ∈ u_ws R T N, w.before args s = true := fun w hw => hK.1 w (hw0 w hw).1 (hw0 w hw).2 args
  have hin : ∀ w ∈ u_ws R T N, w ∈ u_ws R T N := fun w h => h
  have hlink := hK.1 _ (List.mem_of_getElem? e3) rfl args
  have hap := va_apart (own := R) hts hin (tyOf ci) hty hnm hK.2.2.1 e1
  have hst := (u_facts hfc hkC (u_lays hts hin e2) hi).1
  have fin : ∀ H' : Heap, H'[gz Γ + o]? = some (cell.setSlot ff.slot (cv Γ v)) → H'.size = H.size → (∀ q, q ≠ gz Γ + o → H'[q]? = H[q]?) → HR Γ σ' w' H' := by
    intro H' q1 q2 q3
    rw [hsl] at q1
    refine hH.at_one hw ho.1 q2 q3 ?_ hf
    rw [atC_o (by rw [ho.2]; exact hlt), ho.2]
    have hn1 : (kd o).2 = N := hn0.symm
    rw [hn1]
    exact ⟨_, q1, g2, g3, putV (o := o) g4 hap e2 _ (fun j hj => hv j)⟩
  have hlo' : ∀ x : Nat, lcs Γ (locs ++ [⟨gz Γ + o, x⟩]) := by
    intro x q hq
    rcases List.mem_append.mp hq with h | h
    · exact hlo q h
    · rw [List.mem_singleton.mp h]
      exact Nat.le_add_right _ _
  have hlay := hts _ (hin _ (u_in_lay e2))
  unfold u_lay at hlay
  by_cases hf2 : kn = 2
  · rw [if_pos (e6.mpr hf2)] at hlay
    have hcls : (mN μ).cls = R := by
      have := (hfin hf2).2
      rw [e1] at this
      exact (Option.some.inj this).symm
    have hcf : m.cls = cf := by
      obtain ⟨_, _, c', _, _, _, -, -, hf', -, -, -, hown2, -⟩ := Cond.laysFinal_spec hlay
      have e9 : c' = cf := by have := hi.symm.trans hf'; simp at this; exact this.1.symm
      rw [e4] at hown2
      rw [hcls] at hown
      rw [← e9]; exact Option.some.inj (hown.symm.trans hown2)
    have h6 := u_fits hfc hkC hkind (Or.inr hlay) hi (hty f e2) hn hft
    exact W.putFinK hx hb hown hlink (by rw [← e4]; exact hi) hst hcf (by rw [hname]; exact (hfin hf2).1) (by rw [g2]; exact h6) g1 g3 (by rw [hsl]; exact k2_hasslot (g4 f e2)) rfl rfl hd fun H' q1 q2 q3 => kk H' _ (fin H' q1 q2 q3) (hlo' _)
  · rw [if_neg (by rw [e6]; exact hf2)] at hlay
    have h6 := u_store hfc hkC hkind hlay hi (hty f e2) hn hft
    exact W.putK hx hb (f := ff) ⟨hown, hlink, ⟨_, _, _, by rw [← e4]; exact hi⟩, hst⟩ (by rw [g2]; exact h6) g1 g3 (by rw [hsl]; exact k2_hasslot (g4 f e2)) rfl rfl hd fun H' q1 q2 q3 => kk H' _ (fin H' q1 q2 q3) (hlo' _)
end Heap
