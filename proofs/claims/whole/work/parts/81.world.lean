/-! what a world need not say -/
theorem arrV_cg {c : ClassId} {N : Nat} {f g : Nat → Value} (h : ∀ j, j < N → f j = g j) : arrV c N f = arrV c N g := by
  unfold arrV
  congr 2
  funext j
  exact h j.val j.isLt
/-- the references that are final -/
def fnK (i k : Nat) : Bool := (decide ((kd i).1 < 20) && fk (kd i).1 k == 2) || (decide (24 ≤ (kd i).1) && decide (k < (kd i).2))
def WdE (w w' : Wd) : Prop := w'.1 = w.1 ∧ ∀ i k, i < w.1 → fnK i k = true → w'.2 i k = w.2 i k
theorem HR.wd {Γ : Gx} {σ : St} {w w' : Wd} {H : Heap} (h : HR Γ σ w H) (e : WdE w w') : HR Γ σ w' H := by
  obtain ⟨h1, h2, h3⟩ := h
  obtain ⟨e1, e2⟩ := e
  refine ⟨by rw [h1, e1], h2, fun i hi => ?_⟩
  rw [e1] at hi
  have hq := h3 i hi
  refine ⟨fun q => ?_, fun q => ?_⟩
  · have := hq.1 q
    have ef : fv Γ σ w'.2 (kd i).1 i = fv Γ σ w.2 (kd i).1 i := by
      funext k
      unfold fv
      split <;> try rfl
      rename_i z
      rw [e2 i k hi (by unfold fnK; rw [decide_eq_true q, z]; rfl)]
    rw [ef]
    exact this
  · rw [hq.2 q]
    congr 1
    refine arrV_cg (fun j hj => ?_)
    unfold av
    split <;> try rfl
    split <;> try rfl
    rename_i z1 z2
    rw [e2 i j hi (by unfold fnK; rw [decide_eq_true (show 24 ≤ (kd i).1 by omega), decide_eq_true hj]; simp)]
theorem AW.wd {Γ : Gx} {d : Nat} {μ : MD} {Q : Option Value → St → Wd → Prop} {pc : Nat} {L : Lv} {S : List Value} {σ : St} {w w' : Wd} {cc zz : Nat} (e : WdE w w') (h : AW Γ d μ Q pc L S σ w' cc zz) : AW Γ d μ Q pc L S σ w cc zz :=
  fun p l en s m args below meth c Z hF hR H locs ls hH => h p l en s m args below meth c Z hF hR H locs ls (hH.wd e)
theorem AW.zz {Γ : Gx} {d : Nat} {μ : MD} {Q : Option Value → St → Wd → Prop} {pc : Nat} {L : Lv} {S : List Value} {σ : St} {w : Wd} {cc zz N : Nat} (e : zz = N) (h : AW Γ d μ Q pc L S σ w cc N) : AW Γ d μ Q pc L S σ w cc zz := e ▸ h
theorem AW.fw {Γ : Gx} {d : Nat} {μ : MD} {Q : Option Value → St → Wd → Prop} {pc : Nat} {L : Lv} {S : List Value} {σ : St} {w w' : Wd} {cc zz : Nat} (e : w' = w) (h : AW Γ d μ Q pc L S σ w cc zz) : AW Γ d μ Q pc L S σ w' cc zz := e ▸ h
