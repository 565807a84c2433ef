/-! contracts: weaker ends; the world once all is made -/
section Mono
variable {Γ : Gx} {d : Nat} {μ : MD} {A : List Value} {σ : St} {w : Wd}
theorem Sp.mono {Q Q' : Option Value → St → Wd → Prop} (h : Sp Γ d μ A σ w Q) (hq : ∀ v σ' w', Q v σ' w' → Q' v σ' w') : Sp Γ d μ A σ w Q' := by
  intro p e h1 h2 h3 s m args below h4 h5 h6 h7
  obtain ⟨n, o, g1, g2, g3, ⟨v, σ', w', e1, e2, e3⟩, g4⟩ := h p e h1 h2 h3 s m args below h4 h5 h6 h7
  exact ⟨n, o, g1, g2, g3, ⟨v, σ', w', e1, e2, hq _ _ _ e3⟩, g4⟩
theorem SpI.mono {Q Q' : Int32 → St → Prop} (h : SpI Γ d μ A σ w Q) (hq : ∀ x σ', Q x σ' → Q' x σ') : SpI Γ d μ A σ w Q' := Sp.mono h (fun _ _ _ ⟨a, x, b, c⟩ => ⟨a, x, b, hq _ _ c⟩)
theorem SpJ.mono {Q Q' : Int64 → St → Prop} (h : SpJ Γ d μ A σ w Q) (hq : ∀ x σ', Q x σ' → Q' x σ') : SpJ Γ d μ A σ w Q' := Sp.mono h (fun _ _ _ ⟨a, x, b, c⟩ => ⟨a, x, b, hq _ _ c⟩)
theorem SpV.mono {Q Q' : St → Prop} (h : SpV Γ d μ A σ w Q) (hq : ∀ σ', Q σ' → Q' σ') : SpV Γ d μ A σ w Q' := Sp.mono h (fun _ _ _ ⟨a, b, c⟩ => ⟨a, b, hq _ c⟩)
theorem SpC.mono {Q Q' : St → Wd → Prop} (h : SpC Γ d μ A σ w Q) (hq : ∀ σ' w', Q σ' w' → Q' σ' w') : SpC Γ d μ A σ w Q' := Sp.mono h (fun _ _ _ ⟨a, c⟩ => ⟨a, hq _ _ c⟩)
theorem SpN.mono {Q Q' : Int32 → St → Wd → Prop} (h : SpN Γ d μ A σ w Q) (hq : ∀ x σ' w', Q x σ' w' → Q' x σ' w') : SpN Γ d μ A σ w Q' := Sp.mono h (fun _ _ _ ⟨x, a, c⟩ => ⟨x, a, hq _ _ _ c⟩)
end Mono
/-- the ends of methods that make no cell -/
def qI (w : Wd) (Q : Int32 → St → Prop) : Option Value → St → Wd → Prop := fun v σ' w' => w' = w ∧ ∃ x, v = some (.int x) ∧ Q x σ'
def qJ (w : Wd) (Q : Int64 → St → Prop) : Option Value → St → Wd → Prop := fun v σ' w' => w' = w ∧ ∃ x, v = some (.long x) ∧ Q x σ'
def qV (w : Wd) (Q : St → Prop) : Option Value → St → Wd → Prop := fun v σ' w' => w' = w ∧ v = none ∧ Q σ'
def qC (Q : St → Wd → Prop) : Option Value → St → Wd → Prop := fun v σ' w' => v = none ∧ Q σ' w'
def qN (Q : Int32 → St → Wd → Prop) : Option Value → St → Wd → Prop := fun v σ' w' => ∃ x, v = some (.int x) ∧ Q x σ' w'
/-- a frame with an empty stack, in a method that makes no cell -/
def AI (Γ : Gx) (d : Nat) (μ : MD) (w : Wd) (Q : Int32 → St → Prop) (pc : Nat) (L : Lv) (σ : St) : Prop := AW Γ d μ (qI w Q) pc L [] σ w 0 0
def AJ (Γ : Gx) (d : Nat) (μ : MD) (w : Wd) (Q : Int64 → St → Prop) (pc : Nat) (L : Lv) (σ : St) : Prop := AW Γ d μ (qJ w Q) pc L [] σ w 0 0
def AV (Γ : Gx) (d : Nat) (μ : MD) (w : Wd) (Q : St → Prop) (pc : Nat) (L : Lv) (σ : St) : Prop := AW Γ d μ (qV w Q) pc L [] σ w 0 0
section Of
variable {Γ : Gx} {d : Nat} {μ : MD} {A : List Value} {σ : St} {w : Wd}
theorem SpI.of {Q : Int32 → St → Prop} (hn : plainName (mN μ).cls = true) (hA : catS A ≤ mL μ) (h : AI Γ d μ w Q 0 (lv_args 0 A) σ) : SpI Γ d μ A σ w Q := Sp.of hn hA h
theorem SpJ.of {Q : Int64 → St → Prop} (hn : plainName (mN μ).cls = true) (hA : catS A ≤ mL μ) (h : AJ Γ d μ w Q 0 (lv_args 0 A) σ) : SpJ Γ d μ A σ w Q := Sp.of hn hA h
theorem SpV.of {Q : St → Prop} (hn : plainName (mN μ).cls = true) (hA : catS A ≤ mL μ) (h : AV Γ d μ w Q 0 (lv_args 0 A) σ) : SpV Γ d μ A σ w Q := Sp.of hn hA h
end Of
theorem mR1 {X : Nat → Prop} {a : Option Nat} {P : Nat} (h : a = some P) (k : X P) : ∀ r, a = some r → X r := fun r q => by rw [h] at q; cases q; exact k
theorem mR2 {X : Prop} {a : Option Nat} {P : Nat} (h : a = some P) : a = none → X := fun q => by rw [h] at q; cases q
theorem nb01 {x : Int32} (h : x = 0 ∨ x = 1) : narrow .boolean (.int x) = .int x := by
  rcases h with rfl | rfl <;> decide
theorem nb0 : narrow .boolean (.int 0) = .int 0 := by decide
theorem nb1 : narrow .boolean (.int 1) = .int 1 := by decide
/-- the world once the class, the reference are made (the course's cells may come later) -/
def rfS : Nat → Nat → Option Nat := fun o k => some (rf o k)
def RunW (w : Wd) : Prop := 425 ≤ w.1 ∧ w.2 = rfS
theorem okL {w : Wd} {o c : Nat} (hw : RunW w) (h1 : o < 425) (h2 : (kd o).1 = c) : okO w o c := ⟨Nat.lt_of_lt_of_le h1 hw.1, h2⟩
theorem rfL_ {w : Wd} {o k r : Nat} (hw : RunW w) (h : rf o k = r) : w.2 o k = some r := by rw [hw.2, ← h]; rfl
theorem viL {j : Int32} {a n : Nat} (h : (kd a).2 = n) (hj : vp_in j n) : vp_in j (kd a).2 := by rw [h]; exact hj
/-- the world with the course's cells -/
def RunC (w : Wd) : Prop := 430 ≤ w.1 ∧ w.2 = rfS
theorem RunC.run {w : Wd} (h : RunC w) : RunW w := ⟨Nat.le_trans (by decide) h.1, h.2⟩
theorem okC {w : Wd} {o c : Nat} (hw : RunC w) (h1 : o < 430) (h2 : (kd o).1 = c) : okO w o c := ⟨Nat.lt_of_lt_of_le h1 hw.1, h2⟩
