/-! the state at the start: the class -/
section STC
variable {σ s : St} {w : Wd} {o : Nat} {S : Nat → Nat → Bool}
theorem sX5_f (hS : ∀ a k, w.1 ≤ a → S a k = true) : Fr S σ (sX5 σ w o) := by
  have z : ∀ {s : St} (j : Nat), Fr S s (zS s (w.1 + j)) := fun j => fr_Z (fun k => hS _ k (by omega))
  unfold sX5 sX2
  exact (((((z 0).tr (z 1)).tr (z 2)).tr (z 3)).tr (z 4)).tr (z 5)
theorem sX6_f (hS : ∀ a k, w.1 ≤ a → S a k = true) (ho : S o 1 = true) : Fr S σ (sX6 σ w o) := by
  have z : ∀ {s : St} (j : Nat), Fr S s (zS s (w.1 + j)) := fun j => fr_Z (fun k => hS _ k (by omega))
  unfold sX6
  refine Fr.tr ?_ (fr_I ho)
  refine Fr.tr ?_ (sX5_f (fun a k (q : w.1 + 16 ≤ a) => hS a k (by omega)))
  refine Fr.tr ?_ (z 15)
  refine Fr.tr ?_ (sX5_f (fun a k (q : w.1 + 9 ≤ a) => hS a k (by omega)))
  refine Fr.tr ?_ (z 8)
  refine Fr.tr ?_ (sX5_f (fun a k (q : w.1 + 2 ≤ a) => hS a k (by omega)))
  exact (z 0).tr (z 1)
theorem a8_fr : Fr (fun a k => decide (315 ≤ a) || (a == 0 && k == 2)) s (a8 s) := by
  have hS : ∀ a k, 315 ≤ a → (fun (a k : Nat) => decide (315 ≤ a) || (a == 0 && k == 2)) a k = true := fun a k q => by simp [q]
  have z : ∀ {s : St} (j : Nat), 315 ≤ j → Fr (fun (a k : Nat) => decide (315 ≤ a) || (a == 0 && k == 2)) s (zS s j) := fun j q => fr_Z (fun k => hS _ k q)
  have y : ∀ {s : St} {w : Wd} {o : Nat}, 315 ≤ w.1 → 315 ≤ o → Fr (fun (a k : Nat) => decide (315 ≤ a) || (a == 0 && k == 2)) s (sX6 s w o) := fun q1 q2 => sX6_f (fun a k q => hS a k (by omega)) (hS _ _ q2)
  unfold a8 a7 a6 a5 a4 sX1 sX9
  refine Fr.tr ?_ (y (by rw [w07_z]; decide) (by decide))
  refine Fr.tr ?_ (z 367 (by decide))
  refine Fr.tr ?_ (y (by rw [w06_z]; decide) (by decide))
  refine Fr.tr ?_ (z 344 (by decide))
  refine Fr.tr ?_ (z 343 (by decide))
  refine Fr.tr ?_ (y (by rw [w05_z]; decide) (by decide))
  refine Fr.tr ?_ (z 320 (by decide))
  refine Fr.tr ?_ (z _ (by rw [w04_z]; decide))
  refine Fr.tr ?_ (z _ (by rw [w04_z]; decide))
  refine Fr.tr ?_ (z 317 (by decide))
  refine Fr.tr ?_ (z _ (by rw [w03_z]; decide))
  refine Fr.tr ?_ (z 315 (by decide))
  exact fr_R (by simp)
theorem a8_02 : gR (a8 s) 0 2 = some 159 := by
  have hS : ∀ a k, 315 ≤ a → (fun (a _k : Nat) => decide (315 ≤ a)) a k = true := fun a k q => by simp [q]
  have z : ∀ {s : St} (j : Nat), 315 ≤ j → gR (zS s j) 0 2 = gR s 0 2 := fun j q => by rw [gR_zS, if_neg (by omega)]
  have y : ∀ {s : St} {w : Wd} {o : Nat}, 315 ≤ w.1 → 315 ≤ o → gR (sX6 s w o) 0 2 = gR s 0 2 := fun q1 q2 => (sX6_f (S := fun (a _k : Nat) => decide (315 ≤ a)) (fun a k q => hS a k (by omega)) (hS _ 0 q2)).2.2 0 2 (by decide)
  unfold a8 a7 a6 a5 a4 sX1 sX9
  rw [y (by rw [w07_z]; decide) (by decide), z 367 (by decide), y (by rw [w06_z]; decide) (by decide), z 344 (by decide), z 343 (by decide), y (by rw [w05_z]; decide) (by decide), z 320 (by decide), z _ (by rw [w04_z]; decide), z _ (by rw [w04_z]; decide), z 317 (by decide), z _ (by rw [w03_z]; decide), z 315 (by decide), gR_uR, if_pos ⟨rfl, rfl⟩]
/-- pupils who have done nothing -/
def κ0 : KV := fun t _ => if t < 4 then 0 else 3
def zeroP (π : PV) : Prop := π 0 0 0 = 0 ∧ π 0 1 0 = 0 ∧ π 0 2 0 = 0 ∧ π 0 3 0 = 0
theorem zeroP.wf {π : PV} (h : zeroP π) : DOK π := by
  obtain ⟨h1, h2, h3, h4⟩ := h
  have e1 : nS π = 0 := by unfold nS; rw [h1]; rfl
  have e2 : nW π = 0 := by unfold nW; rw [h2]; rfl
  have e3 : nL π = 0 := by unfold nL; rw [h3]; rfl
  have e4 : nP π = 0 := by unfold nP; rw [h4]; rfl
  refine ⟨⟨⟨⟨by rw [h1, e1]; rfl, by omega⟩, ⟨by rw [h2, e2]; rfl, by omega⟩, ⟨by rw [h3, e3]; rfl, by omega⟩, by rw [h4, e4]; rfl, by omega⟩, fun k hk => by omega, fun k hk => by omega, fun k hk => by omega, fun k hk => by omega⟩, fun v v' hv => by omega⟩
theorem start_C {π : PV} {s1 s2 : St} (hπ : zeroP π) (f1 : Fr (scO 22) (mkP 3 (zS (a1 (zS σ 0)) 3) (zW w01)).1 s1) (n1 : ∀ a, a < 128 → gI s1 22 a = -1) (f2 : Fr (scO 178) (mkP 159 (zS (uR s1 0 1 (some 3)) 159) (zW w02)).1 s2) :
    (gR (a8 s2) 0 1 = some 3 ∧ gR (a8 s2) 0 2 = some 159 ∧ gR (a8 s2) 0 8 = none) ∧ (gI (a8 s2) 0 7 = 0 ∧ gI (a8 s2) 1 1 = 0 ∧ gI (a8 s2) 1 7 = -1) ∧ CP (a8 s2) 3 π ∧ KR (a8 s2) 320 κ0 := by
  have w1 : (zW w01).1 = 4 := by decide +kernel
  have w2 : (zW w02).1 = 160 := by decide +kernel
  have F1 := (mkP_f (o := 3) (σ := zS (a1 (zS σ 0)) 3) (w := zW w01) (S := fun a _ => decide (4 ≤ a)) (fun a k q => by rw [w1] at q; simp [q])).tr (f1.mono (S' := fun a _ => decide (4 ≤ a)) (fun a k q => by unfold scO at q; rw [beq_iff_eq] at q; rw [q]; decide))
  have F2 := (mkP_f (o := 159) (σ := zS (uR s1 0 1 (some 3)) 159) (w := zW w02) (S := fun a _ => decide (159 ≤ a)) (fun a k q => by rw [w2] at q; simp; omega)).tr (f2.mono (S' := fun a _ => decide (159 ≤ a)) (fun a k q => by unfold scO at q; rw [beq_iff_eq] at q; rw [q]; decide))
  have i2 : ∀ a k, a < 159 → gI s2 a k = gI s1 a k := fun a k q => by
    rw [F2.1 a k (by simp; omega), gI_zS, if_neg (by omega), gI_uR]
  have i1 : ∀ a k, a < 4 → gI s1 a k = gI (zS (a1 (zS σ 0)) 3) a k := fun a k q => F1.1 a k (by simp; omega)
  have i8 : ∀ a k, a < 159 → gI (a8 s2) a k = gI s1 a k := fun a k q => by
    rw [a8_g (by omega), if_neg (by omega), if_neg (by omega), a5_g (by omega), i2 a k q]
  have r2 : ∀ k, k ≠ 2 → gR (a8 s2) 0 k = gR (uR s1 0 1 (some 3)) 0 k := fun k hk => by
    rw [a8_fr.2.2 0 k (by simp [hk]), F2.2.2 0 k (by simp), gR_zS, if_neg (by decide)]
  have r01 : gR (a8 s2) 0 1 = some 3 := by rw [r2 1 (by decide), gR_uR, if_pos ⟨rfl, rfl⟩]
  obtain ⟨h1, h2, h3, h4⟩ := hπ
  have e1 : nS π = 0 := by unfold nS; rw [h1]; rfl
  have e2 : nW π = 0 := by unfold nW; rw [h2]; rfl
  have e3 : nL π = 0 := by unfold nL; rw [h3]; rfl
  have e4 : nP π = 0 := by unfold nP; rw [h4]; rfl
  have z3 : ∀ k, gI (a8 s2) 3 k = 0 := fun k => by rw [i8 3 k (by decide), i1 3 k (by decide), gI_zS, if_pos rfl]
  have zs : ∀ a k, 320 ≤ a → a < 343 → ¬ (a = 320 ∧ k = 1) → gI (a8 s2) a k = 0 := fun a k q1 q2 q3 => by rw [a8_g q2, if_neg q3, if_pos q1]
  refine ⟨⟨r01, a8_02, ?_⟩, ⟨?_, ?_, ?_⟩, ⟨r01, Or.inl rfl, ?_, fun v hv => by omega, fun a ha => ?_⟩, ?_⟩
  · rw [r2 8 (by decide), gR_uR, if_neg (by decide), F1.2.2 0 8 (by decide)]
    rfl
  · rw [i8 0 7 (by decide), i1 0 7 (by decide)]; rfl
  · rw [i8 1 1 (by decide), i1 1 1 (by decide)]; rfl
  · rw [i8 1 7 (by decide), i1 1 7 (by decide)]; rfl
  · exact ⟨⟨(z3 1).trans h1.symm, (z3 3).trans h2.symm, (z3 7).trans h3.symm, (z3 11).trans h4.symm⟩, fun k hk => by omega, fun k hk => by omega, fun k hk => by omega, fun k hk => by omega⟩
  · rw [e3] at ha
    left
    show gI (a8 s2) 22 a = -1
    rw [i8 22 a (by decide)]
    have ha' : a < 1 := ha
    exact n1 a (by omega)
  · refine ⟨fun q hq => ⟨zs _ _ (by omega) (by omega) (by omega), zs _ _ (by omega) (by omega) (by omega), fun k hk => ⟨zs _ _ (by omega) (by omega) (by omega), zs _ _ (by omega) (by omega) (by omega)⟩, fun k hk => ⟨zs _ _ (by omega) (by omega) (by omega), zs _ _ (by omega) (by omega) (by omega)⟩⟩, ?_⟩
    rw [a8_g (by decide), if_pos ⟨rfl, rfl⟩]
    rfl
end STC
