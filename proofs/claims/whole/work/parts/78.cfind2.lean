/-! the class: a course is looked for -/
section CF2
variable {Γ : Gx} {d : Nat} {w : Wd} {P : Nat} {π : PV} {p u : Nat}
theorem kn_0 (hF : WF π) : kn π 0 = readS π (nI 0) := by
  have e : metS π (nI (0 / 128)) = 0 := b_ext fun b hb => by
    rw [b_0]
    cases h : bt (metS π (nI (0 / 128))) b with
    | false => rfl
    | true =>
      obtain ⟨q, -, h2, -⟩ := (bt_met hF).mp h
      rw [show 0 / 128 = 0 from rfl, Nat.zero_testBit] at h2
      cases h2
  unfold kn
  rw [e]
  show 0 ||| readS π (nI 0) = _
  rw [Int32.or_comm, b_or0]
theorem upN_0 : upN (fun _ => 0) 0 0 = fun _ => 0 := by
  funext j
  unfold upN
  split <;> rfl
theorem c_find {Q : St → Prop} {σ : St} (hwc : RunC w) (hP : isP P) (hF : WF π) (hp : p < nP π) (hu : u < 17) (hT : TP σ P π) (hK : gI σ 425 5 = nI p → gI σ 425 6 = nI u → ResC σ π p u) (hQ : ∀ σ', Fr (scCo P) σ σ' → TP σ' P π → gI σ' 425 5 = nI p → gI σ' 425 6 = nI u → ResC σ' π p u → Q σ') : SpV Γ (d + 5) mX0_find [.ref 425, .ref P, .int (nI p), .int (nI u)] σ w Q := by
  have hw := hwc.run
  have hlt := P_lt hP
  have h8 := hF.1.2.2.2.2
  have h0 : 0 < 128 * 2 ^ nP π := Nat.mul_pos (by decide) (Nat.pow_pos (by decide))
  have w9 : ∀ {s s' : St}, Fr (fun o k => (o == 425 && k == 9) || o == 429) s s' → Fr (fun (o _k : Nat) => decide (425 ≤ o)) s s' := fun h => h.mono scW9
  -- the end
  have fin : ∀ (σ' : St) (f r : Nat → Nat) (c : Nat), Fr (scCo P) σ σ' → TP σ' P π → CS σ' P p u f r c → c ≤ 16384 → ((gI σ' 425 7 = -1 ∧ ¬ dst π p u 0 < 1000) ∨ ∃ g, gI σ' 425 7 = nI g ∧ CH π p u f r c g) → SpV Γ (d + 4) mX0_writeSteps [.ref 425] σ' w (fun s => Q s) := by
    intro σ' f r c q1 q2 q3 q4 q5
    refine c_write hwc hF hp q3 q4 q5 fun s y1 y2 => hQ s (q1.tr ((w9 y1).mono big_Co)) (q2.co hP hF (w9 y1)) ?_ ?_ y2
    · rw [y1.1 425 5 (by decide)]; exact q3.2.1
    · rw [y1.1 425 6 (by decide)]; exact q3.2.2.1
  have lp : ∀ n i (f r : Nat → Nat) c σ', i + n = 16384 → Fr (scCo P) σ σ' → TP σ' P π → CS σ' P p u f r c → c ≤ 16384 → ((gI σ' 425 7 = -1 ∧ (i < c → BI π p u f r c i 0) ∧ (c ≤ i → ¬ dst π p u 0 < 1000)) ∨ ∃ g, gI σ' 425 7 = nI g ∧ CH π p u f r c g) → AV Γ (d + 5) mX0_find w Q 67 [(0, .ref 425), (4, .int (nI i))] σ' := by
    intro n
    induction n with
    | zero =>
      intro i f r c σ' hi q1 q2 q3 q4 q5
      have : i = 16384 := hi
      subst this
      refine vX0_find_67 hwc ⟨fun _ => fin σ' f r c q1 q2 q3 q4 ?_, fun z => absurd (by decide : (16384 : Int32) ≤ nI 16384) z⟩
      rcases q5 with ⟨a, -, b⟩ | h
      · exact Or.inl ⟨a, b q4⟩
      · exact Or.inr h
    | succ n ih =>
      intro i f r c σ' hi q1 q2 q3 q4 q5
      have li : (16384 : Int32) ≤ nI i ↔ 16384 ≤ i := nI_leI (a := 16384) (by decide) (by omega)
      refine vX0_find_67 hwc ?_
      rw [li, q3.2.2.2.1, nI_leI (show c < 2 ^ 31 by omega) (show i < 2 ^ 31 by omega)]
      refine ⟨fun z => by omega, fun _ => ⟨fun z => fin σ' f r c q1 q2 q3 q4 ?_, fun z => ⟨fun z2 => fin σ' f r c q1 q2 q3 q4 ?_, fun z2 => ?_⟩⟩⟩
      · rcases q5 with ⟨a, -, b⟩ | h
        · exact Or.inl ⟨a, b z⟩
        · exact Or.inr h
      · rcases q5 with ⟨a, -⟩ | h
        · exact absurd a z2
        · exact Or.inr h
      · rcases q5 with ⟨a, b, -⟩ | ⟨g, hg, hch⟩
        · refine c_goOn hwc hP hF hp hu q2 q3 a (b (by omega)) fun s y1 y2 => ?_
          obtain ⟨f2, r2, c2, z1, z3, z4, z5⟩ := y2
          rw [show nI i + 1 = nI (i + 1) from nI_add i 1]
          refine ih (i + 1) f2 r2 c2 s (by omega) (q1.tr y1) z1 z3 z4 ?_
          rcases z5 with ⟨z5, z6⟩ | z5
          · exact Or.inl ⟨z5, fun z7 => z6.next z7, fun z7 => z6.nix hF hp z7⟩
          · exact Or.inr z5
        · have hgc : g < c := hch.2.2.1
          rw [hg] at z2
          exact absurd z2 (nI_ne_m1 (by omega))
  -- anew
  have anew : ∀ X : St, X = (uI (uI (uI (uI (uR σ 425 4 (some P)) 425 5 (nI p)) 425 6 (nI u)) 425 3 0) 425 7 (-1)) → SpV Γ (d + 4) mJ7_fill_d0a16 [.ref 428, .long (0 : Int64)] X w (fun s1 => ((∀ r2, (gR s1 425 4) = some r2 → (okO w r2 4) ∧ SpI Γ (d + 4) mX4_readBy [.ref r2, .int 0] s1 w (fun v4 s3 => SpV Γ (d + 4) mX0_arrive [.ref 425, .int 0, .int (-1), .int v4] s3 w (fun s5 => AV Γ (d + 5) mX0_find w Q 67 [(0, .ref 425), (4, .int 0)] s5))) ∧ ((gR s1 425 4) = none → False))) := by
    intro X hX
    have fX : Fr (fun o _ => decide (425 ≤ o)) σ X := by
      rw [hX]
      exact ((((fr_R (by decide)).tr (fr_I (by decide))).tr (fr_I (by decide))).tr (fr_I (by decide))).tr (fr_I (by decide))
    refine c_fillJ (n := 512) (okC hwc (by decide) (by rw [kd428])) (by rw [kd428]) (by decide) fun s1 y1 y2 => ?_
    have f1 : Fr (fun (o _k : Nat) => decide (425 ≤ o)) σ s1 := fX.tr (y1.mono (fun o k q => by unfold scO at q; rw [beq_iff_eq] at q; rw [q]; decide))
    have T1 := hT.co hP hF f1
    have g25 : ∀ k, gI s1 425 k = gI X 425 k := fun k => y1.1 425 k (by simp [scO])
    have CS1 : CS s1 P p u (fun _ => 0) (fun _ => 0) 0 := by
      refine ⟨?_, ?_, ?_, ?_, fun s hs => ?_, fun j hj => absurd hj (Nat.not_lt_zero j), fun j hj => absurd hj (Nat.not_lt_zero j)⟩
      · rw [y1.2.2 425 4 (by simp [scO]), hX]
        rw [gR_uI, gR_uI, gR_uI, gR_uI, gR_uR, if_pos ⟨rfl, rfl⟩]
      · rw [g25, hX, gI_uI, if_neg (by decide), gI_uI, if_neg (by decide), gI_uI, if_neg (by decide), gI_uI, if_pos ⟨rfl, rfl⟩]
      · rw [g25, hX, gI_uI, if_neg (by decide), gI_uI, if_neg (by decide), gI_uI, if_pos ⟨rfl, rfl⟩]
      · rw [g25, hX, gI_uI, if_neg (by decide), gI_uI, if_pos ⟨rfl, rfl⟩]; rfl
      · rw [y2 (s / 64) (by omega), b64_0]
        constructor
        · intro q; cases q
        · rintro ⟨j, q, -⟩; omega
    have l7 : gI s1 425 7 = -1 := by rw [g25, hX, gI_uI, if_pos ⟨rfl, rfl⟩]
    refine tdR425 CS1.1 ⟨prO hw hP, c_readBy (a := 0) hw hP T1.1 T1.2.1 hF T1.2.2 (Nat.pow_pos (by decide)) fun s3 x1 x2 => ?_⟩
    have hf0 : ∀ o k, 425 ≤ o → scV P o k = false := fun o k h => by unfold scV; simp; omega
    rw [← kn_0 hF]
    refine c_arrive (t := 0) (f := fun _ => 0) (r := fun _ => 0) (r' := fun _ => 0) (c := 0) hwc hP hF hp hu (by decide) (by decide) (fun j hj => absurd hj (Nat.not_lt_zero j)) (T1.v hF x1 x2) (CS1.fr hf0 x1) fun s5 z1 z2 z3 z4 => ?_
    rw [upN_0] at z3
    have hfa : Fr (scCo P) σ s5 := (f1.mono big_Co).tr ((x1.mono scV_Co).tr (z1.mono big_Co))
    refine lp 16384 0 (fun _ => 0) (fun _ => 0) 1 s5 (by decide) hfa z2 z3 (by decide) ?_
    have hst := stP_kn (π := π) (u := u) (s := 0) (q := p) (by omega) (Nat.zero_testBit _)
    by_cases z : unkS π p (kn π 0) ≤ u
    · rw [if_pos z] at z4 hst
      exact Or.inr ⟨0, z4, CH.start hF hp hst⟩
    · rw [if_neg z] at z4 hst
      refine Or.inl ⟨z4.trans ((x1.1 425 7 (hf0 _ _ (by decide))).trans l7), fun _ => BI.start hF hp hst, fun q => by omega⟩
  refine SpV.of pnX0' (Nat.le_of_ble_eq_true rfl) (vX0_find_0 hwc ⟨fun _ => anew _ rfl, fun q => ⟨fun _ => anew _ rfl, fun q2 => ?_⟩⟩)
  exact hQ σ (Fr.rf σ) hT q.symm q2.symm (hK q.symm q2.symm)
end CF2
