/-! the class: its text -/
def sx (x : Int32) : Int32 := x.toInt8.toInt32
theorem sx_f : ∀ b, b < 256 → ((sx (nI b) = 32 ↔ b = 32) ∧ ((if sx (nI b) < 97 then false else if 122 < sx (nI b) then false else true) = zL b) ∧ ((if sx (nI b) < 48 then false else if 57 < sx (nI b) then false else true) = zD b) ∧ sx (nI b) &&& 255 = nI b) := by decide +kernel
theorem sx_lo : ∀ b, b < 128 → sx (nI b) = nI b := by decide +kernel
theorem sx_eq : ∀ c, c < 128 → ∀ b, b < 256 → (sx (nI b) = nI c ↔ b = c) := by decide +kernel
def TC (σ : St) (t : Tx) : Prop := gI σ 1 1 = nI t.1 ∧ ∀ i, i < t.1 → gI σ 2 i = sx (nI (t.2 i))
def TxC (σ : St) (tx : List Int32) : Prop := gI σ 1 1 = nI tx.length ∧ tx.length ≤ 600 ∧ ∀ i, i < tx.length → gI σ 2 i = sx (tx.getD i 0)
theorem TxC.tc {σ : St} {tx : List Int32} (h : TxC σ tx) (hb : TxB tx) : TC σ (txt tx) := by
  refine ⟨h.1, fun i hi => ?_⟩
  have hi' : i < tx.length := hi
  rw [h.2.2 i hi']
  obtain ⟨b, hb', e⟩ := hb.2 _ (getD_mem (d := 0) hi')
  show _ = sx (nI (tx.getD i 0).toNatClampNeg)
  rw [e, cl (by omega)]
theorem pnX3 : plainName RX3 = true := by decide +kernel
theorem kd2 : kd 2 = (22, 600) := by decide +kernel
theorem sh_u (n : Nat) (hn : n < 8) : (((8 : Int32) * nI n).toInt64.toUInt64 &&& Int64.toUInt64 63).toBitVec.toNat % 64 = 8 * n ∧ ((((8 : Int32) * nI n).toInt64 &&& (63 : Int64)).toBitVec.smod 64).toNat = 8 * n := by
  revert n
  decide +kernel
theorem feed_b {y : Int64} {n : Nat} (hn : n < 8) : ((((y.toUInt64 >>> (((8 : Int32) * nI n).toInt64.toUInt64 &&& Int64.toUInt64 63)).toInt64).toInt32).toInt8.toInt32) = sx (fbM y n) := by
  unfold sx fbM
  congr 1
  apply Int8.toBitVec_inj.mp
  refine BitVec.eq_of_getLsbD_eq fun j hj => ?_
  obtain ⟨h1, h2⟩ := sh_u n hn
  rw [Int32.toBitVec_toInt8, Int32.toBitVec_toInt8, Int64.toBitVec_toInt32, Int64.toBitVec_toInt32, BitVec.getLsbD_signExtend, BitVec.getLsbD_signExtend, BitVec.getLsbD_signExtend, BitVec.getLsbD_signExtend]
  have c1 : j < 64 := by omega
  have c2 : j < 32 := by omega
  simp only [hj, c1, c2, decide_true, Bool.true_and, if_true]
  rw [Int64.toBitVec_and, BitVec.getLsbD_and]
  have e1 : (y.toUInt64 >>> (((8 : Int32) * nI n).toInt64.toUInt64 &&& Int64.toUInt64 63)).toInt64.toBitVec.getLsbD j = y.toBitVec.getLsbD (8 * n + j) := by
    show (y.toUInt64 >>> (((8 : Int32) * nI n).toInt64.toUInt64 &&& Int64.toUInt64 63)).toBitVec.getLsbD j = _
    rw [UInt64.toBitVec_shiftRight]
    show (y.toBitVec >>> ((((8 : Int32) * nI n).toInt64.toUInt64 &&& Int64.toUInt64 63).toBitVec % 64).toNat).getLsbD j = _
    rw [BitVec.toNat_umod, show (64 : BitVec 64).toNat = 64 from rfl, h1, BitVec.getLsbD_ushiftRight]
  have e2 : (y >>> (((8 : Int32) * nI n).toInt64 &&& (63 : Int64))).toBitVec.getLsbD j = y.toBitVec.getLsbD (8 * n + j) := by
    rw [Int64.toBitVec_shiftRight]
    show (y.toBitVec.sshiftRight ((((8 : Int32) * nI n).toInt64 &&& (63 : Int64)).toBitVec.smod 64).toNat).getLsbD j = _
    rw [h2, BitVec.getLsbD_sshiftRight]
    have : 8 * n + j < 64 := by omega
    simp [c1, this]
  have e3 : (255 : Int64).toBitVec.getLsbD j = true := (by decide : ∀ j, j < 8 → (255 : Int64).toBitVec.getLsbD j = true) j hj
  rw [e1, e2, e3, Bool.and_true]
def scTx (o k : Nat) : Bool := o == 2 || (o == 1 && k == 1)
section CTX
variable {Γ : Gx} {d : Nat} {w : Wd}
theorem c_append {Q : St → Prop} {σ : St} {tx : List Int32} {x : Int32} (hw : RunW w) (hT : TxC σ tx) (hl : tx.length < 600) (hQ : ∀ σ', Fr scTx σ σ' → TxC σ' (tx ++ [x]) → Q σ') : SpV Γ d mX3_append [.ref 1, .int (sx x)] σ w Q := by
  refine SpV.of pnX3 (Nat.le_of_ble_eq_true rfl) (vX3_append_0 hw ?_)
  rw [hT.1, kd2, nI_1, cl (by omega)]
  refine ⟨fun c => absurd c (nI_ge (b := 600) hl (by decide)), fun _ => ⟨by unfold sx; simp, vin (by omega), hQ _ ((fr_I (by decide)).tr (fr_I (by simp [scTx]))) ⟨?_, ?_, fun i hi => ?_⟩⟩⟩
  · rw [gI_uI, if_neg (by omega), gI_uI, if_pos ⟨rfl, rfl⟩, List.length_append]
    rfl
  · rw [List.length_append]
    show tx.length + 1 ≤ 600
    omega
  · rw [List.length_append] at hi
    have hi' : i < tx.length + 1 := hi
    rw [gI_uI]
    by_cases e : i = tx.length
    · subst e
      rw [if_pos ⟨rfl, rfl⟩]
      simp
    · rw [if_neg (by omega), gI_uI, if_neg (by omega), hT.2.2 i (by omega)]
      simp [List.getElem?_append_left (show i < tx.length by omega)]
theorem lp_feedC {Q : Int32 → St → Prop} {σ0 : St} {y : Int64} (hw : RunW w) :
    ∀ r tx σ, r ≤ 8 → tx.length + r ≤ 600 → Fr scTx σ0 σ → TxC σ tx → (∀ σ', Fr scTx σ0 σ' → TxC σ' (tx ++ feedL y r) → Q (nI (tx.length + r)) σ') → AI Γ (d + 1) mX11_feed w Q 39 [(0, .ref 0), (2, .long y), (4, .int (dn r))] σ := by
  intro r
  induction r with
  | zero =>
    intro tx σ _ hl hE hT hQ
    refine vX11_feed_39 hw ⟨fun _ => ?_, fun c => absurd dn_0 c⟩
    rw [hT.1]
    exact hQ σ hE (by show TxC σ (tx ++ []); rw [List.append_nil]; exact hT)
  | succ r ih =>
    intro tx σ hr hl hE hT hQ
    rw [dn_s]
    refine vX11_feed_39 hw ⟨fun c => absurd c (nI_pos (by omega)), fun _ => ?_⟩
    rw [feed_b (by omega)]
    refine c_append hw hT (by omega) fun s z1 z2 => ?_
    refine ih (tx ++ [fbM y r]) s (by omega) (by rw [List.length_append]; show tx.length + 1 + r ≤ 600; omega) (hE.tr z1) z2 (fun s' hs ht => ?_)
    have e : (tx ++ [fbM y r]).length + r = tx.length + (r + 1) := by
      rw [List.length_append]
      show tx.length + 1 + r = _
      omega
    rw [e]
    rw [List.append_assoc] at ht
    exact hQ s' hs ht
theorem C_feed {Q : Int32 → St → Prop} {σ : St} {tx : List Int32} {x : Int32} {y : Int64} (hw : RunW w) (hT : TxC σ tx) (hQ : ∀ σ', Fr scTx σ σ' → TxC σ' (R_feed tx x y).2 → Q (R_feed tx x y).1 σ') : SpI Γ (d + 1) mX11_feed [.ref 0, .int x, .long y] σ w Q := by
  refine SpI.of pnX11 (Nat.le_of_ble_eq_true rfl) (vX11_feed_0 hw ?_)
  unfold R_feed at hQ
  have z := in_R (x := x) (a := 1) (b := 8) (by decide) (by decide) (X := fun b => b = inR x 1 8) rfl
  refine ⟨fun c => ?_, fun c => ⟨fun c2 => ?_, fun c2 => ?_⟩⟩
  · rw [← z.1 c] at hQ; exact hQ σ (Fr.rf σ) hT
  · have hin := ((z.2 c).1 c2).symm
    rw [hin, if_pos rfl] at hQ
    obtain ⟨n, h1, h8, rfl⟩ := inR_1 hin
    rw [cl (by omega)] at hQ
    have hl := hT.2.1
    have l6 : nI (tx.length + n) ≤ 600 ↔ tx.length + n ≤ 600 := nI_leI (b := 600) (by omega) (by decide)
    rw [hT.1, nI_add, l6, dn_m]
    refine ⟨fun c3 => ?_, fun c3 => ?_⟩
    · rw [if_pos c3] at hQ
      exact lp_feedC hw n tx σ h8 c3 (Fr.rf σ) hT hQ
    · rw [if_neg c3] at hQ
      exact hQ σ (Fr.rf σ) hT
  · rw [← (z.2 c).2 c2] at hQ; exact hQ σ (Fr.rf σ) hT
end CTX
