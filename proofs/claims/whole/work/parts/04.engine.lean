/-! THE ENGINE. The heap from the law's start on is read as numbered cells: what a cell is stands in kd (fixed), what it holds in a state St:
ints, longs, references that change; references that don't change stand in the world Wd. A value that names a cell bears the cell's number; a value
'retAddr k' stands for an object that was there before (0: the script; from 1 on: the texts). -/
abbrev MD : Type := MethodName × ByteArray × Nat × Option FieldType × Nat × Nat × Nat × Nat × Nat
/-- name, code, locals, answer's type, class of the receiver, number of arguments (receiver apart), cells and slots that it may make, kind of the answer (0 none, 1 int, 2 long, 3 none and it makes cells, 4 int and it makes cells) -/
abbrev mN (μ : MD) : MethodName := μ.1
abbrev mB (μ : MD) : ByteArray := μ.2.1
abbrev mL (μ : MD) : Nat := μ.2.2.1
abbrev mR (μ : MD) : Option FieldType := μ.2.2.2.1
abbrev mO (μ : MD) : Nat := μ.2.2.2.2.1
abbrev mA (μ : MD) : Nat := μ.2.2.2.2.2.1
abbrev mC (μ : MD) : Nat := μ.2.2.2.2.2.2.1
abbrev mS (μ : MD) : Nat := μ.2.2.2.2.2.2.2.1
abbrev mK (μ : MD) : Nat := μ.2.2.2.2.2.2.2.2
abbrev St : Type := (Nat → Nat → Int32) × (Nat → Nat → Int64) × (Nat → Nat → Option Nat)
abbrev Wd : Type := Nat × (Nat → Nat → Option Nat)
abbrev Lv : Type := List (Nat × Value)
def gI (σ : St) (o k : Nat) : Int32 := σ.1 o k
def gJ (σ : St) (o k : Nat) : Int64 := σ.2.1 o k
def gR (σ : St) (o k : Nat) : Option Nat := σ.2.2 o k
def up2 {α : Type} (f : Nat → Nat → α) (o k : Nat) (v : α) : Nat → Nat → α := fun a b => if a = o ∧ b = k then v else f a b
def uI (σ : St) (o k : Nat) (v : Int32) : St := (up2 σ.1 o k v, σ.2.1, σ.2.2)
def uJ (σ : St) (o k : Nat) (v : Int64) : St := (σ.1, up2 σ.2.1 o k v, σ.2.2)
def uR (σ : St) (o k : Nat) (v : Option Nat) : St := (σ.1, σ.2.1, up2 σ.2.2 o k v)
/-- a new cell: all 0 -/
def zS (σ : St) (o : Nat) : St := (fun a b => if a = o then 0 else σ.1 a b, fun a b => if a = o then 0 else σ.2.1 a b, fun a b => if a = o then none else σ.2.2 a b)
def zW (w : Wd) : Wd := (w.1 + 1, fun a b => if a = w.1 then none else w.2 a b)
def uW (w : Wd) (o k : Nat) (v : Option Nat) : Wd := (w.1, up2 w.2 o k v)
/-- many new cells; an array of rows -/
def zM (σ : St) (o n : Nat) : St := (fun a b => if o ≤ a ∧ a < o + n then 0 else σ.1 a b, fun a b => if o ≤ a ∧ a < o + n then 0 else σ.2.1 a b, fun a b => if o ≤ a ∧ a < o + n then none else σ.2.2 a b)
def gM (w : Wd) (n : Nat) : Wd := (w.1 + 1 + n, fun a b => if a = w.1 then (if b < n then some (w.1 + 1 + b) else none) else if w.1 ≤ a ∧ a < w.1 + 1 + n then none else w.2 a b)
/-- a row's places copied -/
def cS (σ : St) (a b sp dp n : Nat) : St := (fun x j => if x = b then va_cpy (σ.1 a) (σ.1 b) sp dp n j else σ.1 x j, σ.2.1, σ.2.2)
theorem gI_uI (σ : St) (o k a b : Nat) (v : Int32) : gI (uI σ o k v) a b = if a = o ∧ b = k then v else gI σ a b := rfl
theorem gI_uJ (σ : St) (o k a b : Nat) (v : Int64) : gI (uJ σ o k v) a b = gI σ a b := rfl
theorem gI_uR (σ : St) (o k a b : Nat) (v : Option Nat) : gI (uR σ o k v) a b = gI σ a b := rfl
theorem gJ_uI (σ : St) (o k a b : Nat) (v : Int32) : gJ (uI σ o k v) a b = gJ σ a b := rfl
theorem gJ_uJ (σ : St) (o k a b : Nat) (v : Int64) : gJ (uJ σ o k v) a b = if a = o ∧ b = k then v else gJ σ a b := rfl
theorem gJ_uR (σ : St) (o k a b : Nat) (v : Option Nat) : gJ (uR σ o k v) a b = gJ σ a b := rfl
theorem gR_uI (σ : St) (o k a b : Nat) (v : Int32) : gR (uI σ o k v) a b = gR σ a b := rfl
theorem gR_uJ (σ : St) (o k a b : Nat) (v : Int64) : gR (uJ σ o k v) a b = gR σ a b := rfl
theorem gR_uR (σ : St) (o k a b : Nat) (v : Option Nat) : gR (uR σ o k v) a b = if a = o ∧ b = k then v else gR σ a b := rfl
theorem gI_zS (σ : St) (o a b : Nat) : gI (zS σ o) a b = if a = o then 0 else gI σ a b := rfl
theorem gJ_zS (σ : St) (o a b : Nat) : gJ (zS σ o) a b = if a = o then 0 else gJ σ a b := rfl
theorem gR_zS (σ : St) (o a b : Nat) : gR (zS σ o) a b = if a = o then none else gR σ a b := rfl
/-- what stays the same through the whole run: the launch, the heap at the start, the classes' numbers, the arrays' classes, where the older objects lie, the script -/
abbrev Gx : Type := Launch × Heap × va_G × (Nat → ClassId) × (Nat → Nat) × (Nat → Int32) × Nat
abbrev xH (Γ : Gx) : Heap := Γ.2.1
abbrev xD (Γ : Gx) : va_G := Γ.2.2.1
abbrev xA (Γ : Gx) : Nat → ClassId := Γ.2.2.2.1
abbrev xE (Γ : Gx) : Nat → Nat := Γ.2.2.2.2.1
abbrev xS (Γ : Gx) : Nat → Int32 := Γ.2.2.2.2.2.1
abbrev xN (Γ : Gx) : Nat := Γ.2.2.2.2.2.2
def gz (Γ : Gx) : Nat := (xH Γ).size
def cv (Γ : Gx) : Value → Value
  | .ref i => .ref (gz Γ + i)
  | .retAddr k => .ref (xE Γ k)
  | v => v
def cL (Γ : Gx) (L : Lv) : Lv := L.map (fun q => (q.1, cv Γ q.2))
theorem cv_cat (Γ : Gx) (v : Value) : (cv Γ v).category = v.category := by cases v <;> rfl
def rv (Γ : Gx) (r : Option Nat) : Value := va_rf (r.map (gz Γ + ·))
/-- what a field holds -/
def fv (Γ : Gx) (σ : St) (ρ : Nat → Nat → Option Nat) (t i k : Nat) : Value :=
  match fk t k with
  | 1 => .long (gJ σ i k)
  | 2 => rv Γ (ρ i k)
  | 3 => rv Γ (gR σ i k)
  | _ => .int (gI σ i k)
/-- what a place of an array holds -/
def av (Γ : Gx) (σ : St) (ρ : Nat → Nat → Option Nat) (t i j : Nat) : Value :=
  if t = 21 then .long (gJ σ i j) else if t < 24 then .int (gI σ i j) else rv Γ (ρ i j)
def atC (Γ : Gx) (σ : St) (ρ : Nat → Nat → Option Nat) (i : Nat) (H : Heap) : Prop :=
  ((kd i).1 < 20 → t_OB (gz Γ + i) ((xD Γ).1 (kd i).1) (kd i).2 ((xD Γ).2 (kd i).1) H (fv Γ σ ρ (kd i).1 i)) ∧
  (20 ≤ (kd i).1 → H[gz Γ + i]? = some (arrV (xA Γ ((kd i).1 - 20)) (kd i).2 (av Γ σ ρ (kd i).1 i)))
def HR (Γ : Gx) (σ : St) (w : Wd) (H : Heap) : Prop := H.size = gz Γ + w.1 ∧ (∀ q, q < gz Γ → H[q]? = (xH Γ)[q]?) ∧ ∀ i, i < w.1 → atC Γ σ w.2 i H
/-- the types of the arrays' components, by their numbers -/
def aty (t : Nat) : FieldType := match t with
  | 0 => .int
  | 1 => .long
  | 2 => .byte
  | 3 => .boolean
  | 4 => .object RX7
  | 5 => .object RX10
  | 6 => .object RX5
  | 7 => .object RX6
  | _ => .array .int
/-- the words that a call of a nest mate's constructor needs -/
def nests : List Cond := tables_1.filter (fun w => match w with | .methodLinkNest _ _ _ _ => true | _ => false)
/-- the texts: place in the Parser's pool, text, bytes -/
def txK : List (Nat × String × List Int32) := [(46, "sign", [115, 105, 103, 110]), (107, "start", [115, 116, 97, 114, 116]), (109, "end", [101, 110, 100]), (56, "word", [119, 111, 114, 100]), (61, "lesson", [108, 101, 115, 115, 111, 110]), (151, "after", [97, 102, 116, 101, 114]), (159, "signs", [115, 105, 103, 110, 115]), (163, "sight", [115, 105, 103, 104, 116]), (66, "page", [112, 97, 103, 101])]
abbrev txI (i : Nat) : Nat := (txK.getD i (0, "", [])).1
abbrev txT (i : Nat) : String := (txK.getD i (0, "", [])).2.1
def txB : List (List Int32) := txK.map (fun q => q.2.2)
def txL : List Nat := txB.map List.length
/-- what the start says of the texts -/
def GT (Γ : Gx) (s : State) : Prop := vk_S 9 txL txB (fun i => xE Γ (1 + i)) (fun i => xE Γ (20 + i)) (fun q => gz Γ ≤ q) s (xH Γ) ∧ (∀ i, i < 9 → vk_R RX3 (txI i) (txT i) (xE Γ (1 + i)) s) ∧ va_Z "java/lang/String" "COMPACT_STRINGS" "Z" (.int 1) (fun q => gz Γ ≤ q) s (xH Γ) ∧
  (va_Z "jdk/internal/util/Preconditions" "SIOOBE_FORMATTER" "Ljava/util/function/BiFunction;" .null (fun q => gz Γ ≤ q) s (xH Γ) ∨ va_Z "jdk/internal/util/Preconditions" "SIOOBE_FORMATTER" "Ljava/util/function/BiFunction;" (.ref (xE Γ 40)) (fun q => gz Γ ≤ q) s (xH Γ))
def va_AOA (ty : FieldType) (U : State) : Prop := (Cond.arrayOver (.array ty)).before #[] U = true
/-- what holds of every state of the run -/
def GK (Γ : Gx) (s : State) : Prop := (∀ w ∈ lw_tbl, goodWord w = true → ∀ a : Array Value, w.before a s = true) ∧ (∀ w ∈ nests, va_Nw w s) ∧ va_K (xD Γ) vwCl ((List.range 9).map (fun t => (xA Γ t, aty t))) s ∧ va_X (xE Γ 0) (xN Γ) (xS Γ) s (xH Γ) ∧ GT Γ s ∧ (va_AO RX7 s ∧ va_AO RX10 s ∧ va_AO RX5 s ∧ va_AO RX6 s ∧ va_AOA .int s)
/-- one frame of a method: its machine's part -/
def Fx (Γ : Gx) (μ : MD) (p : Program) (l : Launch) (s : State) (m : MethodId) (meth : Method) (c : Code) : Prop :=
  p.tables.exec = Jvm.exec ∧ c.code = mB μ ∧ c.maxLocals = mL μ ∧ meth.sig.returnType = mR μ ∧ meth.locks = false ∧ s.vm.findClass (mN μ).cls = some m.cls ∧ meth.name = (mN μ).name ∧ l = Γ.1 ∧ GK Γ s
def rmOf (d mc ms : Nat) : Room := { frames := d, cells := mc, slots := ms, locals := 36 * d }
def lcs (Γ : Gx) (locs : List Loc) : Prop := ∀ q ∈ locs, gz Γ ≤ q.base
/-- what the end of a method must give to whoever waits -/
def RetOK (Γ : Gx) (d : Nat) (μ : MD) (Q : Option Value → St → Wd → Prop) (p : Program) (l : Launch) (e : Env) (s : State) (m : MethodId) (args : Array Value) (below : List Frame) (meth : Method) (c : Code) (Z : State → Prop) : Prop :=
  ∀ (v : Option Value) (σ : St) (w : Wd) (H : Heap) (locs : List Loc) (pc : Nat) (ls : Array Slot), Q v σ w → HR Γ σ w H → lcs Γ locs →
    ((v = none ∧ decode (mB μ) pc = .ok (.return_, 1) ∧ mR μ = none) ∨ (∃ x ty, v = some (.int x) ∧ decode (mB μ) pc = .ok (.ireturn, 1) ∧ mR μ = some ty ∧ narrow ty (.int x) = .int x) ∨ (∃ x, v = some (.long x) ∧ decode (mB μ) pc = .ok (.lreturn, 1) ∧ mR μ = some .long)) →
    W p l e (rmOf d (mC μ) (mS μ)) s m args below meth c H locs (mC μ) (mS μ) Z (F0 m pc ls (v.toList.map (cv Γ)))
/-- from this frame on the method comes to its end, with Q -/
def AW (Γ : Gx) (d : Nat) (μ : MD) (Q : Option Value → St → Wd → Prop) (pc : Nat) (L : Lv) (S : List Value) (σ : St) (w : Wd) (cc zz : Nat) : Prop :=
  ∀ (p : Program) (l : Launch) (e : Env) (s : State) (m : MethodId) (args : Array Value) (below : List Frame) (meth : Method) (c : Code) (Z : State → Prop),
    Fx Γ μ p l s m meth c → RetOK Γ d μ Q p l e s m args below meth c Z → ∀ (H : Heap) (locs : List Loc) (ls : Array Slot), HR Γ σ w H → lcs Γ locs → lv_has ls (mL μ) (cL Γ L) → cc ≤ mC μ → zz ≤ mS μ →
    W p l e (rmOf d (mC μ) (mS μ)) s m args below meth c H locs cc zz Z (F0 m pc ls (S.map (cv Γ)))
/-- a method's contract: called so, it comes back, with Q -/
def Sp (Γ : Gx) (d : Nat) (μ : MD) (A : List Value) (σ : St) (w : Wd) (Q : Option Value → St → Wd → Prop) : Prop :=
  Met Γ.1 (mN μ) [Cond.code (mN μ) (mB μ) (mL μ) (mR μ)] (rmOf d (mC μ) (mS μ)) (fun args s => args = (A.map (cv Γ)).toArray ∧ HR Γ σ w s.heap ∧ GK Γ s)
    (fun _ _ o t => ∃ v σ' w', o = .returned (v.map (cv Γ)) ∧ HR Γ σ' w' t.heap ∧ Q v σ' w') (mC μ) (mS μ) (fun q => gz Γ ≤ q)
def SpI (Γ : Gx) (d : Nat) (μ : MD) (A : List Value) (σ : St) (w : Wd) (Q : Int32 → St → Prop) : Prop := Sp Γ d μ A σ w (fun v σ' w' => w' = w ∧ ∃ x, v = some (.int x) ∧ Q x σ')
def SpJ (Γ : Gx) (d : Nat) (μ : MD) (A : List Value) (σ : St) (w : Wd) (Q : Int64 → St → Prop) : Prop := Sp Γ d μ A σ w (fun v σ' w' => w' = w ∧ ∃ x, v = some (.long x) ∧ Q x σ')
def SpV (Γ : Gx) (d : Nat) (μ : MD) (A : List Value) (σ : St) (w : Wd) (Q : St → Prop) : Prop := Sp Γ d μ A σ w (fun v σ' w' => w' = w ∧ v = none ∧ Q σ')
def SpC (Γ : Gx) (d : Nat) (μ : MD) (A : List Value) (σ : St) (w : Wd) (Q : St → Wd → Prop) : Prop := Sp Γ d μ A σ w (fun v σ' w' => v = none ∧ Q σ' w')
def SpN (Γ : Gx) (d : Nat) (μ : MD) (A : List Value) (σ : St) (w : Wd) (Q : Int32 → St → Wd → Prop) : Prop := Sp Γ d μ A σ w (fun v σ' w' => ∃ x, v = some (.int x) ∧ Q x σ' w')
/-- the tables of a class: fields (class, place, kind), calls (0 virtual, 1 static, 2 special, 3 special to a nest mate), constants, classes to make, Object's constructor, arraycopy -/
abbrev Tb : Type := List (Nat × Nat × Nat × Nat) × List (Nat × Nat × MD) × List (Nat × Value) × List (Nat × Nat) × List Nat × List Nat
/-- a method's instructions: place, instruction, length, the constant that it bears, the place that it goes to, the place behind it -/
abbrev Is : Type := List (Nat × Instr × Nat × Int32 × Nat × Nat)
/-- its switches: place, cases, default; its cuts: place, locals that are kept there -/
abbrev Sw : Type := List (Nat × List (Int32 × Nat) × Nat)
abbrev Cu : Type := List (Nat × List Nat)
def okO (w : Wd) (o c : Nat) : Prop := o < w.1 ∧ (kd o).1 = c
def catS (S : List Value) : Nat := (S.map Value.category).sum
def putL1 (L : Lv) (i : Nat) (v : Value) : Lv := (i, v) :: L.filter (fun q => !(q.1 == i) && !(q.1 + 1 == i && q.2.category == 2))
def putL2 (L : Lv) (i : Nat) (v : Value) : Lv := (i, v) :: L.filter (fun q => !(q.1 == i) && (!(q.1 == i + 1) && !(q.1 + 1 == i && q.2.category == 2)))
/-- keep these locals alone, in this order -/
def pickL (ks : List Nat) (L : Lv) : Lv := ks.filterMap (fun k => (L.lookup k).map (fun v => (k, v)))
/-- instructions that work on the stack alone -/
def sop (i : Instr) (S : List Value) : Option (List Value) :=
  match i, S with
  | .lconst n, S => some (.long (if n.val = 0 then 0 else 1) :: S)
  | .iadd, .int y :: .int x :: S => some (.int (x + y) :: S)
  | .isub, .int y :: .int x :: S => some (.int (x - y) :: S)
  | .imul, .int y :: .int x :: S => some (.int (x * y) :: S)
  | .iand, .int y :: .int x :: S => some (.int (x &&& y) :: S)
  | .ior, .int y :: .int x :: S => some (.int (x ||| y) :: S)
  | .ixor, .int y :: .int x :: S => some (.int (x ^^^ y) :: S)
  | .ishl, .int y :: .int x :: S => some (.int (x <<< (y &&& 31)) :: S)
  | .ishr, .int y :: .int x :: S => some (.int (x >>> (y &&& 31)) :: S)
  | .iushr, .int y :: .int x :: S => some (.int (x.toUInt32 >>> (y.toUInt32 &&& Int32.toUInt32 31)).toInt32 :: S)
  | .ladd, .long y :: .long x :: S => some (.long (x + y) :: S)
  | .lsub, .long y :: .long x :: S => some (.long (x - y) :: S)
  | .lmul, .long y :: .long x :: S => some (.long (x * y) :: S)
  | .land, .long y :: .long x :: S => some (.long (x &&& y) :: S)
  | .lor, .long y :: .long x :: S => some (.long (x ||| y) :: S)
  | .lshl, .int y :: .long x :: S => some (.long (x <<< (y.toInt64 &&& 63)) :: S)
  | .lshr, .int y :: .long x :: S => some (.long (x >>> (y.toInt64 &&& 63)) :: S)
  | .lushr, .int y :: .long x :: S => some (.long (x.toUInt64 >>> (y.toInt64.toUInt64 &&& Int64.toUInt64 63)).toInt64 :: S)
  | .lcmp, .long y :: .long x :: S => some (.int (lg_cmp x y) :: S)
  | .i2l, .int x :: S => some (.long x.toInt64 :: S)
  | .l2i, .long x :: S => some (.int x.toInt32 :: S)
  | .i2b, .int x :: S => some (.int x.toInt8.toInt32 :: S)
  | .i2c, .int x :: S => some (.int (x.toUInt32 % 65536).toInt32 :: S)
  | .pop, .int _ :: S => some S
  | .dup, .int x :: S => some (.int x :: .int x :: S)
  | .dup, .ref x :: S => some (.ref x :: .ref x :: S)
  | .dup_x1, .int x :: .ref y :: S => some (.int x :: .ref y :: .int x :: S)
  | .dup2, .int x :: .ref y :: S => some (.int x :: .ref y :: .int x :: .ref y :: S)
  | _, _ => none
/-- a branch: taken A, else B -/
def bra (cn : ClassFile.Cond) (x y : Int32) (A B : Prop) : Prop :=
  match cn with
  | .eq => (x = y → A) ∧ (¬ x = y → B)
  | .ne => (¬ x = y → A) ∧ (x = y → B)
  | .lt => (x < y → A) ∧ (¬ x < y → B)
  | .ge => (y ≤ x → A) ∧ (¬ y ≤ x → B)
  | .gt => (y < x → A) ∧ (¬ y < x → B)
  | .le => (x ≤ y → A) ∧ (¬ x ≤ y → B)
def swP (x : Int32) (k : Nat → Prop) (dflt : Nat) : List (Int32 × Nat) → Prop
  | [] => k dflt
  | (v, t) :: r => (x = v → k t) ∧ (¬ x = v → swP x k dflt r)
/-- one step: what must hold for the frame behind it -/
def stp (Γ : Gx) (d : Nat) (μ : MD) (Q : Option Value → St → Wd → Prop) (T : Tb) (sw : Sw) (i : Instr) (cst : Int32) (tgt nx : Nat) (pc : Nat) (L : Lv) (S : List Value) (σ : St) (w : Wd) (cc zz : Nat) (k : Nat → Lv → List Value → St → Wd → Nat → Nat → Prop) : Prop :=
  match sop i S with
  | some S' => k nx L S' σ w cc zz
  | none =>
  match i, S with
  | .iconst _, S => k nx L (.int cst :: S) σ w cc zz
  | .bipush _, S => k nx L (.int cst :: S) σ w cc zz
  | .sipush _, S => k nx L (.int cst :: S) σ w cc zz
  | .iload n, S => match L.lookup n with
    | some (.int x) => k nx L (.int x :: S) σ w cc zz
    | _ => False
  | .iload_n n, S => match L.lookup n.val with
    | some (.int x) => k nx L (.int x :: S) σ w cc zz
    | _ => False
  | .lload n, S => match L.lookup n with
    | some (.long x) => k nx L (.long x :: S) σ w cc zz
    | _ => False
  | .lload_n n, S => match L.lookup n.val with
    | some (.long x) => k nx L (.long x :: S) σ w cc zz
    | _ => False
  | .aload n, S => match L.lookup n with
    | some (.ref x) => k nx L (.ref x :: S) σ w cc zz
    | some (.retAddr x) => k nx L (.retAddr x :: S) σ w cc zz
    | _ => False
  | .aload_n n, S => match L.lookup n.val with
    | some (.ref x) => k nx L (.ref x :: S) σ w cc zz
    | some (.retAddr x) => k nx L (.retAddr x :: S) σ w cc zz
    | _ => False
  | .istore n, .int x :: S => if n < mL μ then k nx (putL1 L n (.int x)) S σ w cc zz else False
  | .istore_n n, .int x :: S => if n.val < mL μ then k nx (putL1 L n.val (.int x)) S σ w cc zz else False
  | .astore n, .ref x :: S => if n < mL μ then k nx (putL1 L n (.ref x)) S σ w cc zz else False
  | .astore_n n, .ref x :: S => if n.val < mL μ then k nx (putL1 L n.val (.ref x)) S σ w cc zz else False
  | .lstore n, .long x :: S => if n + 1 < mL μ then k nx (putL2 L n (.long x)) S σ w cc zz else False
  | .lstore_n n, .long x :: S => if n.val + 1 < mL μ then k nx (putL2 L n.val (.long x)) S σ w cc zz else False
  | .iinc n _, S => match L.lookup n with
    | some (.int x) => if n < mL μ then k nx (putL1 L n (.int (x + cst))) S σ w cc zz else False
    | _ => False
  | .idiv, .int y :: .int x :: S => ¬ y = 0 ∧ k nx L (.int (x / y) :: S) σ w cc zz
  | .irem, .int y :: .int x :: S => ¬ y = 0 ∧ k nx L (.int (x - x / y * y) :: S) σ w cc zz
  | .goto _, S => k tgt L S σ w cc zz
  | .ifCond cn _, .int x :: S => bra cn x 0 (k tgt L S σ w cc zz) (k nx L S σ w cc zz)
  | .if_icmp cn _, .int y :: .int x :: S => bra cn x y (k tgt L S σ w cc zz) (k nx L S σ w cc zz)
  | .ifnull _, .ref _ :: S => k nx L S σ w cc zz
  | .ifnull _, .null :: S => k tgt L S σ w cc zz
  | .ifnonnull _, .ref _ :: S => k tgt L S σ w cc zz
  | .ifnonnull _, .null :: S => k nx L S σ w cc zz
  | .tableswitch _ _ _ _, .int x :: S => match sw.lookup pc with
    | some (cs, df) => swP x (fun t => k t L S σ w cc zz) df cs
    | none => False
  | .ldc n, S => match T.2.2.1.lookup n with
    | some (.int x) => k nx L (.int x :: S) σ w cc zz
    | some (.retAddr x) => k nx L (.retAddr x :: S) σ w cc zz
    | _ => False
  | .ldc_w n, S => match T.2.2.1.lookup n with
    | some (.int x) => k nx L (.int x :: S) σ w cc zz
    | _ => False
  | .ldc2_w n, S => match T.2.2.1.lookup n with
    | some (.long x) => k nx L (.long x :: S) σ w cc zz
    | _ => False
  | .getfield n, .ref o :: S => match T.1.lookup n with
    | some (ci, f, 1) => okO w o ci ∧ k nx L (.long (gJ σ o f) :: S) σ w cc zz
    | some (ci, f, 2) => okO w o ci ∧ ∃ r, w.2 o f = some r ∧ k nx L (.ref r :: S) σ w cc zz
    | some (ci, f, 3) => okO w o ci ∧ (∀ r, gR σ o f = some r → k nx L (.ref r :: S) σ w cc zz) ∧ (gR σ o f = none → k nx L (.null :: S) σ w cc zz)
    | some (ci, f, 0) => okO w o ci ∧ k nx L (.int (gI σ o f) :: S) σ w cc zz
    | some (ci, f, 4) => okO w o ci ∧ k nx L (.int (gI σ o f) :: S) σ w cc zz
    | _ => False
  | .getfield n, .retAddr x :: S => match T.1.lookup n with
    | some (_, _, 7) => 1 ≤ x ∧ x ≤ 9 ∧ k nx L (.retAddr (x + 19) :: S) σ w cc zz
    | some (_, _, 8) => 1 ≤ x ∧ x ≤ 9 ∧ k nx L (.int 0 :: S) σ w cc zz
    | _ => False
  | .getstatic n, S => match T.1.lookup n with
    | some (_, _, 9) => k nx L (.int 1 :: S) σ w cc zz
    | some (_, _, 10) => k nx L (.null :: S) σ w cc zz ∧ k nx L (.retAddr 40 :: S) σ w cc zz
    | _ => False
  | .putfield n, .int v :: .ref o :: S => match T.1.lookup n with
    | some (ci, f, 0) => okO w o ci ∧ k nx L S (uI σ o f v) w cc zz
    | some (ci, f, 4) => okO w o ci ∧ (v = 0 ∨ v = 1) ∧ k nx L S (uI σ o f v) w cc zz
    | _ => False
  | .putfield n, .long v :: .ref o :: S => match T.1.lookup n with
    | some (ci, f, 1) => okO w o ci ∧ k nx L S (uJ σ o f v) w cc zz
    | _ => False
  | .putfield n, .ref r :: .ref o :: S => match T.1.lookup n with
    | some (ci, f, 2) => okO w o ci ∧ ((mN μ).name = "<init>" ∧ vwCl[ci]?.map (fun q => q.1) = some (mN μ).cls) ∧ k nx L S σ (uW w o f (some r)) cc zz
    | some (ci, f, 3) => okO w o ci ∧ k nx L S (uR σ o f (some r)) w cc zz
    | _ => False
  | .iaload, .int j :: .ref a :: S => okO w a 20 ∧ vp_in j (kd a).2 ∧ k nx L (.int (gI σ a j.toNatClampNeg) :: S) σ w cc zz
  | .iaload, .int j :: .retAddr 0 :: S => vp_in j (xN Γ) ∧ k nx L (.int (xS Γ j.toNatClampNeg) :: S) σ w cc zz
  | .laload, .int j :: .ref a :: S => okO w a 21 ∧ vp_in j (kd a).2 ∧ k nx L (.long (gJ σ a j.toNatClampNeg) :: S) σ w cc zz
  | .baload, .int j :: .ref a :: S => a < w.1 ∧ ((kd a).1 = 22 ∨ (kd a).1 = 23) ∧ vp_in j (kd a).2 ∧ k nx L (.int (gI σ a j.toNatClampNeg) :: S) σ w cc zz
  | .aaload, .int j :: .ref a :: S => a < w.1 ∧ 24 ≤ (kd a).1 ∧ (kd a).1 ≤ 28 ∧ vp_in j (kd a).2 ∧ ∃ r, w.2 a j.toNatClampNeg = some r ∧ k nx L (.ref r :: S) σ w cc zz
  | .iastore, .int v :: .int j :: .ref a :: S => okO w a 20 ∧ vp_in j (kd a).2 ∧ k nx L S (uI σ a j.toNatClampNeg v) w cc zz
  | .lastore, .long v :: .int j :: .ref a :: S => okO w a 21 ∧ vp_in j (kd a).2 ∧ k nx L S (uJ σ a j.toNatClampNeg v) w cc zz
  | .bastore, .int v :: .int j :: .ref a :: S => a < w.1 ∧ (((kd a).1 = 22 ∧ v.toInt8.toInt32 = v) ∨ ((kd a).1 = 23 ∧ v &&& 1 = v)) ∧ vp_in j (kd a).2 ∧ k nx L S (uI σ a j.toNatClampNeg v) w cc zz
  | .aastore, .ref r :: .int j :: .ref a :: S => a < w.1 ∧ r < w.1 ∧ (((kd a).1 = 24 ∧ (kd r).1 = 7) ∨ ((kd a).1 = 25 ∧ (kd r).1 = 10) ∨ ((kd a).1 = 26 ∧ (kd r).1 = 5) ∨ ((kd a).1 = 27 ∧ (kd r).1 = 6)) ∧ vp_in j (kd a).2 ∧ k nx L S σ (uW w a j.toNatClampNeg (some r)) cc zz
  | .arraylength, .ref a :: S => a < w.1 ∧ 20 ≤ (kd a).1 ∧ (kd a).1 ≤ 28 ∧ k nx L (.int (nI (kd a).2) :: S) σ w cc zz
  | .arraylength, .retAddr 0 :: S => k nx L (.int (nI (xN Γ)) :: S) σ w cc zz
  | .arraylength, .retAddr y :: S => 20 ≤ y ∧ y ≤ 28 ∧ k nx L (.int (nI (txL.getD (y - 20) 0)) :: S) σ w cc zz
  | .baload, .int j :: .retAddr y :: S => 20 ≤ y ∧ y ≤ 28 ∧ vp_in j (txL.getD (y - 20) 0) ∧ k nx L (.int ((txB.getD (y - 20) []).getD j.toNatClampNeg 0) :: S) σ w cc zz
  | .new n, S => match T.2.2.2.1.lookup n with
    | some ci => ((kd w.1).1 = ci ∧ ci < 20) ∧ cc + 1 ≤ mC μ ∧ zz + (kd w.1).2 ≤ mS μ ∧ k nx L (.ref w.1 :: S) (zS σ w.1) (zW w) (cc + 1) (zz + (kd w.1).2)
    | none => False
  | .newarray ty, .int n :: S => ((kd w.1).1 = 20 ∧ ty = .int ∨ (kd w.1).1 = 21 ∧ ty = .long ∨ (kd w.1).1 = 22 ∧ ty = .byte ∨ (kd w.1).1 = 23 ∧ ty = .boolean) ∧ ¬ n < 0 ∧ (kd w.1).2 = n.toNatClampNeg ∧ cc + 1 ≤ mC μ ∧ zz + (kd w.1).2 ≤ mS μ ∧ k nx L (.ref w.1 :: S) (zS σ w.1) (zW w) (cc + 1) (zz + (kd w.1).2)
  | .anewarray n, .int j :: S => match T.2.2.2.1.lookup (n + 100000) with
    | some t => (kd w.1).1 = t ∧ 24 ≤ t ∧ t ≤ 27 ∧ ¬ j < 0 ∧ (kd w.1).2 = j.toNatClampNeg ∧ cc + 1 ≤ mC μ ∧ zz + (kd w.1).2 ≤ mS μ ∧ k nx L (.ref w.1 :: S) (zS σ w.1) (zW w) (cc + 1) (zz + (kd w.1).2)
    | none => False
  | .multianewarray n 2, .int b :: .int a :: S => match T.2.2.2.1.lookup n with
    | some 28 => kd w.1 = (28, a.toNatClampNeg) ∧ (∀ i, i < a.toNatClampNeg → kd (w.1 + 1 + i) = (20, b.toNatClampNeg)) ∧ ¬ a < 0 ∧ ¬ b < 0 ∧ a.toNatClampNeg ≤ 1000 ∧ b.toNatClampNeg ≤ 1000 ∧ cc + (1 + a.toNatClampNeg) ≤ mC μ ∧ zz + (a.toNatClampNeg + a.toNatClampNeg * b.toNatClampNeg) ≤ mS μ ∧
      k nx L (.ref w.1 :: S) (zM σ w.1 (1 + a.toNatClampNeg)) (gM w a.toNatClampNeg) (cc + 1 + a.toNatClampNeg) (zz + a.toNatClampNeg + a.toNatClampNeg * b.toNatClampNeg)
    | _ => False
  | .invokespecial n, .ref o :: S => if T.2.2.2.2.1.contains n then 1 ≤ d ∧ catS S ≤ 8 ∧ k nx L S σ w cc zz else
    match T.2.1.lookup n, d with
    | some (2, ν), d + 1 => mA ν = 0 ∧ catS S ≤ 8 ∧ cc + mC ν ≤ mC μ ∧ zz + mS ν ≤ mS μ ∧ SpC Γ d ν [.ref o] σ w (fun σ' w' => k nx L S σ' w' (cc + mC ν) (zz + mS ν))
    | some (3, ν), d + 1 => mA ν = 0 ∧ catS S ≤ 8 ∧ cc + mC ν ≤ mC μ ∧ zz + mS ν ≤ mS μ ∧ SpC Γ d ν [.ref o] σ w (fun σ' w' => k nx L S σ' w' (cc + mC ν) (zz + mS ν))
    | _, _ => False
  | .invokespecial n, .int x :: .ref o :: S => match T.2.1.lookup n, d with
    | some (2, ν), d + 1 => mA ν = 1 ∧ catS S ≤ 8 ∧ cc + mC ν ≤ mC μ ∧ zz + mS ν ≤ mS μ ∧ SpC Γ d ν [.ref o, .int x] σ w (fun σ' w' => k nx L S σ' w' (cc + mC ν) (zz + mS ν))
    | _, _ => False
  | .invokestatic n, S => match T.2.1.lookup n, d with
    | some (4, _), d + 1 => (match S with
      | .int n :: .int dp :: .ref b :: .int sp :: .ref a :: S => okO w a 20 ∧ okO w b 20 ∧ ¬ sp < 0 ∧ ¬ dp < 0 ∧ ¬ n < 0 ∧ sp.toNatClampNeg + n.toNatClampNeg ≤ (kd a).2 ∧ dp.toNatClampNeg + n.toNatClampNeg ≤ (kd b).2 ∧ catS S ≤ 8 ∧
        k nx L S (cS σ a b sp.toNatClampNeg dp.toNatClampNeg n.toNatClampNeg) w cc zz
      | _ => False)
    | some (1, ν), d + 1 => mA ν ≤ S.length ∧ catS (S.drop (mA ν)) ≤ 8 ∧ (match mK ν with
      | 0 => SpV Γ d ν (S.take (mA ν)).reverse σ w (fun σ' => k nx L (S.drop (mA ν)) σ' w cc zz)
      | 1 => SpI Γ d ν (S.take (mA ν)).reverse σ w (fun x σ' => k nx L (.int x :: S.drop (mA ν)) σ' w cc zz)
      | 2 => SpJ Γ d ν (S.take (mA ν)).reverse σ w (fun x σ' => k nx L (.long x :: S.drop (mA ν)) σ' w cc zz)
      | _ => False)
    | some (6, ν), d + 1 => mA ν ≤ S.length ∧ catS (S.drop (mA ν)) ≤ 8 ∧ (match mK ν with
      | 0 => SpV Γ d ν (S.take (mA ν)).reverse σ w (fun σ' => k nx L (S.drop (mA ν)) σ' w cc zz)
      | 1 => SpI Γ d ν (S.take (mA ν)).reverse σ w (fun x σ' => k nx L (.int x :: S.drop (mA ν)) σ' w cc zz)
      | 2 => SpJ Γ d ν (S.take (mA ν)).reverse σ w (fun x σ' => k nx L (.long x :: S.drop (mA ν)) σ' w cc zz)
      | _ => False)
    | _, _ => False
  | .invokevirtual n, S => match T.2.1.lookup n, d with
    | some (0, ν), d + 1 => (match S.drop (mA ν) with
      | .ref o :: R => okO w o (mO ν) ∧ catS R ≤ 8 ∧ (match mK ν with
        | 0 => SpV Γ d ν (.ref o :: (S.take (mA ν)).reverse) σ w (fun σ' => k nx L R σ' w cc zz)
        | 1 => SpI Γ d ν (.ref o :: (S.take (mA ν)).reverse) σ w (fun x σ' => k nx L (.int x :: R) σ' w cc zz)
        | 2 => SpJ Γ d ν (.ref o :: (S.take (mA ν)).reverse) σ w (fun x σ' => k nx L (.long x :: R) σ' w cc zz)
        | 4 => cc + mC ν ≤ mC μ ∧ zz + mS ν ≤ mS μ ∧ SpN Γ d ν (.ref o :: (S.take (mA ν)).reverse) σ w (fun x σ' w' => k nx L (.int x :: R) σ' w' (cc + mC ν) (zz + mS ν))
        | _ => False)
      | _ => False)
    | some (5, ν), d + 1 => (match S.drop (mA ν) with
      | .retAddr x :: R => 1 ≤ x ∧ x ≤ 9 ∧ catS R ≤ 8 ∧ (match mK ν with
        | 1 => SpI Γ d ν (.retAddr x :: (S.take (mA ν)).reverse) σ w (fun x σ' => k nx L (.int x :: R) σ' w cc zz)
        | _ => False)
      | _ => False)
    | _, _ => False
  | .ireturn, .int x :: [] => (match mR μ with
    | some ty => narrow ty (.int x) = .int x ∧ Q (some (.int x)) σ w
    | none => False)
  | .lreturn, .long x :: [] => mR μ = some .long ∧ Q (some (.long x)) σ w
  | .return_, [] => mR μ = none ∧ Q none σ w
  | _, _ => False
/-- n steps; where a cut is met, or the steps are used up, the frame itself is asked for -/
def wp (Γ : Gx) (d : Nat) (μ : MD) (Q : Option Value → St → Wd → Prop) (T : Tb) (is : Is) (sw : Sw) (cu : Cu) : Nat → Nat → Lv → List Value → St → Wd → Nat → Nat → Prop
  | 0, pc, L, S, σ, w, cc, zz => AW Γ d μ Q pc L S σ w cc zz
  | n + 1, pc, L, S, σ, w, cc, zz => match is.lookup pc with
    | none => False
    | some (i, _, cst, tgt, nx) => stp Γ d μ Q T sw i cst tgt nx pc L S σ w cc zz (fun pc' L' S' σ' w' cc' zz' => match cu.lookup pc' with
      | some ks => AW Γ d μ Q pc' (pickL ks L') S' σ' w' cc' zz'
      | none => wp Γ d μ Q T is sw cu n pc' L' S' σ' w' cc' zz')
