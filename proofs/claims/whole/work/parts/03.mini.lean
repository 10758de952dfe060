/-! THE SMALL MACHINE: an interpreter over a heap whose addresses are numbers of its own; what it answers, the machine answers (04.sound). Methods are numbers; M: the method, L: its locals, st: the operand stack, H = ((the next address, whether it is known), heap by addresses, cells made, slots made). -/
abbrev xE : Type := (Nat × vp_A) ⊕ (Nat × List Value)
abbrev xHp : Type := Nat → xE
abbrev xH : Type := (Nat × Bool) × xHp × Nat × Nat
abbrev xL : Type := List (Option Value)
abbrev xO : Type := Option Value ⊕ Nat
abbrev xC : Type := Nat × Nat × xL × List Value × xH
abbrev xK : Type := Nat × List Value × Nat × Nat × xL × List Value × xH
abbrev xA : Type := xC ⊕ (xO × xH) ⊕ xK
/-- what a class's tables say of an entry of its pool -/
abbrev xR : Type := Nat × Nat × Nat
/-- a program: what its methods are (code, locals, return, rank, parameters with the receiver, its class's number, whether a constructor), what its pools say, its handlers (start, end, handler, class thrown) -/
abbrev xP : Type := (Nat → ByteArray) × (Nat → Nat) × (Nat → Option FieldType) × (Nat → Nat) × (Nat → Nat) × (Nat → Nat) × (Nat → Bool) × (Nat → Nat → xR) × (Nat → List (Nat × Nat × Nat × Nat)) × (Nat → Nat → FieldType × Bool) × (Nat → List Value) × Nat
def xB (P : xP) := P.1
def xNL (P : xP) := P.2.1
def xRt (P : xP) := P.2.2.1
def xRk (P : xP) := P.2.2.2.1
def xNa (P : xP) := P.2.2.2.2.1
def xKl (P : xP) := P.2.2.2.2.2.1
def xIn (P : xP) := P.2.2.2.2.2.2.1
def xPo (P : xP) := P.2.2.2.2.2.2.2.1
def xHd (P : xP) := P.2.2.2.2.2.2.2.2.1
def xFt (P : xP) := P.2.2.2.2.2.2.2.2.2.1
def xDf (P : xP) := P.2.2.2.2.2.2.2.2.2.2.1
def xT0 (P : xP) := P.2.2.2.2.2.2.2.2.2.2.2
def hset (h : xHp) (k : Nat) (e : xE) : xHp := fun j => if j = k then e else h j
theorem hset_s (h : xHp) (k : Nat) (e : xE) : hset h k e k = e := by simp [hset]
theorem hset_n {h : xHp} {k j : Nat} {e : xE} (hj : j ≠ k) : hset h k e j = h j := by simp [hset, hj]
/-- what stays of a local when its right neighbour is written -/
def k1 (a : Option Value) : Option Value := match a with
  | some (.long _) => none
  | some (.double _) => none
  | a => a
def xst : xL → Nat → Value → xL
  | _ :: l, 0, v => some v :: l
  | a :: _ :: l, 1, v => k1 a :: some v :: l
  | a :: b :: l, i + 2, v => a :: xst (b :: l) (i + 1) v
  | _, _, _ => []
def xst2 : xL → Nat → Value → xL
  | _ :: _ :: l, 0, v => some v :: none :: l
  | a :: _ :: _ :: l, 1, v => k1 a :: some v :: none :: l
  | a :: b :: l, i + 2, v => a :: xst2 (b :: l) (i + 1) v
  | _, _, _ => []
def xdrop : xL → Nat → xL
  | _ :: l, 0 => none :: l
  | a :: _ :: l, 1 => k1 a :: none :: l
  | a :: b :: l, i + 2 => a :: xdrop (b :: l) (i + 1)
  | _, _ => []
def xld (L : xL) (i : Nat) : Option Value := match L[i]? with
  | some (some v) => some v
  | _ => none
def xgo (M pc : Nat) (L : xL) (st : List Value) (H : xH) : Option xA := some (.inl (M, pc, L, st, H))
def xi1 (f : Int32 → Value) (st : List Value) : Option (List Value) := match st with
  | .int x :: r => some (f x :: r)
  | _ => none
def xi2 (f : Int32 → Int32 → Option Value) (st : List Value) : Option (List Value) := match st with
  | .int y :: .int x :: r => (f x y).map (· :: r)
  | _ => none
def xd2 (f : UInt64 → UInt64 → Option Value) (st : List Value) : Option (List Value) := match st with
  | .double y :: .double x :: r => (f x y).map (· :: r)
  | _ => none
def xf2 (f : UInt32 → UInt32 → Option Value) (st : List Value) : Option (List Value) := match st with
  | .float y :: .float x :: r => (f x y).map (· :: r)
  | _ => none
/-- instructions that touch the operand stack alone; their lengths -/
def xstk (I : Instr) (st : List Value) : Option (List Value) := match I with
  | .iconst i => some (.int (Int32.ofInt i) :: st)
  | .bipush i => some (.int (Int8.ofInt i).toInt32 :: st)
  | .sipush i => some (.int (Int16.ofInt i).toInt32 :: st)
  | .lconst n => some (.long (Int64.ofNat (n : Nat)) :: st)
  | .dconst n => if n = 0 then some (.double FP.dconst0 :: st) else none
  | .iadd => xi2 (fun x y => some (.int (x + y))) st
  | .isub => xi2 (fun x y => some (.int (x - y))) st
  | .imul => xi2 (fun x y => some (.int (x * y))) st
  | .iand => xi2 (fun x y => some (.int (x &&& y))) st
  | .ior => xi2 (fun x y => some (.int (x ||| y))) st
  | .ixor => xi2 (fun x y => some (.int (x ^^^ y))) st
  | .idiv => xi2 (fun x y => if y = 0 then none else some (.int (x / y))) st
  | .irem => xi2 (fun x y => if y = 0 then none else some (.int (x - x / y * y))) st
  | .ineg => xi1 (fun x => .int (-x)) st
  | .ishl => xi2 (fun x y => some (.int (x <<< (y &&& 31)))) st
  | .ishr => xi2 (fun x y => some (.int (x >>> (y &&& 31)))) st
  | .iushr => xi2 (fun x y => some (.int (x.toUInt32 >>> (y.toUInt32 &&& Int32.toUInt32 31)).toInt32)) st
  | .i2l => xi1 (fun x => .long x.toInt64) st
  | .i2c => xi1 (fun x => .int (x.toUInt32 % 65536).toInt32) st
  | .i2d => xi1 (fun x => .double (FP.i2d x)) st
  | .i2f => xi1 (fun x => .float (FP.i2f x)) st
  | .lcmp => match st with
    | .long y :: .long x :: r => some (.int (lg_cmp x y) :: r)
    | _ => none
  | .dcmp op => xd2 (fun x y => some (.int (Op.cmpValue (FP.dcmp x y) op))) st
  | .fcmp op => xf2 (fun x y => some (.int (Op.cmpValue (FP.fcmp x y) op))) st
  | .ddiv => xd2 (fun x y => if FP.ddiv x y &&& 0x7fffffffffffffff ≤ 0x7ff0000000000000 then some (.double (FP.ddiv x y)) else none) st
  | .fdiv => xf2 (fun x y => if FP.fdiv x y &&& 0x7fffffff ≤ 0x7f800000 then some (.float (FP.fdiv x y)) else none) st
  | .f2d => match st with
    | .float x :: r => if FP.f2d x &&& 0x7fffffffffffffff ≤ 0x7ff0000000000000 then some (.double (FP.f2d x) :: r) else none
    | _ => none
  | .dup => match st with
    | v :: r => if v.category = 1 then some (v :: v :: r) else none
    | _ => none
  | .dup2 => match st with
    | v :: w :: r => if v.category = 1 ∧ w.category = 1 then some (v :: w :: v :: w :: r) else none
    | _ => none
  | .pop => match st with
    | v :: r => if v.category = 1 then some r else none
    | _ => none
  | _ => none
/-- .. and the locals: what they push -/
def xload (I : Instr) (L : xL) : Option Value := match I with
  | .iload i => match xld L i with
    | some (.int x) => some (.int x)
    | _ => none
  | .iload_n i => match xld L i with
    | some (.int x) => some (.int x)
    | _ => none
  | .aload i => match xld L i with
    | some (.ref x) => some (.ref x)
    | _ => none
  | .aload_n i => match xld L i with
    | some (.ref x) => some (.ref x)
    | _ => none
  | .dload i => match xld L i with
    | some (.double x) => some (.double x)
    | _ => none
  | .fload i => match xld L i with
    | some (.float x) => some (.float x)
    | _ => none
  | _ => none
def xsto (nL : Nat) (I : Instr) (L : xL) (st : List Value) : Option (xL × List Value) := match I with
  | .istore i => match st with
    | .int x :: r => if i < nL then some (xst L i (.int x), r) else none
    | _ => none
  | .istore_n i => match st with
    | .int x :: r => if (i : Nat) < nL then some (xst L i (.int x), r) else none
    | _ => none
  | .astore i => match st with
    | .ref x :: r => if i < nL then some (xst L i (.ref x), r) else none
    | _ => none
  | .astore_n i => match st with
    | .ref x :: r => if (i : Nat) < nL then some (xst L i (.ref x), r) else none
    | _ => none
  | .fstore i => match st with
    | .float x :: r => if i < nL then some (xst L i (.float x), r) else none
    | _ => none
  | .dstore i => match st with
    | .double x :: r => if i + 1 < nL then some (xst2 L i (.double x), r) else none
    | _ => none
  | .iinc i n => match xld L i with
    | some (.int x) => if i < nL then some (xst L i (.int (x + Int32.ofInt n)), st) else none
    | _ => none
  | _ => none
/-- where a jump goes -/
def xtgt (pc : Nat) (off : Int) : Option Nat := if 0 ≤ (pc : Int) + off then some ((pc : Int) + off).toNat else none
def xcc (c : Jvm.ClassFile.Cond) (x y : Int32) : Bool := match c with
  | .eq => decide (x = y)
  | .ne => decide (¬ x = y)
  | .lt => decide (x < y)
  | .ge => decide (y ≤ x)
  | .gt => decide (y < x)
  | .le => decide (x ≤ y)
def xjmp (I : Instr) (pc len : Nat) (st : List Value) : Option (Nat × List Value) := match I with
  | .goto off => (xtgt pc off).map (·, st)
  | .ifCond c off => match st with
    | .int x :: r => (xtgt pc off).map fun t => if xcc c x 0 = true then (t, r) else (pc + 3, r)
    | _ => none
  | .if_icmp c off => match st with
    | .int y :: .int x :: r => (xtgt pc off).map fun t => if xcc c x y = true then (t, r) else (pc + 3, r)
    | _ => none
  | .ifnull off => match st with
    | .ref _ :: r => some (pc + 3, r)
    | .null :: r => (xtgt pc off).map (·, r)
    | _ => none
  | .tableswitch d lo hi offs => match st with
    | .int x :: r => if x.toInt < lo ∨ hi < x.toInt then (xtgt pc d).map (·, r) else match offs[(x.toInt - lo).toNat]? with
      | some off => (xtgt pc off).map (·, r)
      | none => none
    | _ => none
  | _ => none
/-- what is read of the heap: h r an object (class, fields) or an array (kind, length, contents); kinds: 0 int, 1 char, 2 boolean, 3 long, 4 double, 5 references; 7 an int array that is only read, 8 one that is only copied from -/
def xrd (P : xP) (M : Nat) (I : Instr) (st : List Value) (h : xHp) : Option (List Value) := match I with
  | .getfield i => match st with
    | .ref r :: s => match xPo P (xKl P M) i with
      | (0, ci, k) => match h r with
        | .inr (cj, fs) => if cj = ci then (fs[k]?).map (· :: s) else none
        | _ => none
      | _ => none
    | _ => none
  | .getstatic i => match xPo P (xKl P M) i with
    | (11, _, _) => some (.ref (xT0 P) :: st)
    | _ => none
  | .iaload => match st with
    | .int j :: .ref r :: s => match h r with
      | .inl (t, n, .inl f) => if (t = 0 ∨ t = 7) ∧ ¬ (j < 0 ∨ n ≤ j.toNatClampNeg) then some (.int (f j.toNatClampNeg) :: s) else none
      | _ => none
    | _ => none
  | .caload => match st with
    | .int j :: .ref r :: s => match h r with
      | .inl (t, n, .inl f) => if t = 1 ∧ ¬ (j < 0 ∨ n ≤ j.toNatClampNeg) then some (.int (f j.toNatClampNeg) :: s) else none
      | _ => none
    | _ => none
  | .baload => match st with
    | .int j :: .ref r :: s => match h r with
      | .inl (t, n, .inl f) => if t = 2 ∧ ¬ (j < 0 ∨ n ≤ j.toNatClampNeg) then some (.int (f j.toNatClampNeg) :: s) else none
      | _ => none
    | _ => none
  | .laload => match st with
    | .int j :: .ref r :: s => match h r with
      | .inl (t, n, .inr (.inl f)) => if t = 3 ∧ ¬ (j < 0 ∨ n ≤ j.toNatClampNeg) then some (.long (f j.toNatClampNeg) :: s) else none
      | _ => none
    | _ => none
  | .daload => match st with
    | .int j :: .ref r :: s => match h r with
      | .inl (t, n, .inr (.inr (.inr (.inl f)))) => if t = 4 ∧ ¬ (j < 0 ∨ n ≤ j.toNatClampNeg) then some (.double (f j.toNatClampNeg) :: s) else none
      | _ => none
    | _ => none
  | .aaload => match st with
    | .int j :: .ref r :: s => match h r with
      | .inl (t, n, .inr (.inr (.inr (.inr f)))) => if t = 5 ∧ ¬ (j < 0 ∨ n ≤ j.toNatClampNeg) then some (va_rf (f j.toNatClampNeg) :: s) else none
      | _ => none
    | _ => none
  | .arraylength => match st with
    | .ref r :: s => match h r with
      | .inl (t, a) => if t < 6 ∨ t = 7 then some (.int (Int32.ofNat a.1) :: s) else none
      | _ => none
    | _ => none
  | .ldc_w i => match xPo P (xKl P M) i with
    | (10, a, _) => some (.int (Int32.ofNat a) :: st)
    | _ => none
  | .ldc i => match xPo P (xKl P M) i with
    | (10, a, _) => some (.int (Int32.ofNat a) :: st)
    | _ => none
  | _ => none
/-- what is written; what is made -/
def xwr (P : xP) (M : Nat) (I : Instr) (st : List Value) (H : xH) : Option (List Value × xH) := match I with
  | .putfield i => match st with
    | v :: .ref r :: s => match xPo P (xKl P M) i with
      | (0, ci, k) => match H.2.1 r with
        | .inr (cj, fs) => if cj = ci ∧ k < fs.length ∧ narrow (xFt P ci k).1 v = v ∧ fits (xFt P ci k).1 v = true ∧ ((xFt P ci k).2 = true → xIn P M = true ∧ xKl P M = ci) then some (s, H.1, hset H.2.1 r (.inr (cj, fs.set k v)), H.2.2) else none
        | _ => none
      | _ => none
    | _ => none
  | .iastore => match st with
    | .int x :: .int j :: .ref r :: s => match H.2.1 r with
      | .inl (t, n, .inl f) => if t = 0 ∧ ¬ (j < 0 ∨ n ≤ j.toNatClampNeg) then some (s, H.1, hset H.2.1 r (.inl (t, n, .inl (upd f j.toNatClampNeg x))), H.2.2) else none
      | _ => none
    | _ => none
  | .castore => match st with
    | .int x :: .int j :: .ref r :: s => match H.2.1 r with
      | .inl (t, n, .inl f) => if t = 1 ∧ vp_nar .char x = x ∧ ¬ (j < 0 ∨ n ≤ j.toNatClampNeg) then some (s, H.1, hset H.2.1 r (.inl (t, n, .inl (upd f j.toNatClampNeg x))), H.2.2) else none
      | _ => none
    | _ => none
  | .bastore => match st with
    | .int x :: .int j :: .ref r :: s => match H.2.1 r with
      | .inl (t, n, .inl f) => if t = 2 ∧ vp_nar .boolean x = x ∧ ¬ (j < 0 ∨ n ≤ j.toNatClampNeg) then some (s, H.1, hset H.2.1 r (.inl (t, n, .inl (upd f j.toNatClampNeg x))), H.2.2) else none
      | _ => none
    | _ => none
  | .lastore => match st with
    | .long x :: .int j :: .ref r :: s => match H.2.1 r with
      | .inl (t, n, .inr (.inl f)) => if t = 3 ∧ ¬ (j < 0 ∨ n ≤ j.toNatClampNeg) then some (s, H.1, hset H.2.1 r (.inl (t, n, .inr (.inl (vp_updL f j.toNatClampNeg x)))), H.2.2) else none
      | _ => none
    | _ => none
  | .dastore => match st with
    | .double x :: .int j :: .ref r :: s => match H.2.1 r with
      | .inl (t, n, .inr (.inr (.inr (.inl f)))) => if t = 4 ∧ ¬ (j < 0 ∨ n ≤ j.toNatClampNeg) then some (s, H.1, hset H.2.1 r (.inl (t, n, .inr (.inr (.inr (.inl (vf_upd f j.toNatClampNeg x)))))), H.2.2) else none
      | _ => none
    | _ => none
  | .aastore => match st with
    | .ref x :: .int j :: .ref r :: s => match H.2.1 r with
      | .inl (t, n, .inr (.inr (.inr (.inr f)))) => match H.2.1 x with
        | .inr (cj, _) => if t = 5 ∧ cj = 2 ∧ ¬ (j < 0 ∨ n ≤ j.toNatClampNeg) then some (s, H.1, hset H.2.1 r (.inl (t, n, .inr (.inr (.inr (.inr (va_up f j.toNatClampNeg (some x))))))), H.2.2) else none
        | _ => none
      | _ => none
    | _ => none
  | .new i => match xPo P (xKl P M) i with
    | (1, ci, N) => if H.1.2 = true then some (.ref H.1.1 :: st, (H.1.1 + 1, true), hset H.2.1 H.1.1 (.inr (ci, xDf P ci)), H.2.2.1 + 1, H.2.2.2 + N) else none
    | _ => none
  | .newarray a => match st with
    | .int x :: s => if ¬ x < 0 ∧ x.toNatClampNeg ≤ 1000000 ∧ H.1.2 = true then match a with
      | .int => some (.ref H.1.1 :: s, (H.1.1 + 1, true), hset H.2.1 H.1.1 (.inl (0, x.toNatClampNeg, .inl (fun _ => 0))), H.2.2.1 + 1, H.2.2.2 + x.toNatClampNeg)
      | .char => some (.ref H.1.1 :: s, (H.1.1 + 1, true), hset H.2.1 H.1.1 (.inl (1, x.toNatClampNeg, .inl (fun _ => 0))), H.2.2.1 + 1, H.2.2.2 + x.toNatClampNeg)
      | .boolean => some (.ref H.1.1 :: s, (H.1.1 + 1, true), hset H.2.1 H.1.1 (.inl (2, x.toNatClampNeg, .inl (fun _ => 0))), H.2.2.1 + 1, H.2.2.2 + x.toNatClampNeg)
      | .long => some (.ref H.1.1 :: s, (H.1.1 + 1, true), hset H.2.1 H.1.1 (.inl (3, x.toNatClampNeg, .inr (.inl (fun _ => 0)))), H.2.2.1 + 1, H.2.2.2 + x.toNatClampNeg)
      | .double => some (.ref H.1.1 :: s, (H.1.1 + 1, true), hset H.2.1 H.1.1 (.inl (4, x.toNatClampNeg, .inr (.inr (.inr (.inl (fun _ => 0)))))), H.2.2.1 + 1, H.2.2.2 + x.toNatClampNeg)
      | _ => none
      else none
    | _ => none
  | .anewarray i => match st with
    | .int x :: s => match xPo P (xKl P M) i with
      | (1, ci, _) => if ci = 2 ∧ ¬ x < 0 ∧ x.toNatClampNeg ≤ 1000000 ∧ H.1.2 = true then some (.ref H.1.1 :: s, (H.1.1 + 1, true), hset H.2.1 H.1.1 (.inl (5, x.toNatClampNeg, .inr (.inr (.inr (.inr (fun _ => none)))))), H.2.2.1 + 1, H.2.2.2 + x.toNatClampNeg) else none
      | _ => none
    | _ => none
  | .invokestatic i => match st with
    | .int n :: .int dp :: .ref a :: .int sp :: .ref a0 :: s => match xPo P (xKl P M) i with
      | (8, _, _) => match H.2.1 a0 with
        | .inl (t0, n0, .inl f) => match H.2.1 a with
          | .inl (t1, n1, .inl g) => if (t0 = 0 ∨ t0 = 8) ∧ t1 = 0 ∧ ¬ sp < 0 ∧ ¬ dp < 0 ∧ ¬ n < 0 ∧ sp.toNatClampNeg + n.toNatClampNeg ≤ n0 ∧ dp.toNatClampNeg + n.toNatClampNeg ≤ n1 ∧ (s.map fun v => v.category).sum ≤ 8 then some (s, H.1, hset H.2.1 a (.inl (0, n1, .inl (va_cpy f g sp.toNatClampNeg dp.toNatClampNeg n.toNatClampNeg))), H.2.2) else none
          | _ => none
        | _ => none
      | _ => none
    | _ => none
  | .invokespecial i => match st with
    | .ref _ :: s => match xPo P (xKl P M) i with
      | (9, _, _) => if (s.map fun v => v.category).sum ≤ 8 then some (s, H) else none
      | _ => none
    | _ => none
  | _ => none
/-- how a method begins -/
def xent (P : xP) (M : Nat) (as : List Value) : xL := as.map some ++ List.replicate (xNL P M - as.length) none
def xcat1 (v : Value) : Bool := match v with
  | .long _ => false
  | .double _ => false
  | _ => true
/-- calls and ends -/
def xcall (P : xP) (M M' pc : Nat) (L : xL) (st : List Value) (H : xH) : Option xA :=
  if xNa P M' ≤ st.length ∧ (st.take (xNa P M')).all xcat1 = true ∧ ((st.drop (xNa P M')).map fun v => v.category).sum ≤ 8 ∧ xRk P M' < xRk P M then some (.inr (.inr (M', (st.take (xNa P M')).reverse, M, pc, L, st.drop (xNa P M'), H))) else none
def xend (P : xP) (M pc : Nat) (I : Instr) (L : xL) (st : List Value) (H : xH) : Option xA := match I with
  | .ireturn => match st with
    | [.int v] => match xRt P M with
      | some ty => if narrow ty (.int v) = .int v then some (.inr (.inl (.inl (some (.int v)), H))) else none
      | none => none
    | _ => none
  | .dreturn => match st with
    | [.double v] => if xRt P M = some .double then some (.inr (.inl (.inl (some (.double v)), H))) else none
    | _ => none
  | .freturn => match st with
    | [.float v] => if xRt P M = some .float then some (.inr (.inl (.inl (some (.float v)), H))) else none
    | _ => none
  | .return_ => match st with
    | [] => if xRt P M = none then some (.inr (.inl (.inl none, H))) else none
    | _ => none
  | .invokevirtual i => match xPo P (xKl P M) i with
    | (3, M', _) => match (st.take (xNa P M')).reverse with
      | .ref r :: _ => match H.2.1 r with
        | .inr (cj, _) => if cj = xKl P M' then xcall P M M' pc L st H else none
        | _ => none
      | _ => none
    | _ => none
  | .invokestatic i => match xPo P (xKl P M) i with
    | (4, M', _) => xcall P M M' pc L st H
    | (5, M', _) => xcall P M M' pc L st H
    | _ => none
  | .invokespecial i => match xPo P (xKl P M) i with
    | (6, M', _) => match (st.take (xNa P M')).reverse with
      | .ref _ :: _ => xcall P M M' pc L st H
      | _ => none
    | (7, M', _) => match (st.take (xNa P M')).reverse with
      | .ref _ :: _ => xcall P M M' pc L st H
      | _ => none
    | _ => none
  | .new i => match xPo P (xKl P M) i with
    | (2, E, _) => match decode (xB P M) (pc + 3), decode (xB P M) (pc + 4) with
      | .ok (.dup, 1), .ok (.ldc is, 2) => match decode (xB P M) (pc + 6), decode (xB P M) (pc + 9) with
        | .ok (.invokespecial ic, 3), .ok (.athrow, 1) => if xPo P (xKl P M) ic = (13, E, i) ∧ (xPo P (xKl P M) is).1 = 14 ∧ xHd P M = [] ∧ (st.map fun v => v.category).sum ≤ 8 then some (.inr (.inl (.inr E, (H.1.1, false), H.2.1, H.2.2.1 + 1, H.2.2.2 + 6))) else none
        | _, _ => none
      | .ok (.dup, 1), .ok (.ldc_w is, 3) => match decode (xB P M) (pc + 7), decode (xB P M) (pc + 10) with
        | .ok (.invokespecial ic, 3), .ok (.athrow, 1) => if xPo P (xKl P M) ic = (13, E, i) ∧ (xPo P (xKl P M) is).1 = 14 ∧ xHd P M = [] ∧ (st.map fun v => v.category).sum ≤ 8 then some (.inr (.inl (.inr E, (H.1.1, false), H.2.1, H.2.2.1 + 1, H.2.2.2 + 6))) else none
        | _, _ => none
      | _, _ => none
    | _ => none
  | _ => none
def xlen (I : Instr) (len : Nat) : Nat := match I with
  | .bipush _ => 2
  | .sipush _ => 3
  | .iload _ => 2
  | .aload _ => 2
  | .dload _ => 2
  | .fload _ => 2
  | .istore _ => 2
  | .astore _ => 2
  | .fstore _ => 2
  | .dstore _ => 2
  | .iinc _ _ => 3
  | .goto _ => 3
  | .ifCond _ _ => 3
  | .if_icmp _ _ => 3
  | .ifnull _ => 3
  | .tableswitch _ _ _ _ => len
  | .getfield _ => 3
  | .putfield _ => 3
  | .getstatic _ => 3
  | .new _ => 3
  | .newarray _ => 2
  | .anewarray _ => 3
  | .ldc _ => 2
  | .ldc_w _ => 3
  | .invokevirtual _ => 3
  | .invokestatic _ => 3
  | .invokespecial _ => 3
  | _ => 1
/-- one step: on, an end, or a call -/
def xins (P : xP) (M pc len : Nat) (I : Instr) (L : xL) (st : List Value) (H : xH) : Option xA := match xstk I st with
  | some s => xgo M (pc + len) L s H
  | none => match xload I L with
    | some v => xgo M (pc + len) L (v :: st) H
    | none => match xsto (xNL P M) I L st with
      | some q => xgo M (pc + len) q.1 q.2 H
      | none => match xjmp I pc len st with
        | some q => xgo M q.1 L q.2 H
        | none => match xrd P M I st H.2.1 with
          | some s => xgo M (pc + len) L s H
          | none => match xwr P M I st H with
            | some q => xgo M (pc + len) L q.1 q.2
            | none => xend P M pc I L st H
def xact (P : xP) (M pc : Nat) (L : xL) (st : List Value) (H : xH) : Option xA := match decode (xB P M) pc with
  | .ok (I, len) => if xlen I len = len then xins P M pc len I L st H else none
  | .error _ => none
def xcatch (P : xP) (M pc E : Nat) (L : xL) : Option (Nat × xL) := match (xHd P M).find? (fun q => decide (q.1 ≤ pc) && decide (pc < q.2.1) && decide (q.2.2.2 = E)) with
  | some q => match decode (xB P M) q.2.2.1 with
    | .ok (.astore i, 2) => if i < xNL P M then some (q.2.2.1 + 2, xdrop L i) else none
    | .ok (.astore_n i, 1) => if (i : Nat) < xNL P M then some (q.2.2.1 + 1, xdrop L i) else none
    | _ => none
  | none => none
/-- a call that may throw: of a method that a receiver selects -/
def xvirt (P : xP) (M pc : Nat) : Bool := match decode (xB P M) pc with
  | .ok (.invokevirtual i, _) => decide ((xPo P (xKl P M) i).1 = 3)
  | _ => false
/-- the run, with fuel -/
def xrun (P : xP) : Nat → xC → Option (xO × xH)
  | 0, _ => none
  | n + 1, (M, pc, L, st, H) => match xact P M pc L st H with
    | some (.inl c) => xrun P n c
    | some (.inr (.inl r)) => some r
    | some (.inr (.inr (M', as, M0, pc0, L0, rest, H0))) => match xrun P n (M', 0, xent P M' as, [], (H0.1, H0.2.1, 0, 0)) with
      | some (.inl v, H1) => xrun P n (M0, pc0 + 3, L0, v.toList ++ rest, (H1.1, H1.2.1, H0.2.2.1 + H1.2.2.1, H0.2.2.2 + H1.2.2.2))
      | some (.inr E, H1) => if xvirt P M0 pc0 = true then match xcatch P M0 pc0 E L0 with
        | some q => xrun P n (M0, q.1, q.2, [], (H1.1, H1.2.1, H0.2.2.1 + H1.2.2.1, H0.2.2.2 + H1.2.2.2))
        | none => if xHd P M0 = [] then some (.inr E, H1.1, H1.2.1, H0.2.2.1 + H1.2.2.1, H0.2.2.2 + H1.2.2.2) else none
        else none
      | none => none
    | none => none
theorem xrun_mono (P : xP) : ∀ (n : Nat) (c : xC) (r : xO × xH), xrun P n c = some r → xrun P (n + 1) c = some r := by
  intro n
  induction n with
  | zero => intro c r h; cases h
  | succ n ih =>
    intro c r h
    obtain ⟨M, pc, L, st, H⟩ := c
    rw [xrun] at h ⊢
    split at h
    · exact ih _ _ h
    · exact h
    · split at h
      next h2 => rw [ih _ _ h2]; exact ih _ _ h
      next h2 =>
        rw [ih _ _ h2]
        dsimp only at h ⊢
        split at h
        next hv =>
          rw [if_pos hv]
          split at h
          next h3 => exact ih _ _ h
          next h3 => exact h
        next => cases h
      next => cases h
    · cases h
theorem xrun_le {P : xP} {n m : Nat} (h : n ≤ m) {c : xC} {r : xO × xH} (hr : xrun P n c = some r) : xrun P m c = some r := by
  induction h with
  | refl => exact hr
  | step _ ih => exact xrun_mono P _ _ _ ih
theorem xrun_det {P : xP} {n m : Nat} {c : xC} {r r2 : xO × xH} (h1 : xrun P n c = some r) (h2 : xrun P m c = some r2) : r = r2 := by
  have a := xrun_le (Nat.le_max_left n m) h1
  have b := xrun_le (Nat.le_max_right n m) h2
  exact Option.some.inj (a.symm.trans b)
/-- the run, to its end -/
noncomputable def XR (P : xP) (M pc : Nat) (L : xL) (st : List Value) (H : xH) : Option (xO × xH) := by
  classical exact if h : ∃ r n, xrun P n (M, pc, L, st, H) = some r then some h.choose else none
theorem XR_iff {P : xP} {M pc : Nat} {L : xL} {st : List Value} {H : xH} {r : xO × xH} : XR P M pc L st H = some r ↔ ∃ n, xrun P n (M, pc, L, st, H) = some r := by
  unfold XR
  constructor
  · intro h
    split at h
    next hx =>
      obtain ⟨n, hn⟩ := hx.choose_spec
      cases h
      exact ⟨n, hn⟩
    next => cases h
  · rintro ⟨n, hn⟩
    have hx : ∃ r n, xrun P n (M, pc, L, st, H) = some r := ⟨r, n, hn⟩
    rw [dif_pos hx]
    obtain ⟨m, hm⟩ := hx.choose_spec
    rw [xrun_det hm hn]
/-- a method, called: what it answers and what the heap is behind it; the cells and slots that it made -/
noncomputable def CA (P : xP) (M : Nat) (as : List Value) (n : Nat × Bool) (h : xHp) : Option (xO × xH) := XR P M 0 (xent P M as) [] (n, h, 0, 0)
/-- behind a call -/
noncomputable def xback (P : xP) (M pc : Nat) (L : xL) (rest : List Value) (c z : Nat) (q : Option (xO × xH)) : Option (xO × xH) := match q with
  | some (.inl v, H1) => XR P M (pc + 3) L (v.toList ++ rest) (H1.1, H1.2.1, c + H1.2.2.1, z + H1.2.2.2)
  | some (.inr E, H1) => if xvirt P M pc = true then match xcatch P M pc E L with
    | some q => XR P M q.1 q.2 [] (H1.1, H1.2.1, c + H1.2.2.1, z + H1.2.2.2)
    | none => if xHd P M = [] then some (.inr E, H1.1, H1.2.1, c + H1.2.2.1, z + H1.2.2.2) else none
    else none
  | none => none
noncomputable def xnext (P : xP) (a : Option xA) : Option (xO × xH) := match a with
  | some (.inl (M, pc, L, st, H)) => XR P M pc L st H
  | some (.inr (.inl r)) => some r
  | some (.inr (.inr (M', as, M0, pc0, L0, rest, H0))) => xback P M0 pc0 L0 rest H0.2.2.1 H0.2.2.2 (CA P M' as H0.1 H0.2.1)
  | none => none
theorem XR_unfold (P : xP) (M pc : Nat) (L : xL) (st : List Value) (H : xH) : XR P M pc L st H = xnext P (xact P M pc L st H) := by
  refine Option.ext fun r => ?_
  rw [XR_iff]
  cases ha : xact P M pc L st H with
  | none =>
    refine ⟨fun ⟨n, hn⟩ => ?_, fun h => by cases h⟩
    cases n with
    | zero => cases hn
    | succ n => rw [xrun, ha] at hn; cases hn
  | some a =>
    rcases a with ⟨M1, pc1, L1, st1, H1⟩ | r1 | ⟨M', as, M0, pc0, L0, rest, H0⟩
    · show _ ↔ XR P M1 pc1 L1 st1 H1 = some r
      rw [XR_iff]
      refine ⟨fun ⟨n, hn⟩ => ?_, fun ⟨n, hn⟩ => ⟨n + 1, by rw [xrun, ha]; exact hn⟩⟩
      cases n with
      | zero => cases hn
      | succ n => rw [xrun, ha] at hn; exact ⟨n, hn⟩
    · refine ⟨fun ⟨n, hn⟩ => ?_, fun h => ⟨1, by rw [xrun, ha]; exact h⟩⟩
      cases n with
      | zero => cases hn
      | succ n => rw [xrun, ha] at hn; exact hn
    · show _ ↔ xback P M0 pc0 L0 rest H0.2.2.1 H0.2.2.2 (CA P M' as H0.1 H0.2.1) = some r
      refine ⟨fun ⟨n, hn⟩ => ?_, fun h => ?_⟩
      · cases n with
        | zero => cases hn
        | succ n =>
          rw [xrun, ha] at hn
          dsimp only at hn
          split at hn
          next v H1 h2 =>
            rw [show CA P M' as H0.1 H0.2.1 = some (.inl v, H1) from XR_iff.mpr ⟨n, h2⟩]
            exact XR_iff.mpr ⟨n, hn⟩
          next E H1 h2 =>
            rw [show CA P M' as H0.1 H0.2.1 = some (.inr E, H1) from XR_iff.mpr ⟨n, h2⟩]
            dsimp only [xback]
            split at hn
            next hv =>
              rw [if_pos hv]
              split at hn
              next h3 => exact XR_iff.mpr ⟨n, hn⟩
              next h3 => exact hn
            next => cases hn
          next => cases hn
      · cases hc : CA P M' as H0.1 H0.2.1 with
        | none => rw [hc] at h; cases h
        | some q =>
          obtain ⟨o, H1⟩ := q
          obtain ⟨n1, h1⟩ := XR_iff.mp hc
          rw [hc] at h
          cases o with
          | inl v =>
            obtain ⟨n2, h2⟩ := XR_iff.mp h
            refine ⟨max n1 n2 + 1, ?_⟩
            rw [xrun, ha]
            dsimp only
            rw [xrun_le (Nat.le_max_left n1 n2) h1]
            exact xrun_le (Nat.le_max_right n1 n2) h2
          | inr E =>
            dsimp only [xback] at h
            by_cases hv : xvirt P M0 pc0 = true
            case neg => rw [if_neg hv] at h; cases h
            rw [if_pos hv] at h
            cases h3 : xcatch P M0 pc0 E L0 with
            | none =>
              rw [h3] at h
              refine ⟨n1 + 1, ?_⟩
              rw [xrun, ha]
              dsimp only
              rw [h1]
              dsimp only
              rw [if_pos hv, h3]
              exact h
            | some q =>
              rw [h3] at h
              obtain ⟨n2, h2⟩ := XR_iff.mp h
              refine ⟨max n1 n2 + 1, ?_⟩
              rw [xrun, ha]
              dsimp only
              rw [xrun_le (Nat.le_max_left n1 n2) h1]
              dsimp only
              rw [if_pos hv, h3]
              exact xrun_le (Nat.le_max_right n1 n2) h2
