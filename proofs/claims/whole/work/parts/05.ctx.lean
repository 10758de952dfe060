/-! what stays of the tables and of old cells, carried from a method to what it calls -/
def xNf (w : Jvm.Cond) : Bool := match w with
  | .methodLinkNest _ _ _ _ => true
  | .fieldLinkNest _ _ _ _ _ _ => true
  | .declares _ => true
  | .castable _ _ => true
  | _ => false
theorem xNf_tab {w : Jvm.Cond} (h : xNf w = true) : w.onTables = true := by
  cases w <;> first | rfl | (simp [xNf] at h)
theorem xNf_warm {w : Jvm.Cond} (h : xNf w = true) {s U : State} (hW : s.WarmedH U.vm) (hZ : va_Nw w s) : va_Nw w U := by
  cases w <;> first | exact va_Nw.warmM hW hZ | exact va_Nw.warmF hW hZ | exact va_Nw.warmD hW hZ | exact va_Nw.warmC hW hZ | (simp [xNf] at h)
/-- Ne: words that are carried one by one; St: texts; Nc: pairs of classes apart; t0: the static array; b0: the script -/
def xStat (Ne : List Jvm.Cond) (St : List (String × Nat × String)) (Nc : List (String × String)) (t0 b0 LL : Nat) (xs : Nat → Int32) (A : Nat → Prop) (U : State) : Prop :=
  (∀ w ∈ Ne, xNf w = true ∧ va_Nw w U) ∧ (∀ q ∈ St, ∃ sa, vk_R q.1 q.2.1 q.2.2 sa U) ∧ (∀ q ∈ Nc, va_Nc q.1 q.2 U) ∧ va_AO "TheatreBoxOffice$Office" U ∧
  vx_Zq Bundle.tN "UNASSIGNED_STACK" Bundle.steD A U U.heap ∧ vx_Zq Bundle.tN "SUPPRESSED_SENTINEL" Bundle.listD A U U.heap ∧
  va_Z "TheatreBoxOffice" "FIRST_PRICES" "[I" (.ref t0) A U U.heap ∧ (va_X t0 4 xFP U U.heap ∧ t0 < U.heap.size ∧ ¬ A t0) ∧ va_X b0 LL xs U U.heap ∧ b0 < U.heap.size ∧ ¬ A b0
theorem xStat.same {Ne : List Jvm.Cond} {St : List (String × Nat × String)} {Nc : List (String × String)} {t0 b0 LL : Nat} {xs : Nat → Int32} {A : Nat → Prop} {u U : State} (hv : U.vm = u.vm) (hh : U.heap = u.heap) (h : xStat Ne St Nc t0 b0 LL xs A u) : xStat Ne St Nc t0 b0 LL xs A U := by
  obtain ⟨h1, h2, h3, h4, h5, h6, h7, h8, h9, h10, h11⟩ := h
  have hal : u.vm.Alike U.vm := by rw [hv]; exact Vm.Alike.refl u.vm
  refine ⟨fun w hw => ⟨(h1 w hw).1, va_Nw.same (xNf_tab (h1 w hw).1) hv.symm (h1 w hw).2⟩, fun q hq => ?_, fun q hq => va_Nc.moved hal (h3 q hq), va_AO.moved hal h4, ?_, ?_, ?_, ?_, ?_, ?_, h11⟩
  · obtain ⟨sa, hsa⟩ := h2 q hq
    exact ⟨sa, vk_R.same hv hsa⟩
  · rw [hh]; exact vx_Zq.moved hal h5
  · rw [hh]; exact vx_Zq.moved hal h6
  · rw [hh]; exact va_Z.moved hal h7
  · rw [hh]; exact ⟨va_X.moved hal h8.1, h8.2⟩
  · rw [hh]; exact va_X.moved hal h9
  · rw [hh]; exact h10
theorem xStat.on {Ne : List Jvm.Cond} {St : List (String × Nat × String)} {Nc : List (String × String)} {t0 b0 LL : Nat} {xs : Nat → Int32} {A A1 : Nat → Prop} {s U : State} {H : Heap} {locs : List Loc} (hW : s.WarmedH U.vm) (hU : U.heap = H) (hS : va_S A s.heap H locs) (hA : ∀ q, A1 q → A q) (h : xStat Ne St Nc t0 b0 LL xs A s) : xStat Ne St Nc t0 b0 LL xs A1 U := by
  obtain ⟨h1, h2, h3, h4, h5, h6, h7, h8, h9, h10, h11⟩ := h
  have hal := hW.alike
  have hk : ∀ a : Nat, a < s.heap.size → ¬ A a → H[a]? = s.heap[a]? := fun a z1 z2 => hS.2.1 a z1 z2
  refine ⟨fun w hw => ⟨(h1 w hw).1, xNf_warm (h1 w hw).1 hW (h1 w hw).2⟩, fun q hq => ?_, fun q hq => va_Nc.moved hal (h3 q hq), va_AO.moved hal h4, ?_, ?_, ?_, ?_, ?_, ?_, fun z => h11 (hA _ z)⟩
  · obtain ⟨sa, hsa⟩ := h2 q hq
    exact ⟨sa, vk_R.warm hW hsa⟩
  · rw [hU]; exact (vx_Zq.moved hal (h5.kept hk)).narrow hA
  · rw [hU]; exact (vx_Zq.moved hal (h6.kept hk)).narrow hA
  · rw [hU]; exact (va_Z.moved hal (h7.kept hk)).narrow hA
  · rw [hU]; exact ⟨va_X.moved hal (h8.1.kept (hk t0 h8.2.1 h8.2.2)), Nat.lt_of_lt_of_le h8.2.1 hS.1, fun z => h8.2.2 (hA _ z)⟩
  · rw [hU]; exact va_X.moved hal (h9.kept (hk b0 h10 h11))
  · rw [hU]; exact Nat.lt_of_lt_of_le h10 hS.1
/-- the words of a method: its code's, then all that are good -/
def xWd (P : xP) (Y : Nat → MethodName) (Hh : Nat → List (Nat × Nat × Nat × Nat)) (M : Nat) : Jvm.Cond := match Hh M with
  | [] => .code (Y M) (xB P M) (xNL P M) (xRt P M)
  | hh => .codeWith (Y M) (xB P M) (xNL P M) (xRt P M) hh
/-- a method, by the tables -/
def okM (P : xP) (Y : Nat → MethodName) (R : Nat → String) (Ex : Nat → String) (Hh : Nat → List (Nat × Nat × Nat × Nat)) (B Ne : List Jvm.Cond) (Nc : List (String × String)) (M : Nat) : Prop :=
  (plainFor (Y M) = true ∧ (Y M).cls = R (xKl P M) ∧ (xIn P M = true → (Y M).name = "<init>")) ∧ xWd P Y Hh M ∈ B ∧ Jvm.Cond.initialized (Y M).cls ∈ B ∧ ((Y M).cls ≠ "java/lang/invoke/MethodHandle" ∧ (Y M).cls ≠ "java/lang/invoke/VarHandle") ∧ xNL P M ≤ 21 ∧ xNa P M ≤ xNL P M ∧
  (Hh M = [] ↔ xHd P M = []) ∧ ((Hh M).map fun q => (q.1, q.2.1, q.2.2.1)) = ((xHd P M).map fun q => (q.1, q.2.1, q.2.2.1)) ∧
  (∀ (k : Nat) (q q' : Nat × Nat × Nat × Nat), (Hh M)[k]? = some q → (xHd P M)[k]? = some q' → q.2.2.2 ≠ 0 ∧ Jvm.Cond.classLink (R (xKl P M)) q.2.2.2 (Ex q'.2.2.2) ∈ B ∧ Jvm.Cond.castable (Ex q'.2.2.2) (Ex q'.2.2.2) ∈ Ne ∧ (∀ E, E < 6 → E ≠ q'.2.2.2 → (Ex E, Ex q'.2.2.2) ∈ Nc))
def xNames : List String := ["java/lang/RuntimeException", "java/lang/Exception"]
def xPar (y : MethodName) (n : Nat) : Prop := (parseMethodDescriptor y.desc).map (fun d => d.parameters.length) = some n
/-- an entry of a pool, by the tables; own: the class's number, i: the entry -/
def okR (P : xP) (Y : Nat → MethodName) (R : Nat → String) (T : Nat → u_T) (N : Nat → Nat) (Ex : Nat → String) (Hh : Nat → List (Nat × Nat × Nat × Nat)) (B Ne : List Jvm.Cond) (St : List (String × Nat × String)) (NC NM : Nat) (own i : Nat) (r : xR) : Prop := match r with
  | (0, ci, k) => ci < NC ∧ k < N ci ∧ Jvm.Cond.fieldLink (R own) i (T ci k).1 (T ci k).2.1 (T ci k).2.2.1 ∈ B
  | (1, ci, n) => ci < NC ∧ n = N ci ∧ Jvm.Cond.classLink (R own) i (R ci) ∈ B ∧ Jvm.Cond.instantiable (R ci) n ∈ B ∧ Jvm.Cond.initialized (R ci) ∈ B
  | (2, E, _) => E < 6 ∧ Jvm.Cond.classLink (R own) i (Ex E) ∈ B ∧ Jvm.Cond.initialized (Ex E) ∈ B ∧ Bundle.fit (Ex E) = true
  | (3, M', _) => M' < NM ∧ Hh M' = [] ∧ Jvm.Cond.methodLink (R own) i (Y M') ∈ B ∧ Jvm.Cond.instanceMethod (Y M') ∈ B ∧ Jvm.Cond.selects (R (xKl P M')) (Y M') (Y M') ∈ B ∧ xKl P M' < NC ∧ 0 < xNa P M' ∧ xPar (Y M') (xNa P M' - 1)
  | (4, M', _) => M' < NM ∧ Jvm.Cond.methodLink (R own) i (Y M') ∈ B ∧ Jvm.Cond.static (Y M') ∈ B ∧ xPar (Y M') (xNa P M')
  | (5, M', _) => M' < NM ∧ Hh M' = [] ∧ (∃ host, Jvm.Cond.methodLinkNest (R own) i (Y M') host ∈ Ne) ∧ Jvm.Cond.static (Y M') ∈ B ∧ xPar (Y M') (xNa P M')
  | (6, M', _) => M' < NM ∧ Hh M' = [] ∧ Jvm.Cond.methodLink (R own) i (Y M') ∈ B ∧ Jvm.Cond.instanceMethod (Y M') ∈ B ∧ (Y M').name = "<init>" ∧ xRt P M' = none ∧ 0 < xNa P M' ∧ xPar (Y M') (xNa P M' - 1)
  | (7, M', _) => M' < NM ∧ Hh M' = [] ∧ (∃ host, Jvm.Cond.methodLinkNest (R own) i (Y M') host ∈ Ne) ∧ Jvm.Cond.instanceMethod (Y M') ∈ B ∧ (Y M').name = "<init>" ∧ xRt P M' = none ∧ 0 < xNa P M' ∧ xPar (Y M') (xNa P M' - 1)
  | (8, _, _) => Jvm.Cond.methodLink (R own) i arraycopyName ∈ B ∧ Jvm.Cond.native arraycopyName ∈ B ∧ Jvm.Cond.static arraycopyName ∈ B ∧ Jvm.Cond.initialized "java/lang/System" ∈ B
  | (9, _, _) => Jvm.Cond.methodLink (R own) i Lib.objectInit ∈ B ∧ Jvm.Cond.instanceMethod Lib.objectInit ∈ B ∧ Jvm.Cond.code Lib.objectInit ⟨#[0xb1]⟩ 1 none ∈ B
  | (10, a, _) => Jvm.Cond.constant (R own) i (Int32.ofNat a) ∈ B
  | (11, _, _) => Jvm.Cond.fieldLinkNest (R own) i "TheatreBoxOffice" "FIRST_PRICES" "[I" "TheatreBoxOffice" ∈ Ne
  | (13, E, _) => ∀ w ∈ xAtS (R own) i (Ex E) xNames, w ∈ B ∨ w ∈ Ne
  | (14, _, _) => ∃ tx, (R own, i, tx) ∈ St
  | _ => True
/-- a class, by the tables -/
def okC (P : xP) (R : Nat → String) (T : Nat → u_T) (N : Nat → Nat) (ty : Nat → Nat → FieldType) (cl : List vw_C) (B : List Jvm.Cond) (ci : Nat) : Prop :=
  cl[ci]? = some (R ci, T ci, N ci) ∧ (∀ w ∈ u_ws (R ci) (T ci) (N ci), w ∈ B) ∧ (∀ k, k < N ci → parseFieldDescriptor (T ci k).2.2.1 = some (ty ci k)) ∧ (∀ a, a < N ci → ∀ b, b < N ci → a ≠ b → (T ci a).2.1 ≠ (T ci b).2.1) ∧ (∀ k, k < N ci → (T ci k).1 = R ci ∧ xFt P ci k = (ty ci k, (T ci k).2.2.2)) ∧ (∀ j, j < N ci → defaultValue (ty ci j) = vp_V (xDf P ci) j)
def xOK (P : xP) (Y : Nat → MethodName) (R : Nat → String) (T : Nat → u_T) (N : Nat → Nat) (ty : Nat → Nat → FieldType) (cl : List vw_C) (Ex : Nat → String) (Hh : Nat → List (Nat × Nat × Nat × Nat)) (B Ne : List Jvm.Cond) (St : List (String × Nat × String)) (Nc : List (String × String)) (NC NM : Nat) : Prop :=
  (∀ M, M < NM → okM P Y R Ex Hh B Ne Nc M) ∧ (∀ own i, okR P Y R T N Ex Hh B Ne St NC NM own i (xPo P own i)) ∧ (∀ ci, ci < NC → okC P R T N ty cl B ci) ∧ (∀ w ∈ B, goodWord w = true) ∧ (NC ≤ 999 ∧ 2 < NC ∧ R 2 = "TheatreBoxOffice$Office") ∧ (Jvm.Cond.arrayClass .int ∈ B ∧ Jvm.Cond.arrayClass .char ∈ B ∧ Jvm.Cond.arrayClass .boolean ∈ B ∧ Jvm.Cond.arrayClass .long ∈ B ∧ Jvm.Cond.arrayClass .double ∈ B)
/-- a frame of the method M: what its run may use -/
def xCtx (P : xP) (Y : Nat → MethodName) (R : Nat → String) (cl : List vw_C) (Hh : Nat → List (Nat × Nat × Nat × Nat)) (B Ne : List Jvm.Cond) (St : List (String × Nat × String)) (Nc : List (String × String)) (D : va_G) (cid : Nat → ClassId) (lo b0 LL : Nat) (xs : Nat → Int32) (M : Nat)
    (p : Program) (l : Launch) (Rm : Room) (s : State) (m : MethodId) (args : Array Value) (meth : Method) (c : Code) (A : Nat → Prop) : Prop :=
  (p.tables.exec = Jvm.exec ∧ c.code = xB P M ∧ c.maxLocals = xNL P M ∧ meth.sig.returnType = xRt P M ∧ meth.locks = false ∧ meth.name = (Y M).name ∧ s.vm.findClass (R (xKl P M)) = some m.cls ∧ c.exceptionTable.toList = tableOf (Hh M)) ∧
  (∀ w ∈ B, w.before args s = true) ∧ va_K D cl (xtys cid) s ∧ xStat Ne St Nc (xT0 P) b0 LL xs A s ∧ (∀ q, s.heap.size ≤ q → A q) ∧ (∀ q, A q → lo ≤ q) ∧ lo ≤ s.heap.size ∧
  xRk P M + 7 ≤ Rm.frames ∧ 40 * xRk P M + 150 ≤ Rm.locals ∧ l.stackTraces = false
/-- a state of it -/
def xInv (P : xP) (cl : List vw_C) (D : va_G) (cid : Nat → ClassId) (lo b0 LL : Nat) (xs : Nat → Int32) (M : Nat) (s : State) (A : Nat → Prop) (L : xL) (H : xH) (Hp : Heap) (locs : List Loc) (ls : Array Slot) : Prop :=
  va_P D cl (xW cid lo H.1.1 H.2.1) Hp ∧ (∀ q, lo ≤ q → q < H.1.1 → A q) ∧ va_S A s.heap Hp locs ∧ lv_has ls (xNL P M) (xPr 0 L) ∧ xJ lo H.1.1 (xT0 P) b0 LL xs H.2.1 ∧ lo ≤ H.1.1 ∧ (H.1.2 = true → H.1.1 = s.heap.size + H.2.2.1)
