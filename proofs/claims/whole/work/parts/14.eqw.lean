section EQW
variable {P : xP} {M pc : Nat} {L L' : xL} {st s' : List Value} {H : xH} {I : Instr} {len : Nat}
theorem XR_wr (hd : decode (xB P M) pc = .ok (I, len)) (hl : xlen I len = len) (h0 : xstk I st = none) (h1 : xload I L = none) (h2 : xsto (xNL P M) I L st = none) (h3 : xjmp I pc len st = none) (h4 : xrd P M I st H.2.1 = none) (hw : xwr P M I st H = none → xend P M pc I L st H = none) :
    XR P M pc L st H = match xwr P M I st H with
      | some q => XR P M (pc + len) L q.1 q.2
      | none => none := by
  rw [XR_unfold, xact_of hd hl]
  unfold xins
  rw [h0, h1, h2, h3, h4]
  dsimp only
  cases h : xwr P M I st H with
  | some s => rfl
  | none =>
    dsimp only
    rw [hw h]
    rfl
theorem XR_wrS (hd : decode (xB P M) pc = .ok (I, len)) (hl : xlen I len = len) (h0 : xstk I st = none) (h1 : xload I L = none) (h2 : xsto (xNL P M) I L st = none) (h3 : xjmp I pc len st = none) (h4 : xrd P M I st H.2.1 = none) {q : List Value × xH} (hw : xwr P M I st H = some q) :
    XR P M pc L st H = XR P M (pc + len) L q.1 q.2 := by
  rw [XR_unfold, xact_of hd hl]
  unfold xins
  rw [h0, h1, h2, h3, h4, hw]
  rfl
/-- a field of a type is written -/
def xpf (e : xE) (ci k : Nat) (v : Value) (K : xE → Option (xO × xH)) : Option (xO × xH) := match e with
  | .inr (cj, fs) => if cj = ci ∧ k < fs.length then K (.inr (cj, fs.set k v)) else none
  | _ => none
theorem XR_put {v : Value} {i ci k r : Nat} (hd : decode (xB P M) pc = .ok (.putfield i, 3)) (hp : xPo P (xKl P M) i = (0, ci, k)) (hn : narrow (xFt P ci k).1 v = v ∧ fits (xFt P ci k).1 v = true) (hf : (xFt P ci k).2 = true → xIn P M = true ∧ xKl P M = ci) (h0 : xstk (.putfield i) (v :: .ref r :: st) = none) :
    XR P M pc L (v :: .ref r :: st) H = xpf (H.2.1 r) ci k v (fun e => XR P M (pc + 3) L st (H.1, hset H.2.1 r e, H.2.2)) := by
  have key : xwr P M (.putfield i) (v :: .ref r :: st) H = (match H.2.1 r with
      | .inr (cj, fs) => if cj = ci ∧ k < fs.length ∧ narrow (xFt P ci k).1 v = v ∧ fits (xFt P ci k).1 v = true ∧ ((xFt P ci k).2 = true → xIn P M = true ∧ xKl P M = ci) then some (st, H.1, hset H.2.1 r (.inr (cj, fs.set k v)), H.2.2) else none
      | _ => none) := by
    unfold xwr
    dsimp only
    rw [hp]
    rfl
  rw [XR_wr hd rfl h0 rfl rfl rfl rfl (fun _ => rfl), key]
  unfold xpf
  cases hr : H.2.1 r with
  | inl a => rfl
  | inr o =>
    obtain ⟨cj, fs⟩ := o
    dsimp only
    by_cases hc : cj = ci ∧ k < fs.length
    · rw [if_pos ⟨hc.1, hc.2, hn.1, hn.2, hf⟩, if_pos hc]
    · rw [if_neg (fun z => hc ⟨z.1, z.2.1⟩), if_neg hc]
theorem XR_putI {x : Int32} {i ci k r : Nat} (hd : decode (xB P M) pc = .ok (.putfield i, 3)) (hp : xPo P (xKl P M) i = (0, ci, k)) (hn : (xFt P ci k).1 = .int) (hf : (xFt P ci k).2 = true → xIn P M = true ∧ xKl P M = ci) :
    XR P M pc L (.int x :: .ref r :: st) H = xpf (H.2.1 r) ci k (.int x) (fun e => XR P M (pc + 3) L st (H.1, hset H.2.1 r e, H.2.2)) := XR_put hd hp (by rw [hn]; exact ⟨rfl, rfl⟩) hf rfl
theorem XR_putZ {x : Int32} {i ci k r : Nat} (hd : decode (xB P M) pc = .ok (.putfield i, 3)) (hp : xPo P (xKl P M) i = (0, ci, k)) (hn : (xFt P ci k).1 = .boolean) (hf : (xFt P ci k).2 = true → xIn P M = true ∧ xKl P M = ci) (hx : x = 0 ∨ x = 1) :
    XR P M pc L (.int x :: .ref r :: st) H = xpf (H.2.1 r) ci k (.int x) (fun e => XR P M (pc + 3) L st (H.1, hset H.2.1 r e, H.2.2)) := XR_put hd hp (by rw [hn]; rcases hx with rfl | rfl <;> exact ⟨rfl, rfl⟩) hf rfl
theorem XR_putR {q : Nat} {i ci k r : Nat} (hd : decode (xB P M) pc = .ok (.putfield i, 3)) (hp : xPo P (xKl P M) i = (0, ci, k)) (hn : (∃ C, (xFt P ci k).1 = .object C) ∨ ∃ t, (xFt P ci k).1 = .array t) (hf : (xFt P ci k).2 = true → xIn P M = true ∧ xKl P M = ci) :
    XR P M pc L (.ref q :: .ref r :: st) H = xpf (H.2.1 r) ci k (.ref q) (fun e => XR P M (pc + 3) L st (H.1, hset H.2.1 r e, H.2.2)) := XR_put hd hp (by rcases hn with ⟨C, h⟩ | ⟨t, h⟩ <;> rw [h] <;> exact ⟨rfl, rfl⟩) hf rfl
/-- an int array of kind k is written -/
def xiw (k : Nat) (e : xE) (j x : Int32) (K : xE → Option (xO × xH)) : Option (xO × xH) := match e with
  | .inl (t, n, .inl f) => if t = k ∧ ¬ (j < 0 ∨ n ≤ j.toNatClampNeg) then K (.inl (t, n, .inl (upd f j.toNatClampNeg x))) else none
  | _ => none
theorem XR_iast {x j : Int32} {r : Nat} (hd : decode (xB P M) pc = .ok (.iastore, 1)) : XR P M pc L (.int x :: .int j :: .ref r :: st) H = xiw 0 (H.2.1 r) j x (fun e => XR P M (pc + 1) L st (H.1, hset H.2.1 r e, H.2.2)) := by
  rw [XR_wr hd rfl rfl rfl rfl rfl rfl (fun _ => rfl)]
  unfold xwr xiw
  dsimp only
  cases hr : H.2.1 r with
  | inr o => rfl
  | inl a =>
    obtain ⟨t, n, a⟩ := a
    rcases a with f | f | f | f | f <;> try rfl
    dsimp only
    by_cases hc : t = 0 ∧ ¬ (j < 0 ∨ n ≤ j.toNatClampNeg)
    · rw [if_pos hc, if_pos hc]
    · rw [if_neg hc, if_neg hc]
theorem XR_cast {x j : Int32} {r : Nat} (hd : decode (xB P M) pc = .ok (.castore, 1)) (hx : vp_nar .char x = x) : XR P M pc L (.int x :: .int j :: .ref r :: st) H = xiw 1 (H.2.1 r) j x (fun e => XR P M (pc + 1) L st (H.1, hset H.2.1 r e, H.2.2)) := by
  rw [XR_wr hd rfl rfl rfl rfl rfl rfl (fun _ => rfl)]
  unfold xwr xiw
  dsimp only
  cases hr : H.2.1 r with
  | inr o => rfl
  | inl a =>
    obtain ⟨t, n, a⟩ := a
    rcases a with f | f | f | f | f <;> try rfl
    dsimp only
    by_cases hc : t = 1 ∧ ¬ (j < 0 ∨ n ≤ j.toNatClampNeg)
    · rw [if_pos ⟨hc.1, hx, hc.2⟩, if_pos hc]
    · rw [if_neg (fun z => hc ⟨z.1, z.2.2⟩), if_neg hc]
theorem XR_bast {x j : Int32} {r : Nat} (hd : decode (xB P M) pc = .ok (.bastore, 1)) (hx : x = 0 ∨ x = 1) : XR P M pc L (.int x :: .int j :: .ref r :: st) H = xiw 2 (H.2.1 r) j x (fun e => XR P M (pc + 1) L st (H.1, hset H.2.1 r e, H.2.2)) := by
  have hx : vp_nar .boolean x = x := by rcases hx with rfl | rfl <;> decide
  rw [XR_wr hd rfl rfl rfl rfl rfl rfl (fun _ => rfl)]
  unfold xwr xiw
  dsimp only
  cases hr : H.2.1 r with
  | inr o => rfl
  | inl a =>
    obtain ⟨t, n, a⟩ := a
    rcases a with f | f | f | f | f <;> try rfl
    dsimp only
    by_cases hc : t = 2 ∧ ¬ (j < 0 ∨ n ≤ j.toNatClampNeg)
    · rw [if_pos ⟨hc.1, hx, hc.2⟩, if_pos hc]
    · rw [if_neg (fun z => hc ⟨z.1, z.2.2⟩), if_neg hc]
def xlw (e : xE) (j : Int32) (x : Int64) (K : xE → Option (xO × xH)) : Option (xO × xH) := match e with
  | .inl (t, n, .inr (.inl f)) => if t = 3 ∧ ¬ (j < 0 ∨ n ≤ j.toNatClampNeg) then K (.inl (t, n, .inr (.inl (vp_updL f j.toNatClampNeg x)))) else none
  | _ => none
def xdw (e : xE) (j : Int32) (x : UInt64) (K : xE → Option (xO × xH)) : Option (xO × xH) := match e with
  | .inl (t, n, .inr (.inr (.inr (.inl f)))) => if t = 4 ∧ ¬ (j < 0 ∨ n ≤ j.toNatClampNeg) then K (.inl (t, n, .inr (.inr (.inr (.inl (vf_upd f j.toNatClampNeg x)))))) else none
  | _ => none
def xrw (h : xHp) (e : xE) (j : Int32) (x : Nat) (K : xE → Option (xO × xH)) : Option (xO × xH) := match e with
  | .inl (t, n, .inr (.inr (.inr (.inr f)))) => match h x with
    | .inr (cj, _) => if t = 5 ∧ cj = 2 ∧ ¬ (j < 0 ∨ n ≤ j.toNatClampNeg) then K (.inl (t, n, .inr (.inr (.inr (.inr (va_up f j.toNatClampNeg (some x))))))) else none
    | _ => none
  | _ => none
theorem XR_last {x : Int64} {j : Int32} {r : Nat} (hd : decode (xB P M) pc = .ok (.lastore, 1)) : XR P M pc L (.long x :: .int j :: .ref r :: st) H = xlw (H.2.1 r) j x (fun e => XR P M (pc + 1) L st (H.1, hset H.2.1 r e, H.2.2)) := by
  rw [XR_wr hd rfl rfl rfl rfl rfl rfl (fun _ => rfl)]
  unfold xwr xlw
  dsimp only
  cases hr : H.2.1 r with
  | inr o => rfl
  | inl a =>
    obtain ⟨t, n, a⟩ := a
    rcases a with f | f | f | f | f <;> try rfl
    dsimp only
    by_cases hc : t = 3 ∧ ¬ (j < 0 ∨ n ≤ j.toNatClampNeg)
    · rw [if_pos hc, if_pos hc]
    · rw [if_neg hc, if_neg hc]
theorem XR_dast {x : UInt64} {j : Int32} {r : Nat} (hd : decode (xB P M) pc = .ok (.dastore, 1)) : XR P M pc L (.double x :: .int j :: .ref r :: st) H = xdw (H.2.1 r) j x (fun e => XR P M (pc + 1) L st (H.1, hset H.2.1 r e, H.2.2)) := by
  rw [XR_wr hd rfl rfl rfl rfl rfl rfl (fun _ => rfl)]
  unfold xwr xdw
  dsimp only
  cases hr : H.2.1 r with
  | inr o => rfl
  | inl a =>
    obtain ⟨t, n, a⟩ := a
    rcases a with f | f | f | f | f <;> try rfl
    dsimp only
    by_cases hc : t = 4 ∧ ¬ (j < 0 ∨ n ≤ j.toNatClampNeg)
    · rw [if_pos hc, if_pos hc]
    · rw [if_neg hc, if_neg hc]
theorem XR_aast {x : Nat} {j : Int32} {r : Nat} (hd : decode (xB P M) pc = .ok (.aastore, 1)) : XR P M pc L (.ref x :: .int j :: .ref r :: st) H = xrw H.2.1 (H.2.1 r) j x (fun e => XR P M (pc + 1) L st (H.1, hset H.2.1 r e, H.2.2)) := by
  rw [XR_wr hd rfl rfl rfl rfl rfl rfl (fun _ => rfl)]
  unfold xwr xrw
  dsimp only
  cases hr : H.2.1 r with
  | inr o => rfl
  | inl a =>
    obtain ⟨t, n, a⟩ := a
    rcases a with f | f | f | f | f <;> try rfl
    dsimp only
    cases hx : H.2.1 x with
    | inl b => rfl
    | inr o =>
      obtain ⟨cj, vs⟩ := o
      dsimp only
      by_cases hc : t = 5 ∧ cj = 2 ∧ ¬ (j < 0 ∨ n ≤ j.toNatClampNeg)
      · rw [if_pos hc, if_pos hc]
      · rw [if_neg hc, if_neg hc]
theorem XR_new {i ci n b : Nat} {h : xHp} {c z : Nat} (hd : decode (xB P M) pc = .ok (.new i, 3)) (hp : xPo P (xKl P M) i = (1, ci, n)) : XR P M pc L st ((b, true), h, c, z) = XR P M (pc + 3) L (.ref b :: st) ((b + 1, true), hset h b (.inr (ci, xDf P ci)), c + 1, z + n) :=
  XR_wrS hd rfl rfl rfl rfl rfl rfl (q := (.ref b :: st, (b + 1, true), hset h b (.inr (ci, xDf P ci)), c + 1, z + n)) (by unfold xwr; dsimp only; rw [hp]; rfl)
theorem XR_newI {n b : Nat} {h : xHp} {c z : Nat} (hd : decode (xB P M) pc = .ok (.newarray .int, 2)) (hn : n ≤ 1000000) : XR P M pc L (.int (nI n) :: st) ((b, true), h, c, z) = XR P M (pc + 2) L (.ref b :: st) ((b + 1, true), hset h b (.inl (0, n, .inl (fun _ => 0))), c + 1, z + n) := by
  have h1 : ¬ nI n < 0 := nI_pos (by omega)
  have h2 : (nI n).toNatClampNeg = n := nI_clamp (by omega)
  refine XR_wrS hd rfl rfl rfl rfl rfl rfl (q := (.ref b :: st, (b + 1, true), hset h b (.inl (0, n, .inl (fun _ => 0))), c + 1, z + n)) ?_
  unfold xwr
  dsimp only
  rw [h2, if_pos ⟨h1, hn, rfl⟩]
theorem XR_newC {n b : Nat} {h : xHp} {c z : Nat} (hd : decode (xB P M) pc = .ok (.newarray .char, 2)) (hn : n ≤ 1000000) : XR P M pc L (.int (nI n) :: st) ((b, true), h, c, z) = XR P M (pc + 2) L (.ref b :: st) ((b + 1, true), hset h b (.inl (1, n, .inl (fun _ => 0))), c + 1, z + n) := by
  have h1 : ¬ nI n < 0 := nI_pos (by omega)
  have h2 : (nI n).toNatClampNeg = n := nI_clamp (by omega)
  refine XR_wrS hd rfl rfl rfl rfl rfl rfl (q := (.ref b :: st, (b + 1, true), hset h b (.inl (1, n, .inl (fun _ => 0))), c + 1, z + n)) ?_
  unfold xwr
  dsimp only
  rw [h2, if_pos ⟨h1, hn, rfl⟩]
theorem XR_newZ {n b : Nat} {h : xHp} {c z : Nat} (hd : decode (xB P M) pc = .ok (.newarray .boolean, 2)) (hn : n ≤ 1000000) : XR P M pc L (.int (nI n) :: st) ((b, true), h, c, z) = XR P M (pc + 2) L (.ref b :: st) ((b + 1, true), hset h b (.inl (2, n, .inl (fun _ => 0))), c + 1, z + n) := by
  have h1 : ¬ nI n < 0 := nI_pos (by omega)
  have h2 : (nI n).toNatClampNeg = n := nI_clamp (by omega)
  refine XR_wrS hd rfl rfl rfl rfl rfl rfl (q := (.ref b :: st, (b + 1, true), hset h b (.inl (2, n, .inl (fun _ => 0))), c + 1, z + n)) ?_
  unfold xwr
  dsimp only
  rw [h2, if_pos ⟨h1, hn, rfl⟩]
theorem XR_newJ {n b : Nat} {h : xHp} {c z : Nat} (hd : decode (xB P M) pc = .ok (.newarray .long, 2)) (hn : n ≤ 1000000) : XR P M pc L (.int (nI n) :: st) ((b, true), h, c, z) = XR P M (pc + 2) L (.ref b :: st) ((b + 1, true), hset h b (.inl (3, n, .inr (.inl (fun _ => 0)))), c + 1, z + n) := by
  have h1 : ¬ nI n < 0 := nI_pos (by omega)
  have h2 : (nI n).toNatClampNeg = n := nI_clamp (by omega)
  refine XR_wrS hd rfl rfl rfl rfl rfl rfl (q := (.ref b :: st, (b + 1, true), hset h b (.inl (3, n, .inr (.inl (fun _ => 0)))), c + 1, z + n)) ?_
  unfold xwr
  dsimp only
  rw [h2, if_pos ⟨h1, hn, rfl⟩]
theorem XR_newD {n b : Nat} {h : xHp} {c z : Nat} (hd : decode (xB P M) pc = .ok (.newarray .double, 2)) (hn : n ≤ 1000000) : XR P M pc L (.int (nI n) :: st) ((b, true), h, c, z) = XR P M (pc + 2) L (.ref b :: st) ((b + 1, true), hset h b (.inl (4, n, .inr (.inr (.inr (.inl (fun _ => 0)))))), c + 1, z + n) := by
  have h1 : ¬ nI n < 0 := nI_pos (by omega)
  have h2 : (nI n).toNatClampNeg = n := nI_clamp (by omega)
  refine XR_wrS hd rfl rfl rfl rfl rfl rfl (q := (.ref b :: st, (b + 1, true), hset h b (.inl (4, n, .inr (.inr (.inr (.inl (fun _ => 0)))))), c + 1, z + n)) ?_
  unfold xwr
  dsimp only
  rw [h2, if_pos ⟨h1, hn, rfl⟩]
theorem XR_anew {i n b q : Nat} {h : xHp} {c z : Nat} (hd : decode (xB P M) pc = .ok (.anewarray i, 3)) (hp : xPo P (xKl P M) i = (1, 2, q)) (hn : n ≤ 1000000) : XR P M pc L (.int (nI n) :: st) ((b, true), h, c, z) = XR P M (pc + 3) L (.ref b :: st) ((b + 1, true), hset h b (.inl (5, n, .inr (.inr (.inr (.inr (fun _ => none)))))), c + 1, z + n) := by
  have h1 : ¬ nI n < 0 := nI_pos (by omega)
  have h2 : (nI n).toNatClampNeg = n := nI_clamp (by omega)
  refine XR_wrS hd rfl rfl rfl rfl rfl rfl (q := (.ref b :: st, (b + 1, true), hset h b (.inl (5, n, .inr (.inr (.inr (.inr (fun _ => none)))))), c + 1, z + n)) ?_
  have key : xwr P M (.anewarray i) (.int (nI n) :: st) ((b, true), h, c, z) = (if 2 = 2 ∧ ¬ nI n < 0 ∧ (nI n).toNatClampNeg ≤ 1000000 ∧ true = true then some (.ref b :: st, (b + 1, true), hset h b (.inl (5, (nI n).toNatClampNeg, .inr (.inr (.inr (.inr (fun _ => none)))))), c + 1, z + (nI n).toNatClampNeg) else none) := by
    unfold xwr
    dsimp only
    rw [hp]
    rfl
  rw [key, h2, if_pos ⟨rfl, h1, hn, rfl⟩]
/-- a copy from array to array -/
def xcp (e0 e1 : xE) (sp dp n : Int32) (K : xE → Option (xO × xH)) : Option (xO × xH) := match e0 with
  | .inl (t0, n0, .inl f) => match e1 with
    | .inl (t1, n1, .inl g) => if (t0 = 0 ∨ t0 = 8) ∧ t1 = 0 ∧ ¬ sp < 0 ∧ ¬ dp < 0 ∧ ¬ n < 0 ∧ sp.toNatClampNeg + n.toNatClampNeg ≤ n0 ∧ dp.toNatClampNeg + n.toNatClampNeg ≤ n1 then K (.inl (0, n1, .inl (va_cpy f g sp.toNatClampNeg dp.toNatClampNeg n.toNatClampNeg))) else none
    | _ => none
  | _ => none
theorem XR_copy {n dp sp : Int32} {a a0 i x y : Nat} (hd : decode (xB P M) pc = .ok (.invokestatic i, 3)) (hp : xPo P (xKl P M) i = (8, x, y)) (hst : (st.map fun v => v.category).sum ≤ 8) : XR P M pc L (.int n :: .int dp :: .ref a :: .int sp :: .ref a0 :: st) H = xcp (H.2.1 a0) (H.2.1 a) sp dp n (fun e => XR P M (pc + 3) L st (H.1, hset H.2.1 a e, H.2.2)) := by
  have he : xend P M pc (.invokestatic i) L (.int n :: .int dp :: .ref a :: .int sp :: .ref a0 :: st) H = none := by
    unfold xend
    dsimp only
    rw [hp]
    rfl
  have key : xwr P M (.invokestatic i) (.int n :: .int dp :: .ref a :: .int sp :: .ref a0 :: st) H = (match H.2.1 a0 with
        | .inl (t0, n0, .inl f) => match H.2.1 a with
          | .inl (t1, n1, .inl g) => if (t0 = 0 ∨ t0 = 8) ∧ t1 = 0 ∧ ¬ sp < 0 ∧ ¬ dp < 0 ∧ ¬ n < 0 ∧ sp.toNatClampNeg + n.toNatClampNeg ≤ n0 ∧ dp.toNatClampNeg + n.toNatClampNeg ≤ n1 ∧ (st.map fun v => v.category).sum ≤ 8 then some (st, H.1, hset H.2.1 a (.inl (0, n1, .inl (va_cpy f g sp.toNatClampNeg dp.toNatClampNeg n.toNatClampNeg))), H.2.2) else none
          | _ => none
        | _ => none) := by
    unfold xwr
    dsimp only
    rw [hp]
    rfl
  rw [XR_wr hd rfl rfl rfl rfl rfl rfl (fun _ => he), key]
  unfold xcp
  cases h0 : H.2.1 a0 with
  | inr o => rfl
  | inl b0 =>
    obtain ⟨t0, n0, b0⟩ := b0
    rcases b0 with f | f | f | f | f <;> try rfl
    dsimp only
    cases h1 : H.2.1 a with
    | inr o => rfl
    | inl b1 =>
      obtain ⟨t1, n1, b1⟩ := b1
      rcases b1 with g | g | g | g | g <;> try rfl
      dsimp only
      by_cases hc : (t0 = 0 ∨ t0 = 8) ∧ t1 = 0 ∧ ¬ sp < 0 ∧ ¬ dp < 0 ∧ ¬ n < 0 ∧ sp.toNatClampNeg + n.toNatClampNeg ≤ n0 ∧ dp.toNatClampNeg + n.toNatClampNeg ≤ n1
      · obtain ⟨c1, c2, c3, c4, c5, c6, c7⟩ := hc
        rw [if_pos ⟨c1, c2, c3, c4, c5, c6, c7, hst⟩, if_pos ⟨c1, c2, c3, c4, c5, c6, c7⟩]
      · rw [if_neg (fun z => hc ⟨z.1, z.2.1, z.2.2.1, z.2.2.2.1, z.2.2.2.2.1, z.2.2.2.2.2.1, z.2.2.2.2.2.2.1⟩), if_neg hc]
theorem XR_oinit {i r x y : Nat} (hd : decode (xB P M) pc = .ok (.invokespecial i, 3)) (hp : xPo P (xKl P M) i = (9, x, y)) (hst : (st.map fun v => v.category).sum ≤ 8) : XR P M pc L (.ref r :: st) H = XR P M (pc + 3) L st H :=
  XR_wrS hd rfl rfl rfl rfl rfl rfl (q := (st, H)) (by
    have key : xwr P M (.invokespecial i) (.ref r :: st) H = (if (st.map fun v => v.category).sum ≤ 8 then some (st, H) else none) := by
      unfold xwr
      dsimp only
      rw [hp]
      rfl
    rw [key, if_pos hst])
/-- ends and calls -/
theorem XR_end (hd : decode (xB P M) pc = .ok (I, len)) (hl : xlen I len = len) (h0 : xstk I st = none) (h1 : xload I L = none) (h2 : xsto (xNL P M) I L st = none) (h3 : xjmp I pc len st = none) (h4 : xrd P M I st H.2.1 = none) (h5 : xwr P M I st H = none) :
    XR P M pc L st H = xnext P (xend P M pc I L st H) := by
  rw [XR_unfold, xact_of hd hl]
  unfold xins
  rw [h0, h1, h2, h3, h4, h5]
theorem XR_ireti {v : Int32} (hd : decode (xB P M) pc = .ok (.ireturn, 1)) (hr : xRt P M = some .int) : XR P M pc L [.int v] H = some (.inl (some (.int v)), H) := by
  rw [XR_end hd rfl rfl rfl rfl rfl rfl rfl]
  have key : xend P M pc .ireturn L [.int v] H = (if narrow .int (.int v) = .int v then some (.inr (.inl (.inl (some (.int v)), H))) else none) := by
    unfold xend
    dsimp only
    rw [hr]
  rw [key, if_pos (show narrow .int (.int v) = .int v from rfl)]
  rfl
theorem XR_iretz {v : Int32} (hd : decode (xB P M) pc = .ok (.ireturn, 1)) (hr : xRt P M = some .boolean) (hv : v = 0 ∨ v = 1) : XR P M pc L [.int v] H = some (.inl (some (.int v)), H) := by
  rw [XR_end hd rfl rfl rfl rfl rfl rfl rfl]
  have key : xend P M pc .ireturn L [.int v] H = (if narrow .boolean (.int v) = .int v then some (.inr (.inl (.inl (some (.int v)), H))) else none) := by
    unfold xend
    dsimp only
    rw [hr]
  rw [key, if_pos (by rcases hv with rfl | rfl <;> rfl)]
  rfl
theorem XR_vret (hd : decode (xB P M) pc = .ok (.return_, 1)) (hr : xRt P M = none) : XR P M pc L [] H = some (.inl none, H) := by
  rw [XR_end hd rfl rfl rfl rfl rfl rfl rfl]
  unfold xend
  dsimp only
  rw [hr]
  rfl
theorem XR_dret {v : UInt64} (hd : decode (xB P M) pc = .ok (.dreturn, 1)) (hr : xRt P M = some .double) : XR P M pc L [.double v] H = some (.inl (some (.double v)), H) := by
  rw [XR_end hd rfl rfl rfl rfl rfl rfl rfl]
  unfold xend
  dsimp only
  rw [hr]
  rfl
theorem XR_fret {v : UInt32} (hd : decode (xB P M) pc = .ok (.freturn, 1)) (hr : xRt P M = some .float) : XR P M pc L [.float v] H = some (.inl (some (.float v)), H) := by
  rw [XR_end hd rfl rfl rfl rfl rfl rfl rfl]
  unfold xend
  dsimp only
  rw [hr]
  rfl
/-- a receiver of a class -/
def xcv (e : xE) (k : Nat) (K : Option (xO × xH)) : Option (xO × xH) := match e with
  | .inr (cj, _) => if cj = k then K else none
  | _ => none
theorem XR_callV {i M' z r : Nat} {as rest : List Value} (hd : decode (xB P M) pc = .ok (.invokevirtual i, 3)) (hp : xPo P (xKl P M) i = (3, M', z)) (ha : (st.take (xNa P M')).reverse = .ref r :: as) (hr : st.drop (xNa P M') = rest) (hc : xNa P M' ≤ st.length ∧ (st.take (xNa P M')).all xcat1 = true ∧ (rest.map fun v => v.category).sum ≤ 8 ∧ xRk P M' < xRk P M) :
    XR P M pc L st H = xcv (H.2.1 r) (xKl P M') (xback P M pc L rest H.2.2.1 H.2.2.2 (CA P M' (.ref r :: as) H.1 H.2.1)) := by
  have key : xend P M pc (.invokevirtual i) L st H = (match H.2.1 r with
      | .inr (cj, _) => if cj = xKl P M' then xcall P M M' pc L st H else none
      | _ => none) := by
    unfold xend
    dsimp only
    rw [hp]
    show (match (st.take (xNa P M')).reverse with
      | .ref r :: _ => match H.2.1 r with
        | .inr (cj, _) => if cj = xKl P M' then xcall P M M' pc L st H else none
        | _ => none
      | _ => none) = _
    rw [ha]
  have hcall : xcall P M M' pc L st H = some (.inr (.inr (M', .ref r :: as, M, pc, L, rest, H))) := by
    unfold xcall
    rw [hr, if_pos hc, ha]
  rw [XR_end hd rfl rfl rfl rfl rfl rfl rfl, key, hcall]
  unfold xcv
  cases he : H.2.1 r with
  | inl a => rfl
  | inr o =>
    obtain ⟨cj, fs⟩ := o
    dsimp only
    by_cases hcj : cj = xKl P M'
    · rw [if_pos hcj, if_pos hcj]
      rfl
    · rw [if_neg hcj, if_neg hcj]
      rfl
theorem XR_callS {i k M' z : Nat} {as rest : List Value} (hd : decode (xB P M) pc = .ok (.invokestatic i, 3)) (hp : xPo P (xKl P M) i = (k, M', z)) (hk : k = 4 ∨ k = 5) (h5 : xwr P M (.invokestatic i) st H = none) (ha : (st.take (xNa P M')).reverse = as) (hr : st.drop (xNa P M') = rest) (hc : xNa P M' ≤ st.length ∧ (st.take (xNa P M')).all xcat1 = true ∧ (rest.map fun v => v.category).sum ≤ 8 ∧ xRk P M' < xRk P M) :
    XR P M pc L st H = xback P M pc L rest H.2.2.1 H.2.2.2 (CA P M' as H.1 H.2.1) := by
  have hcall : xcall P M M' pc L st H = some (.inr (.inr (M', as, M, pc, L, rest, H))) := by
    unfold xcall
    rw [hr, if_pos hc, ha]
  have key : xend P M pc (.invokestatic i) L st H = xcall P M M' pc L st H := by
    unfold xend
    dsimp only
    rw [hp]
    rcases hk with rfl | rfl <;> rfl
  rw [XR_end hd rfl rfl rfl rfl rfl rfl h5, key, hcall]
  rfl
theorem xwr_call {i k M' z : Nat} (hp : xPo P (xKl P M) i = (k, M', z)) (hk : k = 4 ∨ k = 5) : xwr P M (.invokestatic i) st H = none := by
  unfold xwr
  dsimp only
  split
  · rw [hp]; rcases hk with rfl | rfl <;> rfl
  · rfl
theorem XR_callI {i k M' z r : Nat} {as rest : List Value} (hd : decode (xB P M) pc = .ok (.invokespecial i, 3)) (hp : xPo P (xKl P M) i = (k, M', z)) (hk : k = 6 ∨ k = 7) (ha : (st.take (xNa P M')).reverse = .ref r :: as) (hr : st.drop (xNa P M') = rest) (hc : xNa P M' ≤ st.length ∧ (st.take (xNa P M')).all xcat1 = true ∧ (rest.map fun v => v.category).sum ≤ 8 ∧ xRk P M' < xRk P M) :
    XR P M pc L st H = xback P M pc L rest H.2.2.1 H.2.2.2 (CA P M' (.ref r :: as) H.1 H.2.1) := by
  have h5 : xwr P M (.invokespecial i) st H = none := by
    unfold xwr
    dsimp only
    split
    · rw [hp]; rcases hk with rfl | rfl <;> rfl
    · rfl
  have hcall : xcall P M M' pc L st H = some (.inr (.inr (M', .ref r :: as, M, pc, L, rest, H))) := by
    unfold xcall
    rw [hr, if_pos hc, ha]
  have key : xend P M pc (.invokespecial i) L st H = xcall P M M' pc L st H := by
    unfold xend
    dsimp only
    rw [hp]
    rcases hk with rfl | rfl
    · show (match (st.take (xNa P M')).reverse with
        | .ref _ :: _ => xcall P M M' pc L st H
        | _ => none) = _
      rw [ha]
    · show (match (st.take (xNa P M')).reverse with
        | .ref _ :: _ => xcall P M M' pc L st H
        | _ => none) = _
      rw [ha]
  rw [XR_end hd rfl rfl rfl rfl rfl rfl h5, key, hcall]
  rfl
theorem XR_thr {i E x is ic : Nat} {a : Nat × Bool} {h : xHp} {c z : Nat} (hd : decode (xB P M) pc = .ok (.new i, 3)) (hp : xPo P (xKl P M) i = (2, E, x)) (d3 : decode (xB P M) (pc + 3) = .ok (.dup, 1)) (d4 : decode (xB P M) (pc + 4) = .ok (.ldc is, 2)) (d6 : decode (xB P M) (pc + 6) = .ok (.invokespecial ic, 3)) (d9 : decode (xB P M) (pc + 9) = .ok (.athrow, 1)) (hc : xPo P (xKl P M) ic = (13, E, i) ∧ (xPo P (xKl P M) is).1 = 14 ∧ xHd P M = [] ∧ (st.map fun v => v.category).sum ≤ 8) :
    XR P M pc L st (a, h, c, z) = some (.inr E, (a.1, false), h, c + 1, z + 6) := by
  have h5 : xwr P M (.new i) st (a, h, c, z) = none := by
    unfold xwr
    dsimp only
    rw [hp]
    rfl
  have key : xend P M pc (.new i) L st (a, h, c, z) = some (.inr (.inl (.inr E, (a.1, false), h, c + 1, z + 6))) := by
    unfold xend
    dsimp only
    rw [hp]
    simp only [d3, d4, d6, d9]
    rw [if_pos hc]
  rw [XR_end hd rfl rfl rfl rfl rfl rfl h5, key]
  rfl
theorem XR_thrw {i E x is ic : Nat} {a : Nat × Bool} {h : xHp} {c z : Nat} (hd : decode (xB P M) pc = .ok (.new i, 3)) (hp : xPo P (xKl P M) i = (2, E, x)) (d3 : decode (xB P M) (pc + 3) = .ok (.dup, 1)) (d4 : decode (xB P M) (pc + 4) = .ok (.ldc_w is, 3)) (d6 : decode (xB P M) (pc + 7) = .ok (.invokespecial ic, 3)) (d9 : decode (xB P M) (pc + 10) = .ok (.athrow, 1)) (hc : xPo P (xKl P M) ic = (13, E, i) ∧ (xPo P (xKl P M) is).1 = 14 ∧ xHd P M = [] ∧ (st.map fun v => v.category).sum ≤ 8) :
    XR P M pc L st (a, h, c, z) = some (.inr E, (a.1, false), h, c + 1, z + 6) := by
  have h5 : xwr P M (.new i) st (a, h, c, z) = none := by
    unfold xwr
    dsimp only
    rw [hp]
    rfl
  have key : xend P M pc (.new i) L st (a, h, c, z) = some (.inr (.inl (.inr E, (a.1, false), h, c + 1, z + 6))) := by
    unfold xend
    dsimp only
    rw [hp]
    simp only [d3, d4, d6, d9]
    rw [if_pos hc]
  rw [XR_end hd rfl rfl rfl rfl rfl rfl h5, key]
  rfl
/-- behind a call, where it is known how it ended -/
theorem xback_s {v : Value} {rest : List Value} {a : Nat × Bool} {h : xHp} {c z c1 z1 : Nat} : xback P M pc L rest c z (some (.inl (some v), a, h, c1, z1)) = XR P M (pc + 3) L (v :: rest) (a, h, c + c1, z + z1) := rfl
theorem xback_n {rest : List Value} {a : Nat × Bool} {h : xHp} {c z c1 z1 : Nat} : xback P M pc L rest c z (some (.inl none, a, h, c1, z1)) = XR P M (pc + 3) L rest (a, h, c + c1, z + z1) := rfl
theorem xback_x {E : Nat} {rest : List Value} {a : Nat × Bool} {h : xHp} {c z c1 z1 : Nat} (hv : xvirt P M pc = true) (hh : xHd P M = []) : xback P M pc L rest c z (some (.inr E, a, h, c1, z1)) = some (.inr E, a, h, c + c1, z + z1) := by
  have hx : xcatch P M pc E L = none := by unfold xcatch; rw [hh]; rfl
  unfold xback
  dsimp only
  rw [if_pos hv, hx]
  dsimp only
  rw [if_pos hh]
theorem xback_c {E : Nat} {rest : List Value} {a : Nat × Bool} {h : xHp} {c z c1 z1 : Nat} {q : Nat × xL} (hv : xvirt P M pc = true) (hq : xcatch P M pc E L = some q) : xback P M pc L rest c z (some (.inr E, a, h, c1, z1)) = XR P M q.1 q.2 [] (a, h, c + c1, z + z1) := by
  unfold xback
  dsimp only
  rw [if_pos hv, hq]
end EQW
