/-! the small machine's steps as equations -/
section EQ
variable {P : xP} {M pc : Nat} {L L' : xL} {st s' : List Value} {H : xH} {I : Instr} {len : Nat}
theorem xact_of (hd : decode (xB P M) pc = .ok (I, len)) (hl : xlen I len = len) : xact P M pc L st H = xins P M pc len I L st H := by
  unfold xact
  rw [hd]
  simp [hl]
theorem XR_stk (hd : decode (xB P M) pc = .ok (I, len)) (hl : xlen I len = len) (h : xstk I st = some s') : XR P M pc L st H = XR P M (pc + len) L s' H := by
  rw [XR_unfold, xact_of hd hl]
  unfold xins
  rw [h]
  rfl
theorem XR_load {v : Value} (hd : decode (xB P M) pc = .ok (I, len)) (hl : xlen I len = len) (h0 : xstk I st = none) (h : xload I L = some v) : XR P M pc L st H = XR P M (pc + len) L (v :: st) H := by
  rw [XR_unfold, xact_of hd hl]
  unfold xins
  rw [h0, h]
  rfl
theorem XR_sto (hd : decode (xB P M) pc = .ok (I, len)) (hl : xlen I len = len) (h0 : xstk I st = none) (h1 : xload I L = none) (h : xsto (xNL P M) I L st = some (L', s')) : XR P M pc L st H = XR P M (pc + len) L' s' H := by
  rw [XR_unfold, xact_of hd hl]
  unfold xins
  rw [h0, h1, h]
  rfl
theorem XR_jmp {t : Nat} (hd : decode (xB P M) pc = .ok (I, len)) (hl : xlen I len = len) (h0 : xstk I st = none) (h1 : xload I L = none) (h2 : xsto (xNL P M) I L st = none) (h : xjmp I pc len st = some (t, s')) : XR P M pc L st H = XR P M t L s' H := by
  rw [XR_unfold, xact_of hd hl]
  unfold xins
  rw [h0, h1, h2, h]
  rfl
theorem XR_if {x : Int32} {c : Jvm.ClassFile.Cond} {off : Int} {t : Nat} (hd : decode (xB P M) pc = .ok (.ifCond c off, 3)) (ht : xtgt pc off = some t) : XR P M pc L (.int x :: st) H = if xcc c x 0 = true then XR P M t L st H else XR P M (pc + 3) L st H := by
  by_cases hc : xcc c x 0 = true
  · rw [if_pos hc]
    exact XR_jmp (t := t) (s' := st) hd rfl rfl rfl rfl (by simp only [xjmp, ht, Option.map_some, hc, if_true])
  · rw [if_neg hc]
    exact XR_jmp (t := pc + 3) (s' := st) hd rfl rfl rfl rfl (by simp only [xjmp, ht, Option.map_some, hc, if_false]; rfl)
theorem XR_ic {x y : Int32} {c : Jvm.ClassFile.Cond} {off : Int} {t : Nat} (hd : decode (xB P M) pc = .ok (.if_icmp c off, 3)) (ht : xtgt pc off = some t) : XR P M pc L (.int y :: .int x :: st) H = if xcc c x y = true then XR P M t L st H else XR P M (pc + 3) L st H := by
  by_cases hc : xcc c x y = true
  · rw [if_pos hc]
    exact XR_jmp (t := t) (s' := st) hd rfl rfl rfl rfl (by simp only [xjmp, ht, Option.map_some, hc, if_true])
  · rw [if_neg hc]
    exact XR_jmp (t := pc + 3) (s' := st) hd rfl rfl rfl rfl (by simp only [xjmp, ht, Option.map_some, hc, if_false]; rfl)
theorem XR_if_eq {x : Int32} {off : Int} {t : Nat} (hd : decode (xB P M) pc = .ok (.ifCond .eq off, 3)) (ht : xtgt pc off = some t) : XR P M pc L (.int x :: st) H = if x = 0 then XR P M t L st H else XR P M (pc + 3) L st H := by rw [XR_if hd ht]; simp only [xcc, decide_eq_true_eq]
theorem XR_if_ne {x : Int32} {off : Int} {t : Nat} (hd : decode (xB P M) pc = .ok (.ifCond .ne off, 3)) (ht : xtgt pc off = some t) : XR P M pc L (.int x :: st) H = if x = 0 then XR P M (pc + 3) L st H else XR P M t L st H := by rw [XR_if hd ht]; by_cases h : x = 0 <;> simp [xcc, h]
theorem XR_if_lt {x : Int32} {off : Int} {t : Nat} (hd : decode (xB P M) pc = .ok (.ifCond .lt off, 3)) (ht : xtgt pc off = some t) : XR P M pc L (.int x :: st) H = if x < 0 then XR P M t L st H else XR P M (pc + 3) L st H := by rw [XR_if hd ht]; simp only [xcc, decide_eq_true_eq]
theorem XR_if_ge {x : Int32} {off : Int} {t : Nat} (hd : decode (xB P M) pc = .ok (.ifCond .ge off, 3)) (ht : xtgt pc off = some t) : XR P M pc L (.int x :: st) H = if 0 ≤ x then XR P M t L st H else XR P M (pc + 3) L st H := by rw [XR_if hd ht]; simp only [xcc, decide_eq_true_eq]
theorem XR_if_gt {x : Int32} {off : Int} {t : Nat} (hd : decode (xB P M) pc = .ok (.ifCond .gt off, 3)) (ht : xtgt pc off = some t) : XR P M pc L (.int x :: st) H = if 0 < x then XR P M t L st H else XR P M (pc + 3) L st H := by rw [XR_if hd ht]; simp only [xcc, decide_eq_true_eq]
theorem XR_if_le {x : Int32} {off : Int} {t : Nat} (hd : decode (xB P M) pc = .ok (.ifCond .le off, 3)) (ht : xtgt pc off = some t) : XR P M pc L (.int x :: st) H = if x ≤ 0 then XR P M t L st H else XR P M (pc + 3) L st H := by rw [XR_if hd ht]; simp only [xcc, decide_eq_true_eq]
theorem XR_ic_eq {x y : Int32} {off : Int} {t : Nat} (hd : decode (xB P M) pc = .ok (.if_icmp .eq off, 3)) (ht : xtgt pc off = some t) : XR P M pc L (.int y :: .int x :: st) H = if x = y then XR P M t L st H else XR P M (pc + 3) L st H := by rw [XR_ic hd ht]; simp only [xcc, decide_eq_true_eq]
theorem XR_ic_ne {x y : Int32} {off : Int} {t : Nat} (hd : decode (xB P M) pc = .ok (.if_icmp .ne off, 3)) (ht : xtgt pc off = some t) : XR P M pc L (.int y :: .int x :: st) H = if x = y then XR P M (pc + 3) L st H else XR P M t L st H := by rw [XR_ic hd ht]; by_cases h : x = y <;> simp [xcc, h]
theorem XR_ic_lt {x y : Int32} {off : Int} {t : Nat} (hd : decode (xB P M) pc = .ok (.if_icmp .lt off, 3)) (ht : xtgt pc off = some t) : XR P M pc L (.int y :: .int x :: st) H = if x < y then XR P M t L st H else XR P M (pc + 3) L st H := by rw [XR_ic hd ht]; simp only [xcc, decide_eq_true_eq]
theorem XR_ic_ge {x y : Int32} {off : Int} {t : Nat} (hd : decode (xB P M) pc = .ok (.if_icmp .ge off, 3)) (ht : xtgt pc off = some t) : XR P M pc L (.int y :: .int x :: st) H = if y ≤ x then XR P M t L st H else XR P M (pc + 3) L st H := by rw [XR_ic hd ht]; simp only [xcc, decide_eq_true_eq]
theorem XR_ic_gt {x y : Int32} {off : Int} {t : Nat} (hd : decode (xB P M) pc = .ok (.if_icmp .gt off, 3)) (ht : xtgt pc off = some t) : XR P M pc L (.int y :: .int x :: st) H = if y < x then XR P M t L st H else XR P M (pc + 3) L st H := by rw [XR_ic hd ht]; simp only [xcc, decide_eq_true_eq]
theorem XR_ic_le {x y : Int32} {off : Int} {t : Nat} (hd : decode (xB P M) pc = .ok (.if_icmp .le off, 3)) (ht : xtgt pc off = some t) : XR P M pc L (.int y :: .int x :: st) H = if x ≤ y then XR P M t L st H else XR P M (pc + 3) L st H := by rw [XR_ic hd ht]; simp only [xcc, decide_eq_true_eq]
theorem XR_rd (hd : decode (xB P M) pc = .ok (I, len)) (hl : xlen I len = len) (h0 : xstk I st = none) (h1 : xload I L = none) (h2 : xsto (xNL P M) I L st = none) (h3 : xjmp I pc len st = none) (hw : xrd P M I st H.2.1 = none → xwr P M I st H = none ∧ xend P M pc I L st H = none) :
    XR P M pc L st H = match xrd P M I st H.2.1 with
      | some s => XR P M (pc + len) L s H
      | none => none := by
  rw [XR_unfold, xact_of hd hl]
  unfold xins
  rw [h0, h1, h2, h3]
  dsimp only
  cases h : xrd P M I st H.2.1 with
  | some s => rfl
  | none =>
    obtain ⟨w1, w2⟩ := hw h
    dsimp only
    rw [w1, w2]
    rfl
def xgf (e : xE) (ci k : Nat) (K : Value → Option (xO × xH)) : Option (xO × xH) := match e with
  | .inr (cj, fs) => if cj = ci then match fs[k]? with
    | some v => K v
    | none => none
    else none
  | _ => none
theorem XR_get {i ci k r : Nat} (hd : decode (xB P M) pc = .ok (.getfield i, 3)) (hp : xPo P (xKl P M) i = (0, ci, k)) : XR P M pc L (.ref r :: st) H = xgf (H.2.1 r) ci k (fun v => XR P M (pc + 3) L (v :: st) H) := by
  rw [XR_rd hd rfl rfl rfl rfl rfl (fun _ => ⟨rfl, rfl⟩)]
  unfold xrd xgf
  dsimp only
  rw [hp]
  cases hr : H.2.1 r with
  | inl o => rfl
  | inr o =>
    obtain ⟨cj, fs⟩ := o
    dsimp only
    by_cases hc : cj = ci
    · rw [if_pos hc]
      show (match (if cj = ci then Option.map (fun x => x :: st) fs[k]? else none) with
        | some s => XR P M (pc + 3) L s H
        | none => none) = _
      rw [if_pos hc]
      cases fs[k]? <;> rfl
    · rw [if_neg hc]
      show (match (if cj = ci then Option.map (fun x => x :: st) fs[k]? else none) with
        | some s => XR P M (pc + 3) L s H
        | none => none) = _
      rw [if_neg hc]
/-- reading an int of an array of kind t -/
def xia (q : Nat → Bool) (e : xE) (j : Int32) (K : Int32 → Option (xO × xH)) : Option (xO × xH) := match e with
  | .inl (t, n, .inl f) => if q t = true ∧ ¬ (j < 0 ∨ n ≤ j.toNatClampNeg) then K (f j.toNatClampNeg) else none
  | _ => none
def xkI (t : Nat) : Bool := decide (t = 0 ∨ t = 7)
def xk (k t : Nat) : Bool := decide (t = k)
theorem XR_iald {j : Int32} {r : Nat} (hd : decode (xB P M) pc = .ok (.iaload, 1)) : XR P M pc L (.int j :: .ref r :: st) H = xia xkI (H.2.1 r) j (fun x => XR P M (pc + 1) L (.int x :: st) H) := by
  rw [XR_rd hd rfl rfl rfl rfl rfl (fun _ => ⟨rfl, rfl⟩)]
  unfold xrd xia xkI
  dsimp only
  cases hr : H.2.1 r with
  | inr o => rfl
  | inl a =>
    obtain ⟨t, n, a⟩ := a
    rcases a with f | f | f | f | f <;> try rfl
    dsimp only
    by_cases hc : (t = 0 ∨ t = 7) ∧ ¬ (j < 0 ∨ n ≤ j.toNatClampNeg)
    · rw [if_pos hc, if_pos ⟨by simpa using hc.1, hc.2⟩]
    · rw [if_neg hc, if_neg (fun z => hc ⟨by simpa using z.1, z.2⟩)]
theorem XR_cald {j : Int32} {r : Nat} (hd : decode (xB P M) pc = .ok (.caload, 1)) : XR P M pc L (.int j :: .ref r :: st) H = xia (xk 1) (H.2.1 r) j (fun x => XR P M (pc + 1) L (.int x :: st) H) := by
  rw [XR_rd hd rfl rfl rfl rfl rfl (fun _ => ⟨rfl, rfl⟩)]
  unfold xrd xia xk
  dsimp only
  cases hr : H.2.1 r with
  | inr o => rfl
  | inl a =>
    obtain ⟨t, n, a⟩ := a
    rcases a with f | f | f | f | f <;> try rfl
    dsimp only
    by_cases hc : t = 1 ∧ ¬ (j < 0 ∨ n ≤ j.toNatClampNeg)
    · rw [if_pos hc, if_pos ⟨by simpa using hc.1, hc.2⟩]
    · rw [if_neg hc, if_neg (fun z => hc ⟨by simpa using z.1, z.2⟩)]
theorem XR_bald {j : Int32} {r : Nat} (hd : decode (xB P M) pc = .ok (.baload, 1)) : XR P M pc L (.int j :: .ref r :: st) H = xia (xk 2) (H.2.1 r) j (fun x => XR P M (pc + 1) L (.int x :: st) H) := by
  rw [XR_rd hd rfl rfl rfl rfl rfl (fun _ => ⟨rfl, rfl⟩)]
  unfold xrd xia xk
  dsimp only
  cases hr : H.2.1 r with
  | inr o => rfl
  | inl a =>
    obtain ⟨t, n, a⟩ := a
    rcases a with f | f | f | f | f <;> try rfl
    dsimp only
    by_cases hc : t = 2 ∧ ¬ (j < 0 ∨ n ≤ j.toNatClampNeg)
    · rw [if_pos hc, if_pos ⟨by simpa using hc.1, hc.2⟩]
    · rw [if_neg hc, if_neg (fun z => hc ⟨by simpa using z.1, z.2⟩)]
def xla (e : xE) (j : Int32) (K : Int64 → Option (xO × xH)) : Option (xO × xH) := match e with
  | .inl (t, n, .inr (.inl f)) => if t = 3 ∧ ¬ (j < 0 ∨ n ≤ j.toNatClampNeg) then K (f j.toNatClampNeg) else none
  | _ => none
def xda (e : xE) (j : Int32) (K : UInt64 → Option (xO × xH)) : Option (xO × xH) := match e with
  | .inl (t, n, .inr (.inr (.inr (.inl f)))) => if t = 4 ∧ ¬ (j < 0 ∨ n ≤ j.toNatClampNeg) then K (f j.toNatClampNeg) else none
  | _ => none
def xra (e : xE) (j : Int32) (K : Value → Option (xO × xH)) : Option (xO × xH) := match e with
  | .inl (t, n, .inr (.inr (.inr (.inr f)))) => if t = 5 ∧ ¬ (j < 0 ∨ n ≤ j.toNatClampNeg) then K (va_rf (f j.toNatClampNeg)) else none
  | _ => none
def xlen9 (e : xE) (K : Int32 → Option (xO × xH)) : Option (xO × xH) := match e with
  | .inl (t, a) => if t < 6 ∨ t = 7 then K (Int32.ofNat a.1) else none
  | _ => none
theorem XR_lald {j : Int32} {r : Nat} (hd : decode (xB P M) pc = .ok (.laload, 1)) : XR P M pc L (.int j :: .ref r :: st) H = xla (H.2.1 r) j (fun x => XR P M (pc + 1) L (.long x :: st) H) := by
  rw [XR_rd hd rfl rfl rfl rfl rfl (fun _ => ⟨rfl, rfl⟩)]
  unfold xrd xla
  dsimp only
  cases hr : H.2.1 r with
  | inr o => rfl
  | inl a =>
    obtain ⟨t, n, a⟩ := a
    rcases a with f | f | f | f | f <;> try rfl
    dsimp only
    by_cases hc : t = 3 ∧ ¬ (j < 0 ∨ n ≤ j.toNatClampNeg)
    · rw [if_pos hc, if_pos hc]
    · rw [if_neg hc, if_neg hc]
theorem XR_dald {j : Int32} {r : Nat} (hd : decode (xB P M) pc = .ok (.daload, 1)) : XR P M pc L (.int j :: .ref r :: st) H = xda (H.2.1 r) j (fun x => XR P M (pc + 1) L (.double x :: st) H) := by
  rw [XR_rd hd rfl rfl rfl rfl rfl (fun _ => ⟨rfl, rfl⟩)]
  unfold xrd xda
  dsimp only
  cases hr : H.2.1 r with
  | inr o => rfl
  | inl a =>
    obtain ⟨t, n, a⟩ := a
    rcases a with f | f | f | f | f <;> try rfl
    dsimp only
    by_cases hc : t = 4 ∧ ¬ (j < 0 ∨ n ≤ j.toNatClampNeg)
    · rw [if_pos hc, if_pos hc]
    · rw [if_neg hc, if_neg hc]
theorem XR_aald {j : Int32} {r : Nat} (hd : decode (xB P M) pc = .ok (.aaload, 1)) : XR P M pc L (.int j :: .ref r :: st) H = xra (H.2.1 r) j (fun v => XR P M (pc + 1) L (v :: st) H) := by
  rw [XR_rd hd rfl rfl rfl rfl rfl (fun _ => ⟨rfl, rfl⟩)]
  unfold xrd xra
  dsimp only
  cases hr : H.2.1 r with
  | inr o => rfl
  | inl a =>
    obtain ⟨t, n, a⟩ := a
    rcases a with f | f | f | f | f <;> try rfl
    dsimp only
    by_cases hc : t = 5 ∧ ¬ (j < 0 ∨ n ≤ j.toNatClampNeg)
    · rw [if_pos hc, if_pos hc]
    · rw [if_neg hc, if_neg hc]
theorem XR_alen {r : Nat} (hd : decode (xB P M) pc = .ok (.arraylength, 1)) : XR P M pc L (.ref r :: st) H = xlen9 (H.2.1 r) (fun x => XR P M (pc + 1) L (.int x :: st) H) := by
  rw [XR_rd hd rfl rfl rfl rfl rfl (fun _ => ⟨rfl, rfl⟩)]
  unfold xrd xlen9
  dsimp only
  cases hr : H.2.1 r with
  | inr o => rfl
  | inl a =>
    obtain ⟨t, a⟩ := a
    dsimp only
    by_cases hc : t < 6 ∨ t = 7
    · rw [if_pos hc, if_pos hc]
    · rw [if_neg hc, if_neg hc]
theorem XR_gets {i a b : Nat} (hd : decode (xB P M) pc = .ok (.getstatic i, 3)) (hp : xPo P (xKl P M) i = (11, a, b)) : XR P M pc L st H = XR P M (pc + 3) L (.ref (xT0 P) :: st) H := by
  rw [XR_rd hd rfl rfl rfl rfl rfl (fun _ => ⟨rfl, rfl⟩)]
  unfold xrd
  dsimp only
  rw [hp]
  rfl
theorem XR_ldc {i a b : Nat} (hd : decode (xB P M) pc = .ok (.ldc i, 2)) (hp : xPo P (xKl P M) i = (10, a, b)) : XR P M pc L st H = XR P M (pc + 2) L (.int (Int32.ofNat a) :: st) H := by
  rw [XR_rd hd rfl rfl rfl rfl rfl (fun _ => ⟨rfl, rfl⟩)]
  unfold xrd
  dsimp only
  rw [hp]
  rfl
theorem XR_ldcw {i a b : Nat} (hd : decode (xB P M) pc = .ok (.ldc_w i, 3)) (hp : xPo P (xKl P M) i = (10, a, b)) : XR P M pc L st H = XR P M (pc + 3) L (.int (Int32.ofNat a) :: st) H := by
  rw [XR_rd hd rfl rfl rfl rfl rfl (fun _ => ⟨rfl, rfl⟩)]
  unfold xrd
  dsimp only
  rw [hp]
  rfl
end EQ
