/-! each instruction of the small machine, by the kit's rows -/
theorem xi1_inv {f : Int32 → Value} {st s : List Value} (h : xi1 f st = some s) : ∃ x r, st = .int x :: r ∧ s = f x :: r := by
  unfold xi1 at h
  split at h
  · cases h; exact ⟨_, _, rfl, rfl⟩
  · cases h
theorem xi2_inv {f : Int32 → Int32 → Option Value} {st s : List Value} (h : xi2 f st = some s) : ∃ x y r v, st = .int y :: .int x :: r ∧ f x y = some v ∧ s = v :: r := by
  unfold xi2 at h
  split at h
  next y x r =>
    cases hv : f x y with
    | none => rw [hv] at h; cases h
    | some v => rw [hv] at h; cases h; exact ⟨_, _, _, _, rfl, hv, rfl⟩
  · cases h
theorem xd2_inv {f : UInt64 → UInt64 → Option Value} {st s : List Value} (h : xd2 f st = some s) : ∃ x y r v, st = .double y :: .double x :: r ∧ f x y = some v ∧ s = v :: r := by
  unfold xd2 at h
  split at h
  next y x r =>
    cases hv : f x y with
    | none => rw [hv] at h; cases h
    | some v => rw [hv] at h; cases h; exact ⟨_, _, _, _, rfl, hv, rfl⟩
  · cases h
theorem xf2_inv {f : UInt32 → UInt32 → Option Value} {st s : List Value} (h : xf2 f st = some s) : ∃ x y r v, st = .float y :: .float x :: r ∧ f x y = some v ∧ s = v :: r := by
  unfold xf2 at h
  split at h
  next y x r =>
    cases hv : f x y with
    | none => rw [hv] at h; cases h
    | some v => rw [hv] at h; cases h; exact ⟨_, _, _, _, rfl, hv, rfl⟩
  · cases h
section XI
variable {p : Program} {l : Launch} {e : Env} {Rm : Room} {s : State} {m : MethodId} {args : Array Value} {below : List Frame} {meth : Method} {c : Code} {Hp : Heap} {locs : List Loc} {cells slots : Nat} {Q : State → Prop}
variable {cc : ByteArray} {pc len : Nat} {ls : Array Slot} {I : Instr} {st st' : List Value} {L L' : xL}
theorem x_stk (hx : p.tables.exec = Jvm.exec) (hb : c.code = cc) (hd : decode cc pc = .ok (I, len)) (hlen : xlen I len = len) (h : xstk I st = some st')
    (k : W p l e Rm s m args below meth c Hp locs cells slots Q (F0 m (pc + len) ls st')) : W p l e Rm s m args below meth c Hp locs cells slots Q (F0 m pc ls st) := by
  cases I with
  | iconst i => replace hlen : 1 = len := hlen; subst hlen; cases h; exact lv_iconst hx hb hd rfl k
  | bipush i => replace hlen : 2 = len := hlen; subst hlen; cases h; exact lv_bipush hx hb hd rfl k
  | sipush i => replace hlen : 3 = len := hlen; subst hlen; cases h; exact lv_sipush hx hb hd rfl k
  | lconst i => replace hlen : 1 = len := hlen; subst hlen; cases h; exact lv_lconst hx hb hd rfl k
  | dconst i =>
    replace hlen : 1 = len := hlen; subst hlen
    by_cases hi : i = 0
    · subst hi; cases h; exact lv_dconst0 hx hb hd k
    · replace h : (if i = 0 then some (Value.double FP.dconst0 :: st) else none) = some st' := h
      rw [if_neg hi] at h; cases h
  | iadd => replace hlen : 1 = len := hlen; subst hlen; obtain ⟨x, y, r, v, rfl, h1, rfl⟩ := xi2_inv h; cases h1; exact lv_iadd hx hb hd k
  | isub => replace hlen : 1 = len := hlen; subst hlen; obtain ⟨x, y, r, v, rfl, h1, rfl⟩ := xi2_inv h; cases h1; exact lv_isub hx hb hd k
  | imul => replace hlen : 1 = len := hlen; subst hlen; obtain ⟨x, y, r, v, rfl, h1, rfl⟩ := xi2_inv h; cases h1; exact lv_imul hx hb hd k
  | iand => replace hlen : 1 = len := hlen; subst hlen; obtain ⟨x, y, r, v, rfl, h1, rfl⟩ := xi2_inv h; cases h1; exact lv_iand hx hb hd k
  | ior => replace hlen : 1 = len := hlen; subst hlen; obtain ⟨x, y, r, v, rfl, h1, rfl⟩ := xi2_inv h; cases h1; exact lv_ior hx hb hd k
  | ixor => replace hlen : 1 = len := hlen; subst hlen; obtain ⟨x, y, r, v, rfl, h1, rfl⟩ := xi2_inv h; cases h1; exact lv_ixor hx hb hd k
  | ishl => replace hlen : 1 = len := hlen; subst hlen; obtain ⟨x, y, r, v, rfl, h1, rfl⟩ := xi2_inv h; cases h1; exact lv_ishl hx hb hd k
  | ishr => replace hlen : 1 = len := hlen; subst hlen; obtain ⟨x, y, r, v, rfl, h1, rfl⟩ := xi2_inv h; cases h1; exact lv_ishr hx hb hd k
  | iushr => replace hlen : 1 = len := hlen; subst hlen; obtain ⟨x, y, r, v, rfl, h1, rfl⟩ := xi2_inv h; cases h1; exact lv_iushr hx hb hd rfl k
  | idiv =>
    replace hlen : 1 = len := hlen; subst hlen
    obtain ⟨x, y, r, v, rfl, h1, rfl⟩ := xi2_inv h
    by_cases hy : y = 0
    · simp [hy] at h1
    · simp only [hy, if_false] at h1; cases h1; exact lv_idiv hx hb hd hy k
  | irem =>
    replace hlen : 1 = len := hlen; subst hlen
    obtain ⟨x, y, r, v, rfl, h1, rfl⟩ := xi2_inv h
    by_cases hy : y = 0
    · simp [hy] at h1
    · simp only [hy, if_false] at h1; cases h1; exact lv_irem hx hb hd hy k
  | ineg => replace hlen : 1 = len := hlen; subst hlen; obtain ⟨x, r, rfl, rfl⟩ := xi1_inv h; exact lv_ineg hx hb hd k
  | i2l => replace hlen : 1 = len := hlen; subst hlen; obtain ⟨x, r, rfl, rfl⟩ := xi1_inv h; exact lv_i2l hx hb hd rfl k
  | i2c => replace hlen : 1 = len := hlen; subst hlen; obtain ⟨x, r, rfl, rfl⟩ := xi1_inv h; exact lv_i2c hx hb hd rfl k
  | i2d => replace hlen : 1 = len := hlen; subst hlen; obtain ⟨x, r, rfl, rfl⟩ := xi1_inv h; exact lv_i2d hx hb hd k
  | i2f => replace hlen : 1 = len := hlen; subst hlen; obtain ⟨x, r, rfl, rfl⟩ := xi1_inv h; exact lv_i2f hx hb hd k
  | lcmp =>
    replace hlen : 1 = len := hlen; subst hlen
    unfold xstk at h
    dsimp only at h
    split at h
    · cases h; exact W.lcmp hx hb hd k
    · cases h
  | dcmp op => replace hlen : 1 = len := hlen; subst hlen; obtain ⟨x, y, r, v, rfl, h1, rfl⟩ := xd2_inv h; cases h1; exact lv_dcmp hx hb hd k
  | fcmp op => replace hlen : 1 = len := hlen; subst hlen; obtain ⟨x, y, r, v, rfl, h1, rfl⟩ := xf2_inv h; cases h1; exact lv_fcmp hx hb hd k
  | ddiv =>
    replace hlen : 1 = len := hlen; subst hlen
    obtain ⟨x, y, r, v, rfl, h1, rfl⟩ := xd2_inv h
    by_cases hy : FP.ddiv x y &&& 0x7fffffffffffffff ≤ 0x7ff0000000000000
    · simp only [hy, if_true] at h1; cases h1; exact lv_ddiv hx hb hd hy k
    · simp only [hy, if_false] at h1; cases h1
  | fdiv =>
    replace hlen : 1 = len := hlen; subst hlen
    obtain ⟨x, y, r, v, rfl, h1, rfl⟩ := xf2_inv h
    by_cases hy : FP.fdiv x y &&& 0x7fffffff ≤ 0x7f800000
    · simp only [hy, if_true] at h1; cases h1; exact lv_fdiv hx hb hd hy k
    · simp only [hy, if_false] at h1; cases h1
  | f2d =>
    replace hlen : 1 = len := hlen; subst hlen
    unfold xstk at h
    dsimp only at h
    split at h
    · split at h
      next hy => cases h; exact lv_f2d hx hb hd hy k
      next => cases h
    · cases h
  | dup =>
    replace hlen : 1 = len := hlen; subst hlen
    unfold xstk at h
    dsimp only at h
    split at h
    · split at h
      next hy => cases h; exact lv_dup hx hb hd hy k
      next => cases h
    · cases h
  | dup2 =>
    replace hlen : 1 = len := hlen; subst hlen
    unfold xstk at h
    dsimp only at h
    split at h
    · split at h
      next hy => cases h; exact lv_dup2_11 hx hb hd hy.1 hy.2 k
      next => cases h
    · cases h
  | pop =>
    replace hlen : 1 = len := hlen; subst hlen
    unfold xstk at h
    dsimp only at h
    split at h
    · split at h
      next hy => cases h; exact lv_pop hx hb hd hy k
      next => cases h
    · cases h
  | _ => cases h
theorem x_load {nL : Nat} {v : Value} (hx : p.tables.exec = Jvm.exec) (hb : c.code = cc) (hd : decode cc pc = .ok (I, len)) (hlen : xlen I len = len) (hl : lv_has ls nL (xPr 0 L)) (h : xload I L = some v)
    (k : W p l e Rm s m args below meth c Hp locs cells slots Q (F0 m (pc + len) ls (v :: st))) : W p l e Rm s m args below meth c Hp locs cells slots Q (F0 m pc ls st) := by
  cases I with
  | iload i =>
    replace hlen : 2 = len := hlen; subst hlen
    unfold xload at h
    dsimp only at h
    split at h
    next x hxl => cases h; exact lv_iload hx hb hd (x_lld hl hxl) k
    next => cases h
  | iload_n i =>
    replace hlen : 1 = len := hlen; subst hlen
    unfold xload at h
    dsimp only at h
    split at h
    next x hxl => cases h; exact lv_iload_n hx hb hd rfl (x_lld hl hxl) k
    next => cases h
  | aload i =>
    replace hlen : 2 = len := hlen; subst hlen
    unfold xload at h
    dsimp only at h
    split at h
    next x hxl => cases h; exact lv_aload hx hb hd (x_lld hl hxl) k
    next => cases h
  | aload_n i =>
    replace hlen : 1 = len := hlen; subst hlen
    unfold xload at h
    dsimp only at h
    split at h
    next x hxl => cases h; exact lv_aload_n hx hb hd rfl (x_lld hl hxl) k
    next => cases h
  | dload i =>
    replace hlen : 2 = len := hlen; subst hlen
    unfold xload at h
    dsimp only at h
    split at h
    next x hxl => cases h; exact lv_dload hx hb hd (x_lld hl hxl) k
    next => cases h
  | fload i =>
    replace hlen : 2 = len := hlen; subst hlen
    unfold xload at h
    dsimp only at h
    split at h
    next x hxl => cases h; exact lv_fload hx hb hd (x_lld hl hxl) k
    next => cases h
  | _ => cases h
theorem x_sto {nL : Nat} (hx : p.tables.exec = Jvm.exec) (hb : c.code = cc) (hd : decode cc pc = .ok (I, len)) (hlen : xlen I len = len) (hl : lv_has ls nL (xPr 0 L)) (h : xsto nL I L st = some (L', st'))
    (k : ∀ ls' : Array Slot, lv_has ls' nL (xPr 0 L') → W p l e Rm s m args below meth c Hp locs cells slots Q (F0 m (pc + len) ls' st')) : W p l e Rm s m args below meth c Hp locs cells slots Q (F0 m pc ls st) := by
  cases I with
  | istore i =>
    replace hlen : 2 = len := hlen; subst hlen
    unfold xsto at h
    dsimp only at h
    split at h
    · split at h
      next hi => cases h; exact lv_istore hx hb hd hl hi rfl (fun ls' hl' => k ls' (x_lst hl'))
      next => cases h
    · cases h
  | istore_n i =>
    replace hlen : 1 = len := hlen; subst hlen
    unfold xsto at h
    dsimp only at h
    split at h
    · split at h
      next hi => cases h; exact lv_istore_n hx hb hd rfl hl hi rfl (fun ls' hl' => k ls' (x_lst hl'))
      next => cases h
    · cases h
  | astore i =>
    replace hlen : 2 = len := hlen; subst hlen
    unfold xsto at h
    dsimp only at h
    split at h
    · split at h
      next hi => cases h; exact lv_astore hx hb hd hl hi rfl (fun ls' hl' => k ls' (x_lst hl'))
      next => cases h
    · cases h
  | astore_n i =>
    replace hlen : 1 = len := hlen; subst hlen
    unfold xsto at h
    dsimp only at h
    split at h
    · split at h
      next hi => cases h; exact lv_astore_n hx hb hd rfl hl hi rfl (fun ls' hl' => k ls' (x_lst hl'))
      next => cases h
    · cases h
  | fstore i =>
    replace hlen : 2 = len := hlen; subst hlen
    unfold xsto at h
    dsimp only at h
    split at h
    · split at h
      next hi => cases h; exact lv_fstore hx hb hd hl hi rfl (fun ls' hl' => k ls' (x_lst hl'))
      next => cases h
    · cases h
  | dstore i =>
    replace hlen : 2 = len := hlen; subst hlen
    unfold xsto at h
    dsimp only at h
    split at h
    · split at h
      next hi => cases h; exact lv_dstore hx hb hd hl hi rfl (fun ls' hl' => k ls' (x_lst2 hl'))
      next => cases h
    · cases h
  | iinc i n =>
    replace hlen : 3 = len := hlen; subst hlen
    unfold xsto at h
    dsimp only at h
    split at h
    next x hxl =>
      split at h
      next hi =>
        cases h
        have hm : (i, Value.int x) ∈ xPr 0 L := by
          unfold xld at hxl
          split at hxl
          next w hw => cases hxl; exact (xPr_mem _ _ _).mpr ⟨i, hw, by simp⟩
          next => cases hxl
        obtain ⟨kk, hkk⟩ := List.getElem?_of_mem hm
        exact lv_iinc hx hb hd hl hkk rfl hi rfl (fun ls' hl' => k ls' (x_lst hl'))
      next => cases h
    next => cases h
  | _ => cases h
theorem xtgt_inv {off : Int} {tgt : Nat} (h : xtgt pc off = some tgt) : (pc : Int) + off = (tgt : Int) := by
  unfold xtgt at h
  split at h
  next h0 => cases h; omega
  next => cases h
theorem x_jmp {q : Nat × List Value} (hx : p.tables.exec = Jvm.exec) (hb : c.code = cc) (hd : decode cc pc = .ok (I, len)) (hlen : xlen I len = len) (h : xjmp I pc len st = some q)
    (k : W p l e Rm s m args below meth c Hp locs cells slots Q (F0 m q.1 ls q.2)) : W p l e Rm s m args below meth c Hp locs cells slots Q (F0 m pc ls st) := by
  cases I with
  | goto off =>
    replace hlen : 3 = len := hlen; subst hlen
    obtain ⟨t, h1, h2⟩ := Option.map_eq_some_iff.mp h
    subst h2
    exact lv_goto hx hb hd (xtgt_inv h1) k
  | ifCond cnd off =>
    replace hlen : 3 = len := hlen; subst hlen
    unfold xjmp at h
    dsimp only at h
    split at h
    next x r =>
      obtain ⟨t, h1, h2⟩ := Option.map_eq_some_iff.mp h
      subst h2
      have h1 := xtgt_inv h1
      have kt : xcc cnd x 0 = true → W p l e Rm s m args below meth c Hp locs cells slots Q (F0 m t ls r) := fun z => by rw [if_pos z] at k; exact k
      have kf : ¬ xcc cnd x 0 = true → W p l e Rm s m args below meth c Hp locs cells slots Q (F0 m (pc + 3) ls r) := fun z => by rw [if_neg z] at k; exact k
      cases cnd <;> simp only [xcc, decide_eq_true_eq] at kt kf
      · exact lv_if_eq hx hb hd h1 kt kf
      · exact lv_if_ne hx hb hd h1 kt (fun z => kf (fun q => q z))
      · exact lv_if_lt hx hb hd h1 kt kf
      · exact lv_if_ge hx hb hd h1 kt kf
      · exact lv_if_gt hx hb hd h1 kt kf
      · exact lv_if_le hx hb hd h1 kt kf
    next => cases h
  | if_icmp cnd off =>
    replace hlen : 3 = len := hlen; subst hlen
    unfold xjmp at h
    dsimp only at h
    split at h
    next y x r =>
      obtain ⟨t, h1, h2⟩ := Option.map_eq_some_iff.mp h
      subst h2
      have h1 := xtgt_inv h1
      have kt : xcc cnd x y = true → W p l e Rm s m args below meth c Hp locs cells slots Q (F0 m t ls r) := fun z => by rw [if_pos z] at k; exact k
      have kf : ¬ xcc cnd x y = true → W p l e Rm s m args below meth c Hp locs cells slots Q (F0 m (pc + 3) ls r) := fun z => by rw [if_neg z] at k; exact k
      cases cnd <;> simp only [xcc, decide_eq_true_eq] at kt kf
      · exact lv_icmp_eq hx hb hd h1 kt kf
      · exact lv_icmp_ne hx hb hd h1 kt (fun z => kf (fun q => q z))
      · exact lv_icmp_lt hx hb hd h1 kt kf
      · exact lv_icmp_ge hx hb hd h1 kt kf
      · exact lv_icmp_gt hx hb hd h1 kt kf
      · exact lv_icmp_le hx hb hd h1 kt kf
    next => cases h
  | ifnull off =>
    replace hlen : 3 = len := hlen; subst hlen
    unfold xjmp at h
    dsimp only at h
    split at h
    · cases h; exact lv_ifnull hx hb hd k
    · obtain ⟨t, h1, h2⟩ := Option.map_eq_some_iff.mp h
      subst h2
      exact lv_ifnullN hx hb hd (xtgt_inv h1) k
    · cases h
  | tableswitch d lo hi offs =>
    unfold xjmp at h
    dsimp only at h
    split at h
    next x r =>
      by_cases hr : x.toInt < lo ∨ hi < x.toInt
      · rw [if_pos hr] at h
        obtain ⟨t, h1, h2⟩ := Option.map_eq_some_iff.mp h
        subst h2
        exact lv_tableOut hx hb hd hr (xtgt_inv h1) k
      · rw [if_neg hr] at h
        split at h
        next off ho =>
          obtain ⟨t, h1, h2⟩ := Option.map_eq_some_iff.mp h
          subst h2
          exact lv_tableIn hx hb hd (fun z => hr (Or.inl z)) (fun z => hr (Or.inr z)) ho (xtgt_inv h1) k
        next => cases h
    next => cases h
  | _ => cases h
end XI
