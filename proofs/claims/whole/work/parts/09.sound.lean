/-! the machine answers what the small machine answers -/
section XS
variable {P : xP} {Y : Nat → MethodName} {R : Nat → String} {T : Nat → u_T} {N : Nat → Nat} {ty : Nat → Nat → FieldType} {cl : List vw_C} {Ex : Nat → String} {Hh : Nat → List (Nat × Nat × Nat × Nat)} {B Ne : List Jvm.Cond} {St : List (String × Nat × String)} {Nc : List (String × String)} {NC NM : Nat}
variable {D : va_G} {cid : Nat → ClassId} {lo b0 LL : Nat} {xs : Nat → Int32}
/-- what a run leaves -/
def xPost (P : xP) (cl : List vw_C) (D : va_G) (cid : Nat → ClassId) (lo b0 LL : Nat) (xs : Nat → Int32) (A : Nat → Prop) (H1 : xH) (st t : State) : Prop :=
  va_P D cl (xW cid lo H1.1.1 H1.2.1) t.heap ∧ va_F A st t ∧ xJ lo H1.1.1 (xT0 P) b0 LL xs H1.2.1 ∧ (∀ q, lo ≤ q → q < H1.1.1 → A q) ∧ lo ≤ H1.1.1 ∧ (H1.1.2 = true → H1.1.1 = st.heap.size + H1.2.2.1)
def xQc (P : xP) (cl : List vw_C) (D : va_G) (cid : Nat → ClassId) (lo b0 LL : Nat) (xs : Nat → Int32) (A : Nat → Prop) (o : xO) (H1 : xH) : Array Value → State → Outcome → State → Prop := fun _ st oc t => match o with
  | .inl v => oc = .returned v ∧ xPost P cl D cid lo b0 LL xs A H1 st t
  | .inr _ => False
def xXc (P : xP) (cl : List vw_C) (D : va_G) (cid : Nat → ClassId) (lo b0 LL : Nat) (xs : Nat → Int32) (Ex : Nat → String) (A : Nat → Prop) (o : xO) (H1 : xH) : String → State → State → Prop := fun E st t => match o with
  | .inl _ => False
  | .inr k => E = Ex k ∧ k < 6 ∧ xPost P cl D cid lo b0 LL xs A H1 st t
theorem xwr_mono {M : Nat} {I : Instr} {st : List Value} {H : xH} {q : List Value × xH} (h : xwr P M I st H = some q) : H.2.2.1 ≤ q.2.2.2.1 ∧ H.2.2.2 ≤ q.2.2.2.2 ∧ (q.2.1.2 = true → H.1.2 = true) := by
  unfold xwr at h
  repeat' split at h
  all_goals first
    | (cases h; done)
    | (cases h; exact ⟨Nat.le_refl _, Nat.le_refl _, fun z => z⟩)
    | (cases h; refine ⟨Nat.le_succ _, Nat.le_add_right _ _, fun _ => ?_⟩; simp_all)
theorem xend_mono {M pc : Nat} {I : Instr} {L : xL} {st : List Value} {H : xH} {a : xA} (h : xend P M pc I L st H = some a) : (∃ o H', a = .inr (.inl (o, H')) ∧ H.2.2.1 ≤ H'.2.2.1 ∧ H.2.2.2 ≤ H'.2.2.2 ∧ (H'.1.2 = true → H.1.2 = true)) ∨ ∃ M' as L' rest, a = .inr (.inr (M', as, M, pc, L', rest, H)) := by
  unfold xend xcall at h
  repeat' split at h
  all_goals first
    | (cases h; done)
    | (cases h; exact Or.inr ⟨_, _, _, _, rfl⟩)
    | (cases h; exact Or.inl ⟨_, _, rfl, Nat.le_refl _, Nat.le_refl _, fun z => z⟩)
    | (cases h; exact Or.inl ⟨_, _, rfl, Nat.le_succ _, Nat.le_add_right _ _, fun z => by cases z⟩)
/-- what a step is -/
theorem xact_inv {M pc : Nat} {L : xL} {st : List Value} {H : xH} {a : xA} (h : xact P M pc L st H = some a) : ∃ I len, decode (xB P M) pc = .ok (I, len) ∧ xlen I len = len ∧
    ((∃ s', xstk I st = some s' ∧ a = .inl (M, pc + len, L, s', H)) ∨ (∃ v, xload I L = some v ∧ a = .inl (M, pc + len, L, v :: st, H)) ∨ (∃ q, xsto (xNL P M) I L st = some q ∧ a = .inl (M, pc + len, q.1, q.2, H)) ∨ (∃ q, xjmp I pc len st = some q ∧ a = .inl (M, q.1, L, q.2, H)) ∨
     (∃ s', xrd P M I st H.2.1 = some s' ∧ a = .inl (M, pc + len, L, s', H)) ∨ (∃ q, xwr P M I st H = some q ∧ a = .inl (M, pc + len, L, q.1, q.2)) ∨ xend P M pc I L st H = some a) := by
  unfold xact at h
  split at h
  next I len hd =>
    split at h
    next hl =>
      refine ⟨I, len, hd, hl, ?_⟩
      unfold xins xgo at h
      split at h
      next s' h1 => cases h; exact Or.inl ⟨_, h1, rfl⟩
      next h1 =>
        split at h
        next v h2 => cases h; exact Or.inr (Or.inl ⟨_, h2, rfl⟩)
        next h2 =>
          split at h
          next q h3 => cases h; exact Or.inr (Or.inr (Or.inl ⟨_, h3, rfl⟩))
          next h3 =>
            split at h
            next q h4 => cases h; exact Or.inr (Or.inr (Or.inr (Or.inl ⟨_, h4, rfl⟩)))
            next h4 =>
              split at h
              next s' h5 => cases h; exact Or.inr (Or.inr (Or.inr (Or.inr (Or.inl ⟨_, h5, rfl⟩))))
              next h5 =>
                split at h
                next q h6 => cases h; exact Or.inr (Or.inr (Or.inr (Or.inr (Or.inr (Or.inl ⟨_, h6, rfl⟩)))))
                next h6 => exact Or.inr (Or.inr (Or.inr (Or.inr (Or.inr (Or.inr h)))))
    next => cases h
  next => cases h
theorem x_mono : ∀ (n : Nat) (c : xC) (r : xO × xH), xrun P n c = some r → c.2.2.2.2.2.2.1 ≤ r.2.2.2.1 ∧ c.2.2.2.2.2.2.2 ≤ r.2.2.2.2 ∧ (r.2.1.2 = true → c.2.2.2.2.1.2 = true) := by
  intro n
  induction n with
  | zero => intro c r h; cases h
  | succ n ih =>
    intro c r h
    obtain ⟨M, pc, L, st, H⟩ := c
    rw [xrun] at h
    cases ha : xact P M pc L st H with
    | none => rw [ha] at h; cases h
    | some a =>
      rw [ha] at h
      obtain ⟨I, len, -, -, hh⟩ := xact_inv ha
      rcases hh with ⟨s', -, rfl⟩ | ⟨v, -, rfl⟩ | ⟨q, -, rfl⟩ | ⟨q, -, rfl⟩ | ⟨s', -, rfl⟩ | ⟨q, h6, rfl⟩ | h7
      · exact ih (M, pc + len, L, s', H) r h
      · exact ih (M, pc + len, L, v :: st, H) r h
      · exact ih (M, pc + len, q.1, q.2, H) r h
      · exact ih (M, q.1, L, q.2, H) r h
      · exact ih (M, pc + len, L, s', H) r h
      · have h1 := ih (M, pc + len, L, q.1, q.2) r h
        have h2 := xwr_mono h6
        exact ⟨Nat.le_trans h2.1 h1.1, Nat.le_trans h2.2.1 h1.2.1, fun z => h2.2.2 (h1.2.2 z)⟩
      · rcases xend_mono h7 with ⟨o, H', rfl, h1, h2, h3⟩ | ⟨M', as, L', rest, rfl⟩
        · cases h
          exact ⟨h1, h2, h3⟩
        · dsimp only at h
          split at h
          next v H1 h1 =>
            have k1 := ih _ _ h1
            have k2 := ih _ _ h
            dsimp only at k1 k2 ⊢
            exact ⟨by omega, by omega, fun z => k1.2.2 (k2.2.2 z)⟩
          next E H1 h1 =>
            have k1 := ih _ _ h1
            split at h
            · split at h
              · have k2 := ih _ _ h
                dsimp only at k1 k2 ⊢
                exact ⟨by omega, by omega, fun z => k1.2.2 (k2.2.2 z)⟩
              · split at h
                · cases h
                  dsimp only at k1 ⊢
                  exact ⟨by omega, by omega, fun z => k1.2.2 z⟩
                · cases h
            · cases h
          next => cases h
theorem xent_pr : ∀ (as : List Value) (k r : Nat), as.all xcat1 = true → lv_args k as = xPr k (as.map some ++ List.replicate r none) := by
  intro as
  induction as with
  | nil =>
    intro k r _
    show [] = xPr k (List.replicate r none)
    induction r generalizing k with
    | zero => rfl
    | succ r ih => exact ih (k + 1)
  | cons v as ih =>
    intro k r h
    simp only [List.all_cons, Bool.and_eq_true] at h
    have hv : ¬ v.category = 2 := by
      cases v <;> simp [xcat1, Value.category] at h ⊢
    show (k, v) :: lv_args (if v.category = 2 then k + 2 else k + 1) as = (k, v) :: xPr (k + 1) _
    rw [if_neg hv, ih (k + 1) r h.2]
    rfl
theorem xsl_len : ∀ (as : List Value), as.all xcat1 = true → (lg_sl as).length = as.length := by
  intro as
  induction as with
  | nil => intro _; rfl
  | cons v as ih =>
    intro h
    simp only [List.all_cons, Bool.and_eq_true] at h
    have hv : ¬ v.category = 2 := by
      cases v <;> simp [xcat1, Value.category] at h ⊢
    have := ih h.2
    simp only [lg_sl, List.flatMap_cons, hv, if_false, List.length_append, List.length_cons, List.length_nil] at this ⊢
    omega
/-- as vx_ofW and vx_ofWH, for a method that no native stands for -/
theorem x_ofW {l : Launch} {y : MethodName} {ws ws' : List Jvm.Cond} {rm : Room} {Pc : Array Value → State → Prop} {Qc : Array Value → State → Outcome → State → Prop} {XC : String → State → State → Prop} {mc ms : Nat} {free : Addr → Prop} {cc : ByteArray} {maxL : Nat} {ret : Option FieldType}
    (hy : plainFor y = true) (hw : ws = Jvm.Cond.code y cc maxL ret :: ws')
    (body : ∀ p e s m args below meth c s₁, BodyLoose p l y (headSpec ws rm) cc maxL ret e s m args below meth c s₁ → c.maxLocals = maxL → (∀ x ∈ c.exceptionTable.toList, False) → Pc args s →
      W p l e (headSpec ws rm).room s m args below meth c s.heap [] 0 0 (vx_MQ below Qc XC args s mc ms free) (entryFrame m args maxL)) : vx_Met l y ws rm Pc Qc XC mc ms free := by
  refine MetFree.of_bodySF (code := cc) (maxLocals := maxL) (ret := ret) hy ?_ ?_
  · intro args s m h hn
    obtain ⟨meth, c, h1, h2, h3, h4, h5, h6, -, -⟩ := Cond.code_spec hn (atoms_spec (ws := ws) h _ (by rw [hw]; exact List.mem_cons_self))
    exact ⟨meth, c, h1, h2, h3, h4, h5, h6⟩
  · intro p e s m args below meth c s₁ B hml hP _
    have hh0 : s₁.heap = s.heap := by rw [B.state]; rfl
    have ht : ∀ x ∈ c.exceptionTable.toList, False := by
      obtain ⟨meth9, c9, h1, h2, -, -, -, -, h7, -⟩ := Cond.code_spec B.named (atoms_spec (ws := ws) B.pre _ (by rw [hw]; exact List.mem_cons_self))
      cases Option.some.inj (h1.symm.trans B.method)
      cases Option.some.inj (h2.symm.trans (Stand.of_body B).code)
      intro x hx
      rw [Array.isEmpty_iff.mp h7] at hx
      cases hx
    obtain ⟨t, a1, o, b1, b2, b3⟩ := body p e s m args below meth c s₁ B hml ht hP s₁ hh0 (Stand.of_body B)
    exact ⟨t, o, a1, b1, b2, b3⟩
theorem x_ofWH {l : Launch} {y : MethodName} {ws ws' : List Jvm.Cond} {rm : Room} {Pc : Array Value → State → Prop} {Qc : Array Value → State → Outcome → State → Prop} {XC : String → State → State → Prop} {mc ms : Nat} {free : Addr → Prop} {cc : ByteArray} {maxL : Nat} {ret : Option FieldType} {hh : List (Nat × Nat × Nat × Nat)}
    (hy : plainFor y = true) (hw : ws = Jvm.Cond.codeWith y cc maxL ret hh :: ws')
    (body : ∀ p e s m args below meth c s₁, BodyLoose p l y (headSpec ws rm) cc maxL ret e s m args below meth c s₁ → c.maxLocals = maxL → Pc args s →
      W p l e (headSpec ws rm).room s m args below meth c s.heap [] 0 0 (vx_MQ below Qc XC args s mc ms free) (entryFrame m args maxL)) : vx_Met l y ws rm Pc Qc XC mc ms free := by
  refine MetFree.of_bodySF (code := cc) (maxLocals := maxL) (ret := ret) hy ?_ ?_
  · intro args s m h hn
    obtain ⟨m9, meth, c, hn9, h1, h2, h3, h4, -, h5, h6, -⟩ := Cond.codeWith_spec (atoms_spec (ws := ws) h _ (by rw [hw]; exact List.mem_cons_self))
    cases hn.symm.trans hn9
    exact ⟨meth, c, h1, h2, h3, h4, h5, h6⟩
  · intro p e s m args below meth c s₁ B hml hP _
    have hh0 : s₁.heap = s.heap := by rw [B.state]; rfl
    obtain ⟨t, a1, o, b1, b2, b3⟩ := body p e s m args below meth c s₁ B hml hP s₁ hh0 (Stand.of_body B)
    exact ⟨t, o, a1, b1, b2, b3⟩
/-- a method's start, for its caller -/
def xPc (P : xP) (cl : List vw_C) (Ne : List Jvm.Cond) (St : List (String × Nat × String)) (Nc : List (String × String)) (D : va_G) (cid : Nat → ClassId) (lo b0 LL : Nat) (xs : Nat → Int32) (as : List Value) (n : Nat) (h : xHp) (sz : Nat) : Array Value → State → Prop :=
  va_Pc as (fun U => U.heap.size = sz ∧ va_P D cl (xW cid lo n h) U.heap ∧ va_K D cl (xtys cid) U ∧ xStat Ne St Nc (xT0 P) b0 LL xs (va_A (xW cid lo n h) sz) U)
def xRm (P : xP) (M mc ms : Nat) : Room := { frames := xRk P M + 7, cells := mc, slots := ms, locals := 40 * xRk P M + 150 }
/-- the run of n steps, at a frame -/
def xSim (P : xP) (Y : Nat → MethodName) (R : Nat → String) (cl : List vw_C) (Ex : Nat → String) (Hh : Nat → List (Nat × Nat × Nat × Nat)) (B Ne : List Jvm.Cond) (St : List (String × Nat × String)) (Nc : List (String × String)) (NM : Nat) (D : va_G) (cid : Nat → ClassId) (lo b0 LL : Nat) (xs : Nat → Int32) (n : Nat) : Prop :=
  ∀ (M pc : Nat) (L : xL) (st : List Value) (H : xH) (o : xO) (H1 : xH), xrun P n (M, pc, L, st, H) = some (o, H1) → M < NM →
    ∀ {p : Program} {l : Launch} {e : Env} {Rm : Room} {s : State} {m : MethodId} {args : Array Value} {below : List Frame} {meth : Method} {c : Code} {A : Nat → Prop} {Hp : Heap} {locs : List Loc} {ls : Array Slot},
      xCtx P Y R cl Hh B Ne St Nc D cid lo b0 LL xs M p l Rm s m args meth c A → xInv P cl D cid lo b0 LL xs M s A L H Hp locs ls → H1.2.2.1 ≤ Rm.cells → H1.2.2.2 ≤ Rm.slots →
      W p l e Rm s m args below meth c Hp locs H.2.2.1 H.2.2.2 (vx_MQ below (xQc P cl D cid lo b0 LL xs A o H1) (xXc P cl D cid lo b0 LL xs Ex A o H1) args s H1.2.2.1 H1.2.2.2 A) (F0 m pc ls st)
theorem xStat_blind {as : List Value} {n sz : Nat} {h : xHp} : FrameBlind (xPc P cl Ne St Nc D cid lo b0 LL xs as n h sz) := by
  intro a U g mk q
  obtain ⟨q0, q1, qP, qK, qS⟩ := q
  exact ⟨q0, q1, qP, va_K.moved (u := U) (U := U.calling g mk a) (Vm.Alike.refl U.vm) qK, xStat.same (u := U) (U := U.calling g mk a) rfl rfl qS⟩
/-- a method's contract, out of its run -/
theorem x_met (ok : xOK P Y R T N ty cl Ex Hh B Ne St Nc NC NM) {k : Nat} (sim : xSim P Y R cl Ex Hh B Ne St Nc NM D cid lo b0 LL xs k) {M : Nat} {as : List Value} {a0 : Nat × Bool} {h : xHp} {o : xO} {H1 : xH} (hr : xrun P k (M, 0, xent P M as, [], (a0, h, 0, 0)) = some (o, H1)) (hM : M < NM) (has : as.length = xNa P M) (hcat : as.all xcat1 = true)
    {l : Launch} (hfl : l.stackTraces = false) {sz : Nat} (hlo : lo ≤ a0.1) (hsz : lo ≤ sz) (hJ : xJ lo a0.1 (xT0 P) b0 LL xs h) (hex : a0.2 = true → a0.1 = sz) :
    vx_Met l (Y M) (xWd P Y Hh M :: B) (xRm P M H1.2.2.1 H1.2.2.2) (xPc P cl Ne St Nc D cid lo b0 LL xs as a0.1 h sz) (xQc P cl D cid lo b0 LL xs (va_A (xW cid lo a0.1 h) sz) o H1) (xXc P cl D cid lo b0 LL xs Ex (va_A (xW cid lo a0.1 h) sz) o H1) H1.2.2.1 H1.2.2.2 (va_A (xW cid lo a0.1 h) sz) := by
  obtain ⟨⟨y1, y2, -⟩, y3, -, -, y4, y5, y6, -, -⟩ := ok.1 M hM
  have body : ∀ (p : Program) (e : Env) (s : State) (m : MethodId) (args : Array Value) (below : List Frame) (meth : Method) (c : Code) (s₁ : State), BodyLoose p l (Y M) (headSpec (xWd P Y Hh M :: B) (xRm P M H1.2.2.1 H1.2.2.2)) (xB P M) (xNL P M) (xRt P M) e s m args below meth c s₁ → c.maxLocals = xNL P M → c.exceptionTable.toList = tableOf (Hh M) → xPc P cl Ne St Nc D cid lo b0 LL xs as a0.1 h sz args s →
      W p l e (headSpec (xWd P Y Hh M :: B) (xRm P M H1.2.2.1 H1.2.2.2)).room s m args below meth c s.heap [] 0 0 (vx_MQ below (xQc P cl D cid lo b0 LL xs (va_A (xW cid lo a0.1 h) sz) o H1) (xXc P cl D cid lo b0 LL xs Ex (va_A (xW cid lo a0.1 h) sz) o H1) args s H1.2.2.1 H1.2.2.2 (va_A (xW cid lo a0.1 h) sz)) (entryFrame m args (xNL P M)) := by
    intro p e s m args below meth c s₁ Bd hml htab hv
    obtain ⟨rfl, hsz2, hP, hK, hS⟩ := hv
    have hts := atoms_spec (ws := xWd P Y Hh M :: B) Bd.pre
    have hown : s.vm.findClass (R (xKl P M)) = some m.cls := by rw [← y2]; exact findClass_of_methodNamed Bd.named
    have hnm : meth.name = (Y M).name := (name_of_methodNamed Bd.named Bd.method).1
    have hn : (lg_sl as).length ≤ xNL P M := by rw [xsl_len as hcat, has]; exact y5
    have hl := lv_entry as (n := xNL P M) hn
    rw [lg_entry_eq]
    rw [xent_pr as 0 (xNL P M - as.length) hcat] at hl
    refine sim M 0 (xent P M as) [] (a0, h, 0, 0) o H1 hr hM ⟨⟨Bd.exec, Bd.bytes, hml, Bd.returns, Bd.notSynchronized, hnm, hown, htab⟩, fun w hw => hts w (List.mem_cons_of_mem _ hw), hK, hS, fun q hq => Or.inr (by rw [← hsz2]; exact hq), fun q hq => ?_, by rw [hsz2]; exact hsz, Nat.le_refl _, Nat.le_refl _, hfl⟩
      ⟨hP, fun q g1 g2 => xW_A.mpr (Or.inl ⟨g1, g2⟩), va_S.rf, hl, hJ, hlo, fun z => by rw [hsz2]; exact hex z⟩ (Nat.le_refl _) (Nat.le_refl _)
    rcases xW_A.mp hq with z | z
    · exact z.1
    · omega
  cases hHh : Hh M with
  | nil =>
    have hw : xWd P Y Hh M = .code (Y M) (xB P M) (xNL P M) (xRt P M) := by unfold xWd; rw [hHh]
    refine x_ofW (cc := xB P M) (maxL := xNL P M) (ret := xRt P M) y1 (by rw [hw]) ?_
    intro p e s m args below meth c s₁ Bd hml ht hv
    refine body p e s m args below meth c s₁ Bd hml ?_ hv
    rw [hHh]
    cases hc : c.exceptionTable.toList with
    | nil => rfl
    | cons x t => exact absurd (ht x (by rw [hc]; exact List.mem_cons_self)) id
  | cons q0 t0 =>
    have hw : xWd P Y Hh M = .codeWith (Y M) (xB P M) (xNL P M) (xRt P M) (Hh M) := by unfold xWd; rw [hHh]
    refine x_ofWH (cc := xB P M) (maxL := xNL P M) (ret := xRt P M) (hh := Hh M) y1 (by rw [hw]) ?_
    intro p e s m args below meth c s₁ Bd hml hv
    refine body p e s m args below meth c s₁ Bd hml ?_ hv
    exact vx_table (x := Y M) Bd (by rw [← hw]; exact atoms_spec (ws := xWd P Y Hh M :: B) Bd.pre _ List.mem_cons_self)
/-- it returns: the contract of one that doesn't throw -/
theorem x_metR {l : Launch} {y : MethodName} {ws : List Jvm.Cond} {rm : Room} {Pc : Array Value → State → Prop} {A : Nat → Prop} {v : Option Value} {H1 : xH} {mc ms : Nat} (h : vx_Met l y ws rm Pc (xQc P cl D cid lo b0 LL xs A (.inl v) H1) (xXc P cl D cid lo b0 LL xs Ex A (.inl v) H1) mc ms A) :
    Met l y ws rm Pc (xQc P cl D cid lo b0 LL xs A (.inl v) H1) mc ms A := by
  unfold vx_Met at h
  unfold Met
  refine MetFree.mono h (fun _ _ z => z) (fun _ _ _ _ _ z => z) (fun a st o t _ z => ?_)
  rcases z with z | ⟨q, -, E, ce, L, z, -⟩
  · exact z
  · exact absurd z id
end XS
