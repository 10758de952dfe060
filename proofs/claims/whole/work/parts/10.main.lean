section XM
variable {P : xP} {Y : Nat → MethodName} {R : Nat → String} {T : Nat → u_T} {N : Nat → Nat} {ty : Nat → Nat → FieldType} {cl : List vw_C} {Ex : Nat → String} {Hh : Nat → List (Nat × Nat × Nat × Nat)} {B Ne : List Jvm.Cond} {St : List (String × Nat × String)} {Nc : List (String × String)} {NC NM : Nat}
variable {D : va_G} {cid : Nat → ClassId} {lo b0 LL : Nat} {xs : Nat → Int32} {M : Nat}
variable {p : Program} {l : Launch} {e : Env} {Rm : Room} {s : State} {m : MethodId} {args : Array Value} {below : List Frame} {meth : Method} {c : Code} {A : Nat → Prop} {Hp : Heap} {locs : List Loc} {cells slots mc ms : Nat} {Q : State → Prop}
variable {pc len : Nat} {ls : Array Slot} {I : Instr} {st st0 rest : List Value} {L : xL} {H : xH}
theorem x_after {Qa : State → Outcome → State → Prop} {free : Addr → Prop} (hr : va_Run p l e Rm s m args below meth c Hp locs cells slots mc ms (F0 m pc ls st0) rest Qa free)
    (kk : ∀ (v : Option Value) (st₀ t : State) (H1 : Heap) (L1 : List Loc), st₀.heap = Hp → H1 = t.heap → (∀ q ∈ L1, free q.base) → Qa st₀ (.returned v) t → W p l e Rm s m args below meth c H1 (locs ++ L1) (cells + mc) (slots + ms) Q (F0 m (pc + 3) ls (v.toList ++ rest))) :
    W p l e Rm s m args below meth c Hp locs cells slots Q (F0 m pc ls st0) := by
  intro T1 hT X
  obtain ⟨v, st₀, t, T', L1, h0, X', hL, e1, e2, hq, stp⟩ := hr T1 hT X
  obtain ⟨t2, a1, b1⟩ := kk v st₀ t T'.heap L1 h0 e1 hL hq T' rfl X'
  exact ⟨t2, stp t2 a1, b1⟩
theorem x_afterX {Qa : State → Outcome → State → Prop} {XC : String → State → State → Prop} {free : Addr → Prop} (hr : vx_Run p l e Rm s m args below meth c Hp locs cells slots mc ms (F0 m pc ls st0) rest Qa XC free) (hno : ∀ v st₀ t, ¬ Qa st₀ (.returned v) t)
    (kk : ∀ (E : String) (q : Addr) (ce : Cell) (st₀ t : State) (H1 : Heap) (L1 : List Loc), st₀.heap = Hp → H1 = t.heap → (∀ q ∈ L1, free q.base) → XC E st₀ t → H1[q]? = some ce → ce.vm = .none → s.vm.findClass E = some ce.cls → vx_W p l e Rm s m args below meth c H1 (locs ++ L1) (cells + mc) (slots + ms) Q (F0 m pc ls rest) q) :
    W p l e Rm s m args below meth c Hp locs cells slots Q (F0 m pc ls st0) := by
  intro T1 hT X
  rcases hr T1 hT X with ⟨v, st₀, t, T', L1, h0, X', hL, e1, e2, hq, stp⟩ | ⟨q, st₀, t, T', L1, E, ce, h0, X', hL, e1, e2, hx, hce, hcv, hcl, stp⟩
  · exact absurd hq (hno _ _ _)
  · obtain ⟨t2, a1, b1⟩ := kk E q ce st₀ t T'.heap L1 h0 e1 hL hx (by rw [e1]; exact hce) hcv hcl T' rfl X'
    exact ⟨t2, stp.trans a1, b1⟩
/-- behind a callee's run: the caller's invariant -/
theorem x_back (C : xCtx P Y R cl Hh B Ne St Nc D cid lo b0 LL xs M p l Rm s m args meth c A) (V : xInv P cl D cid lo b0 LL xs M s A L H Hp locs ls) {H1 : xH} {st₀ t : State} {Hq : Heap} {L1 : List Loc}
    (hflag : H1.1.2 = true → H.1.2 = true) (hsz : H.1.2 = true → H.1.1 = Hp.size) (h0 : st₀.heap = Hp) (e1 : Hq = t.heap) (hL : ∀ q ∈ L1, va_A (xW cid lo H.1.1 H.2.1) Hp.size q.base) (hp : xPost P cl D cid lo b0 LL xs (va_A (xW cid lo H.1.1 H.2.1) Hp.size) H1 st₀ t) :
    (∀ {L' : xL} {ls' : Array Slot}, lv_has ls' (xNL P M) (xPr 0 L') → xInv P cl D cid lo b0 LL xs M s A L' (H1.1, H1.2.1, H.2.2.1 + H1.2.2.1, H.2.2.2 + H1.2.2.2) Hq (locs ++ L1) ls') := by
  obtain ⟨-, hts, hK, hst, hA, hAlo, hlo, -⟩ := C
  obtain ⟨hP, hAw, hS, hl, hJ, hlh, hex⟩ := V
  obtain ⟨p1, p2, p3, p4, p5, p6⟩ := hp
  have hA1 : ∀ q, va_A (xW cid lo H.1.1 H.2.1) Hp.size q → A q := by
    intro q hq
    rcases xW_A.mp hq with z | z
    · exact hAw q z.1 z.2
    · exact hA q (Nat.le_trans hS.1 z)
  have hS9 : va_S A s.heap Hq (locs ++ L1) := by
    obtain ⟨q1, q2⟩ := p2
    rw [h0] at q1 q2
    rw [e1]
    refine ⟨Nat.le_trans hS.1 q1, fun q g1 g2 => ?_, fun q hq => ?_⟩
    · rw [q2 q (Nat.lt_of_lt_of_le g1 hS.1) (fun z => g2 (hA1 q z))]
      exact hS.2.1 q g1 g2
    · rcases List.mem_append.mp hq with h | h
      · exact hS.2.2 q h
      · exact hA1 _ (hL q h)
  intro L' ls' hl'
  refine ⟨by rw [e1]; exact p1, fun q g1 g2 => hA1 q (p4 q g1 g2), hS9, hl', p3, p5, fun z => ?_⟩
  have z1 := p6 z
  have z2 := hflag z
  have z3 := hsz z2
  have z4 := hex z2
  rw [h0] at z1
  dsimp only
  omega
/-- what a call asks of its callee's contract, by the tables -/
theorem x_ws (ok : xOK P Y R T N ty cl Ex Hh B Ne St Nc NC NM) (C : xCtx P Y R cl Hh B Ne St Nc D cid lo b0 LL xs M p l Rm s m args meth c A) {M' : Nat} (hM' : M' < NM) (hrk : xRk P M' < xRk P M) {mc ms : Nat} :
    ((xRm P M' mc ms).cells = mc ∧ (xRm P M' mc ms).slots = ms ∧ (xRm P M' mc ms).frames + 1 ≤ Rm.frames ∧ 8 + (xNL P M' + 11) + (xRm P M' mc ms).locals ≤ Rm.locals ∧ (∀ w ∈ xWd P Y Hh M' :: B, ∀ (a' : Array Value) (U : State), s.WarmedH U.vm → w.before a' U = true) ∧ xWd P Y Hh M' ∈ xWd P Y Hh M' :: B) ∧
    (xWd P Y Hh M').before args s = true ∧ (Jvm.Cond.initialized (Y M').cls).before args s = true ∧ ((Y M').cls ≠ "java/lang/invoke/MethodHandle" ∧ (Y M').cls ≠ "java/lang/invoke/VarHandle") := by
  obtain ⟨-, hts, hK, hst, hA, hAlo, hlo, hfr, hloc, -⟩ := C
  obtain ⟨-, y3, y4, y5, y6, y7, -⟩ := ok.1 M' hM'
  have hB : ∀ w ∈ xWd P Y Hh M' :: B, w ∈ B := by
    intro w hw
    rcases List.mem_cons.mp hw with rfl | hw
    · exact y3
    · exact hw
  refine ⟨⟨rfl, rfl, ?_, ?_, fun w hw a' U hW => word_at hW (good_of_word (ok.2.2.2.1 w (hB w hw))) (hts w (hB w hw)), List.mem_cons_self⟩, hts _ y3, hts _ y4, y5⟩
  · show xRk P M' + 7 + 1 ≤ _
    omega
  · show 8 + (xNL P M' + 11) + (40 * xRk P M' + 150) ≤ _
    omega
theorem x_par {y : MethodName} {n k : Nat} (h : xPar y n) (hk : k = n) : ∀ sig, parseMethodDescriptor y.desc = some sig → k = sig.parameters.length := by
  intro sig hs
  unfold xPar at h
  rw [hs] at h
  rw [hk]
  exact (Option.some.inj h).symm
theorem x_pc (C : xCtx P Y R cl Hh B Ne St Nc D cid lo b0 LL xs M p l Rm s m args meth c A) (V : xInv P cl D cid lo b0 LL xs M s A L H Hp locs ls) {as : List Value} : ∀ U : State, U.heap = Hp → s.WarmedH U.vm → xPc P cl Ne St Nc D cid lo b0 LL xs as H.1.1 H.2.1 Hp.size as.toArray U := by
  obtain ⟨-, hts, hK, hst, hA, hAlo, hlo, -⟩ := C
  obtain ⟨hP, hAw, hS, hl, hJ, hlh, hex⟩ := V
  intro U hU hW
  refine ⟨rfl, by rw [hU], by rw [hU]; exact hP, va_K.moved hW.alike hK, hst.on hW hU hS (fun q hq => ?_)⟩
  rcases xW_A.mp hq with z | z
  · exact hAw q z.1 z.2
  · exact hA q (Nat.le_trans hS.1 z)
theorem x_take {na : Nat} {as : List Value} (h : (st.take na).reverse = as) : st = as.reverse ++ st.drop na := by
  rw [← h, List.reverse_reverse, List.take_append_drop]
/-- a call that returns -/
theorem x_callR (ok : xOK P Y R T N ty cl Ex Hh B Ne St Nc NC NM) (C : xCtx P Y R cl Hh B Ne St Nc D cid lo b0 LL xs M p l Rm s m args meth c A) (V : xInv P cl D cid lo b0 LL xs M s A L H Hp locs ls)
    {a : xA} {M' : Nat} {as : List Value} {L' : xL} (hd : decode (xB P M) pc = .ok (I, 3)) (h : xend P M pc I L st H = some a) (ha : a = .inr (.inr (M', as, M, pc, L', rest, H))) {v : Option Value} {H1 : xH}
    (hMet : M' < NM → as.length = xNa P M' → as.all xcat1 = true → Met l (Y M') (xWd P Y Hh M' :: B) (xRm P M' H1.2.2.1 H1.2.2.2) (xPc P cl Ne St Nc D cid lo b0 LL xs as H.1.1 H.2.1 Hp.size) (xQc P cl D cid lo b0 LL xs (va_A (xW cid lo H.1.1 H.2.1) Hp.size) (.inl v) H1) H1.2.2.1 H1.2.2.2 (va_A (xW cid lo H.1.1 H.2.1) Hp.size))
    (hroom : cells + H1.2.2.1 ≤ Rm.cells ∧ slots + H1.2.2.2 ≤ Rm.slots)
    (kk : L' = L → ∀ (st₀ t : State) (Hq : Heap) (L1 : List Loc), st₀.heap = Hp → Hq = t.heap → (∀ q ∈ L1, va_A (xW cid lo H.1.1 H.2.1) Hp.size q.base) → xPost P cl D cid lo b0 LL xs (va_A (xW cid lo H.1.1 H.2.1) Hp.size) H1 st₀ t → W p l e Rm s m args below meth c Hq (locs ++ L1) (cells + H1.2.2.1) (slots + H1.2.2.2) Q (F0 m (pc + 3) ls (v.toList ++ rest))) :
    W p l e Rm s m args below meth c Hp locs cells slots Q (F0 m pc ls st) := by
  have fix : CallFix p m c (xB P M) (xNL P M) s args B (R (xKl P M)) := ⟨C.1.1, C.1.2.1, C.1.2.2.1, C.1.2.2.2.2.2.2.1, C.2.1⟩
  have hls : ls.size = xNL P M := V.2.2.2.1.1
  have hK := C.2.2.1
  have hts := C.2.1
  have hst := C.2.2.2.1
  have fin : ∀ {Qa : State → Outcome → State → Prop}, (∀ st₀ v' t, Qa st₀ (.returned v') t → v' = v ∧ xPost P cl D cid lo b0 LL xs (va_A (xW cid lo H.1.1 H.2.1) Hp.size) H1 st₀ t) → L' = L → va_Run p l e Rm s m args below meth c Hp locs cells slots H1.2.2.1 H1.2.2.2 (F0 m pc ls st) rest Qa (va_A (xW cid lo H.1.1 H.2.1) Hp.size) → W p l e Rm s m args below meth c Hp locs cells slots Q (F0 m pc ls st) := by
    intro Qa hQ hLL hr
    refine x_after hr (fun v' st₀ t Hq L1 h0 e1 hL hq => ?_)
    obtain ⟨rfl, hp⟩ := hQ _ _ _ hq
    exact kk hLL st₀ t Hq L1 h0 e1 hL hp
  have hqc : ∀ (a9 : Array Value) st₀ v' t, xQc P cl D cid lo b0 LL xs (va_A (xW cid lo H.1.1 H.2.1) Hp.size) (.inl v) H1 a9 st₀ (.returned v') t → v' = v ∧ xPost P cl D cid lo b0 LL xs (va_A (xW cid lo H.1.1 H.2.1) Hp.size) H1 st₀ t := by
    intro a9 st₀ v' t hq
    obtain ⟨h1, h2⟩ := hq
    cases h1
    exact ⟨rfl, h2⟩
  have call : ∀ {M1 : Nat}, xcall P M M1 pc L st H = some a → M' = M1 ∧ as = (st.take (xNa P M1)).reverse ∧ L' = L ∧ rest = st.drop (xNa P M1) ∧ xNa P M1 ≤ st.length ∧ (st.take (xNa P M1)).all xcat1 = true ∧ ((st.drop (xNa P M1)).map fun v => v.category).sum ≤ 8 ∧ xRk P M1 < xRk P M := by
    intro M1 hc
    unfold xcall at hc
    split at hc
    next hcc =>
      rw [ha] at hc
      cases hc
      exact ⟨rfl, rfl, rfl, rfl, hcc.1, hcc.2.1, hcc.2.2.1, hcc.2.2.2⟩
    next => cases hc
  have recv : ∀ {r : Nat} {As : List Value} {M1 : Nat}, (st.take (xNa P M1)).reverse = .ref r :: As → st = As.reverse ++ .ref r :: st.drop (xNa P M1) := by
    intro r As M1 hh
    have := x_take hh
    simpa using this
  cases I with
  | invokevirtual i =>
    unfold xend at h
    dsimp only at h
    split at h
    next M1 x2 hpo =>
      split at h
      next r As has =>
        split at h
        next cj fs hr =>
          split at h
          next hcj =>
            obtain ⟨rfl, hasE, hLL, rfl, h1, h2, h3, h4⟩ := call h
            have hR := ok.2.1 (xKl P M) i
            rw [hpo] at hR
            obtain ⟨r1, r2, r3, r4, r5, r6, r7, r8⟩ := hR
            have hlen : as.length = xNa P M' := by rw [hasE, List.length_reverse, List.length_take]; omega
            have hasE2 : as = .ref r :: As := hasE.trans has
            have hM9 := hMet r1 hlen (by rw [hasE, List.all_reverse]; exact h2)
            obtain ⟨⟨w1, w2, w3, w4, w5, w6⟩, w7, w8, w9⟩ := x_ws ok C r1 h4 (mc := H1.2.2.1) (ms := H1.2.2.2)
            have hwd : xWd P Y Hh M' = .code (Y M') (xB P M') (xNL P M') (xRt P M') := by unfold xWd; rw [r2]
            obtain ⟨u1, -⟩ := ok.2.2.1 _ r6
            have hcj9 : cj < 999 := by rw [hcj]; exact Nat.lt_of_lt_of_le r6 ok.2.2.2.2.1.1
            obtain ⟨g1, g2⟩ := V.2.2.2.2.1.obj hr hcj9
            have hw9 : (xW cid lo H.1.1 H.2.1)[r - lo]? = some (r, .inr (cj, fs)) := by rw [xW_get g1 g2, hr]; rfl
            have hAs : As.length = xNa P M' - 1 := by rw [hasE2] at hlen; simp at hlen; omega
            subst hcj
            refine fin (hqc (Value.ref r :: As).toArray) hLL (va_runV (As := As) (rest := st.drop (xNa P M')) (C := R (xKl P M')) (bytes := xB P M') (maxL := xNL P M') (ret := xRt P M') (n := As.length) fix hM9 ⟨⟨w1, w2, w3, w4, w5, by rw [← hwd]; exact w6, by rw [← hwd]; exact w7, w8, w9, x_par r8 hAs, hts _ r3⟩, hts _ r4, hts _ r5⟩
              ⟨xStat_blind, va_recv hK V.1 u1 hw9, fun U hU hW => by rw [← hasE2]; exact x_pc C V U hU hW⟩ rfl rfl hls (recv has) (lv_room h3) hd hroom)
          next => cases h
        next => cases h
      next => cases h
    next => cases h
  | invokestatic i =>
    unfold xend at h
    dsimp only at h
    split at h
    next M1 x2 hpo =>
      obtain ⟨rfl, hasE, hLL, rfl, h1, h2, h3, h4⟩ := call h
      have hR := ok.2.1 (xKl P M) i
      rw [hpo] at hR
      obtain ⟨r1, r3, r4, r8⟩ := hR
      have hlen : as.length = xNa P M' := by rw [hasE, List.length_reverse, List.length_take]; omega
      have hM9 := hMet r1 hlen (by rw [hasE, List.all_reverse]; exact h2)
      obtain ⟨⟨w1, w2, w3, w4, w5, w6⟩, w7, w8, w9⟩ := x_ws ok C r1 h4 (mc := H1.2.2.1) (ms := H1.2.2.2)
      cases hHh : Hh M' with
      | nil =>
        have hwd : xWd P Y Hh M' = .code (Y M') (xB P M') (xNL P M') (xRt P M') := by unfold xWd; rw [hHh]
        refine fin (hqc as.toArray) hLL (va_runS (As := as) (rest := st.drop (xNa P M')) (bytes := xB P M') (maxL := xNL P M') (ret := xRt P M') (n := as.length) fix hM9 ⟨⟨w1, w2, w3, w4, w5, by rw [← hwd]; exact w6, by rw [← hwd]; exact w7, w8, w9, x_par r8 hlen, hts _ r3⟩, hts _ r4⟩
          ⟨xStat_blind, fun U hU hW => x_pc C V U hU hW⟩ rfl rfl hls (x_take hasE.symm) (lv_room h3) hd hroom)
      | cons q0 t0 =>
        have hwd : xWd P Y Hh M' = .codeWith (Y M') (xB P M') (xNL P M') (xRt P M') (Hh M') := by unfold xWd; rw [hHh]
        refine fin (hqc as.toArray) hLL (vx_runSW (As := as) (rest := st.drop (xNa P M')) (bytes := xB P M') (maxL := xNL P M') (ret := xRt P M') (hh := Hh M') (n := as.length) fix hM9 ⟨⟨w1, w2, w3, w4, w5, by rw [← hwd]; exact w6⟩, by rw [← hwd]; exact w7, w8, w9, x_par r8 hlen, hts _ r3, hts _ r4⟩
          ⟨xStat_blind, fun U hU hW => x_pc C V U hU hW⟩ rfl rfl hls (x_take hasE.symm) (lv_room h3) hd hroom)
    next M1 x2 hpo =>
      obtain ⟨rfl, hasE, hLL, rfl, h1, h2, h3, h4⟩ := call h
      have hR := ok.2.1 (xKl P M) i
      rw [hpo] at hR
      obtain ⟨r1, r2, ⟨host, r3⟩, r4, r8⟩ := hR
      have hlen : as.length = xNa P M' := by rw [hasE, List.length_reverse, List.length_take]; omega
      have hM9 := hMet r1 hlen (by rw [hasE, List.all_reverse]; exact h2)
      obtain ⟨⟨w1, w2, w3, w4, w5, w6⟩, w7, w8, w9⟩ := x_ws ok C r1 h4 (mc := H1.2.2.1) (ms := H1.2.2.2)
      have hwd : xWd P Y Hh M' = .code (Y M') (xB P M') (xNL P M') (xRt P M') := by unfold xWd; rw [r2]
      refine fin (hqc as.toArray) hLL (va_runSN (As := as) (rest := st.drop (xNa P M')) (bytes := xB P M') (maxL := xNL P M') (ret := xRt P M') (host := host) (n := as.length) fix hM9 ⟨⟨⟨w1, w2, w3, w4, w5, by rw [← hwd]; exact w6⟩, by rw [← hwd]; exact w7, w8, w9, x_par r8 hlen, va_Nw.use rfl (hst.1 _ r3).2⟩, hts _ r4, trivial⟩
        ⟨xStat_blind, fun U hU hW => x_pc C V U hU hW⟩ rfl rfl hls (x_take hasE.symm) (lv_room h3) hd hroom)
    next => cases h
  | invokespecial i =>
    unfold xend at h
    dsimp only at h
    split at h
    next M1 x2 hpo =>
      split at h
      next r As has =>
        obtain ⟨rfl, hasE, hLL, rfl, h1, h2, h3, h4⟩ := call h
        have hR := ok.2.1 (xKl P M) i
        rw [hpo] at hR
        obtain ⟨r1, r2, r3, r4, r5, r6, r7, r8⟩ := hR
        have hlen : as.length = xNa P M' := by rw [hasE, List.length_reverse, List.length_take]; omega
        have hasE2 : as = .ref r :: As := hasE.trans has
        have hM9 := hMet r1 hlen (by rw [hasE, List.all_reverse]; exact h2)
        obtain ⟨⟨w1, w2, w3, w4, w5, w6⟩, w7, w8, w9⟩ := x_ws ok C r1 h4 (mc := H1.2.2.1) (ms := H1.2.2.2)
        have hwd : xWd P Y Hh M' = .code (Y M') (xB P M') (xNL P M') none := by unfold xWd; rw [r2, r6]
        have hAs : As.length = xNa P M' - 1 := by rw [hasE2] at hlen; simp at hlen; omega
        refine fin (hqc (Value.ref r :: As).toArray) hLL (va_runI (As := As) (rest := st.drop (xNa P M')) (b := r) (bytes := xB P M') (maxL := xNL P M') (n := As.length) fix hM9 ⟨⟨w1, w2, w3, w4, w5, by rw [← hwd]; exact w6, by rw [← hwd]; exact w7, w8, w9, x_par r8 hAs, hts _ r3⟩, r5, hts _ r4⟩
          ⟨xStat_blind, fun U hU hW => by rw [← hasE2]; exact x_pc C V U hU hW⟩ rfl rfl hls (recv has) (lv_room h3) hd hroom)
      next => cases h
    next M1 x2 hpo =>
      split at h
      next r As has =>
        obtain ⟨rfl, hasE, hLL, rfl, h1, h2, h3, h4⟩ := call h
        have hR := ok.2.1 (xKl P M) i
        rw [hpo] at hR
        obtain ⟨r1, r2, ⟨host, r3⟩, r4, r5, r6, r7, r8⟩ := hR
        have hlen : as.length = xNa P M' := by rw [hasE, List.length_reverse, List.length_take]; omega
        have hasE2 : as = .ref r :: As := hasE.trans has
        have hM9 := hMet r1 hlen (by rw [hasE, List.all_reverse]; exact h2)
        obtain ⟨⟨w1, w2, w3, w4, w5, w6⟩, w7, w8, w9⟩ := x_ws ok C r1 h4 (mc := H1.2.2.1) (ms := H1.2.2.2)
        have hwd : xWd P Y Hh M' = .code (Y M') (xB P M') (xNL P M') none := by unfold xWd; rw [r2, r6]
        have hAs : As.length = xNa P M' - 1 := by rw [hasE2] at hlen; simp at hlen; omega
        refine fin (hqc (Value.ref r :: As).toArray) hLL (va_runIN (As := As) (rest := st.drop (xNa P M')) (b := r) (bytes := xB P M') (maxL := xNL P M') (host := host) (n := As.length) fix hM9 ⟨⟨⟨w1, w2, w3, w4, w5, by rw [← hwd]; exact w6⟩, by rw [← hwd]; exact w7, w8, w9, x_par r8 hAs, va_Nw.use rfl (hst.1 _ r3).2⟩, r5, hts _ r4⟩
          ⟨xStat_blind, fun U hU hW => by rw [← hasE2]; exact x_pc C V U hU hW⟩ rfl rfl hls (recv has) (lv_room h3) hd hroom)
      next => cases h
    next => cases h
  | _ =>
    unfold xend at h
    dsimp only at h
    repeat' split at h
    all_goals (rw [ha] at h; cases h)
end XM
