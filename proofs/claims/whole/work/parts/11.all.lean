section XA
variable {P : xP} {Y : Nat → MethodName} {R : Nat → String} {T : Nat → u_T} {N : Nat → Nat} {ty : Nat → Nat → FieldType} {cl : List vw_C} {Ex : Nat → String} {Hh : Nat → List (Nat × Nat × Nat × Nat)} {B Ne : List Jvm.Cond} {St : List (String × Nat × String)} {Nc : List (String × String)} {NC NM : Nat}
variable {D : va_G} {cid : Nat → ClassId} {lo b0 LL : Nat} {xs : Nat → Int32} {M : Nat}
variable {p : Program} {l : Launch} {e : Env} {Rm : Room} {s : State} {m : MethodId} {args : Array Value} {below : List Frame} {meth : Method} {c : Code} {A : Nat → Prop} {Hp : Heap} {locs : List Loc} {cells slots mc ms : Nat} {Q : State → Prop}
variable {pc len : Nat} {ls : Array Slot} {I : Instr} {st st0 rest : List Value} {L : xL} {H : xH}
/-- a call that throws -/
theorem x_callX (ok : xOK P Y R T N ty cl Ex Hh B Ne St Nc NC NM) (C : xCtx P Y R cl Hh B Ne St Nc D cid lo b0 LL xs M p l Rm s m args meth c A) (V : xInv P cl D cid lo b0 LL xs M s A L H Hp locs ls)
    {a : xA} {M' : Nat} {as : List Value} {L' : xL} (hv : xvirt P M pc = true) (hd : decode (xB P M) pc = .ok (I, 3)) (h : xend P M pc I L st H = some a) (ha : a = .inr (.inr (M', as, M, pc, L', rest, H))) {k : Nat} {H1 : xH}
    (hMet : M' < NM → as.length = xNa P M' → as.all xcat1 = true → vx_Met l (Y M') (xWd P Y Hh M' :: B) (xRm P M' H1.2.2.1 H1.2.2.2) (xPc P cl Ne St Nc D cid lo b0 LL xs as H.1.1 H.2.1 Hp.size) (xQc P cl D cid lo b0 LL xs (va_A (xW cid lo H.1.1 H.2.1) Hp.size) (.inr k) H1) (xXc P cl D cid lo b0 LL xs Ex (va_A (xW cid lo H.1.1 H.2.1) Hp.size) (.inr k) H1) H1.2.2.1 H1.2.2.2 (va_A (xW cid lo H.1.1 H.2.1) Hp.size))
    (hroom : cells + H1.2.2.1 ≤ Rm.cells ∧ slots + H1.2.2.2 ≤ Rm.slots)
    (kk : L' = L → k < 6 → ∀ (q : Addr) (ce : Cell) (st₀ t : State) (Hq : Heap) (L1 : List Loc), st₀.heap = Hp → Hq = t.heap → (∀ q ∈ L1, va_A (xW cid lo H.1.1 H.2.1) Hp.size q.base) → xPost P cl D cid lo b0 LL xs (va_A (xW cid lo H.1.1 H.2.1) Hp.size) H1 st₀ t → Hq[q]? = some ce → ce.vm = .none → s.vm.findClass (Ex k) = some ce.cls → vx_W p l e Rm s m args below meth c Hq (locs ++ L1) (cells + H1.2.2.1) (slots + H1.2.2.2) Q (F0 m pc ls rest) q) :
    W p l e Rm s m args below meth c Hp locs cells slots Q (F0 m pc ls st) := by
  have fix : CallFix p m c (xB P M) (xNL P M) s args B (R (xKl P M)) := ⟨C.1.1, C.1.2.1, C.1.2.2.1, C.1.2.2.2.2.2.2.1, C.2.1⟩
  have hls : ls.size = xNL P M := V.2.2.2.1.1
  have hK := C.2.2.1
  have hts := C.2.1
  unfold xvirt at hv
  rw [hd] at hv
  cases I with
  | invokevirtual i =>
    unfold xend at h
    dsimp only at h
    split at h
    next M1 x2 hpo =>
      split at h
      next r As has =>
        split at h
        next cj fs hr =>
          split at h
          next hcj =>
            unfold xcall at h
            split at h
            next hcc =>
              rw [ha] at h
              cases h
              obtain ⟨h1, h2, h3, h4⟩ := hcc
              have hR := ok.2.1 (xKl P M) i
              rw [hpo] at hR
              obtain ⟨r1, r2, r3, r4, r5, r6, r7, r8⟩ := hR
              have hlen : (st.take (xNa P M')).reverse.length = xNa P M' := by rw [List.length_reverse, List.length_take]; omega
              have hM9 := hMet r1 hlen (by rw [List.all_reverse]; exact h2)
              obtain ⟨⟨w1, w2, w3, w4, w5, w6⟩, w7, w8, w9⟩ := x_ws ok C r1 h4 (mc := H1.2.2.1) (ms := H1.2.2.2)
              have hwd : xWd P Y Hh M' = .code (Y M') (xB P M') (xNL P M') (xRt P M') := by unfold xWd; rw [r2]
              obtain ⟨u1, -⟩ := ok.2.2.1 _ r6
              have hcj9 : cj < 999 := by rw [hcj]; exact Nat.lt_of_lt_of_le r6 ok.2.2.2.2.1.1
              obtain ⟨g1, g2⟩ := V.2.2.2.2.1.obj hr hcj9
              have hw9 : (xW cid lo H.1.1 H.2.1)[r - lo]? = some (r, .inr (cj, fs)) := by rw [xW_get g1 g2, hr]; rfl
              rw [has] at hlen hM9
              have hAs : As.length = xNa P M' - 1 := by simp at hlen; omega
              subst hcj
              have hstk := x_take has
              simp only [List.reverse_cons, List.append_assoc, List.cons_append, List.nil_append] at hstk
              refine x_afterX (vx_runV (As := As) (rest := st.drop (xNa P M')) (C := R (xKl P M')) (bytes := xB P M') (maxL := xNL P M') (ret := xRt P M') (n := As.length) fix hM9 ⟨⟨w1, w2, w3, w4, w5, by rw [← hwd]; exact w6, by rw [← hwd]; exact w7, w8, w9, x_par r8 hAs, hts _ r3⟩, hts _ r4, hts _ r5⟩
                ⟨xStat_blind, va_recv hK V.1 u1 hw9, fun U hU hW => x_pc C V U hU hW⟩ rfl rfl hls hstk (lv_room h3) hd hroom) (fun v st₀ t z => z) (fun E q ce st₀ t Hq L1 h0 e1 hL hx hce hcv hcl => ?_)
              obtain ⟨rfl, hk6, hp⟩ := hx
              exact kk rfl hk6 q ce st₀ t Hq L1 h0 e1 hL hp hce hcv hcl
            next => cases h
          next => cases h
        next => cases h
      next => cases h
    next => cases h
  | _ => cases hv
/-- a thrown one is caught here -/
theorem x_catch (ok : xOK P Y R T N ty cl Ex Hh B Ne St Nc NC NM) (C : xCtx P Y R cl Hh B Ne St Nc D cid lo b0 LL xs M p l Rm s m args meth c A) (hM : M < NM) (hl : lv_has ls (xNL P M) (xPr 0 L))
    {k : Nat} (hk : k < 6) {q : Nat × xL} (hq : xcatch P M pc k L = some q) {a : Addr} {ce : Cell} (hce : Hp[a]? = some ce) (hcv : ce.vm = .none) (hcl : s.vm.findClass (Ex k) = some ce.cls)
    (kk : ∀ ls' : Array Slot, lv_has ls' (xNL P M) (xPr 0 q.2) → W p l e Rm s m args below meth c Hp locs cells slots Q (F0 m q.1 ls' [])) : vx_W p l e Rm s m args below meth c Hp locs cells slots Q (F0 m pc ls rest) a := by
  obtain ⟨⟨hx, hb, -, -, -, -, hown, htab⟩, hts, hK, hst, -⟩ := C
  obtain ⟨-, -, -, -, -, -, -, y8, y9⟩ := ok.1 M hM
  unfold xcatch at hq
  split at hq
  next q0 hf =>
    obtain ⟨hp0, as0, bs0, hsp, hno⟩ := List.find?_eq_some_iff_append.mp hf
    have hkk : (xHd P M)[as0.length]? = some q0 := by rw [hsp, List.getElem?_append_right (Nat.le_refl _), Nat.sub_self]; rfl
    have hlen : (Hh M).length = (xHd P M).length := by
      have := congrArg List.length y8
      simpa using this
    have hlt : as0.length < (xHd P M).length := (List.getElem?_eq_some_iff.mp hkk).1
    have same : ∀ (j : Nat) (z z' : Nat × Nat × Nat × Nat), (Hh M)[j]? = some z → (xHd P M)[j]? = some z' → z.1 = z'.1 ∧ z.2.1 = z'.2.1 ∧ z.2.2.1 = z'.2.2.1 := by
      intro j z z' h1 h2
      have h3 := congrArg (fun l => l[j]?) y8
      simp only [List.getElem?_map, h1, h2, Option.map_some, Option.some.injEq, Prod.mk.injEq] at h3
      exact h3
    obtain ⟨x0, hx0⟩ : ∃ x0, (Hh M)[as0.length]? = some x0 := ⟨_, List.getElem?_eq_getElem (by omega)⟩
    obtain ⟨s1, s2, s3⟩ := same _ _ _ hx0 hkk
    obtain ⟨z1, z2, z3, z4⟩ := y9 _ _ _ hx0 hkk
    simp only [Bool.and_eq_true, decide_eq_true_eq] at hp0
    obtain ⟨⟨p1, p2⟩, p3⟩ := hp0
    have hsplit : c.exceptionTable.toList = tableOf ((Hh M).take as0.length) ++ (⟨x0.1, x0.2.1, x0.2.2.1, x0.2.2.2⟩ : ExceptionTableEntry) :: tableOf ((Hh M).drop (as0.length + 1)) := by
      rw [htab]
      have h1 : Hh M = (Hh M).take as0.length ++ x0 :: (Hh M).drop (as0.length + 1) := by
        have h2 : as0.length < (Hh M).length := by omega
        have h3 : (Hh M)[as0.length] = x0 := by
          rw [List.getElem?_eq_getElem h2] at hx0
          exact Option.some.inj hx0
        rw [← h3, List.getElem_cons_drop, List.take_append_drop]
      conv => lhs; rw [h1]
      simp [tableOf]
    rw [p3] at z2 z3
    refine vx_catch (own := R (xKl P M)) (name := Ex k) hown _ _ _ hsplit ?_ ?_ z1 (hts _ z2) (va_Nw.use rfl (hst.1 _ z3).2) hce hcv hcl ?_
    · intro z hz
      obtain ⟨w, hw, rfl⟩ := List.mem_map.mp hz
      obtain ⟨j, hj⟩ := List.getElem?_of_mem hw
      have hjl : j < as0.length := by
        have := (List.getElem?_eq_some_iff.mp hj).1
        rw [List.length_take] at this
        omega
      rw [List.getElem?_take_of_lt hjl] at hj
      obtain ⟨w', hw'⟩ : ∃ w', (xHd P M)[j]? = some w' := ⟨_, List.getElem?_eq_getElem (by omega)⟩
      obtain ⟨t1, t2, t3⟩ := same _ _ _ hj hw'
      obtain ⟨v1, v2, v3, v4⟩ := y9 _ _ _ hj hw'
      have hwm : w' ∈ as0 := by
        rw [hsp, List.getElem?_append_left hjl] at hw'
        exact List.mem_of_getElem? hw'
      have hn := hno _ hwm
      by_cases hcv9 : w.1 ≤ pc ∧ pc < w.2.1
      · right
        refine ⟨v1, Ex w'.2.2.2, hts _ v2, hst.2.2.1 _ (v4 k hk (fun hkw => ?_))⟩
        rw [← t1, ← t2, ← hkw] at hn
        simp [hcv9] at hn
      · left
        show (decide (w.1 ≤ pc) && decide (pc < w.2.1)) = false
        rw [← Bool.not_eq_true, Bool.and_eq_true, decide_eq_true_eq, decide_eq_true_eq]
        exact hcv9
    · show (decide (x0.1 ≤ pc) && decide (pc < x0.2.1)) = true
      rw [s1, s2, Bool.and_eq_true, decide_eq_true_eq, decide_eq_true_eq]
      exact ⟨p1, p2⟩
    · dsimp only
      rw [s3]
      split at hq
      next i hdc =>
        split at hq
        next hi => cases hq; exact lv_astore hx hb hdc hl hi rfl (fun ls' hl' => kk ls' (x_ldrop hl'))
        next => cases hq
      next i hdc =>
        split at hq
        next hi => cases hq; exact lv_astore_n hx hb hdc rfl hl hi rfl (fun ls' hl' => kk ls' (x_ldrop hl'))
        next => cases hq
      next => cases hq
  next => cases hq
theorem x_postOf (V : xInv P cl D cid lo b0 LL xs M s A L H Hp locs ls) (t : State) (ht : t.heap = Hp) : xPost P cl D cid lo b0 LL xs A H s t := by
  obtain ⟨hP, hAw, hS, hl, hJ, hlh, hex⟩ := V
  exact ⟨by rw [ht]; exact hP, hS.F ht, hJ, hAw, hlh, hex⟩
/-- the ends -/
theorem x_end (ok : xOK P Y R T N ty cl Ex Hh B Ne St Nc NC NM) (C : xCtx P Y R cl Hh B Ne St Nc D cid lo b0 LL xs M p l Rm s m args meth c A) (V : xInv P cl D cid lo b0 LL xs M s A L H Hp locs ls)
    (hM : M < NM) (hd : decode (xB P M) pc = .ok (I, len)) (hlen : xlen I len = len) {o : xO} {H1 : xH} (h : xend P M pc I L st H = some (.inr (.inl (o, H1)))) (hc : H1.2.2.1 ≤ Rm.cells) (hz : H1.2.2.2 ≤ Rm.slots) :
    W p l e Rm s m args below meth c Hp locs H.2.2.1 H.2.2.2 (vx_MQ below (xQc P cl D cid lo b0 LL xs A o H1) (xXc P cl D cid lo b0 LL xs Ex A o H1) args s H1.2.2.1 H1.2.2.2 A) (F0 m pc ls st) := by
  obtain ⟨⟨hx, hb, hml, hr, hlk, -, hown, htab⟩, hts, hK, hst, hA, hAlo, hlo, hfr, hloc, hfl⟩ := C
  have hS := V.2.2.1
  cases I with
  | ireturn =>
    replace hlen : 1 = len := hlen; subst hlen
    unfold xend at h
    dsimp only at h
    split at h
    next v =>
      split at h
      next tt hrt =>
        split at h
        next hn =>
          cases h
          exact vx_ret (W.zret (v := v) hx hb (hr.trans hrt) hn (fun t ht hW => ⟨rfl, x_postOf V t ht⟩) hS.2.2 hd hlk)
        next => cases h
      next => cases h
    next => cases h
  | dreturn =>
    replace hlen : 1 = len := hlen; subst hlen
    unfold xend at h
    dsimp only at h
    split at h
    next v =>
      split at h
      next hrt =>
        cases h
        exact vx_ret (W.dret (v := v) hx hb (hr.trans hrt) (fun t ht hW => ⟨rfl, x_postOf V t ht⟩) hS.2.2 hd hlk)
      next => cases h
    next => cases h
  | freturn =>
    replace hlen : 1 = len := hlen; subst hlen
    unfold xend at h
    dsimp only at h
    split at h
    next v =>
      split at h
      next hrt =>
        cases h
        exact vx_ret (W.fret (v := v) hx hb (hr.trans hrt) (fun t ht hW => ⟨rfl, x_postOf V t ht⟩) hS.2.2 hd hlk)
      next => cases h
    next => cases h
  | return_ =>
    replace hlen : 1 = len := hlen; subst hlen
    unfold xend at h
    dsimp only at h
    split at h
    next =>
      split at h
      next hrt =>
        cases h
        exact vx_ret (W.vret hx hb (hr.trans hrt) (fun t ht hW => ⟨rfl, x_postOf V t ht⟩) hS.2.2 hd hlk)
      next => cases h
    next => cases h
  | new i =>
    have thr : ∀ {E : Nat} {is ic : Nat}, xPo P (xKl P M) i = (2, E, (xPo P (xKl P M) i).2.2) → xPo P (xKl P M) ic = (13, E, i) → (xPo P (xKl P M) is).1 = 14 → H1 = ((H.1.1, false), H.2.1, H.2.2.1 + 1, H.2.2.2 + 6) → o = .inr E →
        (E < 6 ∧ (Jvm.Cond.classLink (R (xKl P M)) i (Ex E)).before args s = true ∧ (Jvm.Cond.initialized (Ex E)).before args s = true ∧ Bundle.fit (Ex E) = true) ∧ (∃ tx sa, vk_R (R (xKl P M)) is tx sa s) ∧ (∀ w ∈ xAtS (R (xKl P M)) ic (Ex E) xNames, w.before args s = true) ∧
        (∀ w ∈ Jvm.Cond.classLink (R (xKl P M)) i (Ex E) :: Jvm.Cond.initialized (Ex E) :: xAtS (R (xKl P M)) ic (Ex E) xNames, vx_ot w = true) ∧
        (∀ t : State, s.vm.Alike t.vm → Hp.size ≤ t.heap.size → (∀ q : Nat, q < Hp.size → t.heap[q]? = Hp[q]?) → xXc P cl D cid lo b0 LL xs Ex A o H1 (Ex E) s t) := by
      intro E is ic h1 h2 h3 h4 h5
      have k1 := ok.2.1 (xKl P M) i
      rw [h1] at k1
      have k2 := ok.2.1 (xKl P M) ic
      rw [h2] at k2
      have k3 := ok.2.1 (xKl P M) is
      obtain ⟨g1, g2, g3, g4⟩ := k1
      have hB : ∀ w ∈ B, vx_ot w = true := fun w hw => by unfold vx_ot; rw [ok.2.2.2.1 w hw, Bool.or_true]
      refine ⟨⟨g1, hts _ g2, hts _ g3, g4⟩, ?_, fun w hw => ?_, fun w hw => ?_, fun t hal hsz hsame => ?_⟩
      · have k4 : ∃ x2 x3, xPo P (xKl P M) is = (14, x2, x3) := ⟨(xPo P (xKl P M) is).2.1, (xPo P (xKl P M) is).2.2, by rw [← h3]⟩
        obtain ⟨x2, x3, k4⟩ := k4
        rw [k4] at k3
        obtain ⟨tx, htx⟩ := k3
        obtain ⟨sa, hsa⟩ := hst.2.1 _ htx
        exact ⟨tx, sa, hsa⟩
      · rcases k2 w hw with z | z
        · exact hts _ z
        · exact va_Nw.use (xNf_tab (hst.1 _ z).1) (hst.1 _ z).2
      · rcases List.mem_cons.mp hw with rfl | hw
        · exact hB _ g2
        · rcases List.mem_cons.mp hw with rfl | hw
          · exact hB _ g3
          · rcases k2 w hw with z | z
            · exact hB _ z
            · unfold vx_ot; rw [xNf_tab (hst.1 _ z).1, Bool.true_or]
      · rw [h4, h5]
        obtain ⟨hP, hAw, hS, hl, hJ, hlh, hex⟩ := V
        refine ⟨rfl, g1, hP.kept (fun k q hk => hsame q.1 (hP k q hk).lt), ⟨Nat.le_trans hS.1 hsz, fun q w1 w2 => ?_⟩, hJ, hAw, hlh, fun z => by cases z⟩
        rw [hsame q (Nat.lt_of_lt_of_le w1 hS.1)]
        exact hS.2.1 q w1 w2
    have hlen2 : len = 3 := hlen.symm
    subst hlen2
    have hls : ls.size = c.maxLocals := by rw [hml]; exact V.2.2.2.1.1
    have hout : xHd P M = [] → M < NM → ∀ k9, ∀ x ∈ c.exceptionTable.toList, covers x k9 = false := by
      intro h1 h2 k9 x hx9
      obtain ⟨-, -, -, -, -, -, y7, -⟩ := ok.1 M h2
      rw [htab, y7.mpr h1] at hx9
      cases hx9
    unfold xend at h
    dsimp only at h
    split at h
    next E x2 hpo =>
      split at h
      next is hd3 hd4 =>
        split at h
        next ic hd6 hd9 =>
          split at h
          next hcc =>
            obtain ⟨c1, c2, c3, c4⟩ := hcc
            cases h
            obtain ⟨⟨-, t1, t2, t3⟩, ⟨tx, sa, t4⟩, t5, t6, t7⟩ := thr (is := is) (ic := ic) (by rw [hpo]) c1 c2 rfl rfl
            exact vx_throwX (names := xNames) (mc := H.2.2.1 + 1) (ms := H.2.2.2 + 6) hx hb hfl (xIx_ok (Ex E)).1 (xIx_ok (Ex E)).2.1 (xIx_ok (Ex E)).2.2.1 (xIx_ok (Ex E)).2.2.2 hown t3 (by decide) t1 t2 t4 t5 t6 hst.2.2.2.2.1 hst.2.2.2.2.2.1 hS hls hd hd3 hd4 hd6 hd9 (hout c3 hM _) (by show 2 + 3 < _; omega) (by show _ + (13 * (2 + 1) + 43) ≤ _; omega) hc hz hlk t7 hS.2.2 (Nat.le_refl _) (Nat.le_refl _)
          next => cases h
        next => cases h
      next is hd3 hd4 =>
        split at h
        next ic hd6 hd9 =>
          split at h
          next hcc =>
            obtain ⟨c1, c2, c3, c4⟩ := hcc
            cases h
            obtain ⟨⟨-, t1, t2, t3⟩, ⟨tx, sa, t4⟩, t5, t6, t7⟩ := thr (is := is) (ic := ic) (by rw [hpo]) c1 c2 rfl rfl
            exact vx_throwXW (names := xNames) (mc := H.2.2.1 + 1) (ms := H.2.2.2 + 6) hx hb hfl (xIx_ok (Ex E)).1 (xIx_ok (Ex E)).2.1 (xIx_ok (Ex E)).2.2.1 (xIx_ok (Ex E)).2.2.2 hown t3 (by decide) t1 t2 t4 t5 t6 hst.2.2.2.2.1 hst.2.2.2.2.2.1 hS hls hd hd3 hd4 hd6 hd9 (hout c3 hM _) (by show 2 + 3 < _; omega) (by show _ + (13 * (2 + 1) + 43) ≤ _; omega) hc hz hlk t7 hS.2.2 (Nat.le_refl _) (Nat.le_refl _)
          next => cases h
        next => cases h
      next => cases h
    next => cases h
  | _ =>
    unfold xend xcall at h
    dsimp only at h
    repeat' split at h
    all_goals cases h
/-- EVERY RUN of the small machine is one of the machine's -/
theorem x_sim (ok : xOK P Y R T N ty cl Ex Hh B Ne St Nc NC NM) : ∀ n, xSim P Y R cl Ex Hh B Ne St Nc NM D cid lo b0 LL xs n := by
  intro n
  induction n with
  | zero => intro M pc L st H o H1 h; cases h
  | succ n ih =>
    intro M pc L st H o H1 hrun hM p l e Rm s m args below meth c A Hp locs ls C V hc hz
    rw [xrun] at hrun
    cases ha : xact P M pc L st H with
    | none => rw [ha] at hrun; cases hrun
    | some a =>
      rw [ha] at hrun
      obtain ⟨I, len, hd, hlen, hh⟩ := xact_inv ha
      have hx := C.1.1
      have hb := C.1.2.1
      have hl := V.2.2.2.1
      have withL : ∀ {L' : xL} {ls' : Array Slot}, lv_has ls' (xNL P M) (xPr 0 L') → xInv P cl D cid lo b0 LL xs M s A L' H Hp locs ls' := by
        intro L' ls' hl'
        obtain ⟨v1, v2, v3, -, v5, v6, v7⟩ := V
        exact ⟨v1, v2, v3, hl', v5, v6, v7⟩
      rcases hh with ⟨s', h1, rfl⟩ | ⟨v, h1, rfl⟩ | ⟨q, h1, rfl⟩ | ⟨q, h1, rfl⟩ | ⟨s', h1, rfl⟩ | ⟨q, h1, rfl⟩ | h1
      · exact x_stk hx hb hd hlen h1 (ih M (pc + len) L s' H o H1 hrun hM C V hc hz)
      · exact x_load hx hb hd hlen hl h1 (ih M (pc + len) L (v :: st) H o H1 hrun hM C V hc hz)
      · exact x_sto hx hb hd hlen hl (L' := q.1) (st' := q.2) h1 (fun ls' hl' => ih M (pc + len) q.1 q.2 H o H1 hrun hM C (withL hl') hc hz)
      · exact x_jmp hx hb hd hlen h1 (ih M q.1 L q.2 H o H1 hrun hM C V hc hz)
      · exact x_read ok C V hd hlen h1 (ih M (pc + len) L s' H o H1 hrun hM C V hc hz)
      · have hrun' : xrun P n (M, pc + len, L, q.1, q.2) = some (o, H1) := hrun
        have hmo := x_mono _ _ _ hrun'
        exact x_write ok C V hM hd hlen (st' := q.1) (H' := q.2) h1 (Nat.le_trans hmo.1 hc) (Nat.le_trans hmo.2.1 hz) (fun Hq locs1 V' => ih M (pc + len) L q.1 q.2 o H1 hrun hM C V' hc hz)
      · rcases xend_mono h1 with ⟨o', H', rfl, -⟩ | ⟨M', as, L', rest, ha'⟩
        · cases hrun
          exact x_end ok C V hM hd hlen h1 hc hz
        · subst ha'
          have hI3 : len = 3 := by
            cases I with
            | invokevirtual i => exact hlen.symm
            | invokestatic i => exact hlen.symm
            | invokespecial i => exact hlen.symm
            | _ =>
              unfold xend at h1
              dsimp only at h1
              repeat' split at h1
              all_goals cases h1
          subst hI3
          have hM'r : ∀ {o9 : xO} {H9 : xH}, xrun P n (M', 0, xent P M' as, [], (H.1, H.2.1, 0, 0)) = some (o9, H9) → M' < NM → as.length = xNa P M' → as.all xcat1 = true → Hp.size ≤ s.heap.size + H.2.2.1 →
              vx_Met l (Y M') (xWd P Y Hh M' :: B) (xRm P M' H9.2.2.1 H9.2.2.2) (xPc P cl Ne St Nc D cid lo b0 LL xs as H.1.1 H.2.1 Hp.size) (xQc P cl D cid lo b0 LL xs (va_A (xW cid lo H.1.1 H.2.1) Hp.size) o9 H9) (xXc P cl D cid lo b0 LL xs Ex (va_A (xW cid lo H.1.1 H.2.1) Hp.size) o9 H9) H9.2.2.1 H9.2.2.2 (va_A (xW cid lo H.1.1 H.2.1) Hp.size) := by
            intro o9 H9 hr9 g1 g2 g3 hsz
            have hlo := C.2.2.2.2.2.2.1
            have hS := V.2.2.1
            refine x_met ok ih hr9 g1 g2 g3 C.2.2.2.2.2.2.2.2.2 V.2.2.2.2.2.1 (Nat.le_trans hlo hS.1) V.2.2.2.2.1 (fun z => ?_)
            have h3 := V.2.2.2.2.2.2 z
            have h4 : H.1.1 ≤ Hp.size := by
              by_cases hll : lo < H.1.1
              · exact xW_lt V.1 hll
              · have := hS.1
                omega
            omega
          have hszf : Hp.size ≤ s.heap.size + H.2.2.1 → H.1.2 = true → H.1.1 = Hp.size := by
            intro hsz z
            have h3 := V.2.2.2.2.2.2 z
            have h4 : H.1.1 ≤ Hp.size := by
              have hlo := C.2.2.2.2.2.2.1
              have hS := V.2.2.1
              by_cases hll : lo < H.1.1
              · exact xW_lt V.1 hll
              · have := hS.1
                omega
            omega
          refine xsz (P' := P) (fun hsz => ?_)
          dsimp only at hrun
          split at hrun
          next v H9 hr9 =>
            have hm9 := x_mono _ _ _ hr9
            have hm8 := x_mono _ _ _ hrun
            dsimp only at hm8 hm9
            refine x_callR ok C V hd h1 rfl (fun g1 g2 g3 => x_metR (hM'r hr9 g1 g2 g3 hsz)) ⟨Nat.le_trans hm8.1 hc, Nat.le_trans hm8.2.1 hz⟩ (fun hLL st₀ t Hq L1 h0 e1 hL hp => ?_)
            subst hLL
            have V9 := x_back C V (fun z => hm9.2.2 z) (hszf hsz) h0 e1 hL hp (L' := L') (ls' := ls) hl
            exact ih M (pc + 3) L' (v.toList ++ rest) _ o H1 hrun hM C V9 hc hz
          next E H9 hr9 =>
            have hm9 := x_mono _ _ _ hr9
            dsimp only at hm9
            split at hrun
            next hv =>
              have hroom : H.2.2.1 + H9.2.2.1 ≤ Rm.cells ∧ H.2.2.2 + H9.2.2.2 ≤ Rm.slots := by
                split at hrun
                next q hq =>
                  have hm8 := x_mono _ _ _ hrun
                  dsimp only at hm8
                  exact ⟨Nat.le_trans hm8.1 hc, Nat.le_trans hm8.2.1 hz⟩
                next =>
                  split at hrun
                  · cases hrun; exact ⟨hc, hz⟩
                  · cases hrun
              refine x_callX ok C V hv hd h1 rfl (fun g1 g2 g3 => hM'r hr9 g1 g2 g3 hsz) hroom (fun hLL hk6 a9 ce st₀ t Hq L1 h0 e1 hL hp hce hcv hcl => ?_)
              subst hLL
              have V9 := fun {L'' : xL} {ls'' : Array Slot} (hl'' : lv_has ls'' (xNL P M) (xPr 0 L'')) => x_back C V (fun z => hm9.2.2 z) (hszf hsz) h0 e1 hL hp (L' := L'') (ls' := ls'') hl''
              split at hrun
              next q hq =>
                exact x_catch ok C hM hl hk6 hq hce hcv hcl (fun ls' hl' => ih M q.1 q.2 [] _ o H1 hrun hM C (V9 hl') hc hz)
              next hq =>
                split at hrun
                next hhd =>
                  cases hrun
                  obtain ⟨-, -, -, -, -, -, y7, -⟩ := ok.1 M hM
                  have htab := C.1.2.2.2.2.2.2.2
                  have V8 := V9 hl
                  exact vx_out (fun x hx9 => by rw [htab, y7.mpr hhd] at hx9; cases hx9) C.1.2.2.2.2.1 hce hcv hcl (fun t' ht' hal => ⟨rfl, hk6, x_postOf V8 t' ht'⟩) V8.2.2.1.2.2 (Nat.le_refl _) (Nat.le_refl _)
                next => cases hrun
            next => cases hrun
          next => cases hrun
end XA
