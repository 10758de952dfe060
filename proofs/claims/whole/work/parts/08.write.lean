section XWR
variable {P : xP} {Y : Nat → MethodName} {R : Nat → String} {T : Nat → u_T} {N : Nat → Nat} {ty : Nat → Nat → FieldType} {cl : List vw_C} {Ex : Nat → String} {Hh : Nat → List (Nat × Nat × Nat × Nat)} {B Ne : List Jvm.Cond} {St : List (String × Nat × String)} {Nc : List (String × String)} {NC NM : Nat}
variable {D : va_G} {cid : Nat → ClassId} {lo b0 LL : Nat} {xs : Nat → Int32} {M : Nat}
variable {p : Program} {l : Launch} {e : Env} {Rm : Room} {s : State} {m : MethodId} {args : Array Value} {below : List Frame} {meth : Method} {c : Code} {A : Nat → Prop} {Hp : Heap} {locs : List Loc} {cells slots : Nat} {Q : State → Prop}
variable {pc len : Nat} {ls : Array Slot} {I : Instr} {st st' : List Value} {L : xL} {H H' : xH}
theorem vp_nar_int9 {t : FieldType} {x : Int32} (h : vp_nar t x = x) (ht : t = .char ∨ t = .boolean) : narrow t (.int x) = .int x := by
  rcases ht with rfl | rfl
  · rw [vp_nar_char] at h
    show Value.int _ = _
    rw [h]
  · show Value.int _ = _
    have h1 : vp_nar .boolean x = x &&& 1 := rfl
    rw [← h1, h]
theorem x_ainv {hd : decode (xB P M) pc = .ok (I, len)} : True := trivial
set_option maxHeartbeats 1600000 in
theorem x_write (ok : xOK P Y R T N ty cl Ex Hh B Ne St Nc NC NM) (C : xCtx P Y R cl Hh B Ne St Nc D cid lo b0 LL xs M p l Rm s m args meth c A) (V : xInv P cl D cid lo b0 LL xs M s A L H Hp locs ls)
    (hNM : M < NM) (hd : decode (xB P M) pc = .ok (I, len)) (hlen : xlen I len = len) (h : xwr P M I st H = some (st', H')) (hc : H'.2.2.1 ≤ Rm.cells) (hz : H'.2.2.2 ≤ Rm.slots)
    (k : ∀ (H1 : Heap) (locs1 : List Loc), xInv P cl D cid lo b0 LL xs M s A L H' H1 locs1 ls → W p l e Rm s m args below meth c H1 locs1 H'.2.2.1 H'.2.2.2 Q (F0 m (pc + len) ls st')) : W p l e Rm s m args below meth c Hp locs H.2.2.1 H.2.2.2 Q (F0 m pc ls st) := by
  obtain ⟨⟨hx, hb, hml, -, -, hnm, hown, -⟩, hts, hK, hst, hA, hAlo, hlo, hfr, hloc, -⟩ := C
  obtain ⟨hP, hAw, hS, hl, hJ, hlh, hex⟩ := id V
  have hDw : va_D A (xW cid lo H.1.1 H.2.1) := xW_D hAw
  have arr : ∀ {r t n : Nat} {a : (Nat → Int32) ⊕ (Nat → Int64) ⊕ (Nat → UInt32) ⊕ (Nat → UInt64) ⊕ (Nat → Option Nat)}, H.2.1 r = .inl (t, n, a) → t < 6 → (xW cid lo H.1.1 H.2.1)[r - lo]? = some (r, .inl (cid t, n, a)) ∧ lo ≤ r ∧ r < H.1.1 := by
    intro r t n a hr ht
    obtain ⟨h1, h2⟩ := (hJ.arr hr).1 ht
    exact ⟨by rw [xW_get h1 h2, hr]; rfl, h1, h2⟩
  have put : ∀ {r : Nat} {e9 : xE} {H1 : Heap} {locs1 : List Loc}, H' = (H.1, hset H.2.1 r e9, H.2.2) → lo ≤ r → r < H.1.1 → (∀ t a, e9 = .inl (t, a) → t < 6) → va_P D cl ((xW cid lo H.1.1 H.2.1).set (r - lo) (r, xcE cid e9)) H1 → va_S A s.heap H1 locs1 → W p l e Rm s m args below meth c H1 locs1 H.2.2.1 H.2.2.2 Q (F0 m (pc + len) ls st') := by
    intro r e9 H1 locs1 he g1 g2 g3 g4 g5
    have := k H1 locs1 (by rw [he]; exact xInv_set V g1 g2 g3 g4 g5)
    rw [he] at this
    exact this
  have i06 : ∀ {x t : Nat} {b : vp_A}, x < 6 → ∀ t' a', (Sum.inl (x, b) : xE) = .inl (t', a') → t' < 6 := by
    intro x t b hx t' a' he
    cases he
    exact hx
  have cls : ∀ {ta : FieldType} {t : Nat} {cA : ClassId}, (xtys cid)[t]? = some (cid t, ta) → va_K D cl (xtys cid ++ [(cA, ta)]) s → cA = cid t := by
    intro ta t cA h1 h2
    have h3 := (hK.2 t _ h1).2
    have h4 := (h2.2 6 (cA, ta) rfl).2
    dsimp only at h3 h4
    cases ta with
    | object C =>
      obtain ⟨-, -, -, -, -, h5⟩ := h3
      obtain ⟨-, -, -, -, -, h6⟩ := h4
      exact Option.some.inj (h6.symm.trans h5)
    | _ => exact Option.some.inj (h4.symm.trans h3)
  have mk : ∀ {q : Nat} {H1 : Heap} {e9 : xE} {e8 : va_E} {z : Nat}, H' = ((H.1.1 + 1, true), hset H.2.1 H.1.1 e9, H.2.2.1 + 1, H.2.2.2 + z) → st' = .ref H.1.1 :: st'.tail → H.1.2 = true → xcE cid e9 = e8 → (∀ t a, e9 = .inl (t, a) → t < 6) → va_P D cl (xW cid lo H.1.1 H.2.1 ++ [(q, e8)]) H1 → va_D A (xW cid lo H.1.1 H.2.1 ++ [(q, e8)]) → va_S A s.heap H1 locs →
      W p l e Rm s m args below meth c H1 locs (H.2.2.1 + 1) (H.2.2.2 + z) Q (F0 m (pc + len) ls (.ref q :: st'.tail)) := by
    intro q H1 e9 e8 z he hst9 hf h8 h9 g1 g2 g3
    refine xsz (P' := P) (fun hsz => ?_)
    obtain ⟨rfl, V'⟩ := xInv_push (z := H.2.2.2 + z) V hf hAlo hsz h8 h9 g1 g2 g3
    have := k H1 locs (by rw [he]; exact V')
    rw [he] at this
    rw [← hst9]
    exact this
  cases I with
  | putfield i =>
    replace hlen : 3 = len := hlen; subst hlen
    unfold xwr at h
    dsimp only at h
    split at h
    next v r s0 =>
      split at h
      next ci kk hpo =>
        split at h
        next cj fs hr =>
          split at h
          next hcc =>
            cases h
            obtain ⟨rfl, hkl, hn, hfit, hfin⟩ := hcc
            have h1 := ok.2.1 (xKl P M) i
            rw [hpo] at h1
            obtain ⟨h2, h3, h4⟩ := h1
            obtain ⟨h5, h6, h7, h8, h9, -⟩ := ok.2.2.1 _ h2
            obtain ⟨g1, g2⟩ := hJ.obj hr (Nat.lt_of_lt_of_le h2 ok.2.2.2.2.1.1)
            have hw : (xW cid lo H.1.1 H.2.1)[r - lo]? = some (r, .inr (cj, fs)) := by rw [xW_get g1 g2, hr]; rfl
            have hft := (h9 kk h3).2
            rw [hft] at hn hfit hfin
            dsimp only at hn hfit hfin
            cases hF : (T cj kk).2.2.2 with
            | false =>
              exact va_put (C := R cj) (T := T cj) (N := N cj) (ci := cj) (fs := fs) (ty := ty cj kk) hx hb hts h6 (ty cj) h7 h8 hown hK hP hDw hS (r - lo) hw h5 kk h3 (hts _ h4) (fun _ z => z) hF (h7 kk h3) hn hfit hkl hd (fun H1 locs1 g3 _ g5 => put rfl g1 g2 (fun t a he => by cases he) g3 g5)
            | true =>
              obtain ⟨f1, f2⟩ := hfin hF
              refine va_putF (C := R cj) (T := T cj) (N := N cj) (ci := cj) (fs := fs) (ty := ty cj kk) hx hb hts h6 (ty cj) h7 h8 hown hK hP hDw hS (r - lo) hw h5 kk h3 (hts _ h4) (fun _ z => z) hF ?_ ?_ (h7 kk h3) hn hfit hkl hd (fun H1 locs1 g3 _ g5 => put rfl g1 g2 (fun t a he => by cases he) g3 g5)
              · rw [hnm]; exact (ok.1 M hNM).1.2.2 f1
              · rw [(h9 kk h3).1, f2]
          next => cases h
        next => cases h
      next => cases h
    next => cases h
  | iastore =>
    replace hlen : 1 = len := hlen; subst hlen
    unfold xwr at h
    dsimp only at h
    split at h
    next x j r s0 =>
      split at h
      next t n f hr =>
        split at h
        next hcc =>
          cases h
          obtain ⟨rfl, h2⟩ := hcc
          obtain ⟨g0, g1, g2⟩ := arr hr (by omega)
          exact va_iast hx hb hK hP hDw hS (r - lo) 0 g0 rfl h2 hd (fun H1 locs1 g3 _ g5 => put rfl g1 g2 (i06 (t := 0) (by omega)) g3 g5)
        next => cases h
      next => cases h
    next => cases h
  | castore =>
    replace hlen : 1 = len := hlen; subst hlen
    unfold xwr at h
    dsimp only at h
    split at h
    next x j r s0 =>
      split at h
      next t n f hr =>
        split at h
        next hcc =>
          cases h
          obtain ⟨rfl, h3, h2⟩ := hcc
          obtain ⟨g0, g1, g2⟩ := arr hr (by omega)
          exact va_cast hx hb hK hP hDw hS (r - lo) 1 g0 rfl h2 hd (fun H1 locs1 g3 _ g5 => put rfl g1 g2 (i06 (t := 0) (by omega)) (by rw [h3] at g3; exact g3) g5)
        next => cases h
      next => cases h
    next => cases h
  | bastore =>
    replace hlen : 1 = len := hlen; subst hlen
    unfold xwr at h
    dsimp only at h
    split at h
    next x j r s0 =>
      split at h
      next t n f hr =>
        split at h
        next hcc =>
          cases h
          obtain ⟨rfl, h3, h2⟩ := hcc
          obtain ⟨g0, g1, g2⟩ := arr hr (by omega)
          exact va_zast hx hb hK hP hDw hS (r - lo) 2 g0 rfl h2 hd (fun H1 locs1 g3 _ g5 => put rfl g1 g2 (i06 (t := 0) (by omega)) (by rw [h3] at g3; exact g3) g5)
        next => cases h
      next => cases h
    next => cases h
  | lastore =>
    replace hlen : 1 = len := hlen; subst hlen
    unfold xwr at h
    dsimp only at h
    split at h
    next x j r s0 =>
      split at h
      next t n f hr =>
        split at h
        next hcc =>
          cases h
          obtain ⟨rfl, h2⟩ := hcc
          obtain ⟨g0, g1, g2⟩ := arr hr (by omega)
          exact va_last hx hb hK hP hDw hS (r - lo) 3 g0 rfl h2 hd (fun H1 locs1 g3 _ g5 => put rfl g1 g2 (i06 (t := 0) (by omega)) g3 g5)
        next => cases h
      next => cases h
    next => cases h
  | dastore =>
    replace hlen : 1 = len := hlen; subst hlen
    unfold xwr at h
    dsimp only at h
    split at h
    next x j r s0 =>
      split at h
      next t n f hr =>
        split at h
        next hcc =>
          cases h
          obtain ⟨rfl, h2⟩ := hcc
          obtain ⟨g0, g1, g2⟩ := arr hr (by omega)
          exact va_dast hx hb hK hP hDw hS (r - lo) 4 g0 rfl h2 hd (fun H1 locs1 g3 _ g5 => put rfl g1 g2 (i06 (t := 0) (by omega)) g3 g5)
        next => cases h
      next => cases h
    next => cases h
  | aastore =>
    replace hlen : 1 = len := hlen; subst hlen
    unfold xwr at h
    dsimp only at h
    split at h
    next x j r s0 =>
      split at h
      next t n f hr =>
        split at h
        next cj vs hv =>
          split at h
          next hcc =>
            cases h
            obtain ⟨rfl, rfl, h2⟩ := hcc
            obtain ⟨g0, g1, g2⟩ := arr hr (by omega)
            obtain ⟨v1, v2⟩ := hJ.obj hv (by omega)
            obtain ⟨w1, w2, w3⟩ := ok.2.2.2.2.1
            obtain ⟨u1, -⟩ := ok.2.2.1 2 w2
            exact va_astq (r := (R 2, T 2, N 2)) (vs := vs) (ci := 2) hx hb hK hP hDw hS (r - lo) 5 (x - lo) g0 (by rw [w3]; rfl) (by rw [xW_get v1 v2, hv]; rfl) u1 h2 hd (fun H1 locs1 g3 _ g5 => put rfl g1 g2 (i06 (t := 0) (by omega)) g3 g5)
          next => cases h
        next => cases h
      next => cases h
    next => cases h
  | new i =>
    replace hlen : 3 = len := hlen; subst hlen
    unfold xwr at h
    dsimp only at h
    split at h
    next ci n hpo =>
      split at h
      next hf =>
        cases h
        have h1 := ok.2.1 (xKl P M) i
        rw [hpo] at h1
        obtain ⟨h2, rfl, h3, h4, h5⟩ := h1
        obtain ⟨q5, q6, q7, q8, q9, q10⟩ := ok.2.2.1 _ h2
        exact va_new (C := R ci) (T := T ci) (N := N ci) (ci := ci) (fs := xDf P ci) hx hb hts q6 (ty ci) q7 hown (hts _ h3) (hts _ h4) (hts _ h5) hK hP hDw hS hA q5 q10 hc hz hd (fun q H1 g1 g2 g3 => mk (e9 := .inr (ci, xDf P ci)) (z := N ci) rfl rfl hf rfl (fun t a he => by cases he) g1 g2 g3)
      next => cases h
    next => cases h
  | newarray a =>
    replace hlen : 2 = len := hlen; subst hlen
    unfold xwr at h
    dsimp only at h
    split at h
    next x s0 =>
      split at h
      next hcc =>
        obtain ⟨h1, h2, hf⟩ := hcc
        obtain ⟨a1, a2, a3, a4, a5⟩ := ok.2.2.2.2.2
        cases a with
        | int =>
          cases h
          exact va_newa (atype := .int) hx hb (hts _ a1) rfl hK hP hDw hS hA (a0 := (x.toNatClampNeg, .inl (fun _ => 0))) (fun cA => rfl) h1 rfl (by show _ * 4 ≤ _; omega) hc hz hd (fun q cA H1 k1 g1 g2 g3 => by
            have hcA := cls (t := 0) rfl k1
            subst hcA
            exact mk (e9 := .inl (0, x.toNatClampNeg, .inl (fun _ => 0))) (z := x.toNatClampNeg) rfl rfl hf rfl (i06 (t := 0) (by omega)) g1 g2 g3)
        | char =>
          cases h
          exact va_newa (atype := .char) hx hb (hts _ a2) rfl hK hP hDw hS hA (a0 := (x.toNatClampNeg, .inl (fun _ => 0))) (fun cA => rfl) h1 rfl (by show _ * 2 ≤ _; omega) hc hz hd (fun q cA H1 k1 g1 g2 g3 => by
            have hcA := cls (t := 1) rfl k1
            subst hcA
            exact mk (e9 := .inl (1, x.toNatClampNeg, .inl (fun _ => 0))) (z := x.toNatClampNeg) rfl rfl hf rfl (i06 (t := 0) (by omega)) g1 g2 g3)
        | boolean =>
          cases h
          exact va_newa (atype := .boolean) hx hb (hts _ a3) rfl hK hP hDw hS hA (a0 := (x.toNatClampNeg, .inl (fun _ => 0))) (fun cA => rfl) h1 rfl (by show _ * 1 ≤ _; omega) hc hz hd (fun q cA H1 k1 g1 g2 g3 => by
            have hcA := cls (t := 2) rfl k1
            subst hcA
            exact mk (e9 := .inl (2, x.toNatClampNeg, .inl (fun _ => 0))) (z := x.toNatClampNeg) rfl rfl hf rfl (i06 (t := 0) (by omega)) g1 g2 g3)
        | long =>
          cases h
          exact va_newa (atype := .long) hx hb (hts _ a4) rfl hK hP hDw hS hA (a0 := (x.toNatClampNeg, .inr (.inl (fun _ => 0)))) (fun cA => rfl) h1 rfl (by show _ * 8 ≤ _; omega) hc hz hd (fun q cA H1 k1 g1 g2 g3 => by
            have hcA := cls (t := 3) rfl k1
            subst hcA
            exact mk (e9 := .inl (3, x.toNatClampNeg, .inr (.inl (fun _ => 0)))) (z := x.toNatClampNeg) rfl rfl hf rfl (i06 (t := 0) (by omega)) g1 g2 g3)
        | double =>
          cases h
          exact va_newa (atype := .double) hx hb (hts _ a5) rfl hK hP hDw hS hA (a0 := (x.toNatClampNeg, .inr (.inr (.inr (.inl (fun _ => 0)))))) (fun cA => rfl) h1 rfl (by show _ * 8 ≤ _; omega) hc hz hd (fun q cA H1 k1 g1 g2 g3 => by
            have hcA := cls (t := 4) rfl k1
            subst hcA
            exact mk (e9 := .inl (4, x.toNatClampNeg, .inr (.inr (.inr (.inl (fun _ => 0)))))) (z := x.toNatClampNeg) rfl rfl hf rfl (i06 (t := 0) (by omega)) g1 g2 g3)
        | _ => cases h
      next => cases h
    next => cases h
  | anewarray i =>
    replace hlen : 3 = len := hlen; subst hlen
    unfold xwr at h
    dsimp only at h
    split at h
    next x s0 =>
      split at h
      next ci x2 hpo =>
        split at h
        next hcc =>
          obtain ⟨rfl, h1, h2, hf⟩ := hcc
          cases h
          have h3 := ok.2.1 (xKl P M) i
          rw [hpo] at h3
          obtain ⟨-, -, h3, -⟩ := h3
          rw [ok.2.2.2.2.1.2.2] at h3
          exact va_newq hx hb hown (hts _ h3) hst.2.2.2.1 hK hP hDw hS hA h1 rfl (by omega) hc hz hd (fun q cA H1 k1 g1 g2 g3 => by
            have hcA := cls (t := 5) rfl k1
            subst hcA
            exact mk (e9 := .inl (5, x.toNatClampNeg, .inr (.inr (.inr (.inr (fun _ => none)))))) (z := x.toNatClampNeg) rfl rfl hf rfl (i06 (t := 0) (by omega)) g1 g2 g3)
        next => cases h
      next => cases h
    next => cases h
  | invokestatic i =>
    replace hlen : 3 = len := hlen; subst hlen
    unfold xwr at h
    dsimp only at h
    split at h
    next n dp a sp a0 s0 =>
      split at h
      next x1 x2 hpo =>
        split at h
        next t0 n0 f hr0 =>
          split at h
          next t1 n1 g hr1 =>
            split at h
            next hcc =>
              cases h
              obtain ⟨ht0, rfl, h1, h2, h3, h4, h5, h6⟩ := hcc
              have h7 := ok.2.1 (xKl P M) i
              rw [hpo] at h7
              obtain ⟨w1, w2, w3, w4⟩ := h7
              obtain ⟨g0, g1, g2⟩ := arr hr1 (by omega)
              have hnf : nativeFrameWords "java/lang/System" "arraycopy" 5 ≤ 100 := by decide
              have hls : c.maxLocals = ls.size := by rw [hml, hl.1]
              rcases ht0 with rfl | rfl
              · obtain ⟨f0, -, -⟩ := arr hr0 (by omega)
                exact va_copyi hx hb hls hown (hts _ w1) (hts _ w2) (hts _ w3) (hts _ w4) hK hP hDw hS (a0 - lo) (a - lo) 0 0 f0 g0 rfl rfl rfl h1 h2 h3 h4 h5 (fun _ _ => rfl) (by omega) (by omega) hd (fun H1 locs1 g3 _ g5 => put rfl g1 g2 (i06 (t := 0) (by omega)) g3 g5)
              · obtain ⟨rfl, hfp⟩ := (hJ.arr hr0).2.2 rfl
                cases hfp
                obtain ⟨y1, y2, y3⟩ := hst.2.2.2.2.2.2.2.1
                exact va_copyx hx hb hls hown (hts _ w1) (hts _ w2) (hts _ w3) (hts _ w4) hK hP hDw hS y1 y2 y3 (a - lo) 0 g0 rfl h1 h2 h3 h4 h5 (by omega) (by omega) hd (fun H1 locs1 g3 _ g5 => put rfl g1 g2 (i06 (t := 0) (by omega)) g3 g5)
            next => cases h
          next => cases h
        next => cases h
      next => cases h
    next => cases h
  | invokespecial i =>
    replace hlen : 3 = len := hlen; subst hlen
    unfold xwr at h
    dsimp only at h
    split at h
    next r s0 =>
      split at h
      next x1 x2 hpo =>
        split at h
        next hcc =>
          cases h
          have h7 := ok.2.1 (xKl P M) i
          rw [hpo] at h7
          obtain ⟨w1, w2, w3⟩ := h7
          refine W.objInit hx hb hown (hts _ w1) (hts _ w2) (hts _ w3) rfl (by rw [hml]; exact hl.1) rfl hd (by omega) (by show 2 * 0 + _ + 12 ≤ _; omega) ?_
          refine W.eq (g2 := F0 m (pc + 3) ls st') rfl ?_
          exact k Hp locs V
        next => cases h
      next => cases h
    next => cases h
  | _ => cases h
end XWR
