/-! a new box office -/
theorem putOff_hset {h : xHp} {b k : Nat} {o : Off} {e : xE} (hk : b ≤ k ∧ k < b + 20) : putOff (hset h k e) b o = putOff h b o := by
  funext j
  by_cases h1 : b ≤ j ∧ j < b + 20
  · obtain ⟨i, rfl⟩ : ∃ i, j = b + i := ⟨j - b, by omega⟩
    rw [putOff_at (by omega), putOff_at (by omega)]
  · rw [putOff_out h1, putOff_out h1, hset_n (by omega)]
def pstK (x i : Nat) : Nat → Option Nat := fun k => if k < i then some (x + 67 + 20 * k) else none
theorem pstK_up {x i : Nat} : va_up (pstK x i) i (some (x + 67 + 20 * i)) = pstK x (i + 1) := by
  funext k
  unfold va_up pstK
  by_cases h1 : k = i
  · rw [if_pos h1, if_pos (by omega), h1]
  · rw [if_neg h1]
    by_cases h2 : k < i
    · rw [if_pos h2, if_pos (by omega)]
    · rw [if_neg h2, if_neg (by omega)]
def pasH (N : xHp) (x i : Nat) : xHp := fun j => if x + 67 ≤ j ∧ j < x + 67 + 20 * i then offC offZ (x + 67 + 20 * ((j - (x + 67)) / 20)) ((j - (x + 67)) % 20) else if j = x + 24 then .inl (5, 8, .inr (.inr (.inr (.inr (pstK x i))))) else N j
theorem pasH_up {N : xHp} {x i : Nat} : hset (putOff (pasH N x i) (x + 67 + 20 * i) offZ) (x + 24) (.inl (5, 8, .inr (.inr (.inr (.inr (pstK x (i + 1))))))) = pasH N x (i + 1) := by
  funext j
  unfold pasH
  by_cases h0 : j = x + 24
  · rw [h0, hset_s, if_neg (by omega), if_pos rfl]
  · rw [hset_n h0]
    by_cases h1 : x + 67 + 20 * i ≤ j ∧ j < x + 67 + 20 * i + 20
    · obtain ⟨k, rfl⟩ : ∃ k, j = x + 67 + 20 * i + k := ⟨j - (x + 67 + 20 * i), by omega⟩
      rw [putOff_at (by omega), if_pos (by omega), show (x + 67 + 20 * i + k - (x + 67)) / 20 = i by omega, show (x + 67 + 20 * i + k - (x + 67)) % 20 = k by omega]
    · rw [putOff_out h1]
      by_cases h2 : x + 67 ≤ j ∧ j < x + 67 + 20 * i
      · rw [if_pos h2, if_pos (by omega)]
      · rw [if_neg h2, if_neg h0, if_neg (by omega), if_neg h0]
theorem pasH_lo {N : xHp} {x i j : Nat} (h1 : j < x + 67) (h2 : j ≠ x + 24) : pasH N x i j = N j := by
  unfold pasH
  rw [if_neg (by omega), if_neg h2]
theorem pasH_24 {N : xHp} {x i : Nat} : pasH N x i (x + 24) = .inl (5, 8, .inr (.inr (.inr (.inr (pstK x i))))) := by
  unfold pasH
  rw [if_neg (by omega), if_pos rfl]
def B0 : Bx := (z0, 0, -1, 0, 0, 0, 0, (0, z0), (0, z0), offZ, offZ, fun _ => offZ)
theorem off_cls {q : Off} {d : Nat} : ∃ l, offC q d 0 = .inr (2, l) := by
  obtain ⟨p1, p2, p3, p4, p5, p6, p7, p8, p9, p10, p11, p12, p13⟩ := q
  exact ⟨_, rfl⟩
/-- the first hall, started anew -/
def offF (ha : Hal) (o : Off) : Off := match o with
  | (_, fi, se, pe, ho, ti, pa, ac, pr, _, _, _, _) => (ha, fi, (fillV 576 (nI 4) se.1, fillV 576 (-nI 1) se.2), (0, pe.2), (0, ho.2), (0, ti.2), (0, pa.2), fillV 10 (nI 0) ac, sgA 4 xFP pr, nI 0, nI (ha.2.2.1 / 2), nI 1, nI 0)
section BOXNEW
variable {t0 x : Nat} {h : xHp}
theorem rr_rw {t0 M pc i n r w : Nat} {L : xL} {st : List Value} {a : Nat × Bool} {h : xHp} {c z : Nat} {f : Nat → Option Nat} {l : List Value} (h1 : i < n) (hn : n ≤ 1000000) (hw : h w = .inr (2, l)) : xrwD t0 M pc L st (nI i) w r a h c z (.inl (5, n, .inr (.inr (.inr (.inr f))))) = XR (xPt t0) M pc L st (a, hset h r (.inl (5, n, .inr (.inr (.inr (.inr (va_up f i (some w))))))), c, z) := by
  unfold xrwD xrw
  dsimp only
  rw [hw, nI_clamp (by omega)]
  dsimp only
  rw [if_pos ⟨rfl, rfl, by rintro (q | q); exact nI_pos (by omega) q; omega⟩]
theorem box_end {a : Nat × Bool} {c z : Nat} {bf : Nat → Int32} {bn nw ub : Nat} {le lr hs : Int32} {lg sl : Tab} {rp sv : Off} {ps : Nat → Off} {ha : Hal} {fi : Fnd} {se : Sea} {pe ho ti pa : Tab} {ac pr : Nat → Int32} {tm fc ru md : Int32} (ht0 : t0 < x) (ht : h t0 = .inl (8, 4, .inl xFP)) : XR (xPt t0) 0 98 [some (.ref x), some (.int (nI 8))] [] (a, (putOff (bxr h x (bf, bn, le, lr, nw, ub, hs, lg, sl, rp, sv, ps)) (x + 2) (ha, fi, se, pe, ho, ti, pa, ac, pr, tm, fc, ru, md)), c, z) = some (.inl none, a, putOff (bxr h x (bf, bn, le, lr, nw, ub, hs, lg, sl, rp, sv, ps)) (x + 2) (offF (firH ha) (ha, fi, se, pe, ho, ti, pa, ac, pr, tm, fc, ru, md)), c, z) := by
  have ht' : bxr h x (bf, bn, le, lr, nw, ub, hs, lg, sl, rp, sv, ps) t0 = .inl (8, 4, .inl xFP) := (bxr_out (by omega)).trans ht
  have hR : (firH ha).2.2.1 < 2 ^ 31 := by
    have i := fir_out (g := (ha.1, ha.2.1, 3, 6, 0)) 3
    rw [show (firH ha).2.2.1 = 3 from i.1]
    decide
  rw [e0_98]
  have hf := o_first (t0 := t0) (b := x + 2) (a := a) (h := bxr h x (bf, bn, le, lr, nw, ub, hs, lg, sl, rp, sv, ps)) (ha := ha) (fi := fi) (se := se) (pe := pe) (ho := ho) (ti := ti) (pa := pa) (ac := ac) (pr := pr) (tm := tm) (fc := fc) (ru := ru) (md := md)
  generalize firH ha = g at hR hf
  have hanew := fun (hg : g.2.2.1 < 2 ^ 31) => o_anew (t0 := t0) (b := x + 2) (a := a) (h := bxr h x (bf, bn, le, lr, nw, ub, hs, lg, sl, rp, sv, ps)) (ha := g) (fi := fi) (se := se) (pe := pe) (ho := ho) (ti := ti) (pa := pa) (ac := ac) (pr := pr) (tm := tm) (fc := fc) (ru := ru) (md := md) (by omega) ht' hg
  simp (disch := first | exact bz1 | exact bz0 | omega | exact nI_ne0 (by omega) (by omega) | exact bzi) only [xgD0, xgD1, xgD2, xgD3, xgD4, xgD5, xgD6, xgD7, xgD8, xgD9, xgD10, xgD11, xgD12, xgD13, xpD0, xpD1, xpD2, xpD3, xpD4, xpD5, xpD6, xpD7, xpD8, xpD9, xpD10, xpD11, xpD12, xpD13, xcD_i, xrD_i, xlD_i, xdD_i, xlwD_i, xdwD_i, xback_s, xback_n, xcv_ok, k1i, k1r, k1n, k1k, Nat.reduceAdd, Nat.add_zero, Nat.zero_add, ↓reduceIte, not_true_eq_false, not_false_eq_true, and_true, true_and, and_false, false_and, or_true, true_or, or_false, false_or, Bool.false_eq_true, nI_lit, nI_add, pk_mul, nI_sub, nI_lt_eq, nI_le_eq, nI_eq_eq, nle_T, nle_F, nlt_T, nlt_F, neq_T, neq_F, xiD_i, xiD_k, xwD_i, xnD_i, e0_0, e0_1, e0_4, e0_5, e0_7, e0_9, e0_12, e0_13, e0_14, e0_17, e0_18, e0_19, e0_22, e0_23, e0_26, e0_27, e0_30, e0_33, e0_34, e0_37, e0_38, e0_41, e0_43, e0_46, e0_49, e0_50, e0_52, e0_55, e0_58, e0_59, e0_62, e0_63, e0_66, e0_69, e0_70, e0_73, e0_74, e0_77, e0_80, e0_81, e0_84, e0_85, e0_88, e0_90, e0_93, e0_96, e0_97, e0_99, e0_100, e0_103, e0_104, e0_107, e0_108, e0_111, e0_112, e0_115, e0_116, e0_119, e0_120, e0_123, e0_126, e0_127, e0_130, e0_133, ex0_133, e0_136, e0_137, e0_140, ex0_140, e0_143, pb0, pb1, pb22, pb23, pb24, pb65, pb66, pS0, pS1, pS22, pS23, pS65, pS66, of0, of1, of2, of3, of4, of5, of6, of7, of8, of9, of10, of11, of12, of13, of14, of15, of16, of17, of18, of19, us0, us1, us2, us3, us4, us5, us6, us8, us9, us10, us11, us12, us13, us14, us15, us16, us17, us18, us19, hf, hanew hR]
  rfl
theorem box_tail {N : xHp} {c z : Nat} (ht0 : t0 < x) (ht : h t0 = .inl (8, 4, .inl xFP)) (n0 : N x = .inr (5, [.ref (x + 1), .int (nI 0), .int (-nI 1), .int (nI 0), .ref (x + 2), .ref (x + 22), .ref (x + 24), .int (nI 0), .int (nI 0), .ref (x + 25), .ref (x + 45), .ref (x + 65), .int (nI 0)])) (n1 : N (x + 1) = .inl (1, 103, .inl z0)) (n2 : ∀ k, k < 20 → N (x + 2 + k) = offC offZ (x + 2) k) (n22 : N (x + 22) = .inr (4, [.int (nI 7), .ref (x + 23), .int (nI 0)])) (n23 : N (x + 23) = arI 3584 z0) (n24 : N (x + 24) = .inl (5, 8, .inr (.inr (.inr (.inr (fun _ => none)))))) (n25 : ∀ k, k < 20 → N (x + 25 + k) = offC offZ (x + 25) k) (n45 : ∀ k, k < 20 → N (x + 45 + k) = offC offZ (x + 45) k) (n65 : N (x + 65) = .inr (4, [.int (nI 7), .ref (x + 66), .int (nI 0)])) (n66 : N (x + 66) = arI 3584 z0) (nout : ∀ j, ¬ (x ≤ j ∧ j < x + 67) → N j = h j) : XR (xPt t0) 0 98 [some (.ref x), some (.int (nI 0))] [] ((x + 67, true), N, c, z) = some (.inl none, (x + 227, true), putOff (bxr h x B0) (x + 2) (offF (firH offZ.1) offZ), c + 160, z + 21216) := by
  have e0 : N = pasH N x 0 := by
    funext j
    unfold pasH
    rw [if_neg (by omega)]
    by_cases hj : j = x + 24
    · rw [if_pos hj, hj, n24]
      rfl
    · rw [if_neg hj]
  have loop := lp0Q (fun (i : Nat) (_ : Unit) => XR (xPt t0) 0 98 [some (.ref x), some (.int (nI i))] [] ((x + 67 + 20 * i, true), pasH N x i, c + 20 * i, z + 2652 * i)) (fun _ q => q) 8 () (fun i q hi _ => by
    have k0 : pasH N x i x = _ := (pasH_lo (by omega) (by omega)).trans n0
    have k1 := hset_s (pasH N x i) (x + 67 + 20 * i) (.inr (2, xDfn 2))
    have k2 := o_new (t0 := t0) k1
    rw [putOff_hset (by omega)] at k2
    have k3 : putOff (pasH N x i) (x + 67 + 20 * i) offZ (x + 67 + 20 * i) = offC offZ (x + 67 + 20 * i) 0 := putOff_at (i := 0) (by decide)
    obtain ⟨l, hl⟩ := off_cls (q := offZ) (d := x + 67 + 20 * i)
    rw [hl] at k3
    have k4 : ∀ (e : xE), hset (pasH N x i) (x + 67 + 20 * i) e x = pasH N x i x := fun e => hset_n (by omega)
    have k5 : putOff (pasH N x i) (x + 67 + 20 * i) offZ (x + 24) = pasH N x i (x + 24) := putOff_out (by omega)
    have k6 := @rr_rw t0 0 120 i 8 (x + 24) (x + 67 + 20 * i) [some (.ref x), some (.int (nI i))] [] (x + 67 + 20 * (i + 1), true) (putOff (pasH N x i) (x + 67 + 20 * i) offZ) (c + 20 * (i + 1)) (z + 2652 * (i + 1)) (pstK x i) l hi (by decide) k3
    rw [e0_98]
    simp (disch := first | exact bz1 | exact bz0 | omega | exact nI_ne0 (by omega) (by omega) | exact bzi) only [xgD0, xgD1, xgD2, xgD3, xgD4, xgD5, xgD6, xgD7, xgD8, xgD9, xgD10, xgD11, xgD12, xgD13, xpD0, xpD1, xpD2, xpD3, xpD4, xpD5, xpD6, xpD7, xpD8, xpD9, xpD10, xpD11, xpD12, xpD13, xcD_i, xrD_i, xlD_i, xdD_i, xlwD_i, xdwD_i, xback_s, xback_n, xcv_ok, k1i, k1r, k1n, k1k, Nat.reduceAdd, Nat.add_zero, Nat.zero_add, ↓reduceIte, not_true_eq_false, not_false_eq_true, and_true, true_and, and_false, false_and, or_true, true_or, or_false, false_or, Bool.false_eq_true, nI_lit, nI_add, pk_mul, nI_sub, nI_lt_eq, nI_le_eq, nI_eq_eq, nle_T, nle_F, nlt_T, nlt_F, neq_T, neq_F, xiD_i, xiD_k, xwD_i, xnD_i, e0_99, e0_100, e0_103, e0_104, e0_107, e0_108, e0_111, e0_112, e0_115, e0_116, k0, pasH_24, k4]
    rw [k2]
    rw [xback_n, show x + 67 + 20 * i + 20 = x + 67 + 20 * (i + 1) by omega, show c + 20 * i + 1 + 19 = c + 20 * (i + 1) by omega, show z + 2652 * i + 13 + 2639 = z + 2652 * (i + 1) by omega]
    simp (disch := first | exact bz1 | exact bz0 | omega | exact nI_ne0 (by omega) (by omega) | exact bzi) only [xgD0, xgD1, xgD2, xgD3, xgD4, xgD5, xgD6, xgD7, xgD8, xgD9, xgD10, xgD11, xgD12, xgD13, xpD0, xpD1, xpD2, xpD3, xpD4, xpD5, xpD6, xpD7, xpD8, xpD9, xpD10, xpD11, xpD12, xpD13, xcD_i, xrD_i, xlD_i, xdD_i, xlwD_i, xdwD_i, xback_s, xback_n, xcv_ok, k1i, k1r, k1n, k1k, Nat.reduceAdd, Nat.add_zero, Nat.zero_add, ↓reduceIte, not_true_eq_false, not_false_eq_true, and_true, true_and, and_false, false_and, or_true, true_or, or_false, false_or, Bool.false_eq_true, nI_lit, nI_add, pk_mul, nI_sub, nI_lt_eq, nI_le_eq, nI_eq_eq, nle_T, nle_F, nlt_T, nlt_F, neq_T, neq_F, xiD_i, xiD_k, xwD_i, xnD_i, e0_119, k5, pasH_24]
    rw [k6, pstK_up, pasH_up]
    simp (disch := first | exact bz1 | exact bz0 | omega | exact nI_ne0 (by omega) (by omega) | exact bzi) only [xgD0, xgD1, xgD2, xgD3, xgD4, xgD5, xgD6, xgD7, xgD8, xgD9, xgD10, xgD11, xgD12, xgD13, xpD0, xpD1, xpD2, xpD3, xpD4, xpD5, xpD6, xpD7, xpD8, xpD9, xpD10, xpD11, xpD12, xpD13, xcD_i, xrD_i, xlD_i, xdD_i, xlwD_i, xdwD_i, xback_s, xback_n, xcv_ok, k1i, k1r, k1n, k1k, Nat.reduceAdd, Nat.add_zero, Nat.zero_add, ↓reduceIte, not_true_eq_false, not_false_eq_true, and_true, true_and, and_false, false_and, or_true, true_or, or_false, false_or, Bool.false_eq_true, nI_lit, nI_add, pk_mul, nI_sub, nI_lt_eq, nI_le_eq, nI_eq_eq, nle_T, nle_F, nlt_T, nlt_F, neq_T, neq_F, xiD_i, xiD_k, xwD_i, xnD_i, e0_120, e0_123])
  have eH : pasH N x 8 = putOff (bxr h x B0) (x + 2) offZ := by
    funext j
    by_cases hj : x ≤ j ∧ j < x + 227
    · obtain ⟨k, rfl⟩ : ∃ k, j = x + k := ⟨j - x, by omega⟩
      by_cases c2 : 2 ≤ k ∧ k < 22
      · rw [pasH_lo (by omega) (by omega), show x + k = x + 2 + (k - 2) by omega, n2 _ (by omega), putOff_at (by omega)]
      · rw [putOff_out (by omega), bxr_in (by omega)]
        unfold bxC B0
        dsimp only
        by_cases d0 : k = 0
        · subst d0
          rw [pasH_lo (by omega) (by omega)]
          exact n0
        rw [if_neg d0]
        by_cases d1 : k = 1
        · subst d1
          rw [pasH_lo (by omega) (by omega)]
          exact n1
        rw [if_neg d1, if_neg (by omega)]
        by_cases d22 : k = 22
        · subst d22
          rw [pasH_lo (by omega) (by omega)]
          exact n22
        rw [if_neg d22]
        by_cases d23 : k = 23
        · subst d23
          rw [pasH_lo (by omega) (by omega)]
          exact n23
        rw [if_neg d23]
        by_cases d24 : k = 24
        · subst d24
          exact pasH_24
        rw [if_neg d24]
        by_cases d25 : k < 45
        · rw [if_pos d25, pasH_lo (by omega) (by omega), show x + k = x + 25 + (k - 25) by omega]
          exact n25 _ (by omega)
        rw [if_neg d25]
        by_cases d45 : k < 65
        · rw [if_pos d45, pasH_lo (by omega) (by omega), show x + k = x + 45 + (k - 45) by omega]
          exact n45 _ (by omega)
        rw [if_neg d45]
        by_cases d65 : k = 65
        · subst d65
          rw [pasH_lo (by omega) (by omega)]
          exact n65
        rw [if_neg d65]
        by_cases d66 : k = 66
        · subst d66
          rw [pasH_lo (by omega) (by omega)]
          exact n66
        rw [if_neg d66]
        unfold pasH
        rw [if_pos (by omega), show x + k - (x + 67) = k - 67 by omega]
    · rw [putOff_out (by omega), bxr_out hj]
      unfold pasH
      rw [if_neg (by omega), if_neg (by omega), nout j (by omega)]
  rw [e0]
  refine Eq.trans loop ?_
  rw [eH, show x + 67 + 20 * 8 = x + 227 by omega]
  exact box_end (bf := z0) (bn := 0) (le := -1) (lr := 0) (nw := 0) (ub := 0) (hs := 0) (lg := (0, z0)) (sl := (0, z0)) (rp := offZ) (sv := offZ) (ps := fun _ => offZ) (ha := (z0, z0, 0, 0, 0)) (fi := (z0, z0, 0, 0, 0, 0, 0, 0)) (se := (z0, z0)) (pe := (0, z0)) (ho := (0, z0)) (ti := (0, z0)) (pa := (0, z0)) (ac := z0) (pr := z0) (tm := 0) (fc := 0) (ru := 0) (md := 0) ht0 ht
theorem b_new (ht0 : t0 < x) (ht : h t0 = .inl (8, 4, .inl xFP)) (hx : h x = .inr (5, xDfn 5)) : CA (xPt t0) 0 [.ref x] (x + 1, true) h = some (.inl none, (x + 227, true), putOff (bxr h x B0) (x + 2) (offF (firH offZ.1) offZ), 226, 36457) := by
  rw [show xDfn 5 = [.null, .int (nI 0), .int (nI 0), .int (nI 0), .null, .null, .null, .int (nI 0), .int (nI 0), .null, .null, .null, .int (nI 0)] from rfl] at hx
  rw [en0]
  simp (disch := first | exact hset_s _ _ _ | exact bz1 | exact bz0 | omega | exact nI_ne0 (by omega) (by omega) | exact bzi) only [xgD0, xgD1, xgD2, xgD3, xgD4, xgD5, xgD6, xgD7, xgD8, xgD9, xgD10, xgD11, xgD12, xgD13, xpD0, xpD1, xpD2, xpD3, xpD4, xpD5, xpD6, xpD7, xpD8, xpD9, xpD10, xpD11, xpD12, xpD13, xcD_i, xrD_i, xlD_i, xdD_i, xlwD_i, xdwD_i, xback_s, xback_n, xcv_ok, k1i, k1r, k1n, k1k, Nat.reduceAdd, Nat.add_zero, Nat.zero_add, ↓reduceIte, not_true_eq_false, not_false_eq_true, and_true, true_and, and_false, false_and, or_true, true_or, or_false, false_or, Bool.false_eq_true, nI_lit, nI_add, pk_mul, nI_sub, nI_lt_eq, nI_le_eq, nI_eq_eq, nle_T, nle_F, nlt_T, nlt_F, neq_T, neq_F, xiD_i, xiD_k, xwD_i, xnD_i, e0_0, e0_1, e0_4, e0_5, e0_7, e0_9, e0_12, e0_13, e0_14, e0_17, e0_18, e0_19, e0_22, e0_23, e0_26, e0_27, e0_30, e0_33, e0_34, e0_37, e0_38, e0_41, e0_43, e0_46, e0_49, e0_50, e0_52, e0_55, e0_58, e0_59, e0_62, e0_63, e0_66, e0_69, e0_70, e0_73, e0_74, e0_77, e0_80, e0_81, e0_84, e0_85, e0_88, e0_90, e0_93, e0_96, e0_97, e0_99, e0_100, e0_103, e0_104, e0_107, e0_108, e0_111, e0_112, e0_115, e0_116, e0_119, e0_120, e0_123, e0_126, e0_127, e0_130, e0_133, ex0_133, e0_136, e0_137, e0_140, ex0_140, e0_143, hset_s, hset_n, putOff_out, hx, Nat.add_assoc, o_new, s_tab0, Nat.reduceMul]
  refine Eq.trans (box_tail (h := h) ht0 ht ?_ ?_ ?_ ?_ ?_ ?_ ?_ ?_ ?_ ?_ ?_) rfl
  · simp (disch := omega) only [hset_s, hset_n, putOff_out, putOff_at]
  · simp (disch := omega) only [hset_s, hset_n, putOff_out, putOff_at]
    rfl
  · intro k hk
    simp (disch := omega) only [hset_s, hset_n, putOff_out, putOff_at]
  · simp (disch := omega) only [hset_s, hset_n, putOff_out, putOff_at]
  · simp (disch := omega) only [hset_s, hset_n, putOff_out, putOff_at]
  · simp (disch := omega) only [hset_s, hset_n, putOff_out, putOff_at]
  · intro k hk
    simp (disch := omega) only [hset_s, hset_n, putOff_out, putOff_at]
  · intro k hk
    simp (disch := omega) only [hset_s, hset_n, putOff_out, putOff_at]
  · simp (disch := omega) only [hset_s, hset_n, putOff_out, putOff_at]
  · simp (disch := omega) only [hset_s, hset_n, putOff_out, putOff_at]
  · intro j hj
    simp (disch := omega) only [hset_s, hset_n, putOff_out, putOff_at]
end BOXNEW
