/-! a hall drawn -/
theorem putH_seats {ha : Hal} {r c : Nat} {x : Int32} : (putH ha r c x).2.2.2.2 ≤ ha.2.2.2.2 + 1 := by
  unfold putH
  by_cases h1 : r < 8 ∧ c < 12
  · rw [if_pos h1]
    show (if nI 0 < catC x then ha.2.2.2.2 + 1 else ha.2.2.2.2) ≤ _
    by_cases h2 : nI 0 < catC x
    · rw [if_pos h2]; exact Nat.le_refl _
    · rw [if_neg h2]; omega
  · rw [if_neg h1]; omega
theorem putH_rc {ha : Hal} {r c : Nat} {x : Int32} : (putH ha r c x).2.2.1 = ha.2.2.1 ∧ (putH ha r c x).2.2.2.1 = ha.2.2.2.1 := by
  unfold putH
  by_cases h1 : r < 8 ∧ c < 12
  · rw [if_pos h1]; exact ⟨rfl, rfl⟩
  · rw [if_neg h1]; exact ⟨rfl, rfl⟩
theorem drw_seats {f : Nat → Int32} {ha : Hal} : ∀ n, (fo (drwS f) n (ha, 0, 0)).1.2.2.2.2 ≤ ha.2.2.2.2 + n := by
  intro n
  induction n with
  | zero => exact Nat.le_refl _
  | succ n ih =>
    show (drwS f n (fo (drwS f) n (ha, 0, 0))).1.2.2.2.2 ≤ _
    generalize fo (drwS f) n (ha, 0, 0) = q at ih
    unfold drwS
    by_cases c : f n = nI 47
    · rw [if_pos c]
      show q.1.2.2.2.2 ≤ _
      omega
    · rw [if_neg c]
      show (putH q.1 q.2.1 q.2.2 (f n)).2.2.2.2 ≤ _
      have := putH_seats (ha := q.1) (r := q.2.1) (c := q.2.2) (x := f n)
      omega
section DRAW
variable {t0 b k n : Nat} {f : Nat → Int32} {a : Nat × Bool} {h : xHp} {ha : Hal} {fi : Fnd} {se : Sea} {pe ho ti pa : Tab} {ac pr : Nat → Int32} {tm fc ru md : Int32}
theorem o_draw (hk : h k = .inl (1, 103, .inl f)) (hd : k < b ∨ b + 20 ≤ k) (hn : n ≤ 103) : CA (xPt t0) 83 [.ref (b + 1), .ref k, .int (nI n)] a (putOff h b (ha, fi, se, pe, ho, ti, pa, ac, pr, tm, fc, ru, md)) = some (.inl none, a, putOff h b ((drwV f n ha).1, fi, se, pe, ho, ti, pa, ac, pr, tm, fc, ru, md), 0, 0) := by
  have hk' : ∀ o, putOff h b o k = .inl (1, 103, .inl f) := fun o => (putOff_out (by omega)).trans hk
  have hrow := fun o => o_rowsIn (t0 := t0) (a := a) (n := n) (hk' o) hn
  have hcol := fun o => o_colsIn (t0 := t0) (a := a) (n := n) (hk' o) hn
  rw [en83]
  simp (disch := first | exact bz1 | exact bz0 | omega | exact nI_ne0 (by omega) (by omega) | exact bzi) only [xgD0, xgD1, xgD2, xgD3, xgD4, xgD5, xgD6, xgD7, xgD8, xgD9, xgD10, xgD11, xgD12, xgD13, xpD0, xpD1, xpD2, xpD3, xpD4, xpD5, xpD6, xpD7, xpD8, xpD9, xpD10, xpD11, xpD12, xpD13, xcD_i, xrD_i, xlD_i, xdD_i, xlwD_i, xdwD_i, xback_s, xback_n, xcv_ok, k1i, k1r, k1n, k1k, Nat.reduceAdd, Nat.add_zero, Nat.zero_add, ↓reduceIte, not_true_eq_false, not_false_eq_true, and_true, true_and, and_false, false_and, or_true, true_or, or_false, false_or, Bool.false_eq_true, nI_lit, nI_add, pk_mul, nI_sub, nI_lt_eq, nI_le_eq, nI_eq_eq, nle_T, nle_F, nlt_T, nlt_F, neq_T, neq_F, xiD_i, xiD_k, xwD_i, xnD_i, e83_0, e83_1, e83_2, e83_3, e83_6, e83_9, e83_10, e83_11, e83_12, e83_15, e83_18, e83_19, e83_20, e83_23, e83_24, e83_25, e83_26, e83_28, e83_29, e83_33, e83_34, e83_37, e83_39, e83_40, e83_41, e83_44, e83_45, e83_47, e83_48, e83_50, e83_53, e83_56, e83_57, e83_59, e83_62, e83_63, e83_64, e83_66, e83_67, e83_69, e83_70, ex83_70, e83_73, e83_76, e83_79, e83_82, of0, of1, of2, of3, of4, of5, of6, of7, of8, of9, of10, of11, of12, of13, of14, of15, of16, of17, of18, of19, us0, us1, us2, us3, us4, us5, us6, us8, us9, us10, us11, us12, us13, us14, us15, us16, us17, us18, us19, hrow, hcol]
  have loop := lp0Q (fun (i : Nat) (q : DW) => XR (xPt t0) 83 31 [some (.ref (b + 1)), some (.ref k), some (.int (nI n)), some (.int (nI q.2.1)), some (.int (nI q.2.2)), some (.int (nI i))] [] (a, putOff h b (q.1, fi, se, pe, ho, ti, pa, ac, pr, tm, fc, ru, md), 0, 0)) (drwS f) n ((ha.1, ha.2.1, rowN f n, colN f n, 0), 0, 0) (fun i q hi hq => by
    obtain ⟨i1, i2⟩ := drw_inv (f := f) (ha := (ha.1, ha.2.1, rowN f n, colN f n, 0)) i
    have i3 := drw_seats (f := f) (ha := (ha.1, ha.2.1, rowN f n, colN f n, 0)) i
    rw [← hq] at i1 i2 i3
    obtain ⟨g, r, c⟩ := q
    have i1 : r ≤ i := i1
    have i2 : c ≤ i := i2
    have i3 : g.2.2.2.2 ≤ 0 + i := i3
    have e8 : g.2.2.2.2 < 1000000 := by omega
    rw [e83_31]
    unfold drwS
    by_cases q : f i = nI 47
    · rw [if_pos q]
      simp (disch := first | exact bz1 | exact bz0 | omega | exact nI_ne0 (by omega) (by omega) | exact bzi) only [xgD0, xgD1, xgD2, xgD3, xgD4, xgD5, xgD6, xgD7, xgD8, xgD9, xgD10, xgD11, xgD12, xgD13, xpD0, xpD1, xpD2, xpD3, xpD4, xpD5, xpD6, xpD7, xpD8, xpD9, xpD10, xpD11, xpD12, xpD13, xcD_i, xrD_i, xlD_i, xdD_i, xlwD_i, xdwD_i, xback_s, xback_n, xcv_ok, k1i, k1r, k1n, k1k, Nat.reduceAdd, Nat.add_zero, Nat.zero_add, ↓reduceIte, not_true_eq_false, not_false_eq_true, and_true, true_and, and_false, false_and, or_true, true_or, or_false, false_or, Bool.false_eq_true, nI_lit, nI_add, pk_mul, nI_sub, nI_lt_eq, nI_le_eq, nI_eq_eq, nle_T, nle_F, nlt_T, nlt_F, neq_T, neq_F, xiD_i, xiD_k, xwD_i, xnD_i, e83_0, e83_1, e83_2, e83_3, e83_6, e83_9, e83_10, e83_11, e83_12, e83_15, e83_18, e83_19, e83_20, e83_23, e83_24, e83_25, e83_26, e83_28, e83_29, e83_33, e83_34, e83_37, e83_39, e83_40, e83_41, e83_44, e83_45, e83_47, e83_48, e83_50, e83_53, e83_56, e83_57, e83_59, e83_62, e83_63, e83_64, e83_66, e83_67, e83_69, e83_70, ex83_70, e83_73, e83_76, e83_79, e83_82, hk', q]
    · rw [if_neg q]
      simp (disch := first | exact bz1 | exact bz0 | omega | exact nI_ne0 (by omega) (by omega) | exact bzi) only [xgD0, xgD1, xgD2, xgD3, xgD4, xgD5, xgD6, xgD7, xgD8, xgD9, xgD10, xgD11, xgD12, xgD13, xpD0, xpD1, xpD2, xpD3, xpD4, xpD5, xpD6, xpD7, xpD8, xpD9, xpD10, xpD11, xpD12, xpD13, xcD_i, xrD_i, xlD_i, xdD_i, xlwD_i, xdwD_i, xback_s, xback_n, xcv_ok, k1i, k1r, k1n, k1k, Nat.reduceAdd, Nat.add_zero, Nat.zero_add, ↓reduceIte, not_true_eq_false, not_false_eq_true, and_true, true_and, and_false, false_and, or_true, true_or, or_false, false_or, Bool.false_eq_true, nI_lit, nI_add, pk_mul, nI_sub, nI_lt_eq, nI_le_eq, nI_eq_eq, nle_T, nle_F, nlt_T, nlt_F, neq_T, neq_F, xiD_i, xiD_k, xwD_i, xnD_i, e83_0, e83_1, e83_2, e83_3, e83_6, e83_9, e83_10, e83_11, e83_12, e83_15, e83_18, e83_19, e83_20, e83_23, e83_24, e83_25, e83_26, e83_28, e83_29, e83_33, e83_34, e83_37, e83_39, e83_40, e83_41, e83_44, e83_45, e83_47, e83_48, e83_50, e83_53, e83_56, e83_57, e83_59, e83_62, e83_63, e83_64, e83_66, e83_67, e83_69, e83_70, ex83_70, e83_73, e83_76, e83_79, e83_82, of0, of1, of2, of3, of4, of5, of6, of7, of8, of9, of10, of11, of12, of13, of14, of15, of16, of17, of18, of19, us0, us1, us2, us3, us4, us5, us6, us8, us9, us10, us11, us12, us13, us14, us15, us16, us17, us18, us19, hk', q, o_hput, e8])
  refine Eq.trans loop ?_
  rw [e83_31]
  simp (disch := first | exact bz1 | exact bz0 | omega | exact nI_ne0 (by omega) (by omega) | exact bzi) only [xgD0, xgD1, xgD2, xgD3, xgD4, xgD5, xgD6, xgD7, xgD8, xgD9, xgD10, xgD11, xgD12, xgD13, xpD0, xpD1, xpD2, xpD3, xpD4, xpD5, xpD6, xpD7, xpD8, xpD9, xpD10, xpD11, xpD12, xpD13, xcD_i, xrD_i, xlD_i, xdD_i, xlwD_i, xdwD_i, xback_s, xback_n, xcv_ok, k1i, k1r, k1n, k1k, Nat.reduceAdd, Nat.add_zero, Nat.zero_add, ↓reduceIte, not_true_eq_false, not_false_eq_true, and_true, true_and, and_false, false_and, or_true, true_or, or_false, false_or, Bool.false_eq_true, nI_lit, nI_add, pk_mul, nI_sub, nI_lt_eq, nI_le_eq, nI_eq_eq, nle_T, nle_F, nlt_T, nlt_F, neq_T, neq_F, xiD_i, xiD_k, xwD_i, xnD_i, e83_0, e83_1, e83_2, e83_3, e83_6, e83_9, e83_10, e83_11, e83_12, e83_15, e83_18, e83_19, e83_20, e83_23, e83_24, e83_25, e83_26, e83_28, e83_29, e83_33, e83_34, e83_37, e83_39, e83_40, e83_41, e83_44, e83_45, e83_47, e83_48, e83_50, e83_53, e83_56, e83_57, e83_59, e83_62, e83_63, e83_64, e83_66, e83_67, e83_69, e83_70, ex83_70, e83_73, e83_76, e83_79, e83_82]
  rfl
def firH (ha : Hal) : Hal := fo (fun r g => fo (fun c g => putH g r c (nI 50)) 6 g) 3 (ha.1, ha.2.1, 3, 6, 0)
theorem fir_in {r : Nat} {g : Hal} : ∀ n, (fo (fun c g => putH g r c (nI 50)) n g).2.2.1 = g.2.2.1 ∧ (fo (fun c g => putH g r c (nI 50)) n g).2.2.2.1 = g.2.2.2.1 ∧ (fo (fun c g => putH g r c (nI 50)) n g).2.2.2.2 ≤ g.2.2.2.2 + n := by
  intro n
  induction n with
  | zero => exact ⟨rfl, rfl, Nat.le_refl _⟩
  | succ n ih =>
    show (putH (fo (fun c g => putH g r c (nI 50)) n g) r n (nI 50)).2.2.1 = _ ∧ (putH (fo (fun c g => putH g r c (nI 50)) n g) r n (nI 50)).2.2.2.1 = _ ∧ (putH (fo (fun c g => putH g r c (nI 50)) n g) r n (nI 50)).2.2.2.2 ≤ _
    generalize fo (fun c g => putH g r c (nI 50)) n g = q at ih
    have p1 := putH_rc (ha := q) (r := r) (c := n) (x := nI 50)
    have p2 := putH_seats (ha := q) (r := r) (c := n) (x := nI 50)
    exact ⟨p1.1.trans ih.1, p1.2.trans ih.2.1, by omega⟩
theorem fir_out {g : Hal} : ∀ n, (fo (fun r g => fo (fun c g => putH g r c (nI 50)) 6 g) n g).2.2.1 = g.2.2.1 ∧ (fo (fun r g => fo (fun c g => putH g r c (nI 50)) 6 g) n g).2.2.2.1 = g.2.2.2.1 ∧ (fo (fun r g => fo (fun c g => putH g r c (nI 50)) 6 g) n g).2.2.2.2 ≤ g.2.2.2.2 + n * 6 := by
  intro n
  induction n with
  | zero => exact ⟨rfl, rfl, Nat.le_refl _⟩
  | succ n ih =>
    have p := fir_in (r := n) (g := fo (fun r g => fo (fun c g => putH g r c (nI 50)) 6 g) n g) 6
    exact ⟨p.1.trans ih.1, p.2.1.trans ih.2.1, Nat.le_trans p.2.2 (by omega)⟩
theorem o_first : CA (xPt t0) 7 [.ref (b + 1)] a (putOff h b (ha, fi, se, pe, ho, ti, pa, ac, pr, tm, fc, ru, md)) = some (.inl none, a, putOff h b (firH ha, fi, se, pe, ho, ti, pa, ac, pr, tm, fc, ru, md), 0, 0) := by
  rw [en7]
  simp (disch := first | exact bz1 | exact bz0 | omega | exact nI_ne0 (by omega) (by omega) | exact bzi) only [xgD0, xgD1, xgD2, xgD3, xgD4, xgD5, xgD6, xgD7, xgD8, xgD9, xgD10, xgD11, xgD12, xgD13, xpD0, xpD1, xpD2, xpD3, xpD4, xpD5, xpD6, xpD7, xpD8, xpD9, xpD10, xpD11, xpD12, xpD13, xcD_i, xrD_i, xlD_i, xdD_i, xlwD_i, xdwD_i, xback_s, xback_n, xcv_ok, k1i, k1r, k1n, k1k, Nat.reduceAdd, Nat.add_zero, Nat.zero_add, ↓reduceIte, not_true_eq_false, not_false_eq_true, and_true, true_and, and_false, false_and, or_true, true_or, or_false, false_or, Bool.false_eq_true, nI_lit, nI_add, pk_mul, nI_sub, nI_lt_eq, nI_le_eq, nI_eq_eq, nle_T, nle_F, nlt_T, nlt_F, neq_T, neq_F, xiD_i, xiD_k, xwD_i, xnD_i, e7_0, e7_1, e7_2, e7_5, e7_6, e7_8, e7_11, e7_12, e7_13, e7_16, e7_17, e7_19, e7_20, e7_23, e7_26, e7_27, e7_29, e7_30, e7_33, e7_36, e7_37, e7_38, e7_39, e7_41, ex7_41, e7_44, e7_47, e7_50, e7_53, e7_56, of0, of1, of2, of3, of4, of5, of6, of7, of8, of9, of10, of11, of12, of13, of14, of15, of16, of17, of18, of19, us0, us1, us2, us3, us4, us5, us6, us8, us9, us10, us11, us12, us13, us14, us15, us16, us17, us18, us19]
  have inner : ∀ (r : Nat) (g : Hal), r < 3 → g.2.2.1 = 3 → g.2.2.2.1 = 6 → g.2.2.2.2 ≤ 18 → XR (xPt t0) 7 28 [some (.ref (b + 1)), some (.int (nI r)), some (.int (nI 0))] [] (a, putOff h b (g, fi, se, pe, ho, ti, pa, ac, pr, tm, fc, ru, md), 0, 0) = XR (xPt t0) 7 50 [some (.ref (b + 1)), some (.int (nI r)), some (.int (nI 6))] [] (a, putOff h b (fo (fun c g => putH g r c (nI 50)) 6 g, fi, se, pe, ho, ti, pa, ac, pr, tm, fc, ru, md), 0, 0) := by
    intro r g hr g1 g2 g3
    have loop := lp0Q (fun (c : Nat) (q : Hal) => XR (xPt t0) 7 28 [some (.ref (b + 1)), some (.int (nI r)), some (.int (nI c))] [] (a, putOff h b (q, fi, se, pe, ho, ti, pa, ac, pr, tm, fc, ru, md), 0, 0)) (fun c g => putH g r c (nI 50)) 6 g (fun c q hc hq => by
      have i := fir_in (r := r) (g := g) c
      rw [← hq] at i
      obtain ⟨i1, i2, i3⟩ := i
      have e6 : q.2.2.2.1 = 6 := i2.trans g2
      have e8 : q.2.2.2.2 < 1000000 := by omega
      rw [e7_28]
      simp (disch := first | exact bz1 | exact bz0 | omega | exact nI_ne0 (by omega) (by omega) | exact bzi) only [xgD0, xgD1, xgD2, xgD3, xgD4, xgD5, xgD6, xgD7, xgD8, xgD9, xgD10, xgD11, xgD12, xgD13, xpD0, xpD1, xpD2, xpD3, xpD4, xpD5, xpD6, xpD7, xpD8, xpD9, xpD10, xpD11, xpD12, xpD13, xcD_i, xrD_i, xlD_i, xdD_i, xlwD_i, xdwD_i, xback_s, xback_n, xcv_ok, k1i, k1r, k1n, k1k, Nat.reduceAdd, Nat.add_zero, Nat.zero_add, ↓reduceIte, not_true_eq_false, not_false_eq_true, and_true, true_and, and_false, false_and, or_true, true_or, or_false, false_or, Bool.false_eq_true, nI_lit, nI_add, pk_mul, nI_sub, nI_lt_eq, nI_le_eq, nI_eq_eq, nle_T, nle_F, nlt_T, nlt_F, neq_T, neq_F, xiD_i, xiD_k, xwD_i, xnD_i, e7_0, e7_1, e7_2, e7_5, e7_6, e7_8, e7_11, e7_12, e7_13, e7_16, e7_17, e7_19, e7_20, e7_23, e7_26, e7_27, e7_29, e7_30, e7_33, e7_36, e7_37, e7_38, e7_39, e7_41, ex7_41, e7_44, e7_47, e7_50, e7_53, e7_56, of0, of1, of2, of3, of4, of5, of6, of7, of8, of9, of10, of11, of12, of13, of14, of15, of16, of17, of18, of19, us0, us1, us2, us3, us4, us5, us6, us8, us9, us10, us11, us12, us13, us14, us15, us16, us17, us18, us19, e6, o_hput, e8])
    refine Eq.trans loop ?_
    have i := fir_in (r := r) (g := g) 6
    have e6 : (fo (fun c g => putH g r c (nI 50)) 6 g).2.2.2.1 = 6 := i.2.1.trans g2
    generalize fo (fun c g => putH g r c (nI 50)) 6 g = q at e6
    rw [e7_28]
    simp (disch := first | exact bz1 | exact bz0 | omega | exact nI_ne0 (by omega) (by omega) | exact bzi) only [xgD0, xgD1, xgD2, xgD3, xgD4, xgD5, xgD6, xgD7, xgD8, xgD9, xgD10, xgD11, xgD12, xgD13, xpD0, xpD1, xpD2, xpD3, xpD4, xpD5, xpD6, xpD7, xpD8, xpD9, xpD10, xpD11, xpD12, xpD13, xcD_i, xrD_i, xlD_i, xdD_i, xlwD_i, xdwD_i, xback_s, xback_n, xcv_ok, k1i, k1r, k1n, k1k, Nat.reduceAdd, Nat.add_zero, Nat.zero_add, ↓reduceIte, not_true_eq_false, not_false_eq_true, and_true, true_and, and_false, false_and, or_true, true_or, or_false, false_or, Bool.false_eq_true, nI_lit, nI_add, pk_mul, nI_sub, nI_lt_eq, nI_le_eq, nI_eq_eq, nle_T, nle_F, nlt_T, nlt_F, neq_T, neq_F, xiD_i, xiD_k, xwD_i, xnD_i, e7_0, e7_1, e7_2, e7_5, e7_6, e7_8, e7_11, e7_12, e7_13, e7_16, e7_17, e7_19, e7_20, e7_23, e7_26, e7_27, e7_29, e7_30, e7_33, e7_36, e7_37, e7_38, e7_39, e7_41, ex7_41, e7_44, e7_47, e7_50, e7_53, e7_56, of0, of1, of2, of3, of4, of5, of6, of7, of8, of9, of10, of11, of12, of13, of14, of15, of16, of17, of18, of19, us0, us1, us2, us3, us4, us5, us6, us8, us9, us10, us11, us12, us13, us14, us15, us16, us17, us18, us19, e6]
  obtain ⟨t', loop⟩ := lpQ (fun (r : Nat) (q : Hal) (t : Option Value) => XR (xPt t0) 7 18 [some (.ref (b + 1)), some (.int (nI r)), t] [] (a, putOff h b (q, fi, se, pe, ho, ti, pa, ac, pr, tm, fc, ru, md), 0, 0)) (fun r g => fo (fun c g => putH g r c (nI 50)) 6 g) 3 (ha.1, ha.2.1, 3, 6, 0) none (fun r q t hr hq => by
    have i := fir_out (g := (ha.1, ha.2.1, 3, 6, 0)) r
    rw [← hq] at i
    obtain ⟨i1, i2, i3⟩ := i
    have j1 : q.2.2.1 = 3 := i1
    have j2 : q.2.2.2.1 = 6 := i2
    have j3 : q.2.2.2.2 ≤ 18 := by
      have : q.2.2.2.2 ≤ 0 + r * 6 := i3
      omega
    refine ⟨some (.int (nI 6)), ?_⟩
    rw [e7_18]
    simp (disch := first | exact bz1 | exact bz0 | omega | exact nI_ne0 (by omega) (by omega) | exact bzi) only [xgD0, xgD1, xgD2, xgD3, xgD4, xgD5, xgD6, xgD7, xgD8, xgD9, xgD10, xgD11, xgD12, xgD13, xpD0, xpD1, xpD2, xpD3, xpD4, xpD5, xpD6, xpD7, xpD8, xpD9, xpD10, xpD11, xpD12, xpD13, xcD_i, xrD_i, xlD_i, xdD_i, xlwD_i, xdwD_i, xback_s, xback_n, xcv_ok, k1i, k1r, k1n, k1k, Nat.reduceAdd, Nat.add_zero, Nat.zero_add, ↓reduceIte, not_true_eq_false, not_false_eq_true, and_true, true_and, and_false, false_and, or_true, true_or, or_false, false_or, Bool.false_eq_true, nI_lit, nI_add, pk_mul, nI_sub, nI_lt_eq, nI_le_eq, nI_eq_eq, nle_T, nle_F, nlt_T, nlt_F, neq_T, neq_F, xiD_i, xiD_k, xwD_i, xnD_i, e7_0, e7_1, e7_2, e7_5, e7_6, e7_8, e7_11, e7_12, e7_13, e7_16, e7_17, e7_19, e7_20, e7_23, e7_26, e7_27, e7_29, e7_30, e7_33, e7_36, e7_37, e7_38, e7_39, e7_41, ex7_41, e7_44, e7_47, e7_50, e7_53, e7_56, of0, of1, of2, of3, of4, of5, of6, of7, of8, of9, of10, of11, of12, of13, of14, of15, of16, of17, of18, of19, us0, us1, us2, us3, us4, us5, us6, us8, us9, us10, us11, us12, us13, us14, us15, us16, us17, us18, us19, j1, inner r q hr j1 j2 j3])
  refine Eq.trans loop ?_
  have i := fir_out (g := (ha.1, ha.2.1, 3, 6, 0)) 3
  have j1 : (fo (fun r g => fo (fun c g => putH g r c (nI 50)) 6 g) 3 (ha.1, ha.2.1, 3, 6, 0)).2.2.1 = 3 := i.1
  unfold firH
  generalize fo (fun r g => fo (fun c g => putH g r c (nI 50)) 6 g) 3 (ha.1, ha.2.1, 3, 6, 0) = q at j1
  rw [e7_18]
  simp (disch := first | exact bz1 | exact bz0 | omega | exact nI_ne0 (by omega) (by omega) | exact bzi) only [xgD0, xgD1, xgD2, xgD3, xgD4, xgD5, xgD6, xgD7, xgD8, xgD9, xgD10, xgD11, xgD12, xgD13, xpD0, xpD1, xpD2, xpD3, xpD4, xpD5, xpD6, xpD7, xpD8, xpD9, xpD10, xpD11, xpD12, xpD13, xcD_i, xrD_i, xlD_i, xdD_i, xlwD_i, xdwD_i, xback_s, xback_n, xcv_ok, k1i, k1r, k1n, k1k, Nat.reduceAdd, Nat.add_zero, Nat.zero_add, ↓reduceIte, not_true_eq_false, not_false_eq_true, and_true, true_and, and_false, false_and, or_true, true_or, or_false, false_or, Bool.false_eq_true, nI_lit, nI_add, pk_mul, nI_sub, nI_lt_eq, nI_le_eq, nI_eq_eq, nle_T, nle_F, nlt_T, nlt_F, neq_T, neq_F, xiD_i, xiD_k, xwD_i, xnD_i, e7_0, e7_1, e7_2, e7_5, e7_6, e7_8, e7_11, e7_12, e7_13, e7_16, e7_17, e7_19, e7_20, e7_23, e7_26, e7_27, e7_29, e7_30, e7_33, e7_36, e7_37, e7_38, e7_39, e7_41, ex7_41, e7_44, e7_47, e7_50, e7_53, e7_56, of0, of1, of2, of3, of4, of5, of6, of7, of8, of9, of10, of11, of12, of13, of14, of15, of16, of17, of18, of19, us0, us1, us2, us3, us4, us5, us6, us8, us9, us10, us11, us12, us13, us14, us15, us16, us17, us18, us19, j1]
end DRAW
