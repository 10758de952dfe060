/-! Seating in an Office: put, mark, open, clear, freeIn, number, states and owners -/
def rowA (p q s : Nat) (x : Int32) (f : Nat → Int32) : Nat → Int32 := fun j => if p * 96 + q ≤ j ∧ j < p * 96 + q + s then x else f j
theorem row_fo {p r c s : Nat} {x : Int32} {f : Nat → Int32} : fo (fun i g => upd g (p * 96 + r * 12 + (c + i)) x) s f = rowA p (r * 12 + c) s x f := by
  induction s with
  | zero =>
    funext j
    unfold rowA
    rw [if_neg (by omega)]
    rfl
  | succ s ih =>
    funext j
    show (if j = p * 96 + r * 12 + (c + s) then x else fo (fun i g => upd g (p * 96 + r * 12 + (c + i)) x) s f j) = _
    rw [ih]
    unfold rowA
    by_cases h1 : j = p * 96 + r * 12 + (c + s)
    · rw [if_pos h1, if_pos (by omega)]
    · rw [if_neg h1]
      by_cases h2 : p * 96 + (r * 12 + c) ≤ j ∧ j < p * 96 + (r * 12 + c) + s
      · rw [if_pos h2, if_pos (by omega)]
      · rw [if_neg h2, if_neg (by omega)]
theorem fo_pair {σ τ : Type} (g1 : Nat → σ → σ) (g2 : Nat → τ → τ) (n : Nat) (s : σ) (t : τ) : fo (fun i (q : σ × τ) => (g1 i q.1, g2 i q.2)) n (s, t) = (fo g1 n s, fo g2 n t) := by
  induction n with
  | zero => rfl
  | succ n ih =>
    show (g1 n (fo _ n (s, t)).1, g2 n (fo _ n (s, t)).2) = _
    rw [ih]
    rfl
/-- the cells of a block in a set of performances: q its first place, s its length -/
abbrev inB (S q s j : Nat) : Prop := j < 576 ∧ S.testBit (j / 96) = true ∧ q ≤ j % 96 ∧ j % 96 < q + s
def mkA (S q s : Nat) (x : Int32) (f : Nat → Int32) : Nat → Int32 := fun j => if inB S q s j then x else f j
theorem mkA_fo {S q s n : Nat} {x : Int32} {f : Nat → Int32} (hq : q + s ≤ 96) (hn : n ≤ 6) : ∀ j, fo (fun p g => if S.testBit p = true then rowA p q s x g else g) n f j = if j < n * 96 ∧ S.testBit (j / 96) = true ∧ q ≤ j % 96 ∧ j % 96 < q + s then x else f j := by
  induction n with
  | zero =>
    intro j
    rw [if_neg (by omega)]
    rfl
  | succ n ih =>
    intro j
    show (if S.testBit n = true then rowA n q s x (fo (fun p g => if S.testBit p = true then rowA p q s x g else g) n f) else fo (fun p g => if S.testBit p = true then rowA p q s x g else g) n f) j = _
    have ih := ih (by omega) j
    by_cases hj : j / 96 = n
    · rw [if_neg (by omega)] at ih
      by_cases hb : S.testBit n = true
      · rw [if_pos hb]
        show (if n * 96 + q ≤ j ∧ j < n * 96 + q + s then x else fo (fun p g => if S.testBit p = true then rowA p q s x g else g) n f j) = _
        rw [ih]
        rw [← hj] at hb
        by_cases h2 : q ≤ j % 96 ∧ j % 96 < q + s
        · rw [if_pos (by omega), if_pos ⟨by omega, hb, h2.1, h2.2⟩]
        · rw [if_neg (by omega), if_neg (fun z => h2 z.2.2)]
      · rw [if_neg hb, ih, if_neg (fun z => hb (hj ▸ z.2.1))]
    · have key : (if S.testBit n = true then rowA n q s x (fo (fun p g => if S.testBit p = true then rowA p q s x g else g) n f) else fo (fun p g => if S.testBit p = true then rowA p q s x g else g) n f) j = fo (fun p g => if S.testBit p = true then rowA p q s x g else g) n f j := by
        by_cases hb : S.testBit n = true
        · rw [if_pos hb]
          show (if n * 96 + q ≤ j ∧ j < n * 96 + q + s then x else fo (fun p g => if S.testBit p = true then rowA p q s x g else g) n f j) = _
          rw [if_neg (by omega)]
        · rw [if_neg hb]
      rw [key, ih]
      by_cases h2 : j < n * 96 ∧ S.testBit (j / 96) = true ∧ q ≤ j % 96 ∧ j % 96 < q + s
      · rw [if_pos h2, if_pos ⟨by omega, h2.2.1, h2.2.2.1, h2.2.2.2⟩]
      · rw [if_neg h2, if_neg (fun z => h2 ⟨by omega, z.2.1, z.2.2.1, z.2.2.2⟩)]
theorem mkA_6 {S q s : Nat} {x : Int32} {f : Nat → Int32} (hq : q + s ≤ 96) : fo (fun p g => if S.testBit p = true then rowA p q s x g else g) 6 f = mkA S q s x f := funext fun j => mkA_fo hq (Nat.le_refl 6) j
def markV (S q s : Nat) (x y : Int32) (se : Sea) : Sea := (mkA S q s x se.1, mkA S q s y se.2)
section SEA3
variable {t0 b : Nat} {a : Nat × Bool} {h : xHp} {ha : Hal} {fi : Fnd} {se : Sea} {pe ho ti pa : Tab} {ac pr : Nat → Int32} {tm fc ru md : Int32}
theorem o_cell {p r c : Nat} (hp : p < 6) (hr : r < 8) (hc : c < 12) : CA (xPt t0) 35 [.int (nI p), .int (nI r), .int (nI c)] a h = some (.inl (some (.int (nI (p * 96 + r * 12 + c)))), a, h, 0, 0) := s_cellOf hp hr hc
theorem o_put {p r c : Nat} {x y : Int32} (hp : p < 6) (hr : r < 8) (hc : c < 12) : CA (xPt t0) 34 [.ref (b + 7), .int (nI p), .int (nI r), .int (nI c), .int x, .int y] a (putOff h b (ha, fi, se, pe, ho, ti, pa, ac, pr, tm, fc, ru, md)) = some (.inl none, a, putOff h b (ha, fi, (upd se.1 (p * 96 + r * 12 + c) x, upd se.2 (p * 96 + r * 12 + c) y), pe, ho, ti, pa, ac, pr, tm, fc, ru, md), 0, 0) := by
  rw [en34]
  simp (disch := first | exact bz1 | exact bz0 | omega | exact nI_ne0 (by omega) (by omega) | exact bzi) only [xgD0, xgD1, xgD2, xgD3, xgD4, xgD5, xgD6, xgD7, xgD8, xgD9, xgD10, xgD11, xgD12, xgD13, xpD0, xpD1, xpD2, xpD3, xpD4, xpD5, xpD6, xpD7, xpD8, xpD9, xpD10, xpD11, xpD12, xpD13, xcD_i, xrD_i, xlD_i, xdD_i, xlwD_i, xdwD_i, xback_s, xback_n, xcv_ok, k1i, k1r, k1n, k1k, Nat.reduceAdd, Nat.add_zero, Nat.zero_add, ↓reduceIte, not_true_eq_false, not_false_eq_true, and_true, true_and, and_false, false_and, or_true, true_or, or_false, false_or, Bool.false_eq_true, nI_lit, nI_add, pk_mul, nI_sub, nI_lt_eq, nI_le_eq, nI_eq_eq, nle_T, nle_F, nlt_T, nlt_F, neq_T, neq_F, xiD_i, xiD_k, xwD_i, xnD_i, e34_0, e34_1, e34_2, e34_3, e34_6, e34_8, e34_10, e34_13, e34_14, e34_17, e34_19, e34_21, e34_22, e34_23, e34_26, e34_28, e34_30, e34_31, of0, of1, of2, of3, of4, of5, of6, of7, of8, of9, of10, of11, of12, of13, of14, of15, of16, of17, of18, of19, us0, us1, us2, us3, us4, us5, us6, us8, us9, us10, us11, us12, us13, us14, us15, us16, us17, us18, us19, o_cell]
theorem o_state {p r c : Nat} (hp : p < 6) (hr : r < 8) (hc : c < 12) : CA (xPt t0) 98 [.ref (b + 7), .int (nI p), .int (nI r), .int (nI c)] a (putOff h b (ha, fi, se, pe, ho, ti, pa, ac, pr, tm, fc, ru, md)) = some (.inl (some (.int (se.1 (p * 96 + r * 12 + c)))), a, putOff h b (ha, fi, se, pe, ho, ti, pa, ac, pr, tm, fc, ru, md), 0, 0) := by
  rw [en98]
  simp (disch := first | exact bz1 | exact bz0 | omega | exact nI_ne0 (by omega) (by omega) | exact bzi) only [xgD0, xgD1, xgD2, xgD3, xgD4, xgD5, xgD6, xgD7, xgD8, xgD9, xgD10, xgD11, xgD12, xgD13, xpD0, xpD1, xpD2, xpD3, xpD4, xpD5, xpD6, xpD7, xpD8, xpD9, xpD10, xpD11, xpD12, xpD13, xcD_i, xrD_i, xlD_i, xdD_i, xlwD_i, xdwD_i, xback_s, xback_n, xcv_ok, k1i, k1r, k1n, k1k, Nat.reduceAdd, Nat.add_zero, Nat.zero_add, ↓reduceIte, not_true_eq_false, not_false_eq_true, and_true, true_and, and_false, false_and, or_true, true_or, or_false, false_or, Bool.false_eq_true, nI_lit, nI_add, pk_mul, nI_sub, nI_lt_eq, nI_le_eq, nI_eq_eq, nle_T, nle_F, nlt_T, nlt_F, neq_T, neq_F, xiD_i, xiD_k, xwD_i, xnD_i, e98_0, e98_1, e98_2, e98_3, e98_6, e98_8, e98_10, e98_13, e98_14, e98_17, e98_18, e98_21, e98_23, e98_24, of0, of1, of2, of3, of4, of5, of6, of7, of8, of9, of10, of11, of12, of13, of14, of15, of16, of17, of18, of19, us0, us1, us2, us3, us4, us5, us6, us8, us9, us10, us11, us12, us13, us14, us15, us16, us17, us18, us19, o_cell]
theorem o_owner {p r c : Nat} (hp : p < 6) (hr : r < 8) (hc : c < 12) : CA (xPt t0) 103 [.ref (b + 7), .int (nI p), .int (nI r), .int (nI c)] a (putOff h b (ha, fi, se, pe, ho, ti, pa, ac, pr, tm, fc, ru, md)) = some (.inl (some (.int (se.2 (p * 96 + r * 12 + c)))), a, putOff h b (ha, fi, se, pe, ho, ti, pa, ac, pr, tm, fc, ru, md), 0, 0) := by
  rw [en103]
  simp (disch := first | exact bz1 | exact bz0 | omega | exact nI_ne0 (by omega) (by omega) | exact bzi) only [xgD0, xgD1, xgD2, xgD3, xgD4, xgD5, xgD6, xgD7, xgD8, xgD9, xgD10, xgD11, xgD12, xgD13, xpD0, xpD1, xpD2, xpD3, xpD4, xpD5, xpD6, xpD7, xpD8, xpD9, xpD10, xpD11, xpD12, xpD13, xcD_i, xrD_i, xlD_i, xdD_i, xlwD_i, xdwD_i, xback_s, xback_n, xcv_ok, k1i, k1r, k1n, k1k, Nat.reduceAdd, Nat.add_zero, Nat.zero_add, ↓reduceIte, not_true_eq_false, not_false_eq_true, and_true, true_and, and_false, false_and, or_true, true_or, or_false, false_or, Bool.false_eq_true, nI_lit, nI_add, pk_mul, nI_sub, nI_lt_eq, nI_le_eq, nI_eq_eq, nle_T, nle_F, nlt_T, nlt_F, neq_T, neq_F, xiD_i, xiD_k, xwD_i, xnD_i, e103_0, e103_1, e103_2, e103_3, e103_6, e103_8, e103_10, e103_13, e103_14, e103_17, e103_18, e103_21, e103_23, e103_24, of0, of1, of2, of3, of4, of5, of6, of7, of8, of9, of10, of11, of12, of13, of14, of15, of16, of17, of18, of19, us0, us1, us2, us3, us4, us5, us6, us8, us9, us10, us11, us12, us13, us14, us15, us16, us17, us18, us19, o_cell]
theorem o_has {S p : Nat} (hS : S < 64) (hp : p < 6) : CA (xPt t0) 42 [.int (nI S), .int (nI p)] a h = some (.inl (some (.int (if S.testBit p = true then 1 else 0))), a, h, 0, 0) := s_contains hS hp
theorem o_mark {S r c s : Nat} {x y : Int32} (hS : S < 64) (hr : r < 8) (hc : c + s ≤ 12) : CA (xPt t0) 41 [.ref (b + 7), .int (nI S), .int (nI r), .int (nI c), .int (nI s), .int x, .int y] a (putOff h b (ha, fi, se, pe, ho, ti, pa, ac, pr, tm, fc, ru, md)) = some (.inl none, a, putOff h b (ha, fi, markV S (r * 12 + c) s x y se, pe, ho, ti, pa, ac, pr, tm, fc, ru, md), 0, 0) := by
  rw [en41]
  simp (disch := first | exact bz1 | exact bz0 | omega | exact nI_ne0 (by omega) (by omega) | exact bzi) only [xgD0, xgD1, xgD2, xgD3, xgD4, xgD5, xgD6, xgD7, xgD8, xgD9, xgD10, xgD11, xgD12, xgD13, xpD0, xpD1, xpD2, xpD3, xpD4, xpD5, xpD6, xpD7, xpD8, xpD9, xpD10, xpD11, xpD12, xpD13, xcD_i, xrD_i, xlD_i, xdD_i, xlwD_i, xdwD_i, xback_s, xback_n, xcv_ok, k1i, k1r, k1n, k1k, Nat.reduceAdd, Nat.add_zero, Nat.zero_add, ↓reduceIte, not_true_eq_false, not_false_eq_true, and_true, true_and, and_false, false_and, or_true, true_or, or_false, false_or, Bool.false_eq_true, nI_lit, nI_add, pk_mul, nI_sub, nI_lt_eq, nI_le_eq, nI_eq_eq, nle_T, nle_F, nlt_T, nlt_F, neq_T, neq_F, xiD_i, xiD_k, xwD_i, xnD_i, e41_0, e41_1, e41_5, e41_7, e41_10, e41_11, e41_13, e41_16, e41_19, e41_20, e41_24, e41_26, e41_29, e41_30, e41_32, e41_33, e41_34, e41_36, e41_37, e41_39, e41_41, ex41_41, e41_44, e41_47, e41_50, e41_53, e41_56]
  have inner : ∀ (p : Nat) (se : Sea), p < 6 → XR (xPt t0) 41 22 [some (.ref (b + 7)), some (.int (nI S)), some (.int (nI r)), some (.int (nI c)), some (.int (nI s)), some (.int x), some (.int y), some (.int (nI p)), some (.int (nI 0))] [] (a, putOff h b (ha, fi, se, pe, ho, ti, pa, ac, pr, tm, fc, ru, md), 0, 0) = XR (xPt t0) 41 50 [some (.ref (b + 7)), some (.int (nI S)), some (.int (nI r)), some (.int (nI c)), some (.int (nI s)), some (.int x), some (.int y), some (.int (nI p)), some (.int (nI s))] [] (a, putOff h b (ha, fi, (rowA p (r * 12 + c) s x se.1, rowA p (r * 12 + c) s y se.2), pe, ho, ti, pa, ac, pr, tm, fc, ru, md), 0, 0) := by
    intro p se hp
    have loop := lp0 (fun (i : Nat) (q : Sea) => XR (xPt t0) 41 22 [some (.ref (b + 7)), some (.int (nI S)), some (.int (nI r)), some (.int (nI c)), some (.int (nI s)), some (.int x), some (.int y), some (.int (nI p)), some (.int (nI i))] [] (a, putOff h b (ha, fi, q, pe, ho, ti, pa, ac, pr, tm, fc, ru, md), 0, 0)) (fun i q => (upd q.1 (p * 96 + r * 12 + (c + i)) x, upd q.2 (p * 96 + r * 12 + (c + i)) y)) s se (fun i hi => by
      rw [e41_22]
      simp (disch := first | exact bz1 | exact bz0 | omega | exact nI_ne0 (by omega) (by omega) | exact bzi) only [xgD0, xgD1, xgD2, xgD3, xgD4, xgD5, xgD6, xgD7, xgD8, xgD9, xgD10, xgD11, xgD12, xgD13, xpD0, xpD1, xpD2, xpD3, xpD4, xpD5, xpD6, xpD7, xpD8, xpD9, xpD10, xpD11, xpD12, xpD13, xcD_i, xrD_i, xlD_i, xdD_i, xlwD_i, xdwD_i, xback_s, xback_n, xcv_ok, k1i, k1r, k1n, k1k, Nat.reduceAdd, Nat.add_zero, Nat.zero_add, ↓reduceIte, not_true_eq_false, not_false_eq_true, and_true, true_and, and_false, false_and, or_true, true_or, or_false, false_or, Bool.false_eq_true, nI_lit, nI_add, pk_mul, nI_sub, nI_lt_eq, nI_le_eq, nI_eq_eq, nle_T, nle_F, nlt_T, nlt_F, neq_T, neq_F, xiD_i, xiD_k, xwD_i, xnD_i, e41_0, e41_1, e41_5, e41_7, e41_10, e41_11, e41_13, e41_16, e41_19, e41_20, e41_24, e41_26, e41_29, e41_30, e41_32, e41_33, e41_34, e41_36, e41_37, e41_39, e41_41, ex41_41, e41_44, e41_47, e41_50, e41_53, e41_56, of0, of1, of2, of3, of4, of5, of6, of7, of8, of9, of10, of11, of12, of13, of14, of15, of16, of17, of18, of19, us0, us1, us2, us3, us4, us5, us6, us8, us9, us10, us11, us12, us13, us14, us15, us16, us17, us18, us19, o_put])
    refine Eq.trans loop ?_
    rw [fo_pair (fun i g => upd g (p * 96 + r * 12 + (c + i)) x) (fun i g => upd g (p * 96 + r * 12 + (c + i)) y) s se.1 se.2, row_fo, row_fo, e41_22]
    simp (disch := first | exact bz1 | exact bz0 | omega | exact nI_ne0 (by omega) (by omega) | exact bzi) only [xgD0, xgD1, xgD2, xgD3, xgD4, xgD5, xgD6, xgD7, xgD8, xgD9, xgD10, xgD11, xgD12, xgD13, xpD0, xpD1, xpD2, xpD3, xpD4, xpD5, xpD6, xpD7, xpD8, xpD9, xpD10, xpD11, xpD12, xpD13, xcD_i, xrD_i, xlD_i, xdD_i, xlwD_i, xdwD_i, xback_s, xback_n, xcv_ok, k1i, k1r, k1n, k1k, Nat.reduceAdd, Nat.add_zero, Nat.zero_add, ↓reduceIte, not_true_eq_false, not_false_eq_true, and_true, true_and, and_false, false_and, or_true, true_or, or_false, false_or, Bool.false_eq_true, nI_lit, nI_add, pk_mul, nI_sub, nI_lt_eq, nI_le_eq, nI_eq_eq, nle_T, nle_F, nlt_T, nlt_F, neq_T, neq_F, xiD_i, xiD_k, xwD_i, xnD_i, e41_0, e41_1, e41_5, e41_7, e41_10, e41_11, e41_13, e41_16, e41_19, e41_20, e41_24, e41_26, e41_29, e41_30, e41_32, e41_33, e41_34, e41_36, e41_37, e41_39, e41_41, ex41_41, e41_44, e41_47, e41_50, e41_53, e41_56]
  obtain ⟨t', loop⟩ := lp (fun (p : Nat) (q : Sea) (t : Option Value) => XR (xPt t0) 41 3 [some (.ref (b + 7)), some (.int (nI S)), some (.int (nI r)), some (.int (nI c)), some (.int (nI s)), some (.int x), some (.int y), some (.int (nI p)), t] [] (a, putOff h b (ha, fi, q, pe, ho, ti, pa, ac, pr, tm, fc, ru, md), 0, 0)) (fun p q => (if S.testBit p = true then rowA p (r * 12 + c) s x q.1 else q.1, if S.testBit p = true then rowA p (r * 12 + c) s y q.2 else q.2)) 6 se none (fun p t hp => by
    by_cases hb : S.testBit p = true
    · refine ⟨some (.int (nI s)), ?_⟩
      rw [e41_3]
      simp (disch := first | exact bz1 | exact bz0 | omega | exact nI_ne0 (by omega) (by omega) | exact bzi) only [xgD0, xgD1, xgD2, xgD3, xgD4, xgD5, xgD6, xgD7, xgD8, xgD9, xgD10, xgD11, xgD12, xgD13, xpD0, xpD1, xpD2, xpD3, xpD4, xpD5, xpD6, xpD7, xpD8, xpD9, xpD10, xpD11, xpD12, xpD13, xcD_i, xrD_i, xlD_i, xdD_i, xlwD_i, xdwD_i, xback_s, xback_n, xcv_ok, k1i, k1r, k1n, k1k, Nat.reduceAdd, Nat.add_zero, Nat.zero_add, ↓reduceIte, not_true_eq_false, not_false_eq_true, and_true, true_and, and_false, false_and, or_true, true_or, or_false, false_or, Bool.false_eq_true, nI_lit, nI_add, pk_mul, nI_sub, nI_lt_eq, nI_le_eq, nI_eq_eq, nle_T, nle_F, nlt_T, nlt_F, neq_T, neq_F, xiD_i, xiD_k, xwD_i, xnD_i, e41_0, e41_1, e41_5, e41_7, e41_10, e41_11, e41_13, e41_16, e41_19, e41_20, e41_24, e41_26, e41_29, e41_30, e41_32, e41_33, e41_34, e41_36, e41_37, e41_39, e41_41, ex41_41, e41_44, e41_47, e41_50, e41_53, e41_56, of0, of1, of2, of3, of4, of5, of6, of7, of8, of9, of10, of11, of12, of13, of14, of15, of16, of17, of18, of19, us0, us1, us2, us3, us4, us5, us6, us8, us9, us10, us11, us12, us13, us14, us15, us16, us17, us18, us19, o_has, hb, inner]
    · refine ⟨t, ?_⟩
      rw [e41_3]
      simp (disch := first | exact bz1 | exact bz0 | omega | exact nI_ne0 (by omega) (by omega) | exact bzi) only [xgD0, xgD1, xgD2, xgD3, xgD4, xgD5, xgD6, xgD7, xgD8, xgD9, xgD10, xgD11, xgD12, xgD13, xpD0, xpD1, xpD2, xpD3, xpD4, xpD5, xpD6, xpD7, xpD8, xpD9, xpD10, xpD11, xpD12, xpD13, xcD_i, xrD_i, xlD_i, xdD_i, xlwD_i, xdwD_i, xback_s, xback_n, xcv_ok, k1i, k1r, k1n, k1k, Nat.reduceAdd, Nat.add_zero, Nat.zero_add, ↓reduceIte, not_true_eq_false, not_false_eq_true, and_true, true_and, and_false, false_and, or_true, true_or, or_false, false_or, Bool.false_eq_true, nI_lit, nI_add, pk_mul, nI_sub, nI_lt_eq, nI_le_eq, nI_eq_eq, nle_T, nle_F, nlt_T, nlt_F, neq_T, neq_F, xiD_i, xiD_k, xwD_i, xnD_i, e41_0, e41_1, e41_5, e41_7, e41_10, e41_11, e41_13, e41_16, e41_19, e41_20, e41_24, e41_26, e41_29, e41_30, e41_32, e41_33, e41_34, e41_36, e41_37, e41_39, e41_41, ex41_41, e41_44, e41_47, e41_50, e41_53, e41_56, of0, of1, of2, of3, of4, of5, of6, of7, of8, of9, of10, of11, of12, of13, of14, of15, of16, of17, of18, of19, us0, us1, us2, us3, us4, us5, us6, us8, us9, us10, us11, us12, us13, us14, us15, us16, us17, us18, us19, o_has, hb])
  refine Eq.trans loop ?_
  rw [fo_pair (fun p g => if S.testBit p = true then rowA p (r * 12 + c) s x g else g) (fun p g => if S.testBit p = true then rowA p (r * 12 + c) s y g else g) 6 se.1 se.2, mkA_6 (by omega), mkA_6 (by omega), e41_3]
  simp (disch := first | exact bz1 | exact bz0 | omega | exact nI_ne0 (by omega) (by omega) | exact bzi) only [xgD0, xgD1, xgD2, xgD3, xgD4, xgD5, xgD6, xgD7, xgD8, xgD9, xgD10, xgD11, xgD12, xgD13, xpD0, xpD1, xpD2, xpD3, xpD4, xpD5, xpD6, xpD7, xpD8, xpD9, xpD10, xpD11, xpD12, xpD13, xcD_i, xrD_i, xlD_i, xdD_i, xlwD_i, xdwD_i, xback_s, xback_n, xcv_ok, k1i, k1r, k1n, k1k, Nat.reduceAdd, Nat.add_zero, Nat.zero_add, ↓reduceIte, not_true_eq_false, not_false_eq_true, and_true, true_and, and_false, false_and, or_true, true_or, or_false, false_or, Bool.false_eq_true, nI_lit, nI_add, pk_mul, nI_sub, nI_lt_eq, nI_le_eq, nI_eq_eq, nle_T, nle_F, nlt_T, nlt_F, neq_T, neq_F, xiD_i, xiD_k, xwD_i, xnD_i, e41_0, e41_1, e41_5, e41_7, e41_10, e41_11, e41_13, e41_16, e41_19, e41_20, e41_24, e41_26, e41_29, e41_30, e41_32, e41_33, e41_34, e41_36, e41_37, e41_39, e41_41, ex41_41, e41_44, e41_47, e41_50, e41_53, e41_56]
  rfl
end SEA3
