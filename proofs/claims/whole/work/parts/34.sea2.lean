/-! Seating: loops -/
theorem fill_fo {f : Nat → Int32} {v : Int32} {n j : Nat} : fo (fun i g => upd g i v) n f j = if j < n then v else f j := by
  induction n with
  | zero => rfl
  | succ n ih =>
    show (if j = n then v else fo (fun i g => upd g i v) n f j) = _
    by_cases h : j = n
    · rw [if_pos h, if_pos (by omega)]
    · rw [if_neg h, ih]
      by_cases h2 : j < n
      · rw [if_pos h2, if_pos (by omega)]
      · rw [if_neg h2, if_neg (by omega)]
def fillV (n : Nat) (v : Int32) (f : Nat → Int32) : Nat → Int32 := fun j => if j < n then v else f j
section SEA2
variable {t0 k : Nat} {st ow f : Nat → Int32} {a : Nat × Bool} {h : xHp}
theorem s_fill {n : Nat} {v : Int32} (hk : h k = .inl (0, n, .inl f)) (hn : n ≤ 1000000) : CA (xPt t0) 12 [.ref k, .int v] a h = some (.inl none, a, hset h k (.inl (0, n, .inl (fillV n v f))), 0, 0) := by
  rw [en12]
  simp (disch := first | exact bz1 | exact bz0 | omega | exact nI_ne0 (by omega) (by omega) | exact bzi) only [xgD0, xgD1, xgD2, xgD3, xgD4, xgD5, xgD6, xgD7, xgD8, xgD9, xgD10, xgD11, xgD12, xgD13, xpD0, xpD1, xpD2, xpD3, xpD4, xpD5, xpD6, xpD7, xpD8, xpD9, xpD10, xpD11, xpD12, xpD13, xcD_i, xrD_i, xlD_i, xdD_i, xlwD_i, xdwD_i, xback_s, xback_n, xcv_ok, k1i, k1r, k1n, k1k, Nat.reduceAdd, Nat.add_zero, Nat.zero_add, ↓reduceIte, not_true_eq_false, not_false_eq_true, and_true, true_and, and_false, false_and, or_true, true_or, or_false, false_or, Bool.false_eq_true, nI_lit, nI_add, pk_mul, nI_sub, nI_lt_eq, nI_le_eq, nI_eq_eq, nle_T, nle_F, nlt_T, nlt_F, neq_T, neq_F, xiD_i, xiD_k, xwD_i, xnD_i, e12_0, e12_1, e12_2, e12_3, e12_4, e12_6, e12_7, e12_10, e12_11, e12_12, e12_13, e12_14, e12_17, e12_20, hk]
  have loop := lp0 (fun (i : Nat) (g : Nat → Int32) => XR (xPt t0) 12 5 [some (.ref k), some (.int v), some (.int (nI i)), some (.int (nI n))] [] (a, hset h k (.inl (0, n, .inl g)), 0, 0)) (fun i g => upd g i v) n f (fun i hi => by
    rw [e12_5]
    simp (disch := first | exact bz1 | exact bz0 | omega | exact nI_ne0 (by omega) (by omega) | exact bzi) only [xgD0, xgD1, xgD2, xgD3, xgD4, xgD5, xgD6, xgD7, xgD8, xgD9, xgD10, xgD11, xgD12, xgD13, xpD0, xpD1, xpD2, xpD3, xpD4, xpD5, xpD6, xpD7, xpD8, xpD9, xpD10, xpD11, xpD12, xpD13, xcD_i, xrD_i, xlD_i, xdD_i, xlwD_i, xdwD_i, xback_s, xback_n, xcv_ok, k1i, k1r, k1n, k1k, Nat.reduceAdd, Nat.add_zero, Nat.zero_add, ↓reduceIte, not_true_eq_false, not_false_eq_true, and_true, true_and, and_false, false_and, or_true, true_or, or_false, false_or, Bool.false_eq_true, nI_lit, nI_add, pk_mul, nI_sub, nI_lt_eq, nI_le_eq, nI_eq_eq, nle_T, nle_F, nlt_T, nlt_F, neq_T, neq_F, xiD_i, xiD_k, xwD_i, xnD_i, e12_0, e12_1, e12_2, e12_3, e12_4, e12_6, e12_7, e12_10, e12_11, e12_12, e12_13, e12_14, e12_17, e12_20, hset_s, hset_hset])
  rw [hset_self hk] at loop
  refine Eq.trans loop ?_
  rw [e12_5]
  simp (disch := first | exact bz1 | exact bz0 | omega | exact nI_ne0 (by omega) (by omega) | exact bzi) only [xgD0, xgD1, xgD2, xgD3, xgD4, xgD5, xgD6, xgD7, xgD8, xgD9, xgD10, xgD11, xgD12, xgD13, xpD0, xpD1, xpD2, xpD3, xpD4, xpD5, xpD6, xpD7, xpD8, xpD9, xpD10, xpD11, xpD12, xpD13, xcD_i, xrD_i, xlD_i, xdD_i, xlwD_i, xdwD_i, xback_s, xback_n, xcv_ok, k1i, k1r, k1n, k1k, Nat.reduceAdd, Nat.add_zero, Nat.zero_add, ↓reduceIte, not_true_eq_false, not_false_eq_true, and_true, true_and, and_false, false_and, or_true, true_or, or_false, false_or, Bool.false_eq_true, nI_lit, nI_add, pk_mul, nI_sub, nI_lt_eq, nI_le_eq, nI_eq_eq, nle_T, nle_F, nlt_T, nlt_F, neq_T, neq_F, xiD_i, xiD_k, xwD_i, xnD_i, e12_0, e12_1, e12_2, e12_3, e12_4, e12_6, e12_7, e12_10, e12_11, e12_12, e12_13, e12_14, e12_17, e12_20]
  rw [show fo (fun i g => upd g i v) n f = fillV n v f from funext fun j => fill_fo]
theorem s_same {k' n n1 n2 : Nat} {g : Nat → Int32} (hk : h k = .inl (0, n1, .inl f)) (hk' : h k' = .inl (0, n2, .inl g)) (h1 : n ≤ n1) (h2 : n ≤ n2) (b1 : n1 ≤ 1000000) (b2 : n2 ≤ 1000000) : CA (xPt t0) 70 [.ref k, .ref k', .int (nI n)] a h = some (.inl (some (.int (if ∀ i, i < n → f i = g i then 1 else 0))), a, h, 0, 0) := by
  rw [en70]
  simp (disch := first | exact bz1 | exact bz0 | omega | exact nI_ne0 (by omega) (by omega) | exact bzi) only [xgD0, xgD1, xgD2, xgD3, xgD4, xgD5, xgD6, xgD7, xgD8, xgD9, xgD10, xgD11, xgD12, xgD13, xpD0, xpD1, xpD2, xpD3, xpD4, xpD5, xpD6, xpD7, xpD8, xpD9, xpD10, xpD11, xpD12, xpD13, xcD_i, xrD_i, xlD_i, xdD_i, xlwD_i, xdwD_i, xback_s, xback_n, xcv_ok, k1i, k1r, k1n, k1k, Nat.reduceAdd, Nat.add_zero, Nat.zero_add, ↓reduceIte, not_true_eq_false, not_false_eq_true, and_true, true_and, and_false, false_and, or_true, true_or, or_false, false_or, Bool.false_eq_true, nI_lit, nI_add, pk_mul, nI_sub, nI_lt_eq, nI_le_eq, nI_eq_eq, nle_T, nle_F, nlt_T, nlt_F, neq_T, neq_F, xiD_i, xiD_k, xwD_i, xnD_i, e70_0, e70_1, e70_3, e70_4, e70_7, e70_8, e70_9, e70_10, e70_13, e70_14, e70_15, e70_16, e70_19, e70_20, e70_21, e70_22, e70_23, e70_24, e70_25, e70_28, e70_29, e70_30, e70_33, e70_36, e70_37]
  have loop := fo_find (fun (i : Nat) (_ : Unit) => XR (xPt t0) 70 2 [some (.ref k), some (.ref k'), some (.int (nI n)), some (.int (nI i))] [] (a, h, 0, 0)) (fun i => decide (¬ f i = g i)) (fun _ => some (.inl (some (.int 0)), a, h, 0, 0)) n () (fun i hi => by
    rw [e70_2]
    by_cases hq : f i = g i
    · simp (disch := first | exact bz1 | exact bz0 | omega | exact nI_ne0 (by omega) (by omega) | exact bzi) only [xgD0, xgD1, xgD2, xgD3, xgD4, xgD5, xgD6, xgD7, xgD8, xgD9, xgD10, xgD11, xgD12, xgD13, xpD0, xpD1, xpD2, xpD3, xpD4, xpD5, xpD6, xpD7, xpD8, xpD9, xpD10, xpD11, xpD12, xpD13, xcD_i, xrD_i, xlD_i, xdD_i, xlwD_i, xdwD_i, xback_s, xback_n, xcv_ok, k1i, k1r, k1n, k1k, Nat.reduceAdd, Nat.add_zero, Nat.zero_add, ↓reduceIte, not_true_eq_false, not_false_eq_true, and_true, true_and, and_false, false_and, or_true, true_or, or_false, false_or, Bool.false_eq_true, nI_lit, nI_add, pk_mul, nI_sub, nI_lt_eq, nI_le_eq, nI_eq_eq, nle_T, nle_F, nlt_T, nlt_F, neq_T, neq_F, xiD_i, xiD_k, xwD_i, xnD_i, e70_0, e70_1, e70_3, e70_4, e70_7, e70_8, e70_9, e70_10, e70_13, e70_14, e70_15, e70_16, e70_19, e70_20, e70_21, e70_22, e70_23, e70_24, e70_25, e70_28, e70_29, e70_30, e70_33, e70_36, e70_37, hk, hk', hq, decide_eq_true_eq]
    · simp (disch := first | exact bz1 | exact bz0 | omega | exact nI_ne0 (by omega) (by omega) | exact bzi) only [xgD0, xgD1, xgD2, xgD3, xgD4, xgD5, xgD6, xgD7, xgD8, xgD9, xgD10, xgD11, xgD12, xgD13, xpD0, xpD1, xpD2, xpD3, xpD4, xpD5, xpD6, xpD7, xpD8, xpD9, xpD10, xpD11, xpD12, xpD13, xcD_i, xrD_i, xlD_i, xdD_i, xlwD_i, xdwD_i, xback_s, xback_n, xcv_ok, k1i, k1r, k1n, k1k, Nat.reduceAdd, Nat.add_zero, Nat.zero_add, ↓reduceIte, not_true_eq_false, not_false_eq_true, and_true, true_and, and_false, false_and, or_true, true_or, or_false, false_or, Bool.false_eq_true, nI_lit, nI_add, pk_mul, nI_sub, nI_lt_eq, nI_le_eq, nI_eq_eq, nle_T, nle_F, nlt_T, nlt_F, neq_T, neq_F, xiD_i, xiD_k, xwD_i, xnD_i, e70_0, e70_1, e70_3, e70_4, e70_7, e70_8, e70_9, e70_10, e70_13, e70_14, e70_15, e70_16, e70_19, e70_20, e70_21, e70_22, e70_23, e70_24, e70_25, e70_28, e70_29, e70_30, e70_33, e70_36, e70_37, hk, hk', hq, decide_eq_true_eq])
  refine Eq.trans loop ?_
  cases hf : (List.range n).find? (fun i => decide (¬ f i = g i)) with
  | some i =>
    obtain ⟨p1, p2⟩ := List.find?_eq_some_iff_append.mp hf
    have hi : i < n := by
      have := List.mem_of_find?_eq_some hf
      simpa using this
    have hp : ¬ f i = g i := by simpa using p1
    rw [if_neg (fun z => hp (z i hi))]
    rfl
  | none =>
    have hall : ∀ i, i < n → f i = g i := by
      intro i hi
      have := List.find?_eq_none.mp hf i (by simpa using hi)
      simpa using this
    rw [if_pos hall]
    dsimp only
    rw [e70_2]
    simp (disch := first | exact bz1 | exact bz0 | omega | exact nI_ne0 (by omega) (by omega) | exact bzi) only [xgD0, xgD1, xgD2, xgD3, xgD4, xgD5, xgD6, xgD7, xgD8, xgD9, xgD10, xgD11, xgD12, xgD13, xpD0, xpD1, xpD2, xpD3, xpD4, xpD5, xpD6, xpD7, xpD8, xpD9, xpD10, xpD11, xpD12, xpD13, xcD_i, xrD_i, xlD_i, xdD_i, xlwD_i, xdwD_i, xback_s, xback_n, xcv_ok, k1i, k1r, k1n, k1k, Nat.reduceAdd, Nat.add_zero, Nat.zero_add, ↓reduceIte, not_true_eq_false, not_false_eq_true, and_true, true_and, and_false, false_and, or_true, true_or, or_false, false_or, Bool.false_eq_true, nI_lit, nI_add, pk_mul, nI_sub, nI_lt_eq, nI_le_eq, nI_eq_eq, nle_T, nle_F, nlt_T, nlt_F, neq_T, neq_F, xiD_i, xiD_k, xwD_i, xnD_i, e70_0, e70_1, e70_3, e70_4, e70_7, e70_8, e70_9, e70_10, e70_13, e70_14, e70_15, e70_16, e70_19, e70_20, e70_21, e70_22, e70_23, e70_24, e70_25, e70_28, e70_29, e70_30, e70_33, e70_36, e70_37, hk, hk']
end SEA2
