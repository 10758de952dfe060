/-! what constructors make -/
def z0 : Nat → Int32 := fun _ => 0
def offZ : Off := ((z0, z0, 0, 0, 0), (z0, z0, 0, 0, 0, 0, 0, 0), (z0, z0), (0, z0), (0, z0), (0, z0), (0, z0), z0, z0, 0, 0, 0, 0)
section NEW
variable {t0 b x y : Nat} {h : xHp}
theorem s_hall0 (hx : h x = .inr (1, xDfn 1)) (hxy : x < y) : CA (xPt t0) 2 [.ref x] (y, true) h = some (.inl none, (y + 2, true), hset (hset (hset (hset h y (arI 96 z0)) x (.inr (1, [.ref y, .null, .int 0, .int 0, .int 0]))) (y + 1) (arI 96 z0)) x (.inr (1, [.ref y, .ref (y + 1), .int 0, .int 0, .int 0])), 2, 192) := by
  rw [show xDfn 1 = [.null, .null, .int (nI 0), .int (nI 0), .int (nI 0)] from rfl] at hx
  rw [en2]
  simp (disch := first | exact bz1 | exact bz0 | omega | exact nI_ne0 (by omega) (by omega) | exact bzi) only [xgD0, xgD1, xgD2, xgD3, xgD4, xgD5, xgD6, xgD7, xgD8, xgD9, xgD10, xgD11, xgD12, xgD13, xpD0, xpD1, xpD2, xpD3, xpD4, xpD5, xpD6, xpD7, xpD8, xpD9, xpD10, xpD11, xpD12, xpD13, xcD_i, xrD_i, xlD_i, xdD_i, xlwD_i, xdwD_i, xback_s, xback_n, xcv_ok, k1i, k1r, k1n, k1k, Nat.reduceAdd, Nat.add_zero, Nat.zero_add, ↓reduceIte, not_true_eq_false, not_false_eq_true, and_true, true_and, and_false, false_and, or_true, true_or, or_false, false_or, Bool.false_eq_true, nI_lit, nI_add, pk_mul, nI_sub, nI_lt_eq, nI_le_eq, nI_eq_eq, nle_T, nle_F, nlt_T, nlt_F, neq_T, neq_F, xiD_i, xiD_k, xwD_i, xnD_i, e2_0, e2_1, e2_4, e2_5, e2_7, e2_9, e2_12, e2_13, e2_15, e2_17, e2_20, hset_s, hset_n, hx, Nat.add_assoc]
  rfl
theorem s_find0 (hx : h x = .inr (0, xDfn 0)) (hxy : x < y) : CA (xPt t0) 3 [.ref x] (y, true) h = some (.inl none, (y + 2, true), hset (hset (hset (hset h y (arI 96 z0)) x (.inr (0, [.ref y, .null, .int 0, .int 0, .int 0, .int 0, .int 0, .int 0]))) (y + 1) (arZ 96 z0)) x (.inr (0, [.ref y, .ref (y + 1), .int 0, .int 0, .int 0, .int 0, .int 0, .int 0])), 2, 192) := by
  rw [show xDfn 0 = [.null, .null, .int (nI 0), .int (nI 0), .int (nI 0), .int (nI 0), .int (nI 0), .int (nI 0)] from rfl] at hx
  rw [en3]
  simp (disch := first | exact bz1 | exact bz0 | omega | exact nI_ne0 (by omega) (by omega) | exact bzi) only [xgD0, xgD1, xgD2, xgD3, xgD4, xgD5, xgD6, xgD7, xgD8, xgD9, xgD10, xgD11, xgD12, xgD13, xpD0, xpD1, xpD2, xpD3, xpD4, xpD5, xpD6, xpD7, xpD8, xpD9, xpD10, xpD11, xpD12, xpD13, xcD_i, xrD_i, xlD_i, xdD_i, xlwD_i, xdwD_i, xback_s, xback_n, xcv_ok, k1i, k1r, k1n, k1k, Nat.reduceAdd, Nat.add_zero, Nat.zero_add, ↓reduceIte, not_true_eq_false, not_false_eq_true, and_true, true_and, and_false, false_and, or_true, true_or, or_false, false_or, Bool.false_eq_true, nI_lit, nI_add, pk_mul, nI_sub, nI_lt_eq, nI_le_eq, nI_eq_eq, nle_T, nle_F, nlt_T, nlt_F, neq_T, neq_F, xiD_i, xiD_k, xwD_i, xnD_i, e3_0, e3_1, e3_4, e3_5, e3_7, e3_9, e3_12, e3_13, e3_15, e3_17, e3_20, hset_s, hset_n, hx, Nat.add_assoc]
  rfl
theorem s_sea0 (hx : h x = .inr (3, xDfn 3)) (hxy : x < y) : CA (xPt t0) 4 [.ref x] (y, true) h = some (.inl none, (y + 2, true), hset (hset (hset (hset h y (arI 576 z0)) x (.inr (3, [.ref y, .null]))) (y + 1) (arI 576 z0)) x (.inr (3, [.ref y, .ref (y + 1)])), 2, 1152) := by
  rw [show xDfn 3 = [.null, .null] from rfl] at hx
  rw [en4]
  simp (disch := first | exact bz1 | exact bz0 | omega | exact nI_ne0 (by omega) (by omega) | exact bzi) only [xgD0, xgD1, xgD2, xgD3, xgD4, xgD5, xgD6, xgD7, xgD8, xgD9, xgD10, xgD11, xgD12, xgD13, xpD0, xpD1, xpD2, xpD3, xpD4, xpD5, xpD6, xpD7, xpD8, xpD9, xpD10, xpD11, xpD12, xpD13, xcD_i, xrD_i, xlD_i, xdD_i, xlwD_i, xdwD_i, xback_s, xback_n, xcv_ok, k1i, k1r, k1n, k1k, Nat.reduceAdd, Nat.add_zero, Nat.zero_add, ↓reduceIte, not_true_eq_false, not_false_eq_true, and_true, true_and, and_false, false_and, or_true, true_or, or_false, false_or, Bool.false_eq_true, nI_lit, nI_add, pk_mul, nI_sub, nI_lt_eq, nI_le_eq, nI_eq_eq, nle_T, nle_F, nlt_T, nlt_F, neq_T, neq_F, xiD_i, xiD_k, xwD_i, xnD_i, e4_0, e4_1, e4_4, e4_5, e4_8, e4_10, e4_13, e4_14, e4_17, e4_19, e4_22, hset_s, hset_n, hx, Nat.add_assoc]
  rfl
theorem s_max {n m : Nat} (hnm : n ≤ m) (hm : m < 2 ^ 31) {a : Nat × Bool} : CA (xPt t0) 6 [.int (nI n), .int (nI m)] a h = some (.inl (some (.int (nI m))), a, h, 0, 0) := by
  rw [en6]
  by_cases q : n < m
  · simp (disch := first | exact bz1 | exact bz0 | omega | exact nI_ne0 (by omega) (by omega) | exact bzi) only [xgD0, xgD1, xgD2, xgD3, xgD4, xgD5, xgD6, xgD7, xgD8, xgD9, xgD10, xgD11, xgD12, xgD13, xpD0, xpD1, xpD2, xpD3, xpD4, xpD5, xpD6, xpD7, xpD8, xpD9, xpD10, xpD11, xpD12, xpD13, xcD_i, xrD_i, xlD_i, xdD_i, xlwD_i, xdwD_i, xback_s, xback_n, xcv_ok, k1i, k1r, k1n, k1k, Nat.reduceAdd, Nat.add_zero, Nat.zero_add, ↓reduceIte, not_true_eq_false, not_false_eq_true, and_true, true_and, and_false, false_and, or_true, true_or, or_false, false_or, Bool.false_eq_true, nI_lit, nI_add, pk_mul, nI_sub, nI_lt_eq, nI_le_eq, nI_eq_eq, nle_T, nle_F, nlt_T, nlt_F, neq_T, neq_F, xiD_i, xiD_k, xwD_i, xnD_i, e6_0, e6_1, e6_2, e6_5, e6_6, e6_9, e6_10]
  · have : n = m := by omega
    subst this
    simp (disch := first | exact bz1 | exact bz0 | omega | exact nI_ne0 (by omega) (by omega) | exact bzi) only [xgD0, xgD1, xgD2, xgD3, xgD4, xgD5, xgD6, xgD7, xgD8, xgD9, xgD10, xgD11, xgD12, xgD13, xpD0, xpD1, xpD2, xpD3, xpD4, xpD5, xpD6, xpD7, xpD8, xpD9, xpD10, xpD11, xpD12, xpD13, xcD_i, xrD_i, xlD_i, xdD_i, xlwD_i, xdwD_i, xback_s, xback_n, xcv_ok, k1i, k1r, k1n, k1k, Nat.reduceAdd, Nat.add_zero, Nat.zero_add, ↓reduceIte, not_true_eq_false, not_false_eq_true, and_true, true_and, and_false, false_and, or_true, true_or, or_false, false_or, Bool.false_eq_true, nI_lit, nI_add, pk_mul, nI_sub, nI_lt_eq, nI_le_eq, nI_eq_eq, nle_T, nle_F, nlt_T, nlt_F, neq_T, neq_F, xiD_i, xiD_k, xwD_i, xnD_i, e6_0, e6_1, e6_2, e6_5, e6_6, e6_9, e6_10]
theorem s_tab0 {n w : Nat} (hx : h x = .inr (4, xDfn 4)) (hxy : x < y) (hw : 1 ≤ w) (hn : n ≤ 1000) (hw2 : w ≤ 1000) (hnw : n * w ≤ 1000000) : CA (xPt t0) 5 [.ref x, .int (nI n), .int (nI w)] (y, true) h = some (.inl none, (y + 1, true), hset (hset (hset h x (.inr (4, [.int (nI w), .null, .int 0]))) y (arI (n * w) z0)) x (.inr (4, [.int (nI w), .ref y, .int 0])), 1, n * w) := by
  rw [show xDfn 4 = [.int (nI 0), .null, .int (nI 0)] from rfl] at hx
  rw [en5]
  simp (disch := first | exact bz1 | exact bz0 | omega | exact nI_ne0 (by omega) (by omega) | exact bzi) only [xgD0, xgD1, xgD2, xgD3, xgD4, xgD5, xgD6, xgD7, xgD8, xgD9, xgD10, xgD11, xgD12, xgD13, xpD0, xpD1, xpD2, xpD3, xpD4, xpD5, xpD6, xpD7, xpD8, xpD9, xpD10, xpD11, xpD12, xpD13, xcD_i, xrD_i, xlD_i, xdD_i, xlwD_i, xdwD_i, xback_s, xback_n, xcv_ok, k1i, k1r, k1n, k1k, Nat.reduceAdd, Nat.add_zero, Nat.zero_add, ↓reduceIte, not_true_eq_false, not_false_eq_true, and_true, true_and, and_false, false_and, or_true, true_or, or_false, false_or, Bool.false_eq_true, nI_lit, nI_add, pk_mul, nI_sub, nI_lt_eq, nI_le_eq, nI_eq_eq, nle_T, nle_F, nlt_T, nlt_F, neq_T, neq_F, xiD_i, xiD_k, xwD_i, xnD_i, e5_0, e5_1, e5_4, e5_5, e5_6, e5_7, e5_10, e5_13, e5_14, e5_15, e5_16, e5_19, e5_20, e5_23, e5_24, e5_26, e5_29, hset_s, hset_n, hx, s_max]
  rfl
theorem o_new (hb : h b = .inr (2, xDfn 2)) : CA (xPt t0) 1 [.ref b] (b + 1, true) h = some (.inl none, (b + 20, true), putOff h b offZ, 19, 2639) := by
  rw [show xDfn 2 = [.null, .null, .null, .null, .null, .null, .null, .null, .null, .int (nI 0), .int (nI 0), .int (nI 0), .int (nI 0)] from rfl] at hb
  rw [en1]
  simp (disch := first | exact hset_s _ _ _ | exact bz1 | exact bz0 | omega | exact nI_ne0 (by omega) (by omega) | exact bzi) only [xgD0, xgD1, xgD2, xgD3, xgD4, xgD5, xgD6, xgD7, xgD8, xgD9, xgD10, xgD11, xgD12, xgD13, xpD0, xpD1, xpD2, xpD3, xpD4, xpD5, xpD6, xpD7, xpD8, xpD9, xpD10, xpD11, xpD12, xpD13, xcD_i, xrD_i, xlD_i, xdD_i, xlwD_i, xdwD_i, xback_s, xback_n, xcv_ok, k1i, k1r, k1n, k1k, Nat.reduceAdd, Nat.add_zero, Nat.zero_add, ↓reduceIte, not_true_eq_false, not_false_eq_true, and_true, true_and, and_false, false_and, or_true, true_or, or_false, false_or, Bool.false_eq_true, nI_lit, nI_add, pk_mul, nI_sub, nI_lt_eq, nI_le_eq, nI_eq_eq, nle_T, nle_F, nlt_T, nlt_F, neq_T, neq_F, xiD_i, xiD_k, xwD_i, xnD_i, e1_0, e1_1, e1_4, e1_5, e1_8, e1_9, e1_12, e1_15, e1_16, e1_19, e1_20, e1_23, e1_26, e1_27, e1_30, e1_31, e1_34, e1_37, e1_38, e1_41, e1_42, e1_44, e1_45, e1_48, e1_51, e1_52, e1_55, e1_56, e1_58, e1_60, e1_63, e1_66, e1_67, e1_70, e1_71, e1_73, e1_75, e1_78, e1_81, e1_82, e1_85, e1_86, e1_88, e1_89, e1_92, e1_95, e1_96, e1_98, e1_100, e1_103, e1_104, e1_105, e1_107, e1_110, hset_s, hset_n, hb, Nat.add_assoc, s_hall0, s_find0, s_sea0, s_tab0, Nat.reduceMul]
  refine congrArg (fun (z : xHp) => (some ((.inl none : xO), (b + 20, true), z, 19, 2639) : Option (xO × xH))) ?_
  funext j
  by_cases hj : b ≤ j ∧ j < b + 20
  · obtain ⟨k, rfl⟩ : ∃ k, j = b + k := ⟨j - b, by omega⟩
    have hk : k < 20 := by omega
    rw [putOff_at hk]
    clear hj
    revert k
    refine cases20 ⟨?_, ?_, ?_, ?_, ?_, ?_, ?_, ?_, ?_, ?_, ?_, ?_, ?_, ?_, ?_, ?_, ?_, ?_, ?_, ?_⟩
    all_goals simp (disch := omega) only [hset_s, hset_n, Nat.add_zero]
    all_goals rfl
  · rw [putOff_out hj]
    simp (disch := omega) only [hset_n]
end NEW
