/-! Table: n rows of w numbers, at most cap -/
abbrev tabO (w k n : Nat) : xE := .inr (4, [.int (nI w), .ref (k + 1), .int (nI n)])
section TAB
variable {t0 k w cap n : Nat} {f : Nat → Int32} {a : Nat × Bool} {h : xHp}
theorem cell_lt {r c w cap : Nat} (hr : r < cap) (hc : c < w) : r * w + c < cap * w := by
  have h1 : r * w + w ≤ cap * w := by
    rw [← Nat.succ_mul]
    exact Nat.mul_le_mul_right w hr
  omega
theorem cap_le {w cap : Nat} (hw : 0 < w) : cap ≤ cap * w := Nat.le_mul_of_pos_right cap hw
theorem wid_le {w cap : Nat} (hc : 0 < cap) : w ≤ cap * w := Nat.le_mul_of_pos_left w hc
theorem s_at {r c : Nat} (hk : h k = tabO w k n) (hk1 : h (k + 1) = .inl (0, cap * w, .inl f)) (hr : r < n) (hc : c < w) (hn : n ≤ cap) (hb : cap * w ≤ 1000000) : CA (xPt t0) 29 [.ref k, .int (nI r), .int (nI c)] a h = some (.inl (some (.int (f (r * w + c)))), a, h, 0, 0) := by
  have hlt := cell_lt (w := w) (Nat.lt_of_lt_of_le hr hn) hc
  have hw : w ≤ cap * w := wid_le (by omega)
  have hcap : cap ≤ cap * w := cap_le (by omega)
  have q1 : ¬ nI r < 0 := nI_pos (by omega)
  have q2 : ¬ nI n ≤ nI r := by rw [nI_le_eq (by omega) (by omega)]; omega
  have q3 : ¬ nI c < 0 := nI_pos (by omega)
  have q4 : ¬ nI w ≤ nI c := by rw [nI_le_eq (by omega) (by omega)]; omega
  have q5 : ¬ (1 : Int32) = 0 := by decide
  unfold tabO at hk
  rw [en29]
  simp only [e29_0, e29_1, e29_4, e29_5, e29_6, e29_9, e29_12, e29_13, e29_16, e29_17, e29_18, e29_21, e29_24, e29_25, e29_28, e29_29, e29_30, e29_31, e29_34, e29_35, e29_38, e29_39, e29_40, e29_43, e29_44, e29_45, e29_46, e29_47, e29_50, e29_51, hk, hk1, xgD0, xgD1, xgD2, xgD3, xgD4, xgD5, xgD6, xgD7, xgD8, xgD9, xgD10, xgD11, xgD12, xgD13, xpD0, xpD1, xpD2, xpD3, xpD4, xpD5, xpD6, xpD7, xpD8, xpD9, xpD10, xpD11, xpD12, xpD13, xcD_i, xrD_i, xlD_i, xdD_i, xlwD_i, xdwD_i, xback_s, xback_n, xcv_ok, k1i, k1r, k1n, k1k, Nat.reduceAdd, Nat.add_zero, Nat.zero_add, ↓reduceIte, not_true_eq_false, not_false_eq_true, and_true, true_and, and_false, false_and, or_true, true_or, or_false, false_or, Bool.false_eq_true, if_neg q1, if_neg q2, if_neg q3, if_neg q4, if_neg q5, pk_mul, nI_add, xiD_i hlt hb, k1i, k1n]
/-- has, of any row and column -/
theorem s_has {r c : Int32} (hk : h k = tabO w k n) : CA (xPt t0) 24 [.ref k, .int r, .int c] a h = some (.inl (some (.int (if ¬ r < 0 ∧ ¬ nI n ≤ r ∧ ¬ c < 0 ∧ ¬ nI w ≤ c then 1 else 0))), a, h, 0, 0) := by
  unfold tabO at hk
  rw [en24]
  by_cases q1 : r < 0
  · simp only [e24_0, e24_1, e24_4, e24_5, e24_6, e24_9, e24_12, e24_13, e24_16, e24_17, e24_18, e24_21, e24_24, e24_25, e24_28, e24_29, hk, xgD0, xgD1, xgD2, xgD3, xgD4, xgD5, xgD6, xgD7, xgD8, xgD9, xgD10, xgD11, xgD12, xgD13, xpD0, xpD1, xpD2, xpD3, xpD4, xpD5, xpD6, xpD7, xpD8, xpD9, xpD10, xpD11, xpD12, xpD13, xcD_i, xrD_i, xlD_i, xdD_i, xlwD_i, xdwD_i, xback_s, xback_n, xcv_ok, k1i, k1r, k1n, k1k, Nat.reduceAdd, Nat.add_zero, Nat.zero_add, ↓reduceIte, not_true_eq_false, not_false_eq_true, and_true, true_and, and_false, false_and, or_true, true_or, or_false, false_or, Bool.false_eq_true, q1]
  by_cases q2 : nI n ≤ r
  · simp only [e24_0, e24_1, e24_4, e24_5, e24_6, e24_9, e24_12, e24_13, e24_16, e24_17, e24_18, e24_21, e24_24, e24_25, e24_28, e24_29, hk, xgD0, xgD1, xgD2, xgD3, xgD4, xgD5, xgD6, xgD7, xgD8, xgD9, xgD10, xgD11, xgD12, xgD13, xpD0, xpD1, xpD2, xpD3, xpD4, xpD5, xpD6, xpD7, xpD8, xpD9, xpD10, xpD11, xpD12, xpD13, xcD_i, xrD_i, xlD_i, xdD_i, xlwD_i, xdwD_i, xback_s, xback_n, xcv_ok, k1i, k1r, k1n, k1k, Nat.reduceAdd, Nat.add_zero, Nat.zero_add, ↓reduceIte, not_true_eq_false, not_false_eq_true, and_true, true_and, and_false, false_and, or_true, true_or, or_false, false_or, Bool.false_eq_true, q1, q2]
  by_cases q3 : c < 0
  · simp only [e24_0, e24_1, e24_4, e24_5, e24_6, e24_9, e24_12, e24_13, e24_16, e24_17, e24_18, e24_21, e24_24, e24_25, e24_28, e24_29, hk, xgD0, xgD1, xgD2, xgD3, xgD4, xgD5, xgD6, xgD7, xgD8, xgD9, xgD10, xgD11, xgD12, xgD13, xpD0, xpD1, xpD2, xpD3, xpD4, xpD5, xpD6, xpD7, xpD8, xpD9, xpD10, xpD11, xpD12, xpD13, xcD_i, xrD_i, xlD_i, xdD_i, xlwD_i, xdwD_i, xback_s, xback_n, xcv_ok, k1i, k1r, k1n, k1k, Nat.reduceAdd, Nat.add_zero, Nat.zero_add, ↓reduceIte, not_true_eq_false, not_false_eq_true, and_true, true_and, and_false, false_and, or_true, true_or, or_false, false_or, Bool.false_eq_true, q1, q2, q3]
  by_cases q4 : nI w ≤ c
  · simp only [e24_0, e24_1, e24_4, e24_5, e24_6, e24_9, e24_12, e24_13, e24_16, e24_17, e24_18, e24_21, e24_24, e24_25, e24_28, e24_29, hk, xgD0, xgD1, xgD2, xgD3, xgD4, xgD5, xgD6, xgD7, xgD8, xgD9, xgD10, xgD11, xgD12, xgD13, xpD0, xpD1, xpD2, xpD3, xpD4, xpD5, xpD6, xpD7, xpD8, xpD9, xpD10, xpD11, xpD12, xpD13, xcD_i, xrD_i, xlD_i, xdD_i, xlwD_i, xdwD_i, xback_s, xback_n, xcv_ok, k1i, k1r, k1n, k1k, Nat.reduceAdd, Nat.add_zero, Nat.zero_add, ↓reduceIte, not_true_eq_false, not_false_eq_true, and_true, true_and, and_false, false_and, or_true, true_or, or_false, false_or, Bool.false_eq_true, q1, q2, q3, q4]
  · simp only [e24_0, e24_1, e24_4, e24_5, e24_6, e24_9, e24_12, e24_13, e24_16, e24_17, e24_18, e24_21, e24_24, e24_25, e24_28, e24_29, hk, xgD0, xgD1, xgD2, xgD3, xgD4, xgD5, xgD6, xgD7, xgD8, xgD9, xgD10, xgD11, xgD12, xgD13, xpD0, xpD1, xpD2, xpD3, xpD4, xpD5, xpD6, xpD7, xpD8, xpD9, xpD10, xpD11, xpD12, xpD13, xcD_i, xrD_i, xlD_i, xdD_i, xlwD_i, xdwD_i, xback_s, xback_n, xcv_ok, k1i, k1r, k1n, k1k, Nat.reduceAdd, Nat.add_zero, Nat.zero_add, ↓reduceIte, not_true_eq_false, not_false_eq_true, and_true, true_and, and_false, false_and, or_true, true_or, or_false, false_or, Bool.false_eq_true, q1, q2, q3, q4]
theorem s_put {r c : Nat} {x : Int32} (hk : h k = tabO w k n) (hk1 : h (k + 1) = .inl (0, cap * w, .inl f)) (hr : r < n) (hc : c < w) (hn : n ≤ cap) (hb : cap * w ≤ 1000000) : CA (xPt t0) 23 [.ref k, .int (nI r), .int (nI c), .int x] a h = some (.inl none, a, hset h (k + 1) (.inl (0, cap * w, .inl (upd f (r * w + c) x))), 0, 0) := by
  have hlt := cell_lt (w := w) (Nat.lt_of_lt_of_le hr hn) hc
  have hw : w ≤ cap * w := wid_le (by omega)
  have hcap : cap ≤ cap * w := cap_le (by omega)
  have q1 : ¬ nI r < 0 := nI_pos (by omega)
  have q2 : ¬ nI n ≤ nI r := by rw [nI_le_eq (by omega) (by omega)]; omega
  have q3 : ¬ nI c < 0 := nI_pos (by omega)
  have q4 : ¬ nI w ≤ nI c := by rw [nI_le_eq (by omega) (by omega)]; omega
  have q5 : ¬ (1 : Int32) = 0 := by decide
  have hh := s_has (t0 := t0) (a := a) (r := nI r) (c := nI c) hk
  rw [if_pos ⟨q1, q2, q3, q4⟩] at hh
  unfold tabO at hk
  rw [en23]
  simp only [e23_0, e23_1, e23_2, e23_3, ex23_3, e23_6, e23_9, e23_10, e23_13, e23_14, e23_15, e23_18, e23_19, e23_20, e23_21, e23_22, e23_23, hk, hk1, xgD0, xgD1, xgD2, xgD3, xgD4, xgD5, xgD6, xgD7, xgD8, xgD9, xgD10, xgD11, xgD12, xgD13, xpD0, xpD1, xpD2, xpD3, xpD4, xpD5, xpD6, xpD7, xpD8, xpD9, xpD10, xpD11, xpD12, xpD13, xcD_i, xrD_i, xlD_i, xdD_i, xlwD_i, xdwD_i, xback_s, xback_n, xcv_ok, k1i, k1r, k1n, k1k, Nat.reduceAdd, Nat.add_zero, Nat.zero_add, ↓reduceIte, not_true_eq_false, not_false_eq_true, and_true, true_and, and_false, false_and, or_true, true_or, or_false, false_or, Bool.false_eq_true, hh, q5, pk_mul, nI_add, xwD_i hlt hb]
theorem s_add (hk : h k = tabO w k n) (hk1 : h (k + 1) = .inl (0, cap * w, .inl f)) (hn : n < cap) (hw0 : 0 < w) (hb : cap * w ≤ 1000000) : CA (xPt t0) 22 [.ref k] a h = some (.inl (some (.int (nI n))), a, hset h k (tabO w k (n + 1)), 0, 0) := by
  have hcap : cap ≤ cap * w := cap_le hw0
  have hle : (n + 1) * w ≤ cap * w := Nat.mul_le_mul_right w hn
  have q1 : nI ((n + 1) * w) ≤ nI (cap * w) := by rw [nI_le_eq (by omega) (by omega)]; exact hle
  have e1 : nI (n + 1) - 1 = nI n := nI_pred n
  unfold tabO at hk
  rw [en22]
  simp only [e22_0, e22_1, e22_4, e22_5, e22_6, e22_7, e22_10, e22_11, e22_12, e22_15, e22_16, e22_19, e22_20, e22_21, e22_22, e22_23, e22_26, e22_27, e22_28, e22_31, e22_32, e22_35, e22_36, e22_37, hk, hk1, xgD0, xgD1, xgD2, xgD3, xgD4, xgD5, xgD6, xgD7, xgD8, xgD9, xgD10, xgD11, xgD12, xgD13, xpD0, xpD1, xpD2, xpD3, xpD4, xpD5, xpD6, xpD7, xpD8, xpD9, xpD10, xpD11, xpD12, xpD13, xcD_i, xrD_i, xlD_i, xdD_i, xlwD_i, xdwD_i, xback_s, xback_n, xcv_ok, k1i, k1r, k1n, k1k, Nat.reduceAdd, Nat.add_zero, Nat.zero_add, ↓reduceIte, not_true_eq_false, not_false_eq_true, and_true, true_and, and_false, false_and, or_true, true_or, or_false, false_or, Bool.false_eq_true, xnD_i (show 0 < 6 by decide), nI_1, pk_mul, if_pos q1, xgD0, xgD1, xgD2, xgD3, xgD4, xgD5, xgD6, xgD7, xgD8, xgD9, xgD10, xgD11, xgD12, xgD13, xpD0, xpD1, xpD2, xpD3, xpD4, xpD5, xpD6, xpD7, xpD8, xpD9, xpD10, xpD11, xpD12, xpD13, xcD_i, xrD_i, xlD_i, xdD_i, xlwD_i, xdwD_i, xback_s, xback_n, xcv_ok, k1i, k1r, k1n, k1k, Nat.reduceAdd, Nat.add_zero, Nat.zero_add, ↓reduceIte, not_true_eq_false, not_false_eq_true, and_true, true_and, and_false, false_and, or_true, true_or, or_false, false_or, Bool.false_eq_true, hset_s, e1]
theorem s_clear (hk : h k = tabO w k n) : CA (xPt t0) 13 [.ref k] a h = some (.inl none, a, hset h k (tabO w k 0), 0, 0) := by
  unfold tabO at hk
  rw [en13]
  simp only [e13_0, e13_1, e13_2, e13_5, hk, xgD0, xgD1, xgD2, xgD3, xgD4, xgD5, xgD6, xgD7, xgD8, xgD9, xgD10, xgD11, xgD12, xgD13, xpD0, xpD1, xpD2, xpD3, xpD4, xpD5, xpD6, xpD7, xpD8, xpD9, xpD10, xpD11, xpD12, xpD13, xcD_i, xrD_i, xlD_i, xdD_i, xlwD_i, xdwD_i, xback_s, xback_n, xcv_ok, k1i, k1r, k1n, k1k, Nat.reduceAdd, Nat.add_zero, Nat.zero_add, ↓reduceIte, not_true_eq_false, not_false_eq_true, and_true, true_and, and_false, false_and, or_true, true_or, or_false, false_or, Bool.false_eq_true]
  rfl
theorem s_remove {r : Nat} (hk : h k = tabO w k n) (hk1 : h (k + 1) = .inl (0, cap * w, .inl f)) (hr : r < n) (hn : n ≤ cap) (hw0 : 0 < w) (hb : cap * w ≤ 1000000) : CA (xPt t0) 43 [.ref k, .int (nI r)] a h = some (.inl none, a, hset (hset h (k + 1) (.inl (0, cap * w, .inl (va_cpy f f ((r + 1) * w) (r * w) ((n - r - 1) * w))))) k (tabO w k (n - 1)), 0, 0) := by
  have hcap : cap ≤ cap * w := cap_le hw0
  have q1 : ¬ nI r < 0 := nI_pos (by omega)
  have q2 : nI r < nI n := nI_lt hr (by omega)
  have e1 : nI n - nI r = nI (n - r) := pk_sub (by omega)
  have e2 : nI (n - r) - 1 = nI (n - r - 1) := by
    have := nI_pred (n - r - 1)
    rwa [show n - r - 1 + 1 = n - r by omega] at this
  have e3 : nI n - 1 = nI (n - 1) := by
    have := nI_pred (n - 1)
    rwa [show n - 1 + 1 = n by omega] at this
  have m1 : (r + 1) * w + (n - r - 1) * w ≤ cap * w := by
    rw [← Nat.add_mul]
    exact Nat.mul_le_mul_right w (by omega)
  have m2 : r * w + (n - r - 1) * w ≤ cap * w := by
    rw [← Nat.add_mul]
    exact Nat.mul_le_mul_right w (by omega)
  have hne : k ≠ k + 1 := by omega
  unfold tabO at hk
  rw [en43]
  simp only [e43_0, e43_1, e43_4, e43_5, e43_6, e43_9, e43_12, e43_13, e43_14, e43_17, e43_18, e43_19, e43_20, e43_21, e43_24, e43_25, e43_26, e43_29, e43_30, e43_31, e43_34, e43_35, e43_36, e43_39, e43_40, e43_41, e43_42, e43_43, e43_44, e43_47, e43_48, e43_51, e43_52, e43_53, e43_56, e43_57, e43_58, e43_61, hk, hk1, xgD0, xgD1, xgD2, xgD3, xgD4, xgD5, xgD6, xgD7, xgD8, xgD9, xgD10, xgD11, xgD12, xgD13, xpD0, xpD1, xpD2, xpD3, xpD4, xpD5, xpD6, xpD7, xpD8, xpD9, xpD10, xpD11, xpD12, xpD13, xcD_i, xrD_i, xlD_i, xdD_i, xlwD_i, xdwD_i, xback_s, xback_n, xcv_ok, k1i, k1r, k1n, k1k, Nat.reduceAdd, Nat.add_zero, Nat.zero_add, ↓reduceIte, not_true_eq_false, not_false_eq_true, and_true, true_and, and_false, false_and, or_true, true_or, or_false, false_or, Bool.false_eq_true, if_neg q1, if_pos q2, nI_1, e1, e2, pk_mul, xcD_i (Or.inl rfl) m1 m2 hb hb, hset_n hne, e3, xgD0, xgD1, xgD2, xgD3, xgD4, xgD5, xgD6, xgD7, xgD8, xgD9, xgD10, xgD11, xgD12, xgD13, xpD0, xpD1, xpD2, xpD3, xpD4, xpD5, xpD6, xpD7, xpD8, xpD9, xpD10, xpD11, xpD12, xpD13, xcD_i, xrD_i, xlD_i, xdD_i, xlwD_i, xdwD_i, xback_s, xback_n, xcv_ok, k1i, k1r, k1n, k1k, Nat.reduceAdd, Nat.add_zero, Nat.zero_add, ↓reduceIte, not_true_eq_false, not_false_eq_true, and_true, true_and, and_false, false_and, or_true, true_or, or_false, false_or, Bool.false_eq_true]
theorem s_sum {c : Nat} (hk : h k = tabO w k n) (hk1 : h (k + 1) = .inl (0, cap * w, .inl f)) (hc : c < w) (hn : n ≤ cap) (hb : cap * w ≤ 1000000) : CA (xPt t0) 145 [.ref k, .int (nI c)] a h = some (.inl (some (.int (fo (fun i s => s + f (i * w + c)) n 0))), a, h, 0, 0) := by
  have hcap : cap ≤ cap * w := cap_le (by omega)
  have hk0 := hk
  unfold tabO at hk
  rw [en145]
  simp only [e145_0, e145_1, e145_2, e145_3, e145_5, e145_6, e145_9, e145_12, e145_13, e145_14, e145_15, e145_16, ex145_16, e145_19, e145_20, e145_21, e145_24, e145_27, e145_28, k1i, k1n]
  have loop := fo_loop (fun (i : Nat) (s : Int32) => XR (xPt t0) 145 4 [some (.ref k), some (.int (nI c)), some (.int s), some (.int (nI i))] [] (a, h, 0, 0)) (fun i s => s + f (i * w + c)) n 0 (fun i s hi => by
    have q1 : ¬ nI n ≤ nI i := by rw [nI_le_eq (by omega) (by omega)]; omega
    rw [e145_4]
    simp only [e145_0, e145_1, e145_2, e145_3, e145_5, e145_6, e145_9, e145_12, e145_13, e145_14, e145_15, e145_16, ex145_16, e145_19, e145_20, e145_21, e145_24, e145_27, e145_28, hk, xgD0, xgD1, xgD2, xgD3, xgD4, xgD5, xgD6, xgD7, xgD8, xgD9, xgD10, xgD11, xgD12, xgD13, xpD0, xpD1, xpD2, xpD3, xpD4, xpD5, xpD6, xpD7, xpD8, xpD9, xpD10, xpD11, xpD12, xpD13, xcD_i, xrD_i, xlD_i, xdD_i, xlwD_i, xdwD_i, xback_s, xback_n, xcv_ok, k1i, k1r, k1n, k1k, Nat.reduceAdd, Nat.add_zero, Nat.zero_add, ↓reduceIte, not_true_eq_false, not_false_eq_true, and_true, true_and, and_false, false_and, or_true, true_or, or_false, false_or, Bool.false_eq_true, if_neg q1, xcv_ok, s_at hk0 hk1 hi hc hn hb, xgD0, xgD1, xgD2, xgD3, xgD4, xgD5, xgD6, xgD7, xgD8, xgD9, xgD10, xgD11, xgD12, xgD13, xpD0, xpD1, xpD2, xpD3, xpD4, xpD5, xpD6, xpD7, xpD8, xpD9, xpD10, xpD11, xpD12, xpD13, xcD_i, xrD_i, xlD_i, xdD_i, xlwD_i, xdwD_i, xback_s, xback_n, xcv_ok, k1i, k1r, k1n, k1k, Nat.reduceAdd, Nat.add_zero, Nat.zero_add, ↓reduceIte, not_true_eq_false, not_false_eq_true, and_true, true_and, and_false, false_and, or_true, true_or, or_false, false_or, Bool.false_eq_true, nI_1, k1i])
  refine Eq.trans loop ?_
  have q2 : nI n ≤ nI n := Int32.le_refl _
  rw [e145_4]
  simp only [e145_0, e145_1, e145_2, e145_3, e145_5, e145_6, e145_9, e145_12, e145_13, e145_14, e145_15, e145_16, ex145_16, e145_19, e145_20, e145_21, e145_24, e145_27, e145_28, hk, xgD0, xgD1, xgD2, xgD3, xgD4, xgD5, xgD6, xgD7, xgD8, xgD9, xgD10, xgD11, xgD12, xgD13, xpD0, xpD1, xpD2, xpD3, xpD4, xpD5, xpD6, xpD7, xpD8, xpD9, xpD10, xpD11, xpD12, xpD13, xcD_i, xrD_i, xlD_i, xdD_i, xlwD_i, xdwD_i, xback_s, xback_n, xcv_ok, k1i, k1r, k1n, k1k, Nat.reduceAdd, Nat.add_zero, Nat.zero_add, ↓reduceIte, not_true_eq_false, not_false_eq_true, and_true, true_and, and_false, false_and, or_true, true_or, or_false, false_or, Bool.false_eq_true, if_pos q2]
end TAB
