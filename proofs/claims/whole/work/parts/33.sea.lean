/-! Seating: states and owners of 6 * 96 cells -/
theorem hset_hset {h : xHp} {k : Nat} {e e' : xE} : hset (hset h k e) k e' = hset h k e' := by
  funext j
  unfold hset
  by_cases hj : j = k
  · rw [if_pos hj, if_pos hj]
  · rw [if_neg hj, if_neg hj, if_neg hj]
theorem hset_comm {h : xHp} {k k' : Nat} {e e' : xE} (hk : k ≠ k') : hset (hset h k e) k' e' = hset (hset h k' e') k e := by
  funext j
  unfold hset
  by_cases h1 : j = k
  · have h2 : ¬ j = k' := fun z => hk (h1.symm.trans z)
    rw [if_neg h2, if_pos h1, if_pos h1]
  · rw [if_neg h1]
    by_cases h2 : j = k'
    · rw [if_pos h2, if_neg h1]
    · rw [if_neg h2, if_neg h1]
theorem hset_self {h : xHp} {k : Nat} {e : xE} (hk : h k = e) : hset h k e = h := by
  funext j
  unfold hset
  by_cases hj : j = k
  · rw [if_pos hj, hj, hk]
  · rw [if_neg hj]
def sea2 (h : xHp) (k : Nat) (st ow : Nat → Int32) : xHp := hset (hset h (k + 1) (arI 576 st)) (k + 2) (arI 576 ow)
section SEA
variable {t0 k : Nat} {st ow : Nat → Int32} {a : Nat × Bool} {h : xHp}
theorem sea2_0 : sea2 h k st ow k = h k := by
  unfold sea2
  rw [hset_n (by omega), hset_n (by omega)]
theorem sea2_1 : sea2 h k st ow (k + 1) = arI 576 st := by
  unfold sea2
  rw [hset_n (by omega), hset_s]
theorem sea2_2 : sea2 h k st ow (k + 2) = arI 576 ow := by
  unfold sea2
  rw [hset_s]
theorem sea2_sea2 {st' ow' : Nat → Int32} : sea2 (sea2 h k st ow) k st' ow' = sea2 h k st' ow' := by
  unfold sea2
  rw [hset_comm (k := k + 2) (k' := k + 1) (by omega), hset_hset, hset_hset]
theorem sea2_self (h1 : h (k + 1) = arI 576 st) (h2 : h (k + 2) = arI 576 ow) : sea2 h k st ow = h := by
  unfold sea2
  rw [hset_self h1, hset_self h2]
theorem s_cellOf {p r c : Nat} (hp : p < 6) (hr : r < 8) (hc : c < 12) : CA (xPt t0) 35 [.int (nI p), .int (nI r), .int (nI c)] a h = some (.inl (some (.int (nI (p * 96 + r * 12 + c)))), a, h, 0, 0) := by
  have q1 : ¬ nI p < 0 := nI_pos (by omega)
  have q2 : ¬ (6 : Int32) ≤ nI p := nI_ge (b := 6) hp (by decide)
  have q3 : ¬ nI r < 0 := nI_pos (by omega)
  have q4 : ¬ (8 : Int32) ≤ nI r := nI_ge (b := 8) hr (by decide)
  have q5 : ¬ nI c < 0 := nI_pos (by omega)
  have q6 : nI c < (12 : Int32) := nI_lt (b := 12) hc (by decide)
  have e1 : nI p * (96 : Int32) = nI (p * 96) := pk_mul p 96
  have e2 : nI r * (12 : Int32) = nI (r * 12) := pk_mul r 12
  rw [en35]
  simp only [e35_0, e35_1, e35_4, e35_5, e35_7, e35_10, e35_11, e35_14, e35_15, e35_17, e35_20, e35_21, e35_24, e35_25, e35_27, e35_30, e35_31, e35_32, e35_33, e35_35, e35_36, e35_37, e35_39, e35_40, e35_41, e35_42, e35_43, if_neg q1, if_neg q2, if_neg q3, if_neg q4, if_neg q5, if_pos q6, e1, e2, nI_add]
theorem cell576 {p r c : Nat} (hp : p < 6) (hr : r < 8) (hc : c < 12) : p * 96 + r * 12 + c < 576 := by omega
theorem s_stateOf {p r c : Nat} (hk : h k = seaO k) (h1 : h (k + 1) = arI 576 st) (hp : p < 6) (hr : r < 8) (hc : c < 12) : CA (xPt t0) 98 [.ref k, .int (nI p), .int (nI r), .int (nI c)] a h = some (.inl (some (.int (st (p * 96 + r * 12 + c)))), a, h, 0, 0) := by
  have hl := cell576 hp hr hc
  have q1 : (0 : Int32) ≤ nI (p * 96 + r * 12 + c) := nI_pos' (by omega)
  unfold seaO at hk
  unfold arI at h1
  rw [en98]
  simp only [e98_0, e98_1, e98_2, e98_3, e98_6, e98_8, e98_10, e98_13, e98_14, e98_17, e98_18, e98_21, e98_23, e98_24, hk, h1, xgD0, xgD1, xgD2, xgD3, xgD4, xgD5, xgD6, xgD7, xgD8, xgD9, xgD10, xgD11, xgD12, xgD13, xpD0, xpD1, xpD2, xpD3, xpD4, xpD5, xpD6, xpD7, xpD8, xpD9, xpD10, xpD11, xpD12, xpD13, xcD_i, xrD_i, xlD_i, xdD_i, xlwD_i, xdwD_i, xback_s, xback_n, xcv_ok, k1i, k1r, k1n, k1k, Nat.reduceAdd, Nat.add_zero, Nat.zero_add, ↓reduceIte, not_true_eq_false, not_false_eq_true, and_true, true_and, and_false, false_and, or_true, true_or, or_false, false_or, Bool.false_eq_true, s_cellOf hp hr hc, xgD0, xgD1, xgD2, xgD3, xgD4, xgD5, xgD6, xgD7, xgD8, xgD9, xgD10, xgD11, xgD12, xgD13, xpD0, xpD1, xpD2, xpD3, xpD4, xpD5, xpD6, xpD7, xpD8, xpD9, xpD10, xpD11, xpD12, xpD13, xcD_i, xrD_i, xlD_i, xdD_i, xlwD_i, xdwD_i, xback_s, xback_n, xcv_ok, k1i, k1r, k1n, k1k, Nat.reduceAdd, Nat.add_zero, Nat.zero_add, ↓reduceIte, not_true_eq_false, not_false_eq_true, and_true, true_and, and_false, false_and, or_true, true_or, or_false, false_or, Bool.false_eq_true, if_pos q1, xiD_i hl (by decide), k1i, k1n, k1r, Nat.add_zero]
theorem s_ownerOf {p r c : Nat} (hk : h k = seaO k) (h2 : h (k + 2) = arI 576 ow) (hp : p < 6) (hr : r < 8) (hc : c < 12) : CA (xPt t0) 103 [.ref k, .int (nI p), .int (nI r), .int (nI c)] a h = some (.inl (some (.int (ow (p * 96 + r * 12 + c)))), a, h, 0, 0) := by
  have hl := cell576 hp hr hc
  have q1 : (0 : Int32) ≤ nI (p * 96 + r * 12 + c) := nI_pos' (by omega)
  unfold seaO at hk
  unfold arI at h2
  rw [en103]
  simp only [e103_0, e103_1, e103_2, e103_3, e103_6, e103_8, e103_10, e103_13, e103_14, e103_17, e103_18, e103_21, e103_23, e103_24, hk, h2, xgD0, xgD1, xgD2, xgD3, xgD4, xgD5, xgD6, xgD7, xgD8, xgD9, xgD10, xgD11, xgD12, xgD13, xpD0, xpD1, xpD2, xpD3, xpD4, xpD5, xpD6, xpD7, xpD8, xpD9, xpD10, xpD11, xpD12, xpD13, xcD_i, xrD_i, xlD_i, xdD_i, xlwD_i, xdwD_i, xback_s, xback_n, xcv_ok, k1i, k1r, k1n, k1k, Nat.reduceAdd, Nat.add_zero, Nat.zero_add, ↓reduceIte, not_true_eq_false, not_false_eq_true, and_true, true_and, and_false, false_and, or_true, true_or, or_false, false_or, Bool.false_eq_true, s_cellOf hp hr hc, xgD0, xgD1, xgD2, xgD3, xgD4, xgD5, xgD6, xgD7, xgD8, xgD9, xgD10, xgD11, xgD12, xgD13, xpD0, xpD1, xpD2, xpD3, xpD4, xpD5, xpD6, xpD7, xpD8, xpD9, xpD10, xpD11, xpD12, xpD13, xcD_i, xrD_i, xlD_i, xdD_i, xlwD_i, xdwD_i, xback_s, xback_n, xcv_ok, k1i, k1r, k1n, k1k, Nat.reduceAdd, Nat.add_zero, Nat.zero_add, ↓reduceIte, not_true_eq_false, not_false_eq_true, and_true, true_and, and_false, false_and, or_true, true_or, or_false, false_or, Bool.false_eq_true, if_pos q1, xiD_i hl (by decide), k1i, k1n, k1r, Nat.add_zero]
theorem s_seaPut {p r c : Nat} {x y : Int32} (hk : h k = seaO k) (hp : p < 6) (hr : r < 8) (hc : c < 12) : CA (xPt t0) 34 [.ref k, .int (nI p), .int (nI r), .int (nI c), .int x, .int y] a (sea2 h k st ow) = some (.inl none, a, sea2 h k (upd st (p * 96 + r * 12 + c) x) (upd ow (p * 96 + r * 12 + c) y), 0, 0) := by
  have hl := cell576 hp hr hc
  have q1 : ¬ nI (p * 96 + r * 12 + c) < 0 := nI_pos (by omega)
  have g0 : sea2 h k st ow k = seaO k := sea2_0.trans hk
  have g1 := sea2_1 (h := h) (k := k) (st := st) (ow := ow)
  have g2 := sea2_2 (h := h) (k := k) (st := st) (ow := ow)
  have n0 : k ≠ k + 1 := by omega
  have n2 : k + 2 ≠ k + 1 := by omega
  unfold seaO at g0
  unfold arI at g1 g2
  rw [en34]
  simp only [e34_0, e34_1, e34_2, e34_3, e34_6, e34_8, e34_10, e34_13, e34_14, e34_17, e34_19, e34_21, e34_22, e34_23, e34_26, e34_28, e34_30, e34_31, g0, g1, g2, xgD0, xgD1, xgD2, xgD3, xgD4, xgD5, xgD6, xgD7, xgD8, xgD9, xgD10, xgD11, xgD12, xgD13, xpD0, xpD1, xpD2, xpD3, xpD4, xpD5, xpD6, xpD7, xpD8, xpD9, xpD10, xpD11, xpD12, xpD13, xcD_i, xrD_i, xlD_i, xdD_i, xlwD_i, xdwD_i, xback_s, xback_n, xcv_ok, k1i, k1r, k1n, k1k, Nat.reduceAdd, Nat.add_zero, Nat.zero_add, ↓reduceIte, not_true_eq_false, not_false_eq_true, and_true, true_and, and_false, false_and, or_true, true_or, or_false, false_or, Bool.false_eq_true, s_cellOf hp hr hc, xgD0, xgD1, xgD2, xgD3, xgD4, xgD5, xgD6, xgD7, xgD8, xgD9, xgD10, xgD11, xgD12, xgD13, xpD0, xpD1, xpD2, xpD3, xpD4, xpD5, xpD6, xpD7, xpD8, xpD9, xpD10, xpD11, xpD12, xpD13, xcD_i, xrD_i, xlD_i, xdD_i, xlwD_i, xdwD_i, xback_s, xback_n, xcv_ok, k1i, k1r, k1n, k1k, Nat.reduceAdd, Nat.add_zero, Nat.zero_add, ↓reduceIte, not_true_eq_false, not_false_eq_true, and_true, true_and, and_false, false_and, or_true, true_or, or_false, false_or, Bool.false_eq_true, if_neg q1, xwD_i hl (by decide), k1i, k1n, k1r, Nat.add_zero, hset_n n0, hset_n n2]
  have e := sea2_sea2 (h := h) (k := k) (st := st) (ow := ow) (st' := upd st (p * 96 + r * 12 + c) x) (ow' := upd ow (p * 96 + r * 12 + c) y)
  rw [← e]
  rfl
theorem bit_fact : ∀ S, S < 64 → ∀ p, p < 6 → (decide (((nI S) >>> ((nI p) &&& 31)) &&& 1 = 1) = S.testBit p) := by decide +kernel
theorem s_contains {S p : Nat} (hS : S < 64) (hp : p < 6) : CA (xPt t0) 42 [.int (nI S), .int (nI p)] a h = some (.inl (some (.int (if S.testBit p = true then 1 else 0))), a, h, 0, 0) := by
  have hb := bit_fact S hS p hp
  rw [en42]
  by_cases q : ((nI S) >>> ((nI p) &&& 31)) &&& 1 = 1
  · rw [decide_eq_true q] at hb
    rw [← hb]
    simp only [e42_0, e42_1, e42_2, e42_3, e42_4, e42_5, e42_6, e42_9, e42_10, e42_13, e42_14, if_pos q, true_or, or_true, if_true]
  · rw [decide_eq_false q] at hb
    rw [← hb]
    simp only [e42_0, e42_1, e42_2, e42_3, e42_4, e42_5, e42_6, e42_9, e42_10, e42_13, e42_14, if_neg q, true_or, or_true, if_false, Bool.false_eq_true]
end SEA
