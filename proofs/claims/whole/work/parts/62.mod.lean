/-! the reference at y: its five cells as one value -/
abbrev Md : Type := (Nat → Int32) × (Nat → Int32) × (Nat → Int32) × (Nat → Int32) × Int32 × Int32 × Nat × Int32 × Nat × Int32 × Int32 × Int32 × Int32 × Int32
def modC (m : Md) (y i : Nat) : xE := match m with
  | (mf, mg, mv, mi, th, re, pm, iz, ty, ea, mr, mc, br, bc) => match i with
    | 0 => .inr (6, [.int th, .int re, .ref (y + 1), .ref (y + 2), .int (nI pm), .ref (y + 3), .int iz, .ref (y + 4), .int (nI ty), .int ea, .int mr, .int mc, .int br, .int bc])
    | 1 => arI 2015 mf
    | 2 => arI 16120 mg
    | 3 => arI 2015 mv
    | _ => .inl (1, 103, .inl mi)
def putMod (h : xHp) (y : Nat) (m : Md) : xHp := fun j => if y ≤ j ∧ j < y + 5 then modC m y (j - y) else h j
section MOD
variable {t0 y : Nat} {a : Nat × Bool} {h : xHp} {mf mg mv mi : Nat → Int32} {th re iz ea mr mc br bc : Int32} {pm ty : Nat}
theorem putMod_at {m : Md} {i : Nat} (hi : i < 5) : putMod h y m (y + i) = modC m y i := by
  unfold putMod
  rw [if_pos ⟨by omega, by omega⟩, Nat.add_sub_cancel_left]
theorem putMod_out {m : Md} {j : Nat} (hj : ¬ (y ≤ j ∧ j < y + 5)) : putMod h y m j = h j := if_neg hj
theorem putMod_set {m m' : Md} {i : Nat} {e : xE} (hi : i < 5) (he : ∀ j, j < 5 → modC m' y j = if j = i then e else modC m y j) : hset (putMod h y m) (y + i) e = putMod h y m' := by
  funext j
  by_cases hj : y ≤ j ∧ j < y + 5
  · have h1 := he (j - y) (by omega)
    unfold hset putMod
    rw [if_pos hj, if_pos hj, h1]
    by_cases hji : j = y + i
    · rw [if_pos hji, if_pos (by omega)]
    · rw [if_neg hji, if_neg (by omega)]
  · unfold hset putMod
    rw [if_neg hj, if_neg hj, if_neg (by omega)]
theorem putMod_self {m : Md} (hh : ∀ i, i < 5 → h (y + i) = modC m y i) : putMod h y m = h := by
  funext j
  by_cases hj : y ≤ j ∧ j < y + 5
  · have h1 := hh (j - y) (by omega)
    unfold putMod
    rw [if_pos hj, ← h1, show y + (j - y) = j by omega]
  · exact putMod_out hj
theorem cases5 {p : Nat → Prop} (h0 : p 0) (h1 : p 1) (h2 : p 2) (h3 : p 3) (h4 : p 4) : ∀ j, j < 5 → p j := by
  intro j hj
  match j, hj with
  | 0, _ => exact h0
  | 1, _ => exact h1
  | 2, _ => exact h2
  | 3, _ => exact h3
  | 4, _ => exact h4
  | j + 5, h => exact absurd h (by omega)
theorem mo0 : (putMod h y (mf, mg, mv, mi, th, re, pm, iz, ty, ea, mr, mc, br, bc)) y = .inr (6, [.int th, .int re, .ref (y + 1), .ref (y + 2), .int (nI pm), .ref (y + 3), .int iz, .ref (y + 4), .int (nI ty), .int ea, .int mr, .int mc, .int br, .int bc]) := putMod_at (i := 0) (by decide)
theorem mo1 : (putMod h y (mf, mg, mv, mi, th, re, pm, iz, ty, ea, mr, mc, br, bc)) (y + 1) = arI 2015 mf := putMod_at (i := 1) (by decide)
theorem mo2 : (putMod h y (mf, mg, mv, mi, th, re, pm, iz, ty, ea, mr, mc, br, bc)) (y + 2) = arI 16120 mg := putMod_at (i := 2) (by decide)
theorem mo3 : (putMod h y (mf, mg, mv, mi, th, re, pm, iz, ty, ea, mr, mc, br, bc)) (y + 3) = arI 2015 mv := putMod_at (i := 3) (by decide)
theorem mo4 : (putMod h y (mf, mg, mv, mi, th, re, pm, iz, ty, ea, mr, mc, br, bc)) (y + 4) = .inl (1, 103, .inl mi) := putMod_at (i := 4) (by decide)
theorem um0 {th' re' iz' ea' mr' mc' br' bc' : Int32} {pm' ty' : Nat} : hset (putMod h y (mf, mg, mv, mi, th, re, pm, iz, ty, ea, mr, mc, br, bc)) y (.inr (6, [.int th', .int re', .ref (y + 1), .ref (y + 2), .int (nI pm'), .ref (y + 3), .int iz', .ref (y + 4), .int (nI ty'), .int ea', .int mr', .int mc', .int br', .int bc'])) = (putMod h y (mf, mg, mv, mi, th', re', pm', iz', ty', ea', mr', mc', br', bc')) := putMod_set (i := 0) (by decide) (cases5 rfl rfl rfl rfl rfl)
theorem um1 {f : Nat → Int32} : hset (putMod h y (mf, mg, mv, mi, th, re, pm, iz, ty, ea, mr, mc, br, bc)) (y + 1) (arI 2015 f) = (putMod h y (f, mg, mv, mi, th, re, pm, iz, ty, ea, mr, mc, br, bc)) := putMod_set (i := 1) (by decide) (cases5 rfl rfl rfl rfl rfl)
theorem um2 {f : Nat → Int32} : hset (putMod h y (mf, mg, mv, mi, th, re, pm, iz, ty, ea, mr, mc, br, bc)) (y + 2) (arI 16120 f) = (putMod h y (mf, f, mv, mi, th, re, pm, iz, ty, ea, mr, mc, br, bc)) := putMod_set (i := 2) (by decide) (cases5 rfl rfl rfl rfl rfl)
theorem um3 {f : Nat → Int32} : hset (putMod h y (mf, mg, mv, mi, th, re, pm, iz, ty, ea, mr, mc, br, bc)) (y + 3) (arI 2015 f) = (putMod h y (mf, mg, f, mi, th, re, pm, iz, ty, ea, mr, mc, br, bc)) := putMod_set (i := 3) (by decide) (cases5 rfl rfl rfl rfl rfl)
theorem um4 {f : Nat → Int32} : hset (putMod h y (mf, mg, mv, mi, th, re, pm, iz, ty, ea, mr, mc, br, bc)) (y + 4) (.inl (1, 103, .inl f)) = (putMod h y (mf, mg, mv, f, th, re, pm, iz, ty, ea, mr, mc, br, bc)) := putMod_set (i := 4) (by decide) (cases5 rfl rfl rfl rfl rfl)
theorem isIn_lt {v : Int32} {n : Nat} (h1 : 1 ≤ n) (hn : n < 2 ^ 31) : (nI 0 ≤ v ∧ v ≤ nI (n - 1)) ↔ (¬ v < nI 0 ∧ ¬ nI n ≤ v) := by
  constructor
  · rintro ⟨p1, p2⟩
    refine ⟨Int32.not_lt.mpr p1, fun q => ?_⟩
    obtain ⟨j, hj, rfl⟩ := nI_of (Int32.not_lt.mpr p1)
    rw [nI_leI (by omega) (by omega)] at p2 q
    omega
  · rintro ⟨p1, p2⟩
    refine ⟨Int32.not_lt.mp p1, ?_⟩
    obtain ⟨j, hj, rfl⟩ := nI_of p1
    rw [nI_leI (by omega) (by omega)] at p2 ⊢
    omega
theorem m_isInT {v lo hi : Int32} (h1 : lo ≤ v) (h2 : v ≤ hi) : CA (xPt t0) 158 [.int v, .int lo, .int hi] a h = some (.inl (some (.int (nI 1))), a, h, 0, 0) := by
  have q1 : ¬ v < lo := Int32.not_lt.mpr h1
  have q2 : ¬ hi < v := Int32.not_lt.mpr h2
  rw [en158]
  simp (disch := first | exact bz1 | exact bz0 | omega | exact nI_ne0 (by omega) (by omega) | exact bzi) only [xgD0, xgD1, xgD2, xgD3, xgD4, xgD5, xgD6, xgD7, xgD8, xgD9, xgD10, xgD11, xgD12, xgD13, xpD0, xpD1, xpD2, xpD3, xpD4, xpD5, xpD6, xpD7, xpD8, xpD9, xpD10, xpD11, xpD12, xpD13, xcD_i, xrD_i, xlD_i, xdD_i, xlwD_i, xdwD_i, xback_s, xback_n, xcv_ok, k1i, k1r, k1n, k1k, Nat.reduceAdd, Nat.add_zero, Nat.zero_add, ↓reduceIte, not_true_eq_false, not_false_eq_true, and_true, true_and, and_false, false_and, or_true, true_or, or_false, false_or, Bool.false_eq_true, nI_lit, nI_add, pk_mul, nI_sub, nI_lt_eq, nI_le_eq, nI_eq_eq, nle_T, nle_F, nlt_T, nlt_F, neq_T, neq_F, xiD_i, xiD_k, xwD_i, xnD_i, e158_0, e158_1, e158_2, e158_5, e158_6, e158_7, e158_10, e158_11, e158_14, e158_15, q1, q2, h1, h2]
theorem m_isInF {v lo hi : Int32} (h1 : v < lo ∨ hi < v) : CA (xPt t0) 158 [.int v, .int lo, .int hi] a h = some (.inl (some (.int (nI 0))), a, h, 0, 0) := by
  rw [en158]
  by_cases q1 : v < lo
  · have q3 : ¬ lo ≤ v := Int32.not_le.mpr q1
    simp (disch := first | exact bz1 | exact bz0 | omega | exact nI_ne0 (by omega) (by omega) | exact bzi) only [xgD0, xgD1, xgD2, xgD3, xgD4, xgD5, xgD6, xgD7, xgD8, xgD9, xgD10, xgD11, xgD12, xgD13, xpD0, xpD1, xpD2, xpD3, xpD4, xpD5, xpD6, xpD7, xpD8, xpD9, xpD10, xpD11, xpD12, xpD13, xcD_i, xrD_i, xlD_i, xdD_i, xlwD_i, xdwD_i, xback_s, xback_n, xcv_ok, k1i, k1r, k1n, k1k, Nat.reduceAdd, Nat.add_zero, Nat.zero_add, ↓reduceIte, not_true_eq_false, not_false_eq_true, and_true, true_and, and_false, false_and, or_true, true_or, or_false, false_or, Bool.false_eq_true, nI_lit, nI_add, pk_mul, nI_sub, nI_lt_eq, nI_le_eq, nI_eq_eq, nle_T, nle_F, nlt_T, nlt_F, neq_T, neq_F, xiD_i, xiD_k, xwD_i, xnD_i, e158_0, e158_1, e158_2, e158_5, e158_6, e158_7, e158_10, e158_11, e158_14, e158_15, q1, q3]
  · have q2 := h1.resolve_left q1
    have q3 : lo ≤ v := Int32.not_lt.mp q1
    have q4 : ¬ v ≤ hi := Int32.not_le.mpr q2
    simp (disch := first | exact bz1 | exact bz0 | omega | exact nI_ne0 (by omega) (by omega) | exact bzi) only [xgD0, xgD1, xgD2, xgD3, xgD4, xgD5, xgD6, xgD7, xgD8, xgD9, xgD10, xgD11, xgD12, xgD13, xpD0, xpD1, xpD2, xpD3, xpD4, xpD5, xpD6, xpD7, xpD8, xpD9, xpD10, xpD11, xpD12, xpD13, xcD_i, xrD_i, xlD_i, xdD_i, xlwD_i, xdwD_i, xback_s, xback_n, xcv_ok, k1i, k1r, k1n, k1k, Nat.reduceAdd, Nat.add_zero, Nat.zero_add, ↓reduceIte, not_true_eq_false, not_false_eq_true, and_true, true_and, and_false, false_and, or_true, true_or, or_false, false_or, Bool.false_eq_true, nI_lit, nI_add, pk_mul, nI_sub, nI_lt_eq, nI_le_eq, nI_eq_eq, nle_T, nle_F, nlt_T, nlt_F, neq_T, neq_F, xiD_i, xiD_k, xwD_i, xnD_i, e158_0, e158_1, e158_2, e158_5, e158_6, e158_7, e158_10, e158_11, e158_14, e158_15, q1, q2, q3, q4]
theorem m_isInN {v lo hi : Nat} (h1 : lo ≤ v) (h2 : v ≤ hi) (h3 : hi < 2 ^ 31) : CA (xPt t0) 158 [.int (nI v), .int (nI lo), .int (nI hi)] a h = some (.inl (some (.int (nI 1))), a, h, 0, 0) := m_isInT (nI_le h1 (by omega)) (nI_le h2 h3)
theorem m_isInX {v lo hi : Nat} (h1 : v < lo ∨ hi < v) (h2 : v < 2 ^ 31) (h3 : lo < 2 ^ 31) : CA (xPt t0) 158 [.int (nI v), .int (nI lo), .int (nI hi)] a h = some (.inl (some (.int (nI 0))), a, h, 0, 0) := m_isInF (h1.elim (fun q => Or.inl (nI_lt q h3)) (fun q => Or.inr (nI_lt q h2)))
theorem m_thrown : CA (xPt t0) 154 [.ref y] a (putMod h y (mf, mg, mv, mi, th, re, pm, iz, ty, ea, mr, mc, br, bc)) = some (.inl (some (.int th)), a, (putMod h y (mf, mg, mv, mi, th, re, pm, iz, ty, ea, mr, mc, br, bc)), 0, 0) := by
  rw [en154]
  simp (disch := first | exact bz1 | exact bz0 | omega | exact nI_ne0 (by omega) (by omega) | exact bzi) only [xgD0, xgD1, xgD2, xgD3, xgD4, xgD5, xgD6, xgD7, xgD8, xgD9, xgD10, xgD11, xgD12, xgD13, xpD0, xpD1, xpD2, xpD3, xpD4, xpD5, xpD6, xpD7, xpD8, xpD9, xpD10, xpD11, xpD12, xpD13, xcD_i, xrD_i, xlD_i, xdD_i, xlwD_i, xdwD_i, xback_s, xback_n, xcv_ok, k1i, k1r, k1n, k1k, Nat.reduceAdd, Nat.add_zero, Nat.zero_add, ↓reduceIte, not_true_eq_false, not_false_eq_true, and_true, true_and, and_false, false_and, or_true, true_or, or_false, false_or, Bool.false_eq_true, nI_lit, nI_add, pk_mul, nI_sub, nI_lt_eq, nI_le_eq, nI_eq_eq, nle_T, nle_F, nlt_T, nlt_F, neq_T, neq_F, xiD_i, xiD_k, xwD_i, xnD_i, e154_0, e154_1, e154_4, mo0, mo1, mo2, mo3, mo4, um0, um1, um2, um3, um4]
theorem m_fail {c : Int32} : CA (xPt t0) 159 [.ref y, .int c] a (putMod h y (mf, mg, mv, mi, th, re, pm, iz, ty, ea, mr, mc, br, bc)) = some (.inl (some (.int (nI 0))), a, (putMod h y (mf, mg, mv, mi, c, re, pm, iz, ty, ea, mr, mc, br, bc)), 0, 0) := by
  rw [en159]
  simp (disch := first | exact bz1 | exact bz0 | omega | exact nI_ne0 (by omega) (by omega) | exact bzi) only [xgD0, xgD1, xgD2, xgD3, xgD4, xgD5, xgD6, xgD7, xgD8, xgD9, xgD10, xgD11, xgD12, xgD13, xpD0, xpD1, xpD2, xpD3, xpD4, xpD5, xpD6, xpD7, xpD8, xpD9, xpD10, xpD11, xpD12, xpD13, xcD_i, xrD_i, xlD_i, xdD_i, xlwD_i, xdwD_i, xback_s, xback_n, xcv_ok, k1i, k1r, k1n, k1k, Nat.reduceAdd, Nat.add_zero, Nat.zero_add, ↓reduceIte, not_true_eq_false, not_false_eq_true, and_true, true_and, and_false, false_and, or_true, true_or, or_false, false_or, Bool.false_eq_true, nI_lit, nI_add, pk_mul, nI_sub, nI_lt_eq, nI_le_eq, nI_eq_eq, nle_T, nle_F, nlt_T, nlt_F, neq_T, neq_F, xiD_i, xiD_k, xwD_i, xnD_i, e159_0, e159_1, e159_2, e159_5, e159_6, mo0, mo1, mo2, mo3, mo4, um0, um1, um2, um3, um4]
theorem m_fail2 {c w : Int32} : CA (xPt t0) 160 [.ref y, .int c, .int w] a (putMod h y (mf, mg, mv, mi, th, re, pm, iz, ty, ea, mr, mc, br, bc)) = some (.inl (some (.int (nI 0))), a, (putMod h y (mf, mg, mv, mi, c, w, pm, iz, ty, ea, mr, mc, br, bc)), 0, 0) := by
  rw [en160]
  simp (disch := first | exact bz1 | exact bz0 | omega | exact nI_ne0 (by omega) (by omega) | exact bzi) only [xgD0, xgD1, xgD2, xgD3, xgD4, xgD5, xgD6, xgD7, xgD8, xgD9, xgD10, xgD11, xgD12, xgD13, xpD0, xpD1, xpD2, xpD3, xpD4, xpD5, xpD6, xpD7, xpD8, xpD9, xpD10, xpD11, xpD12, xpD13, xcD_i, xrD_i, xlD_i, xdD_i, xlwD_i, xdwD_i, xback_s, xback_n, xcv_ok, k1i, k1r, k1n, k1k, Nat.reduceAdd, Nat.add_zero, Nat.zero_add, ↓reduceIte, not_true_eq_false, not_false_eq_true, and_true, true_and, and_false, false_and, or_true, true_or, or_false, false_or, Bool.false_eq_true, nI_lit, nI_add, pk_mul, nI_sub, nI_lt_eq, nI_le_eq, nI_eq_eq, nle_T, nle_F, nlt_T, nlt_F, neq_T, neq_F, xiD_i, xiD_k, xwD_i, xnD_i, e160_0, e160_1, e160_2, e160_5, e160_6, e160_7, e160_10, e160_11, mo0, mo1, mo2, mo3, mo4, um0, um1, um2, um3, um4]
end MOD
abbrev plJ (R C : Nat) (r c : Int32) : Prop := ¬ r < 0 ∧ ¬ nI R ≤ r ∧ ¬ c < 0 ∧ ¬ nI C ≤ c
def catQ (x : Int32) : Int32 := if x < nI 5 then x else nI 1
abbrev frQ (f : Nat → Int32) (C p r c : Nat) : Prop := c < C ∧ ¬ f (43 + 12 * r + c) = nI 0 ∧ f (139 + (96 * p + 12 * r + c)) = nI 0
section PLC
variable {t0 y : Nat} {a : Nat × Bool} {h : xHp} {mf mg mv mi : Nat → Int32} {th re iz ea mr mc br bc : Int32} {pm ty : Nat}
theorem m_plT {R C r c : Nat} (h0 : mf 0 = nI R) (h1 : mf 1 = nI C) (hr : r < R) (hc : c < C) (hR : R ≤ 8) (hC : C ≤ 12) : CA (xPt t0) 167 [.ref y, .int (nI r), .int (nI c)] a (putMod h y (mf, mg, mv, mi, th, re, pm, iz, ty, ea, mr, mc, br, bc)) = some (.inl (some (.int (nI 1))), a, (putMod h y (mf, mg, mv, mi, th, re, pm, iz, ty, ea, mr, mc, br, bc)), 0, 0) := by
  rw [en167]
  simp (disch := first | exact bz1 | exact bz0 | omega | exact nI_ne0 (by omega) (by omega) | exact bzi) only [xgD0, xgD1, xgD2, xgD3, xgD4, xgD5, xgD6, xgD7, xgD8, xgD9, xgD10, xgD11, xgD12, xgD13, xpD0, xpD1, xpD2, xpD3, xpD4, xpD5, xpD6, xpD7, xpD8, xpD9, xpD10, xpD11, xpD12, xpD13, xcD_i, xrD_i, xlD_i, xdD_i, xlwD_i, xdwD_i, xback_s, xback_n, xcv_ok, k1i, k1r, k1n, k1k, Nat.reduceAdd, Nat.add_zero, Nat.zero_add, ↓reduceIte, not_true_eq_false, not_false_eq_true, and_true, true_and, and_false, false_and, or_true, true_or, or_false, false_or, Bool.false_eq_true, nI_lit, nI_add, pk_mul, nI_sub, nI_lt_eq, nI_le_eq, nI_eq_eq, nle_T, nle_F, nlt_T, nlt_F, neq_T, neq_F, xiD_i, xiD_k, xwD_i, xnD_i, e167_0, e167_1, e167_2, e167_3, e167_6, e167_7, e167_8, e167_9, e167_10, e167_13, e167_16, e167_17, e167_18, e167_19, e167_22, e167_23, e167_24, e167_25, e167_26, e167_29, e167_32, e167_33, e167_36, e167_37, mo0, mo1, mo2, mo3, mo4, um0, um1, um2, um3, um4, h0, h1, m_isInN]
theorem m_plF {R C : Nat} {r c : Int32} (h0 : mf 0 = nI R) (h1 : mf 1 = nI C) (hR1 : 1 ≤ R) (hR : R ≤ 8) (hC1 : 1 ≤ C) (hC : C ≤ 12) (hn : ¬ plJ R C r c) : CA (xPt t0) 167 [.ref y, .int r, .int c] a (putMod h y (mf, mg, mv, mi, th, re, pm, iz, ty, ea, mr, mc, br, bc)) = some (.inl (some (.int (nI 0))), a, (putMod h y (mf, mg, mv, mi, th, re, pm, iz, ty, ea, mr, mc, br, bc)), 0, 0) := by
  rw [en167]
  by_cases q1 : nI 0 ≤ r ∧ r ≤ nI (R - 1)
  · have q2 : ¬ (nI 0 ≤ c ∧ c ≤ nI (C - 1)) := fun z => hn (by
      have z1 := (isIn_lt hR1 (by omega)).mp q1
      have z2 := (isIn_lt hC1 (by omega)).mp z
      exact ⟨z1.1, z1.2, z2.1, z2.2⟩)
    have q3 : c < nI 0 ∨ nI (C - 1) < c := by
      by_cases q : c < nI 0
      · exact Or.inl q
      · exact Or.inr (Int32.not_le.mp (fun w => q2 ⟨Int32.not_lt.mp q, w⟩))
    simp (disch := first | exact bz1 | exact bz0 | omega | exact nI_ne0 (by omega) (by omega) | exact bzi) only [xgD0, xgD1, xgD2, xgD3, xgD4, xgD5, xgD6, xgD7, xgD8, xgD9, xgD10, xgD11, xgD12, xgD13, xpD0, xpD1, xpD2, xpD3, xpD4, xpD5, xpD6, xpD7, xpD8, xpD9, xpD10, xpD11, xpD12, xpD13, xcD_i, xrD_i, xlD_i, xdD_i, xlwD_i, xdwD_i, xback_s, xback_n, xcv_ok, k1i, k1r, k1n, k1k, Nat.reduceAdd, Nat.add_zero, Nat.zero_add, ↓reduceIte, not_true_eq_false, not_false_eq_true, and_true, true_and, and_false, false_and, or_true, true_or, or_false, false_or, Bool.false_eq_true, nI_lit, nI_add, pk_mul, nI_sub, nI_lt_eq, nI_le_eq, nI_eq_eq, nle_T, nle_F, nlt_T, nlt_F, neq_T, neq_F, xiD_i, xiD_k, xwD_i, xnD_i, e167_0, e167_1, e167_2, e167_3, e167_6, e167_7, e167_8, e167_9, e167_10, e167_13, e167_16, e167_17, e167_18, e167_19, e167_22, e167_23, e167_24, e167_25, e167_26, e167_29, e167_32, e167_33, e167_36, e167_37, mo0, mo1, mo2, mo3, mo4, um0, um1, um2, um3, um4, h0, h1, m_isInT q1.1 q1.2, m_isInF q3]
  · have q3 : r < nI 0 ∨ nI (R - 1) < r := by
      by_cases q : r < nI 0
      · exact Or.inl q
      · exact Or.inr (Int32.not_le.mp (fun w => q1 ⟨Int32.not_lt.mp q, w⟩))
    simp (disch := first | exact bz1 | exact bz0 | omega | exact nI_ne0 (by omega) (by omega) | exact bzi) only [xgD0, xgD1, xgD2, xgD3, xgD4, xgD5, xgD6, xgD7, xgD8, xgD9, xgD10, xgD11, xgD12, xgD13, xpD0, xpD1, xpD2, xpD3, xpD4, xpD5, xpD6, xpD7, xpD8, xpD9, xpD10, xpD11, xpD12, xpD13, xcD_i, xrD_i, xlD_i, xdD_i, xlwD_i, xdwD_i, xback_s, xback_n, xcv_ok, k1i, k1r, k1n, k1k, Nat.reduceAdd, Nat.add_zero, Nat.zero_add, ↓reduceIte, not_true_eq_false, not_false_eq_true, and_true, true_and, and_false, false_and, or_true, true_or, or_false, false_or, Bool.false_eq_true, nI_lit, nI_add, pk_mul, nI_sub, nI_lt_eq, nI_le_eq, nI_eq_eq, nle_T, nle_F, nlt_T, nlt_F, neq_T, neq_F, xiD_i, xiD_k, xwD_i, xnD_i, e167_0, e167_1, e167_2, e167_3, e167_6, e167_7, e167_8, e167_9, e167_10, e167_13, e167_16, e167_17, e167_18, e167_19, e167_22, e167_23, e167_24, e167_25, e167_26, e167_29, e167_32, e167_33, e167_36, e167_37, mo0, mo1, mo2, mo3, mo4, um0, um1, um2, um3, um4, h0, h1, m_isInF q3]
theorem m_kindT {R C r c : Nat} (h0 : mf 0 = nI R) (h1 : mf 1 = nI C) (hr : r < R) (hc : c < C) (hR : R ≤ 8) (hC : C ≤ 12) : CA (xPt t0) 168 [.ref y, .int (nI r), .int (nI c)] a (putMod h y (mf, mg, mv, mi, th, re, pm, iz, ty, ea, mr, mc, br, bc)) = some (.inl (some (.int (mf (43 + 12 * r + c)))), a, (putMod h y (mf, mg, mv, mi, th, re, pm, iz, ty, ea, mr, mc, br, bc)), 0, 0) := by
  rw [en168]
  simp (disch := first | exact bz1 | exact bz0 | omega | exact nI_ne0 (by omega) (by omega) | exact bzi) only [xgD0, xgD1, xgD2, xgD3, xgD4, xgD5, xgD6, xgD7, xgD8, xgD9, xgD10, xgD11, xgD12, xgD13, xpD0, xpD1, xpD2, xpD3, xpD4, xpD5, xpD6, xpD7, xpD8, xpD9, xpD10, xpD11, xpD12, xpD13, xcD_i, xrD_i, xlD_i, xdD_i, xlwD_i, xdwD_i, xback_s, xback_n, xcv_ok, k1i, k1r, k1n, k1k, Nat.reduceAdd, Nat.add_zero, Nat.zero_add, ↓reduceIte, not_true_eq_false, not_false_eq_true, and_true, true_and, and_false, false_and, or_true, true_or, or_false, false_or, Bool.false_eq_true, nI_lit, nI_add, pk_mul, nI_sub, nI_lt_eq, nI_le_eq, nI_eq_eq, nle_T, nle_F, nlt_T, nlt_F, neq_T, neq_F, xiD_i, xiD_k, xwD_i, xnD_i, e168_0, e168_1, e168_2, e168_3, ex168_3, e168_6, e168_9, e168_10, e168_13, e168_15, e168_17, e168_18, e168_19, e168_20, e168_21, e168_22, e168_23, e168_26, e168_27, mo0, mo1, mo2, mo3, mo4, um0, um1, um2, um3, um4, m_plT h0 h1 hr hc hR hC]
theorem m_kindF {R C : Nat} {r c : Int32} (h0 : mf 0 = nI R) (h1 : mf 1 = nI C) (hR1 : 1 ≤ R) (hR : R ≤ 8) (hC1 : 1 ≤ C) (hC : C ≤ 12) (hn : ¬ plJ R C r c) : CA (xPt t0) 168 [.ref y, .int r, .int c] a (putMod h y (mf, mg, mv, mi, th, re, pm, iz, ty, ea, mr, mc, br, bc)) = some (.inl (some (.int (nI 0))), a, (putMod h y (mf, mg, mv, mi, th, re, pm, iz, ty, ea, mr, mc, br, bc)), 0, 0) := by
  rw [en168]
  simp (disch := first | exact bz1 | exact bz0 | omega | exact nI_ne0 (by omega) (by omega) | exact bzi) only [xgD0, xgD1, xgD2, xgD3, xgD4, xgD5, xgD6, xgD7, xgD8, xgD9, xgD10, xgD11, xgD12, xgD13, xpD0, xpD1, xpD2, xpD3, xpD4, xpD5, xpD6, xpD7, xpD8, xpD9, xpD10, xpD11, xpD12, xpD13, xcD_i, xrD_i, xlD_i, xdD_i, xlwD_i, xdwD_i, xback_s, xback_n, xcv_ok, k1i, k1r, k1n, k1k, Nat.reduceAdd, Nat.add_zero, Nat.zero_add, ↓reduceIte, not_true_eq_false, not_false_eq_true, and_true, true_and, and_false, false_and, or_true, true_or, or_false, false_or, Bool.false_eq_true, nI_lit, nI_add, pk_mul, nI_sub, nI_lt_eq, nI_le_eq, nI_eq_eq, nle_T, nle_F, nlt_T, nlt_F, neq_T, neq_F, xiD_i, xiD_k, xwD_i, xnD_i, e168_0, e168_1, e168_2, e168_3, ex168_3, e168_6, e168_9, e168_10, e168_13, e168_15, e168_17, e168_18, e168_19, e168_20, e168_21, e168_22, e168_23, e168_26, e168_27, mo0, mo1, mo2, mo3, mo4, um0, um1, um2, um3, um4, m_plF h0 h1 hR1 hR hC1 hC hn]
theorem m_cat {R C r c : Nat} (h0 : mf 0 = nI R) (h1 : mf 1 = nI C) (hr : r < R) (hc : c < C) (hR : R ≤ 8) (hC : C ≤ 12) : CA (xPt t0) 169 [.ref y, .int (nI r), .int (nI c)] a (putMod h y (mf, mg, mv, mi, th, re, pm, iz, ty, ea, mr, mc, br, bc)) = some (.inl (some (.int (catQ (mf (43 + 12 * r + c))))), a, (putMod h y (mf, mg, mv, mi, th, re, pm, iz, ty, ea, mr, mc, br, bc)), 0, 0) := by
  rw [en169]
  unfold catQ
  by_cases q : mf (43 + 12 * r + c) < nI 5
  · simp (disch := first | exact bz1 | exact bz0 | omega | exact nI_ne0 (by omega) (by omega) | exact bzi) only [xgD0, xgD1, xgD2, xgD3, xgD4, xgD5, xgD6, xgD7, xgD8, xgD9, xgD10, xgD11, xgD12, xgD13, xpD0, xpD1, xpD2, xpD3, xpD4, xpD5, xpD6, xpD7, xpD8, xpD9, xpD10, xpD11, xpD12, xpD13, xcD_i, xrD_i, xlD_i, xdD_i, xlwD_i, xdwD_i, xback_s, xback_n, xcv_ok, k1i, k1r, k1n, k1k, Nat.reduceAdd, Nat.add_zero, Nat.zero_add, ↓reduceIte, not_true_eq_false, not_false_eq_true, and_true, true_and, and_false, false_and, or_true, true_or, or_false, false_or, Bool.false_eq_true, nI_lit, nI_add, pk_mul, nI_sub, nI_lt_eq, nI_le_eq, nI_eq_eq, nle_T, nle_F, nlt_T, nlt_F, neq_T, neq_F, xiD_i, xiD_k, xwD_i, xnD_i, e169_0, e169_1, e169_2, e169_3, ex169_3, e169_6, e169_7, e169_8, e169_9, e169_12, e169_13, e169_16, e169_17, mo0, mo1, mo2, mo3, mo4, um0, um1, um2, um3, um4, m_kindT h0 h1 hr hc hR hC, q]
  · simp (disch := first | exact bz1 | exact bz0 | omega | exact nI_ne0 (by omega) (by omega) | exact bzi) only [xgD0, xgD1, xgD2, xgD3, xgD4, xgD5, xgD6, xgD7, xgD8, xgD9, xgD10, xgD11, xgD12, xgD13, xpD0, xpD1, xpD2, xpD3, xpD4, xpD5, xpD6, xpD7, xpD8, xpD9, xpD10, xpD11, xpD12, xpD13, xcD_i, xrD_i, xlD_i, xdD_i, xlwD_i, xdwD_i, xback_s, xback_n, xcv_ok, k1i, k1r, k1n, k1k, Nat.reduceAdd, Nat.add_zero, Nat.zero_add, ↓reduceIte, not_true_eq_false, not_false_eq_true, and_true, true_and, and_false, false_and, or_true, true_or, or_false, false_or, Bool.false_eq_true, nI_lit, nI_add, pk_mul, nI_sub, nI_lt_eq, nI_le_eq, nI_eq_eq, nle_T, nle_F, nlt_T, nlt_F, neq_T, neq_F, xiD_i, xiD_k, xwD_i, xnD_i, e169_0, e169_1, e169_2, e169_3, ex169_3, e169_6, e169_7, e169_8, e169_9, e169_12, e169_13, e169_16, e169_17, mo0, mo1, mo2, mo3, mo4, um0, um1, um2, um3, um4, m_kindT h0 h1 hr hc hR hC, q]
theorem m_cell {p r c : Nat} : CA (xPt t0) 178 [.int (nI p), .int (nI r), .int (nI c)] a h = some (.inl (some (.int (nI (96 * p + 12 * r + c)))), a, h, 0, 0) := by
  rw [en178]
  simp (disch := first | exact bz1 | exact bz0 | omega | exact nI_ne0 (by omega) (by omega) | exact bzi) only [xgD0, xgD1, xgD2, xgD3, xgD4, xgD5, xgD6, xgD7, xgD8, xgD9, xgD10, xgD11, xgD12, xgD13, xpD0, xpD1, xpD2, xpD3, xpD4, xpD5, xpD6, xpD7, xpD8, xpD9, xpD10, xpD11, xpD12, xpD13, xcD_i, xrD_i, xlD_i, xdD_i, xlwD_i, xdwD_i, xback_s, xback_n, xcv_ok, k1i, k1r, k1n, k1k, Nat.reduceAdd, Nat.add_zero, Nat.zero_add, ↓reduceIte, not_true_eq_false, not_false_eq_true, and_true, true_and, and_false, false_and, or_true, true_or, or_false, false_or, Bool.false_eq_true, nI_lit, nI_add, pk_mul, nI_sub, nI_lt_eq, nI_le_eq, nI_eq_eq, nle_T, nle_F, nlt_T, nlt_F, neq_T, neq_F, xiD_i, xiD_k, xwD_i, xnD_i, e178_0, e178_2, e178_3, e178_4, e178_6, e178_7, e178_8, e178_9, e178_10, e178_11]
theorem plJ_C {R C r c : Nat} (hC : C < 2 ^ 31) (hc2 : c < 2 ^ 31) (hc : C ≤ c) : ¬ plJ R C (nI r) (nI c) := fun z => z.2.2.2 (nI_le hc hc2)
theorem m_freeN {R C p r c : Nat} (h0 : mf 0 = nI R) (h1 : mf 1 = nI C) (hR1 : 1 ≤ R) (hC1 : 1 ≤ C) (hp : p < 6) (hr : r < R) (hc : c < 1000) (hR : R ≤ 8) (hC : C ≤ 12) : CA (xPt t0) 189 [.ref y, .int (nI p), .int (nI r), .int (nI c)] a (putMod h y (mf, mg, mv, mi, th, re, pm, iz, ty, ea, mr, mc, br, bc)) = some (.inl (some (.int (if frQ mf C p r c then nI 1 else nI 0))), a, (putMod h y (mf, mg, mv, mi, th, re, pm, iz, ty, ea, mr, mc, br, bc)), 0, 0) := by
  rw [en189]
  by_cases q0 : c < C
  · by_cases q1 : mf (43 + 12 * r + c) = nI 0
    · rw [if_neg (fun z => z.2.1 q1)]
      simp (disch := first | exact bz1 | exact bz0 | omega | exact nI_ne0 (by omega) (by omega) | exact bzi) only [xgD0, xgD1, xgD2, xgD3, xgD4, xgD5, xgD6, xgD7, xgD8, xgD9, xgD10, xgD11, xgD12, xgD13, xpD0, xpD1, xpD2, xpD3, xpD4, xpD5, xpD6, xpD7, xpD8, xpD9, xpD10, xpD11, xpD12, xpD13, xcD_i, xrD_i, xlD_i, xdD_i, xlwD_i, xdwD_i, xback_s, xback_n, xcv_ok, k1i, k1r, k1n, k1k, Nat.reduceAdd, Nat.add_zero, Nat.zero_add, ↓reduceIte, not_true_eq_false, not_false_eq_true, and_true, true_and, and_false, false_and, or_true, true_or, or_false, false_or, Bool.false_eq_true, nI_lit, nI_add, pk_mul, nI_sub, nI_lt_eq, nI_le_eq, nI_eq_eq, nle_T, nle_F, nlt_T, nlt_F, neq_T, neq_F, xiD_i, xiD_k, xwD_i, xnD_i, e189_0, e189_1, e189_2, e189_3, ex189_3, e189_6, e189_9, e189_10, e189_13, e189_16, e189_17, e189_18, e189_19, e189_22, e189_23, e189_24, e189_27, e189_28, e189_31, e189_32, mo0, mo1, mo2, mo3, mo4, um0, um1, um2, um3, um4, m_kindT h0 h1 hr q0 hR hC, m_cell, q1]
    · by_cases q2 : mf (139 + (96 * p + 12 * r + c)) = nI 0
      · rw [if_pos ⟨q0, q1, q2⟩]
        simp (disch := first | exact bz1 | exact bz0 | omega | exact nI_ne0 (by omega) (by omega) | exact bzi) only [xgD0, xgD1, xgD2, xgD3, xgD4, xgD5, xgD6, xgD7, xgD8, xgD9, xgD10, xgD11, xgD12, xgD13, xpD0, xpD1, xpD2, xpD3, xpD4, xpD5, xpD6, xpD7, xpD8, xpD9, xpD10, xpD11, xpD12, xpD13, xcD_i, xrD_i, xlD_i, xdD_i, xlwD_i, xdwD_i, xback_s, xback_n, xcv_ok, k1i, k1r, k1n, k1k, Nat.reduceAdd, Nat.add_zero, Nat.zero_add, ↓reduceIte, not_true_eq_false, not_false_eq_true, and_true, true_and, and_false, false_and, or_true, true_or, or_false, false_or, Bool.false_eq_true, nI_lit, nI_add, pk_mul, nI_sub, nI_lt_eq, nI_le_eq, nI_eq_eq, nle_T, nle_F, nlt_T, nlt_F, neq_T, neq_F, xiD_i, xiD_k, xwD_i, xnD_i, e189_0, e189_1, e189_2, e189_3, ex189_3, e189_6, e189_9, e189_10, e189_13, e189_16, e189_17, e189_18, e189_19, e189_22, e189_23, e189_24, e189_27, e189_28, e189_31, e189_32, mo0, mo1, mo2, mo3, mo4, um0, um1, um2, um3, um4, m_kindT h0 h1 hr q0 hR hC, m_cell, q1, q2]
      · rw [if_neg (fun z => q2 z.2.2)]
        simp (disch := first | exact bz1 | exact bz0 | omega | exact nI_ne0 (by omega) (by omega) | exact bzi) only [xgD0, xgD1, xgD2, xgD3, xgD4, xgD5, xgD6, xgD7, xgD8, xgD9, xgD10, xgD11, xgD12, xgD13, xpD0, xpD1, xpD2, xpD3, xpD4, xpD5, xpD6, xpD7, xpD8, xpD9, xpD10, xpD11, xpD12, xpD13, xcD_i, xrD_i, xlD_i, xdD_i, xlwD_i, xdwD_i, xback_s, xback_n, xcv_ok, k1i, k1r, k1n, k1k, Nat.reduceAdd, Nat.add_zero, Nat.zero_add, ↓reduceIte, not_true_eq_false, not_false_eq_true, and_true, true_and, and_false, false_and, or_true, true_or, or_false, false_or, Bool.false_eq_true, nI_lit, nI_add, pk_mul, nI_sub, nI_lt_eq, nI_le_eq, nI_eq_eq, nle_T, nle_F, nlt_T, nlt_F, neq_T, neq_F, xiD_i, xiD_k, xwD_i, xnD_i, e189_0, e189_1, e189_2, e189_3, ex189_3, e189_6, e189_9, e189_10, e189_13, e189_16, e189_17, e189_18, e189_19, e189_22, e189_23, e189_24, e189_27, e189_28, e189_31, e189_32, mo0, mo1, mo2, mo3, mo4, um0, um1, um2, um3, um4, m_kindT h0 h1 hr q0 hR hC, m_cell, q1, q2]
  · rw [if_neg (fun z => q0 z.1)]
    simp (disch := first | exact bz1 | exact bz0 | omega | exact nI_ne0 (by omega) (by omega) | exact bzi) only [xgD0, xgD1, xgD2, xgD3, xgD4, xgD5, xgD6, xgD7, xgD8, xgD9, xgD10, xgD11, xgD12, xgD13, xpD0, xpD1, xpD2, xpD3, xpD4, xpD5, xpD6, xpD7, xpD8, xpD9, xpD10, xpD11, xpD12, xpD13, xcD_i, xrD_i, xlD_i, xdD_i, xlwD_i, xdwD_i, xback_s, xback_n, xcv_ok, k1i, k1r, k1n, k1k, Nat.reduceAdd, Nat.add_zero, Nat.zero_add, ↓reduceIte, not_true_eq_false, not_false_eq_true, and_true, true_and, and_false, false_and, or_true, true_or, or_false, false_or, Bool.false_eq_true, nI_lit, nI_add, pk_mul, nI_sub, nI_lt_eq, nI_le_eq, nI_eq_eq, nle_T, nle_F, nlt_T, nlt_F, neq_T, neq_F, xiD_i, xiD_k, xwD_i, xnD_i, e189_0, e189_1, e189_2, e189_3, ex189_3, e189_6, e189_9, e189_10, e189_13, e189_16, e189_17, e189_18, e189_19, e189_22, e189_23, e189_24, e189_27, e189_28, e189_31, e189_32, mo0, mo1, mo2, mo3, mo4, um0, um1, um2, um3, um4, m_kindF h0 h1 hR1 hR hC1 hC (plJ_C (R := R) (C := C) (r := r) (c := c) (by omega) (by omega) (by omega))]
theorem m_freeF {R C : Nat} {p r c : Int32} (h0 : mf 0 = nI R) (h1 : mf 1 = nI C) (hR1 : 1 ≤ R) (hC1 : 1 ≤ C) (hR : R ≤ 8) (hC : C ≤ 12) (hn : ¬ plJ R C r c) : CA (xPt t0) 189 [.ref y, .int p, .int r, .int c] a (putMod h y (mf, mg, mv, mi, th, re, pm, iz, ty, ea, mr, mc, br, bc)) = some (.inl (some (.int (nI 0))), a, (putMod h y (mf, mg, mv, mi, th, re, pm, iz, ty, ea, mr, mc, br, bc)), 0, 0) := by
  rw [en189]
  simp (disch := first | exact bz1 | exact bz0 | omega | exact nI_ne0 (by omega) (by omega) | exact bzi) only [xgD0, xgD1, xgD2, xgD3, xgD4, xgD5, xgD6, xgD7, xgD8, xgD9, xgD10, xgD11, xgD12, xgD13, xpD0, xpD1, xpD2, xpD3, xpD4, xpD5, xpD6, xpD7, xpD8, xpD9, xpD10, xpD11, xpD12, xpD13, xcD_i, xrD_i, xlD_i, xdD_i, xlwD_i, xdwD_i, xback_s, xback_n, xcv_ok, k1i, k1r, k1n, k1k, Nat.reduceAdd, Nat.add_zero, Nat.zero_add, ↓reduceIte, not_true_eq_false, not_false_eq_true, and_true, true_and, and_false, false_and, or_true, true_or, or_false, false_or, Bool.false_eq_true, nI_lit, nI_add, pk_mul, nI_sub, nI_lt_eq, nI_le_eq, nI_eq_eq, nle_T, nle_F, nlt_T, nlt_F, neq_T, neq_F, xiD_i, xiD_k, xwD_i, xnD_i, e189_0, e189_1, e189_2, e189_3, ex189_3, e189_6, e189_9, e189_10, e189_13, e189_16, e189_17, e189_18, e189_19, e189_22, e189_23, e189_24, e189_27, e189_28, e189_31, e189_32, mo0, mo1, mo2, mo3, mo4, um0, um1, um2, um3, um4, m_kindF h0 h1 hR1 hR hC1 hC hn]
end PLC
