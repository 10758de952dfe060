/-! a helper's answer and the reference's, each call -/
section HLP
variable {t0 x y z w s LL L i : Nat} {xs : Nat → Int32} {H : xHp} {B : Bx} {o : Off} {M : Md}
theorem hk94b {Z Z' : xHp} {a : Nat × Bool} {l : List Value} {u0 u1 u2 u3 : Int32} {f : Nat → Int64} (hz : Z' z = .inl (3, 1, .inr (.inl f))) {v : Int32} (hx : Z x = .inr (5, l)) (hc : CA (xPt t0) 95 [.ref x, .int u0, .int u1, .int u2, .int u3] a Z = some (.inl (some (.int v)), a, Z', 0, 0)) : CA (xPt t0) 94 [.ref x, .int u0, .int u1, .int u2, .int u3, .ref z] a Z = some (.inl (some (.int (nI 0))), a, hset Z' z (.inl (3, 1, .inr (.inl (vp_updL f 0 (if v = nI 0 then 0 else 1))))), 0, 0) := by
  rw [en94]
  by_cases hv : v = nI 0
  · simp (disch := first | exact bz1 | exact bz0 | omega | exact nI_ne0 (by omega) (by omega) | exact bzi) only [xgD0, xgD1, xgD2, xgD3, xgD4, xgD5, xgD6, xgD7, xgD8, xgD9, xgD10, xgD11, xgD12, xgD13, xpD0, xpD1, xpD2, xpD3, xpD4, xpD5, xpD6, xpD7, xpD8, xpD9, xpD10, xpD11, xpD12, xpD13, xcD_i, xrD_i, xlD_i, xdD_i, xlwD_i, xdwD_i, xback_s, xback_n, xcv_ok, k1i, k1r, k1n, k1k, Nat.reduceAdd, Nat.add_zero, Nat.zero_add, ↓reduceIte, not_true_eq_false, not_false_eq_true, and_true, true_and, and_false, false_and, or_true, true_or, or_false, false_or, Bool.false_eq_true, nI_lit, nI_add, pk_mul, nI_sub, nI_lt_eq, nI_le_eq, nI_eq_eq, nle_T, nle_F, nlt_T, nlt_F, neq_T, neq_F, xiD_i, xiD_k, xwD_i, xnD_i, e94_0, e94_2, e94_3, e94_4, e94_5, e94_6, e94_7, e94_9, ex94_9_2, ex94_9_1, ex94_9_0, e94_12, e94_15, e94_16, e94_19, e94_20, e94_21, e94_26, e94_27, e94_30, e94_31, e94_34, e94_35, e94_36, e94_37, e94_0, e94_2, e94_3, e94_4, e94_5, e94_6, e94_7, e94_9, ex94_9_2, ex94_9_1, ex94_9_0, e94_12, e94_15, e94_16, e94_19, e94_20, e94_21, e94_26, e94_27, e94_30, e94_31, e94_34, e94_35, e94_36, e94_37, hx, hc, hz, hv]
  · simp (disch := first | exact bz1 | exact bz0 | omega | exact nI_ne0 (by omega) (by omega) | exact bzi) only [xgD0, xgD1, xgD2, xgD3, xgD4, xgD5, xgD6, xgD7, xgD8, xgD9, xgD10, xgD11, xgD12, xgD13, xpD0, xpD1, xpD2, xpD3, xpD4, xpD5, xpD6, xpD7, xpD8, xpD9, xpD10, xpD11, xpD12, xpD13, xcD_i, xrD_i, xlD_i, xdD_i, xlwD_i, xdwD_i, xback_s, xback_n, xcv_ok, k1i, k1r, k1n, k1k, Nat.reduceAdd, Nat.add_zero, Nat.zero_add, ↓reduceIte, not_true_eq_false, not_false_eq_true, and_true, true_and, and_false, false_and, or_true, true_or, or_false, false_or, Bool.false_eq_true, nI_lit, nI_add, pk_mul, nI_sub, nI_lt_eq, nI_le_eq, nI_eq_eq, nle_T, nle_F, nlt_T, nlt_F, neq_T, neq_F, xiD_i, xiD_k, xwD_i, xnD_i, e94_0, e94_2, e94_3, e94_4, e94_5, e94_6, e94_7, e94_9, ex94_9_2, ex94_9_1, ex94_9_0, e94_12, e94_15, e94_16, e94_19, e94_20, e94_21, e94_26, e94_27, e94_30, e94_31, e94_34, e94_35, e94_36, e94_37, e94_0, e94_2, e94_3, e94_4, e94_5, e94_6, e94_7, e94_9, ex94_9_2, ex94_9_1, ex94_9_0, e94_12, e94_15, e94_16, e94_19, e94_20, e94_21, e94_26, e94_27, e94_30, e94_31, e94_34, e94_35, e94_36, e94_37, hx, hc, hz, hv]
theorem hl0 {u0 : Int32} (hs : Sep t0 x y z w s) (hb : Bse t0 z w s LL xs H) (ho : Outc t0 x y L 75 157 [1, 0] B o M [.int u0] [.int u0] isI) : Hlp t0 x y z w s LL xs L 74 157 H B o M [.int u0, .ref z] [.int u0] (VI z) := by
  intro a
  obtain ⟨s1, s2, s3, s4, s5⟩ := id hs
  obtain ⟨B', o', M', v, ⟨u, rfl⟩, hI, hr, hc⟩ := outc_bth ho s3 s1
  obtain ⟨l, hx⟩ := bth_x (h := H) (B := B) (o := o) (M := M) s3
  obtain ⟨b1, b2, ⟨f, b3⟩, ⟨g, b4⟩⟩ := id hb
  rcases hc with ⟨ht, hc⟩ | ⟨k, E, hE, ht, hc⟩
  · refine ⟨B', o', M', hset H z (.inl (3, 1, .inr (.inl (vp_updL f 0 u.toInt64)))), a, nI 0, .int u, 0, 0, hI, bse_z hs hb, Nat.zero_le _, Nat.zero_le _, ?_, hr, ht, u, rfl, fun _ => ⟨_, hset_s _ _ _, updL_0⟩⟩
    rw [← bth_sz hs]
    exact hk74 ((bth_z hs).trans b3) hx (hc a H b1)
  · match k, hE, ht with
    | 0, hE, ht =>
      obtain rfl : 1 = E := Option.some.inj hE
      exact ⟨B', o', M', H, (a.1, false), nI 1, .int u, 1, 6, hI, hb, Nat.le_refl _, Nat.le_refl _, ht74_0 hx (hc a H b1), hr, ht, u, rfl, fun q => absurd q (by decide)⟩
    | 1, hE, ht =>
      obtain rfl : 0 = E := Option.some.inj hE
      exact ⟨B', o', M', H, (a.1, false), nI 2, .int u, 1, 6, hI, hb, Nat.le_refl _, Nat.le_refl _, ht74_1 hx (hc a H b1), hr, ht, u, rfl, fun q => absurd q (by decide)⟩
    | k + 2, hE, ht => exact absurd hE (by simp)
theorem hl1 (hs : Sep t0 x y z w s) (hb : Bse t0 z w s LL xs H) (ho : Outc t0 x y L 78 161 [1, 5] B o M [] [] isI) : Hlp t0 x y z w s LL xs L 77 161 H B o M [.ref z] [] (VI z) := by
  intro a
  obtain ⟨s1, s2, s3, s4, s5⟩ := id hs
  obtain ⟨B', o', M', v, ⟨u, rfl⟩, hI, hr, hc⟩ := outc_bth ho s3 s1
  obtain ⟨l, hx⟩ := bth_x (h := H) (B := B) (o := o) (M := M) s3
  obtain ⟨b1, b2, ⟨f, b3⟩, ⟨g, b4⟩⟩ := id hb
  rcases hc with ⟨ht, hc⟩ | ⟨k, E, hE, ht, hc⟩
  · refine ⟨B', o', M', hset H z (.inl (3, 1, .inr (.inl (vp_updL f 0 u.toInt64)))), a, nI 0, .int u, 0, 0, hI, bse_z hs hb, Nat.zero_le _, Nat.zero_le _, ?_, hr, ht, u, rfl, fun _ => ⟨_, hset_s _ _ _, updL_0⟩⟩
    rw [← bth_sz hs]
    exact hk77 ((bth_z hs).trans b3) hx (hc a H b1)
  · match k, hE, ht with
    | 0, hE, ht =>
      obtain rfl : 1 = E := Option.some.inj hE
      exact ⟨B', o', M', H, (a.1, false), nI 1, .int u, 1, 6, hI, hb, Nat.le_refl _, Nat.le_refl _, ht77_0 hx (hc a H b1), hr, ht, u, rfl, fun q => absurd q (by decide)⟩
    | 1, hE, ht =>
      obtain rfl : 5 = E := Option.some.inj hE
      exact ⟨B', o', M', H, (a.1, false), nI 2, .int u, 1, 6, hI, hb, Nat.le_refl _, Nat.le_refl _, ht77_1 hx (hc a H b1), hr, ht, u, rfl, fun q => absurd q (by decide)⟩
    | k + 2, hE, ht => exact absurd hE (by simp)
theorem hl2 (hs : Sep t0 x y z w s) (hb : Bse t0 z w s LL xs H) (ho : Outc t0 x y L 85 165 [3] B o M [] [] isI) : Hlp t0 x y z w s LL xs L 84 165 H B o M [.ref z] [] (VI z) := by
  intro a
  obtain ⟨s1, s2, s3, s4, s5⟩ := id hs
  obtain ⟨B', o', M', v, ⟨u, rfl⟩, hI, hr, hc⟩ := outc_bth ho s3 s1
  obtain ⟨l, hx⟩ := bth_x (h := H) (B := B) (o := o) (M := M) s3
  obtain ⟨b1, b2, ⟨f, b3⟩, ⟨g, b4⟩⟩ := id hb
  rcases hc with ⟨ht, hc⟩ | ⟨k, E, hE, ht, hc⟩
  · refine ⟨B', o', M', hset H z (.inl (3, 1, .inr (.inl (vp_updL f 0 u.toInt64)))), a, nI 0, .int u, 0, 0, hI, bse_z hs hb, Nat.zero_le _, Nat.zero_le _, ?_, hr, ht, u, rfl, fun _ => ⟨_, hset_s _ _ _, updL_0⟩⟩
    rw [← bth_sz hs]
    exact hk84 ((bth_z hs).trans b3) hx (hc a H b1)
  · match k, hE, ht with
    | 0, hE, ht =>
      obtain rfl : 3 = E := Option.some.inj hE
      exact ⟨B', o', M', H, (a.1, false), nI 1, .int u, 1, 6, hI, hb, Nat.le_refl _, Nat.le_refl _, ht84_0 hx (hc a H b1), hr, ht, u, rfl, fun q => absurd q (by decide)⟩
    | k + 1, hE, ht => exact absurd hE (by simp)
theorem hl3 {u0 u1 u2 : Int32} (hs : Sep t0 x y z w s) (hb : Bse t0 z w s LL xs H) (ho : Outc t0 x y L 87 166 [2, 1] B o M [.int u0, .int u1, .int u2] [.int u0, .int u1, .int u2] isI) : Hlp t0 x y z w s LL xs L 86 166 H B o M [.int u0, .int u1, .int u2, .ref z] [.int u0, .int u1, .int u2] (VI z) := by
  intro a
  obtain ⟨s1, s2, s3, s4, s5⟩ := id hs
  obtain ⟨B', o', M', v, ⟨u, rfl⟩, hI, hr, hc⟩ := outc_bth ho s3 s1
  obtain ⟨l, hx⟩ := bth_x (h := H) (B := B) (o := o) (M := M) s3
  obtain ⟨b1, b2, ⟨f, b3⟩, ⟨g, b4⟩⟩ := id hb
  rcases hc with ⟨ht, hc⟩ | ⟨k, E, hE, ht, hc⟩
  · refine ⟨B', o', M', hset H z (.inl (3, 1, .inr (.inl (vp_updL f 0 u.toInt64)))), a, nI 0, .int u, 0, 0, hI, bse_z hs hb, Nat.zero_le _, Nat.zero_le _, ?_, hr, ht, u, rfl, fun _ => ⟨_, hset_s _ _ _, updL_0⟩⟩
    rw [← bth_sz hs]
    exact hk86 ((bth_z hs).trans b3) hx (hc a H b1)
  · match k, hE, ht with
    | 0, hE, ht =>
      obtain rfl : 2 = E := Option.some.inj hE
      exact ⟨B', o', M', H, (a.1, false), nI 1, .int u, 1, 6, hI, hb, Nat.le_refl _, Nat.le_refl _, ht86_0 hx (hc a H b1), hr, ht, u, rfl, fun q => absurd q (by decide)⟩
    | 1, hE, ht =>
      obtain rfl : 1 = E := Option.some.inj hE
      exact ⟨B', o', M', H, (a.1, false), nI 2, .int u, 1, 6, hI, hb, Nat.le_refl _, Nat.le_refl _, ht86_1 hx (hc a H b1), hr, ht, u, rfl, fun q => absurd q (by decide)⟩
    | k + 2, hE, ht => exact absurd hE (by simp)
theorem hl4 {u0 u1 : Int32} (hs : Sep t0 x y z w s) (hb : Bse t0 z w s LL xs H) (ho : Outc t0 x y L 89 171 [1, 0] B o M [.int u0, .int u1] [.int u0, .int u1] isI) : Hlp t0 x y z w s LL xs L 88 171 H B o M [.int u0, .int u1, .ref z] [.int u0, .int u1] (VI z) := by
  intro a
  obtain ⟨s1, s2, s3, s4, s5⟩ := id hs
  obtain ⟨B', o', M', v, ⟨u, rfl⟩, hI, hr, hc⟩ := outc_bth ho s3 s1
  obtain ⟨l, hx⟩ := bth_x (h := H) (B := B) (o := o) (M := M) s3
  obtain ⟨b1, b2, ⟨f, b3⟩, ⟨g, b4⟩⟩ := id hb
  rcases hc with ⟨ht, hc⟩ | ⟨k, E, hE, ht, hc⟩
  · refine ⟨B', o', M', hset H z (.inl (3, 1, .inr (.inl (vp_updL f 0 u.toInt64)))), a, nI 0, .int u, 0, 0, hI, bse_z hs hb, Nat.zero_le _, Nat.zero_le _, ?_, hr, ht, u, rfl, fun _ => ⟨_, hset_s _ _ _, updL_0⟩⟩
    rw [← bth_sz hs]
    exact hk88 ((bth_z hs).trans b3) hx (hc a H b1)
  · match k, hE, ht with
    | 0, hE, ht =>
      obtain rfl : 1 = E := Option.some.inj hE
      exact ⟨B', o', M', H, (a.1, false), nI 1, .int u, 1, 6, hI, hb, Nat.le_refl _, Nat.le_refl _, ht88_0 hx (hc a H b1), hr, ht, u, rfl, fun q => absurd q (by decide)⟩
    | 1, hE, ht =>
      obtain rfl : 0 = E := Option.some.inj hE
      exact ⟨B', o', M', H, (a.1, false), nI 2, .int u, 1, 6, hI, hb, Nat.le_refl _, Nat.le_refl _, ht88_1 hx (hc a H b1), hr, ht, u, rfl, fun q => absurd q (by decide)⟩
    | k + 2, hE, ht => exact absurd hE (by simp)
theorem hl5 {u0 u1 : Int32} (hs : Sep t0 x y z w s) (hb : Bse t0 z w s LL xs H) (ho : Outc t0 x y L 91 173 [2, 1] B o M [.int u0, .int u1] [.int u0, .int u1] isI) : Hlp t0 x y z w s LL xs L 90 173 H B o M [.int u0, .int u1, .ref z] [.int u0, .int u1] (VI z) := by
  intro a
  obtain ⟨s1, s2, s3, s4, s5⟩ := id hs
  obtain ⟨B', o', M', v, ⟨u, rfl⟩, hI, hr, hc⟩ := outc_bth ho s3 s1
  obtain ⟨l, hx⟩ := bth_x (h := H) (B := B) (o := o) (M := M) s3
  obtain ⟨b1, b2, ⟨f, b3⟩, ⟨g, b4⟩⟩ := id hb
  rcases hc with ⟨ht, hc⟩ | ⟨k, E, hE, ht, hc⟩
  · refine ⟨B', o', M', hset H z (.inl (3, 1, .inr (.inl (vp_updL f 0 u.toInt64)))), a, nI 0, .int u, 0, 0, hI, bse_z hs hb, Nat.zero_le _, Nat.zero_le _, ?_, hr, ht, u, rfl, fun _ => ⟨_, hset_s _ _ _, updL_0⟩⟩
    rw [← bth_sz hs]
    exact hk90 ((bth_z hs).trans b3) hx (hc a H b1)
  · match k, hE, ht with
    | 0, hE, ht =>
      obtain rfl : 2 = E := Option.some.inj hE
      exact ⟨B', o', M', H, (a.1, false), nI 1, .int u, 1, 6, hI, hb, Nat.le_refl _, Nat.le_refl _, ht90_0 hx (hc a H b1), hr, ht, u, rfl, fun q => absurd q (by decide)⟩
    | 1, hE, ht =>
      obtain rfl : 1 = E := Option.some.inj hE
      exact ⟨B', o', M', H, (a.1, false), nI 2, .int u, 1, 6, hI, hb, Nat.le_refl _, Nat.le_refl _, ht90_1 hx (hc a H b1), hr, ht, u, rfl, fun q => absurd q (by decide)⟩
    | k + 2, hE, ht => exact absurd hE (by simp)
theorem hl6 {u0 : Int32} (hs : Sep t0 x y z w s) (hb : Bse t0 z w s LL xs H) (ho : Outc t0 x y L 93 174 [2] B o M [.int u0] [.int u0] isI) : Hlp t0 x y z w s LL xs L 92 174 H B o M [.int u0, .ref z] [.int u0] (VI z) := by
  intro a
  obtain ⟨s1, s2, s3, s4, s5⟩ := id hs
  obtain ⟨B', o', M', v, ⟨u, rfl⟩, hI, hr, hc⟩ := outc_bth ho s3 s1
  obtain ⟨l, hx⟩ := bth_x (h := H) (B := B) (o := o) (M := M) s3
  obtain ⟨b1, b2, ⟨f, b3⟩, ⟨g, b4⟩⟩ := id hb
  rcases hc with ⟨ht, hc⟩ | ⟨k, E, hE, ht, hc⟩
  · refine ⟨B', o', M', hset H z (.inl (3, 1, .inr (.inl (vp_updL f 0 u.toInt64)))), a, nI 0, .int u, 0, 0, hI, bse_z hs hb, Nat.zero_le _, Nat.zero_le _, ?_, hr, ht, u, rfl, fun _ => ⟨_, hset_s _ _ _, updL_0⟩⟩
    rw [← bth_sz hs]
    exact hk92 ((bth_z hs).trans b3) hx (hc a H b1)
  · match k, hE, ht with
    | 0, hE, ht =>
      obtain rfl : 2 = E := Option.some.inj hE
      exact ⟨B', o', M', H, (a.1, false), nI 1, .int u, 1, 6, hI, hb, Nat.le_refl _, Nat.le_refl _, ht92_0 hx (hc a H b1), hr, ht, u, rfl, fun q => absurd q (by decide)⟩
    | k + 1, hE, ht => exact absurd hE (by simp)
theorem hl8 {u0 u1 u2 u3 : Int32} (hs : Sep t0 x y z w s) (hb : Bse t0 z w s LL xs H) (ho : Outc t0 x y L 95 176 [2, 1, 0] B o M [.int u0, .int u1, .int u2, .int u3] [.int u0, .int u1, .int u2, .int u3] isI) : Hlp t0 x y z w s LL xs L 94 176 H B o M [.int u0, .int u1, .int u2, .int u3, .ref z] [.int u0, .int u1, .int u2, .int u3] (VB z) := by
  intro a
  obtain ⟨s1, s2, s3, s4, s5⟩ := id hs
  obtain ⟨B', o', M', v, ⟨u, rfl⟩, hI, hr, hc⟩ := outc_bth ho s3 s1
  obtain ⟨l, hx⟩ := bth_x (h := H) (B := B) (o := o) (M := M) s3
  obtain ⟨b1, b2, ⟨f, b3⟩, ⟨g, b4⟩⟩ := id hb
  rcases hc with ⟨ht, hc⟩ | ⟨k, E, hE, ht, hc⟩
  · refine ⟨B', o', M', hset H z (.inl (3, 1, .inr (.inl (vp_updL f 0 (if u = nI 0 then 0 else 1))))), a, nI 0, .int u, 0, 0, hI, bse_z hs hb, Nat.zero_le _, Nat.zero_le _, ?_, hr, ht, u, rfl, fun _ => ⟨_, hset_s _ _ _, updL_0⟩⟩
    rw [← bth_sz hs]
    exact hk94b ((bth_z hs).trans b3) hx (hc a H b1)
  · match k, hE, ht with
    | 0, hE, ht =>
      obtain rfl : 2 = E := Option.some.inj hE
      exact ⟨B', o', M', H, (a.1, false), nI 1, .int u, 1, 6, hI, hb, Nat.le_refl _, Nat.le_refl _, ht94_0 hx (hc a H b1), hr, ht, u, rfl, fun q => absurd q (by decide)⟩
    | 1, hE, ht =>
      obtain rfl : 1 = E := Option.some.inj hE
      exact ⟨B', o', M', H, (a.1, false), nI 2, .int u, 1, 6, hI, hb, Nat.le_refl _, Nat.le_refl _, ht94_1 hx (hc a H b1), hr, ht, u, rfl, fun q => absurd q (by decide)⟩
    | 2, hE, ht =>
      obtain rfl : 0 = E := Option.some.inj hE
      exact ⟨B', o', M', H, (a.1, false), nI 3, .int u, 1, 6, hI, hb, Nat.le_refl _, Nat.le_refl _, ht94_2 hx (hc a H b1), hr, ht, u, rfl, fun q => absurd q (by decide)⟩
    | k + 3, hE, ht => exact absurd hE (by simp)
theorem hl9 {u0 u1 u2 : Int32} (hs : Sep t0 x y z w s) (hb : Bse t0 z w s LL xs H) (ho : Outc t0 x y L 100 180 [2] B o M [.int u0, .int u1, .int u2] [.int u0, .int u1, .int u2] isI) : Hlp t0 x y z w s LL xs L 99 180 H B o M [.int u0, .int u1, .int u2, .ref z] [.int u0, .int u1, .int u2] (VI z) := by
  intro a
  obtain ⟨s1, s2, s3, s4, s5⟩ := id hs
  obtain ⟨B', o', M', v, ⟨u, rfl⟩, hI, hr, hc⟩ := outc_bth ho s3 s1
  obtain ⟨l, hx⟩ := bth_x (h := H) (B := B) (o := o) (M := M) s3
  obtain ⟨b1, b2, ⟨f, b3⟩, ⟨g, b4⟩⟩ := id hb
  rcases hc with ⟨ht, hc⟩ | ⟨k, E, hE, ht, hc⟩
  · refine ⟨B', o', M', hset H z (.inl (3, 1, .inr (.inl (vp_updL f 0 u.toInt64)))), a, nI 0, .int u, 0, 0, hI, bse_z hs hb, Nat.zero_le _, Nat.zero_le _, ?_, hr, ht, u, rfl, fun _ => ⟨_, hset_s _ _ _, updL_0⟩⟩
    rw [← bth_sz hs]
    exact hk99 ((bth_z hs).trans b3) hx (hc a H b1)
  · match k, hE, ht with
    | 0, hE, ht =>
      obtain rfl : 2 = E := Option.some.inj hE
      exact ⟨B', o', M', H, (a.1, false), nI 1, .int u, 1, 6, hI, hb, Nat.le_refl _, Nat.le_refl _, ht99_0 hx (hc a H b1), hr, ht, u, rfl, fun q => absurd q (by decide)⟩
    | k + 1, hE, ht => exact absurd hE (by simp)
theorem hl10 {u0 u1 u2 : Int32} (hs : Sep t0 x y z w s) (hb : Bse t0 z w s LL xs H) (ho : Outc t0 x y L 102 181 [2, 3] B o M [.int u0, .int u1, .int u2] [.int u0, .int u1, .int u2] isI) : Hlp t0 x y z w s LL xs L 101 181 H B o M [.int u0, .int u1, .int u2, .ref z] [.int u0, .int u1, .int u2] (VI z) := by
  intro a
  obtain ⟨s1, s2, s3, s4, s5⟩ := id hs
  obtain ⟨B', o', M', v, ⟨u, rfl⟩, hI, hr, hc⟩ := outc_bth ho s3 s1
  obtain ⟨l, hx⟩ := bth_x (h := H) (B := B) (o := o) (M := M) s3
  obtain ⟨b1, b2, ⟨f, b3⟩, ⟨g, b4⟩⟩ := id hb
  rcases hc with ⟨ht, hc⟩ | ⟨k, E, hE, ht, hc⟩
  · refine ⟨B', o', M', hset H z (.inl (3, 1, .inr (.inl (vp_updL f 0 u.toInt64)))), a, nI 0, .int u, 0, 0, hI, bse_z hs hb, Nat.zero_le _, Nat.zero_le _, ?_, hr, ht, u, rfl, fun _ => ⟨_, hset_s _ _ _, updL_0⟩⟩
    rw [← bth_sz hs]
    exact hk101 ((bth_z hs).trans b3) hx (hc a H b1)
  · match k, hE, ht with
    | 0, hE, ht =>
      obtain rfl : 2 = E := Option.some.inj hE
      exact ⟨B', o', M', H, (a.1, false), nI 1, .int u, 1, 6, hI, hb, Nat.le_refl _, Nat.le_refl _, ht101_0 hx (hc a H b1), hr, ht, u, rfl, fun q => absurd q (by decide)⟩
    | 1, hE, ht =>
      obtain rfl : 3 = E := Option.some.inj hE
      exact ⟨B', o', M', H, (a.1, false), nI 2, .int u, 1, 6, hI, hb, Nat.le_refl _, Nat.le_refl _, ht101_1 hx (hc a H b1), hr, ht, u, rfl, fun q => absurd q (by decide)⟩
    | k + 2, hE, ht => exact absurd hE (by simp)
theorem hl11 {u0 : Int32} (hs : Sep t0 x y z w s) (hb : Bse t0 z w s LL xs H) (ho : Outc t0 x y L 105 206 [1, 0] B o M [.int u0] [.int u0] isI) : Hlp t0 x y z w s LL xs L 104 206 H B o M [.int u0, .ref z] [.int u0] (VI z) := by
  intro a
  obtain ⟨s1, s2, s3, s4, s5⟩ := id hs
  obtain ⟨B', o', M', v, ⟨u, rfl⟩, hI, hr, hc⟩ := outc_bth ho s3 s1
  obtain ⟨l, hx⟩ := bth_x (h := H) (B := B) (o := o) (M := M) s3
  obtain ⟨b1, b2, ⟨f, b3⟩, ⟨g, b4⟩⟩ := id hb
  rcases hc with ⟨ht, hc⟩ | ⟨k, E, hE, ht, hc⟩
  · refine ⟨B', o', M', hset H z (.inl (3, 1, .inr (.inl (vp_updL f 0 u.toInt64)))), a, nI 0, .int u, 0, 0, hI, bse_z hs hb, Nat.zero_le _, Nat.zero_le _, ?_, hr, ht, u, rfl, fun _ => ⟨_, hset_s _ _ _, updL_0⟩⟩
    rw [← bth_sz hs]
    exact hk104 ((bth_z hs).trans b3) hx (hc a H b1)
  · match k, hE, ht with
    | 0, hE, ht =>
      obtain rfl : 1 = E := Option.some.inj hE
      exact ⟨B', o', M', H, (a.1, false), nI 1, .int u, 1, 6, hI, hb, Nat.le_refl _, Nat.le_refl _, ht104_0 hx (hc a H b1), hr, ht, u, rfl, fun q => absurd q (by decide)⟩
    | 1, hE, ht =>
      obtain rfl : 0 = E := Option.some.inj hE
      exact ⟨B', o', M', H, (a.1, false), nI 2, .int u, 1, 6, hI, hb, Nat.le_refl _, Nat.le_refl _, ht104_1 hx (hc a H b1), hr, ht, u, rfl, fun q => absurd q (by decide)⟩
    | k + 2, hE, ht => exact absurd hE (by simp)
theorem hl12 {u0 u1 u2 u3 : Int32} (hs : Sep t0 x y z w s) (hb : Bse t0 z w s LL xs H) (ho : Outc t0 x y L 107 182 [2, 1] B o M [.int u0, .int u1, .int u2, .int u3] [.int u0, .int u1, .int u2, .int u3] isI) : Hlp t0 x y z w s LL xs L 106 182 H B o M [.int u0, .int u1, .int u2, .int u3, .ref z] [.int u0, .int u1, .int u2, .int u3] (VI z) := by
  intro a
  obtain ⟨s1, s2, s3, s4, s5⟩ := id hs
  obtain ⟨B', o', M', v, ⟨u, rfl⟩, hI, hr, hc⟩ := outc_bth ho s3 s1
  obtain ⟨l, hx⟩ := bth_x (h := H) (B := B) (o := o) (M := M) s3
  obtain ⟨b1, b2, ⟨f, b3⟩, ⟨g, b4⟩⟩ := id hb
  rcases hc with ⟨ht, hc⟩ | ⟨k, E, hE, ht, hc⟩
  · refine ⟨B', o', M', hset H z (.inl (3, 1, .inr (.inl (vp_updL f 0 u.toInt64)))), a, nI 0, .int u, 0, 0, hI, bse_z hs hb, Nat.zero_le _, Nat.zero_le _, ?_, hr, ht, u, rfl, fun _ => ⟨_, hset_s _ _ _, updL_0⟩⟩
    rw [← bth_sz hs]
    exact hk106 ((bth_z hs).trans b3) hx (hc a H b1)
  · match k, hE, ht with
    | 0, hE, ht =>
      obtain rfl : 2 = E := Option.some.inj hE
      exact ⟨B', o', M', H, (a.1, false), nI 1, .int u, 1, 6, hI, hb, Nat.le_refl _, Nat.le_refl _, ht106_0 hx (hc a H b1), hr, ht, u, rfl, fun q => absurd q (by decide)⟩
    | 1, hE, ht =>
      obtain rfl : 1 = E := Option.some.inj hE
      exact ⟨B', o', M', H, (a.1, false), nI 2, .int u, 1, 6, hI, hb, Nat.le_refl _, Nat.le_refl _, ht106_1 hx (hc a H b1), hr, ht, u, rfl, fun q => absurd q (by decide)⟩
    | k + 2, hE, ht => exact absurd hE (by simp)
theorem hl13 {u0 u1 u2 u3 u4 : Int32} (hs : Sep t0 x y z w s) (hb : Bse t0 z w s LL xs H) (ho : Outc t0 x y L 111 193 [2, 1, 3] B o M [.int u0, .int u1, .int u2, .int u3, .int u4] [.int u0, .int u1, .int u2, .int u3, .int u4] isI) : Hlp t0 x y z w s LL xs L 110 193 H B o M [.int u0, .int u1, .int u2, .int u3, .int u4, .ref z] [.int u0, .int u1, .int u2, .int u3, .int u4] (VI z) := by
  intro a
  obtain ⟨s1, s2, s3, s4, s5⟩ := id hs
  obtain ⟨B', o', M', v, ⟨u, rfl⟩, hI, hr, hc⟩ := outc_bth ho s3 s1
  obtain ⟨l, hx⟩ := bth_x (h := H) (B := B) (o := o) (M := M) s3
  obtain ⟨b1, b2, ⟨f, b3⟩, ⟨g, b4⟩⟩ := id hb
  rcases hc with ⟨ht, hc⟩ | ⟨k, E, hE, ht, hc⟩
  · refine ⟨B', o', M', hset H z (.inl (3, 1, .inr (.inl (vp_updL f 0 u.toInt64)))), a, nI 0, .int u, 0, 0, hI, bse_z hs hb, Nat.zero_le _, Nat.zero_le _, ?_, hr, ht, u, rfl, fun _ => ⟨_, hset_s _ _ _, updL_0⟩⟩
    rw [← bth_sz hs]
    exact hk110 ((bth_z hs).trans b3) hx (hc a H b1)
  · match k, hE, ht with
    | 0, hE, ht =>
      obtain rfl : 2 = E := Option.some.inj hE
      exact ⟨B', o', M', H, (a.1, false), nI 1, .int u, 1, 6, hI, hb, Nat.le_refl _, Nat.le_refl _, ht110_0 hx (hc a H b1), hr, ht, u, rfl, fun q => absurd q (by decide)⟩
    | 1, hE, ht =>
      obtain rfl : 1 = E := Option.some.inj hE
      exact ⟨B', o', M', H, (a.1, false), nI 2, .int u, 1, 6, hI, hb, Nat.le_refl _, Nat.le_refl _, ht110_1 hx (hc a H b1), hr, ht, u, rfl, fun q => absurd q (by decide)⟩
    | 2, hE, ht =>
      obtain rfl : 3 = E := Option.some.inj hE
      exact ⟨B', o', M', H, (a.1, false), nI 3, .int u, 1, 6, hI, hb, Nat.le_refl _, Nat.le_refl _, ht110_2 hx (hc a H b1), hr, ht, u, rfl, fun q => absurd q (by decide)⟩
    | k + 3, hE, ht => exact absurd hE (by simp)
theorem hl14 {u0 u1 u2 u3 u4 u5 : Int32} (hs : Sep t0 x y z w s) (hb : Bse t0 z w s LL xs H) (ho : Outc t0 x y L 114 196 [2, 1, 0] B o M [.int u0, .int u1, .int u2, .int u3, .int u4, .int u5] [.int u0, .int u1, .int u2, .int u3, .int u4, .int u5] isI) : Hlp t0 x y z w s LL xs L 113 196 H B o M [.int u0, .int u1, .int u2, .int u3, .int u4, .int u5, .ref z] [.int u0, .int u1, .int u2, .int u3, .int u4, .int u5] (VI z) := by
  intro a
  obtain ⟨s1, s2, s3, s4, s5⟩ := id hs
  obtain ⟨B', o', M', v, ⟨u, rfl⟩, hI, hr, hc⟩ := outc_bth ho s3 s1
  obtain ⟨l, hx⟩ := bth_x (h := H) (B := B) (o := o) (M := M) s3
  obtain ⟨b1, b2, ⟨f, b3⟩, ⟨g, b4⟩⟩ := id hb
  rcases hc with ⟨ht, hc⟩ | ⟨k, E, hE, ht, hc⟩
  · refine ⟨B', o', M', hset H z (.inl (3, 1, .inr (.inl (vp_updL f 0 u.toInt64)))), a, nI 0, .int u, 0, 0, hI, bse_z hs hb, Nat.zero_le _, Nat.zero_le _, ?_, hr, ht, u, rfl, fun _ => ⟨_, hset_s _ _ _, updL_0⟩⟩
    rw [← bth_sz hs]
    exact hk113 ((bth_z hs).trans b3) hx (hc a H b1)
  · match k, hE, ht with
    | 0, hE, ht =>
      obtain rfl : 2 = E := Option.some.inj hE
      exact ⟨B', o', M', H, (a.1, false), nI 1, .int u, 1, 6, hI, hb, Nat.le_refl _, Nat.le_refl _, ht113_0 hx (hc a H b1), hr, ht, u, rfl, fun q => absurd q (by decide)⟩
    | 1, hE, ht =>
      obtain rfl : 1 = E := Option.some.inj hE
      exact ⟨B', o', M', H, (a.1, false), nI 2, .int u, 1, 6, hI, hb, Nat.le_refl _, Nat.le_refl _, ht113_1 hx (hc a H b1), hr, ht, u, rfl, fun q => absurd q (by decide)⟩
    | 2, hE, ht =>
      obtain rfl : 0 = E := Option.some.inj hE
      exact ⟨B', o', M', H, (a.1, false), nI 3, .int u, 1, 6, hI, hb, Nat.le_refl _, Nat.le_refl _, ht113_2 hx (hc a H b1), hr, ht, u, rfl, fun q => absurd q (by decide)⟩
    | k + 3, hE, ht => exact absurd hE (by simp)
theorem hl15 {u0 : Int32} (hs : Sep t0 x y z w s) (hb : Bse t0 z w s LL xs H) (ho : Outc t0 x y L 118 202 [3] B o M [.int u0] [.int u0] isI) : Hlp t0 x y z w s LL xs L 117 202 H B o M [.int u0, .ref z] [.int u0] (VI z) := by
  intro a
  obtain ⟨s1, s2, s3, s4, s5⟩ := id hs
  obtain ⟨B', o', M', v, ⟨u, rfl⟩, hI, hr, hc⟩ := outc_bth ho s3 s1
  obtain ⟨l, hx⟩ := bth_x (h := H) (B := B) (o := o) (M := M) s3
  obtain ⟨b1, b2, ⟨f, b3⟩, ⟨g, b4⟩⟩ := id hb
  rcases hc with ⟨ht, hc⟩ | ⟨k, E, hE, ht, hc⟩
  · refine ⟨B', o', M', hset H z (.inl (3, 1, .inr (.inl (vp_updL f 0 u.toInt64)))), a, nI 0, .int u, 0, 0, hI, bse_z hs hb, Nat.zero_le _, Nat.zero_le _, ?_, hr, ht, u, rfl, fun _ => ⟨_, hset_s _ _ _, updL_0⟩⟩
    rw [← bth_sz hs]
    exact hk117 ((bth_z hs).trans b3) hx (hc a H b1)
  · match k, hE, ht with
    | 0, hE, ht =>
      obtain rfl : 3 = E := Option.some.inj hE
      exact ⟨B', o', M', H, (a.1, false), nI 1, .int u, 1, 6, hI, hb, Nat.le_refl _, Nat.le_refl _, ht117_0 hx (hc a H b1), hr, ht, u, rfl, fun q => absurd q (by decide)⟩
    | k + 1, hE, ht => exact absurd hE (by simp)
theorem hl16 {u0 : Int32} (hs : Sep t0 x y z w s) (hb : Bse t0 z w s LL xs H) (ho : Outc t0 x y L 121 207 [3, 0] B o M [.int u0] [.int u0] isI) : Hlp t0 x y z w s LL xs L 120 207 H B o M [.int u0, .ref z] [.int u0] (VI z) := by
  intro a
  obtain ⟨s1, s2, s3, s4, s5⟩ := id hs
  obtain ⟨B', o', M', v, ⟨u, rfl⟩, hI, hr, hc⟩ := outc_bth ho s3 s1
  obtain ⟨l, hx⟩ := bth_x (h := H) (B := B) (o := o) (M := M) s3
  obtain ⟨b1, b2, ⟨f, b3⟩, ⟨g, b4⟩⟩ := id hb
  rcases hc with ⟨ht, hc⟩ | ⟨k, E, hE, ht, hc⟩
  · refine ⟨B', o', M', hset H z (.inl (3, 1, .inr (.inl (vp_updL f 0 u.toInt64)))), a, nI 0, .int u, 0, 0, hI, bse_z hs hb, Nat.zero_le _, Nat.zero_le _, ?_, hr, ht, u, rfl, fun _ => ⟨_, hset_s _ _ _, updL_0⟩⟩
    rw [← bth_sz hs]
    exact hk120 ((bth_z hs).trans b3) hx (hc a H b1)
  · match k, hE, ht with
    | 0, hE, ht =>
      obtain rfl : 3 = E := Option.some.inj hE
      exact ⟨B', o', M', H, (a.1, false), nI 1, .int u, 1, 6, hI, hb, Nat.le_refl _, Nat.le_refl _, ht120_0 hx (hc a H b1), hr, ht, u, rfl, fun q => absurd q (by decide)⟩
    | 1, hE, ht =>
      obtain rfl : 0 = E := Option.some.inj hE
      exact ⟨B', o', M', H, (a.1, false), nI 2, .int u, 1, 6, hI, hb, Nat.le_refl _, Nat.le_refl _, ht120_1 hx (hc a H b1), hr, ht, u, rfl, fun q => absurd q (by decide)⟩
    | k + 2, hE, ht => exact absurd hE (by simp)
theorem hl17 {u0 u1 : Int32} (hs : Sep t0 x y z w s) (hb : Bse t0 z w s LL xs H) (ho : Outc t0 x y L 125 205 [3, 1] B o M [.int u0, .int u1] [.int u0, .int u1] isI) : Hlp t0 x y z w s LL xs L 124 205 H B o M [.int u0, .int u1, .ref z] [.int u0, .int u1] (VI z) := by
  intro a
  obtain ⟨s1, s2, s3, s4, s5⟩ := id hs
  obtain ⟨B', o', M', v, ⟨u, rfl⟩, hI, hr, hc⟩ := outc_bth ho s3 s1
  obtain ⟨l, hx⟩ := bth_x (h := H) (B := B) (o := o) (M := M) s3
  obtain ⟨b1, b2, ⟨f, b3⟩, ⟨g, b4⟩⟩ := id hb
  rcases hc with ⟨ht, hc⟩ | ⟨k, E, hE, ht, hc⟩
  · refine ⟨B', o', M', hset H z (.inl (3, 1, .inr (.inl (vp_updL f 0 u.toInt64)))), a, nI 0, .int u, 0, 0, hI, bse_z hs hb, Nat.zero_le _, Nat.zero_le _, ?_, hr, ht, u, rfl, fun _ => ⟨_, hset_s _ _ _, updL_0⟩⟩
    rw [← bth_sz hs]
    exact hk124 ((bth_z hs).trans b3) hx (hc a H b1)
  · match k, hE, ht with
    | 0, hE, ht =>
      obtain rfl : 3 = E := Option.some.inj hE
      exact ⟨B', o', M', H, (a.1, false), nI 1, .int u, 1, 6, hI, hb, Nat.le_refl _, Nat.le_refl _, ht124_0 hx (hc a H b1), hr, ht, u, rfl, fun q => absurd q (by decide)⟩
    | 1, hE, ht =>
      obtain rfl : 1 = E := Option.some.inj hE
      exact ⟨B', o', M', H, (a.1, false), nI 2, .int u, 1, 6, hI, hb, Nat.le_refl _, Nat.le_refl _, ht124_1 hx (hc a H b1), hr, ht, u, rfl, fun q => absurd q (by decide)⟩
    | k + 2, hE, ht => exact absurd hE (by simp)
theorem hl18 {u0 u1 u2 : Int32} (hs : Sep t0 x y z w s) (hb : Bse t0 z w s LL xs H) (ho : Outc t0 x y L 127 211 [3, 1] B o M [.int u0, .int u1, .int u2] [.int u0, .int u1, .int u2] isI) : Hlp t0 x y z w s LL xs L 126 211 H B o M [.int u0, .int u1, .int u2, .ref z] [.int u0, .int u1, .int u2] (VI z) := by
  intro a
  obtain ⟨s1, s2, s3, s4, s5⟩ := id hs
  obtain ⟨B', o', M', v, ⟨u, rfl⟩, hI, hr, hc⟩ := outc_bth ho s3 s1
  obtain ⟨l, hx⟩ := bth_x (h := H) (B := B) (o := o) (M := M) s3
  obtain ⟨b1, b2, ⟨f, b3⟩, ⟨g, b4⟩⟩ := id hb
  rcases hc with ⟨ht, hc⟩ | ⟨k, E, hE, ht, hc⟩
  · refine ⟨B', o', M', hset H z (.inl (3, 1, .inr (.inl (vp_updL f 0 u.toInt64)))), a, nI 0, .int u, 0, 0, hI, bse_z hs hb, Nat.zero_le _, Nat.zero_le _, ?_, hr, ht, u, rfl, fun _ => ⟨_, hset_s _ _ _, updL_0⟩⟩
    rw [← bth_sz hs]
    exact hk126 ((bth_z hs).trans b3) hx (hc a H b1)
  · match k, hE, ht with
    | 0, hE, ht =>
      obtain rfl : 3 = E := Option.some.inj hE
      exact ⟨B', o', M', H, (a.1, false), nI 1, .int u, 1, 6, hI, hb, Nat.le_refl _, Nat.le_refl _, ht126_0 hx (hc a H b1), hr, ht, u, rfl, fun q => absurd q (by decide)⟩
    | 1, hE, ht =>
      obtain rfl : 1 = E := Option.some.inj hE
      exact ⟨B', o', M', H, (a.1, false), nI 2, .int u, 1, 6, hI, hb, Nat.le_refl _, Nat.le_refl _, ht126_1 hx (hc a H b1), hr, ht, u, rfl, fun q => absurd q (by decide)⟩
    | k + 2, hE, ht => exact absurd hE (by simp)
theorem hl19 {u0 u1 u2 : Int32} (hs : Sep t0 x y z w s) (hb : Bse t0 z w s LL xs H) (ho : Outc t0 x y L 129 216 [2, 0] B o M [.int u0, .int u1, .int u2] [.int u0, .int u1, .int u2] isI) : Hlp t0 x y z w s LL xs L 128 216 H B o M [.int u0, .int u1, .int u2, .ref z] [.int u0, .int u1, .int u2] (VI z) := by
  intro a
  obtain ⟨s1, s2, s3, s4, s5⟩ := id hs
  obtain ⟨B', o', M', v, ⟨u, rfl⟩, hI, hr, hc⟩ := outc_bth ho s3 s1
  obtain ⟨l, hx⟩ := bth_x (h := H) (B := B) (o := o) (M := M) s3
  obtain ⟨b1, b2, ⟨f, b3⟩, ⟨g, b4⟩⟩ := id hb
  rcases hc with ⟨ht, hc⟩ | ⟨k, E, hE, ht, hc⟩
  · refine ⟨B', o', M', hset H z (.inl (3, 1, .inr (.inl (vp_updL f 0 u.toInt64)))), a, nI 0, .int u, 0, 0, hI, bse_z hs hb, Nat.zero_le _, Nat.zero_le _, ?_, hr, ht, u, rfl, fun _ => ⟨_, hset_s _ _ _, updL_0⟩⟩
    rw [← bth_sz hs]
    exact hk128 ((bth_z hs).trans b3) hx (hc a H b1)
  · match k, hE, ht with
    | 0, hE, ht =>
      obtain rfl : 2 = E := Option.some.inj hE
      exact ⟨B', o', M', H, (a.1, false), nI 1, .int u, 1, 6, hI, hb, Nat.le_refl _, Nat.le_refl _, ht128_0 hx (hc a H b1), hr, ht, u, rfl, fun q => absurd q (by decide)⟩
    | 1, hE, ht =>
      obtain rfl : 0 = E := Option.some.inj hE
      exact ⟨B', o', M', H, (a.1, false), nI 2, .int u, 1, 6, hI, hb, Nat.le_refl _, Nat.le_refl _, ht128_1 hx (hc a H b1), hr, ht, u, rfl, fun q => absurd q (by decide)⟩
    | k + 2, hE, ht => exact absurd hE (by simp)
theorem hl20 {u0 u1 : Int32} (hs : Sep t0 x y z w s) (hb : Bse t0 z w s LL xs H) (ho : Outc t0 x y L 132 219 [0] B o M [.int u0, .int u1] [.int u0, .int u1] isI) : Hlp t0 x y z w s LL xs L 131 219 H B o M [.int u0, .int u1, .ref z] [.int u0, .int u1] (VI z) := by
  intro a
  obtain ⟨s1, s2, s3, s4, s5⟩ := id hs
  obtain ⟨B', o', M', v, ⟨u, rfl⟩, hI, hr, hc⟩ := outc_bth ho s3 s1
  obtain ⟨l, hx⟩ := bth_x (h := H) (B := B) (o := o) (M := M) s3
  obtain ⟨b1, b2, ⟨f, b3⟩, ⟨g, b4⟩⟩ := id hb
  rcases hc with ⟨ht, hc⟩ | ⟨k, E, hE, ht, hc⟩
  · refine ⟨B', o', M', hset H z (.inl (3, 1, .inr (.inl (vp_updL f 0 u.toInt64)))), a, nI 0, .int u, 0, 0, hI, bse_z hs hb, Nat.zero_le _, Nat.zero_le _, ?_, hr, ht, u, rfl, fun _ => ⟨_, hset_s _ _ _, updL_0⟩⟩
    rw [← bth_sz hs]
    exact hk131 ((bth_z hs).trans b3) hx (hc a H b1)
  · match k, hE, ht with
    | 0, hE, ht =>
      obtain rfl : 0 = E := Option.some.inj hE
      exact ⟨B', o', M', H, (a.1, false), nI 1, .int u, 1, 6, hI, hb, Nat.le_refl _, Nat.le_refl _, ht131_0 hx (hc a H b1), hr, ht, u, rfl, fun q => absurd q (by decide)⟩
    | k + 1, hE, ht => exact absurd hE (by simp)
theorem hl21 {u0 u1 : Int32} (hs : Sep t0 x y z w s) (hb : Bse t0 z w s LL xs H) (ho : Outc t0 x y L 135 222 [2, 1] B o M [.int u0, .int u1] [.int u0, .int u1] isI) : Hlp t0 x y z w s LL xs L 134 222 H B o M [.int u0, .int u1, .ref z] [.int u0, .int u1] (VI z) := by
  intro a
  obtain ⟨s1, s2, s3, s4, s5⟩ := id hs
  obtain ⟨B', o', M', v, ⟨u, rfl⟩, hI, hr, hc⟩ := outc_bth ho s3 s1
  obtain ⟨l, hx⟩ := bth_x (h := H) (B := B) (o := o) (M := M) s3
  obtain ⟨b1, b2, ⟨f, b3⟩, ⟨g, b4⟩⟩ := id hb
  rcases hc with ⟨ht, hc⟩ | ⟨k, E, hE, ht, hc⟩
  · refine ⟨B', o', M', hset H z (.inl (3, 1, .inr (.inl (vp_updL f 0 u.toInt64)))), a, nI 0, .int u, 0, 0, hI, bse_z hs hb, Nat.zero_le _, Nat.zero_le _, ?_, hr, ht, u, rfl, fun _ => ⟨_, hset_s _ _ _, updL_0⟩⟩
    rw [← bth_sz hs]
    exact hk134 ((bth_z hs).trans b3) hx (hc a H b1)
  · match k, hE, ht with
    | 0, hE, ht =>
      obtain rfl : 2 = E := Option.some.inj hE
      exact ⟨B', o', M', H, (a.1, false), nI 1, .int u, 1, 6, hI, hb, Nat.le_refl _, Nat.le_refl _, ht134_0 hx (hc a H b1), hr, ht, u, rfl, fun q => absurd q (by decide)⟩
    | 1, hE, ht =>
      obtain rfl : 1 = E := Option.some.inj hE
      exact ⟨B', o', M', H, (a.1, false), nI 2, .int u, 1, 6, hI, hb, Nat.le_refl _, Nat.le_refl _, ht134_1 hx (hc a H b1), hr, ht, u, rfl, fun q => absurd q (by decide)⟩
    | k + 2, hE, ht => exact absurd hE (by simp)
theorem hl22 {u0 : Int32} (hs : Sep t0 x y z w s) (hb : Bse t0 z w s LL xs H) (ho : Outc t0 x y L 140 226 [2] B o M [.int u0] [.int u0] isI) : Hlp t0 x y z w s LL xs L 139 226 H B o M [.int u0, .ref z] [.int u0] (VI z) := by
  intro a
  obtain ⟨s1, s2, s3, s4, s5⟩ := id hs
  obtain ⟨B', o', M', v, ⟨u, rfl⟩, hI, hr, hc⟩ := outc_bth ho s3 s1
  obtain ⟨l, hx⟩ := bth_x (h := H) (B := B) (o := o) (M := M) s3
  obtain ⟨b1, b2, ⟨f, b3⟩, ⟨g, b4⟩⟩ := id hb
  rcases hc with ⟨ht, hc⟩ | ⟨k, E, hE, ht, hc⟩
  · refine ⟨B', o', M', hset H z (.inl (3, 1, .inr (.inl (vp_updL f 0 u.toInt64)))), a, nI 0, .int u, 0, 0, hI, bse_z hs hb, Nat.zero_le _, Nat.zero_le _, ?_, hr, ht, u, rfl, fun _ => ⟨_, hset_s _ _ _, updL_0⟩⟩
    rw [← bth_sz hs]
    exact hk139 ((bth_z hs).trans b3) hx (hc a H b1)
  · match k, hE, ht with
    | 0, hE, ht =>
      obtain rfl : 2 = E := Option.some.inj hE
      exact ⟨B', o', M', H, (a.1, false), nI 1, .int u, 1, 6, hI, hb, Nat.le_refl _, Nat.le_refl _, ht139_0 hx (hc a H b1), hr, ht, u, rfl, fun q => absurd q (by decide)⟩
    | k + 1, hE, ht => exact absurd hE (by simp)
theorem hl23 {u0 : Int32} (hs : Sep t0 x y z w s) (hb : Bse t0 z w s LL xs H) (ho : Outc t0 x y L 142 227 [2, 4] B o M [.int u0] [.int u0] isD) : Hlp t0 x y z w s LL xs L 141 227 H B o M [.int u0, .ref w] [.int u0] (VD w) := by
  intro a
  obtain ⟨s1, s2, s3, s4, s5⟩ := id hs
  obtain ⟨B', o', M', v, ⟨u, rfl, hn⟩, hI, hr, hc⟩ := outc_bth ho s3 s1
  obtain ⟨l, hx⟩ := bth_x (h := H) (B := B) (o := o) (M := M) s3
  obtain ⟨b1, b2, ⟨f, b3⟩, ⟨g, b4⟩⟩ := id hb
  rcases hc with ⟨ht, hc⟩ | ⟨k, E, hE, ht, hc⟩
  · refine ⟨B', o', M', hset H w (.inl (4, 1, .inr (.inr (.inr (.inl (vf_upd g 0 u)))))), a, nI 0, .double u, 0, 0, hI, bse_w hs hb, Nat.zero_le _, Nat.zero_le _, ?_, hr, ht, u, rfl, hn, fun _ => ⟨_, hset_s _ _ _, updD_0⟩⟩
    rw [← bth_sw hs]
    exact hk141 ((bth_w hs).trans b4) hx (hc a H b1)
  · match k, hE, ht with
    | 0, hE, ht =>
      obtain rfl : 2 = E := Option.some.inj hE
      exact ⟨B', o', M', H, (a.1, false), nI 1, .double u, 1, 6, hI, hb, Nat.le_refl _, Nat.le_refl _, ht141_0 hx (hc a H b1), hr, ht, u, rfl, hn, fun q => absurd q (by decide)⟩
    | 1, hE, ht =>
      obtain rfl : 4 = E := Option.some.inj hE
      exact ⟨B', o', M', H, (a.1, false), nI 2, .double u, 1, 6, hI, hb, Nat.le_refl _, Nat.le_refl _, ht141_1 hx (hc a H b1), hr, ht, u, rfl, hn, fun q => absurd q (by decide)⟩
    | k + 2, hE, ht => exact absurd hE (by simp)
theorem hl24 (hs : Sep t0 x y z w s) (hb : Bse t0 z w s LL xs H) (ho : Outc t0 x y L 144 228 [4] B o M [] [] isF) : Hlp t0 x y z w s LL xs L 143 228 H B o M [.ref w] [] (VF w) := by
  intro a
  obtain ⟨s1, s2, s3, s4, s5⟩ := id hs
  obtain ⟨B', o', M', v, ⟨u, rfl, hn⟩, hI, hr, hc⟩ := outc_bth ho s3 s1
  obtain ⟨l, hx⟩ := bth_x (h := H) (B := B) (o := o) (M := M) s3
  obtain ⟨b1, b2, ⟨f, b3⟩, ⟨g, b4⟩⟩ := id hb
  have hn2 : FP.f2d u &&& 0x7fffffffffffffff ≤ 0x7ff0000000000000 := f2d_ok hn (by decide)
  rcases hc with ⟨ht, hc⟩ | ⟨k, E, hE, ht, hc⟩
  · refine ⟨B', o', M', hset H w (.inl (4, 1, .inr (.inr (.inr (.inl (vf_upd g 0 (FP.f2d u))))))), a, nI 0, .float u, 0, 0, hI, bse_w hs hb, Nat.zero_le _, Nat.zero_le _, ?_, hr, ht, u, rfl, hn2, fun _ => ⟨_, hset_s _ _ _, updD_0⟩⟩
    rw [← bth_sw hs]
    exact hk143 ((bth_w hs).trans b4) hn2 hx (hc a H b1)
  · match k, hE, ht with
    | 0, hE, ht =>
      obtain rfl : 4 = E := Option.some.inj hE
      exact ⟨B', o', M', H, (a.1, false), nI 1, .float u, 1, 6, hI, hb, Nat.le_refl _, Nat.le_refl _, ht143_0 hx (hc a H b1), hr, ht, u, rfl, hn2, fun q => absurd q (by decide)⟩
    | k + 1, hE, ht => exact absurd hE (by simp)
theorem hl25 {u0 : Int32} (hs : Sep t0 x y z w s) (hb : Bse t0 z w s LL xs H) (ho : Outc t0 x y L 147 229 [1] B o M [.int u0] [.int u0] isI) : Hlp t0 x y z w s LL xs L 146 229 H B o M [.int u0, .ref z] [.int u0] (VI z) := by
  intro a
  obtain ⟨s1, s2, s3, s4, s5⟩ := id hs
  obtain ⟨B', o', M', v, ⟨u, rfl⟩, hI, hr, hc⟩ := outc_bth ho s3 s1
  obtain ⟨l, hx⟩ := bth_x (h := H) (B := B) (o := o) (M := M) s3
  obtain ⟨b1, b2, ⟨f, b3⟩, ⟨g, b4⟩⟩ := id hb
  rcases hc with ⟨ht, hc⟩ | ⟨k, E, hE, ht, hc⟩
  · refine ⟨B', o', M', hset H z (.inl (3, 1, .inr (.inl (vp_updL f 0 u.toInt64)))), a, nI 0, .int u, 0, 0, hI, bse_z hs hb, Nat.zero_le _, Nat.zero_le _, ?_, hr, ht, u, rfl, fun _ => ⟨_, hset_s _ _ _, updL_0⟩⟩
    rw [← bth_sz hs]
    exact hk146 ((bth_z hs).trans b3) hx (hc a H b1)
  · match k, hE, ht with
    | 0, hE, ht =>
      obtain rfl : 1 = E := Option.some.inj hE
      exact ⟨B', o', M', H, (a.1, false), nI 1, .int u, 1, 6, hI, hb, Nat.le_refl _, Nat.le_refl _, ht146_0 hx (hc a H b1), hr, ht, u, rfl, fun q => absurd q (by decide)⟩
    | k + 1, hE, ht => exact absurd hE (by simp)
theorem hl26 {u0 u1 : Int32} (hs : Sep t0 x y z w s) (hb : Bse t0 z w s LL xs H) (ho : Outc t0 x y L 149 231 [2] B o M [.int u0, .int u1] [.int u0, .int u1] isI) : Hlp t0 x y z w s LL xs L 148 231 H B o M [.int u0, .int u1, .ref z] [.int u0, .int u1] (VI z) := by
  intro a
  obtain ⟨s1, s2, s3, s4, s5⟩ := id hs
  obtain ⟨B', o', M', v, ⟨u, rfl⟩, hI, hr, hc⟩ := outc_bth ho s3 s1
  obtain ⟨l, hx⟩ := bth_x (h := H) (B := B) (o := o) (M := M) s3
  obtain ⟨b1, b2, ⟨f, b3⟩, ⟨g, b4⟩⟩ := id hb
  rcases hc with ⟨ht, hc⟩ | ⟨k, E, hE, ht, hc⟩
  · refine ⟨B', o', M', hset H z (.inl (3, 1, .inr (.inl (vp_updL f 0 u.toInt64)))), a, nI 0, .int u, 0, 0, hI, bse_z hs hb, Nat.zero_le _, Nat.zero_le _, ?_, hr, ht, u, rfl, fun _ => ⟨_, hset_s _ _ _, updL_0⟩⟩
    rw [← bth_sz hs]
    exact hk148 ((bth_z hs).trans b3) hx (hc a H b1)
  · match k, hE, ht with
    | 0, hE, ht =>
      obtain rfl : 2 = E := Option.some.inj hE
      exact ⟨B', o', M', H, (a.1, false), nI 1, .int u, 1, 6, hI, hb, Nat.le_refl _, Nat.le_refl _, ht148_0 hx (hc a H b1), hr, ht, u, rfl, fun q => absurd q (by decide)⟩
    | k + 1, hE, ht => exact absurd hE (by simp)
theorem hl28 (hs : Sep t0 x y z w s) (hb : Bse t0 z w s LL xs H) (ho : Outc t0 x y L 151 233 [0] B o M [] [] isI) : Hlp t0 x y z w s LL xs L 150 233 H B o M [.ref z] [] (VI z) := by
  intro a
  obtain ⟨s1, s2, s3, s4, s5⟩ := id hs
  obtain ⟨B', o', M', v, ⟨u, rfl⟩, hI, hr, hc⟩ := outc_bth ho s3 s1
  obtain ⟨l, hx⟩ := bth_x (h := H) (B := B) (o := o) (M := M) s3
  obtain ⟨b1, b2, ⟨f, b3⟩, ⟨g, b4⟩⟩ := id hb
  rcases hc with ⟨ht, hc⟩ | ⟨k, E, hE, ht, hc⟩
  · refine ⟨B', o', M', hset H z (.inl (3, 1, .inr (.inl (vp_updL f 0 u.toInt64)))), a, nI 0, .int u, 0, 0, hI, bse_z hs hb, Nat.zero_le _, Nat.zero_le _, ?_, hr, ht, u, rfl, fun _ => ⟨_, hset_s _ _ _, updL_0⟩⟩
    rw [← bth_sz hs]
    exact hk150 ((bth_z hs).trans b3) hx (hc a H b1)
  · match k, hE, ht with
    | 0, hE, ht =>
      obtain rfl : 0 = E := Option.some.inj hE
      exact ⟨B', o', M', H, (a.1, false), nI 1, .int u, 1, 6, hI, hb, Nat.le_refl _, Nat.le_refl _, ht150_0 hx (hc a H b1), hr, ht, u, rfl, fun q => absurd q (by decide)⟩
    | k + 1, hE, ht => exact absurd hE (by simp)
theorem hl31 (hs : Sep t0 x y z w s) (hb : Bse t0 z w s LL xs H) (ho : Outc t0 x y L 153 236 [0] B o M [] [] isI) : Hlp t0 x y z w s LL xs L 152 236 H B o M [.ref z] [] (VI z) := by
  intro a
  obtain ⟨s1, s2, s3, s4, s5⟩ := id hs
  obtain ⟨B', o', M', v, ⟨u, rfl⟩, hI, hr, hc⟩ := outc_bth ho s3 s1
  obtain ⟨l, hx⟩ := bth_x (h := H) (B := B) (o := o) (M := M) s3
  obtain ⟨b1, b2, ⟨f, b3⟩, ⟨g, b4⟩⟩ := id hb
  rcases hc with ⟨ht, hc⟩ | ⟨k, E, hE, ht, hc⟩
  · refine ⟨B', o', M', hset H z (.inl (3, 1, .inr (.inl (vp_updL f 0 u.toInt64)))), a, nI 0, .int u, 0, 0, hI, bse_z hs hb, Nat.zero_le _, Nat.zero_le _, ?_, hr, ht, u, rfl, fun _ => ⟨_, hset_s _ _ _, updL_0⟩⟩
    rw [← bth_sz hs]
    exact hk152 ((bth_z hs).trans b3) hx (hc a H b1)
  · match k, hE, ht with
    | 0, hE, ht =>
      obtain rfl : 0 = E := Option.some.inj hE
      exact ⟨B', o', M', H, (a.1, false), nI 1, .int u, 1, 6, hI, hb, Nat.le_refl _, Nat.le_refl _, ht152_0 hx (hc a H b1), hr, ht, u, rfl, fun q => absurd q (by decide)⟩
    | k + 1, hE, ht => exact absurd hE (by simp)
end HLP
