/-! a round of the law's loop, case by case -/
section CASES
variable {t0 x y z w s LL L i : Nat} {xs : Nat → Int32} {H : xHp} {B : Bx} {o : Off} {M : Md}
theorem lc24 (hs : Sep t0 x y z w s) (hb : Bse t0 z w s LL xs H) (hi : i + 7 ≤ LL) (hLL : LL ≤ 1000000) (hh : Hlp t0 x y z w s LL xs L 143 228 H B o M [.ref w] [] (VF w)) : Lst t0 x y z w s LL xs L i H B o M 1901 := by
  intro a c n a6 a7 a8
  obtain ⟨s1, s2, s3, s4, s5⟩ := id hs
  obtain ⟨B', o', M', H', a', k, v, cc, nn, hI, hb', h1, h2, hC, hR, rfl, u, rfl, hn, hu⟩ := hh a
  have hs0 := bth_s (B := B) (o := o) (M := M) hs hb
  have hs1 := bth_s (B := B') (o := o') (M := M) hs hb'
  obtain ⟨l1, hy1⟩ := bth_y (x := x) (y := y) (H := H') (B := B') (o := o') (M := M)
  obtain ⟨l2, hy2⟩ := bth_y (x := x) (y := y) (H := H') (B := B') (o := o') (M := M')
  refine ⟨B', o', M', H', a', cc, nn, some (.int M'.2.2.2.2.1), some (.float u), a8, hI, hb', h1, h2, ?_⟩
  by_cases hk : M'.2.2.2.2.1 = nI 0
  · obtain ⟨g, hf, hu⟩ := hu hk
    have hz := (bth_w (x := x) (y := y) (B := B') (o := o') (M := M') hs).trans hf
    simp (disch := first | exact bz1 | exact bz0 | omega | exact nI_ne0 (by omega) (by omega) | exact bzi) only [xgD0, xgD1, xgD2, xgD3, xgD4, xgD5, xgD6, xgD7, xgD8, xgD9, xgD10, xgD11, xgD12, xgD13, xpD0, xpD1, xpD2, xpD3, xpD4, xpD5, xpD6, xpD7, xpD8, xpD9, xpD10, xpD11, xpD12, xpD13, xcD_i, xrD_i, xlD_i, xdD_i, xlwD_i, xdwD_i, xback_s, xback_n, xcv_ok, k1i, k1r, k1n, k1k, Nat.reduceAdd, Nat.add_zero, Nat.zero_add, ↓reduceIte, not_true_eq_false, not_false_eq_true, and_true, true_and, and_false, false_and, or_true, true_or, or_false, false_or, Bool.false_eq_true, nI_lit, nI_add, pk_mul, nI_sub, nI_lt_eq, nI_le_eq, nI_eq_eq, nle_T, nle_F, nlt_T, nlt_F, neq_T, neq_F, xiD_i, xiD_k, xwD_i, xnD_i, xiD_7, e237_1901, e237_1902, e237_1904, e237_1907, e237_1909, e237_1910, ex237_1910, e237_1913, e237_1915, e237_1916, ex237_1916, e237_1919, e237_1921, e237_1924, e237_1925, e237_1926, e237_1928, e237_1931, e237_1933, e237_1934, e237_1935, e237_1937 hn, e237_1938, e237_1939, e237_1942, e237_1944, e237_1945, e237_1946, e237_1948, e237_1949, e237_1950, e237_1951, e237_1954, e237_1956, e237_1958, e237_1959, e237_1962, e237_1963, e237_1964, hs0, hs1, hy1, hy2, hC, hR, bth_th, hk, hz, hu, dz0 hn]
  · simp (disch := first | exact bz1 | exact bz0 | omega | exact nI_ne0 (by omega) (by omega) | exact bzi) only [xgD0, xgD1, xgD2, xgD3, xgD4, xgD5, xgD6, xgD7, xgD8, xgD9, xgD10, xgD11, xgD12, xgD13, xpD0, xpD1, xpD2, xpD3, xpD4, xpD5, xpD6, xpD7, xpD8, xpD9, xpD10, xpD11, xpD12, xpD13, xcD_i, xrD_i, xlD_i, xdD_i, xlwD_i, xdwD_i, xback_s, xback_n, xcv_ok, k1i, k1r, k1n, k1k, Nat.reduceAdd, Nat.add_zero, Nat.zero_add, ↓reduceIte, not_true_eq_false, not_false_eq_true, and_true, true_and, and_false, false_and, or_true, true_or, or_false, false_or, Bool.false_eq_true, nI_lit, nI_add, pk_mul, nI_sub, nI_lt_eq, nI_le_eq, nI_eq_eq, nle_T, nle_F, nlt_T, nlt_F, neq_T, neq_F, xiD_i, xiD_k, xwD_i, xnD_i, xiD_7, e237_1901, e237_1902, e237_1904, e237_1907, e237_1909, e237_1910, ex237_1910, e237_1913, e237_1915, e237_1916, ex237_1916, e237_1919, e237_1921, e237_1924, e237_1925, e237_1926, e237_1928, e237_1931, e237_1933, e237_1934, e237_1935, e237_1937 hn, e237_1938, e237_1939, e237_1942, e237_1944, e237_1945, e237_1946, e237_1948, e237_1949, e237_1950, e237_1951, e237_1954, e237_1956, e237_1958, e237_1959, e237_1962, e237_1963, e237_1964, hs0, hs1, hy1, hy2, hC, hR, bth_th, hk]
theorem lc25 (hs : Sep t0 x y z w s) (hb : Bse t0 z w s LL xs H) (hi : i + 7 ≤ LL) (hLL : LL ≤ 1000000) (hh : Hlp t0 x y z w s LL xs L 146 229 H B o M [.int (xs (i + 1)), .ref z] [.int (xs (i + 1))] (VI z)) : Lst t0 x y z w s LL xs L i H B o M 1967 := by
  intro a c n a6 a7 a8
  obtain ⟨s1, s2, s3, s4, s5⟩ := id hs
  obtain ⟨B', o', M', H', a', k, v, cc, nn, hI, hb', h1, h2, hC, hR, rfl, u, rfl, hu⟩ := hh a
  have hs0 := bth_s (B := B) (o := o) (M := M) hs hb
  have hs1 := bth_s (B := B') (o := o') (M := M) hs hb'
  obtain ⟨l1, hy1⟩ := bth_y (x := x) (y := y) (H := H') (B := B') (o := o') (M := M)
  obtain ⟨l2, hy2⟩ := bth_y (x := x) (y := y) (H := H') (B := B') (o := o') (M := M')
  refine ⟨B', o', M', H', a', cc, nn, some (.int M'.2.2.2.2.1), some (.int u), a8, hI, hb', h1, h2, ?_⟩
  by_cases hk : M'.2.2.2.2.1 = nI 0
  · obtain ⟨f, hf, hu⟩ := hu hk
    have hz := (bth_z (x := x) (y := y) (B := B') (o := o') (M := M') hs).trans hf
    simp (disch := first | exact bz1 | exact bz0 | omega | exact nI_ne0 (by omega) (by omega) | exact bzi) only [xgD0, xgD1, xgD2, xgD3, xgD4, xgD5, xgD6, xgD7, xgD8, xgD9, xgD10, xgD11, xgD12, xgD13, xpD0, xpD1, xpD2, xpD3, xpD4, xpD5, xpD6, xpD7, xpD8, xpD9, xpD10, xpD11, xpD12, xpD13, xcD_i, xrD_i, xlD_i, xdD_i, xlwD_i, xdwD_i, xback_s, xback_n, xcv_ok, k1i, k1r, k1n, k1k, Nat.reduceAdd, Nat.add_zero, Nat.zero_add, ↓reduceIte, not_true_eq_false, not_false_eq_true, and_true, true_and, and_false, false_and, or_true, true_or, or_false, false_or, Bool.false_eq_true, nI_lit, nI_add, pk_mul, nI_sub, nI_lt_eq, nI_le_eq, nI_eq_eq, nle_T, nle_F, nlt_T, nlt_F, neq_T, neq_F, xiD_i, xiD_k, xwD_i, xnD_i, xiD_7, e237_1967, e237_1968, e237_1969, e237_1971, e237_1972, e237_1973, e237_1974, e237_1975, e237_1978, e237_1980, e237_1981, e237_1982, e237_1984, e237_1985, e237_1986, e237_1987, ex237_1987, e237_1990, e237_1992, e237_1993, ex237_1993, e237_1996, e237_1998, e237_2001, e237_2002, e237_2003, e237_2005, e237_2008, e237_2009, e237_2010, e237_2011, e237_2013, e237_2014, e237_2015, e237_2018, e237_2019, e237_2020, hs0, hs1, hy1, hy2, hC, hR, bth_th, hk, hz, hu, lg_self]
  · simp (disch := first | exact bz1 | exact bz0 | omega | exact nI_ne0 (by omega) (by omega) | exact bzi) only [xgD0, xgD1, xgD2, xgD3, xgD4, xgD5, xgD6, xgD7, xgD8, xgD9, xgD10, xgD11, xgD12, xgD13, xpD0, xpD1, xpD2, xpD3, xpD4, xpD5, xpD6, xpD7, xpD8, xpD9, xpD10, xpD11, xpD12, xpD13, xcD_i, xrD_i, xlD_i, xdD_i, xlwD_i, xdwD_i, xback_s, xback_n, xcv_ok, k1i, k1r, k1n, k1k, Nat.reduceAdd, Nat.add_zero, Nat.zero_add, ↓reduceIte, not_true_eq_false, not_false_eq_true, and_true, true_and, and_false, false_and, or_true, true_or, or_false, false_or, Bool.false_eq_true, nI_lit, nI_add, pk_mul, nI_sub, nI_lt_eq, nI_le_eq, nI_eq_eq, nle_T, nle_F, nlt_T, nlt_F, neq_T, neq_F, xiD_i, xiD_k, xwD_i, xnD_i, xiD_7, e237_1967, e237_1968, e237_1969, e237_1971, e237_1972, e237_1973, e237_1974, e237_1975, e237_1978, e237_1980, e237_1981, e237_1982, e237_1984, e237_1985, e237_1986, e237_1987, ex237_1987, e237_1990, e237_1992, e237_1993, ex237_1993, e237_1996, e237_1998, e237_2001, e237_2002, e237_2003, e237_2005, e237_2008, e237_2009, e237_2010, e237_2011, e237_2013, e237_2014, e237_2015, e237_2018, e237_2019, e237_2020, hs0, hs1, hy1, hy2, hC, hR, bth_th, hk]
theorem lc26 (hs : Sep t0 x y z w s) (hb : Bse t0 z w s LL xs H) (hi : i + 7 ≤ LL) (hLL : LL ≤ 1000000) (hh : Hlp t0 x y z w s LL xs L 148 231 H B o M [.int (xs (i + 1)), .int (xs (i + 2)), .ref z] [.int (xs (i + 1)), .int (xs (i + 2))] (VI z)) : Lst t0 x y z w s LL xs L i H B o M 2023 := by
  intro a c n a6 a7 a8
  obtain ⟨s1, s2, s3, s4, s5⟩ := id hs
  obtain ⟨B', o', M', H', a', k, v, cc, nn, hI, hb', h1, h2, hC, hR, rfl, u, rfl, hu⟩ := hh a
  have hs0 := bth_s (B := B) (o := o) (M := M) hs hb
  have hs1 := bth_s (B := B') (o := o') (M := M) hs hb'
  obtain ⟨l1, hy1⟩ := bth_y (x := x) (y := y) (H := H') (B := B') (o := o') (M := M)
  obtain ⟨l2, hy2⟩ := bth_y (x := x) (y := y) (H := H') (B := B') (o := o') (M := M')
  refine ⟨B', o', M', H', a', cc, nn, some (.int M'.2.2.2.2.1), some (.int u), a8, hI, hb', h1, h2, ?_⟩
  by_cases hk : M'.2.2.2.2.1 = nI 0
  · obtain ⟨f, hf, hu⟩ := hu hk
    have hz := (bth_z (x := x) (y := y) (B := B') (o := o') (M := M') hs).trans hf
    simp (disch := first | exact bz1 | exact bz0 | omega | exact nI_ne0 (by omega) (by omega) | exact bzi) only [xgD0, xgD1, xgD2, xgD3, xgD4, xgD5, xgD6, xgD7, xgD8, xgD9, xgD10, xgD11, xgD12, xgD13, xpD0, xpD1, xpD2, xpD3, xpD4, xpD5, xpD6, xpD7, xpD8, xpD9, xpD10, xpD11, xpD12, xpD13, xcD_i, xrD_i, xlD_i, xdD_i, xlwD_i, xdwD_i, xback_s, xback_n, xcv_ok, k1i, k1r, k1n, k1k, Nat.reduceAdd, Nat.add_zero, Nat.zero_add, ↓reduceIte, not_true_eq_false, not_false_eq_true, and_true, true_and, and_false, false_and, or_true, true_or, or_false, false_or, Bool.false_eq_true, nI_lit, nI_add, pk_mul, nI_sub, nI_lt_eq, nI_le_eq, nI_eq_eq, nle_T, nle_F, nlt_T, nlt_F, neq_T, neq_F, xiD_i, xiD_k, xwD_i, xnD_i, xiD_7, e237_2023, e237_2024, e237_2025, e237_2027, e237_2028, e237_2029, e237_2030, e237_2031, e237_2033, e237_2034, e237_2035, e237_2036, e237_2037, e237_2040, e237_2042, e237_2043, e237_2044, e237_2046, e237_2047, e237_2048, e237_2049, e237_2050, e237_2052, e237_2053, e237_2054, e237_2055, ex237_2055, e237_2058, e237_2060, e237_2061, ex237_2061, e237_2064, e237_2066, e237_2069, e237_2070, e237_2071, e237_2073, e237_2076, e237_2077, e237_2078, e237_2079, e237_2081, e237_2082, e237_2083, e237_2086, e237_2087, e237_2088, hs0, hs1, hy1, hy2, hC, hR, bth_th, hk, hz, hu, lg_self]
  · simp (disch := first | exact bz1 | exact bz0 | omega | exact nI_ne0 (by omega) (by omega) | exact bzi) only [xgD0, xgD1, xgD2, xgD3, xgD4, xgD5, xgD6, xgD7, xgD8, xgD9, xgD10, xgD11, xgD12, xgD13, xpD0, xpD1, xpD2, xpD3, xpD4, xpD5, xpD6, xpD7, xpD8, xpD9, xpD10, xpD11, xpD12, xpD13, xcD_i, xrD_i, xlD_i, xdD_i, xlwD_i, xdwD_i, xback_s, xback_n, xcv_ok, k1i, k1r, k1n, k1k, Nat.reduceAdd, Nat.add_zero, Nat.zero_add, ↓reduceIte, not_true_eq_false, not_false_eq_true, and_true, true_and, and_false, false_and, or_true, true_or, or_false, false_or, Bool.false_eq_true, nI_lit, nI_add, pk_mul, nI_sub, nI_lt_eq, nI_le_eq, nI_eq_eq, nle_T, nle_F, nlt_T, nlt_F, neq_T, neq_F, xiD_i, xiD_k, xwD_i, xnD_i, xiD_7, e237_2023, e237_2024, e237_2025, e237_2027, e237_2028, e237_2029, e237_2030, e237_2031, e237_2033, e237_2034, e237_2035, e237_2036, e237_2037, e237_2040, e237_2042, e237_2043, e237_2044, e237_2046, e237_2047, e237_2048, e237_2049, e237_2050, e237_2052, e237_2053, e237_2054, e237_2055, ex237_2055, e237_2058, e237_2060, e237_2061, ex237_2061, e237_2064, e237_2066, e237_2069, e237_2070, e237_2071, e237_2073, e237_2076, e237_2077, e237_2078, e237_2079, e237_2081, e237_2082, e237_2083, e237_2086, e237_2087, e237_2088, hs0, hs1, hy1, hy2, hC, hR, bth_th, hk]
theorem lc27 (hs : Sep t0 x y z w s) (hb : Bse t0 z w s LL xs H) (hi : i + 7 ≤ LL) (hLL : LL ≤ 1000000) (ho : Outc t0 x y L 26 232 [] B o M [] [] isI) : Lst t0 x y z w s LL xs L i H B o M 2091 := by
  intro a c n a6 a7 a8
  obtain ⟨s1, s2, s3, s4, s5⟩ := id hs
  obtain ⟨B', o', M', v, ⟨u, rfl⟩, hI, hR, ⟨-, hc⟩ | ⟨k, E, hE, -⟩⟩ := outc_bth ho s3 s1
  · refine ⟨B', o', M', H, a, 0, 0, a6, a7, a8, hI, hb, Nat.zero_le _, Nat.zero_le _, ?_⟩
    have hC := hc a H hb.1
    have hs0 := bth_s (B := B) (o := o) (M := M) hs hb
    have hs1 := bth_s (B := B') (o := o') (M := M) hs hb
    obtain ⟨l0, hx0⟩ := bth_x (h := H) (B := B) (o := o) (M := M) s3
    obtain ⟨l1, hy1⟩ := bth_y (x := x) (y := y) (H := H) (B := B') (o := o') (M := M)
    simp (disch := first | exact bz1 | exact bz0 | omega | exact nI_ne0 (by omega) (by omega) | exact bzi) only [xgD0, xgD1, xgD2, xgD3, xgD4, xgD5, xgD6, xgD7, xgD8, xgD9, xgD10, xgD11, xgD12, xgD13, xpD0, xpD1, xpD2, xpD3, xpD4, xpD5, xpD6, xpD7, xpD8, xpD9, xpD10, xpD11, xpD12, xpD13, xcD_i, xrD_i, xlD_i, xdD_i, xlwD_i, xdwD_i, xback_s, xback_n, xcv_ok, k1i, k1r, k1n, k1k, Nat.reduceAdd, Nat.add_zero, Nat.zero_add, ↓reduceIte, not_true_eq_false, not_false_eq_true, and_true, true_and, and_false, false_and, or_true, true_or, or_false, false_or, Bool.false_eq_true, nI_lit, nI_add, pk_mul, nI_sub, nI_lt_eq, nI_le_eq, nI_eq_eq, nle_T, nle_F, nlt_T, nlt_F, neq_T, neq_F, xiD_i, xiD_k, xwD_i, xnD_i, xiD_7, e237_2091, e237_2092, ex237_2092, e237_2095, e237_2096, ex237_2096, e237_2099, e237_2102, e237_2103, hs0, hs1, hx0, hy1, hC, hR]
  · exact absurd hE (by simp)
theorem lc28 (hs : Sep t0 x y z w s) (hb : Bse t0 z w s LL xs H) (hi : i + 7 ≤ LL) (hLL : LL ≤ 1000000) (hh : Hlp t0 x y z w s LL xs L 150 233 H B o M [.ref z] [] (VI z)) : Lst t0 x y z w s LL xs L i H B o M 2104 := by
  intro a c n a6 a7 a8
  obtain ⟨s1, s2, s3, s4, s5⟩ := id hs
  obtain ⟨B', o', M', H', a', k, v, cc, nn, hI, hb', h1, h2, hC, hR, rfl, u, rfl, hu⟩ := hh a
  have hs0 := bth_s (B := B) (o := o) (M := M) hs hb
  have hs1 := bth_s (B := B') (o := o') (M := M) hs hb'
  obtain ⟨l1, hy1⟩ := bth_y (x := x) (y := y) (H := H') (B := B') (o := o') (M := M)
  obtain ⟨l2, hy2⟩ := bth_y (x := x) (y := y) (H := H') (B := B') (o := o') (M := M')
  refine ⟨B', o', M', H', a', cc, nn, some (.int M'.2.2.2.2.1), some (.int u), a8, hI, hb', h1, h2, ?_⟩
  by_cases hk : M'.2.2.2.2.1 = nI 0
  · obtain ⟨f, hf, hu⟩ := hu hk
    have hz := (bth_z (x := x) (y := y) (B := B') (o := o') (M := M') hs).trans hf
    simp (disch := first | exact bz1 | exact bz0 | omega | exact nI_ne0 (by omega) (by omega) | exact bzi) only [xgD0, xgD1, xgD2, xgD3, xgD4, xgD5, xgD6, xgD7, xgD8, xgD9, xgD10, xgD11, xgD12, xgD13, xpD0, xpD1, xpD2, xpD3, xpD4, xpD5, xpD6, xpD7, xpD8, xpD9, xpD10, xpD11, xpD12, xpD13, xcD_i, xrD_i, xlD_i, xdD_i, xlwD_i, xdwD_i, xback_s, xback_n, xcv_ok, k1i, k1r, k1n, k1k, Nat.reduceAdd, Nat.add_zero, Nat.zero_add, ↓reduceIte, not_true_eq_false, not_false_eq_true, and_true, true_and, and_false, false_and, or_true, true_or, or_false, false_or, Bool.false_eq_true, nI_lit, nI_add, pk_mul, nI_sub, nI_lt_eq, nI_le_eq, nI_eq_eq, nle_T, nle_F, nlt_T, nlt_F, neq_T, neq_F, xiD_i, xiD_k, xwD_i, xnD_i, xiD_7, e237_2104, e237_2105, e237_2106, e237_2109, e237_2111, e237_2112, ex237_2112, e237_2115, e237_2117, e237_2118, ex237_2118, e237_2121, e237_2123, e237_2126, e237_2127, e237_2128, e237_2130, e237_2133, e237_2134, e237_2135, e237_2136, e237_2138, e237_2139, e237_2140, e237_2143, e237_2144, e237_2145, hs0, hs1, hy1, hy2, hC, hR, bth_th, hk, hz, hu, lg_self]
  · simp (disch := first | exact bz1 | exact bz0 | omega | exact nI_ne0 (by omega) (by omega) | exact bzi) only [xgD0, xgD1, xgD2, xgD3, xgD4, xgD5, xgD6, xgD7, xgD8, xgD9, xgD10, xgD11, xgD12, xgD13, xpD0, xpD1, xpD2, xpD3, xpD4, xpD5, xpD6, xpD7, xpD8, xpD9, xpD10, xpD11, xpD12, xpD13, xcD_i, xrD_i, xlD_i, xdD_i, xlwD_i, xdwD_i, xback_s, xback_n, xcv_ok, k1i, k1r, k1n, k1k, Nat.reduceAdd, Nat.add_zero, Nat.zero_add, ↓reduceIte, not_true_eq_false, not_false_eq_true, and_true, true_and, and_false, false_and, or_true, true_or, or_false, false_or, Bool.false_eq_true, nI_lit, nI_add, pk_mul, nI_sub, nI_lt_eq, nI_le_eq, nI_eq_eq, nle_T, nle_F, nlt_T, nlt_F, neq_T, neq_F, xiD_i, xiD_k, xwD_i, xnD_i, xiD_7, e237_2104, e237_2105, e237_2106, e237_2109, e237_2111, e237_2112, ex237_2112, e237_2115, e237_2117, e237_2118, ex237_2118, e237_2121, e237_2123, e237_2126, e237_2127, e237_2128, e237_2130, e237_2133, e237_2134, e237_2135, e237_2136, e237_2138, e237_2139, e237_2140, e237_2143, e237_2144, e237_2145, hs0, hs1, hy1, hy2, hC, hR, bth_th, hk]
theorem lc30 (hs : Sep t0 x y z w s) (hb : Bse t0 z w s LL xs H) (hi : i + 7 ≤ LL) (hLL : LL ≤ 1000000) (ho : Outc t0 x y L 73 235 [] B o M [] [] isI) : Lst t0 x y z w s LL xs L i H B o M 2161 := by
  intro a c n a6 a7 a8
  obtain ⟨s1, s2, s3, s4, s5⟩ := id hs
  obtain ⟨B', o', M', v, ⟨u, rfl⟩, hI, hR, ⟨-, hc⟩ | ⟨k, E, hE, -⟩⟩ := outc_bth ho s3 s1
  · refine ⟨B', o', M', H, a, 0, 0, a6, a7, a8, hI, hb, Nat.zero_le _, Nat.zero_le _, ?_⟩
    have hC := hc a H hb.1
    have hs0 := bth_s (B := B) (o := o) (M := M) hs hb
    have hs1 := bth_s (B := B') (o := o') (M := M) hs hb
    obtain ⟨l0, hx0⟩ := bth_x (h := H) (B := B) (o := o) (M := M) s3
    obtain ⟨l1, hy1⟩ := bth_y (x := x) (y := y) (H := H) (B := B') (o := o') (M := M)
    simp (disch := first | exact bz1 | exact bz0 | omega | exact nI_ne0 (by omega) (by omega) | exact bzi) only [xgD0, xgD1, xgD2, xgD3, xgD4, xgD5, xgD6, xgD7, xgD8, xgD9, xgD10, xgD11, xgD12, xgD13, xpD0, xpD1, xpD2, xpD3, xpD4, xpD5, xpD6, xpD7, xpD8, xpD9, xpD10, xpD11, xpD12, xpD13, xcD_i, xrD_i, xlD_i, xdD_i, xlwD_i, xdwD_i, xback_s, xback_n, xcv_ok, k1i, k1r, k1n, k1k, Nat.reduceAdd, Nat.add_zero, Nat.zero_add, ↓reduceIte, not_true_eq_false, not_false_eq_true, and_true, true_and, and_false, false_and, or_true, true_or, or_false, false_or, Bool.false_eq_true, nI_lit, nI_add, pk_mul, nI_sub, nI_lt_eq, nI_le_eq, nI_eq_eq, nle_T, nle_F, nlt_T, nlt_F, neq_T, neq_F, xiD_i, xiD_k, xwD_i, xnD_i, xiD_7, e237_2161, e237_2162, ex237_2162, e237_2165, e237_2166, ex237_2166, e237_2169, e237_2172, e237_2173, hs0, hs1, hx0, hy1, hC, hR]
  · exact absurd hE (by simp)
theorem lc31 (hs : Sep t0 x y z w s) (hb : Bse t0 z w s LL xs H) (hi : i + 7 ≤ LL) (hLL : LL ≤ 1000000) (hh : Hlp t0 x y z w s LL xs L 152 236 H B o M [.ref z] [] (VI z)) : Lst t0 x y z w s LL xs L i H B o M 2174 := by
  intro a c n a6 a7 a8
  obtain ⟨s1, s2, s3, s4, s5⟩ := id hs
  obtain ⟨B', o', M', H', a', k, v, cc, nn, hI, hb', h1, h2, hC, hR, rfl, u, rfl, hu⟩ := hh a
  have hs0 := bth_s (B := B) (o := o) (M := M) hs hb
  have hs1 := bth_s (B := B') (o := o') (M := M) hs hb'
  obtain ⟨l1, hy1⟩ := bth_y (x := x) (y := y) (H := H') (B := B') (o := o') (M := M)
  obtain ⟨l2, hy2⟩ := bth_y (x := x) (y := y) (H := H') (B := B') (o := o') (M := M')
  refine ⟨B', o', M', H', a', cc, nn, some (.int M'.2.2.2.2.1), some (.int u), a8, hI, hb', h1, h2, ?_⟩
  by_cases hk : M'.2.2.2.2.1 = nI 0
  · obtain ⟨f, hf, hu⟩ := hu hk
    have hz := (bth_z (x := x) (y := y) (B := B') (o := o') (M := M') hs).trans hf
    simp (disch := first | exact bz1 | exact bz0 | omega | exact nI_ne0 (by omega) (by omega) | exact bzi) only [xgD0, xgD1, xgD2, xgD3, xgD4, xgD5, xgD6, xgD7, xgD8, xgD9, xgD10, xgD11, xgD12, xgD13, xpD0, xpD1, xpD2, xpD3, xpD4, xpD5, xpD6, xpD7, xpD8, xpD9, xpD10, xpD11, xpD12, xpD13, xcD_i, xrD_i, xlD_i, xdD_i, xlwD_i, xdwD_i, xback_s, xback_n, xcv_ok, k1i, k1r, k1n, k1k, Nat.reduceAdd, Nat.add_zero, Nat.zero_add, ↓reduceIte, not_true_eq_false, not_false_eq_true, and_true, true_and, and_false, false_and, or_true, true_or, or_false, false_or, Bool.false_eq_true, nI_lit, nI_add, pk_mul, nI_sub, nI_lt_eq, nI_le_eq, nI_eq_eq, nle_T, nle_F, nlt_T, nlt_F, neq_T, neq_F, xiD_i, xiD_k, xwD_i, xnD_i, xiD_7, e237_2174, e237_2175, e237_2176, e237_2179, e237_2181, e237_2182, ex237_2182, e237_2185, e237_2187, e237_2188, ex237_2188, e237_2191, e237_2193, e237_2196, e237_2197, e237_2198, e237_2200, e237_2203, e237_2204, e237_2205, e237_2206, e237_2208, e237_2209, e237_2210, e237_2213, e237_2214, e237_2215, hs0, hs1, hy1, hy2, hC, hR, bth_th, hk, hz, hu, lg_self]
  · simp (disch := first | exact bz1 | exact bz0 | omega | exact nI_ne0 (by omega) (by omega) | exact bzi) only [xgD0, xgD1, xgD2, xgD3, xgD4, xgD5, xgD6, xgD7, xgD8, xgD9, xgD10, xgD11, xgD12, xgD13, xpD0, xpD1, xpD2, xpD3, xpD4, xpD5, xpD6, xpD7, xpD8, xpD9, xpD10, xpD11, xpD12, xpD13, xcD_i, xrD_i, xlD_i, xdD_i, xlwD_i, xdwD_i, xback_s, xback_n, xcv_ok, k1i, k1r, k1n, k1k, Nat.reduceAdd, Nat.add_zero, Nat.zero_add, ↓reduceIte, not_true_eq_false, not_false_eq_true, and_true, true_and, and_false, false_and, or_true, true_or, or_false, false_or, Bool.false_eq_true, nI_lit, nI_add, pk_mul, nI_sub, nI_lt_eq, nI_le_eq, nI_eq_eq, nle_T, nle_F, nlt_T, nlt_F, neq_T, neq_F, xiD_i, xiD_k, xwD_i, xnD_i, xiD_7, e237_2174, e237_2175, e237_2176, e237_2179, e237_2181, e237_2182, ex237_2182, e237_2185, e237_2187, e237_2188, ex237_2188, e237_2191, e237_2193, e237_2196, e237_2197, e237_2198, e237_2200, e237_2203, e237_2204, e237_2205, e237_2206, e237_2208, e237_2209, e237_2210, e237_2213, e237_2214, e237_2215, hs0, hs1, hy1, hy2, hC, hR, bth_th, hk]
end CASES
