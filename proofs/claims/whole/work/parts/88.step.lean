/-! the law's loop -/
section STEP
variable {t0 x y z w s LL L i : Nat} {xs : Nat → Int32} {H : xHp} {bf : Nat → Int32} {bn nw ub : Nat} {le hs0 : Int32} {lg sl : Tab} {rp sv : Off} {ps : Nat → Off} {ha : Hal} {fi : Fnd} {se : Sea} {pe ho ti pa : Tab} {ac pr : Nat → Int32} {tm fc ru md : Int32} {mf mg mv mi : Nat → Int32} {th re iz ea mr mc br bc : Int32} {pm ty : Nat}
theorem ls0 (hI : Inv L (bf, bn, le, re, nw, ub, hs0, lg, sl, rp, sv, ps) (ha, fi, se, pe, ho, ti, pa, ac, pr, tm, fc, ru, md) (mf, mg, mv, mi, th, re, pm, iz, ty, ea, mr, mc, br, bc)) (hL : L < 512) (hs : Sep t0 x y z w s) (hb : Bse t0 z w s LL xs H) (hi : i + 7 ≤ LL) (hLL : LL ≤ 1000000) : Lst t0 x y z w s LL xs L i H (bf, bn, le, re, nw, ub, hs0, lg, sl, rp, sv, ps) (ha, fi, se, pe, ho, ti, pa, ac, pr, tm, fc, ru, md) (mf, mg, mv, mi, th, re, pm, iz, ty, ea, mr, mc, br, bc) 188 := by
  obtain ⟨q, hq, e⟩ := chr_nI (xs (i + 1))
  refine lc0 hs hb hi hLL ?_
  rw [e]
  exact hl0 hs hb (q_app hI hq)
theorem ls1 (hI : Inv L (bf, bn, le, re, nw, ub, hs0, lg, sl, rp, sv, ps) (ha, fi, se, pe, ho, ti, pa, ac, pr, tm, fc, ru, md) (mf, mg, mv, mi, th, re, pm, iz, ty, ea, mr, mc, br, bc)) (hL : L < 512) (hs : Sep t0 x y z w s) (hb : Bse t0 z w s LL xs H) (hi : i + 7 ≤ LL) (hLL : LL ≤ 1000000) : Lst t0 x y z w s LL xs L i H (bf, bn, le, re, nw, ub, hs0, lg, sl, rp, sv, ps) (ha, fi, se, pe, ho, ti, pa, ac, pr, tm, fc, ru, md) (mf, mg, mv, mi, th, re, pm, iz, ty, ea, mr, mc, br, bc) 246 := by
  exact lc1 hs hb hi hLL (hl1 hs hb (q_load hI))
theorem ls2 (hI : Inv L (bf, bn, le, re, nw, ub, hs0, lg, sl, rp, sv, ps) (ha, fi, se, pe, ho, ti, pa, ac, pr, tm, fc, ru, md) (mf, mg, mv, mi, th, re, pm, iz, ty, ea, mr, mc, br, bc)) (hL : L < 512) (hs : Sep t0 x y z w s) (hb : Bse t0 z w s LL xs H) (hi : i + 7 ≤ LL) (hLL : LL ≤ 1000000) : Lst t0 x y z w s LL xs L i H (bf, bn, le, re, nw, ub, hs0, lg, sl, rp, sv, ps) (ha, fi, se, pe, ho, ti, pa, ac, pr, tm, fc, ru, md) (mf, mg, mv, mi, th, re, pm, iz, ty, ea, mr, mc, br, bc) 290 := by
  exact lc2 hs hb hi hLL (hl2 hs hb (q_err hI))
theorem ls3 (hI : Inv L (bf, bn, le, re, nw, ub, hs0, lg, sl, rp, sv, ps) (ha, fi, se, pe, ho, ti, pa, ac, pr, tm, fc, ru, md) (mf, mg, mv, mi, th, re, pm, iz, ty, ea, mr, mc, br, bc)) (hL : L < 512) (hs : Sep t0 x y z w s) (hb : Bse t0 z w s LL xs H) (hi : i + 7 ≤ LL) (hLL : LL ≤ 1000000) : Lst t0 x y z w s LL xs L i H (bf, bn, le, re, nw, ub, hs0, lg, sl, rp, sv, ps) (ha, fi, se, pe, ho, ti, pa, ac, pr, tm, fc, ru, md) (mf, mg, mv, mi, th, re, pm, iz, ty, ea, mr, mc, br, bc) 334 := by
  exact lc3 hs hb hi hLL (hl3 hs hb (q_place hI))
theorem ls4 (hI : Inv L (bf, bn, le, re, nw, ub, hs0, lg, sl, rp, sv, ps) (ha, fi, se, pe, ho, ti, pa, ac, pr, tm, fc, ru, md) (mf, mg, mv, mi, th, re, pm, iz, ty, ea, mr, mc, br, bc)) (hL : L < 512) (hs : Sep t0 x y z w s) (hb : Bse t0 z w s LL xs H) (hi : i + 7 ≤ LL) (hLL : LL ≤ 1000000) : Lst t0 x y z w s LL xs L i H (bf, bn, le, re, nw, ub, hs0, lg, sl, rp, sv, ps) (ha, fi, se, pe, ho, ti, pa, ac, pr, tm, fc, ru, md) (mf, mg, mv, mi, th, re, pm, iz, ty, ea, mr, mc, br, bc) 414 := by
  exact lc4 hs hb hi hLL (hl4 hs hb (q_add hI hL))
theorem ls5 (hI : Inv L (bf, bn, le, re, nw, ub, hs0, lg, sl, rp, sv, ps) (ha, fi, se, pe, ho, ti, pa, ac, pr, tm, fc, ru, md) (mf, mg, mv, mi, th, re, pm, iz, ty, ea, mr, mc, br, bc)) (hL : L < 512) (hs : Sep t0 x y z w s) (hb : Bse t0 z w s LL xs H) (hi : i + 7 ≤ LL) (hLL : LL ≤ 1000000) : Lst t0 x y z w s LL xs L i H (bf, bn, le, re, nw, ub, hs0, lg, sl, rp, sv, ps) (ha, fi, se, pe, ho, ti, pa, ac, pr, tm, fc, ru, md) (mf, mg, mv, mi, th, re, pm, iz, ty, ea, mr, mc, br, bc) 482 := by
  exact lc5 hs hb hi hLL (hl5 hs hb (q_price hI hL))
theorem ls6 (hI : Inv L (bf, bn, le, re, nw, ub, hs0, lg, sl, rp, sv, ps) (ha, fi, se, pe, ho, ti, pa, ac, pr, tm, fc, ru, md) (mf, mg, mv, mi, th, re, pm, iz, ty, ea, mr, mc, br, bc)) (hL : L < 512) (hs : Sep t0 x y z w s) (hb : Bse t0 z w s LL xs H) (hi : i + 7 ≤ LL) (hLL : LL ≤ 1000000) : Lst t0 x y z w s LL xs L i H (bf, bn, le, re, nw, ub, hs0, lg, sl, rp, sv, ps) (ha, fi, se, pe, ho, ti, pa, ac, pr, tm, fc, ru, md) (mf, mg, mv, mi, th, re, pm, iz, ty, ea, mr, mc, br, bc) 550 := by
  exact lc6 hs hb hi hLL (hl6 hs hb (q_focus hI hL))
theorem ls7 (hI : Inv L (bf, bn, le, re, nw, ub, hs0, lg, sl, rp, sv, ps) (ha, fi, se, pe, ho, ti, pa, ac, pr, tm, fc, ru, md) (mf, mg, mv, mi, th, re, pm, iz, ty, ea, mr, mc, br, bc)) (hL : L < 512) (hs : Sep t0 x y z w s) (hb : Bse t0 z w s LL xs H) (hi : i + 7 ≤ LL) (hLL : LL ≤ 1000000) : Lst t0 x y z w s LL xs L i H (bf, bn, le, re, nw, ub, hs0, lg, sl, rp, sv, ps) (ha, fi, se, pe, ho, ti, pa, ac, pr, tm, fc, ru, md) (mf, mg, mv, mi, th, re, pm, iz, ty, ea, mr, mc, br, bc) 606 := by
  by_cases h0 : xs (i + 1) = nI 0
  · exact lc7 hs hb hi hLL (kb := 0) (Or.inl ⟨h0, rfl⟩) (q_rule hI hL (by decide))
  · exact lc7 hs hb hi hLL (kb := 1) (Or.inr ⟨h0, rfl⟩) (q_rule hI hL (by decide))
theorem ls8 (hI : Inv L (bf, bn, le, re, nw, ub, hs0, lg, sl, rp, sv, ps) (ha, fi, se, pe, ho, ti, pa, ac, pr, tm, fc, ru, md) (mf, mg, mv, mi, th, re, pm, iz, ty, ea, mr, mc, br, bc)) (hL : L < 512) (hs : Sep t0 x y z w s) (hb : Bse t0 z w s LL xs H) (hi : i + 7 ≤ LL) (hLL : LL ≤ 1000000) : Lst t0 x y z w s LL xs L i H (bf, bn, le, re, nw, ub, hs0, lg, sl, rp, sv, ps) (ha, fi, se, pe, ho, ti, pa, ac, pr, tm, fc, ru, md) (mf, mg, mv, mi, th, re, pm, iz, ty, ea, mr, mc, br, bc) 647 := by
  by_cases h0 : xs (i + 4) = nI 0
  · exact lc8 hs hb hi hLL (kb := 0) (Or.inl ⟨h0, rfl⟩) (hl8 hs hb (q_block hI hL (by decide)))
  · exact lc8 hs hb hi hLL (kb := 1) (Or.inr ⟨h0, rfl⟩) (hl8 hs hb (q_block hI hL (by decide)))
theorem ls9 (hI : Inv L (bf, bn, le, re, nw, ub, hs0, lg, sl, rp, sv, ps) (ha, fi, se, pe, ho, ti, pa, ac, pr, tm, fc, ru, md) (mf, mg, mv, mi, th, re, pm, iz, ty, ea, mr, mc, br, bc)) (hL : L < 512) (hs : Sep t0 x y z w s) (hb : Bse t0 z w s LL xs H) (hi : i + 7 ≤ LL) (hLL : LL ≤ 1000000) : Lst t0 x y z w s LL xs L i H (bf, bn, le, re, nw, ub, hs0, lg, sl, rp, sv, ps) (ha, fi, se, pe, ho, ti, pa, ac, pr, tm, fc, ru, md) (mf, mg, mv, mi, th, re, pm, iz, ty, ea, mr, mc, br, bc) 762 := by
  exact lc9 hs hb hi hLL (hl9 hs hb (q_state hI))
theorem ls10 (hI : Inv L (bf, bn, le, re, nw, ub, hs0, lg, sl, rp, sv, ps) (ha, fi, se, pe, ho, ti, pa, ac, pr, tm, fc, ru, md) (mf, mg, mv, mi, th, re, pm, iz, ty, ea, mr, mc, br, bc)) (hL : L < 512) (hs : Sep t0 x y z w s) (hb : Bse t0 z w s LL xs H) (hi : i + 7 ≤ LL) (hLL : LL ≤ 1000000) : Lst t0 x y z w s LL xs L i H (bf, bn, le, re, nw, ub, hs0, lg, sl, rp, sv, ps) (ha, fi, se, pe, ho, ti, pa, ac, pr, tm, fc, ru, md) (mf, mg, mv, mi, th, re, pm, iz, ty, ea, mr, mc, br, bc) 842 := by
  exact lc10 hs hb hi hLL (hl10 hs hb (q_holder hI))
theorem ls11 (hI : Inv L (bf, bn, le, re, nw, ub, hs0, lg, sl, rp, sv, ps) (ha, fi, se, pe, ho, ti, pa, ac, pr, tm, fc, ru, md) (mf, mg, mv, mi, th, re, pm, iz, ty, ea, mr, mc, br, bc)) (hL : L < 512) (hs : Sep t0 x y z w s) (hb : Bse t0 z w s LL xs H) (hi : i + 7 ≤ LL) (hLL : LL ≤ 1000000) : Lst t0 x y z w s LL xs L i H (bf, bn, le, re, nw, ub, hs0, lg, sl, rp, sv, ps) (ha, fi, se, pe, ho, ti, pa, ac, pr, tm, fc, ru, md) (mf, mg, mv, mi, th, re, pm, iz, ty, ea, mr, mc, br, bc) 922 := by
  exact lc11 hs hb hi hLL (hl11 hs hb (q_adv hI hL))
theorem ls12 (hI : Inv L (bf, bn, le, re, nw, ub, hs0, lg, sl, rp, sv, ps) (ha, fi, se, pe, ho, ti, pa, ac, pr, tm, fc, ru, md) (mf, mg, mv, mi, th, re, pm, iz, ty, ea, mr, mc, br, bc)) (hL : L < 512) (hs : Sep t0 x y z w s) (hb : Bse t0 z w s LL xs H) (hi : i + 7 ≤ LL) (hLL : LL ≤ 1000000) : Lst t0 x y z w s LL xs L i H (bf, bn, le, re, nw, ub, hs0, lg, sl, rp, sv, ps) (ha, fi, se, pe, ho, ti, pa, ac, pr, tm, fc, ru, md) (mf, mg, mv, mi, th, re, pm, iz, ty, ea, mr, mc, br, bc) 978 := by
  exact lc12 hs hb hi hLL (hl12 hs hb (q_bc hI))
theorem ls13 (hI : Inv L (bf, bn, le, re, nw, ub, hs0, lg, sl, rp, sv, ps) (ha, fi, se, pe, ho, ti, pa, ac, pr, tm, fc, ru, md) (mf, mg, mv, mi, th, re, pm, iz, ty, ea, mr, mc, br, bc)) (hL : L < 512) (hs : Sep t0 x y z w s) (hb : Bse t0 z w s LL xs H) (hi : i + 7 ≤ LL) (hLL : LL ≤ 1000000) : Lst t0 x y z w s LL xs L i H (bf, bn, le, re, nw, ub, hs0, lg, sl, rp, sv, ps) (ha, fi, se, pe, ho, ti, pa, ac, pr, tm, fc, ru, md) (mf, mg, mv, mi, th, re, pm, iz, ty, ea, mr, mc, br, bc) 1070 := by
  exact lc13 hs hb hi hLL (hl13 hs hb (q_best hI))
theorem ls14 (hI : Inv L (bf, bn, le, re, nw, ub, hs0, lg, sl, rp, sv, ps) (ha, fi, se, pe, ho, ti, pa, ac, pr, tm, fc, ru, md) (mf, mg, mv, mi, th, re, pm, iz, ty, ea, mr, mc, br, bc)) (hL : L < 512) (hs : Sep t0 x y z w s) (hb : Bse t0 z w s LL xs H) (hi : i + 7 ≤ LL) (hLL : LL ≤ 1000000) : Lst t0 x y z w s LL xs L i H (bf, bn, le, re, nw, ub, hs0, lg, sl, rp, sv, ps) (ha, fi, se, pe, ho, ti, pa, ac, pr, tm, fc, ru, md) (mf, mg, mv, mi, th, re, pm, iz, ty, ea, mr, mc, br, bc) 1174 := by
  exact lc14 hs hb hi hLL (hl14 hs hb (q_hold hI hL))
theorem ls15 (hI : Inv L (bf, bn, le, re, nw, ub, hs0, lg, sl, rp, sv, ps) (ha, fi, se, pe, ho, ti, pa, ac, pr, tm, fc, ru, md) (mf, mg, mv, mi, th, re, pm, iz, ty, ea, mr, mc, br, bc)) (hL : L < 512) (hs : Sep t0 x y z w s) (hb : Bse t0 z w s LL xs H) (hi : i + 7 ≤ LL) (hLL : LL ≤ 1000000) : Lst t0 x y z w s LL xs L i H (bf, bn, le, re, nw, ub, hs0, lg, sl, rp, sv, ps) (ha, fi, se, pe, ho, ti, pa, ac, pr, tm, fc, ru, md) (mf, mg, mv, mi, th, re, pm, iz, ty, ea, mr, mc, br, bc) 1292 := by
  exact lc15 hs hb hi hLL (hl15 hs hb (q_rel hI hL))
theorem ls16 (hI : Inv L (bf, bn, le, re, nw, ub, hs0, lg, sl, rp, sv, ps) (ha, fi, se, pe, ho, ti, pa, ac, pr, tm, fc, ru, md) (mf, mg, mv, mi, th, re, pm, iz, ty, ea, mr, mc, br, bc)) (hL : L < 512) (hs : Sep t0 x y z w s) (hb : Bse t0 z w s LL xs H) (hi : i + 7 ≤ LL) (hLL : LL ≤ 1000000) : Lst t0 x y z w s LL xs L i H (bf, bn, le, re, nw, ub, hs0, lg, sl, rp, sv, ps) (ha, fi, se, pe, ho, ti, pa, ac, pr, tm, fc, ru, md) (mf, mg, mv, mi, th, re, pm, iz, ty, ea, mr, mc, br, bc) 1348 := by
  exact lc16 hs hb hi hLL (hl16 hs hb (q_conf hI hL))
theorem ls17 (hI : Inv L (bf, bn, le, re, nw, ub, hs0, lg, sl, rp, sv, ps) (ha, fi, se, pe, ho, ti, pa, ac, pr, tm, fc, ru, md) (mf, mg, mv, mi, th, re, pm, iz, ty, ea, mr, mc, br, bc)) (hL : L < 512) (hs : Sep t0 x y z w s) (hb : Bse t0 z w s LL xs H) (hi : i + 7 ≤ LL) (hLL : LL ≤ 1000000) : Lst t0 x y z w s LL xs L i H (bf, bn, le, re, nw, ub, hs0, lg, sl, rp, sv, ps) (ha, fi, se, pe, ho, ti, pa, ac, pr, tm, fc, ru, md) (mf, mg, mv, mi, th, re, pm, iz, ty, ea, mr, mc, br, bc) 1404 := by
  exact lc17 hs hb hi hLL (hl17 hs hb (q_held hI))
theorem ls18 (hI : Inv L (bf, bn, le, re, nw, ub, hs0, lg, sl, rp, sv, ps) (ha, fi, se, pe, ho, ti, pa, ac, pr, tm, fc, ru, md) (mf, mg, mv, mi, th, re, pm, iz, ty, ea, mr, mc, br, bc)) (hL : L < 512) (hs : Sep t0 x y z w s) (hb : Bse t0 z w s LL xs H) (hi : i + 7 ≤ LL) (hLL : LL ≤ 1000000) : Lst t0 x y z w s LL xs L i H (bf, bn, le, re, nw, ub, hs0, lg, sl, rp, sv, ps) (ha, fi, se, pe, ho, ti, pa, ac, pr, tm, fc, ru, md) (mf, mg, mv, mi, th, re, pm, iz, ty, ea, mr, mc, br, bc) 1472 := by
  exact lc18 hs hb hi hLL (hl18 hs hb (q_tick hI))
theorem ls19 (hI : Inv L (bf, bn, le, re, nw, ub, hs0, lg, sl, rp, sv, ps) (ha, fi, se, pe, ho, ti, pa, ac, pr, tm, fc, ru, md) (mf, mg, mv, mi, th, re, pm, iz, ty, ea, mr, mc, br, bc)) (hL : L < 512) (hs : Sep t0 x y z w s) (hb : Bse t0 z w s LL xs H) (hi : i + 7 ≤ LL) (hLL : LL ≤ 1000000) : Lst t0 x y z w s LL xs L i H (bf, bn, le, re, nw, ub, hs0, lg, sl, rp, sv, ps) (ha, fi, se, pe, ho, ti, pa, ac, pr, tm, fc, ru, md) (mf, mg, mv, mi, th, re, pm, iz, ty, ea, mr, mc, br, bc) 1552 := by
  exact lc19 hs hb hi hLL (hl19 hs hb (q_exch hI hL))
theorem ls20 (hI : Inv L (bf, bn, le, re, nw, ub, hs0, lg, sl, rp, sv, ps) (ha, fi, se, pe, ho, ti, pa, ac, pr, tm, fc, ru, md) (mf, mg, mv, mi, th, re, pm, iz, ty, ea, mr, mc, br, bc)) (hL : L < 512) (hs : Sep t0 x y z w s) (hb : Bse t0 z w s LL xs H) (hi : i + 7 ≤ LL) (hLL : LL ≤ 1000000) : Lst t0 x y z w s LL xs L i H (bf, bn, le, re, nw, ub, hs0, lg, sl, rp, sv, ps) (ha, fi, se, pe, ho, ti, pa, ac, pr, tm, fc, ru, md) (mf, mg, mv, mi, th, re, pm, iz, ty, ea, mr, mc, br, bc) 1632 := by
  exact lc20 hs hb hi hLL (hl20 hs hb (q_ref hI hL))
theorem ls21 (hI : Inv L (bf, bn, le, re, nw, ub, hs0, lg, sl, rp, sv, ps) (ha, fi, se, pe, ho, ti, pa, ac, pr, tm, fc, ru, md) (mf, mg, mv, mi, th, re, pm, iz, ty, ea, mr, mc, br, bc)) (hL : L < 512) (hs : Sep t0 x y z w s) (hb : Bse t0 z w s LL xs H) (hi : i + 7 ≤ LL) (hLL : LL ≤ 1000000) : Lst t0 x y z w s LL xs L i H (bf, bn, le, re, nw, ub, hs0, lg, sl, rp, sv, ps) (ha, fi, se, pe, ho, ti, pa, ac, pr, tm, fc, ru, md) (mf, mg, mv, mi, th, re, pm, iz, ty, ea, mr, mc, br, bc) 1700 := by
  exact lc21 hs hb hi hLL (hl21 hs hb (q_perf hI))
theorem ls22 (hI : Inv L (bf, bn, le, re, nw, ub, hs0, lg, sl, rp, sv, ps) (ha, fi, se, pe, ho, ti, pa, ac, pr, tm, fc, ru, md) (mf, mg, mv, mi, th, re, pm, iz, ty, ea, mr, mc, br, bc)) (hL : L < 512) (hs : Sep t0 x y z w s) (hb : Bse t0 z w s LL xs H) (hi : i + 7 ≤ LL) (hLL : LL ≤ 1000000) : Lst t0 x y z w s LL xs L i H (bf, bn, le, re, nw, ub, hs0, lg, sl, rp, sv, ps) (ha, fi, se, pe, ho, ti, pa, ac, pr, tm, fc, ru, md) (mf, mg, mv, mi, th, re, pm, iz, ty, ea, mr, mc, br, bc) 1768 := by
  exact lc22 hs hb hi hLL (hl22 hs hb (q_acct hI))
theorem ls23 (hI : Inv L (bf, bn, le, re, nw, ub, hs0, lg, sl, rp, sv, ps) (ha, fi, se, pe, ho, ti, pa, ac, pr, tm, fc, ru, md) (mf, mg, mv, mi, th, re, pm, iz, ty, ea, mr, mc, br, bc)) (hL : L < 512) (hs : Sep t0 x y z w s) (hb : Bse t0 z w s LL xs H) (hi : i + 7 ≤ LL) (hLL : LL ≤ 1000000) : Lst t0 x y z w s LL xs L i H (bf, bn, le, re, nw, ub, hs0, lg, sl, rp, sv, ps) (ha, fi, se, pe, ho, ti, pa, ac, pr, tm, fc, ru, md) (mf, mg, mv, mi, th, re, pm, iz, ty, ea, mr, mc, br, bc) 1824 := by
  exact lc23 hs hb hi hLL (hl23 hs hb (q_sold hI))
theorem ls24 (hI : Inv L (bf, bn, le, re, nw, ub, hs0, lg, sl, rp, sv, ps) (ha, fi, se, pe, ho, ti, pa, ac, pr, tm, fc, ru, md) (mf, mg, mv, mi, th, re, pm, iz, ty, ea, mr, mc, br, bc)) (hL : L < 512) (hs : Sep t0 x y z w s) (hb : Bse t0 z w s LL xs H) (hi : i + 7 ≤ LL) (hLL : LL ≤ 1000000) : Lst t0 x y z w s LL xs L i H (bf, bn, le, re, nw, ub, hs0, lg, sl, rp, sv, ps) (ha, fi, se, pe, ho, ti, pa, ac, pr, tm, fc, ru, md) (mf, mg, mv, mi, th, re, pm, iz, ty, ea, mr, mc, br, bc) 1901 := by
  exact lc24 hs hb hi hLL (hl24 hs hb (q_mean hI))
theorem ls25 (hI : Inv L (bf, bn, le, re, nw, ub, hs0, lg, sl, rp, sv, ps) (ha, fi, se, pe, ho, ti, pa, ac, pr, tm, fc, ru, md) (mf, mg, mv, mi, th, re, pm, iz, ty, ea, mr, mc, br, bc)) (hL : L < 512) (hs : Sep t0 x y z w s) (hb : Bse t0 z w s LL xs H) (hi : i + 7 ≤ LL) (hLL : LL ≤ 1000000) : Lst t0 x y z w s LL xs L i H (bf, bn, le, re, nw, ub, hs0, lg, sl, rp, sv, ps) (ha, fi, se, pe, ho, ti, pa, ac, pr, tm, fc, ru, md) (mf, mg, mv, mi, th, re, pm, iz, ty, ea, mr, mc, br, bc) 1967 := by
  exact lc25 hs hb hi hLL (hl25 hs hb (q_count hI (inv_lg hI)))
theorem ls26 (hI : Inv L (bf, bn, le, re, nw, ub, hs0, lg, sl, rp, sv, ps) (ha, fi, se, pe, ho, ti, pa, ac, pr, tm, fc, ru, md) (mf, mg, mv, mi, th, re, pm, iz, ty, ea, mr, mc, br, bc)) (hL : L < 512) (hs : Sep t0 x y z w s) (hb : Bse t0 z w s LL xs H) (hi : i + 7 ≤ LL) (hLL : LL ≤ 1000000) : Lst t0 x y z w s LL xs L i H (bf, bn, le, re, nw, ub, hs0, lg, sl, rp, sv, ps) (ha, fi, se, pe, ho, ti, pa, ac, pr, tm, fc, ru, md) (mf, mg, mv, mi, th, re, pm, iz, ty, ea, mr, mc, br, bc) 2023 := by
  exact lc26 hs hb hi hLL (hl26 hs hb (q_led hI))
theorem ls27 (hI : Inv L (bf, bn, le, re, nw, ub, hs0, lg, sl, rp, sv, ps) (ha, fi, se, pe, ho, ti, pa, ac, pr, tm, fc, ru, md) (mf, mg, mv, mi, th, re, pm, iz, ty, ea, mr, mc, br, bc)) (hL : L < 512) (hs : Sep t0 x y z w s) (hb : Bse t0 z w s LL xs H) (hi : i + 7 ≤ LL) (hLL : LL ≤ 1000000) : Lst t0 x y z w s LL xs L i H (bf, bn, le, re, nw, ub, hs0, lg, sl, rp, sv, ps) (ha, fi, se, pe, ho, ti, pa, ac, pr, tm, fc, ru, md) (mf, mg, mv, mi, th, re, pm, iz, ty, ea, mr, mc, br, bc) 2091 := by
  exact lc27 hs hb hi hLL (q_reason hI)
theorem ls28 (hI : Inv L (bf, bn, le, re, nw, ub, hs0, lg, sl, rp, sv, ps) (ha, fi, se, pe, ho, ti, pa, ac, pr, tm, fc, ru, md) (mf, mg, mv, mi, th, re, pm, iz, ty, ea, mr, mc, br, bc)) (hL : L < 512) (hs : Sep t0 x y z w s) (hb : Bse t0 z w s LL xs H) (hi : i + 7 ≤ LL) (hLL : LL ≤ 1000000) : Lst t0 x y z w s LL xs L i H (bf, bn, le, re, nw, ub, hs0, lg, sl, rp, sv, ps) (ha, fi, se, pe, ho, ti, pa, ac, pr, tm, fc, ru, md) (mf, mg, mv, mi, th, re, pm, iz, ty, ea, mr, mc, br, bc) 2104 := by
  exact lc28 hs hb hi hLL (hl28 hs hb (q_und hI hL))
theorem ls29 (hI : Inv L (bf, bn, le, re, nw, ub, hs0, lg, sl, rp, sv, ps) (ha, fi, se, pe, ho, ti, pa, ac, pr, tm, fc, ru, md) (mf, mg, mv, mi, th, re, pm, iz, ty, ea, mr, mc, br, bc)) (hL : L < 512) (hs : Sep t0 x y z w s) (hb : Bse t0 z w s LL xs H) (hi : i + 7 ≤ LL) (hLL : LL ≤ 1000000) : Lst t0 x y z w s LL xs L i H (bf, bn, le, re, nw, ub, hs0, lg, sl, rp, sv, ps) (ha, fi, se, pe, ho, ti, pa, ac, pr, tm, fc, ru, md) (mf, mg, mv, mi, th, re, pm, iz, ty, ea, mr, mc, br, bc) 2148 := by
  intro a c n a6 a7 a8
  obtain ⟨s1, s2, s3, s4, s5⟩ := id hs
  obtain ⟨M', ht, hI', hR, hC⟩ := q_repl (t0 := t0) (x := x) (y := y) hI hL
  obtain ⟨rp', hC⟩ := hC a (putMod H y (mf, mg, mv, mi, th, re, pm, iz, ty, ea, mr, mc, br, bc)) s1 ((putMod_out (by omega)).trans hb.1)
  rw [← bth_box s3, ← bth_box s3] at hC
  have hR2 : ∀ a, CA (xPt t0) 234 [.ref y] a (bth H x y (bf, bn, le, re, nw, ub, hs0, lg, sl, rp', sv, ps) (ha, fi, se, pe, ho, ti, pa, ac, pr, tm, fc, ru, md) (mf, mg, mv, mi, th, re, pm, iz, ty, ea, mr, mc, br, bc)) = some (.inl (some (.int (nI 1))), a, bth H x y (bf, bn, le, re, nw, ub, hs0, lg, sl, rp', sv, ps) (ha, fi, se, pe, ho, ti, pa, ac, pr, tm, fc, ru, md) M', 0, 0) := fun a => hR a _
  refine ⟨(bf, bn, le, re, nw, ub, hs0, lg, sl, rp', sv, ps), (ha, fi, se, pe, ho, ti, pa, ac, pr, tm, fc, ru, md), M', H, a, 0, 0, a6, a7, a8, hI' rp', hb, Nat.zero_le _, Nat.zero_le _, ?_⟩
  obtain ⟨l0, hx0⟩ := bth_x (h := H) (B := (bf, bn, le, re, nw, ub, hs0, lg, sl, rp, sv, ps)) (o := (ha, fi, se, pe, ho, ti, pa, ac, pr, tm, fc, ru, md)) (M := (mf, mg, mv, mi, th, re, pm, iz, ty, ea, mr, mc, br, bc)) s3
  obtain ⟨l1, hy1⟩ := bth_y (x := x) (y := y) (H := H) (B := (bf, bn, le, re, nw, ub, hs0, lg, sl, rp', sv, ps)) (o := (ha, fi, se, pe, ho, ti, pa, ac, pr, tm, fc, ru, md)) (M := (mf, mg, mv, mi, th, re, pm, iz, ty, ea, mr, mc, br, bc))
  simp (disch := first | exact bz1 | exact bz0 | omega | exact nI_ne0 (by omega) (by omega) | exact bzi) only [xgD0, xgD1, xgD2, xgD3, xgD4, xgD5, xgD6, xgD7, xgD8, xgD9, xgD10, xgD11, xgD12, xgD13, xpD0, xpD1, xpD2, xpD3, xpD4, xpD5, xpD6, xpD7, xpD8, xpD9, xpD10, xpD11, xpD12, xpD13, xcD_i, xrD_i, xlD_i, xdD_i, xlwD_i, xdwD_i, xback_s, xback_n, xcv_ok, k1i, k1r, k1n, k1k, Nat.reduceAdd, Nat.add_zero, Nat.zero_add, ↓reduceIte, not_true_eq_false, not_false_eq_true, and_true, true_and, and_false, false_and, or_true, true_or, or_false, false_or, Bool.false_eq_true, nI_lit, nI_add, pk_mul, nI_sub, nI_lt_eq, nI_le_eq, nI_eq_eq, nle_T, nle_F, nlt_T, nlt_F, neq_T, neq_F, xiD_i, xiD_k, xwD_i, xnD_i, e237_2148, e237_2149, ex237_2149, e237_2152, e237_2153, ex237_2153, e237_2156, e237_2159, e237_2160, hx0, hy1, hC, hR2]
theorem ls30 (hI : Inv L (bf, bn, le, re, nw, ub, hs0, lg, sl, rp, sv, ps) (ha, fi, se, pe, ho, ti, pa, ac, pr, tm, fc, ru, md) (mf, mg, mv, mi, th, re, pm, iz, ty, ea, mr, mc, br, bc)) (hL : L < 512) (hs : Sep t0 x y z w s) (hb : Bse t0 z w s LL xs H) (hi : i + 7 ≤ LL) (hLL : LL ≤ 1000000) : Lst t0 x y z w s LL xs L i H (bf, bn, le, re, nw, ub, hs0, lg, sl, rp, sv, ps) (ha, fi, se, pe, ho, ti, pa, ac, pr, tm, fc, ru, md) (mf, mg, mv, mi, th, re, pm, iz, ty, ea, mr, mc, br, bc) 2161 := by
  exact lc30 hs hb hi hLL (q_snap hI hL)
theorem ls31 (hI : Inv L (bf, bn, le, re, nw, ub, hs0, lg, sl, rp, sv, ps) (ha, fi, se, pe, ho, ti, pa, ac, pr, tm, fc, ru, md) (mf, mg, mv, mi, th, re, pm, iz, ty, ea, mr, mc, br, bc)) (hL : L < 512) (hs : Sep t0 x y z w s) (hb : Bse t0 z w s LL xs H) (hi : i + 7 ≤ LL) (hLL : LL ≤ 1000000) : Lst t0 x y z w s LL xs L i H (bf, bn, le, re, nw, ub, hs0, lg, sl, rp, sv, ps) (ha, fi, se, pe, ho, ti, pa, ac, pr, tm, fc, ru, md) (mf, mg, mv, mi, th, re, pm, iz, ty, ea, mr, mc, br, bc) 2174 := by
  exact lc31 hs hb hi hLL (hl31 hs hb (q_rest hI hL))
end STEP
section LOOP2
variable {t0 x y z w s LL L i k c n : Nat} {xs : Nat → Int32} {a : Nat × Bool} {h H : xHp} {B : Bx} {o : Off} {M : Md} {a6 a7 a8 : Option Value}
theorem law_pre (hs : Sep t0 x y z w s) (hb : Bse t0 z w s LL xs H) (hi : i + 7 ≤ LL) (hLL : LL ≤ 1000000) (e : xs i &&& nI 31 = nI k) : XR (xPt t0) 237 38 [some (.ref s), some (.ref x), some (.ref y), some (.ref z), some (.ref w), some (.int (nI i)), a6, a7, a8] [] (a, bth H x y B o M, c, n) = XR (xPt t0) 237 45 [some (.ref s), some (.ref x), some (.ref y), some (.ref z), some (.ref w), some (.int (nI i)), a6, a7, a8] [.int (nI k)] (a, bth H x y B o M, c, n) := by
  have hs0 := bth_s (B := B) (o := o) (M := M) hs hb
  simp (disch := first | exact bz1 | exact bz0 | omega | exact nI_ne0 (by omega) (by omega) | exact bzi) only [xgD0, xgD1, xgD2, xgD3, xgD4, xgD5, xgD6, xgD7, xgD8, xgD9, xgD10, xgD11, xgD12, xgD13, xpD0, xpD1, xpD2, xpD3, xpD4, xpD5, xpD6, xpD7, xpD8, xpD9, xpD10, xpD11, xpD12, xpD13, xcD_i, xrD_i, xlD_i, xdD_i, xlwD_i, xdwD_i, xback_s, xback_n, xcv_ok, k1i, k1r, k1n, k1k, Nat.reduceAdd, Nat.add_zero, Nat.zero_add, ↓reduceIte, not_true_eq_false, not_false_eq_true, and_true, true_and, and_false, false_and, or_true, true_or, or_false, false_or, Bool.false_eq_true, nI_lit, nI_add, pk_mul, nI_sub, nI_lt_eq, nI_le_eq, nI_eq_eq, nle_T, nle_F, nlt_T, nlt_F, neq_T, neq_F, xiD_i, xiD_k, xwD_i, xnD_i, e237_38, e237_39, e237_41, e237_42, e237_44, xiD_7, hs0, e]
theorem law_step (hI : Inv L B o M) (hL : L < 512) (hs : Sep t0 x y z w s) (hb : Bse t0 z w s LL xs H) (hi : i + 7 ≤ LL) (hLL : LL ≤ 1000000) : Lst t0 x y z w s LL xs L i H B o M 38 := by
  obtain ⟨k, hk, e⟩ := mask31 (xs i)
  obtain ⟨bf, bn, le, lr, nw, ub, hs0, lg, sl, rp, sv, ps⟩ := B
  obtain ⟨ha, fi, se, pe, ho, ti, pa, ac, pr, tm, fc, ru, md⟩ := o
  obtain ⟨mf, mg, mv, mi, th, re, pm, iz, ty, ea, mr, mc, br, bc⟩ := M
  have el : lr = re := hI.2.1
  subst el
  intro a c n a6 a7 a8
  rw [law_pre hs hb hi hLL e]
  match k, hk with
  | 0, _ =>
    rw [e237_45_0]
    exact ls0 hI hL hs hb hi hLL a c n a6 a7 a8
  | 1, _ =>
    rw [e237_45_1]
    exact ls1 hI hL hs hb hi hLL a c n a6 a7 a8
  | 2, _ =>
    rw [e237_45_2]
    exact ls2 hI hL hs hb hi hLL a c n a6 a7 a8
  | 3, _ =>
    rw [e237_45_3]
    exact ls3 hI hL hs hb hi hLL a c n a6 a7 a8
  | 4, _ =>
    rw [e237_45_4]
    exact ls4 hI hL hs hb hi hLL a c n a6 a7 a8
  | 5, _ =>
    rw [e237_45_5]
    exact ls5 hI hL hs hb hi hLL a c n a6 a7 a8
  | 6, _ =>
    rw [e237_45_6]
    exact ls6 hI hL hs hb hi hLL a c n a6 a7 a8
  | 7, _ =>
    rw [e237_45_7]
    exact ls7 hI hL hs hb hi hLL a c n a6 a7 a8
  | 8, _ =>
    rw [e237_45_8]
    exact ls8 hI hL hs hb hi hLL a c n a6 a7 a8
  | 9, _ =>
    rw [e237_45_9]
    exact ls9 hI hL hs hb hi hLL a c n a6 a7 a8
  | 10, _ =>
    rw [e237_45_10]
    exact ls10 hI hL hs hb hi hLL a c n a6 a7 a8
  | 11, _ =>
    rw [e237_45_11]
    exact ls11 hI hL hs hb hi hLL a c n a6 a7 a8
  | 12, _ =>
    rw [e237_45_12]
    exact ls12 hI hL hs hb hi hLL a c n a6 a7 a8
  | 13, _ =>
    rw [e237_45_13]
    exact ls13 hI hL hs hb hi hLL a c n a6 a7 a8
  | 14, _ =>
    rw [e237_45_14]
    exact ls14 hI hL hs hb hi hLL a c n a6 a7 a8
  | 15, _ =>
    rw [e237_45_15]
    exact ls15 hI hL hs hb hi hLL a c n a6 a7 a8
  | 16, _ =>
    rw [e237_45_16]
    exact ls16 hI hL hs hb hi hLL a c n a6 a7 a8
  | 17, _ =>
    rw [e237_45_17]
    exact ls17 hI hL hs hb hi hLL a c n a6 a7 a8
  | 18, _ =>
    rw [e237_45_18]
    exact ls18 hI hL hs hb hi hLL a c n a6 a7 a8
  | 19, _ =>
    rw [e237_45_19]
    exact ls19 hI hL hs hb hi hLL a c n a6 a7 a8
  | 20, _ =>
    rw [e237_45_20]
    exact ls20 hI hL hs hb hi hLL a c n a6 a7 a8
  | 21, _ =>
    rw [e237_45_21]
    exact ls21 hI hL hs hb hi hLL a c n a6 a7 a8
  | 22, _ =>
    rw [e237_45_22]
    exact ls22 hI hL hs hb hi hLL a c n a6 a7 a8
  | 23, _ =>
    rw [e237_45_23]
    exact ls23 hI hL hs hb hi hLL a c n a6 a7 a8
  | 24, _ =>
    rw [e237_45_24]
    exact ls24 hI hL hs hb hi hLL a c n a6 a7 a8
  | 25, _ =>
    rw [e237_45_25]
    exact ls25 hI hL hs hb hi hLL a c n a6 a7 a8
  | 26, _ =>
    rw [e237_45_26]
    exact ls26 hI hL hs hb hi hLL a c n a6 a7 a8
  | 27, _ =>
    rw [e237_45_27]
    exact ls27 hI hL hs hb hi hLL a c n a6 a7 a8
  | 28, _ =>
    rw [e237_45_28]
    exact ls28 hI hL hs hb hi hLL a c n a6 a7 a8
  | 29, _ =>
    rw [e237_45_29]
    exact ls29 hI hL hs hb hi hLL a c n a6 a7 a8
  | 30, _ =>
    rw [e237_45_30]
    exact ls30 hI hL hs hb hi hLL a c n a6 a7 a8
  | 31, _ =>
    rw [e237_45_31]
    exact ls31 hI hL hs hb hi hLL a c n a6 a7 a8
  | k + 32, hk => exact absurd hk (by omega)
/-- the loop to its end -/
theorem law_loop (hs : Sep t0 x y z w s) (hLL : LL ≤ 3584) : ∀ (m L i : Nat) (H : xHp) (B : Bx) (o : Off) (M : Md) (a : Nat × Bool) (c n : Nat) (a6 a7 a8 : Option Value), Inv L B o M → Bse t0 z w s LL xs H → i = 7 * L → i + 7 * m ≤ LL → LL < i + 7 * m + 7 → ∃ (a' : Nat × Bool) (h' : xHp) (cc nn : Nat), cc ≤ m ∧ nn ≤ 6 * m ∧ XR (xPt t0) 237 28 [some (.ref s), some (.ref x), some (.ref y), some (.ref z), some (.ref w), some (.int (nI i)), a6, a7, a8] [] (a, bth H x y B o M, c, n) = some (.inl (some (.int (nI 1))), a', h', c + cc, n + nn) := by
  intro m
  induction m with
  | zero =>
    intro L i H B o M a c n a6 a7 a8 hI hb he h1 h2
    have hs0 := bth_s (B := B) (o := o) (M := M) hs hb
    have hc : (nI LL - nI 7 < nI i) = True := (cmp7 (by omega) (by omega)).trans (eq_true (by omega))
    refine ⟨a, bth H x y B o M, 0, 0, Nat.le_refl _, Nat.le_refl _, ?_⟩
    simp (disch := first | exact bz1 | omega) only [xgD0, xgD1, xgD2, xgD3, xgD4, xgD5, xgD6, xgD7, xgD8, xgD9, xgD10, xgD11, xgD12, xgD13, xpD0, xpD1, xpD2, xpD3, xpD4, xpD5, xpD6, xpD7, xpD8, xpD9, xpD10, xpD11, xpD12, xpD13, xcD_i, xrD_i, xlD_i, xdD_i, xlwD_i, xdwD_i, xback_s, xback_n, xcv_ok, k1i, k1r, k1n, k1k, Nat.reduceAdd, Nat.add_zero, Nat.zero_add, ↓reduceIte, not_true_eq_false, not_false_eq_true, and_true, true_and, and_false, false_and, or_true, true_or, or_false, false_or, Bool.false_eq_true, nI_lit, e237_28, e237_30, e237_31, e237_32, e237_34, e237_35, e237_2224, e237_2225, xnD_7, hs0, hc]
  | succ m ih =>
    intro L i H B o M a c n a6 a7 a8 hI hb he h1 h2
    have hs0 := bth_s (B := B) (o := o) (M := M) hs hb
    have hc : (nI LL - nI 7 < nI i) = False := (cmp7 (by omega) (by omega)).trans (eq_false (by omega))
    have h38 : XR (xPt t0) 237 28 [some (.ref s), some (.ref x), some (.ref y), some (.ref z), some (.ref w), some (.int (nI i)), a6, a7, a8] [] (a, bth H x y B o M, c, n) = XR (xPt t0) 237 38 [some (.ref s), some (.ref x), some (.ref y), some (.ref z), some (.ref w), some (.int (nI i)), a6, a7, a8] [] (a, bth H x y B o M, c, n) := by
      simp (disch := first | exact bz1 | omega) only [xgD0, xgD1, xgD2, xgD3, xgD4, xgD5, xgD6, xgD7, xgD8, xgD9, xgD10, xgD11, xgD12, xgD13, xpD0, xpD1, xpD2, xpD3, xpD4, xpD5, xpD6, xpD7, xpD8, xpD9, xpD10, xpD11, xpD12, xpD13, xcD_i, xrD_i, xlD_i, xdD_i, xlwD_i, xdwD_i, xback_s, xback_n, xcv_ok, k1i, k1r, k1n, k1k, Nat.reduceAdd, Nat.add_zero, Nat.zero_add, ↓reduceIte, not_true_eq_false, not_false_eq_true, and_true, true_and, and_false, false_and, or_true, true_or, or_false, false_or, Bool.false_eq_true, nI_lit, e237_28, e237_30, e237_31, e237_32, e237_34, e237_35, xnD_7, hs0, hc]
    obtain ⟨B', o', M', H', a', cc, nn, b6, b7, b8, hI', hb', q1, q2, e⟩ := law_step (i := i) (L := L) hI (by omega) hs hb (by omega) (by omega) a c n a6 a7 a8
    obtain ⟨a2, h2', cc2, nn2, r1, r2, e2⟩ := ih (L + 1) (i + 7) H' B' o' M' a' (c + cc) (n + nn) b6 b7 b8 hI' hb' (by omega) (by omega) (by omega)
    refine ⟨a2, h2', cc + cc2, nn + nn2, by omega, by omega, ?_⟩
    rw [h38, e, e237_2218, show nI i + 7 = nI (i + 7) from nI_add i 7, e237_2221, e2, Nat.add_assoc, Nat.add_assoc]
theorem lr_bx (g : xHp) (E : xE) (B : Bx) : bxr (hset g x E) x B = bxr g x B := by
  funext j
  unfold bxr hset
  by_cases q : x ≤ j ∧ j < x + 227
  · rw [if_pos q, if_pos q]
  · rw [if_neg q, if_neg q, if_neg (by omega)]
theorem lr_pm (g : xHp) (E : xE) (M : Md) : putMod (hset g y E) y M = putMod g y M := by
  funext j
  unfold putMod hset
  by_cases q : y ≤ j ∧ j < y + 5
  · rw [if_pos q, if_pos q]
  · rw [if_neg q, if_neg q, if_neg (by omega)]
def lrH (h : xHp) (z w : Nat) : xHp := hset (hset h z (.inl (3, 1, .inr (.inl (fun _ => 0))))) w (.inl (4, 1, .inr (.inr (.inr (.inl (fun _ => 0))))))
theorem lr_b (hs : Sep t0 x y z w s) (ht : h t0 = .inl (8, 4, .inl xFP)) (hh : h s = .inl (7, LL, .inl xs)) : Bse t0 z w s LL xs (lrH h z w) := by
  obtain ⟨s1, s2, s3, s4, s5⟩ := hs
  unfold lrH
  refine ⟨?_, ?_, ⟨fun _ => 0, ?_⟩, ⟨_, hset_s _ _ _⟩⟩
  · rw [hset_n (by omega), hset_n (by omega)]
    exact ht
  · rw [hset_n (by omega), hset_n (by omega)]
    exact hh
  · rw [hset_n (by omega)]
    exact hset_s _ _ _
theorem lr_h (hs : Sep t0 x y z w s) : hset (hset (bth h x y B o M) z (.inl (3, 1, .inr (.inl (fun _ => 0))))) w (.inl (4, 1, .inr (.inr (.inr (.inl (fun _ => 0)))))) = bth (lrH h z w) x y B o M := by
  rw [bth_sz hs, bth_sw hs]
  rfl
theorem lr_1 (h0 : t0 < x) (ht : h t0 = .inl (8, 4, .inl xFP)) : CA (xPt t0) 0 [.ref x] (x + 1, true) (hset h x (.inr (5, xDfn 5))) = some (.inl none, (x + 227, true), putOff (bxr h x B0) (x + 2) (offF (firH offZ.1) offZ), 226, 36457) := by
  rw [b_new h0 ((hset_n (by omega)).trans ht) (hset_s _ _ _), lr_bx]
theorem lr_2 : CA (xPt t0) 155 [.ref y] (y + 1, true) (hset (putOff (bxr h x B) (x + 2) o) y (.inr (6, xDfn 6))) = some (.inl none, (y + 5, true), bth h x y B o modF, 4, 20253) := by
  rw [m_new (hset_s _ _ _), lr_pm]
  rfl
theorem lr_go (hs : Sep t0 x (x + 227) (x + 232) (x + 233) s) (ht : h t0 = .inl (8, 4, .inl xFP)) : CA (xPt t0) 237 [.ref s] (x, true) h = XR (xPt t0) 237 28 [some (.ref s), some (.ref x), some (.ref (x + 227)), some (.ref (x + 232)), some (.ref (x + 233)), some (.int (nI 0)), none, none, none] [] ((x + 234, true), bth (lrH h (x + 232) (x + 233)) x (x + 227) B0 (offF (firH offZ.1) offZ) modF, 234, 56739) := by
  have c1 := lr_1 hs.1 ht
  have c2 : CA (xPt t0) 155 [.ref (x + 227)] (x + 228, true) (hset (putOff (bxr h x B0) (x + 2) (offF (firH offZ.1) offZ)) (x + 227) (.inr (6, xDfn 6))) = some (.inl none, (x + 232, true), bth h x (x + 227) B0 (offF (firH offZ.1) offZ) modF, 4, 20253) := by
    have := lr_2 (t0 := t0) (h := h) (x := x) (y := x + 227) (B := B0) (o := offF (firH offZ.1) offZ)
    rw [show x + 227 + 1 = x + 228 by omega, show x + 227 + 5 = x + 232 by omega] at this
    exact this
  have e3 := lr_h (B := B0) (o := offF (firH offZ.1) offZ) (M := modF) (h := h) hs
  rw [en237, e237_0, e237_3, e237_4, c1, xback_n, e237_7, e237_8, e237_11, e237_12, show x + 227 + 1 = x + 228 by omega, c2, xback_n, e237_15, e237_16, show (1 : Int32) = nI 1 from rfl, e237_17 (by decide), e237_19, e237_20, show (1 : Int32) = nI 1 from rfl, e237_21 (by decide), show x + 232 + 1 = x + 233 by omega, show x + 233 + 1 = x + 234 by omega, e237_23, e237_25, e237_26, e3]
  rfl
/-- the law, called -/
theorem law_run (h0 : t0 < x) (h1 : s < x) (ht : h t0 = .inl (8, 4, .inl xFP)) (hh : h s = .inl (7, LL, .inl xs)) (hLL : LL ≤ 3584) : ∃ (a' : Nat × Bool) (h' : xHp) (cc nn : Nat), cc ≤ 746 ∧ nn ≤ 59811 ∧ CA (xPt t0) 237 [.ref s] (x, true) h = some (.inl (some (.int (nI 1))), a', h', cc, nn) := by
  have hs : Sep t0 x (x + 227) (x + 232) (x + 233) s := ⟨h0, h1, by omega, by omega, by omega⟩
  obtain ⟨a', h', cc, nn, q1, q2, e⟩ := law_loop hs hLL (LL / 7) 0 0 _ B0 (offF (firH offZ.1) offZ) modF (x + 234, true) 234 56739 none none none inv_init (lr_b hs ht hh) rfl (by omega) (by omega)
  exact ⟨a', h', 234 + cc, 56739 + nn, by omega, by omega, (lr_go hs ht).trans e⟩
end LOOP2
