/-! a call on both sides: the other questions -/
section QUEST
variable {t0 x y L : Nat} {bf : Nat → Int32} {bn nw ub : Nat} {le hs : Int32} {lg sl : Tab} {rp sv : Off} {ps : Nat → Off} {ha : Hal} {fi : Fnd} {se : Sea} {pe ho ti pa : Tab} {ac pr : Nat → Int32} {tm fc ru md : Int32} {mf mg mv mi : Nat → Int32} {th re iz ea mr mc br bc : Int32} {pm ty : Nat}
theorem pl_no {R C : Nat} {v w : Int32} (hR : R < 2 ^ 31) (hC : C < 2 ^ 31) : (∃ r c, r < R ∧ c < C ∧ v = nI r ∧ w = nI c) ∨ ¬ plJ R C v w := by
  rcases spl v R hR with ⟨r, hr, rfl⟩ | hu
  · rcases spl w C hC with ⟨c, hc, rfl⟩ | hv
    · exact Or.inl ⟨r, c, hr, hc, rfl, rfl⟩
    · exact Or.inr fun z => hv.elim z.2.2.1 z.2.2.2
  · exact Or.inr fun z => hu.elim z.1 z.2.1
theorem q_err (h : Inv L (bf, bn, le, re, nw, ub, hs, lg, sl, rp, sv, ps) (ha, fi, se, pe, ho, ti, pa, ac, pr, tm, fc, ru, md) (mf, mg, mv, mi, th, re, pm, iz, ty, ea, mr, mc, br, bc)) : Outc t0 x y L 85 165 [3] (bf, bn, le, re, nw, ub, hs, lg, sl, rp, sv, ps) (ha, fi, se, pe, ho, ti, pa, ac, pr, tm, fc, ru, md) (mf, mg, mv, mi, th, re, pm, iz, ty, ea, mr, mc, br, bc) [] [] isI := by
  obtain ⟨e1, e2, e3, e4, e5⟩ := h.1
  subst e4
  rcases e5 with e | ⟨k, hk, e⟩
  · have hl : le < nI 0 := by rw [e]; decide
    exact ⟨_, _, _, _, ⟨_, rfl⟩, inv_q h, fun a hh => n_err1 e, Or.inr ⟨0, 3, rfl, rfl, fun a hh _ _ => b_err1 hl⟩⟩
  · have hl : ¬ le < nI 0 := by rw [e, nI_ltI (by omega) (by decide)]; omega
    have hl2 : ¬ le = -nI 1 := fun z => hl (by rw [z]; decide)
    exact ⟨_, _, _, _, ⟨_, rfl⟩, inv_q h, fun a hh => n_err0 hl2, Or.inl ⟨rfl, fun a hh _ _ => b_err0 hl⟩⟩
theorem q_state (h : Inv L (bf, bn, le, re, nw, ub, hs, lg, sl, rp, sv, ps) (ha, fi, se, pe, ho, ti, pa, ac, pr, tm, fc, ru, md) (mf, mg, mv, mi, th, re, pm, iz, ty, ea, mr, mc, br, bc)) {u v w : Int32} : Outc t0 x y L 100 180 [2] (bf, bn, le, re, nw, ub, hs, lg, sl, rp, sv, ps) (ha, fi, se, pe, ho, ti, pa, ac, pr, tm, fc, ru, md) (mf, mg, mv, mi, th, re, pm, iz, ty, ea, mr, mc, br, bc) [.int u, .int v, .int w] [.int u, .int v, .int w] isI := by
  obtain ⟨K, N, kf, pf, R, C, n, mh, m, m4, D, hL, hW, hM⟩ := inv_cur h
  have hW' := hW
  have hM' := hM
  obtain ⟨w1, w2, w3, w4, w5, w6, w7, w8, w9, w10⟩ := hW'
  obtain ⟨a1, a2, a3, a4, a5, a6, a7, a8, a9, a10, a11, a12⟩ := hM'
  dsimp only [oHa, oPe, oSe, oHo, oTi, oPa, oAc, oPr, oTm, oFc, oRu, oMd] at a1 a2 a3 a4 a5 a6 a7 a8 a9 a10 a11 a12
  have hw1 := w1
  obtain ⟨g0, g1, hR1, hR, hC1, hC, hkn, hout⟩ := hw1
  have m1 := a1.1
  have m2 := a1.2.1
  have m3 := a2.1
  have h9 := w2.1
  have hn := w2.2.1
  have hho := a4.1
  have h29 := w6.1
  have hmh := w6.2.1
  have hti := a5.1
  have h30 := w7.1
  have hm20 := w7.2.1
  have hN := N_le hW
  have hpa := a6.1
  have h31 := w9.1
  have hm40 := w9.2
  have hpl : ∀ v w, plIn ha v w ↔ plJ R C v w := fun v w => by unfold plIn; rw [m1, m2]
  rcases spl u n (by omega) with ⟨p, hp, rfl⟩ | hu
  · rcases pl_no (R := R) (C := C) (v := v) (w := w) (by omega) (by omega) with ⟨r, c, hr, hc, rfl, rfl⟩ | hpl2
    · exact ⟨_, _, _, _, ⟨_, rfl⟩, inv_q h, fun a hh => n_sta0 g0 g1 hr hc hR hC h9 hn hp, Or.inl ⟨rfl, fun a hh _ _ => by rw [← (state_eq a3 hR hC hn hp hr hc).1]; exact b_state0 (by omega) (by omega) (by omega) (by omega) (by omega) (by omega)⟩⟩
    · exact ⟨_, _, _, _, ⟨_, rfl⟩, inv_q h, fun a hh => n_sta1 g0 g1 hR1 hR hC1 hC h9 hn (Or.inr ⟨⟨p, hp, rfl⟩, hpl2⟩), Or.inr ⟨0, 2, rfl, rfl, fun a hh _ _ => b_state1 (Or.inr ⟨⟨p, by omega, rfl⟩, fun z => hpl2 ((hpl _ _).mp z)⟩) (by omega)⟩⟩
  · exact ⟨_, _, _, _, ⟨_, rfl⟩, inv_q h, fun a hh => n_sta1 g0 g1 hR1 hR hC1 hC h9 hn (Or.inl hu), Or.inr ⟨0, 2, rfl, rfl, fun a hh _ _ => b_state1 (Or.inl (by rw [m3]; exact hu)) (by omega)⟩⟩
theorem q_holder (h : Inv L (bf, bn, le, re, nw, ub, hs, lg, sl, rp, sv, ps) (ha, fi, se, pe, ho, ti, pa, ac, pr, tm, fc, ru, md) (mf, mg, mv, mi, th, re, pm, iz, ty, ea, mr, mc, br, bc)) {u v w : Int32} : Outc t0 x y L 102 181 [2, 3] (bf, bn, le, re, nw, ub, hs, lg, sl, rp, sv, ps) (ha, fi, se, pe, ho, ti, pa, ac, pr, tm, fc, ru, md) (mf, mg, mv, mi, th, re, pm, iz, ty, ea, mr, mc, br, bc) [.int u, .int v, .int w] [.int u, .int v, .int w] isI := by
  obtain ⟨K, N, kf, pf, R, C, n, mh, m, m4, D, hL, hW, hM⟩ := inv_cur h
  have hW' := hW
  have hM' := hM
  obtain ⟨w1, w2, w3, w4, w5, w6, w7, w8, w9, w10⟩ := hW'
  obtain ⟨a1, a2, a3, a4, a5, a6, a7, a8, a9, a10, a11, a12⟩ := hM'
  dsimp only [oHa, oPe, oSe, oHo, oTi, oPa, oAc, oPr, oTm, oFc, oRu, oMd] at a1 a2 a3 a4 a5 a6 a7 a8 a9 a10 a11 a12
  have hw1 := w1
  obtain ⟨g0, g1, hR1, hR, hC1, hC, hkn, hout⟩ := hw1
  have m1 := a1.1
  have m2 := a1.2.1
  have m3 := a2.1
  have h9 := w2.1
  have hn := w2.2.1
  have hho := a4.1
  have h29 := w6.1
  have hmh := w6.2.1
  have hti := a5.1
  have h30 := w7.1
  have hm20 := w7.2.1
  have hN := N_le hW
  have hpa := a6.1
  have h31 := w9.1
  have hm40 := w9.2
  have hpl : ∀ v w, plIn ha v w ↔ plJ R C v w := fun v w => by unfold plIn; rw [m1, m2]
  rcases spl u n (by omega) with ⟨p, hp, rfl⟩ | hu
  · rcases pl_no (R := R) (C := C) (v := v) (w := w) (by omega) (by omega) with ⟨r, c, hr, hc, rfl, rfl⟩ | hpl2
    · have e := (state_eq a3 hR hC hn hp hr hc).2
      by_cases q : mf (139 + (96 * p + 12 * r + c)) = nI 1 ∨ mf (139 + (96 * p + 12 * r + c)) = nI 2
      · rw [if_pos q] at e
        have hq : ¬ se.2 (p * 96 + r * 12 + c) = -nI 1 := by
          rw [e]
          have := holder_no w3 (96 * p + 12 * r + c) (by omega) q
          exact this
        exact ⟨_, _, _, _, ⟨_, rfl⟩, inv_q h, fun a hh => n_hol0 g0 g1 hr hc hR hC h9 hn hp q, Or.inl ⟨rfl, fun a hh _ _ => by rw [← e]; exact b_holder0 (by omega) (by omega) (by omega) (by omega) (by omega) (by omega) hq⟩⟩
      · rw [if_neg q] at e
        exact ⟨_, _, _, _, ⟨_, rfl⟩, inv_q h, fun a hh => n_hol2 g0 g1 hr hc hR hC h9 hn hp (fun z => q (Or.inl z)) (fun z => q (Or.inr z)), Or.inr ⟨1, 3, rfl, rfl, fun a hh _ _ => b_holder2 (by omega) (by omega) (by omega) (by omega) (by omega) (by omega) e⟩⟩
    · exact ⟨_, _, _, _, ⟨_, rfl⟩, inv_q h, fun a hh => n_hol1 g0 g1 hR1 hR hC1 hC h9 hn (Or.inr ⟨⟨p, hp, rfl⟩, hpl2⟩), Or.inr ⟨0, 2, rfl, rfl, fun a hh _ _ => b_holder1 (Or.inr ⟨⟨p, by omega, rfl⟩, fun z => hpl2 ((hpl _ _).mp z)⟩) (by omega)⟩⟩
  · exact ⟨_, _, _, _, ⟨_, rfl⟩, inv_q h, fun a hh => n_hol1 g0 g1 hR1 hR hC1 hC h9 hn (Or.inl hu), Or.inr ⟨0, 2, rfl, rfl, fun a hh _ _ => b_holder1 (Or.inl (by rw [m3]; exact hu)) (by omega)⟩⟩
theorem q_acct (h : Inv L (bf, bn, le, re, nw, ub, hs, lg, sl, rp, sv, ps) (ha, fi, se, pe, ho, ti, pa, ac, pr, tm, fc, ru, md) (mf, mg, mv, mi, th, re, pm, iz, ty, ea, mr, mc, br, bc)) {u : Int32} : Outc t0 x y L 140 226 [2] (bf, bn, le, re, nw, ub, hs, lg, sl, rp, sv, ps) (ha, fi, se, pe, ho, ti, pa, ac, pr, tm, fc, ru, md) (mf, mg, mv, mi, th, re, pm, iz, ty, ea, mr, mc, br, bc) [.int u] [.int u] isI := by
  obtain ⟨K, N, kf, pf, R, C, n, mh, m, m4, D, hL, hW, hM⟩ := inv_cur h
  have hW' := hW
  have hM' := hM
  obtain ⟨w1, w2, w3, w4, w5, w6, w7, w8, w9, w10⟩ := hW'
  obtain ⟨a1, a2, a3, a4, a5, a6, a7, a8, a9, a10, a11, a12⟩ := hM'
  dsimp only [oHa, oPe, oSe, oHo, oTi, oPa, oAc, oPr, oTm, oFc, oRu, oMd] at a1 a2 a3 a4 a5 a6 a7 a8 a9 a10 a11 a12
  have hw1 := w1
  obtain ⟨g0, g1, hR1, hR, hC1, hC, hkn, hout⟩ := hw1
  have m1 := a1.1
  have m2 := a1.2.1
  have m3 := a2.1
  have h9 := w2.1
  have hn := w2.2.1
  have hho := a4.1
  have h29 := w6.1
  have hmh := w6.2.1
  have hti := a5.1
  have h30 := w7.1
  have hm20 := w7.2.1
  have hN := N_le hW
  have hpa := a6.1
  have h31 := w9.1
  have hm40 := w9.2
  rcases spl u 10 (by omega) with ⟨c, hc, rfl⟩ | hu
  · exact ⟨_, _, _, _, ⟨_, rfl⟩, inv_q h, fun a hh => n_acc0 hc, Or.inl ⟨rfl, fun a hh _ _ => by rw [← a7 c hc]; exact b_acct0 hc⟩⟩
  · exact ⟨_, _, _, _, ⟨_, rfl⟩, inv_q h, fun a hh => n_acc1 hu, Or.inr ⟨0, 2, rfl, rfl, fun a hh _ _ => b_acct1 hu⟩⟩
theorem q_reason (h : Inv L (bf, bn, le, re, nw, ub, hs, lg, sl, rp, sv, ps) (ha, fi, se, pe, ho, ti, pa, ac, pr, tm, fc, ru, md) (mf, mg, mv, mi, th, re, pm, iz, ty, ea, mr, mc, br, bc)) : Outc t0 x y L 26 232 [] (bf, bn, le, re, nw, ub, hs, lg, sl, rp, sv, ps) (ha, fi, se, pe, ho, ti, pa, ac, pr, tm, fc, ru, md) (mf, mg, mv, mi, th, re, pm, iz, ty, ea, mr, mc, br, bc) [] [] isI := ⟨_, _, _, _, ⟨_, rfl⟩, inv_q h, fun a hh => n_reason, Or.inl ⟨rfl, fun a hh _ _ => b_reason⟩⟩
theorem q_perf (h : Inv L (bf, bn, le, re, nw, ub, hs, lg, sl, rp, sv, ps) (ha, fi, se, pe, ho, ti, pa, ac, pr, tm, fc, ru, md) (mf, mg, mv, mi, th, re, pm, iz, ty, ea, mr, mc, br, bc)) {u w : Int32} : Outc t0 x y L 135 222 [2, 1] (bf, bn, le, re, nw, ub, hs, lg, sl, rp, sv, ps) (ha, fi, se, pe, ho, ti, pa, ac, pr, tm, fc, ru, md) (mf, mg, mv, mi, th, re, pm, iz, ty, ea, mr, mc, br, bc) [.int u, .int w] [.int u, .int w] isI := by
  obtain ⟨K, N, kf, pf, R, C, n, mh, m, m4, D, hL, hW, hM⟩ := inv_cur h
  have hW' := hW
  have hM' := hM
  obtain ⟨w1, w2, w3, w4, w5, w6, w7, w8, w9, w10⟩ := hW'
  obtain ⟨a1, a2, a3, a4, a5, a6, a7, a8, a9, a10, a11, a12⟩ := hM'
  dsimp only [oHa, oPe, oSe, oHo, oTi, oPa, oAc, oPr, oTm, oFc, oRu, oMd] at a1 a2 a3 a4 a5 a6 a7 a8 a9 a10 a11 a12
  have hw1 := w1
  obtain ⟨g0, g1, hR1, hR, hC1, hC, hkn, hout⟩ := hw1
  have m1 := a1.1
  have m2 := a1.2.1
  have m3 := a2.1
  have h9 := w2.1
  have hn := w2.2.1
  have hho := a4.1
  have h29 := w6.1
  have hmh := w6.2.1
  have hti := a5.1
  have h30 := w7.1
  have hm20 := w7.2.1
  have hN := N_le hW
  have hpa := a6.1
  have h31 := w9.1
  have hm40 := w9.2
  rcases spl u n (by omega) with ⟨p, hp, rfl⟩ | hu
  · have e := a2.2 p hp
    rcases spl2 w 7 (by decide) with ⟨k, hk, rfl⟩ | ⟨hw, hw'⟩
    · rcases (show k = 0 ∨ k = 1 ∨ k = 2 ∨ k = 3 ∨ k = 4 ∨ k = 5 ∨ k = 6 ∨ k = 7 by omega) with rfl | rfl | rfl | rfl | rfl | rfl | rfl | rfl
      · exact ⟨_, _, _, _, ⟨_, rfl⟩, inv_q h, fun a hh => n_perf0_0 h9 hn hp, Or.inl ⟨rfl, fun a hh _ _ => by rw [← e.1]; exact b_perf0_0 (by omega) (by omega)⟩⟩
      · exact ⟨_, _, _, _, ⟨_, rfl⟩, inv_q h, fun a hh => n_perf0_1 h9 hn hp, Or.inl ⟨rfl, fun a hh _ _ => by rw [← e.2.1]; exact b_perf0_1 (by omega) (by omega)⟩⟩
      · exact ⟨_, _, _, _, ⟨_, rfl⟩, inv_q h, fun a hh => n_perf0_2 h9 hn hp h30 hm20, Or.inl ⟨rfl, fun a hh _ _ => by rw [← rev_eq w7 a5 hn a2 hp]; exact b_perf0_2 (by omega) (by omega) (by omega)⟩⟩
      · exact ⟨_, _, _, _, ⟨_, rfl⟩, inv_q h, fun a hh => n_perf0_3 h9 hn hp, Or.inl ⟨rfl, fun a hh _ _ => by rw [← cnt_eq a3 hp hn (by decide)]; exact b_perf0_3 (by omega) (by omega)⟩⟩
      · exact ⟨_, _, _, _, ⟨_, rfl⟩, inv_q h, fun a hh => n_perf0_4 h9 hn hp, Or.inl ⟨rfl, fun a hh _ _ => by rw [← cnt_eq a3 hp hn (by decide)]; exact b_perf0_4 (by omega) (by omega)⟩⟩
      · exact ⟨_, _, _, _, ⟨_, rfl⟩, inv_q h, fun a hh => n_perf0_5 h9 hn hp, Or.inl ⟨rfl, fun a hh _ _ => by rw [← cnt_eq a3 hp hn (by decide)]; exact b_perf0_5 (by omega) (by omega)⟩⟩
      · exact ⟨_, _, _, _, ⟨_, rfl⟩, inv_q h, fun a hh => n_perf0_6 h9 hn hp, Or.inl ⟨rfl, fun a hh _ _ => by rw [← cnt_eq a3 hp hn (by decide)]; exact b_perf0_6 (by omega) (by omega)⟩⟩
      · exact ⟨_, _, _, _, ⟨_, rfl⟩, inv_q h, fun a hh => n_perf0_7 h9 hn hp g0 g1 hR1 hR hC1 hC hkn, Or.inl ⟨rfl, fun a hh _ _ => by rw [← vfr_eq w1 a1 a3 a8 a2 hn hp]; exact b_perf0_7 (by omega) (by omega) (by omega) (by omega) a1.2.2.2.1⟩⟩
    · exact ⟨_, _, _, _, ⟨_, rfl⟩, inv_q h, fun a hh => n_perf2 h9 hn hp hw, Or.inr ⟨1, 1, rfl, rfl, fun a hh _ _ => b_perf2 (by omega) (by omega) hw'⟩⟩
  · exact ⟨_, _, _, _, ⟨_, rfl⟩, inv_q h, fun a hh => n_perf1 h9 hn hu, Or.inr ⟨0, 2, rfl, rfl, fun a hh _ _ => b_perf1 (by rw [m3]; exact hu)⟩⟩
theorem q_count (h : Inv L (bf, bn, le, re, nw, ub, hs, lg, sl, rp, sv, ps) (ha, fi, se, pe, ho, ti, pa, ac, pr, tm, fc, ru, md) (mf, mg, mv, mi, th, re, pm, iz, ty, ea, mr, mc, br, bc)) (hlg : nI lg.1 = mf 32) {w : Int32} : Outc t0 x y L 147 229 [1] (bf, bn, le, re, nw, ub, hs, lg, sl, rp, sv, ps) (ha, fi, se, pe, ho, ti, pa, ac, pr, tm, fc, ru, md) (mf, mg, mv, mi, th, re, pm, iz, ty, ea, mr, mc, br, bc) [.int w] [.int w] isI := by
  obtain ⟨K, N, kf, pf, R, C, n, mh, m, m4, D, hL, hW, hM⟩ := inv_cur h
  have hW' := hW
  have hM' := hM
  obtain ⟨w1, w2, w3, w4, w5, w6, w7, w8, w9, w10⟩ := hW'
  obtain ⟨a1, a2, a3, a4, a5, a6, a7, a8, a9, a10, a11, a12⟩ := hM'
  dsimp only [oHa, oPe, oSe, oHo, oTi, oPa, oAc, oPr, oTm, oFc, oRu, oMd] at a1 a2 a3 a4 a5 a6 a7 a8 a9 a10 a11 a12
  have hw1 := w1
  obtain ⟨g0, g1, hR1, hR, hC1, hC, hkn, hout⟩ := hw1
  have m1 := a1.1
  have m2 := a1.2.1
  have m3 := a2.1
  have h9 := w2.1
  have hn := w2.2.1
  have hho := a4.1
  have h29 := w6.1
  have hmh := w6.2.1
  have hti := a5.1
  have h30 := w7.1
  have hm20 := w7.2.1
  have hN := N_le hW
  have hpa := a6.1
  have h31 := w9.1
  have hm40 := w9.2
  rcases spl2 w 7 (by decide) with ⟨k, hk, rfl⟩ | ⟨hw, hw'⟩
  · rcases (show k = 0 ∨ k = 1 ∨ k = 2 ∨ k = 3 ∨ k = 4 ∨ k = 5 ∨ k = 6 ∨ k = 7 by omega) with rfl | rfl | rfl | rfl | rfl | rfl | rfl | rfl
    · exact ⟨_, _, _, _, ⟨_, rfl⟩, inv_q h, fun a hh => n_cnt0_0, Or.inl ⟨rfl, fun a hh _ _ => by rw [← a9]; exact b_cnt0_0⟩⟩
    · exact ⟨_, _, _, _, ⟨_, rfl⟩, inv_q h, fun a hh => n_cnt0_1, Or.inl ⟨rfl, fun a hh _ _ => by rw [h9, ← m3]; exact b_cnt0_1⟩⟩
    · exact ⟨_, _, _, _, ⟨_, rfl⟩, inv_q h, fun a hh => n_cnt0_2, Or.inl ⟨rfl, fun a hh _ _ => by rw [h29, ← hho]; exact b_cnt0_2⟩⟩
    · exact ⟨_, _, _, _, ⟨_, rfl⟩, inv_q h, fun a hh => n_cnt0_3, Or.inl ⟨rfl, fun a hh _ _ => by rw [h30, ← ord_eq w7 a5]; exact b_cnt0_3 (by omega)⟩⟩
    · exact ⟨_, _, _, _, ⟨_, rfl⟩, inv_q h, fun a hh => n_cnt0_4 h9 hn h30 hm20, Or.inl ⟨rfl, fun a hh _ _ => by rw [tkN_eq w7 hn, ← hti]; exact b_cnt0_4⟩⟩
    · exact ⟨_, _, _, _, ⟨_, rfl⟩, inv_q h, fun a hh => n_cnt0_5, Or.inl ⟨rfl, fun a hh _ _ => by rw [← a12]; exact b_cnt0_5⟩⟩
    · exact ⟨_, _, _, _, ⟨_, rfl⟩, inv_q h, fun a hh => n_cnt0_6, Or.inl ⟨rfl, fun a hh _ _ => by rw [← a1.2.2.1]; exact b_cnt0_6⟩⟩
    · exact ⟨_, _, _, _, ⟨_, rfl⟩, inv_q h, fun a hh => n_cnt0_7, Or.inl ⟨rfl, fun a hh _ _ => by rw [← hlg]; exact b_cnt0_7⟩⟩
  · exact ⟨_, _, _, _, ⟨_, rfl⟩, inv_q h, fun a hh => n_cnt1 hw', Or.inr ⟨0, 1, rfl, rfl, fun a hh _ _ => b_cnt1 hw'⟩⟩
theorem q_led (h : Inv L (bf, bn, le, re, nw, ub, hs, lg, sl, rp, sv, ps) (ha, fi, se, pe, ho, ti, pa, ac, pr, tm, fc, ru, md) (mf, mg, mv, mi, th, re, pm, iz, ty, ea, mr, mc, br, bc)) {u w : Int32} : Outc t0 x y L 149 231 [2] (bf, bn, le, re, nw, ub, hs, lg, sl, rp, sv, ps) (ha, fi, se, pe, ho, ti, pa, ac, pr, tm, fc, ru, md) (mf, mg, mv, mi, th, re, pm, iz, ty, ea, mr, mc, br, bc) [.int u, .int w] [.int u, .int w] isI := by
  obtain ⟨K, N, kf, pf, R, C, n, mh, m, m4, D, hL, hW, hM⟩ := inv_cur h
  have hW' := hW
  have hM' := hM
  obtain ⟨w1, w2, w3, w4, w5, w6, w7, w8, w9, w10⟩ := hW'
  obtain ⟨a1, a2, a3, a4, a5, a6, a7, a8, a9, a10, a11, a12⟩ := hM'
  dsimp only [oHa, oPe, oSe, oHo, oTi, oPa, oAc, oPr, oTm, oFc, oRu, oMd] at a1 a2 a3 a4 a5 a6 a7 a8 a9 a10 a11 a12
  have hw1 := w1
  obtain ⟨g0, g1, hR1, hR, hC1, hC, hkn, hout⟩ := hw1
  have m1 := a1.1
  have m2 := a1.2.1
  have m3 := a2.1
  have h9 := w2.1
  have hn := w2.2.1
  have hho := a4.1
  have h29 := w6.1
  have hmh := w6.2.1
  have hti := a5.1
  have h30 := w7.1
  have hm20 := w7.2.1
  have hN := N_le hW
  have hpa := a6.1
  have h31 := w9.1
  have hm40 := w9.2
  by_cases q : u = -nI 1
  · subst q
    exact ⟨_, _, _, _, ⟨_, rfl⟩, inv_q h, fun a hh => n_led2, Or.inl ⟨rfl, fun a hh _ _ => by rw [h31, ← hpa]; exact b_led2⟩⟩
  · rcases pl_no (R := m4) (C := 3) (v := u) (w := w) (by omega) (by omega) with ⟨i, k, hi, hk, rfl, rfl⟩ | hb
    · exact ⟨_, _, _, _, ⟨_, rfl⟩, inv_q h, fun a hh => n_led0 h31 hm40 hi hk, Or.inl ⟨rfl, fun a hh _ _ => by rw [show 1895 + 3 * i + k = 1895 + (i * 3 + k) by omega, ← a6.2 (i * 3 + k) (by omega)]; exact b_led0 (by omega) hk (by omega)⟩⟩
    · exact ⟨_, _, _, _, ⟨_, rfl⟩, inv_q h, fun a hh => n_led1 h31 hm40 q hb, Or.inr ⟨0, 2, rfl, rfl, fun a hh _ _ => b_led1 q (by unfold leIn; rw [hpa]; exact hb)⟩⟩
end QUEST
