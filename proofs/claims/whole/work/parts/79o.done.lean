/-! a call on both sides: commands done -/
section DONE
variable {t0 x y L : Nat} {bf : Nat → Int32} {bn nw ub : Nat} {le hs : Int32} {lg sl : Tab} {rp sv : Off} {ps : Nat → Off} {ha : Hal} {fi : Fnd} {se : Sea} {pe ho ti pa : Tab} {ac pr : Nat → Int32} {tm fc ru md : Int32} {mf mg mv mi : Nat → Int32} {th re iz ea mr mc br bc : Int32} {pm ty : Nat}
/-- a command done, its rows given -/
theorem inv_do {fi1 : Fnd} {o' : Off} {x0 x1 x2 x3 x4 x5 x6 th' br' bc' : Int32} {mf' : Nat → Int32} (h : Inv L (bf, bn, le, re, nw, ub, hs, lg, sl, rp, sv, ps) (ha, fi, se, pe, ho, ti, pa, ac, pr, tm, fc, ru, md) (mf, mg, mv, mi, th, re, pm, iz, ty, ea, mr, mc, br, bc)) (hc : ∀ N kf pf R C n mh m m4 D, WF mf N kf pf R C n mh m m4 lg.1 D → Mat (ha, fi, se, pe, ho, ti, pa, ac, pr, tm, fc, ru, md) mf N kf pf R C n mh m4 → ∃ N' kf' pf' n' mh' m' m4' D', WF mf' N' kf' pf' R C n' mh' m' m4' (lg.1 + 1) D' ∧ Mat o' mf' N' kf' pf' R C n' mh' m4' ∧ oHa o' = ha ∧ ∀ (w : Nat → Int32) (ha : Hal) (fi : Fnd) (se : Sea) (pe ho ti pa : Tab) (ac pr : Nat → Int32) (tm fc ru md : Int32), (w 0 = x0 ∧ w 1 = x1 ∧ w 2 = x2 ∧ w 3 = x3 ∧ w 4 = x4 ∧ w 5 = x5 ∧ w 6 = x6) → Mat (ha, fi, se, pe, ho, ti, pa, ac, pr, tm, fc, ru, md) mf N kf pf R C n mh m4 → ∃ q', Mat q' mf' N' kf' pf' R C n' mh' m4' ∧ oHa q' = ha ∧ repP w (ha, fi, se, pe, ho, ti, pa, ac, pr, tm, fc, ru, md) q') : Inv (L + 1) (remB (bf, bn, le, re, nw, ub, hs, lg, sl, rp, sv, ps) (ha, fi1, se, pe, ho, ti, pa, ac, pr, tm, fc, ru, md) x0 x1 x2 x3 x4 x5 x6) o' (mf', cmG mf mg pm, mv, mi, th', re, cmP pm, iz, ty, ea, mr, mc, br', bc') := by
  refine inv_cmd h rfl gM_fi (fun A hs hg hf => ?_)
  have w := hs.1 _ (Nat.le_refl _)
  generalize A lg.1 = g at hg hf w ⊢
  obtain ⟨f, N, kf, pf, R, C, n, mh, m, m4, D⟩ := g
  have hf : mf = f := hf
  subst hf
  obtain ⟨N', kf', pf', n', mh', m', m4', D', k1, k2, k3, k4⟩ := hc N kf pf R C n mh m m4 D w hg
  refine ⟨(mf', N', kf', pf', R, C, n', mh', m', m4', D'), k1, k2, k3, rfl, fun w' hw' q hq => ?_⟩
  obtain ⟨q1, q2, q3, q4, q5, q6, q7, q8, q9, q10, q11, q12, q13⟩ := q
  exact k4 w' q1 q2 q3 q4 q5 q6 q7 q8 q9 q10 q11 q12 q13 hw' hq
theorem q_rule (h : Inv L (bf, bn, le, re, nw, ub, hs, lg, sl, rp, sv, ps) (ha, fi, se, pe, ho, ti, pa, ac, pr, tm, fc, ru, md) (mf, mg, mv, mi, th, re, pm, iz, ty, ea, mr, mc, br, bc)) (hL : L < 512) {k : Nat} (hk : k < 2) : Outc t0 x y L 14 175 [] (bf, bn, le, re, nw, ub, hs, lg, sl, rp, sv, ps) (ha, fi, se, pe, ho, ti, pa, ac, pr, tm, fc, ru, md) (mf, mg, mv, mi, th, re, pm, iz, ty, ea, mr, mc, br, bc) [.int (nI k)] [.int (nI k)] isI := by
  obtain ⟨K, N, kf, pf, R, C, n, mh, m, m4, D, hL, hW, hM⟩ := inv_cur h
  have hW' := hW
  have hM' := hM
  obtain ⟨w1, w2, w3, w4, w5, w6, w7, w8, w9, w10⟩ := hW'
  obtain ⟨a1, a2, a3, a4, a5, a6, a7, a8, a9, a10, a11, a12⟩ := hM'
  dsimp only [oHa, oPe, oSe, oHo, oTi, oPa, oAc, oPr, oTm, oFc, oRu, oMd] at a1 a2 a3 a4 a5 a6 a7 a8 a9 a10 a11 a12
  have hw1 := w1
  obtain ⟨g0, g1, hR1, hR, hC1, hC, hkn, hout⟩ := hw1
  have m1 := a1.1
  have m2 := a1.2.1
  have m3 := a2.1
  have h9 := w2.1
  have hn := w2.2.1
  have hho := a4.1
  have h29 := w6.1
  have hmh := w6.2.1
  have hti := a5.1
  have h30 := w7.1
  have hm20 := w7.2.1
  have hN := N_le hW
  have hpa := a6.1
  have h31 := w9.1
  have hm40 := w9.2
  have hcp := h
  obtain ⟨-, -, -, h4, h5, h6, h7, h8, -⟩ := hcp
  have hok := mat_okO hW hM (by omega)
  refine ⟨_, _, _, _, ⟨_, rfl⟩, inv_do h (fun N kf pf R C n mh m m4 D hW hM => ?_), fun a hh => n_rule0 hk w4.2 (by omega), Or.inl ⟨rfl, fun a hh _ _ => by rw [← a11]; exact b_rule0 hk (by rw [a11]; exact w4.2) h5 h7 (by omega) hok⟩⟩
  refine ⟨N, kf, pf, n, mh, m, m4, D, rule_wf hW hk, rule_mat hW hM, rfl, fun w ha fi se pe ho ti pa ac pr tm fc ru md hw hq => ⟨_, rule_mat hW hq, rfl, p_rule hk ?_ hw.1 hw.2.1⟩⟩
  have : ru = mf 7 := hq.2.2.2.2.2.2.2.2.2.2.1
  rw [this]
  exact hW.2.2.2.1.2
theorem q_add (h : Inv L (bf, bn, le, re, nw, ub, hs, lg, sl, rp, sv, ps) (ha, fi, se, pe, ho, ti, pa, ac, pr, tm, fc, ru, md) (mf, mg, mv, mi, th, re, pm, iz, ty, ea, mr, mc, br, bc)) (hL : L < 512) {u v : Int32} : Outc t0 x y L 89 171 [1, 0] (bf, bn, le, re, nw, ub, hs, lg, sl, rp, sv, ps) (ha, fi, se, pe, ho, ti, pa, ac, pr, tm, fc, ru, md) (mf, mg, mv, mi, th, re, pm, iz, ty, ea, mr, mc, br, bc) [.int u, .int v] [.int u, .int v] isI := by
  obtain ⟨K, N, kf, pf, R, C, n, mh, m, m4, D, hL, hW, hM⟩ := inv_cur h
  have hW' := hW
  have hM' := hM
  obtain ⟨w1, w2, w3, w4, w5, w6, w7, w8, w9, w10⟩ := hW'
  obtain ⟨a1, a2, a3, a4, a5, a6, a7, a8, a9, a10, a11, a12⟩ := hM'
  dsimp only [oHa, oPe, oSe, oHo, oTi, oPa, oAc, oPr, oTm, oFc, oRu, oMd] at a1 a2 a3 a4 a5 a6 a7 a8 a9 a10 a11 a12
  have hw1 := w1
  obtain ⟨g0, g1, hR1, hR, hC1, hC, hkn, hout⟩ := hw1
  have m1 := a1.1
  have m2 := a1.2.1
  have m3 := a2.1
  have h9 := w2.1
  have hn := w2.2.1
  have hho := a4.1
  have h29 := w6.1
  have hmh := w6.2.1
  have hti := a5.1
  have h30 := w7.1
  have hm20 := w7.2.1
  have hN := N_le hW
  have hpa := a6.1
  have h31 := w9.1
  have hm40 := w9.2
  have hcp := h
  obtain ⟨-, -, -, h4, h5, h6, h7, h8, -⟩ := hcp
  have hok := mat_okO hW hM (by omega)
  by_cases c : u ≤ mf 8 ∨ nI 100000 < u ∨ v < nI 10 ∨ nI 300 < v
  · exact ⟨_, _, _, _, ⟨_, rfl⟩, inv_q h, fun a hh => n_add1 c, Or.inr ⟨0, 1, rfl, rfl, fun a hh _ _ => b_add1 (by rw [a9]; exact c)⟩⟩
  · have c1 : ¬ u ≤ mf 8 := fun z => c (Or.inl z)
    have c2 : ¬ nI 100000 < u := fun z => c (Or.inr (Or.inl z))
    have c3 : ¬ v < nI 10 := fun z => c (Or.inr (Or.inr (Or.inl z)))
    have c4 : ¬ nI 300 < v := fun z => c (Or.inr (Or.inr (Or.inr z)))
    have c3' := Int32.not_lt.mp c3
    have c4' := Int32.not_lt.mp c4
    by_cases n6 : n = 6
    · exact ⟨_, _, _, _, ⟨_, rfl⟩, inv_q h, fun a hh => n_add2 c1 c2 c3' c4' (by rw [h9, n6]), Or.inr ⟨1, 0, rfl, rfl, fun a hh _ _ => b_add2 (by rw [a9]; exact c1) c2 c3 c4' (by omega)⟩⟩
    · refine ⟨_, _, _, _, ⟨_, rfl⟩, inv_do h (fun N kf pf R C n' mh m m4 D hW hM => ?_), fun a hh => n_add0 c1 c2 c3' c4' h9 (by omega) (by omega), Or.inl ⟨rfl, fun a hh _ _ => by rw [← m3]; exact b_add0 (by rw [a9]; exact c1) c2 c3 c4' (by omega) (by omega) (by omega) h5 h7 (by omega) hok⟩⟩
      have e := hW.2.1.1
      have hn' := hW.2.1.2.1
      rw [h9, nI_eq (by omega) (by omega)] at e
      subst e
      refine ⟨N, kf, pf, n + 1, mh, m, m4, D, add_wf hW (by omega) c1 c2, add_mat hW hM (by omega), rfl, fun w ha fi se pe ho ti pa ac pr tm fc ru md hw hq => ⟨_, add_mat hW hq (by omega), rfl, p_add ?_ ?_ ?_ hw.1 hw.2.1 hw.2.2.1⟩⟩
      · have : pe.1 = n := hq.2.1.1
        omega
      · have : ha.2.2.1 = R := hq.1.1
        have := hW.1.2.2.2.1
        omega
      · have : ha.2.2.2.1 = C := hq.1.2.1
        have := hW.1.2.2.2.2.2.1
        omega
theorem q_price (h : Inv L (bf, bn, le, re, nw, ub, hs, lg, sl, rp, sv, ps) (ha, fi, se, pe, ho, ti, pa, ac, pr, tm, fc, ru, md) (mf, mg, mv, mi, th, re, pm, iz, ty, ea, mr, mc, br, bc)) (hL : L < 512) {u v : Int32} : Outc t0 x y L 91 173 [2, 1] (bf, bn, le, re, nw, ub, hs, lg, sl, rp, sv, ps) (ha, fi, se, pe, ho, ti, pa, ac, pr, tm, fc, ru, md) (mf, mg, mv, mi, th, re, pm, iz, ty, ea, mr, mc, br, bc) [.int u, .int v] [.int u, .int v] isI := by
  obtain ⟨K, N, kf, pf, R, C, n, mh, m, m4, D, hL, hW, hM⟩ := inv_cur h
  have hW' := hW
  have hM' := hM
  obtain ⟨w1, w2, w3, w4, w5, w6, w7, w8, w9, w10⟩ := hW'
  obtain ⟨a1, a2, a3, a4, a5, a6, a7, a8, a9, a10, a11, a12⟩ := hM'
  dsimp only [oHa, oPe, oSe, oHo, oTi, oPa, oAc, oPr, oTm, oFc, oRu, oMd] at a1 a2 a3 a4 a5 a6 a7 a8 a9 a10 a11 a12
  have hw1 := w1
  obtain ⟨g0, g1, hR1, hR, hC1, hC, hkn, hout⟩ := hw1
  have m1 := a1.1
  have m2 := a1.2.1
  have m3 := a2.1
  have h9 := w2.1
  have hn := w2.2.1
  have hho := a4.1
  have h29 := w6.1
  have hmh := w6.2.1
  have hti := a5.1
  have h30 := w7.1
  have hm20 := w7.2.1
  have hN := N_le hW
  have hpa := a6.1
  have h31 := w9.1
  have hm40 := w9.2
  have hcp := h
  obtain ⟨-, -, -, h4, h5, h6, h7, h8, -⟩ := hcp
  have hok := mat_okO hW hM (by omega)
  have sp : (∃ k, 1 ≤ k ∧ k ≤ 4 ∧ u = nI k) ∨ (u < nI 1 ∨ nI 4 < u) := by
    rcases spl2 u 4 (by decide) with ⟨k, hk, rfl⟩ | ⟨hu, -⟩
    · by_cases q : k = 0
      · subst q
        exact Or.inr (Or.inl (by decide))
      · exact Or.inl ⟨k, by omega, hk, rfl⟩
    · refine Or.inr (hu.elim (fun z => Or.inl ?_) Or.inr)
      rw [Int32.lt_iff_toInt_lt, nI_toInt (by decide)] at z ⊢
      omega
  rcases sp with ⟨k, k1, k4, rfl⟩ | hu
  · by_cases c : v < nI 0 ∨ nI 100000 < v
    · exact ⟨_, _, _, _, ⟨_, rfl⟩, inv_q h, fun a hh => n_price2 k1 k4 c, Or.inr ⟨1, 1, rfl, rfl, fun a hh _ _ => b_price2 k1 k4 c⟩⟩
    · have c1 : ¬ v < nI 0 := fun z => c (Or.inl z)
      have c2 := Int32.not_lt.mp (fun z => c (Or.inr z))
      refine ⟨_, _, _, _, ⟨_, rfl⟩, inv_do h (fun N kf pf R C n mh m m4 D hW hM => ?_), fun a hh => n_price0 k1 k4 (Int32.not_lt.mp c1) c2 (by omega), Or.inl ⟨rfl, fun a hh _ _ => by rw [show 1 + k = 2 + (k - 1) by omega, ← a8 (k - 1) (by omega)]; exact b_price0 k1 k4 c1 c2 h5 h7 (by omega) hok⟩⟩
      exact ⟨N, kf, pf, n, mh, m, m4, D, price_wf hW k1 k4, price_mat hW hM k1 k4, rfl, fun w ha fi se pe ho ti pa ac pr tm fc ru md hw hq => ⟨_, price_mat hW hq k1 k4, rfl, p_price k1 k4 hw.1 hw.2.1 hw.2.2.1⟩⟩
  · exact ⟨_, _, _, _, ⟨_, rfl⟩, inv_q h, fun a hh => n_price1 hu, Or.inr ⟨0, 2, rfl, rfl, fun a hh _ _ => b_price1 hu⟩⟩
theorem q_focus (h : Inv L (bf, bn, le, re, nw, ub, hs, lg, sl, rp, sv, ps) (ha, fi, se, pe, ho, ti, pa, ac, pr, tm, fc, ru, md) (mf, mg, mv, mi, th, re, pm, iz, ty, ea, mr, mc, br, bc)) (hL : L < 512) {u : Int32} : Outc t0 x y L 93 174 [2] (bf, bn, le, re, nw, ub, hs, lg, sl, rp, sv, ps) (ha, fi, se, pe, ho, ti, pa, ac, pr, tm, fc, ru, md) (mf, mg, mv, mi, th, re, pm, iz, ty, ea, mr, mc, br, bc) [.int u] [.int u] isI := by
  obtain ⟨K, N, kf, pf, R, C, n, mh, m, m4, D, hL, hW, hM⟩ := inv_cur h
  have hW' := hW
  have hM' := hM
  obtain ⟨w1, w2, w3, w4, w5, w6, w7, w8, w9, w10⟩ := hW'
  obtain ⟨a1, a2, a3, a4, a5, a6, a7, a8, a9, a10, a11, a12⟩ := hM'
  dsimp only [oHa, oPe, oSe, oHo, oTi, oPa, oAc, oPr, oTm, oFc, oRu, oMd] at a1 a2 a3 a4 a5 a6 a7 a8 a9 a10 a11 a12
  have hw1 := w1
  obtain ⟨g0, g1, hR1, hR, hC1, hC, hkn, hout⟩ := hw1
  have m1 := a1.1
  have m2 := a1.2.1
  have m3 := a2.1
  have h9 := w2.1
  have hn := w2.2.1
  have hho := a4.1
  have h29 := w6.1
  have hmh := w6.2.1
  have hti := a5.1
  have h30 := w7.1
  have hm20 := w7.2.1
  have hN := N_le hW
  have hpa := a6.1
  have h31 := w9.1
  have hm40 := w9.2
  have hcp := h
  obtain ⟨-, -, -, h4, h5, h6, h7, h8, -⟩ := hcp
  have hok := mat_okO hW hM (by omega)
  rcases spl u R (by omega) with ⟨r, hr, rfl⟩ | hu
  · have c1 : ¬ nI r < nI 0 := by rw [nI_ltI (by omega) (by decide)]; omega
    have c2 : nI r < nI ha.2.2.1 := by rw [nI_ltI (by omega) (by omega)]; omega
    refine ⟨_, _, _, _, ⟨_, rfl⟩, inv_do h (fun N kf pf R C n mh m m4 D hW hM => ?_), fun a hh => n_foc0 g0 hR hr (by omega), Or.inl ⟨rfl, fun a hh _ _ => by rw [← a10]; exact b_foc0 c1 c2 h5 h7 (by omega) hok⟩⟩
    exact ⟨N, kf, pf, n, mh, m, m4, D, focus_wf hW, focus_mat hW hM, rfl, fun w ha fi se pe ho ti pa ac pr tm fc ru md hw hq => ⟨_, focus_mat hW hq, rfl, p_focus hw.1 hw.2.1⟩⟩
  · exact ⟨_, _, _, _, ⟨_, rfl⟩, inv_q h, fun a hh => n_foc1 g0 hR1 hR hu, Or.inr ⟨0, 2, rfl, rfl, fun a hh _ _ => b_foc1 (by rw [m1]; exact hu)⟩⟩
theorem q_block (h : Inv L (bf, bn, le, re, nw, ub, hs, lg, sl, rp, sv, ps) (ha, fi, se, pe, ho, ti, pa, ac, pr, tm, fc, ru, md) (mf, mg, mv, mi, th, re, pm, iz, ty, ea, mr, mc, br, bc)) (hL : L < 512) {u v w : Int32} {k : Nat} (hk : k < 2) : Outc t0 x y L 95 176 [2, 1, 0] (bf, bn, le, re, nw, ub, hs, lg, sl, rp, sv, ps) (ha, fi, se, pe, ho, ti, pa, ac, pr, tm, fc, ru, md) (mf, mg, mv, mi, th, re, pm, iz, ty, ea, mr, mc, br, bc) [.int u, .int v, .int w, .int (nI k)] [.int u, .int v, .int w, .int (nI k)] isI := by
  obtain ⟨K, N, kf, pf, R, C, n, mh, m, m4, D, hL, hW, hM⟩ := inv_cur h
  have hW' := hW
  have hM' := hM
  obtain ⟨w1, w2, w3, w4, w5, w6, w7, w8, w9, w10⟩ := hW'
  obtain ⟨a1, a2, a3, a4, a5, a6, a7, a8, a9, a10, a11, a12⟩ := hM'
  dsimp only [oHa, oPe, oSe, oHo, oTi, oPa, oAc, oPr, oTm, oFc, oRu, oMd] at a1 a2 a3 a4 a5 a6 a7 a8 a9 a10 a11 a12
  have hw1 := w1
  obtain ⟨g0, g1, hR1, hR, hC1, hC, hkn, hout⟩ := hw1
  have m1 := a1.1
  have m2 := a1.2.1
  have m3 := a2.1
  have h9 := w2.1
  have hn := w2.2.1
  have hho := a4.1
  have h29 := w6.1
  have hmh := w6.2.1
  have hti := a5.1
  have h30 := w7.1
  have hm20 := w7.2.1
  have hN := N_le hW
  have hpa := a6.1
  have h31 := w9.1
  have hm40 := w9.2
  have hcp := h
  obtain ⟨-, -, -, h4, h5, h6, h7, h8, -⟩ := hcp
  have hok := mat_okO hW hM (by omega)
  have hpl : ∀ v w, plIn ha v w ↔ plJ R C v w := fun v w => by unfold plIn; rw [m1, m2]
  rcases spl u n (by omega) with ⟨p, hp, rfl⟩ | hu
  · rcases pl_no (R := R) (C := C) (v := v) (w := w) (by omega) (by omega) with ⟨r, c, hr, hc, rfl, rfl⟩ | hpl2
    · have e := (state_eq a3 hR hC hn hp hr hc).1
      by_cases q : mf (43 + 12 * r + c) = nI 0
      · rw [if_pos q] at e
        exact ⟨_, _, _, _, ⟨_, rfl⟩, inv_q h, fun a hh => n_blk2 g0 g1 hr hc hR hC h9 hn hp q, Or.inr ⟨1, 1, rfl, rfl, fun a hh _ _ => b_blk2 (by omega) (by omega) (by omega) (by omega) (by omega) (by omega) e⟩⟩
      · rw [if_neg q] at e
        have hs4 := (w3 (96 * p + 12 * r + c) (by omega)).1
        have done : ∀ {k : Nat}, k < 2 → ∀ N kf pf R' C' n' mh m m4 D, WF mf N kf pf R' C' n' mh m m4 lg.1 D → Mat (ha, fi, se, pe, ho, ti, pa, ac, pr, tm, fc, ru, md) mf N kf pf R' C' n' mh m4 → ∃ N' kf' pf' n'' mh' m' m4' D', WF (upd (upd (upd mf 32 (mf 32 + nI 1)) (139 + (96 * p + 12 * r + c)) (nI (3 * k))) (715 + (96 * p + 12 * r + c)) (nI 0)) N' kf' pf' R' C' n'' mh' m' m4' (lg.1 + 1) D' ∧ Mat (ha, fi, (upd se.1 (p * 96 + r * 12 + c) (nI (3 * k)), upd se.2 (p * 96 + r * 12 + c) (-nI 1)), pe, ho, ti, pa, ac, pr, tm, fc, ru, md) (upd (upd (upd mf 32 (mf 32 + nI 1)) (139 + (96 * p + 12 * r + c)) (nI (3 * k))) (715 + (96 * p + 12 * r + c)) (nI 0)) N' kf' pf' R' C' n'' mh' m4' ∧ ha = ha ∧ ∀ (w : Nat → Int32) (ha : Hal) (fi : Fnd) (se : Sea) (pe ho ti pa : Tab) (ac pr : Nat → Int32) (tm fc ru md : Int32), (w 0 = nI 5 ∧ w 1 = nI p ∧ w 2 = nI r ∧ w 3 = nI c ∧ w 4 = nI k ∧ w 5 = nI 0 ∧ w 6 = nI 0) → Mat (ha, fi, se, pe, ho, ti, pa, ac, pr, tm, fc, ru, md) mf N kf pf R' C' n' mh m4 → ∃ q', Mat q' (upd (upd (upd mf 32 (mf 32 + nI 1)) (139 + (96 * p + 12 * r + c)) (nI (3 * k))) (715 + (96 * p + 12 * r + c)) (nI 0)) N' kf' pf' R' C' n'' mh' m4' ∧ oHa q' = ha ∧ repP w (ha, fi, se, pe, ho, ti, pa, ac, pr, tm, fc, ru, md) q' := by
          intro k hk N kf pf R' C' n' mh m m4 D hW hM
          have e0 := hW.1.1
          have e1 := hW.1.2.1
          have e9 := hW.2.1.1
          have b0 := hW.1.2.2.2.1
          have b1 := hW.1.2.2.2.2.2.1
          have b9 := hW.2.1.2.1
          rw [g0, nI_eq (by omega) (by omega)] at e0
          rw [g1, nI_eq (by omega) (by omega)] at e1
          rw [h9, nI_eq (by omega) (by omega)] at e9
          subst e0
          subst e1
          subst e9
          exact ⟨N, kf, pf, n, mh, m, m4, D, block_wf hW hp hr hc hk q, block_mat hW hM hp hr hc hk q, rfl, fun w ha fi se pe ho ti pa ac pr tm fc ru md hw hq => ⟨_, block_mat hW hq hp hr hc hk q, rfl, p_block (by omega) (by omega) (by omega) hk hw.1 hw.2.1 hw.2.2.1 hw.2.2.2.1 hw.2.2.2.2.1⟩⟩
        rcases hs4 with z | z | z | z
        · exact ⟨_, _, _, _, ⟨_, rfl⟩, inv_do h (done hk), fun a hh => n_blk0 g0 g1 hr hc hR hC h9 hn hp hk (by omega) q z, Or.inl ⟨rfl, fun a hh _ _ => b_blk0 (by omega) (by omega) (by omega) (by omega) (by omega) (by omega) hk (e.trans z) h5 h7 (by omega) hok⟩⟩
        · exact ⟨_, _, _, _, ⟨_, rfl⟩, inv_q h, fun a hh => n_blk3 g0 g1 hr hc hR hC h9 hn hp q (Or.inl z), Or.inr ⟨2, 0, rfl, rfl, fun a hh _ _ => b_blk3 (by omega) (by omega) (by omega) (by omega) (by omega) (by omega) (Or.inl (e.trans z))⟩⟩
        · exact ⟨_, _, _, _, ⟨_, rfl⟩, inv_q h, fun a hh => n_blk3 g0 g1 hr hc hR hC h9 hn hp q (Or.inr z), Or.inr ⟨2, 0, rfl, rfl, fun a hh _ _ => b_blk3 (by omega) (by omega) (by omega) (by omega) (by omega) (by omega) (Or.inr (e.trans z))⟩⟩
        · exact ⟨_, _, _, _, ⟨_, rfl⟩, inv_do h (done hk), fun a hh => n_blk00 g0 g1 hr hc hR hC h9 hn hp hk (by omega) q z, Or.inl ⟨rfl, fun a hh _ _ => b_blk00 (by omega) (by omega) (by omega) (by omega) (by omega) (by omega) hk (e.trans z) h5 h7 (by omega) hok⟩⟩
    · exact ⟨_, _, _, _, ⟨_, rfl⟩, inv_q h, fun a hh => n_blk1 g0 g1 hR1 hR hC1 hC h9 hn (Or.inr ⟨⟨p, hp, rfl⟩, hpl2⟩), Or.inr ⟨0, 2, rfl, rfl, fun a hh _ _ => b_blk1 (Or.inr ⟨⟨p, by omega, rfl⟩, fun z => hpl2 ((hpl _ _).mp z)⟩) (by omega)⟩⟩
  · exact ⟨_, _, _, _, ⟨_, rfl⟩, inv_q h, fun a hh => n_blk1 g0 g1 hR1 hR hC1 hC h9 hn (Or.inl hu), Or.inr ⟨0, 2, rfl, rfl, fun a hh _ _ => b_blk1 (Or.inl (by rw [m3]; exact hu)) (by omega)⟩⟩
/-- a command to be done: what holds before it, and what is to be shown -/
theorem inv_go (h : Inv L (bf, bn, le, re, nw, ub, hs, lg, sl, rp, sv, ps) (ha, fi, se, pe, ho, ti, pa, ac, pr, tm, fc, ru, md) (mf, mg, mv, mi, th, re, pm, iz, ty, ea, mr, mc, br, bc)) : ∃ N kf pf R C n mh m m4 D, WF mf N kf pf R C n mh m m4 lg.1 D ∧ Mat (ha, fi, se, pe, ho, ti, pa, ac, pr, tm, fc, ru, md) mf N kf pf R C n mh m4 ∧ ∀ (fi1 : Fnd) (o' : Off) (x0 x1 x2 x3 x4 x5 x6 th' br' bc' : Int32) (mf' : Nat → Int32), (∃ N' kf' pf' n' mh' m' m4' D', WF mf' N' kf' pf' R C n' mh' m' m4' (lg.1 + 1) D' ∧ Mat o' mf' N' kf' pf' R C n' mh' m4' ∧ oHa o' = ha ∧ ∀ (w : Nat → Int32) (ha : Hal) (fi : Fnd) (se : Sea) (pe ho ti pa : Tab) (ac pr : Nat → Int32) (tm fc ru md : Int32), (w 0 = x0 ∧ w 1 = x1 ∧ w 2 = x2 ∧ w 3 = x3 ∧ w 4 = x4 ∧ w 5 = x5 ∧ w 6 = x6) → Mat (ha, fi, se, pe, ho, ti, pa, ac, pr, tm, fc, ru, md) mf N kf pf R C n mh m4 → ∃ q', Mat q' mf' N' kf' pf' R C n' mh' m4' ∧ oHa q' = ha ∧ repP w (ha, fi, se, pe, ho, ti, pa, ac, pr, tm, fc, ru, md) q') → Inv (L + 1) (remB (bf, bn, le, re, nw, ub, hs, lg, sl, rp, sv, ps) (ha, fi1, se, pe, ho, ti, pa, ac, pr, tm, fc, ru, md) x0 x1 x2 x3 x4 x5 x6) o' (mf', cmG mf mg pm, mv, mi, th', re, cmP pm, iz, ty, ea, mr, mc, br', bc') := by
  obtain ⟨h1, h2, h3, h4, h5, h6, h7, h8, h9, A, a1, a2, a3, a4, a5⟩ := h
  have w := a1.1 _ (Nat.le_refl _)
  cases hg : A lg.1 with
  | mk f r =>
    obtain ⟨N, kf, pf, R, C, n, mh, m, m4, D⟩ := r
    have e : mf = f := by rw [a4, hg]
    subst e
    have w' := w
    have a2' := a2
    rw [hg] at w' a2'
    refine ⟨N, kf, pf, R, C, n, mh, m, m4, D, w', a2', fun fi1 o' x0 x1 x2 x3 x4 x5 x6 th' br' bc' mf' hc => ?_⟩
    refine inv_core ⟨h1, h2, h3, h4, h5, h6, h7, h8, h9, a1, a2, a3, a4, a5⟩ rfl gM_fi ?_
    obtain ⟨N', kf', pf', n', mh', m', m4', D', k1, k2, k3, k4⟩ := hc
    refine ⟨(mf', N', kf', pf', R, C, n', mh', m', m4', D'), k1, k2, k3, rfl, fun w' hw' q hq => ?_⟩
    obtain ⟨q1, q2, q3, q4, q5, q6, q7, q8, q9, q10, q11, q12, q13⟩ := q
    rw [hg] at hq
    exact k4 w' q1 q2 q3 q4 q5 q6 q7 q8 q9 q10 q11 q12 q13 hw' hq
end DONE
