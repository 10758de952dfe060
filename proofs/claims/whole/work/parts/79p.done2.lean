/-! a call on both sides: advance, hold, release, confirm -/
section DONE2
variable {t0 x y L : Nat} {bf : Nat → Int32} {bn nw ub : Nat} {le hs : Int32} {lg sl : Tab} {rp sv : Off} {ps : Nat → Off} {ha : Hal} {fi : Fnd} {se : Sea} {pe ho ti pa : Tab} {ac pr : Nat → Int32} {tm fc ru md : Int32} {mf mg mv mi : Nat → Int32} {th re iz ea mr mc br bc : Int32} {pm ty : Nat}
theorem n_one {v : Int32} (h : ¬ v < nI 1) : nI 1 ≤ v := Int32.not_lt.mp h
theorem hol_at {f : Nat → Int32} {mh i : Nat} {v : Int32} (hm : mHol ho f mh) (hi : i < mh) (e1 : f (1291 + 7 * i) = v) (e2 : ∀ j, j < i → ¬ f (1291 + 7 * j) = v) : ho.2 (i * 7 + 6) = v ∧ ∀ j, j < i → ¬ ho.2 (j * 7 + 6) = v := ⟨(hm.2 i hi).1.trans e1, fun j hj z => e2 j hj ((hm.2 j (by omega)).1.symm.trans z)⟩
theorem look_at {f st : Nat → Int32} {R C n S s ct kd : Nat} {br bc : Int32} {r c : Nat} (hw : wHal f R C) (hh : mHal ha f R C) (hst : stOK st f n) (hpe : mPer pe f n) (htm : tm = f 8) (hfc : fc = f 6) (hru : ru = f 7) (h7 : f 7 = nI 0 ∨ f 7 = nI 1) (h1 : 1 ≤ S) (h2 : S < 2 ^ n) (hn : n ≤ 6) (hkd : kd < 2) (hs1 : 1 ≤ s) (hs8 : s ≤ 8) (hf : ¬ (fndQ f S n R C s ct kd (nI 0, nI 0, nI 0, br, bc)).1 = nI 0) (hr : (fndQ f S n R C s ct kd (nI 0, nI 0, nI 0, br, bc)).2.2.2.1 = nI r) (hc : (fndQ f S n R C s ct kd (nI 0, nI 0, nI 0, br, bc)).2.2.2.2 = nI c) : ¬ (lookV ha fi st pe tm fc ru S s ct kd).2.2.2.1 = nI 0 ∧ (lookV ha fi st pe tm fc ru S s ct kd).2.2.2.2.1 = nI r ∧ (lookV ha fi st pe tm fc ru S s ct kd).2.2.2.2.2.1 = nI c := by
  obtain ⟨k, hk, e1, e2, hor⟩ := look_rel (s := s) (ct := ct) (kd := kd) (fi := fi) (br := br) (bc := bc) hw hh hst hpe htm hfc hru h7 h1 h2 hn hkd hs1 hs8
  rw [e2] at hf
  rcases hor with z | ⟨r', c', -, -, -, x1, x2, x3, x4, -, -⟩
  · rw [z] at hf
    exact absurd rfl hf
  · refine ⟨by rw [e1]; exact hf, ?_, ?_⟩
    · rw [x1, ← x3, hr]
    · rw [x2, ← x4, hc]
theorem q_adv (h : Inv L (bf, bn, le, re, nw, ub, hs, lg, sl, rp, sv, ps) (ha, fi, se, pe, ho, ti, pa, ac, pr, tm, fc, ru, md) (mf, mg, mv, mi, th, re, pm, iz, ty, ea, mr, mc, br, bc)) (hL : L < 512) {u : Int32} : Outc t0 x y L 105 206 [1, 0] (bf, bn, le, re, nw, ub, hs, lg, sl, rp, sv, ps) (ha, fi, se, pe, ho, ti, pa, ac, pr, tm, fc, ru, md) (mf, mg, mv, mi, th, re, pm, iz, ty, ea, mr, mc, br, bc) [.int u] [.int u] isI := by
  have hcp := h
  obtain ⟨-, -, -, h4, h5, h6, h7, h8, -⟩ := hcp
  obtain ⟨N, kf, pf, R, C, n, mh, m, m4, D, hW, hM, go⟩ := inv_go h
  have hW' := hW
  have hM' := hM
  obtain ⟨w1, w2, w3, w4, w5, w6, w7, w8, w9, w10⟩ := hW'
  obtain ⟨a1, a2, a3, a4, a5, a6, a7, a8, a9, a10, a11, a12⟩ := hM'
  dsimp only [oHa, oPe, oSe, oHo, oTi, oPa, oAc, oPr, oTm, oFc, oRu, oMd] at a1 a2 a3 a4 a5 a6 a7 a8 a9 a10 a11 a12
  have hw1 := w1
  obtain ⟨g0, g1, hR1, hR, hC1, hC, hkn, hout⟩ := hw1
  have m1 := a1.1
  have m2 := a1.2.1
  have m3 := a2.1
  have h9 := w2.1
  have hn := w2.2.1
  have hho := a4.1
  have h29 := w6.1
  have hmh := w6.2.1
  have hti := a5.1
  have h30 := w7.1
  have hm20 := w7.2.1
  have hN := N_le hW
  have hpa := a6.1
  have h31 := w9.1
  have hm40 := w9.2
  have hok := mat_okO hW hM (by omega)
  by_cases c : u < nI 1 ∨ nI 10000 < u
  · exact ⟨_, _, _, _, ⟨_, rfl⟩, inv_q h, fun a hh => n_adv1 c, Or.inr ⟨0, 1, rfl, rfl, fun a hh _ _ => b_adv1 c⟩⟩
  · have c1 : ¬ u < nI 1 := fun z => c (Or.inl z)
    have c2 : u ≤ nI 10000 := Int32.not_lt.mp (fun z => c (Or.inr z))
    by_cases c3 : mf 8 + u ≤ nI 100000
    · have t1 := time_wf hW (n_one c1) c2 c3
      have t2 := time_mat hW hM (v := u)
      have key := adv_rel_m t1 t2
      refine ⟨_, _, _, _, ⟨_, rfl⟩, go fi _ (nI 6) u (nI 0) (nI 0) (nI 0) (nI 0) (nI 0) (nI 0) br bc _ ⟨N, kf, pf, n, _, m, m4, D, adv_rel_w t1, key.1, rfl, fun w ha fi se pe ho ti pa ac pr tm fc ru md hw hq => ?_⟩, fun a hh => n_adv0 h9 hn (n_one c1) c2 c3 h29 hmh (fun i hi => hol_row hW hi) (by omega), Or.inl ⟨rfl, fun a hh _ _ => by rw [← key.2]; exact b_adv0 c1 c2 (by rw [a9]; exact c3) (by omega) (fun i hi => hol_rowC hW a4 (by omega)) h5 h7 (by omega) hok⟩⟩
      have hh : ho.1 = mh := hq.2.2.2.1.1
      exact ⟨_, (adv_rel_m t1 (time_mat hW hq (v := u))).1, rfl, p_pass (by omega) (fun i hi => hol_rowC hW hq.2.2.2.1 (by omega)) hw.1 hw.2.1⟩
    · exact ⟨_, _, _, _, ⟨_, rfl⟩, inv_q h, fun a hh => n_adv2 (n_one c1) c2 c3, Or.inr ⟨1, 0, rfl, rfl, fun a hh _ _ => b_adv2 c1 c2 (by rw [a9]; exact c3)⟩⟩
theorem q_rel (h : Inv L (bf, bn, le, re, nw, ub, hs, lg, sl, rp, sv, ps) (ha, fi, se, pe, ho, ti, pa, ac, pr, tm, fc, ru, md) (mf, mg, mv, mi, th, re, pm, iz, ty, ea, mr, mc, br, bc)) (hL : L < 512) {u : Int32} : Outc t0 x y L 118 202 [3] (bf, bn, le, re, nw, ub, hs, lg, sl, rp, sv, ps) (ha, fi, se, pe, ho, ti, pa, ac, pr, tm, fc, ru, md) (mf, mg, mv, mi, th, re, pm, iz, ty, ea, mr, mc, br, bc) [.int u] [.int u] isI := by
  have hcp := h
  obtain ⟨-, -, -, h4, h5, h6, h7, h8, -⟩ := hcp
  obtain ⟨N, kf, pf, R, C, n, mh, m, m4, D, hW, hM, go⟩ := inv_go h
  have hW' := hW
  have hM' := hM
  obtain ⟨w1, w2, w3, w4, w5, w6, w7, w8, w9, w10⟩ := hW'
  obtain ⟨a1, a2, a3, a4, a5, a6, a7, a8, a9, a10, a11, a12⟩ := hM'
  dsimp only [oHa, oPe, oSe, oHo, oTi, oPa, oAc, oPr, oTm, oFc, oRu, oMd] at a1 a2 a3 a4 a5 a6 a7 a8 a9 a10 a11 a12
  have hw1 := w1
  obtain ⟨g0, g1, hR1, hR, hC1, hC, hkn, hout⟩ := hw1
  have m1 := a1.1
  have m2 := a1.2.1
  have m3 := a2.1
  have h9 := w2.1
  have hn := w2.2.1
  have hho := a4.1
  have h29 := w6.1
  have hmh := w6.2.1
  have hti := a5.1
  have h30 := w7.1
  have hm20 := w7.2.1
  have hN := N_le hW
  have hpa := a6.1
  have h31 := w9.1
  have hm40 := w9.2
  have hok := mat_okO hW hM (by omega)
  rcases hol_sp w6 a4 u with ⟨i, hi, e1, e2, e3, e4⟩ | ⟨e1, e2⟩
  · have k1 := give_wf (cmd_wf hW) hi
    refine ⟨_, _, _, _, ⟨_, rfl⟩, go fi _ (nI 8) u (nI 0) (nI 0) (nI 0) (nI 0) (nI 0) (nI 0) br bc _ ⟨N, kf, pf, n, _, m, m4, D, k1, give_mat (cmd_wf hW) (cmd_mat hW hM) hi, rfl, fun w ha fi se pe ho ti pa ac pr tm fc ru md hw hq => ?_⟩, fun a hh => n_rel0 h29 hmh hi e1 e2 h9 hn (hol_row hW hi) (by omega), Or.inl ⟨rfl, fun a hh _ _ => by rw [← a9, ← (a4.2 i hi).2 5 (by decide)]; exact b_rel0 (by omega) (by omega) e3 e4 (hol_rowC hW a4 hi) h5 h7 (by omega) hok⟩⟩
    have hh : ho.1 = mh := hq.2.2.2.1.1
    obtain ⟨f3, f4⟩ := hol_at hq.2.2.2.1 hi e1 e2
    exact ⟨_, give_mat (cmd_wf hW) (cmd_mat hW hq) hi, rfl, p_give (by omega) (by omega) f3 f4 (hol_rowC hW hq.2.2.2.1 hi) hw.1 hw.2.1⟩
  · exact ⟨_, _, _, _, ⟨_, rfl⟩, inv_q h, fun a hh => n_rel1 h29 hmh e1, Or.inr ⟨0, 3, rfl, rfl, fun a hh _ _ => b_rel1 (by omega) e2⟩⟩
theorem q_hold (h : Inv L (bf, bn, le, re, nw, ub, hs, lg, sl, rp, sv, ps) (ha, fi, se, pe, ho, ti, pa, ac, pr, tm, fc, ru, md) (mf, mg, mv, mi, th, re, pm, iz, ty, ea, mr, mc, br, bc)) (hL : L < 512) {u0 u1 u2 u3 u4 u5 : Int32} : Outc t0 x y L 114 196 [2, 1, 0] (bf, bn, le, re, nw, ub, hs, lg, sl, rp, sv, ps) (ha, fi, se, pe, ho, ti, pa, ac, pr, tm, fc, ru, md) (mf, mg, mv, mi, th, re, pm, iz, ty, ea, mr, mc, br, bc) [.int u0, .int u1, .int u2, .int u3, .int u4, .int u5] [.int u0, .int u1, .int u2, .int u3, .int u4, .int u5] isI := by
  have hcp := h
  obtain ⟨-, -, -, h4, h5, h6, h7, h8, -⟩ := hcp
  obtain ⟨N, kf, pf, R, C, n, mh, m, m4, D, hW, hM, go⟩ := inv_go h
  have hW' := hW
  have hM' := hM
  obtain ⟨w1, w2, w3, w4, w5, w6, w7, w8, w9, w10⟩ := hW'
  obtain ⟨a1, a2, a3, a4, a5, a6, a7, a8, a9, a10, a11, a12⟩ := hM'
  dsimp only [oHa, oPe, oSe, oHo, oTi, oPa, oAc, oPr, oTm, oFc, oRu, oMd] at a1 a2 a3 a4 a5 a6 a7 a8 a9 a10 a11 a12
  have hw1 := w1
  obtain ⟨g0, g1, hR1, hR, hC1, hC, hkn, hout⟩ := hw1
  have m1 := a1.1
  have m2 := a1.2.1
  have m3 := a2.1
  have h9 := w2.1
  have hn := w2.2.1
  have hho := a4.1
  have h29 := w6.1
  have hmh := w6.2.1
  have hti := a5.1
  have h30 := w7.1
  have hm20 := w7.2.1
  have hN := N_le hW
  have hpa := a6.1
  have h31 := w9.1
  have hm40 := w9.2
  have hok := mat_okO hW hM (by omega)
  rcases spl u0 10 (by decide) with ⟨cu, hcu, rfl⟩ | hu
  · rcases set_sp u1 hn with ⟨S, hS1, hS, rfl⟩ | hu
    · have hS' : S < 2 ^ pe.1 := by rw [m3]; exact hS
      rcases req_sp u2 u3 u4 with ⟨s, ct, kd, s1, s8, hct, hkd, rfl, rfl, rfl⟩ | hb
      · by_cases c : u5 < nI 1 ∨ nI 60 < u5
        · exact ⟨_, _, _, _, ⟨_, rfl⟩, inv_q h, fun a hh => n_hold4 hcu h9 hn hS1 hS s1 s8 hct hkd c, Or.inr ⟨1, 1, rfl, rfl, fun a hh _ _ => b_hold4 hcu hS1 hS' (by omega) s1 s8 hct hkd c⟩⟩
        · have c1 : ¬ u5 < nI 1 := fun z => c (Or.inl z)
          have c2 : u5 ≤ nI 60 := Int32.not_lt.mp (fun z => c (Or.inr z))
          have hsta : staL S pe tm = 0 ↔ ¬ ∃ p, p < n ∧ S.testBit p = true ∧ mf (10 + p) ≤ mf 8 := by rw [a9]; exact sta_0 a2
          by_cases d : ∃ p, p < n ∧ S.testBit p = true ∧ mf (10 + p) ≤ mf 8
          · exact ⟨_, _, _, _, ⟨_, rfl⟩, inv_q h, fun a hh => n_hold5 hcu h9 hn hS1 hS s1 s8 hct hkd (n_one c1) c2 d, Or.inr ⟨2, 0, rfl, rfl, fun a hh _ _ => b_hold5 hcu hS1 hS' (by omega) s1 s8 hct hkd c1 c2 (fun z => hsta.mp z d)⟩⟩
          · have hst0 := hsta.mpr d
            obtain ⟨k, hk, x1, x2, hor⟩ := look_rel (s := s) (ct := ct) (kd := kd) (fi := fi) (br := br) (bc := bc) w1 a1 (fun j hj => (a3 j hj).1) a2 a9 a10 a11 w4.2 hS1 hS hn hkd s1 s8
            by_cases q : k = 0
            · subst q
              exact ⟨_, _, _, _, ⟨_, rfl⟩, inv_q h, fun a hh => n_hold6 hcu h9 hn hS1 hS s1 s8 hct hkd (n_one c1) c2 d g0 g1 hR1 hR hC1 hC rfl x2, Or.inr ⟨2, 0, rfl, rfl, fun a hh _ _ => b_hold6 hcu hS1 hS' (by omega) s1 s8 hct hkd c1 c2 hst0 (by omega) (by omega) (by omega) (by omega) x1⟩⟩
            · obtain ⟨r, c, hr, hc, hfit, -, -, x3, x4, -, -⟩ := hor.resolve_left q
              have f2 : ¬ (fndQ mf S n R C s ct kd (nI 0, nI 0, nI 0, br, bc)).1 = nI 0 := by rw [x2, nI_eq (by omega) (by decide)]; exact q
              have lk := fun fi => look_at (fi := fi) (ct := ct) (br := br) (bc := bc) (r := r) (c := c) w1 a1 (fun j hj => (a3 j hj).1) a2 a9 a10 a11 w4.2 hS1 hS hn hkd s1 s8 f2 x3 x4
              have hb := fit_blk hr s1 s8 hc hfit
              by_cases e : mh = 12
              · exact ⟨_, _, _, _, ⟨_, rfl⟩, inv_q h, fun a hh => n_hold7 hcu h9 hn hS1 hS s1 s8 hct hkd (n_one c1) c2 d g0 g1 hR1 hR hC1 hC rfl f2 (by rw [h29, e]), Or.inr ⟨2, 0, rfl, rfl, fun a hh _ _ => b_hold7 hcu hS1 hS' (by omega) s1 s8 hct hkd c1 c2 hst0 (by omega) (by omega) (by omega) (by omega) (lk fi).1⟩⟩
              · refine ⟨_, _, _, _, ⟨_, rfl⟩, go (lookV ha fi se.1 pe tm fc ru S s ct kd) (ha, lookV ha (lookV ha fi se.1 pe tm fc ru S s ct kd) se.1 pe tm fc ru S s ct kd, markV S (r * 12 + c) s (nI 1) md se, pe, (ho.1 + 1, rowH ho.2 ho.1 (nI cu) (nI S) (nI r) (nI c) (nI s) (tm + u5) md), ti, pa, ac, pr, tm, fc, ru, md + nI 1) (nI 7) (nI cu) (nI S) (nI s) (nI ct) (nI kd) u5 (nI 0) (nI r) (nI c) _ ⟨N, kf, pf, n, mh + 1, m, m4, D + 1, hold_wf hW (by omega) hcu hS1 hS hb (by omega), hold_mat hW hM (by omega) hcu hS1 hS hb (by omega), rfl, fun w ha fi se pe ho ti pa ac pr tm fc ru md hw hq => ?_⟩, fun a hh => n_hold0 hcu h9 hn hS1 hS s1 s8 hct hkd (n_one c1) c2 d g0 g1 hR1 hR hC1 hC rfl f2 h29 (by omega) x3 x4 (by omega) (by omega) (by omega), Or.inl ⟨rfl, fun a hh _ _ => by rw [← a12]; exact b_hold0 hcu hS1 hS' (by omega) s1 s8 hct hkd c1 c2 hst0 (by omega) (by omega) (by omega) (by omega) (lk fi).1 rfl rfl (lk _).2.1 (lk _).2.2 (by omega) (by omega) h5 h7 (by omega) hok⟩⟩
                have lq := look_at (fi := fi) (ct := ct) (br := br) (bc := bc) (r := r) (c := c) w1 hq.1 (fun j hj => (hq.2.2.1 j hj).1) hq.2.1 hq.2.2.2.2.2.2.2.2.1 hq.2.2.2.2.2.2.2.2.2.1 hq.2.2.2.2.2.2.2.2.2.2.1 w4.2 hS1 hS hn hkd s1 s8 f2 x3 x4
                have y1 : ha.2.2.1 = R := hq.1.1
                have y2 : ha.2.2.2.1 = C := hq.1.2.1
                have y3 : pe.1 = n := hq.2.1.1
                have y4 : ho.1 = mh := hq.2.2.2.1.1
                have h64 : 2 ^ n ≤ 2 ^ 6 := Nat.pow_le_pow_right (by decide) hn
                exact ⟨(ha, lookV ha fi se.1 pe tm fc ru S s ct kd, markV S (r * 12 + c) s (nI 1) md se, pe, (ho.1 + 1, rowH ho.2 ho.1 (nI cu) (nI S) (nI r) (nI c) (nI s) (tm + u5) md), ti, pa, ac, pr, tm, fc, ru, md + nI 1), hold_mat hW hq (by omega) hcu hS1 hS hb (by omega), rfl, p_make (by omega) (by omega) hct hkd s1 s8 (by omega) (by omega) (by omega) (by omega) lq.2.1 lq.2.2 (by omega) (by omega) hw.1 hw.2.1 hw.2.2.1 hw.2.2.2.1 hw.2.2.2.2.1 hw.2.2.2.2.2.1 hw.2.2.2.2.2.2⟩
      · exact ⟨_, _, _, _, ⟨_, rfl⟩, inv_q h, fun a hh => n_hold3 hcu h9 hn hS1 hS hb, Or.inr ⟨1, 1, rfl, rfl, fun a hh _ _ => b_hold3 hcu hS1 hS' (by omega) hb⟩⟩
    · exact ⟨_, _, _, _, ⟨_, rfl⟩, inv_q h, fun a hh => n_hold2 hcu h9 hn hu, Or.inr ⟨0, 2, rfl, rfl, fun a hh _ _ => b_hold2 hcu (by rw [m3]; exact hu) (by omega)⟩⟩
  · have hu' : u0 < nI 0 ∨ nI 9 < u0 := hu.elim Or.inl (fun z => Or.inr (by rw [Int32.lt_iff_toInt_lt]; rw [Int32.le_iff_toInt_le] at z; rw [nI_toInt (by decide)] at z ⊢; omega))
    exact ⟨_, _, _, _, ⟨_, rfl⟩, inv_q h, fun a hh => n_hold1 hu', Or.inr ⟨0, 2, rfl, rfl, fun a hh _ _ => b_hold1 hu⟩⟩
end DONE2
