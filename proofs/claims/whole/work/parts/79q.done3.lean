/-! a call on both sides: confirm, exchange, refund -/
section DONE3
variable {t0 x y L : Nat} {bf : Nat → Int32} {bn nw ub : Nat} {le hs : Int32} {lg sl : Tab} {rp sv : Off} {ps : Nat → Off} {ha : Hal} {fi : Fnd} {se : Sea} {pe ho ti pa : Tab} {ac pr : Nat → Int32} {tm fc ru md : Int32} {mf mg mv mi : Nat → Int32} {th re iz ea mr mc br bc : Int32} {pm ty : Nat}
theorem q_conf (h : Inv L (bf, bn, le, re, nw, ub, hs, lg, sl, rp, sv, ps) (ha, fi, se, pe, ho, ti, pa, ac, pr, tm, fc, ru, md) (mf, mg, mv, mi, th, re, pm, iz, ty, ea, mr, mc, br, bc)) (hL : L < 512) {u : Int32} : Outc t0 x y L 121 207 [3, 0] (bf, bn, le, re, nw, ub, hs, lg, sl, rp, sv, ps) (ha, fi, se, pe, ho, ti, pa, ac, pr, tm, fc, ru, md) (mf, mg, mv, mi, th, re, pm, iz, ty, ea, mr, mc, br, bc) [.int u] [.int u] isI := by
  have hcp := h
  obtain ⟨-, -, -, h4, h5, h6, h7, h8, -⟩ := hcp
  obtain ⟨N, kf, pf, R, C, n, mh, m, m4, D, hW, hM, go⟩ := inv_go h
  have hW' := hW
  have hM' := hM
  obtain ⟨w1, w2, w3, w4, w5, w6, w7, w8, w9, w10⟩ := hW'
  obtain ⟨a1, a2, a3, a4, a5, a6, a7, a8, a9, a10, a11, a12⟩ := hM'
  dsimp only [oHa, oPe, oSe, oHo, oTi, oPa, oAc, oPr, oTm, oFc, oRu, oMd] at a1 a2 a3 a4 a5 a6 a7 a8 a9 a10 a11 a12
  have hw1 := w1
  obtain ⟨g0, g1, hR1, hR, hC1, hC, hkn, hout⟩ := hw1
  have m1 := a1.1
  have m2 := a1.2.1
  have m3 := a2.1
  have h9 := w2.1
  have hn := w2.2.1
  have hho := a4.1
  have h29 := w6.1
  have hmh := w6.2.1
  have hti := a5.1
  have h30 := w7.1
  have hm20 := w7.2.1
  have hN := N_le hW
  have hpa := a6.1
  have h31 := w9.1
  have hm40 := w9.2
  have hok := mat_okO hW hM (by omega)
  have h64 : 2 ^ n ≤ 2 ^ 6 := Nat.pow_le_pow_right (by decide) hn
  rcases hol_sp w6 a4 u with ⟨i, hi, e1, e2, e3, e4⟩ | ⟨e1, e2⟩
  · obtain ⟨nu, cu, S, r, c, s, v0, v1, v2, v3, v4, v5, v6, v7, v8, v9, hb⟩ := w6.2.2.1 i hi
    have row : ∀ {ho : Tab}, mHol ho mf mh → ho.2 (i * 7) = nI cu ∧ ho.2 (i * 7 + 1) = nI S ∧ ho.2 (i * 7 + 2) = nI r ∧ ho.2 (i * 7 + 3) = nI c ∧ ho.2 (i * 7 + 4) = nI s := fun hm => by
      have b2 := (hm.2 i hi).2
      exact ⟨(b2 0 (by decide)).trans v2, (b2 1 (by decide)).trans v4, (b2 2 (by decide)).trans v7, (b2 3 (by decide)).trans v8, (b2 4 (by decide)).trans v9⟩
    have hr := hb.1
    have hc := hb.2.2.2.1
    have hsta : staL S pe tm = 0 ↔ ¬ ∃ p, p < n ∧ S.testBit p = true ∧ mf (10 + p) ≤ mf 8 := by rw [a9]; exact sta_0 a2
    obtain ⟨z0, z1, z2, z3, z4⟩ := row a4
    by_cases d : ∃ p, p < n ∧ S.testBit p = true ∧ mf (10 + p) ≤ mf 8
    · exact ⟨_, _, _, _, ⟨_, rfl⟩, inv_q h, fun a hh => n_con2 h29 hmh hi e1 e2 h9 hn (by omega) v4 d, Or.inr ⟨1, 0, rfl, rfl, fun a hh _ _ => b_con2 (by omega) (by omega) e3 e4 (by omega) z1 (by omega) (by omega) (fun z => hsta.mp z d)⟩⟩
    · have hst0 := hsta.mpr d
      have hord := ord_eq w7 a5
      by_cases e : m = 20
      · exact ⟨_, _, _, _, ⟨_, rfl⟩, inv_q h, fun a hh => n_con3 h29 hmh hi e1 e2 h9 hn (by omega) v4 d (by rw [h30, e]), Or.inr ⟨1, 0, rfl, rfl, fun a hh _ _ => b_con3 (by omega) (by omega) e3 e4 (by omega) z1 (by omega) (by omega) hst0 (by rw [hord, e]; exact Int32.le_refl _)⟩⟩
      · have ho20 : ¬ nI 20 ≤ ordV ti := by
          rw [hord, nI_leI (by decide) (by omega)]
          omega
        have cm := conf_mat hW hM hi (by omega) e1 v3 v6 hb v4 v7 v8 v9
        refine ⟨_, _, _, _, ⟨_, rfl⟩, go fi _ (nI 9) u (nI 0) (nI 0) (nI 0) (nI 0) (nI 0) (nI 0) br bc _ ⟨_, _, _, n, _, m + 1, _, D, conf_wf hW hi (by omega) e1 v2 v3 v5 v6 hb (by omega), cm.1, rfl, fun w ha fi se pe ho ti pa ac pr tm fc ru md hw hq => ?_⟩, fun a hh => n_con0 h29 hmh hi e1 e2 h9 hn (by omega) v4 d h30 (by omega) h31 hm40 g0 g1 hR hC hkn hr hc v3 v2 v7 v8 v9 (by omega), Or.inl ⟨rfl, fun a hh _ _ => by rw [← cm.2]; exact b_con0 (by omega) (by omega) e3 e4 (by omega) z1 (by omega) (by omega) hst0 ho20 v3 (by omega) (by omega) (by omega) (by omega) a1.2.2.2.1 z0 z2 z3 z4 (by omega) (by omega) h5 h7 (by omega) hok⟩⟩
        obtain ⟨f3, f4⟩ := hol_at (ho := ho) hq.2.2.2.1 hi e1 e2
        obtain ⟨z0, z1, z2, z3, z4⟩ := row (ho := ho) hq.2.2.2.1
        have y1 : ha.2.2.1 = R := hq.1.1
        have y2 : ha.2.2.2.1 = C := hq.1.2.1
        have y3 : pe.1 = n := hq.2.1.1
        have y4 : ho.1 = mh := hq.2.2.2.1.1
        have y5 : ti.1 = N := hq.2.2.2.2.1.1
        have y6 : pa.1 = m4 := hq.2.2.2.2.2.1.1
        exact ⟨_, (conf_mat hW hq hi (by omega) e1 v3 v6 hb v4 v7 v8 v9).1, rfl, p_sell (by omega) (by omega) f3 f4 (by omega) (by omega) v3 (by omega) (by omega) (by omega) (by omega) hq.1.2.2.2.1 z0 z1 z2 z3 z4 (by omega) (by omega) hw.1 hw.2.1⟩
  · exact ⟨_, _, _, _, ⟨_, rfl⟩, inv_q h, fun a hh => n_con1 h29 hmh e1, Or.inr ⟨0, 3, rfl, rfl, fun a hh _ _ => b_con1 (by omega) e2⟩⟩
/-- the ticket at a place of the class' table -/
theorem tic_at {f : Nat → Int32} {N n m R C D i : Nat} {kf pf : Nat → Nat} {v : Int32} (h : wTic f m N kf pf n R C D) (hm : mTic ti f N kf pf) (hn : n ≤ 6) (hi : i < N) (hv : f (1375 + 26 * kf i) = v) : ti.2 (i * 7 + 5) = v ∧ ti.2 (i * 7 + 6) = nI (pf i) ∧ ∀ j, j < i → ti.2 (j * 7 + 5) = v → ¬ ti.2 (j * 7 + 6) = nI (pf i) := by
  have t3 := h.2.2.1
  obtain ⟨b1, b2⟩ := t3 i hi
  obtain ⟨-, -, -, -, -, e5, e6⟩ := hm.2 i hi
  refine ⟨e5.trans hv, e6, fun j hj g5 g6 => ?_⟩
  obtain ⟨-, -, -, -, -, d5, d6⟩ := hm.2 j (by omega)
  obtain ⟨c1, c2⟩ := t3 j (by omega)
  have k1 : kf j = kf i := ord_inj h c1 b1 ((d5.symm.trans g5).trans hv.symm)
  have k2 : pf j = pf i := by
    have := d6.symm.trans g6
    rw [nI_eq (by omega) (by omega)] at this
    exact this
  have := tic_inj h (show j < N by omega) hi k1 k2
  omega
theorem sta_1 {f : Nat → Int32} {n p : Nat} (hpe : mPer pe f n) (hp : p < n) {z : Int32} : staL (2 ^ p) pe z = 0 ↔ ¬ f (10 + p) ≤ z := by
  rw [sta_0 hpe]
  constructor
  · exact fun h w => h ⟨p, hp, Nat.testBit_two_pow_self, w⟩
  · rintro h ⟨q, hq, hb, w⟩
    rw [Nat.testBit_two_pow] at hb
    have : p = q := by simpa using hb
    subst this
    exact h w
theorem sta_2 {f : Nat → Int32} {n p q : Nat} (hpe : mPer pe f n) (hp : p < n) (hq : q < n) {z : Int32} : staL (2 ^ p ||| 2 ^ q) pe z = 0 ↔ ¬ (f (10 + p) ≤ z ∨ f (10 + q) ≤ z) := by
  rw [sta_0 hpe]
  constructor
  · intro h w
    rcases w with w | w
    · exact h ⟨p, hp, by rw [Nat.testBit_or, Nat.testBit_two_pow_self]; rfl, w⟩
    · exact h ⟨q, hq, by rw [Nat.testBit_or, Nat.testBit_two_pow_self, Bool.or_true], w⟩
  · rintro h ⟨j, hj, hb, w⟩
    rw [Nat.testBit_or, Nat.testBit_two_pow, Nat.testBit_two_pow] at hb
    have : p = j ∨ q = j := by simpa using hb
    rcases this with rfl | rfl
    · exact h (Or.inl w)
    · exact h (Or.inr w)
theorem refd2 {f : Nat → Int32} {N n R C mh m m4 K D : Nat} {kf pf : Nat → Nat} (hw : WF f N kf pf R C n mh m m4 K D) (hm : Mat (ha, fi, se, pe, ho, ti, pa, ac, pr, tm, fc, ru, md) f N kf pf R C n mh m4) {i0 r c s cu : Nat} {am back : Int32} (hi0 : i0 < N) (hcu : cu < 10) (hb : wBlk f R C r c s) (g0 : f (tAt (kf i0) (pf i0)) = nI r) (g1 : f (tAt (kf i0) (pf i0) + 1) = nI c) (g2 : f (tAt (kf i0) (pf i0) + 2) = nI s) : ∃ kf' pf' m' m4', WF (refQ f (kf i0) (pf i0) cu m n am back) (N - 1) kf' pf' R C n mh m' m4' (K + 1) D ∧ ∀ (ha : Hal) (fi : Fnd) (se : Sea) (pe ho ti pa : Tab) (ac pr : Nat → Int32) (tm fc ru md : Int32), Mat (ha, fi, se, pe, ho, ti, pa, ac, pr, tm, fc, ru, md) f N kf pf R C n mh m4 → Mat (ha, fi, markV (2 ^ pf i0) (r * 12 + c) s (nI 0) (-nI 1) se, (pe.1, upd pe.2 (pf i0 * 3 + 2) (pe.2 (pf i0 * 3 + 2) + am - back)), ho, remV 7 ti i0, payT pa 3 cu (-back), payA ac cu (-back), pr, tm, fc, ru, md) (refQ f (kf i0) (pf i0) cu m n am back) (N - 1) kf' pf' R C n mh m4' := by
  have w1 := hw.1
  have hR := w1.2.2.2.1
  have hC := w1.2.2.2.2.2.1
  have hn := hw.2.1.2.1
  have w7 := hw.2.2.2.2.2.2.1
  obtain ⟨u1, u2⟩ := w7.2.2.1 i0 hi0
  have hm20 := w7.2.1
  have hb' := hb
  obtain ⟨b1, b2, b3, b4, b5⟩ := hb'
  have hW := (refG_rel hw hm (p := pf i0) (r := r) (c := c) (s := s) (cu := cu) (am := am) (back := back) u2 hcu hb).1
  have q : ∀ e, e < 4 → payQ (upd (upd f 32 (f 32 + nI 1)) (22 + pf i0) (f (22 + pf i0) + (am - back))) 3 cu (-back) (tAt (kf i0) (pf i0) + e) = f (tAt (kf i0) (pf i0) + e) := fun e he => by
    have : 1375 ≤ tAt (kf i0) (pf i0) + e ∧ tAt (kf i0) (pf i0) + e < 1895 := by unfold tAt; omega
    rw [payQ_lo hcu (by omega), upd_ne (by omega), upd_ne (by omega)]
  have e : freQ (payQ (upd (upd f 32 (f 32 + nI 1)) (22 + pf i0) (f (22 + pf i0) + (am - back))) 3 cu (-back)) (kf i0) (pf i0) = putTQ (refG f (pf i0) cu r c s am back) (kf i0) (pf i0) (nI 0) (nI 0) (nI 0) (nI 0) := freQ_eq (by omega) (by omega) ((q 0 (by decide)).trans g0) ((q 1 (by decide)).trans g1) ((q 2 (by decide)).trans g2)
  unfold refQ
  rw [e]
  by_cases hot : ∀ i, i < N → i ≠ i0 → kf i ≠ kf i0
  · rw [if_pos ((tc_iff hW hi0).mpr hot)]
    exact ⟨_, _, _, _, rem2_wf hW hi0 hot, fun ha fi se pe ho ti pa ac pr tm fc ru md hq => rem2_mat hW (refG_rel hw hq u2 hcu hb).2 hi0 hot⟩
  · rw [if_neg (fun z => hot ((tc_iff hW hi0).mp z))]
    exact ⟨_, _, _, _, rem1_wf hW hi0 hot, fun ha fi se pe ho ti pa ac pr tm fc ru md hq => rem1_mat hW (refG_rel hw hq u2 hcu hb).2 hi0⟩
theorem q_ref (h : Inv L (bf, bn, le, re, nw, ub, hs, lg, sl, rp, sv, ps) (ha, fi, se, pe, ho, ti, pa, ac, pr, tm, fc, ru, md) (mf, mg, mv, mi, th, re, pm, iz, ty, ea, mr, mc, br, bc)) (hL : L < 512) {u v : Int32} : Outc t0 x y L 132 219 [0] (bf, bn, le, re, nw, ub, hs, lg, sl, rp, sv, ps) (ha, fi, se, pe, ho, ti, pa, ac, pr, tm, fc, ru, md) (mf, mg, mv, mi, th, re, pm, iz, ty, ea, mr, mc, br, bc) [.int u, .int v] [.int u, .int v] isI := by
  have hcp := h
  obtain ⟨-, -, -, h4, h5, h6, h7, h8, -⟩ := hcp
  obtain ⟨N, kf, pf, R, C, n, mh, m, m4, D, hW, hM, go⟩ := inv_go h
  have hW' := hW
  have hM' := hM
  obtain ⟨w1, w2, w3, w4, w5, w6, w7, w8, w9, w10⟩ := hW'
  obtain ⟨a1, a2, a3, a4, a5, a6, a7, a8, a9, a10, a11, a12⟩ := hM'
  dsimp only [oHa, oPe, oSe, oHo, oTi, oPa, oAc, oPr, oTm, oFc, oRu, oMd] at a1 a2 a3 a4 a5 a6 a7 a8 a9 a10 a11 a12
  have hw1 := w1
  obtain ⟨g0, g1, hR1, hR, hC1, hC, hkn, hout⟩ := hw1
  have m1 := a1.1
  have m2 := a1.2.1
  have m3 := a2.1
  have h9 := w2.1
  have hn := w2.2.1
  have hho := a4.1
  have h29 := w6.1
  have hmh := w6.2.1
  have hti := a5.1
  have h30 := w7.1
  have hm20 := w7.2.1
  have hN := N_le hW
  have hpa := a6.1
  have h31 := w9.1
  have hm40 := w9.2
  have hok := mat_okO hW hM (by omega)
  by_cases hno : noTQ mf m n u v
  · exact ⟨_, _, _, _, ⟨_, rfl⟩, inv_q h, fun a hh => n_ref1 h9 hn h30 hm20 hno, Or.inr ⟨0, 0, rfl, rfl, fun a hh _ _ => b_ref1 (by omega) ((tic_no w7 a5 hn).mp hno)⟩⟩
  · obtain ⟨i, hi, e5, rfl, e6, hne, hk, hp, he, hne2, hts⟩ := tic_yes w7 a5 hn hno
    have st := sta_1 a2 hp (z := tm)
    by_cases d : mf (10 + pf i) ≤ mf 8
    · exact ⟨_, _, _, _, ⟨_, rfl⟩, inv_q h, fun a hh => n_ref2 h9 hn h30 hm20 hk he hne2 hp hts d, Or.inr ⟨0, 0, rfl, rfl, fun a hh _ _ => b_ref2 (by omega) (by omega) e5 e6 hne (by omega) (by omega) (fun z => st.mp z (by rw [a9]; exact d))⟩⟩
    · obtain ⟨r, c, s, t0', t1, t2, hb⟩ := w7.2.2.2.2.2.2.2.2.1 i hi
      obtain ⟨nu, cu, -, -, gc, hcu⟩ := w7.2.2.2.2.2.2.1 _ hk
      obtain ⟨A, hA, eA⟩ := w2.2.2.1 _ hp
      obtain ⟨T, hT, eT⟩ := w4.1
      have hr := hb.1
      have hc := hb.2.2.2.1
      have bk : ∀ {pe : Tab} {tm : Int32} {am : Int32}, mPer pe mf n → tm = mf 8 → bckV (pe.2 (pf i * 3)) tm am = if mf 8 + nI 120 ≤ mf (10 + pf i) then am else am / nI 2 := fun hpe htm => by
        rw [(hpe.2 _ hp).1, htm, eA, eT]
        exact bck_eq hA hT
      have row : ∀ {ti : Tab}, mTic ti mf N kf pf → ti.2 (i * 7) = nI cu ∧ ti.2 (i * 7 + 1) = nI r ∧ ti.2 (i * 7 + 2) = nI c ∧ ti.2 (i * 7 + 3) = nI s ∧ ti.2 (i * 7 + 4) = mf (tAt (kf i) (pf i) + 3) := fun hm => by
        obtain ⟨d0, d1, d2, d3, d4, -, -⟩ := hm.2 i hi
        exact ⟨d0.trans gc, d1.trans t0', d2.trans t1, d3.trans t2, d4⟩
      obtain ⟨z0, z1, z2, z3, z4⟩ := row a5
      generalize hbk : (if mf 8 + nI 120 ≤ mf (10 + pf i) then mf (tAt (kf i) (pf i) + 3) else mf (tAt (kf i) (pf i) + 3) / nI 2) = back
      obtain ⟨kf', pf', m', m4', k1, k2⟩ := refd2 hW hM (am := mf (tAt (kf i) (pf i) + 3)) (back := back) hi hcu hb t0' t1 t2
      have hbc : bckV (pe.2 (pf i * 3)) tm (ti.2 (i * 7 + 4)) = back := by rw [z4, bk a2 a9]; exact hbk
      refine ⟨_, _, _, _, ⟨_, rfl⟩, go fi (ha, fi, markV (2 ^ pf i) (r * 12 + c) s (nI 0) (-nI 1) se, (pe.1, upd pe.2 (pf i * 3 + 2) (pe.2 (pf i * 3 + 2) + mf (tAt (kf i) (pf i) + 3) - back)), ho, remV 7 ti i, payT pa 3 cu (-back), payA ac cu (-back), pr, tm, fc, ru, md) (nI 11) u (nI (pf i)) (nI 0) (nI 0) (nI 0) (nI 0) (nI 0) br bc _ ⟨N - 1, kf', pf', n, mh, m', m4', D, k1, k2 _ _ _ _ _ _ _ _ _ _ _ _ _ hM, rfl, fun w ha fi se pe ho ti pa ac pr tm fc ru md hw hq => ?_⟩, fun a hh => n_ref0 h9 hn h30 hm20 hk he hne2 hp hts d (by omega) (by omega) hcu t0' t1 t2 rfl gc h31 hm40 (by omega) hbk, Or.inl ⟨rfl, fun a hh _ _ => (b_ref0 (by omega) (by omega) e5 e6 hne (by omega) (by omega) (st.mpr (by rw [a9]; exact d)) (by omega) (by omega) hcu (by omega) z0 z1 z2 z3 h5 h7 (by omega) hok).trans (by rw [hbc, z4])⟩⟩
      obtain ⟨q5, q6, qne⟩ := tic_at (ti := ti) w7 hq.2.2.2.2.1 hn hi he
      obtain ⟨z0, z1, z2, z3, z4⟩ := row (ti := ti) hq.2.2.2.2.1
      have y3 : pe.1 = n := hq.2.1.1
      have y5 : ti.1 = N := hq.2.2.2.2.1.1
      have y6 : pa.1 = m4 := hq.2.2.2.2.2.1.1
      have hbq : bckV (pe.2 (pf i * 3)) tm (ti.2 (i * 7 + 4)) = back := by rw [z4, bk (pe := pe) hq.2.1 hq.2.2.2.2.2.2.2.2.1]; exact hbk
      have pb := p_back (w := w) (ha := ha) (fi := fi) (se := se) (pe := pe) (ho := ho) (ti := ti) (pa := pa) (ac := ac) (pr := pr) (tm := tm) (fc := fc) (ru := ru) (md := md) (y := u) (i := i) (p := pf i) (r := r) (c := c) (s := s) (cu := cu) (by omega) (by omega) q5 q6 qne (by omega) (by omega) (by omega) (by omega) hcu (by omega) z0 z1 z2 z3 hw.1 hw.2.1 hw.2.2.1
      rw [hbq, z4] at pb
      exact ⟨_, k2 _ _ _ _ _ _ _ _ _ _ _ _ _ hq, rfl, pb⟩
end DONE3
