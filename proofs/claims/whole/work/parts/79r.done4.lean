/-! a call on both sides: exchange -/
section DONE4
variable {t0 x y L : Nat} {bf : Nat → Int32} {bn nw ub : Nat} {le hs : Int32} {lg sl : Tab} {rp sv : Off} {ps : Nat → Off} {ha : Hal} {fi : Fnd} {se : Sea} {pe ho ti pa : Tab} {ac pr : Nat → Int32} {tm fc ru md : Int32} {mf mg mv mi : Nat → Int32} {th re iz ea mr mc br bc : Int32} {pm ty : Nat}
theorem q_exch (h : Inv L (bf, bn, le, re, nw, ub, hs, lg, sl, rp, sv, ps) (ha, fi, se, pe, ho, ti, pa, ac, pr, tm, fc, ru, md) (mf, mg, mv, mi, th, re, pm, iz, ty, ea, mr, mc, br, bc)) (hL : L < 512) {u v z : Int32} : Outc t0 x y L 129 216 [2, 0] (bf, bn, le, re, nw, ub, hs, lg, sl, rp, sv, ps) (ha, fi, se, pe, ho, ti, pa, ac, pr, tm, fc, ru, md) (mf, mg, mv, mi, th, re, pm, iz, ty, ea, mr, mc, br, bc) [.int u, .int v, .int z] [.int u, .int v, .int z] isI := by
  have hcp := h
  obtain ⟨-, -, -, h4, h5, h6, h7, h8, -⟩ := hcp
  obtain ⟨N, kf, pf, R, C, n, mh, m, m4, D, hW, hM, go⟩ := inv_go h
  have hW' := hW
  have hM' := hM
  obtain ⟨w1, w2, w3, w4, w5, w6, w7, w8, w9, w10⟩ := hW'
  obtain ⟨a1, a2, a3, a4, a5, a6, a7, a8, a9, a10, a11, a12⟩ := hM'
  dsimp only [oHa, oPe, oSe, oHo, oTi, oPa, oAc, oPr, oTm, oFc, oRu, oMd] at a1 a2 a3 a4 a5 a6 a7 a8 a9 a10 a11 a12
  have hw1 := w1
  obtain ⟨g0, g1, hR1, hR, hC1, hC, hkn, hout⟩ := hw1
  have m1 := a1.1
  have m2 := a1.2.1
  have m3 := a2.1
  have h9 := w2.1
  have hn := w2.2.1
  have hho := a4.1
  have h29 := w6.1
  have hmh := w6.2.1
  have hti := a5.1
  have h30 := w7.1
  have hm20 := w7.2.1
  have hN := N_le hW
  have hpa := a6.1
  have h31 := w9.1
  have hm40 := w9.2
  have hok := mat_okO hW hM (by omega)
  rcases spl z n (by omega) with ⟨pt, hpt, rfl⟩ | hz
  · by_cases hno : noTQ mf m n u v
    · exact ⟨_, _, _, _, ⟨_, rfl⟩, inv_q h, fun a hh => n_exc2 h9 hn h30 hm20 hno hpt, Or.inr ⟨1, 0, rfl, rfl, fun a hh _ _ => b_exc2 (by omega) (by omega) (by omega) ((tic_no w7 a5 hn).mp hno)⟩⟩
    · obtain ⟨i, hi, e5, rfl, e6, hne, hk, hp, he, hne2, hts⟩ := tic_yes w7 a5 hn hno
      have st := sta_2 a2 hp hpt (z := tm)
      rw [a9] at st
      by_cases d : mf (10 + pf i) ≤ mf 8 ∨ mf (10 + pt) ≤ mf 8
      · exact ⟨_, _, _, _, ⟨_, rfl⟩, inv_q h, fun a hh => n_exc3 h9 hn h30 hm20 hpt hk he hne2 hp hts d, Or.inr ⟨1, 0, rfl, rfl, fun a hh _ _ => b_exc3 (by omega) e5 e6 hne (by omega) (by omega) (by omega) (by omega) (fun w => st.mp (by rw [← a9]; exact w) d)⟩⟩
      · have d1 : ¬ mf (10 + pf i) ≤ mf 8 := fun w => d (Or.inl w)
        have d2 : ¬ mf (10 + pt) ≤ mf 8 := fun w => d (Or.inr w)
        have st0 : staL (2 ^ pf i ||| 2 ^ pt) pe tm = 0 := by rw [a9]; exact st.mpr d
        obtain ⟨o1, o2⟩ := tic_oth w7 a5 hn hk he hpt
        by_cases g : pt ≠ pf i ∧ nI 0 < tsQ mf (kf i) pt
        · have hex : ¬ noTQ mf m n u (nI pt) := fun w => w (kf i) hk he pt hpt rfl g.2
          obtain ⟨j, hj, j5, jp, j6, jne, -, jpn, -, -, -⟩ := tic_yes w7 a5 hn hex
          rw [nI_eq (by omega) (by omega)] at jp
          exact ⟨_, _, _, _, ⟨_, rfl⟩, inv_q h, fun a hh => n_exc4 h9 hn h30 hm20 hpt hk he hne2 hp hts d1 d2 g.1 g.2, Or.inr ⟨1, 0, rfl, rfl, fun a hh _ _ => b_exc4 (by omega) e5 e6 hne (by omega) (by omega) (by omega) (by omega) st0 (fun w => g.1 w.symm) (j := j) (by omega) j5 (by rw [j6, jp]) (fun k hk hk5 => by rw [jp]; exact jne k hk hk5)⟩⟩
        · have gd : pt = pf i ∨ ¬ nI 0 < tsQ mf (kf i) pt := by
            by_cases w : pt = pf i
            · exact Or.inl w
            · exact Or.inr fun q => g ⟨w, q⟩
          have gc' : pf i = pt ∨ ∀ k, k < ti.1 → ti.2 (k * 7 + 5) = u → ¬ ti.2 (k * 7 + 6) = nI pt := gd.elim (fun w => Or.inl w.symm) (fun w => Or.inr (o1.mp w))
          have gw : pt = pf i ∨ ∀ i', i' < N → kf i' = kf i → pf i' ≠ pt := gd.elim Or.inl (fun w => Or.inr (o2.mp w))
          obtain ⟨r, c, s, t0', t1, t2, hb⟩ := w7.2.2.2.2.2.2.2.2.1 i hi
          obtain ⟨nu, cu, -, -, gc, hcu⟩ := w7.2.2.2.2.2.2.1 _ hk
          have hr := hb.1
          have hc := hb.2.2.2.1
          have s1 := hb.2.1
          have s8 := hb.2.2.1
          have row : ∀ {ti : Tab}, mTic ti mf N kf pf → ti.2 (i * 7) = nI cu ∧ ti.2 (i * 7 + 1) = nI r ∧ ti.2 (i * 7 + 2) = nI c ∧ ti.2 (i * 7 + 3) = nI s ∧ ti.2 (i * 7 + 4) = mf (tAt (kf i) (pf i) + 3) := fun hm => by
            obtain ⟨d0, d1, d2, d3, d4, -, -⟩ := hm.2 i hi
            exact ⟨d0.trans gc, d1.trans t0', d2.trans t1, d3.trans t2, d4⟩
          obtain ⟨z0, z1, z2, z3, z4⟩ := row a5
          have hS1 : 1 ≤ 2 ^ pt := Nat.one_le_two_pow
          have hS : 2 ^ pt < 2 ^ n := Nat.pow_lt_pow_right (by decide) hpt
          have hk2 : hasQ mf r c s < 2 := hasQ_lt
          have hhas : hasW ha.2.1 (r * 12 + c) s = hasQ mf r c s := has_rel w1 a1 hr hc
          obtain ⟨k, hkk, x1, x2, hor⟩ := look_rel (S := 2 ^ pt) (s := s) (ct := 0) (kd := hasQ mf r c s) (fi := fi) (br := br) (bc := bc) w1 a1 (fun j hj => (a3 j hj).1) a2 a9 a10 a11 w4.2 hS1 hS hn hk2 s1 s8
          by_cases q : k = 0
          · subst q
            exact ⟨_, _, _, _, ⟨_, rfl⟩, inv_q h, fun a hh => n_exc5 h9 hn h30 hm20 hpt hk he hne2 hp hts d1 d2 gd hr hc s1 s8 t0' t1 t2 g0 g1 hR1 hR hC1 hC rfl x2, Or.inr ⟨1, 0, rfl, rfl, fun a hh _ _ => b_exc5 (by omega) e5 e6 hne (by omega) (by omega) (by omega) (by omega) st0 gc' (by omega) (by omega) s1 s8 (by omega) (by omega) (by omega) z1 z2 z3 (by rw [hhas]; exact x1)⟩⟩
          · obtain ⟨r2, c2, hr2, hc2, hfit, -, -, x3, x4, -, -⟩ := hor.resolve_left q
            have f2 : ¬ (fndQ mf (2 ^ pt) n R C s 0 (hasQ mf r c s) (nI 0, nI 0, nI 0, br, bc)).1 = nI 0 := by rw [x2, nI_eq (by omega) (by decide)]; exact q
            have lk := fun fi => look_at (S := 2 ^ pt) (fi := fi) (ct := 0) (br := br) (bc := bc) (r := r2) (c := c2) w1 a1 (fun j hj => (a3 j hj).1) a2 a9 a10 a11 w4.2 hS1 hS hn hk2 s1 s8 f2 x3 x4
            rw [← hhas] at lk
            have hb2 := fit_blk hr2 s1 s8 hc2 hfit
            have hP := price_eq w1 a1 a8 a2 hpt hb2
            have hG := exch_wf (P := poQ mf pt r2 c2 s) (x := poQ mf pt r2 c2 s - mf (tAt (kf i) (pf i) + 3)) hW hi hpt gw hcu he hb hb2 (by omega)
            refine ⟨_, _, _, _, ⟨_, rfl⟩, go (lookV ha fi se.1 pe tm fc ru (2 ^ pt) s 0 (hasW ha.2.1 (r * 12 + c) s)) (ha, lookV ha (lookV ha fi se.1 pe tm fc ru (2 ^ pt) s 0 (hasW ha.2.1 (r * 12 + c) s)) se.1 pe tm fc ru (2 ^ pt) s 0 (hasW ha.2.1 (r * 12 + c) s), markV (2 ^ pt) (r2 * 12 + c2) s (nI 2) u (markV (2 ^ pf i) (r * 12 + c) s (nI 0) (-nI 1) se), pe, ho, (ti.1, upd (upd (upd (upd ti.2 (i * 7 + 6) (nI pt)) (i * 7 + 1) (nI r2)) (i * 7 + 2) (nI c2)) (i * 7 + 4) (poQ mf pt r2 c2 s)), payT pa 2 cu (poQ mf pt r2 c2 s - mf (tAt (kf i) (pf i) + 3)), payA ac cu (poQ mf pt r2 c2 s - mf (tAt (kf i) (pf i) + 3)), pr, tm, fc, ru, md) (nI 10) u (nI (pf i)) (nI pt) (nI 0) (nI 0) (nI 0) (nI 0) (nI r2) (nI c2) _ ⟨N, kf, pfX pf i pt, n, mh, m, _, D, hG, exch_mat hW hM hi hpt gw hcu he hb hb2 (by omega) t2, rfl, fun w ha fi se pe ho ti pa ac pr tm fc ru md hw hq => ?_⟩, fun a hh => n_exc0 h9 hn h30 hm20 hpt hk he hne2 hp hts d1 d2 gd hr hc s1 s8 t0' t1 t2 g0 g1 hR1 hR hC1 hC rfl f2 hcu gc rfl h31 hm40 hkn x3 x4 hr2 hc2 (by omega), Or.inl ⟨rfl, fun a hh _ _ => (b_exc0 (by omega) e5 e6 hne (by omega) (by omega) (by omega) (by omega) st0 gc' (by omega) (by omega) s1 s8 (by omega) (by omega) (by omega) z1 z2 z3 (lk fi).1 rfl rfl a1.2.2.2.1 hcu (by omega) z0 (lk _).2.1 (lk _).2.2 (by omega) (by omega) h5 h7 (by omega) hok).trans (by rw [hP, z4])⟩⟩
            obtain ⟨q5, q6, qne⟩ := tic_at (ti := ti) w7 hq.2.2.2.2.1 hn hi he
            obtain ⟨z0, z1, z2, z3, z4⟩ := row (ti := ti) hq.2.2.2.2.1
            have hhas : hasW ha.2.1 (r * 12 + c) s = hasQ mf r c s := has_rel w1 hq.1 hr hc
            have lq := look_at (S := 2 ^ pt) (fi := fi) (ct := 0) (br := br) (bc := bc) (r := r2) (c := c2) w1 hq.1 (fun j hj => (hq.2.2.1 j hj).1) hq.2.1 hq.2.2.2.2.2.2.2.2.1 hq.2.2.2.2.2.2.2.2.2.1 hq.2.2.2.2.2.2.2.2.2.2.1 w4.2 hS1 hS hn hk2 s1 s8 f2 x3 x4
            dsimp only [oHa, oPe, oSe, oHo, oTi, oPa, oAc, oPr, oTm, oFc, oRu, oMd] at lq
            rw [← hhas] at lq
            have y1 : ha.2.2.1 = R := hq.1.1
            have y2 : ha.2.2.2.1 = C := hq.1.2.1
            have y3 : pe.1 = n := hq.2.1.1
            have y5 : ti.1 = N := hq.2.2.2.2.1.1
            have y6 : pa.1 = m4 := hq.2.2.2.2.2.1.1
            have hP : prcV pr (pe.2 (pt * 3 + 1)) ha.1 (r2 * 12 + c2) s = poQ mf pt r2 c2 s := price_eq w1 hq.1 hq.2.2.2.2.2.2.2.1 hq.2.1 hpt hb2
            have pb := p_swap (w := w) (ha := ha) (fi := fi) (se := se) (pe := pe) (ho := ho) (ti := ti) (pa := pa) (ac := ac) (pr := pr) (tm := tm) (fc := fc) (ru := ru) (md := md) (y := u) (i := i) (pf := pf i) (pt := pt) (r := r) (c := c) (s := s) (cu := cu) (r2 := r2) (c2 := c2) (by omega) (by omega) q5 q6 qne (by omega) (by omega) (by omega) (by omega) (by omega) s1 s8 (by omega) (by omega) (by omega) hq.1.2.2.2.1 hcu (by omega) z0 z1 z2 z3 lq.2.1 lq.2.2 (by omega) (by omega) hw.1 hw.2.1 hw.2.2.1 hw.2.2.2.1
            rw [hP, z4] at pb
            exact ⟨_, exch_mat hW hq hi hpt gw hcu he hb hb2 (by omega) t2, rfl, pb⟩
  · exact ⟨_, _, _, _, ⟨_, rfl⟩, inv_q h, fun a hh => n_exc1 h9 hn hz, Or.inr ⟨0, 2, rfl, rfl, fun a hh _ _ => b_exc1 (by rw [m3]; exact hz)⟩⟩
end DONE4
