/-! a call on both sides: the text, back, saved, replayed -/
section TXT2
variable {t0 x y L : Nat} {bf : Nat → Int32} {bn nw ub : Nat} {le hs : Int32} {lg sl : Tab} {rp sv : Off} {ps : Nat → Off} {ha : Hal} {fi : Fnd} {se : Sea} {pe ho ti pa : Tab} {ac pr : Nat → Int32} {tm fc ru md : Int32} {mf mg mv mi : Nat → Int32} {th re iz ea mr mc br bc : Int32} {pm ty : Nat}
theorem inv_text {lr : Int32} {o : Off} {bf' mi' : Nat → Int32} {bn' ty' : Nat} {le' ea' th' mr' mc' : Int32} (h : Inv L (bf, bn, le, lr, nw, ub, hs, lg, sl, rp, sv, ps) o (mf, mg, mv, mi, th, re, pm, iz, ty, ea, mr, mc, br, bc)) (ht : eText bf' mi' bn' ty' le' ea') : Inv L (bf', bn', le', lr, nw, ub, hs, lg, sl, rp, sv, ps) o (mf, mg, mv, mi', th', re, pm, iz, ty', ea', mr', mc', br, bc) := ⟨ht, h.2⟩
theorem q_app (h : Inv L (bf, bn, le, re, nw, ub, hs, lg, sl, rp, sv, ps) (ha, fi, se, pe, ho, ti, pa, ac, pr, tm, fc, ru, md) (mf, mg, mv, mi, th, re, pm, iz, ty, ea, mr, mc, br, bc)) {q : Nat} (hq : q < 65536) : Outc t0 x y L 75 157 [1, 0] (bf, bn, le, re, nw, ub, hs, lg, sl, rp, sv, ps) (ha, fi, se, pe, ho, ti, pa, ac, pr, tm, fc, ru, md) (mf, mg, mv, mi, th, re, pm, iz, ty, ea, mr, mc, br, bc) [.int (nI q)] [.int (nI q)] isI := by
  obtain ⟨e1, e2, e3, e4, e5⟩ := h.1
  subst e1
  subst e3
  by_cases c : q < 32 ∨ 126 < q
  · exact ⟨_, _, _, _, ⟨_, rfl⟩, inv_q h, fun a hh => n_app1 hq c, Or.inr ⟨0, 1, rfl, rfl, fun a hh _ _ => b_app1 hq c⟩⟩
  · by_cases d : bn = 103
    · exact ⟨_, _, _, _, ⟨_, rfl⟩, inv_q h, fun a hh => n_app2 (by omega) (by omega) d, Or.inr ⟨1, 0, rfl, rfl, fun a hh _ _ => b_app2 (by omega) (by omega) d⟩⟩
    · refine ⟨_, _, _, _, ⟨_, rfl⟩, inv_up (inv_text (bf' := upd bf bn (nI q)) (mi' := upd bf bn (nI q)) (bn' := bn + 1) (ty' := bn + 1) (le' := le) (ea' := ea) (th' := nI 0) (mr' := mr) (mc' := mc) h ⟨rfl, by omega, rfl, e4, e5⟩) (Nat.le_succ _), fun a hh => n_app0 (by omega) (by omega) (by omega), Or.inl ⟨rfl, fun a hh _ _ => b_app0 (by omega) (by omega) (by omega)⟩⟩
theorem q_load (h : Inv L (bf, bn, le, re, nw, ub, hs, lg, sl, rp, sv, ps) (ha, fi, se, pe, ho, ti, pa, ac, pr, tm, fc, ru, md) (mf, mg, mv, mi, th, re, pm, iz, ty, ea, mr, mc, br, bc)) : Outc t0 x y L 78 161 [1, 5] (bf, bn, le, re, nw, ub, hs, lg, sl, rp, sv, ps) (ha, fi, se, pe, ho, ti, pa, ac, pr, tm, fc, ru, md) (mf, mg, mv, mi, th, re, pm, iz, ty, ea, mr, mc, br, bc) [] [] isI := by
  obtain ⟨K, N, kf, pf, R, C, n, mh, m, m4, D, hL, hW, hM⟩ := inv_cur h
  have hW' := hW
  have hM' := hM
  obtain ⟨w1, w2, w3, w4, w5, w6, w7, w8, w9, w10⟩ := hW'
  obtain ⟨a1, a2, a3, a4, a5, a6, a7, a8, a9, a10, a11, a12⟩ := hM'
  dsimp only [oHa, oPe, oSe, oHo, oTi, oPa, oAc, oPr, oTm, oFc, oRu, oMd] at a1 a2 a3 a4 a5 a6 a7 a8 a9 a10 a11 a12
  have hw1 := w1
  obtain ⟨g0, g1, hR1, hR, hC1, hC, hkn, hout⟩ := hw1
  have m1 := a1.1
  have m2 := a1.2.1
  have m3 := a2.1
  have h9 := w2.1
  have hn := w2.2.1
  have hho := a4.1
  have h29 := w6.1
  have hmh := w6.2.1
  have hti := a5.1
  have h30 := w7.1
  have hm20 := w7.2.1
  have hN := N_le hW
  have hpa := a6.1
  have h31 := w9.1
  have hm40 := w9.2
  obtain ⟨e1, e2, e3, e4, e5⟩ := h.1
  subst e1
  subst e3
  have hs := err_sgn (f := bf) e2
  by_cases c : (mapR bf bn).1 = -nI 1
  · obtain ⟨l1, l2, l3⟩ := load_rel (ha := ha) e2 a1.2.2.2.1 w10 c
    by_cases d : 8 < (mapR bf bn).2.1 ∨ 12 < (mapR bf bn).2.2
    · exact ⟨_, _, _, _, ⟨_, rfl⟩, inv_up (inv_text (bf' := bf) (mi' := bf) (bn' := 0) (ty' := 0) (le' := le) (ea' := ea) (th' := nI 2) (mr' := nI (mapR bf bn).2.1) (mc' := nI (mapR bf bn).2.2) h ⟨rfl, by omega, rfl, e4, e5⟩) (Nat.le_succ _), fun a hh => n_load2 e2 c d, Or.inr ⟨1, 5, rfl, rfl, fun a hh _ _ => b_load2 e2 (hs.mpr c) (by rw [l1, l2]; exact d)⟩⟩
    · obtain ⟨k1, k2, k3⟩ := l3 (by omega) (by omega)
      refine ⟨_, _, _, _, ⟨_, rfl⟩, inv_up (inv_anew (th' := nI 0) (mr' := nI (mapR bf bn).2.1) (mc' := nI (mapR bf bn).2.2) (fi := fi) (se := se) (x1 := pe.2) (x2 := ho.2) (x3 := ti.2) (x4 := pa.2) (ac := ac) (pr := pr) h k3 k1 k2) (Nat.le_succ _), fun a hh => n_load0 e2 c (by omega) (by omega), Or.inl ⟨rfl, fun a hh ht0 ht => ?_⟩⟩
      rw [← k2.2.2.1]
      exact b_load0 ht0 ht e2 (hs.mpr c) (by omega) (by omega) rfl (by rw [k2.1]; omega)
  · have hr : ∃ k, k ≤ 103 ∧ (mapR bf bn).1 = nI k := by
      unfold mapR at c ⊢
      rcases t_rel (f := bf) bn with ⟨w, q, f1, f2, -⟩ | ⟨i, r, hi, f1, f2⟩
      · rw [f2] at c ⊢
        dsimp only at c ⊢
        by_cases z : q.1 = 0 ∨ q.1 < q.2.2
        · rw [if_pos z]
          exact ⟨bn, e2, rfl⟩
        · rw [if_neg z] at c
          exact absurd rfl c
      · rw [f2]
        exact ⟨i, by omega, rfl⟩
    refine ⟨_, _, _, _, ⟨_, rfl⟩, inv_up (inv_text (bf' := bf) (mi' := bf) (bn' := 0) (ty' := 0) (le' := (mapR bf bn).1) (ea' := (mapR bf bn).1) (th' := nI 1) (mr' := nI (mapR bf bn).2.1) (mc' := nI (mapR bf bn).2.2) h ⟨rfl, by omega, rfl, rfl, Or.inr hr⟩) (Nat.le_succ _), fun a hh => n_load1 e2 c, Or.inr ⟨0, 1, rfl, rfl, fun a hh _ _ => ?_⟩⟩
    rw [← err_map]
    exact b_load1 e2 (fun z => c (hs.mp z))
theorem q_und (h : Inv L (bf, bn, le, re, nw, ub, hs, lg, sl, rp, sv, ps) (ha, fi, se, pe, ho, ti, pa, ac, pr, tm, fc, ru, md) (mf, mg, mv, mi, th, re, pm, iz, ty, ea, mr, mc, br, bc)) (hL : L < 512) : Outc t0 x y L 151 233 [0] (bf, bn, le, re, nw, ub, hs, lg, sl, rp, sv, ps) (ha, fi, se, pe, ho, ti, pa, ac, pr, tm, fc, ru, md) (mf, mg, mv, mi, th, re, pm, iz, ty, ea, mr, mc, br, bc) [] [] isI := by
  have h6 : ub = pm := h.2.2.2.2.2.1
  have h7 : ub ≤ 8 := h.2.2.2.2.2.2.1
  have h8 : ub ≤ lg.1 := h.2.2.2.2.2.2.2.1
  have h5 : nw < 8 := h.2.2.2.2.1
  have h4 : lg.1 ≤ L := h.2.2.2.1
  subst h6
  by_cases c : ub = 0
  · exact ⟨_, _, _, _, ⟨_, rfl⟩, inv_q h, fun a hh => n_und1 c, Or.inr ⟨0, 0, rfl, rfl, fun a hh _ _ => b_und1 c⟩⟩
  · obtain ⟨k1, k2⟩ := inv_undo (th' := nI 0) h (by omega)
    exact ⟨_, _, _, _, ⟨_, rfl⟩, inv_up k2 (Nat.le_succ _), fun a hh => n_und0 (by omega) h7, Or.inl ⟨rfl, fun a hh _ _ => b_und0 (by omega) h7 h5 (by omega) (by omega) k1⟩⟩
theorem q_snap (h : Inv L (bf, bn, le, re, nw, ub, hs, lg, sl, rp, sv, ps) (ha, fi, se, pe, ho, ti, pa, ac, pr, tm, fc, ru, md) (mf, mg, mv, mi, th, re, pm, iz, ty, ea, mr, mc, br, bc)) (hL : L < 512) : Outc t0 x y L 73 235 [] (bf, bn, le, re, nw, ub, hs, lg, sl, rp, sv, ps) (ha, fi, se, pe, ho, ti, pa, ac, pr, tm, fc, ru, md) (mf, mg, mv, mi, th, re, pm, iz, ty, ea, mr, mc, br, bc) [] [] isI := by
  obtain ⟨K, N, kf, pf, R, C, n, mh, m, m4, D, hL, hW, hM⟩ := inv_cur h
  have hW' := hW
  have hM' := hM
  obtain ⟨w1, w2, w3, w4, w5, w6, w7, w8, w9, w10⟩ := hW'
  obtain ⟨a1, a2, a3, a4, a5, a6, a7, a8, a9, a10, a11, a12⟩ := hM'
  dsimp only [oHa, oPe, oSe, oHo, oTi, oPa, oAc, oPr, oTm, oFc, oRu, oMd] at a1 a2 a3 a4 a5 a6 a7 a8 a9 a10 a11 a12
  have hw1 := w1
  obtain ⟨g0, g1, hR1, hR, hC1, hC, hkn, hout⟩ := hw1
  have m1 := a1.1
  have m2 := a1.2.1
  have m3 := a2.1
  have h9 := w2.1
  have hn := w2.2.1
  have hho := a4.1
  have h29 := w6.1
  have hmh := w6.2.1
  have hti := a5.1
  have h30 := w7.1
  have hm20 := w7.2.1
  have hN := N_le hW
  have hpa := a6.1
  have h31 := w9.1
  have hm40 := w9.2
  have h4 : lg.1 ≤ L := h.2.2.2.1
  obtain ⟨k1, k2⟩ := inv_snap (th' := nI 0) h
  exact ⟨_, _, _, _, ⟨_, rfl⟩, inv_up k2 (Nat.le_succ _), fun a hh => n_snap, Or.inl ⟨rfl, fun a hh _ _ => by rw [← a9]; exact b_snap k1 (by omega)⟩⟩
theorem q_rest (h : Inv L (bf, bn, le, re, nw, ub, hs, lg, sl, rp, sv, ps) (ha, fi, se, pe, ho, ti, pa, ac, pr, tm, fc, ru, md) (mf, mg, mv, mi, th, re, pm, iz, ty, ea, mr, mc, br, bc)) (hL : L < 512) : Outc t0 x y L 153 236 [0] (bf, bn, le, re, nw, ub, hs, lg, sl, rp, sv, ps) (ha, fi, se, pe, ho, ti, pa, ac, pr, tm, fc, ru, md) (mf, mg, mv, mi, th, re, pm, iz, ty, ea, mr, mc, br, bc) [] [] isI := by
  have h3 : hs = iz := h.2.2.1
  subst h3
  by_cases c : hs = nI 0
  · exact ⟨_, _, _, _, ⟨_, rfl⟩, inv_q h, fun a hh => n_res1 c, Or.inr ⟨0, 0, rfl, rfl, fun a hh _ _ => b_res1 c⟩⟩
  · obtain ⟨k1, k2, k3, k4⟩ := inv_rest (th' := nI 0) h c
    exact ⟨_, _, _, _, ⟨_, rfl⟩, inv_up k4 (Nat.le_succ _), fun a hh => n_res0 c, Or.inl ⟨rfl, fun a hh _ _ => by rw [← k3]; exact b_res0 c k1 (by omega)⟩⟩
theorem q_repl (h : Inv L (bf, bn, le, re, nw, ub, hs, lg, sl, rp, sv, ps) (ha, fi, se, pe, ho, ti, pa, ac, pr, tm, fc, ru, md) (mf, mg, mv, mi, th, re, pm, iz, ty, ea, mr, mc, br, bc)) (hL : L < 512) : ∃ M' : Md, M'.2.2.2.2.1 = nI 0 ∧ (∀ rp', Inv (L + 1) (bf, bn, le, re, nw, ub, hs, lg, sl, rp', sv, ps) (ha, fi, se, pe, ho, ti, pa, ac, pr, tm, fc, ru, md) M') ∧ (∀ (a : Nat × Bool) (h : xHp), CA (xPt t0) 234 [.ref y] a (putMod h y (mf, mg, mv, mi, th, re, pm, iz, ty, ea, mr, mc, br, bc)) = some (.inl (some (.int (nI 1))), a, putMod h y M', 0, 0)) ∧ ∀ (a : Nat × Bool) (h : xHp), t0 < x → h t0 = .inl (8, 4, .inl xFP) → ∃ rp', CA (xPt t0) 27 [.ref x] a (putOff (bxr h x (bf, bn, le, re, nw, ub, hs, lg, sl, rp, sv, ps)) (x + 2) (ha, fi, se, pe, ho, ti, pa, ac, pr, tm, fc, ru, md)) = some (.inl (some (.int (nI 1))), a, putOff (bxr h x (bf, bn, le, re, nw, ub, hs, lg, sl, rp', sv, ps)) (x + 2) (ha, fi, se, pe, ho, ti, pa, ac, pr, tm, fc, ru, md), 0, 0) := by
  obtain ⟨K, N, kf, pf, R, C, n, mh, m, m4, D, hL, hW, hM⟩ := inv_cur h
  have hW' := hW
  have hM' := hM
  obtain ⟨w1, w2, w3, w4, w5, w6, w7, w8, w9, w10⟩ := hW'
  obtain ⟨a1, a2, a3, a4, a5, a6, a7, a8, a9, a10, a11, a12⟩ := hM'
  dsimp only [oHa, oPe, oSe, oHo, oTi, oPa, oAc, oPr, oTm, oFc, oRu, oMd] at a1 a2 a3 a4 a5 a6 a7 a8 a9 a10 a11 a12
  have hw1 := w1
  obtain ⟨g0, g1, hR1, hR, hC1, hC, hkn, hout⟩ := hw1
  have m1 := a1.1
  have m2 := a1.2.1
  have m3 := a2.1
  have h9 := w2.1
  have hn := w2.2.1
  have hho := a4.1
  have h29 := w6.1
  have hmh := w6.2.1
  have hti := a5.1
  have h30 := w7.1
  have hm20 := w7.2.1
  have hN := N_le hW
  have hpa := a6.1
  have h31 := w9.1
  have hm40 := w9.2
  refine ⟨(mf, mg, mv, mi, nI 0, re, pm, iz, ty, ea, mr, mc, br, bc), rfl, fun rp' => inv_q h, fun a hh => n_repl, fun a hh ht0 ht => ?_⟩
  obtain ⟨h1, h2, h3, h4, h5, h6, h7, h8, h9', A, ⟨s1, s2, s3⟩, b2, b3, b4, b5⟩ := h
  refine b_repl ht0 ht (by omega) (by omega) (st := fun i q => gM q (A i) ∧ gH (oHa q) (A 0)) ?_ ?_ ?_ (by omega) (by omega) (by omega)
  · rintro q ⟨fi2, se2, pe2, ho2, ti2, pa2, ac2, pr2, rfl⟩
    obtain ⟨f, kf, pf, R, C, e, an, hwh⟩ := s3
    rw [e] at b3 ⊢
    have hmh : mHal ha f R C := b3
    have := hwh.2.2.2.1
    exact ⟨an_mat an (hal_cpy hmh) (by omega), hal_cpy hmh⟩
  · rintro i q hi ⟨q1, q2⟩
    obtain ⟨q', r1, r2, r3⟩ := s2 i hi q q1
    exact ⟨q', ⟨r1, by rw [r2]; exact q2⟩, r3⟩
  · rintro q ⟨q1, q2⟩
    have hk := gM_okO (s1 _ (Nat.le_refl _)) q1
    refine ⟨hk.2.1, hk.2.2.1, hk.2.2.2.1, ?_⟩
    generalize A lg.1 = g at q1 b2
    obtain ⟨f, N, kf, pf, R, C, n, mh, m, m4, D⟩ := g
    exact mat_sam q1 b2
end TXT2
