/-! a call on both sides: blocks, holds, tickets, shares -/
abbrev isD (v : Value) : Prop := ∃ u : UInt64, v = .double u ∧ u &&& 0x7fffffffffffffff ≤ 0x7ff0000000000000
abbrev isF (v : Value) : Prop := ∃ u : UInt32, v = .float u ∧ u.toNat % 2 ^ 31 < 161 * 2 ^ 23
section QUEST2
variable {t0 x y L : Nat} {bf : Nat → Int32} {bn nw ub : Nat} {le hs : Int32} {lg sl : Tab} {rp sv : Off} {ps : Nat → Off} {ha : Hal} {fi : Fnd} {se : Sea} {pe ho ti pa : Tab} {ac pr : Nat → Int32} {tm fc ru md : Int32} {mf mg mv mi : Nat → Int32} {th re iz ea mr mc br bc : Int32} {pm ty : Nat}
theorem set_sp (u : Int32) {n : Nat} (hn : n ≤ 6) : (∃ S, 1 ≤ S ∧ S < 2 ^ n ∧ u = nI S) ∨ (u ≤ nI 0 ∨ nI (2 ^ n) ≤ u) := by
  have h64 : 2 ^ n ≤ 2 ^ 6 := Nat.pow_le_pow_right (by decide) hn
  rcases spl u (2 ^ n) (by omega) with ⟨S, hS, rfl⟩ | h
  · by_cases q : S = 0
    · subst q
      exact Or.inr (Or.inl (Int32.le_refl _))
    · exact Or.inl ⟨S, by omega, hS, rfl⟩
  · rcases h with h | h
    · exact Or.inr (Or.inl (Int32.le_of_lt h))
    · exact Or.inr (Or.inr h)
theorem req_sp (u v w : Int32) : (∃ s ct kd, 1 ≤ s ∧ s ≤ 8 ∧ ct < 5 ∧ kd < 2 ∧ u = nI s ∧ v = nI ct ∧ w = nI kd) ∨ reqBad u v w := by
  rcases spl2 u 8 (by decide) with ⟨s, hs, rfl⟩ | ⟨hu, -⟩
  · by_cases q : s = 0
    · subst q
      exact Or.inr (Or.inl (by decide))
    · rcases spl2 v 4 (by decide) with ⟨ct, hc, rfl⟩ | ⟨hv, -⟩
      · rcases spl2 w 1 (by decide) with ⟨kd, hk, rfl⟩ | ⟨hw, -⟩
        · exact Or.inl ⟨s, ct, kd, by omega, hs, by omega, by omega, rfl, rfl, rfl⟩
        · exact Or.inr (Or.inr (Or.inr (Or.inr (Or.inr hw))))
      · exact Or.inr (Or.inr (Or.inr (hv.elim Or.inl (fun z => Or.inr (Or.inl z)))))
  · refine Or.inr (hu.elim (fun z => Or.inl ?_) (fun z => Or.inr (Or.inl z)))
    rw [Int32.lt_iff_toInt_lt, nI_toInt (by decide)] at z ⊢
    omega
theorem q_bc (h : Inv L (bf, bn, le, re, nw, ub, hs, lg, sl, rp, sv, ps) (ha, fi, se, pe, ho, ti, pa, ac, pr, tm, fc, ru, md) (mf, mg, mv, mi, th, re, pm, iz, ty, ea, mr, mc, br, bc)) {u0 u1 u2 u3 : Int32} : Outc t0 x y L 107 182 [2, 1] (bf, bn, le, re, nw, ub, hs, lg, sl, rp, sv, ps) (ha, fi, se, pe, ho, ti, pa, ac, pr, tm, fc, ru, md) (mf, mg, mv, mi, th, re, pm, iz, ty, ea, mr, mc, br, bc) [.int u0, .int u1, .int u2, .int u3] [.int u0, .int u1, .int u2, .int u3] isI := by
  obtain ⟨K, N, kf, pf, R, C, n, mh, m, m4, D, hL, hW, hM⟩ := inv_cur h
  have hW' := hW
  have hM' := hM
  obtain ⟨w1, w2, w3, w4, w5, w6, w7, w8, w9, w10⟩ := hW'
  obtain ⟨a1, a2, a3, a4, a5, a6, a7, a8, a9, a10, a11, a12⟩ := hM'
  dsimp only [oHa, oPe, oSe, oHo, oTi, oPa, oAc, oPr, oTm, oFc, oRu, oMd] at a1 a2 a3 a4 a5 a6 a7 a8 a9 a10 a11 a12
  have hw1 := w1
  obtain ⟨g0, g1, hR1, hR, hC1, hC, hkn, hout⟩ := hw1
  have m1 := a1.1
  have m2 := a1.2.1
  have m3 := a2.1
  have h9 := w2.1
  have hn := w2.2.1
  have hho := a4.1
  have h29 := w6.1
  have hmh := w6.2.1
  have hti := a5.1
  have h30 := w7.1
  have hm20 := w7.2.1
  have hN := N_le hW
  have hpa := a6.1
  have h31 := w9.1
  have hm40 := w9.2
  rcases set_sp u0 hn with ⟨S, hS1, hS, rfl⟩ | hu
  · rcases req_sp u1 u2 u3 with ⟨s, ct, kd, s1, s8, hct, hkd, rfl, rfl, rfl⟩ | hb
    · obtain ⟨k, hk, e1, e2, -⟩ := look_rel (s := s) (ct := ct) (kd := kd) (fi := fi) (br := br) (bc := bc) w1 a1 (fun j hj => (a3 j hj).1) a2 a9 a10 a11 w4.2 hS1 hS hn hkd s1 s8
      exact ⟨_, _, _, _, ⟨_, rfl⟩, inv_q h, fun a hh => n_bc0 h9 hn hS1 hS s1 s8 hct hkd g0 g1 hR1 hR hC1 hC rfl, Or.inl ⟨rfl, fun a hh _ _ => by rw [e2, ← e1]; exact b_count0 hS1 (by rw [m3]; exact hS) (by omega) s1 s8 hct hkd (by omega) (by omega) (by omega)⟩⟩
    · exact ⟨_, _, _, _, ⟨_, rfl⟩, inv_q h, fun a hh => n_bc2 h9 hn hS1 hS hb, Or.inr ⟨1, 1, rfl, rfl, fun a hh _ _ => b_count2 hS1 (by rw [m3]; exact hS) (by omega) hb⟩⟩
  · exact ⟨_, _, _, _, ⟨_, rfl⟩, inv_q h, fun a hh => n_bc1 h9 hn hu, Or.inr ⟨0, 2, rfl, rfl, fun a hh _ _ => b_count1 (by rw [m3]; exact hu) (by omega)⟩⟩
theorem q_best (h : Inv L (bf, bn, le, re, nw, ub, hs, lg, sl, rp, sv, ps) (ha, fi, se, pe, ho, ti, pa, ac, pr, tm, fc, ru, md) (mf, mg, mv, mi, th, re, pm, iz, ty, ea, mr, mc, br, bc)) {u0 u1 u2 u3 u4 : Int32} : Outc t0 x y L 111 193 [2, 1, 3] (bf, bn, le, re, nw, ub, hs, lg, sl, rp, sv, ps) (ha, fi, se, pe, ho, ti, pa, ac, pr, tm, fc, ru, md) (mf, mg, mv, mi, th, re, pm, iz, ty, ea, mr, mc, br, bc) [.int u0, .int u1, .int u2, .int u3, .int u4] [.int u0, .int u1, .int u2, .int u3, .int u4] isI := by
  obtain ⟨K, N, kf, pf, R, C, n, mh, m, m4, D, hL, hW, hM⟩ := inv_cur h
  have hW' := hW
  have hM' := hM
  obtain ⟨w1, w2, w3, w4, w5, w6, w7, w8, w9, w10⟩ := hW'
  obtain ⟨a1, a2, a3, a4, a5, a6, a7, a8, a9, a10, a11, a12⟩ := hM'
  dsimp only [oHa, oPe, oSe, oHo, oTi, oPa, oAc, oPr, oTm, oFc, oRu, oMd] at a1 a2 a3 a4 a5 a6 a7 a8 a9 a10 a11 a12
  have hw1 := w1
  obtain ⟨g0, g1, hR1, hR, hC1, hC, hkn, hout⟩ := hw1
  have m1 := a1.1
  have m2 := a1.2.1
  have m3 := a2.1
  have h9 := w2.1
  have hn := w2.2.1
  have hho := a4.1
  have h29 := w6.1
  have hmh := w6.2.1
  have hti := a5.1
  have h30 := w7.1
  have hm20 := w7.2.1
  have hN := N_le hW
  have hpa := a6.1
  have h31 := w9.1
  have hm40 := w9.2
  rcases set_sp u0 hn with ⟨S, hS1, hS, rfl⟩ | hu
  · have hS' : S < 2 ^ pe.1 := by rw [m3]; exact hS
    rcases req_sp u1 u2 u3 with ⟨s, ct, kd, s1, s8, hct, hkd, rfl, rfl, rfl⟩ | hb
    · rcases spl2 u4 4 (by decide) with ⟨j, hj, rfl⟩ | ⟨hw, hw'⟩
      · obtain ⟨k, hk, e1, e2, hor⟩ := look_rel (s := s) (ct := ct) (kd := kd) (fi := fi) (br := br) (bc := bc) w1 a1 (fun j hj => (a3 j hj).1) a2 a9 a10 a11 w4.2 hS1 hS hn hkd s1 s8
        by_cases q : k = 0
        · subst q
          exact ⟨_, _, _, _, ⟨_, rfl⟩, inv_q h, fun a hh => n_best4 h9 hn hS1 hS s1 s8 hct hkd g0 g1 hR1 hR hC1 hC rfl (show j < 5 by omega) e2, Or.inr ⟨2, 3, rfl, rfl, fun a hh _ _ => b_best4 hS1 hS' (by omega) s1 s8 hct hkd (by omega) (by omega) (by omega) (by omega) e1⟩⟩
        · obtain ⟨r, c, hr, hc, hfit, x1, x2, x3, x4, x5, x6⟩ := hor.resolve_left q
          have f1 : ¬ (lookV ha fi se.1 pe tm fc ru S s ct kd).2.2.2.1 = nI 0 := by rw [e1, nI_eq (by omega) (by decide)]; exact q
          have f2 : ¬ (fndQ mf S n R C s ct kd (nI 0, nI 0, nI 0, br, bc)).1 = nI 0 := by rw [e2, nI_eq (by omega) (by decide)]; exact q
          rcases (show j = 0 ∨ j = 1 ∨ j = 2 ∨ j = 3 ∨ j = 4 by omega) with rfl | rfl | rfl | rfl | rfl
          · exact ⟨_, _, _, _, ⟨_, rfl⟩, inv_q h, fun a hh => n_best0_0 h9 hn hS1 hS s1 s8 hct hkd g0 g1 hR1 hR hC1 hC rfl f2 hkn x3 x4 hr hc, Or.inl ⟨rfl, fun a hh _ _ => by rw [← x1]; exact b_best0_0 hS1 hS' (by omega) s1 s8 hct hkd (by omega) (by omega) (by omega) f1⟩⟩
          · exact ⟨_, _, _, _, ⟨_, rfl⟩, inv_q h, fun a hh => n_best0_1 h9 hn hS1 hS s1 s8 hct hkd g0 g1 hR1 hR hC1 hC rfl f2 hkn x3 x4 hr hc, Or.inl ⟨rfl, fun a hh _ _ => by rw [← x2]; exact b_best0_1 hS1 hS' (by omega) s1 s8 hct hkd (by omega) (by omega) (by omega) f1⟩⟩
          · exact ⟨_, _, _, _, ⟨_, rfl⟩, inv_q h, fun a hh => n_best0_2 h9 hn hS1 hS s1 s8 hct hkd g0 g1 hR1 hR hC1 hC rfl f2 hkn x3 x4 hr hc, Or.inl ⟨rfl, fun a hh _ _ => by rw [← x5]; exact b_best0_2 hS1 hS' (by omega) s1 s8 hct hkd (by omega) (by omega) (by omega) f1⟩⟩
          · exact ⟨_, _, _, _, ⟨_, rfl⟩, inv_q h, fun a hh => n_best0_3 h9 hn hS1 hS s1 s8 hct hkd g0 g1 hR1 hR hC1 hC rfl f2 hkn x3 x4 hr hc, Or.inl ⟨rfl, fun a hh _ _ => by rw [← x6]; exact b_best0_3 hS1 hS' (by omega) s1 s8 hct hkd (by omega) (by omega) (by omega) f1⟩⟩
          · exact ⟨_, _, _, _, ⟨_, rfl⟩, inv_q h, fun a hh => n_best0_4 h9 hn hS1 hS s1 s8 hct hkd g0 g1 hR1 hR hC1 hC rfl f2 hkn x3 x4 hr hc, Or.inl ⟨rfl, fun a hh _ _ => by rw [← pal_eq w1 a1 a8 a2 (fit_blk hr s1 s8 hc hfit)]; exact b_best0_4 hS1 hS' (by omega) s1 s8 hct hkd (by omega) (by omega) (by omega) a1.2.2.2.1 f1 x1 x2 (by omega) (by omega)⟩⟩
      · exact ⟨_, _, _, _, ⟨_, rfl⟩, inv_q h, fun a hh => n_best3 h9 hn hS1 hS s1 s8 hct hkd hw, Or.inr ⟨1, 1, rfl, rfl, fun a hh _ _ => b_best3 hS1 hS' (by omega) s1 s8 hct hkd hw⟩⟩
    · exact ⟨_, _, _, _, ⟨_, rfl⟩, inv_q h, fun a hh => n_best2 h9 hn hS1 hS hb, Or.inr ⟨1, 1, rfl, rfl, fun a hh _ _ => b_best2 hS1 hS' (by omega) hb⟩⟩
  · exact ⟨_, _, _, _, ⟨_, rfl⟩, inv_q h, fun a hh => n_best1 h9 hn hu, Or.inr ⟨0, 2, rfl, rfl, fun a hh _ _ => b_best1 (by rw [m3]; exact hu) (by omega)⟩⟩
/-- a hold's number: the row is the same on both sides -/
theorem hol_sp {f : Nat → Int32} {mh n R C D : Nat} (hw : wHol f mh n R C D) (hm : mHol ho f mh) (v : Int32) : (∃ i, i < mh ∧ f (1291 + 7 * i) = v ∧ (∀ j, j < i → ¬ f (1291 + 7 * j) = v) ∧ ho.2 (i * 7 + 6) = v ∧ ∀ j, j < i → ¬ ho.2 (j * 7 + 6) = v) ∨ ((∀ j, j < mh → ¬ f (1291 + 7 * j) = v) ∧ ∀ j, j < ho.1 → ¬ ho.2 (j * 7 + 6) = v) := by
  by_cases q : ∃ i, i < mh ∧ f (1291 + 7 * i) = v
  · obtain ⟨i, hi, e⟩ := q
    have hne : ∀ j, j < i → ¬ f (1291 + 7 * j) = v := fun j hj z => hw.2.2.2 j i hj hi (z.trans e.symm)
    exact Or.inl ⟨i, hi, e, hne, (hm.2 i hi).1.trans e, fun j hj z => hne j hj ((hm.2 j (by omega)).1.symm.trans z)⟩
  · refine Or.inr ⟨fun j hj z => q ⟨j, hj, z⟩, fun j hj z => ?_⟩
    rw [hm.1] at hj
    exact q ⟨j, hj, (hm.2 j hj).1.symm.trans z⟩
theorem q_held (h : Inv L (bf, bn, le, re, nw, ub, hs, lg, sl, rp, sv, ps) (ha, fi, se, pe, ho, ti, pa, ac, pr, tm, fc, ru, md) (mf, mg, mv, mi, th, re, pm, iz, ty, ea, mr, mc, br, bc)) {u w : Int32} : Outc t0 x y L 125 205 [3, 1] (bf, bn, le, re, nw, ub, hs, lg, sl, rp, sv, ps) (ha, fi, se, pe, ho, ti, pa, ac, pr, tm, fc, ru, md) (mf, mg, mv, mi, th, re, pm, iz, ty, ea, mr, mc, br, bc) [.int u, .int w] [.int u, .int w] isI := by
  obtain ⟨K, N, kf, pf, R, C, n, mh, m, m4, D, hL, hW, hM⟩ := inv_cur h
  have hW' := hW
  have hM' := hM
  obtain ⟨w1, w2, w3, w4, w5, w6, w7, w8, w9, w10⟩ := hW'
  obtain ⟨a1, a2, a3, a4, a5, a6, a7, a8, a9, a10, a11, a12⟩ := hM'
  dsimp only [oHa, oPe, oSe, oHo, oTi, oPa, oAc, oPr, oTm, oFc, oRu, oMd] at a1 a2 a3 a4 a5 a6 a7 a8 a9 a10 a11 a12
  have hw1 := w1
  obtain ⟨g0, g1, hR1, hR, hC1, hC, hkn, hout⟩ := hw1
  have m1 := a1.1
  have m2 := a1.2.1
  have m3 := a2.1
  have h9 := w2.1
  have hn := w2.2.1
  have hho := a4.1
  have h29 := w6.1
  have hmh := w6.2.1
  have hti := a5.1
  have h30 := w7.1
  have hm20 := w7.2.1
  have hN := N_le hW
  have hpa := a6.1
  have h31 := w9.1
  have hm40 := w9.2
  rcases hol_sp w6 a4 u with ⟨i, hi, e1, e2, e3, e4⟩ | ⟨e1, e2⟩
  · rcases spl2 w 5 (by decide) with ⟨k, hk, rfl⟩ | ⟨hw, hw'⟩
    · exact ⟨_, _, _, _, ⟨_, rfl⟩, inv_q h, fun a hh => n_held0 h29 hmh hi e1 e2 (show k < 6 by omega), Or.inl ⟨rfl, fun a hh _ _ => by rw [← (a4.2 i hi).2 k (by omega)]; exact b_held0 (by omega) (by omega) e3 e4 (by omega)⟩⟩
    · exact ⟨_, _, _, _, ⟨_, rfl⟩, inv_q h, fun a hh => n_held2 h29 hmh hi e1 e2 hw, Or.inr ⟨1, 1, rfl, rfl, fun a hh _ _ => b_held2 (by omega) (by omega) e3 e4 hw⟩⟩
  · exact ⟨_, _, _, _, ⟨_, rfl⟩, inv_q h, fun a hh => n_held1 h29 hmh e1, Or.inr ⟨0, 3, rfl, rfl, fun a hh _ _ => b_held1 (by omega) e2⟩⟩
theorem q_tick (h : Inv L (bf, bn, le, re, nw, ub, hs, lg, sl, rp, sv, ps) (ha, fi, se, pe, ho, ti, pa, ac, pr, tm, fc, ru, md) (mf, mg, mv, mi, th, re, pm, iz, ty, ea, mr, mc, br, bc)) {u v w : Int32} : Outc t0 x y L 127 211 [3, 1] (bf, bn, le, re, nw, ub, hs, lg, sl, rp, sv, ps) (ha, fi, se, pe, ho, ti, pa, ac, pr, tm, fc, ru, md) (mf, mg, mv, mi, th, re, pm, iz, ty, ea, mr, mc, br, bc) [.int u, .int v, .int w] [.int u, .int v, .int w] isI := by
  obtain ⟨K, N, kf, pf, R, C, n, mh, m, m4, D, hL, hW, hM⟩ := inv_cur h
  have hW' := hW
  have hM' := hM
  obtain ⟨w1, w2, w3, w4, w5, w6, w7, w8, w9, w10⟩ := hW'
  obtain ⟨a1, a2, a3, a4, a5, a6, a7, a8, a9, a10, a11, a12⟩ := hM'
  dsimp only [oHa, oPe, oSe, oHo, oTi, oPa, oAc, oPr, oTm, oFc, oRu, oMd] at a1 a2 a3 a4 a5 a6 a7 a8 a9 a10 a11 a12
  have hw1 := w1
  obtain ⟨g0, g1, hR1, hR, hC1, hC, hkn, hout⟩ := hw1
  have m1 := a1.1
  have m2 := a1.2.1
  have m3 := a2.1
  have h9 := w2.1
  have hn := w2.2.1
  have hho := a4.1
  have h29 := w6.1
  have hmh := w6.2.1
  have hti := a5.1
  have h30 := w7.1
  have hm20 := w7.2.1
  have hN := N_le hW
  have hpa := a6.1
  have h31 := w9.1
  have hm40 := w9.2
  by_cases hno : noTQ mf m n u v
  · exact ⟨_, _, _, _, ⟨_, rfl⟩, inv_q h, fun a hh => n_tick1 h9 hn h30 hm20 hno, Or.inr ⟨0, 3, rfl, rfl, fun a hh _ _ => b_tick1 (by omega) ((tic_no w7 a5 hn).mp hno)⟩⟩
  · obtain ⟨i, hi, e5, rfl, e6, hne, hk, hp, he, hne2, hts⟩ := tic_yes w7 a5 hn hno
    obtain ⟨d0, d1, d2, d3, d4, d5, d6⟩ := a5.2 i hi
    rcases spl2 w 4 (by decide) with ⟨k, hk4, rfl⟩ | ⟨hw, hw'⟩
    · rcases (show k = 0 ∨ k = 1 ∨ k = 2 ∨ k = 3 ∨ k = 4 by omega) with rfl | rfl | rfl | rfl | rfl
      · exact ⟨_, _, _, _, ⟨_, rfl⟩, inv_q h, fun a hh => n_tick00 h9 hn h30 hm20 hk he hne2 hp hts, Or.inl ⟨rfl, fun a hh _ _ => by rw [← d0]; exact b_tick0 (k := 0) (by omega) (by omega) e5 e6 hne (by decide)⟩⟩
      · exact ⟨_, _, _, _, ⟨_, rfl⟩, inv_q h, fun a hh => n_tick0 h9 hn h30 hm20 hk he hne2 hp hts (j := 0) (by decide), Or.inl ⟨rfl, fun a hh _ _ => (b_tick0 (k := 1) (by omega) (by omega) e5 e6 hne (by decide)).trans (by rw [d1]; rfl)⟩⟩
      · exact ⟨_, _, _, _, ⟨_, rfl⟩, inv_q h, fun a hh => n_tick0 h9 hn h30 hm20 hk he hne2 hp hts (j := 1) (by decide), Or.inl ⟨rfl, fun a hh _ _ => (b_tick0 (k := 2) (by omega) (by omega) e5 e6 hne (by decide)).trans (by rw [d2]; rfl)⟩⟩
      · exact ⟨_, _, _, _, ⟨_, rfl⟩, inv_q h, fun a hh => n_tick0 h9 hn h30 hm20 hk he hne2 hp hts (j := 2) (by decide), Or.inl ⟨rfl, fun a hh _ _ => (b_tick0 (k := 3) (by omega) (by omega) e5 e6 hne (by decide)).trans (by rw [d3]; rfl)⟩⟩
      · exact ⟨_, _, _, _, ⟨_, rfl⟩, inv_q h, fun a hh => n_tick0 h9 hn h30 hm20 hk he hne2 hp hts (j := 3) (by decide), Or.inl ⟨rfl, fun a hh _ _ => (b_tick0 (k := 4) (by omega) (by omega) e5 e6 hne (by decide)).trans (by rw [d4]; rfl)⟩⟩
    · exact ⟨_, _, _, _, ⟨_, rfl⟩, inv_q h, fun a hh => n_tick2 h9 hn h30 hm20 hk he hne2 hp hts hw, Or.inr ⟨1, 1, rfl, rfl, fun a hh _ _ => b_tick2 (by omega) (by omega) e5 e6 hne hw⟩⟩
theorem q_sold (h : Inv L (bf, bn, le, re, nw, ub, hs, lg, sl, rp, sv, ps) (ha, fi, se, pe, ho, ti, pa, ac, pr, tm, fc, ru, md) (mf, mg, mv, mi, th, re, pm, iz, ty, ea, mr, mc, br, bc)) {u : Int32} : Outc t0 x y L 142 227 [2, 4] (bf, bn, le, re, nw, ub, hs, lg, sl, rp, sv, ps) (ha, fi, se, pe, ho, ti, pa, ac, pr, tm, fc, ru, md) (mf, mg, mv, mi, th, re, pm, iz, ty, ea, mr, mc, br, bc) [.int u] [.int u] isD := by
  obtain ⟨K, N, kf, pf, R, C, n, mh, m, m4, D, hL, hW, hM⟩ := inv_cur h
  have hW' := hW
  have hM' := hM
  obtain ⟨w1, w2, w3, w4, w5, w6, w7, w8, w9, w10⟩ := hW'
  obtain ⟨a1, a2, a3, a4, a5, a6, a7, a8, a9, a10, a11, a12⟩ := hM'
  dsimp only [oHa, oPe, oSe, oHo, oTi, oPa, oAc, oPr, oTm, oFc, oRu, oMd] at a1 a2 a3 a4 a5 a6 a7 a8 a9 a10 a11 a12
  have hw1 := w1
  obtain ⟨g0, g1, hR1, hR, hC1, hC, hkn, hout⟩ := hw1
  have m1 := a1.1
  have m2 := a1.2.1
  have m3 := a2.1
  have h9 := w2.1
  have hn := w2.2.1
  have hho := a4.1
  have h29 := w6.1
  have hmh := w6.2.1
  have hti := a5.1
  have h30 := w7.1
  have hm20 := w7.2.1
  have hN := N_le hW
  have hpa := a6.1
  have h31 := w9.1
  have hm40 := w9.2
  have hst := a1.2.2.1
  have h96 := stN_le (f := mf)
  have z0 : isD (.double FP.dconst0) := ⟨_, rfl, by decide⟩
  rcases spl u n (by omega) with ⟨p, hp, rfl⟩ | hu
  · by_cases q : stN mf = 0
    · exact ⟨_, _, _, _, z0, inv_q h, fun a hh => n_sold2 h9 hn hp q, Or.inr ⟨1, 4, rfl, rfl, fun a hh _ _ => b_sold2 (by omega) (by omega) (by omega)⟩⟩
    · have hne : ¬ nI (stN mf) = nI 0 := by rw [nI_eq (by omega) (by decide)]; exact q
      have hd := dd_ok (a := nI (siN mf p (nI 2))) hne
      refine ⟨_, _, _, _, ⟨_, rfl, hd⟩, inv_q (fi' := fi) (rp' := rp) h, fun a hh => n_sold0 h9 hn hp q hd, Or.inl ⟨rfl, fun a hh _ _ => ?_⟩⟩
      have e := cnt_eq a3 hp hn (st := nI 2) (by decide)
      rw [← e, ← hst]
      exact b_sold0 (by omega) (by omega) (by omega) (by omega) (by rw [e, hst]; exact hd)
  · exact ⟨_, _, _, _, z0, inv_q h, fun a hh => n_sold1 h9 hn hu, Or.inr ⟨0, 2, rfl, rfl, fun a hh _ _ => b_sold1 (by rw [m3]; exact hu)⟩⟩
theorem q_mean (h : Inv L (bf, bn, le, re, nw, ub, hs, lg, sl, rp, sv, ps) (ha, fi, se, pe, ho, ti, pa, ac, pr, tm, fc, ru, md) (mf, mg, mv, mi, th, re, pm, iz, ty, ea, mr, mc, br, bc)) : Outc t0 x y L 144 228 [4] (bf, bn, le, re, nw, ub, hs, lg, sl, rp, sv, ps) (ha, fi, se, pe, ho, ti, pa, ac, pr, tm, fc, ru, md) (mf, mg, mv, mi, th, re, pm, iz, ty, ea, mr, mc, br, bc) [] [] isF := by
  obtain ⟨K, N, kf, pf, R, C, n, mh, m, m4, D, hL, hW, hM⟩ := inv_cur h
  have hW' := hW
  have hM' := hM
  obtain ⟨w1, w2, w3, w4, w5, w6, w7, w8, w9, w10⟩ := hW'
  obtain ⟨a1, a2, a3, a4, a5, a6, a7, a8, a9, a10, a11, a12⟩ := hM'
  dsimp only [oHa, oPe, oSe, oHo, oTi, oPa, oAc, oPr, oTm, oFc, oRu, oMd] at a1 a2 a3 a4 a5 a6 a7 a8 a9 a10 a11 a12
  have hw1 := w1
  obtain ⟨g0, g1, hR1, hR, hC1, hC, hkn, hout⟩ := hw1
  have m1 := a1.1
  have m2 := a1.2.1
  have m3 := a2.1
  have h9 := w2.1
  have hn := w2.2.1
  have hho := a4.1
  have h29 := w6.1
  have hmh := w6.2.1
  have hti := a5.1
  have h30 := w7.1
  have hm20 := w7.2.1
  have hN := N_le hW
  have hpa := a6.1
  have h31 := w9.1
  have hm40 := w9.2
  obtain ⟨e1, e2⟩ := mean_eq w7 a5 hn
  by_cases q : (mnQ mf m n).2 = nI 0
  · have z0 : isF (.float (FP.i2f (nI 0))) := ⟨_, rfl, by have := FP.Core.i2f_mag (nI 0); exact Nat.lt_of_lt_of_le this (by decide)⟩
    exact ⟨_, _, _, _, z0, inv_q h, fun a hh => n_mean1 h9 hn h30 hm20 q, Or.inr ⟨0, 4, rfl, rfl, fun a hh _ _ => b_mean1 (by omega) (e1.trans q)⟩⟩
  · exact ⟨_, _, _, _, ⟨_, rfl, fd_fin q⟩, inv_q h, fun a hh => n_mean0 h9 hn h30 hm20 rfl rfl q (fd_ok q), Or.inl ⟨rfl, fun a hh _ _ => b_mean0 (by omega) e1 e2 q (fd_ok q)⟩⟩
end QUEST2
