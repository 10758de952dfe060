/-! what holds between two calls -/
abbrev Gh : Type := (Nat → Int32) × Nat × (Nat → Nat) × (Nat → Nat) × Nat × Nat × Nat × Nat × Nat × Nat × Nat
def gW (g : Gh) (K : Nat) : Prop := match g with
  | (f, N, kf, pf, R, C, n, mh, m, m4, D) => WF f N kf pf R C n mh m m4 K D
def gM (o : Off) (g : Gh) : Prop := match g with
  | (f, N, kf, pf, R, C, n, mh, _, m4, _) => Mat o f N kf pf R C n mh m4
def gH (D : Hal) (g : Gh) : Prop := match g with
  | (f, _, _, _, R, C, _, _, _, _, _) => mHal D f R C
def an0 (g : Gh) : Prop := ∃ f kf pf R C, g = (f, 0, kf, pf, R, C, 0, 0, 0, 0, 0) ∧ anQ f R C ∧ wHal f R C
/-- a command's row: from each office like the one to an office like the other, over the same hall -/
def StpW (w : Nat → Int32) (g g' : Gh) : Prop := ∀ q, gM q g → ∃ q', gM q' g' ∧ oHa q' = oHa q ∧ repP w q q'
def Hs (A : Nat → Gh) (K : Nat) (lg : Nat → Int32) : Prop := (∀ i, i ≤ K → gW (A i) i) ∧ (∀ i, i < K → StpW (fun j => lg (i * 7 + j)) (A i) (A (i + 1))) ∧ an0 (A 0)
def ePast (A : Nat → Gh) (K ub : Nat) (nw : Nat) (ps : Nat → Off) (mg : Nat → Int32) : Prop := ∀ j, j < ub → gM (ps ((nw + 8 - j) % 8)) (A (K - 1 - j)) ∧ gH (oHa (ps ((nw + 8 - j) % 8))) (A 0) ∧ ∀ i, i < 2015 → mg (2015 * (ub - 1 - j) + i) = (A (K - 1 - j)).1 i
def eSave (hs : Int32) (L : Nat) (sl : Tab) (sv : Off) (mv : Nat → Int32) : Prop := hs = nI 0 ∨ ¬ hs = nI 0 ∧ sl.1 ≤ L ∧ ∃ A, Hs A sl.1 sl.2 ∧ gM sv (A sl.1) ∧ gH (oHa sv) (A 0) ∧ ∀ i, i < 2015 → mv i = (A sl.1).1 i
def eText (bf mi : Nat → Int32) (bn ty : Nat) (le ea : Int32) : Prop := bn = ty ∧ bn ≤ 103 ∧ bf = mi ∧ le = ea ∧ (ea = -nI 1 ∨ ∃ k, k ≤ 103 ∧ ea = nI k)
def Inv (L : Nat) (B : Bx) (o : Off) (M : Md) : Prop := match B, M with
  | (bf, bn, le, lr, nw, ub, hs, lg, sl, rp, sv, ps), (mf, mg, mv, mi, th, re, pm, iz, ty, ea, mr, mc, br, bc) => eText bf mi bn ty le ea ∧ lr = re ∧ hs = iz ∧ lg.1 ≤ L ∧ nw < 8 ∧ ub = pm ∧ ub ≤ 8 ∧ ub ≤ lg.1 ∧ eSave hs L sl sv mv ∧ ∃ A, Hs A lg.1 lg.2 ∧ gM o (A lg.1) ∧ gH (oHa o) (A 0) ∧ mf = (A lg.1).1 ∧ ePast A lg.1 ub nw ps mg
theorem repP_congr {w w' : Nat → Int32} {q q' : Off} (h : ∀ j, j < 7 → w j = w' j) (hp : repP w q q') : repP w' q q' := fun t0 b lg i n a hh g h1 h2 h3 h4 h5 h6 => hp t0 b lg i n a hh g h1 h2 h3 h4 h5 (fun j hj => (h6 j hj).trans (h j hj).symm)
theorem StpW_congr {w w' : Nat → Int32} {g g' : Gh} (h : ∀ j, j < 7 → w j = w' j) (hp : StpW w g g') : StpW w' g g' := fun q hq => by
  obtain ⟨q', a, b, c⟩ := hp q hq
  exact ⟨q', a, b, repP_congr h c⟩
theorem sgA_in {n j : Nat} {v f : Nat → Int32} (h : j < n) : sgA n v f j = v j := by
  unfold sgA
  rw [if_pos h]
theorem hal_cpy {f : Nat → Int32} {R C : Nat} {ha ha' : Hal} (h : mHal ha' f R C) : mHal (sgA 96 ha'.1 ha.1, sgA 96 ha'.2.1 ha.2.1, ha'.2.2.1, ha'.2.2.2.1, ha'.2.2.2.2) f R C := by
  obtain ⟨m1, m2, m3, m5, m6⟩ := h
  refine ⟨m1, m2, m3, fun j hj => ?_, fun i hi hin => ?_⟩
  · show sgA 96 ha'.1 ha.1 j = nI (cN (sgA 96 ha'.1 ha.1 j)) ∧ cN (sgA 96 ha'.1 ha.1 j) ≤ 4
    rw [sgA_in hj]
    exact m5 j hj
  · show sgA 96 ha'.1 ha.1 i = _ ∧ sgA 96 ha'.2.1 ha.2.1 i = _
    rw [sgA_in hi, sgA_in hi]
    exact m6 i hi hin
theorem cpy_mat {o q : Off} {f : Nat → Int32} {N : Nat} {kf pf : Nat → Nat} {R C n mh m4 : Nat} (h : Mat q f N kf pf R C n mh m4) : Mat (cpyV o q) f N kf pf R C n mh m4 := by
  obtain ⟨p1, p2, p3, p4, p5, p6, p7, p8, p9, p10, p11, p12, p13⟩ := o
  obtain ⟨q1, q2, q3, q4, q5, q6, q7, q8, q9, q10, q11, q12, q13⟩ := q
  obtain ⟨a1, a2, a3, a4, a5, a6, a7, a8, a9, a10, a11, a12⟩ := h
  dsimp only [oHa, oPe, oSe, oHo, oTi, oPa, oAc, oPr, oTm, oFc, oRu, oMd] at a1 a2 a3 a4 a5 a6 a7 a8 a9 a10 a11 a12
  refine ⟨hal_cpy a1, ⟨a2.1, fun p hp => ?_⟩, fun j hj => ?_, ⟨a4.1, fun i hi => ?_⟩, ⟨a5.1, fun i hi => ?_⟩, ⟨a6.1, fun j hj => ?_⟩, fun c hc => ?_, fun j hj => ?_, a9, a10, a11, a12⟩
  · have := a2.1
    show sgA (q4.1 * 3) q4.2 p4.2 (p * 3) = _ ∧ sgA (q4.1 * 3) q4.2 p4.2 (p * 3 + 1) = _ ∧ sgA (q4.1 * 3) q4.2 p4.2 (p * 3 + 2) = _
    rw [sgA_in (by omega), sgA_in (by omega), sgA_in (by omega)]
    exact a2.2 p hp
  · show sgA 576 q3.1 p3.1 j = _ ∧ sgA 576 q3.2 p3.2 j = _
    rw [sgA_in hj, sgA_in hj]
    exact a3 j hj
  · have := a4.1
    obtain ⟨b1, b2⟩ := a4.2 i hi
    refine ⟨?_, fun k hk => ?_⟩
    · show sgA (q5.1 * 7) q5.2 p5.2 (i * 7 + 6) = _
      rw [sgA_in (by omega)]
      exact b1
    · show sgA (q5.1 * 7) q5.2 p5.2 (i * 7 + k) = _
      rw [sgA_in (by omega)]
      exact b2 k hk
  · have := a5.1
    show sgA (q6.1 * 7) q6.2 p6.2 (i * 7) = _ ∧ sgA (q6.1 * 7) q6.2 p6.2 (i * 7 + 1) = _ ∧ sgA (q6.1 * 7) q6.2 p6.2 (i * 7 + 2) = _ ∧ sgA (q6.1 * 7) q6.2 p6.2 (i * 7 + 3) = _ ∧ sgA (q6.1 * 7) q6.2 p6.2 (i * 7 + 4) = _ ∧ sgA (q6.1 * 7) q6.2 p6.2 (i * 7 + 5) = _ ∧ sgA (q6.1 * 7) q6.2 p6.2 (i * 7 + 6) = _
    rw [sgA_in (by omega), sgA_in (by omega), sgA_in (by omega), sgA_in (by omega), sgA_in (by omega), sgA_in (by omega), sgA_in (by omega)]
    exact a5.2 i hi
  · have := a6.1
    show sgA (q7.1 * 3) q7.2 p7.2 j = _
    rw [sgA_in (by omega)]
    exact a6.2 j hj
  · show sgA 10 q8 p8 c = _
    rw [sgA_in hc]
    exact a7 c hc
  · show sgA 4 q9 p9 j = _
    rw [sgA_in hj]
    exact a8 j hj
theorem gM_cpy {o q : Off} {g : Gh} (h : gM q g) : gM (cpyV o q) g := by
  obtain ⟨f, N, kf, pf, R, C, n, mh, m, m4, D⟩ := g
  exact cpy_mat h
theorem gH_cpy {o q : Off} {g : Gh} (h : gH (oHa q) g) : gH (oHa (cpyV o q)) g := by
  obtain ⟨f, N, kf, pf, R, C, n, mh, m, m4, D⟩ := g
  obtain ⟨p1, p2, p3, p4, p5, p6, p7, p8, p9, p10, p11, p12, p13⟩ := o
  obtain ⟨q1, q2, q3, q4, q5, q6, q7, q8, q9, q10, q11, q12, q13⟩ := q
  exact hal_cpy h
theorem gW_z {g : Gh} {K : Nat} (h : gW g K) : zOut g.1 := by
  obtain ⟨f, N, kf, pf, R, C, n, mh, m, m4, D⟩ := g
  exact h.2.2.2.2.2.2.2.2.2
theorem gM_okO {o : Off} {g : Gh} {K : Nat} (h1 : gW g K) (h2 : gM o g) : okO o := by
  obtain ⟨f, N, kf, pf, R, C, n, mh, m, m4, D⟩ := g
  have hN := N_le h1
  have hm := h1.2.2.2.2.2.2.1.2.1
  exact mat_okO h1 h2 (by omega)
section INVS
variable {L : Nat} {bf : Nat → Int32} {bn nw ub : Nat} {le lr hs : Int32} {lg sl : Tab} {rp sv : Off} {ps : Nat → Off} {o o1 o' : Off} {mf mg mv mi : Nat → Int32} {th re iz ea mr mc br bc : Int32} {pm ty : Nat}
/-- what may change freely -/
theorem inv_free {o' : Off} {rp' : Off} {th' mr' mc' br' bc' x : Int32} (h : Inv L (bf, bn, le, lr, nw, ub, hs, lg, sl, rp, sv, ps) o (mf, mg, mv, mi, th, re, pm, iz, ty, ea, mr, mc, br, bc)) (ho : oHa o' = oHa o) (hM : ∀ g, gM o g → gM o' g) : Inv L (bf, bn, le, x, nw, ub, hs, lg, sl, rp', sv, ps) o' (mf, mg, mv, mi, th', x, pm, iz, ty, ea, mr', mc', br', bc') := by
  obtain ⟨h1, h2, h3, h4, h5, h6, h7, h8, h9, A, a1, a2, a3, a4, a5⟩ := h
  exact ⟨h1, rfl, h3, h4, h5, h6, h7, h8, h9, A, a1, hM _ a2, by rw [ho]; exact a3, a4, a5⟩
theorem inv_up {L' : Nat} (h : Inv L (bf, bn, le, lr, nw, ub, hs, lg, sl, rp, sv, ps) o (mf, mg, mv, mi, th, re, pm, iz, ty, ea, mr, mc, br, bc)) (hL : L ≤ L') : Inv L' (bf, bn, le, lr, nw, ub, hs, lg, sl, rp, sv, ps) o (mf, mg, mv, mi, th, re, pm, iz, ty, ea, mr, mc, br, bc) := by
  obtain ⟨h1, h2, h3, h4, h5, h6, h7, h8, h9, A, a1, a2, a3, a4, a5⟩ := h
  refine ⟨h1, h2, h3, by omega, h5, h6, h7, h8, ?_, A, a1, a2, a3, a4, a5⟩
  rcases h9 with h | ⟨h, h', r⟩
  · exact Or.inl h
  · exact Or.inr ⟨h, by omega, r⟩
theorem gM_z {g : Gh} {K : Nat} (h : gW g K) : ∀ j, 2015 ≤ j → g.1 j = nI 0 := gW_z h
theorem cmg_top {f g : Nat → Int32} {ub i : Nat} (h : ub ≤ 8) (hi : i < 2015) : cmG f g ub (2015 * (cmP ub - 1) + i) = f i := by
  unfold cmG cmP
  by_cases q : ub = 8
  · rw [if_pos q, if_pos q]
    unfold segA
    rw [if_pos (by omega)]
    exact congrArg f (by omega)
  · rw [if_neg q, if_neg q]
    unfold segA
    rw [if_pos (by omega)]
    exact congrArg f (by omega)
theorem cmg_old {f g : Nat → Int32} {ub i j : Nat} (h : ub ≤ 8) (hi : i < 2015) (h1 : 1 ≤ j) (h2 : j < cmP ub) : cmG f g ub (2015 * (cmP ub - 1 - j) + i) = g (2015 * (ub - 1 - (j - 1)) + i) := by
  unfold cmG cmP at *
  by_cases q : ub = 8
  · rw [if_pos q] at h2 ⊢
    rw [if_pos q]
    have b : 2015 * (8 - 1 - j) + i < 14105 := by omega
    unfold segA
    rw [if_neg (by omega)]
    unfold shV
    rw [if_pos (by omega)]
    exact congrArg g (by omega)
  · rw [if_neg q] at h2 ⊢
    rw [if_neg q]
    unfold segA
    rw [if_neg (by omega)]
    exact congrArg g (by omega)
theorem cmP_min {ub : Nat} (h : ub ≤ 8) : min (ub + 1) 8 = cmP ub := by
  unfold cmP
  split <;> omega
theorem updP_at {ps : Nat → Off} {k : Nat} {q : Off} : updP ps k q k = q := by
  unfold updP
  rw [if_pos rfl]
theorem updP_ne {ps : Nat → Off} {k j : Nat} {q : Off} (h : j ≠ k) : updP ps k q j = ps j := by
  unfold updP
  rw [if_neg h]
/-- a command done -/
theorem inv_core {A : Nat → Gh} {x0 x1 x2 x3 x4 x5 x6 th' br' bc' : Int32} {mf' : Nat → Int32} (h : eText bf mi bn ty le ea ∧ lr = re ∧ hs = iz ∧ lg.1 ≤ L ∧ nw < 8 ∧ ub = pm ∧ ub ≤ 8 ∧ ub ≤ lg.1 ∧ eSave hs L sl sv mv ∧ Hs A lg.1 lg.2 ∧ gM o (A lg.1) ∧ gH (oHa o) (A 0) ∧ mf = (A lg.1).1 ∧ ePast A lg.1 ub nw ps mg) (ho1 : oHa o1 = oHa o) (hM1 : ∀ g, gM o g → gM o1 g) (hc : ∃ g', gW g' (lg.1 + 1) ∧ gM o' g' ∧ oHa o' = oHa o ∧ mf' = g'.1 ∧ ∀ w, (w 0 = x0 ∧ w 1 = x1 ∧ w 2 = x2 ∧ w 3 = x3 ∧ w 4 = x4 ∧ w 5 = x5 ∧ w 6 = x6) → StpW w (A lg.1) g') : Inv (L + 1) (remB (bf, bn, le, lr, nw, ub, hs, lg, sl, rp, sv, ps) o1 x0 x1 x2 x3 x4 x5 x6) o' (mf', cmG mf mg pm, mv, mi, th', re, cmP pm, iz, ty, ea, mr, mc, br', bc') := by
  obtain ⟨h1, h2, h3, h4, h5, h6, h7, h8, h9, a1, a2, a3, a4, a5⟩ := h
  obtain ⟨g', g1, g2, g3, g4, g5⟩ := hc
  obtain ⟨s1, s2, s3⟩ := a1
  have hub := cmP_min h7
  have hpu : cmP pm = cmP ub := by rw [h6]
  have hcp : cmP ub ≤ 8 := by rw [← hub]; omega
  have hcp1 : 1 ≤ cmP ub := by rw [← hub]; omega
  have hcl : cmP ub ≤ ub + 1 := by rw [← hub]; omega
  refine ⟨h1, h2, h3, by show lg.1 + 1 ≤ L + 1; omega, by omega, by show min (ub + 1) 8 = cmP pm; rw [hub, hpu], by show min (ub + 1) 8 ≤ 8; omega, by show min (ub + 1) 8 ≤ lg.1 + 1; omega, ?_, fun i => if i ≤ lg.1 then A i else g', ⟨fun i hi => ?_, fun i hi => ?_, ?_⟩, ?_, ?_, ?_, ?_⟩
  · rcases h9 with h | ⟨h, h', r⟩
    · exact Or.inl h
    · exact Or.inr ⟨h, by omega, r⟩
  · dsimp only at hi ⊢
    by_cases q : i ≤ lg.1
    · rw [if_pos q]
      exact s1 i q
    · rw [if_neg q, show i = lg.1 + 1 by omega]
      exact g1
  · dsimp only at hi ⊢
    rw [if_pos (show i ≤ lg.1 by omega)]
    by_cases q : i < lg.1
    · rw [if_pos (show i + 1 ≤ lg.1 by omega)]
      refine StpW_congr (fun j hj => ?_) (s2 i q)
      rw [rowH_n (by omega)]
    · have e : i = lg.1 := by omega
      subst e
      rw [if_neg (by omega)]
      refine g5 _ ⟨?_, rowH_1, rowH_2, rowH_3, rowH_4, rowH_5, rowH_6⟩
      rw [Nat.add_zero]
      exact rowH_0
  · dsimp only
    rw [if_pos (Nat.zero_le _)]
    exact s3
  · dsimp only
    rw [if_neg (show ¬ lg.1 + 1 ≤ lg.1 by omega)]
    exact g2
  · dsimp only
    rw [if_pos (Nat.zero_le _), g3]
    exact a3
  · dsimp only
    rw [if_neg (show ¬ lg.1 + 1 ≤ lg.1 by omega)]
    exact g4
  · intro j hj
    dsimp only at hj ⊢
    rw [hub] at hj ⊢
    rw [if_pos (show lg.1 + 1 - 1 - j ≤ lg.1 by omega), if_pos (Nat.zero_le _)]
    by_cases q : j = 0
    · subst q
      have e : ((nw + 1) % 8 + 8 - 0) % 8 = (nw + 1) % 8 := by omega
      rw [e, updP_at, show lg.1 + 1 - 1 - 0 = lg.1 by omega]
      refine ⟨gM_cpy (hM1 _ a2), gH_cpy (by rw [ho1]; exact a3), fun i hi => ?_⟩
      rw [Nat.sub_zero, h6.symm, cmg_top h7 hi, a4]
    · obtain ⟨b1, b2, b3⟩ := a5 (j - 1) (by omega)
      have e : ((nw + 1) % 8 + 8 - j) % 8 = (nw + 8 - (j - 1)) % 8 := by omega
      rw [e, updP_ne (by omega), show lg.1 + 1 - 1 - j = lg.1 - 1 - (j - 1) by omega]
      refine ⟨b1, b2, fun i hi => ?_⟩
      rw [h6.symm, cmg_old h7 hi (by omega) hj]
      exact b3 i hi
/-- a command done -/
theorem inv_cmd {x0 x1 x2 x3 x4 x5 x6 th' br' bc' : Int32} {mf' : Nat → Int32} (h : Inv L (bf, bn, le, lr, nw, ub, hs, lg, sl, rp, sv, ps) o (mf, mg, mv, mi, th, re, pm, iz, ty, ea, mr, mc, br, bc)) (ho1 : oHa o1 = oHa o) (hM1 : ∀ g, gM o g → gM o1 g) (hc : ∀ A, Hs A lg.1 lg.2 → gM o (A lg.1) → mf = (A lg.1).1 → ∃ g', gW g' (lg.1 + 1) ∧ gM o' g' ∧ oHa o' = oHa o ∧ mf' = g'.1 ∧ ∀ w, (w 0 = x0 ∧ w 1 = x1 ∧ w 2 = x2 ∧ w 3 = x3 ∧ w 4 = x4 ∧ w 5 = x5 ∧ w 6 = x6) → StpW w (A lg.1) g') : Inv (L + 1) (remB (bf, bn, le, lr, nw, ub, hs, lg, sl, rp, sv, ps) o1 x0 x1 x2 x3 x4 x5 x6) o' (mf', cmG mf mg pm, mv, mi, th', re, cmP pm, iz, ty, ea, mr, mc, br', bc') := by
  obtain ⟨h1, h2, h3, h4, h5, h6, h7, h8, h9, A, a1, a2, a3, a4, a5⟩ := h
  exact inv_core ⟨h1, h2, h3, h4, h5, h6, h7, h8, h9, a1, a2, a3, a4, a5⟩ ho1 hM1 (hc A a1 a2 a4)
theorem sg_all {f g mf : Nat → Int32} (h1 : ∀ i, i < 2015 → f i = g i) (h2 : zOut mf) (h3 : zOut g) : sgA 2015 f mf = g := by
  funext j
  unfold sgA
  by_cases q : j < 2015
  · rw [if_pos q]
    exact h1 j q
  · rw [if_neg q, h2 j (by omega), h3 j (by omega)]
/-- back by one -/
theorem inv_undo {th' : Int32} (h : Inv L (bf, bn, le, lr, nw, ub, hs, lg, sl, rp, sv, ps) o (mf, mg, mv, mi, th, re, pm, iz, ty, ea, mr, mc, br, bc)) (hu : 1 ≤ ub) : okO (ps nw) ∧ Inv L (bf, bn, le, lr, (nw + 7) % 8, ub - 1, hs, remV 7 lg (lg.1 - 1), sl, rp, sv, ps) (cpyV o (ps nw)) (sgA 2015 (fun k => mg (2015 * (pm - 1) + k)) mf, mg, mv, mi, th', re, pm - 1, iz, ty, ea, mr, mc, br, bc) := by
  obtain ⟨h1, h2, h3, h4, h5, h6, h7, h8, h9, A, ⟨s1, s2, s3⟩, a2, a3, a4, a5⟩ := h
  obtain ⟨b1, b2, b3⟩ := a5 0 (by omega)
  have e : (nw + 8 - 0) % 8 = nw := by omega
  rw [e] at b1 b2
  rw [Nat.sub_zero] at b1
  simp only [Nat.sub_zero] at b3
  have hk : (remV 7 lg (lg.1 - 1)).1 = lg.1 - 1 := rfl
  have hrow : ∀ i j, i < lg.1 - 1 → j < 7 → (remV 7 lg (lg.1 - 1)).2 (i * 7 + j) = lg.2 (i * 7 + j) := fun i j hi hj => by
    rw [rem_row (by omega) (by omega) hj]
    unfold skp
    rw [if_pos (by omega)]
  refine ⟨gM_okO (s1 _ (by omega)) b1, h1, h2, h3, by show lg.1 - 1 ≤ L; omega, by omega, by rw [h6], by omega, by show ub - 1 ≤ lg.1 - 1; omega, h9, A, ⟨fun i hi => s1 i (by rw [hk] at hi; omega), fun i hi => ?_, s3⟩, ?_, gH_cpy b2, ?_, fun j hj => ?_⟩
  · rw [hk] at hi
    exact StpW_congr (fun j hj => (hrow i j hi hj).symm) (s2 i (by omega))
  · rw [hk]
    exact gM_cpy b1
  · rw [hk, ← h6]
    exact sg_all b3 (by rw [a4]; exact gW_z (s1 _ (Nat.le_refl _))) (gW_z (s1 _ (by omega)))
  · obtain ⟨c1, c2, c3⟩ := a5 (j + 1) (by omega)
    have e : ((nw + 7) % 8 + 8 - j) % 8 = (nw + 8 - (j + 1)) % 8 := by omega
    rw [e, hk, show lg.1 - 1 - 1 - j = lg.1 - 1 - (j + 1) by omega, show ub - 1 - 1 - j = ub - 1 - (j + 1) by omega]
    exact ⟨c1, c2, c3⟩
theorem inv_snap {th' : Int32} (h : Inv L (bf, bn, le, lr, nw, ub, hs, lg, sl, rp, sv, ps) o (mf, mg, mv, mi, th, re, pm, iz, ty, ea, mr, mc, br, bc)) : okO o ∧ Inv L (bf, bn, le, lr, nw, ub, nI 1, lg, (lg.1, sgA (lg.1 * 7) lg.2 sl.2), rp, cpyV sv o, ps) o (mf, mg, sgA 2015 mf mv, mi, th', re, pm, nI 1, ty, ea, mr, mc, br, bc) := by
  obtain ⟨h1, h2, h3, h4, h5, h6, h7, h8, h9, A, ⟨s1, s2, s3⟩, a2, a3, a4, a5⟩ := h
  refine ⟨gM_okO (s1 _ (Nat.le_refl _)) a2, h1, h2, rfl, h4, h5, h6, h7, h8, Or.inr ⟨by decide, h4, A, ⟨s1, fun i hi => ?_, s3⟩, gM_cpy a2, gH_cpy a3, fun i hi => ?_⟩, A, ⟨s1, s2, s3⟩, a2, a3, a4, a5⟩
  · dsimp only at hi ⊢
    refine StpW_congr (fun j hj => ?_) (s2 i hi)
    rw [sgA_in (by omega)]
  · rw [sgA_in hi, a4]
theorem inv_rest {th' : Int32} (h : Inv L (bf, bn, le, lr, nw, ub, hs, lg, sl, rp, sv, ps) o (mf, mg, mv, mi, th, re, pm, iz, ty, ea, mr, mc, br, bc)) (hz : ¬ hs = nI 0) : okO sv ∧ sl.1 ≤ L ∧ oTm sv = mv 8 ∧ Inv L (bf, bn, le, lr, nw, 0, hs, (sl.1, sgA (sl.1 * 7) sl.2 lg.2), sl, rp, sv, ps) (cpyV o sv) (sgA 2015 mv mf, mg, mv, mi, th', re, 0, iz, ty, ea, mr, mc, br, bc) := by
  obtain ⟨h1, h2, h3, h4, h5, h6, h7, h8, h9, A0, ⟨s1', _, _⟩, _, _, a4', _⟩ := h
  obtain ⟨_, hl, A, ⟨s1, s2, s3⟩, a2, a3, a4⟩ := h9.resolve_left hz
  refine ⟨gM_okO (s1 _ (Nat.le_refl _)) a2, hl, ?_, h1, h2, h3, hl, h5, rfl, by omega, by omega, Or.inr ⟨hz, hl, A, ⟨s1, s2, s3⟩, a2, a3, a4⟩, A, ⟨s1, fun i hi => ?_, s3⟩, gM_cpy a2, gH_cpy a3, ?_, fun j hj => absurd hj (by omega)⟩
  · rw [a4 8 (by decide)]
    generalize A sl.1 = g at a2
    obtain ⟨f, N, kf, pf, R, C, n, mh, m, m4, D⟩ := g
    exact a2.2.2.2.2.2.2.2.2.1
  · dsimp only at hi ⊢
    refine StpW_congr (fun j hj => ?_) (s2 i hi)
    rw [sgA_in (by omega)]
  · exact sg_all a4 (by rw [a4']; exact gW_z (s1' _ (Nat.le_refl _))) (gW_z (s1 _ (Nat.le_refl _)))
/-- started anew with a hall -/
theorem inv_anew {F : Nat → Int32} {R C : Nat} {D : Hal} {th' mr' mc' : Int32} {fi : Fnd} {se : Sea} {x1 x2 x3 x4 ac pr : Nat → Int32} (h : Inv L (bf, bn, le, lr, nw, ub, hs, lg, sl, rp, sv, ps) o (mf, mg, mv, mi, th, re, pm, iz, ty, ea, mr, mc, br, bc)) (ha : anQ F R C) (hw : wHal F R C) (hm : mHal D F R C) : Inv L (bf, 0, le, lr, nw, 0, hs, (0, lg.2), sl, rp, sv, ps) (D, fi, (fillV 576 (nI 4) se.1, fillV 576 (-nI 1) se.2), (0, x1), (0, x2), (0, x3), (0, x4), fillV 10 (nI 0) ac, sgA 4 xFP pr, nI 0, nI (D.2.2.1 / 2), nI 1, nI 0) (F, mg, mv, mi, th', re, 0, iz, 0, ea, mr', mc', br, bc) := by
  obtain ⟨h1, h2, h3, h4, h5, h6, h7, h8, h9, -⟩ := h
  have hR := hw.2.2.2.1
  refine ⟨⟨rfl, by omega, h1.2.2.1, h1.2.2.2.1, h1.2.2.2.2⟩, h2, h3, by show 0 ≤ L; omega, h5, rfl, by omega, by omega, h9, fun _ => (F, 0, fun _ => 0, fun _ => 0, R, C, 0, 0, 0, 0, 0), ⟨fun i hi => ?_, fun i hi => absurd (show i < 0 from hi) (by omega), ⟨F, _, _, R, C, rfl, ha, hw⟩⟩, an_mat ha hm (by omega), hm, rfl, fun j hj => absurd hj (by omega)⟩
  have : i = 0 := Nat.le_zero.mp hi
  subst this
  exact an_wf ha hw
end INVS
theorem inv_init : Inv 0 B0 (offF (firH offZ.1) offZ) modF := by
  obtain ⟨b1, b2, b3⟩ := fir_an
  refine ⟨⟨rfl, by omega, rfl, rfl, Or.inl rfl⟩, rfl, rfl, Nat.le_refl _, by decide, rfl, by decide, Nat.le_refl _, Or.inl rfl, fun _ => (firQ (fun _ => 0), 0, fun _ => 0, fun _ => 0, 3, 6, 0, 0, 0, 0, 0), ⟨fun i hi => ?_, fun i hi => absurd (show i < 0 from hi) (by omega), ⟨_, _, _, _, _, rfl, b1, b2⟩⟩, an_mat b1 b3 (by decide), b3, rfl, fun j hj => absurd hj (by omega)⟩
  have : i = 0 := Nat.le_zero.mp hi
  subst this
  exact an_wf b1 b2
