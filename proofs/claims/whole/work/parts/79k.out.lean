/-! a call on both sides: questions -/
theorem spl (u : Int32) (n : Nat) (hn : n < 2 ^ 31) : (∃ k, k < n ∧ u = nI k) ∨ (u < nI 0 ∨ nI n ≤ u) := by
  by_cases h : u < nI 0
  · exact Or.inr (Or.inl h)
  by_cases h2 : nI n ≤ u
  · exact Or.inr (Or.inr h2)
  left
  rw [Int32.lt_iff_toInt_lt, nI_toInt (by decide)] at h
  rw [Int32.le_iff_toInt_le, nI_toInt hn] at h2
  refine ⟨u.toInt.toNat, by omega, ?_⟩
  apply Int32.toInt_inj.mp
  rw [nI_toInt (by omega)]
  omega
theorem spl2 (u : Int32) (n : Nat) (hn : n < 2 ^ 31) : (∃ k, k ≤ n ∧ u = nI k) ∨ ((u < nI 0 ∨ nI n < u) ∧ (u.toInt < 0 ∨ n < u.toInt)) := by
  by_cases h : u < nI 0
  · refine Or.inr ⟨Or.inl h, Or.inl ?_⟩
    rw [Int32.lt_iff_toInt_lt, nI_toInt (by decide)] at h
    exact h
  by_cases h2 : nI n < u
  · refine Or.inr ⟨Or.inr h2, Or.inr ?_⟩
    rw [Int32.lt_iff_toInt_lt, nI_toInt hn] at h2
    exact h2
  left
  rw [Int32.lt_iff_toInt_lt, nI_toInt (by decide)] at h
  rw [Int32.lt_iff_toInt_lt, nI_toInt hn] at h2
  refine ⟨u.toInt.toNat, by omega, ?_⟩
  apply Int32.toInt_inj.mp
  rw [nI_toInt (by omega)]
  omega
def Outc (t0 x y L Mc Mr : Nat) (Es : List Nat) (B : Bx) (o : Off) (M : Md) (cs rs : List Value) (P : Value → Prop) : Prop := ∃ (B' : Bx) (o' : Off) (M' : Md) (v : Value), P v ∧ Inv (L + 1) B' o' M' ∧ (∀ (a : Nat × Bool) (h : xHp), CA (xPt t0) Mr (.ref y :: rs) a (putMod h y M) = some (.inl (some v), a, putMod h y M', 0, 0)) ∧ ((M'.2.2.2.2.1 = nI 0 ∧ ∀ (a : Nat × Bool) (h : xHp), t0 < x → h t0 = .inl (8, 4, .inl xFP) → CA (xPt t0) Mc (.ref x :: cs) a (putOff (bxr h x B) (x + 2) o) = some (.inl (some v), a, putOff (bxr h x B') (x + 2) o', 0, 0)) ∨ ∃ k E, Es[k]? = some E ∧ M'.2.2.2.2.1 = nI (k + 1) ∧ ∀ (a : Nat × Bool) (h : xHp), t0 < x → h t0 = .inl (8, 4, .inl xFP) → CA (xPt t0) Mc (.ref x :: cs) a (putOff (bxr h x B) (x + 2) o) = some (.inr E, (a.1, false), putOff (bxr h x B') (x + 2) o', 1, 6))
abbrev isI (v : Value) : Prop := ∃ u, v = .int u
section OUT
variable {t0 x y L : Nat} {bf : Nat → Int32} {bn nw ub : Nat} {le hs : Int32} {lg sl : Tab} {rp sv : Off} {ps : Nat → Off} {ha : Hal} {fi : Fnd} {se : Sea} {pe ho ti pa : Tab} {ac pr : Nat → Int32} {tm fc ru md : Int32} {mf mg mv mi : Nat → Int32} {th re iz ea mr mc br bc : Int32} {pm ty : Nat}
theorem inv_cur {B : Bx} {o : Off} (h : Inv L B o (mf, mg, mv, mi, th, re, pm, iz, ty, ea, mr, mc, br, bc)) : ∃ K N kf pf R C n mh m m4 D, K ≤ L ∧ WF mf N kf pf R C n mh m m4 K D ∧ Mat o mf N kf pf R C n mh m4 := by
  obtain ⟨bf, bn, le, lr, nw, ub, hs, lg, sl, rp, sv, ps⟩ := B
  obtain ⟨h1, h2, h3, h4, h5, h6, h7, h8, h9, A, a1, a2, a3, a4, a5⟩ := h
  have w := a1.1 _ (Nat.le_refl _)
  rw [a4]
  generalize A lg.1 = g at a2 w
  obtain ⟨f, N, kf, pf, R, C, n, mh, m, m4, D⟩ := g
  exact ⟨_, N, kf, pf, R, C, n, mh, m, m4, D, h4, w, a2⟩
theorem gM_fi {fi' : Fnd} (g : Gh) (h : gM (ha, fi, se, pe, ho, ti, pa, ac, pr, tm, fc, ru, md) g) : gM (ha, fi', se, pe, ho, ti, pa, ac, pr, tm, fc, ru, md) g := by
  obtain ⟨f, N, kf, pf, R, C, n, mh, m, m4, D⟩ := g
  exact h
/-- nothing changed but what is free -/
theorem inv_q {lr : Int32} (h : Inv L (bf, bn, le, lr, nw, ub, hs, lg, sl, rp, sv, ps) (ha, fi, se, pe, ho, ti, pa, ac, pr, tm, fc, ru, md) (mf, mg, mv, mi, th, re, pm, iz, ty, ea, mr, mc, br, bc)) {fi' : Fnd} {rp' : Off} {th' mr' mc' br' bc' z : Int32} : Inv (L + 1) (bf, bn, le, z, nw, ub, hs, lg, sl, rp', sv, ps) (ha, fi', se, pe, ho, ti, pa, ac, pr, tm, fc, ru, md) (mf, mg, mv, mi, th', z, pm, iz, ty, ea, mr', mc', br', bc') := inv_up (inv_free h rfl gM_fi) (Nat.le_succ _)
theorem q_place (h : Inv L (bf, bn, le, re, nw, ub, hs, lg, sl, rp, sv, ps) (ha, fi, se, pe, ho, ti, pa, ac, pr, tm, fc, ru, md) (mf, mg, mv, mi, th, re, pm, iz, ty, ea, mr, mc, br, bc)) {u v w : Int32} : Outc t0 x y L 87 166 [2, 1] (bf, bn, le, re, nw, ub, hs, lg, sl, rp, sv, ps) (ha, fi, se, pe, ho, ti, pa, ac, pr, tm, fc, ru, md) (mf, mg, mv, mi, th, re, pm, iz, ty, ea, mr, mc, br, bc) [.int u, .int v, .int w] [.int u, .int v, .int w] isI := by
  obtain ⟨K, N, kf, pf, R, C, n, mh, m, m4, D, hL, ⟨w1, w2, w3, w4, w5, w6, w7, w8, w9, w10⟩, ⟨a1, a2, a3, a4, a5, a6, a7, a8, a9, a10, a11, a12⟩⟩ := inv_cur h
  dsimp only [oHa, oPe, oSe, oHo, oTi, oPa, oAc, oPr, oTm, oFc, oRu, oMd] at a1 a2 a3 a4 a5 a6 a7 a8 a9 a10 a11 a12
  have hw1 := w1
  obtain ⟨g0, g1, hR1, hR, hC1, hC, hkn, hout⟩ := hw1
  have m1 := a1.1
  have m2 := a1.2.1
  by_cases hp : plJ R C u v
  · rcases spl u R (by omega) with ⟨r, hr, rfl⟩ | hu
    · rcases spl v C (by omega) with ⟨c, hc, rfl⟩ | hv
      · obtain ⟨e1, e2⟩ := place_eq w1 a1 hr hc
        rcases spl2 w 2 (by decide) with ⟨k, hk, rfl⟩ | ⟨hw, hw'⟩
        · rcases (show k = 0 ∨ k = 1 ∨ k = 2 by omega) with rfl | rfl | rfl
          · exact ⟨_, _, _, _, ⟨_, rfl⟩, inv_q h, fun a hh => n_place0_0 g0 g1 hr hc hR hC, Or.inl ⟨rfl, fun a hh _ _ => by rw [← e1]; exact b_place0_0 (by omega) (by omega) (by omega) (by omega)⟩⟩
          · exact ⟨_, _, _, _, ⟨_, rfl⟩, inv_q h, fun a hh => n_place0_1 g0 g1 hr hc hR hC, Or.inl ⟨rfl, fun a hh _ _ => (b_place0_1 (by omega) (by omega) (by omega) (by omega)).trans (by rw [e2]; rfl)⟩⟩
          · exact ⟨_, _, _, _, ⟨_, rfl⟩, inv_q h, fun a hh => n_place0_2 g0 g1 hr hc hR hC, Or.inl ⟨rfl, fun a hh _ _ => (b_place0_2 (by omega) (by omega) (by omega) (by omega) (by omega)).trans (by rw [m2, dst_eq a10 hC1])⟩⟩
        · exact ⟨_, _, _, _, ⟨_, rfl⟩, inv_q h, fun a hh => n_place2 g0 g1 hr hc hR hC hw, Or.inr ⟨1, 1, rfl, rfl, fun a hh _ _ => b_place2 (by omega) (by omega) (by omega) (by omega) hw'⟩⟩
      · exact absurd hv (fun z => z.elim hp.2.2.1 hp.2.2.2)
    · exact absurd hu (fun z => z.elim hp.1 hp.2.1)
  · exact ⟨_, _, _, _, ⟨_, rfl⟩, inv_q h, fun a hh => n_place1 g0 g1 hR1 hR hC1 hC hp, Or.inr ⟨0, 2, rfl, rfl, fun a hh _ _ => b_place1 (by unfold plIn; rw [m1, m2]; exact hp)⟩⟩
end OUT
