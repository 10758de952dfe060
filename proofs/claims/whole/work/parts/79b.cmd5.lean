/-! commands on both sides: confirm, the class' side -/
section PRIC
variable {f : Nat → Int32} {R C n : Nat} {ha : Hal} {pe : Tab} {pr : Nat → Int32} {r c s p : Nat}
theorem price_eq (hw : wHal f R C) (hh : mHal ha f R C) (hpr : mPri pr f) (hpe : mPer pe f n) (hp : p < n) (hb : wBlk f R C r c s) : prcV pr (pe.2 (p * 3 + 1)) ha.1 (r * 12 + c) s = poQ f p r c s := by
  obtain ⟨w0, w1, w2, w3, w4, w5, w6, w7⟩ := hw
  obtain ⟨m1, m2, m3, m5, m6⟩ := hh
  obtain ⟨b1, b2, b3, b4, b5⟩ := hb
  unfold prcV poQ
  refine fo_congr _ fun i z hi => ?_
  obtain ⟨k1, k2⟩ := w6 (12 * r + (c + i)) (by omega)
  have e0 : 43 + (12 * r + (c + i)) = 43 + 12 * r + (c + i) := by omega
  rw [e0] at k1 k2
  have hk := (m6 (r * 12 + c + i) (by omega) ⟨by omega, by omega⟩).1
  rw [show 43 + (r * 12 + c + i) = 43 + 12 * r + (c + i) by omega] at hk
  have hpos := (ct_pos k1 k2).mpr (b5 i hi)
  have hle := ctN_le (x := f (43 + 12 * r + (c + i)))
  rw [nI_ltI (by decide) (by omega)] at hpos
  unfold priV paQ
  rw [hk, cN_nI (by omega), if_pos (by omega), (hpe.2 p hp).2.1, hpr _ (by omega), show 2 + (ctN (f (43 + 12 * r + (c + i))) - 1) = 1 + ctN (f (43 + 12 * r + (c + i))) by omega]
end PRIC
section CON2
variable {f F : Nat → Int32} {N : Nat} {kf pf : Nat → Nat} {R C n mh m m4 K D : Nat} {S r c s cu : Nat} {v : Int32} {ha : Hal} {fi : Fnd} {se : Sea} {pe ho ti pa : Tab} {ac pr ca : Nat → Int32} {tm fc ru md : Int32}
theorem con_m (hr : r < 8) (hc : c + s ≤ 12) (hcu : cu < 10) (hm : m < 20) (h31 : wPay F m4) (hz : zOut F) (hS : S < 2 ^ n) (hti : ti.1 = N) (hpa : mPay pa F m4) (hac : mAcc ac F) (hpr : ∀ p, p < n → prcV pr (pe.2 (p * 3 + 1)) ca (r * 12 + c) s = poQ F p r c s) : ∀ p, p ≤ 6 → (selV pe pr ca S cu r c s v p (ti, pa, ac, nI 0)).1.1 = (ghQ S p N pf).1 ∧ (∀ j, j < N * 7 → (selV pe pr ca S cu r c s v p (ti, pa, ac, nI 0)).1.2 j = ti.2 j) ∧ (∀ i, N ≤ i → i < (ghQ S p N pf).1 → (selV pe pr ca S cu r c s v p (ti, pa, ac, nI 0)).1.2 (i * 7) = nI cu ∧ (selV pe pr ca S cu r c s v p (ti, pa, ac, nI 0)).1.2 (i * 7 + 1) = nI r ∧ (selV pe pr ca S cu r c s v p (ti, pa, ac, nI 0)).1.2 (i * 7 + 2) = nI c ∧ (selV pe pr ca S cu r c s v p (ti, pa, ac, nI 0)).1.2 (i * 7 + 3) = nI s ∧ (selV pe pr ca S cu r c s v p (ti, pa, ac, nI 0)).1.2 (i * 7 + 4) = (conQ S r c s cu v m p (F, nI 0)).1 (tAt m ((ghQ S p N pf).2 i) + 3) ∧ (selV pe pr ca S cu r c s v p (ti, pa, ac, nI 0)).1.2 (i * 7 + 5) = v ∧ (selV pe pr ca S cu r c s v p (ti, pa, ac, nI 0)).1.2 (i * 7 + 6) = nI ((ghQ S p N pf).2 i)) ∧ mPay (selV pe pr ca S cu r c s v p (ti, pa, ac, nI 0)).2.1 (conQ S r c s cu v m p (F, nI 0)).1 (cN ((conQ S r c s cu v m p (F, nI 0)).1 31)) ∧ mAcc (selV pe pr ca S cu r c s v p (ti, pa, ac, nI 0)).2.2.1 (conQ S r c s cu v m p (F, nI 0)).1 ∧ (selV pe pr ca S cu r c s v p (ti, pa, ac, nI 0)).2.2.2 = (conQ S r c s cu v m p (F, nI 0)).2 := by
  intro p
  induction p with
  | zero =>
    intro _
    refine ⟨hti, fun j _ => rfl, fun i h1 h2 => absurd h2 (by show ¬ i < N; omega), ?_, hac, rfl⟩
    show mPay pa F (cN (F 31))
    rw [h31.1, cN_nI (by have := h31.2; omega)]
    exact hpa
  | succ p ih =>
    intro hp
    obtain ⟨i1, i2, i3, i4, i5, i6⟩ := ih (by omega)
    obtain ⟨g1, g2, g3, g4, g5, g6⟩ := gh_inv (S := S) (N := N) (pf := pf) p
    obtain ⟨inv, -⟩ := con_inv (S := S) (r := r) (c := c) (s := s) (cu := cu) (k := m) (num := v) (z := nI 0) (f := F) hr hc hcu hm h31.1 h31.2 p (by omega)
    obtain ⟨c1, c2, c3, c4, c5⟩ := con_w (N := N) (pf := pf) (S := S) (r := r) (c := c) (s := s) (cu := cu) (m := m) (v := v) (F := F) hr hc hcu hm h31 hz p (by omega)
    show (selS pe pr ca S cu r c s v p (selV pe pr ca S cu r c s v p (ti, pa, ac, nI 0))).1.1 = (ghS S p (ghQ S p N pf)).1 ∧ (∀ j, j < N * 7 → (selS pe pr ca S cu r c s v p (selV pe pr ca S cu r c s v p (ti, pa, ac, nI 0))).1.2 j = ti.2 j) ∧ (∀ i, N ≤ i → i < (ghS S p (ghQ S p N pf)).1 → (selS pe pr ca S cu r c s v p (selV pe pr ca S cu r c s v p (ti, pa, ac, nI 0))).1.2 (i * 7) = nI cu ∧ (selS pe pr ca S cu r c s v p (selV pe pr ca S cu r c s v p (ti, pa, ac, nI 0))).1.2 (i * 7 + 1) = nI r ∧ (selS pe pr ca S cu r c s v p (selV pe pr ca S cu r c s v p (ti, pa, ac, nI 0))).1.2 (i * 7 + 2) = nI c ∧ (selS pe pr ca S cu r c s v p (selV pe pr ca S cu r c s v p (ti, pa, ac, nI 0))).1.2 (i * 7 + 3) = nI s ∧ (selS pe pr ca S cu r c s v p (selV pe pr ca S cu r c s v p (ti, pa, ac, nI 0))).1.2 (i * 7 + 4) = (conS S r c s cu v m p (conQ S r c s cu v m p (F, nI 0))).1 (tAt m ((ghS S p (ghQ S p N pf)).2 i) + 3) ∧ (selS pe pr ca S cu r c s v p (selV pe pr ca S cu r c s v p (ti, pa, ac, nI 0))).1.2 (i * 7 + 5) = v ∧ (selS pe pr ca S cu r c s v p (selV pe pr ca S cu r c s v p (ti, pa, ac, nI 0))).1.2 (i * 7 + 6) = nI ((ghS S p (ghQ S p N pf)).2 i)) ∧ mPay (selS pe pr ca S cu r c s v p (selV pe pr ca S cu r c s v p (ti, pa, ac, nI 0))).2.1 (conS S r c s cu v m p (conQ S r c s cu v m p (F, nI 0))).1 (cN ((conS S r c s cu v m p (conQ S r c s cu v m p (F, nI 0))).1 31)) ∧ mAcc (selS pe pr ca S cu r c s v p (selV pe pr ca S cu r c s v p (ti, pa, ac, nI 0))).2.2.1 (conS S r c s cu v m p (conQ S r c s cu v m p (F, nI 0))).1 ∧ (selS pe pr ca S cu r c s v p (selV pe pr ca S cu r c s v p (ti, pa, ac, nI 0))).2.2.2 = (conS S r c s cu v m p (conQ S r c s cu v m p (F, nI 0))).2
    generalize conQ S r c s cu v m p (F, nI 0) = q at inv c1 c2 c3 c4 c5 i3 i4 i5 i6
    generalize ghQ S p N pf = gh at c1 i1 i3 g1 g2 g3 g4 g5 g6
    generalize selV pe pr ca S cu r c s v p (ti, pa, ac, nI 0) = Q at i1 i2 i3 i4 i5 i6
    unfold conS ghS selS
    by_cases hb : S.testBit p = true
    · rw [if_pos hb, if_pos hb, if_pos hb]
      dsimp only
      have hpn := bit_lt hS hb
      rw [hpr p hpn, agr_po (f := F) (F := q.1) (fun j u => inv j (by omega)) (fun j u1 u2 => inv j (by omega)) (by omega) hr hc]
      generalize amtV S (poQ F p r c s) = am
      have q31 : pbQ p (12 * r + c) s (nI 2) v (putTQ q.1 m p (nI r) (nI c) (nI s) am) 31 = nI (cN (q.1 31)) := by
        rw [pbQ_out (by omega) (by omega) (by omega), putTQ_out (by omega)]
        exact c3.1
      have hP : wPay (pbQ p (12 * r + c) s (nI 2) v (putTQ q.1 m p (nI r) (nI c) (nI s) am)) (cN (q.1 31)) := ⟨q31, c3.2⟩
      have tk : ∀ p', p' < 6 → ∀ e, e < 4 → payQ (pbQ p (12 * r + c) s (nI 2) v (putTQ q.1 m p (nI r) (nI c) (nI s) am)) 1 cu am (tAt m p' + e) = putTQ q.1 m p (nI r) (nI c) (nI s) am (tAt m p' + e) := by
        intro p' hp' e he
        have h1 : 1375 ≤ tAt m p' + e ∧ tAt m p' + e < 1895 := by unfold tAt; omega
        rw [payQ_lo hcu (by omega), pbQ_out (by omega) (by omega) (by omega)]
      refine ⟨by omega, fun j hj => ?_, fun i h1 h2 => ?_, ?_, ?_, by rw [i6]⟩
      · rw [rowH_n (by omega)]
        exact i2 j hj
      · rw [i1]
        by_cases e : i = gh.1
        · subst e
          rw [if_pos rfl]
          exact ⟨rowH_0, rowH_1, rowH_2, rowH_3, rowH_4.trans ((tk p (by omega) 3 (by decide)).trans putTQ_at.2.2.2).symm, rowH_5, rowH_6⟩
        · rw [if_neg e]
          have hlt := (g4 i h1 (by omega)).1
          obtain ⟨a0, a1, a2, a3, a4, a5, a6⟩ := i3 i h1 (by omega)
          refine ⟨?_, ?_, ?_, ?_, ?_, ?_, ?_⟩
          · rw [rowH_n (by omega)]; exact a0
          · rw [rowH_n (by omega)]; exact a1
          · rw [rowH_n (by omega)]; exact a2
          · rw [rowH_n (by omega)]; exact a3
          · rw [rowH_n (by omega), tk (gh.2 i) (by omega) 3 (by decide), putTQ_ne (by omega) (by omega) (Or.inr (by omega)) (by decide)]; exact a4
          · rw [rowH_n (by omega)]; exact a5
          · rw [rowH_n (by omega)]; exact a6
      · rw [payQ_31, cN_nI (by have := payE_le hP.1 hP.2; omega)]
        refine pay_mP hP hcu ⟨i4.1, fun j hj => ?_⟩
        have := c3.2
        rw [pbQ_out (by omega) (by omega) (by omega), putTQ_out (by omega)]
        exact i4.2 j hj
      · refine pay_mA hcu fun c2 hc2 => ?_
        rw [pbQ_out (by omega) (by omega) (by omega), putTQ_out (by omega)]
        exact i5 c2 hc2
    · rw [if_neg hb, if_neg hb, if_neg hb]
      dsimp only
      refine ⟨i1, i2, fun i h1 h2 => ?_, ?_, fun c2 hc2 => ?_, i6⟩
      · obtain ⟨a0, a1, a2, a3, a4, a5, a6⟩ := i3 i h1 h2
        have hlt := (g4 i h1 h2).1
        exact ⟨a0, a1, a2, a3, by rw [putTQ_ne (by omega) (by omega) (Or.inr (by omega)) (by decide)]; exact a4, a5, a6⟩
      · have e31 : putTQ q.1 m p (nI r) (nI c) (nI 0) (nI 0) 31 = q.1 31 := putTQ_out (by omega)
        rw [e31]
        refine ⟨i4.1, fun j hj => ?_⟩
        have := c3.2
        rw [putTQ_out (by omega)]
        exact i4.2 j hj
      · rw [putTQ_out (by omega)]
        exact i5 c2 hc2
theorem sel_n6 (hS : S < 2 ^ n) (hn : n ≤ 6) {q : Q4} : selV pe pr ca S cu r c s v 6 q = selV pe pr ca S cu r c s v n q := by
  have key : ∀ k, selV pe pr ca S cu r c s v (n + k) q = selV pe pr ca S cu r c s v n q := by
    intro k
    induction k with
    | zero => rfl
    | succ k ih =>
      show selS pe pr ca S cu r c s v (n + k) (selV pe pr ca S cu r c s v (n + k) q) = _
      rw [ih]
      unfold selS
      rw [if_neg (fun z => by have := bit_lt hS z; omega)]
  have := key (6 - n)
  rwa [show n + (6 - n) = 6 by omega] at this
theorem conf_mat (hw : WF f N kf pf R C n mh m m4 K D) (hmt : Mat (ha, fi, se, pe, ho, ti, pa, ac, pr, tm, fc, ru, md) f N kf pf R C n mh m4) {i0 : Nat} (hi0 : i0 < mh) (hm : m < 20) (hv : f (1291 + 7 * i0) = v) (hcu : cu < 10) (hS : S < 2 ^ n) (hb : wBlk f R C r c s) (g2 : f (1291 + 7 * i0 + 2) = nI S) (g3 : f (1291 + 7 * i0 + 3) = nI r) (g4 : f (1291 + 7 * i0 + 4) = nI c) (g5 : f (1291 + 7 * i0 + 5) = nI s) : Mat (ha, fi, mrkV ho.2 i0 (nI 2) v se, pe, remV 7 ho i0, (selV pe pr ha.1 S cu r c s v pe.1 (ti, pa, ac, nI 0)).1, (selV pe pr ha.1 S cu r c s v pe.1 (ti, pa, ac, nI 0)).2.1, (selV pe pr ha.1 S cu r c s v pe.1 (ti, pa, ac, nI 0)).2.2.1, pr, tm, fc, ru, md) (drhQ mh i0 (conG f S r c s cu m v)) (ghQ S 6 N pf).1 (kfC kf N m) (ghQ S 6 N pf).2 R C n (mh - 1) (cN (conG f S r c s cu m v 31)) ∧ (selV pe pr ha.1 S cu r c s v pe.1 (ti, pa, ac, nI 0)).2.2.2 = (conQ S r c s cu v m 6 (conF f m cu v, nI 0)).2 := by
  obtain ⟨w1, w2, w3, w4, w5, w6, w7, w8, w9, w10⟩ := hw
  obtain ⟨a1, a2, a3, a4, a5, a6, a7, a8, a9, a10, a11, a12⟩ := hmt
  dsimp only [oHa, oPe, oSe, oHo, oTi, oPa, oAc, oPr] at a1 a2 a3 a4 a5 a6 a7 a8
  have hR := w1.2.2.2.1
  have hC := w1.2.2.2.2.2.1
  have hn := w2.2.1
  have hmh := w6.2.1
  have hr : r < R := hb.1
  have hc : c + s ≤ C := hb.2.2.2.1
  have h64 := (sh7_fact n (by omega)).2
  have fA : ∀ j, j ≠ 30 → j ≠ 32 → (j < 1375 + 26 * m ∨ 1375 + 26 * m + 2 ≤ j) → conF f m cu v j = f j := fun j h1 h2 h3 => by unfold conF; rw [upd_ne (by omega), upd_ne (by omega), upd_ne h1, upd_ne h2]
  have fw : wPay (conF f m cu v) m4 := ⟨(fA 31 (by decide) (by decide) (by omega)).trans w9.1, w9.2⟩
  have fz : zOut (conF f m cu v) := fun j hj => (fA j (by omega) (by omega) (by omega)).trans (w10 j hj)
  have hpr : ∀ p, p < n → prcV pr (pe.2 (p * 3 + 1)) ha.1 (r * 12 + c) s = poQ (conF f m cu v) p r c s := fun p hp => by
    rw [agr_po (f := f) (F := conF f m cu v) (fun j u => fA j (by omega) (by omega) (by omega)) (fun j u1 u2 => fA j (by omega) (by omega) (by omega)) (by omega) (by omega) (by omega)]
    exact price_eq w1 a1 a8 a2 hp hb
  obtain ⟨inv, -⟩ := con_inv (S := S) (r := r) (c := c) (s := s) (cu := cu) (k := m) (num := v) (z := nI 0) (f := conF f m cu v) (by omega) (by omega) hcu hm fw.1 fw.2 6 (by decide)
  obtain ⟨c1, c2, c3, c4, c5⟩ := con_w (N := N) (pf := pf) (S := S) (r := r) (c := c) (s := s) (cu := cu) (m := m) (v := v) (F := conF f m cu v) (by omega) (by omega) hcu hm fw fz 6 (by decide)
  obtain ⟨d1, d2, d3, d4, d5, d6⟩ := con_m (N := N) (pf := pf) (S := S) (r := r) (c := c) (s := s) (cu := cu) (m := m) (v := v) (F := conF f m cu v) (ti := ti) (pa := pa) (ac := ac) (pe := pe) (pr := pr) (ca := ha.1) (by omega) (by omega) hcu hm fw fz hS a5.1 (mPay_fr fw.2 (fun j u1 u2 => fA j (by omega) (by omega) (by omega)) a6) (mAcc_fr (fun j u1 u2 => fA j (by omega) (by omega) (by omega)) a7) hpr 6 (by decide)
  obtain ⟨h1, h2, h3, h4, h5, h6⟩ := gh_inv (S := S) (N := N) (pf := pf) 6
  rw [sel_n6 hS hn, ← a2.1] at d1 d2 d3 d4 d5 d6
  refine ⟨?_, d6⟩
  unfold conG
  generalize (conQ S r c s cu v m 6 (conF f m cu v, nI 0)).1 = G at inv c1 c2 c3 c4 c5 d3 d4 d5
  generalize ghQ S 6 N pf = gh at c1 h1 h2 h3 h4 h5 h6 d1 d3
  generalize selV pe pr ha.1 S cu r c s v pe.1 (ti, pa, ac, nI 0) = Q at d1 d2 d3 d4 d5 d6
  rw [pnt_n6 hS hn] at c4
  have gA : ∀ j, j ≠ 30 → j ≠ 32 → (j < 31 ∨ (43 ≤ j ∧ j < 139) ∨ (1291 ≤ j ∧ j < 1375 + 26 * m) ∨ (1375 + 26 * m + 26 ≤ j ∧ j < 1895)) → G j = f j := fun j a1 a2 a3 => (inv j (by omega)).trans (fA j a1 a2 (by omega))
  have lo : ∀ j, j ≠ 29 → (j < 1291 ∨ 1375 ≤ j) → drhQ mh i0 G j = G j := fun j a1 a2 => drhQ_out hmh a1 a2
  have k43 : agr f (drhQ mh i0 G) 43 139 := fun j a1 a2 => (lo j (by omega) (by omega)).trans (gA j (by omega) (by omega) (by omega))
  have row : ∀ j k, j < mh - 1 → k < 7 → drhQ mh i0 G (1291 + 7 * j + k) = f (1291 + 7 * skp i0 j + k) := fun j k hj hk => by
    have := skp_lt hi0 hj
    rw [drh_row hmh hi0 hj hk]
    exact gA _ (by omega) (by omega) (by omega)
  have tk : ∀ k p e, k < m → p < 6 → e < 4 → drhQ mh i0 G (tAt k p + e) = f (tAt k p + e) := fun k p e hk hp he => by
    have : 1375 ≤ tAt k p + e ∧ tAt k p + e < 1375 + 26 * m := by unfold tAt; omega
    rw [lo _ (by omega) (by omega)]
    exact gA _ (by omega) (by omega) (by omega)
  have tm : ∀ p e, p < 6 → e < 4 → drhQ mh i0 G (tAt m p + e) = G (tAt m p + e) := fun p e hp he => lo _ (by unfold tAt; omega) (by unfold tAt; omega)
  have om : drhQ mh i0 G (1375 + 26 * m) = v := by
    rw [lo _ (by omega) (by omega), inv _ (by omega)]
    unfold conF
    rw [upd_ne (by omega), upd_same]
  have om1 : drhQ mh i0 G (1375 + 26 * m + 1) = nI cu := by
    rw [lo _ (by omega) (by omega), inv _ (by omega)]
    unfold conF
    rw [upd_same]
  have ok : ∀ k e, k < m → e < 2 → drhQ mh i0 G (1375 + 26 * k + e) = f (1375 + 26 * k + e) := fun k e hk he => by
    rw [lo _ (by omega) (by omega)]
    exact gA _ (by omega) (by omega) (by omega)
  obtain ⟨b1, b2⟩ := a4
  obtain ⟨q6, qk⟩ := b2 i0 hi0
  have hmk : mrkV ho.2 i0 (nI 2) v se = markV S (r * 12 + c) s (nI 2) v se := by
    unfold mrkV
    rw [(qk 1 (by decide)).trans g2, (qk 2 (by decide)).trans g3, (qk 3 (by decide)).trans g4, (qk 4 (by decide)).trans g5, cN_nI (by omega), cN_nI (by omega), cN_nI (by omega), cN_nI (by omega)]
  refine ⟨mHal_fr k43 a1, mPer_fr hn (fun j u1 u2 => (lo j (by omega) (by omega)).trans (gA j (by omega) (by omega) (by omega))) a2, ?_, ⟨?_, fun j hj => ?_⟩, ⟨d1, fun i hi => ?_⟩, ?_, fun c2 hc2 => ?_, fun j hj => ?_, a9.trans ?_, a10.trans ?_, a11.trans ?_, a12.trans ?_⟩
  · dsimp only [oSe]
    rw [hmk]
    have hs := paint_m (f := f) hS hn hR hC hb (st := nI 2) (ow := v) (y := v) (Or.inr ⟨Or.inr rfl, rfl⟩) a3
    refine mSea_fr (f := pntQ S n (12 * r + c) s (nI 2) v f) (fun j a1 a2 => (k43 j a1 a2).trans (pntQ_out hn (Or.inl a2)).symm) (fun j a1 a2 => ?_) hs
    rw [lo j (by omega) (by omega), c4 j a1 a2]
    unfold pntQ
    rw [fA j (by omega) (by omega) (by omega)]
  · show ho.1 - 1 = mh - 1
    rw [b1]
  · dsimp only [oHo]
    have hi' : i0 < ho.1 := by rw [b1]; exact hi0
    have hj' : j < ho.1 - 1 := by rw [b1]; exact hj
    obtain ⟨q6, qk⟩ := b2 (skp i0 j) (skp_lt hi0 hj)
    refine ⟨?_, fun k hk => ?_⟩
    · rw [rem_row hi' hj' (by decide), q6]
      exact (row j 0 hj (by decide)).symm
    · rw [rem_row hi' hj' (by omega), qk k hk, row j (k + 1) hj (by omega)]
  · dsimp only [oTi]
    unfold kfC
    by_cases q : i < N
    · rw [if_pos q, h3 i q]
      obtain ⟨b5, b6⟩ := w7.2.2.1 i q
      obtain ⟨e0, e1, e2, e3, e4, e5, e6⟩ := a5.2 i q
      have k0 := ok (kf i) 0 b5 (by decide)
      have t0 := tk (kf i) (pf i) 0 b5 (by omega) (by decide)
      rw [Nat.add_zero] at k0 t0
      refine ⟨?_, ?_, ?_, ?_, ?_, ?_, ?_⟩
      · rw [d2 _ (by omega), e0]; exact (ok (kf i) 1 b5 (by decide)).symm
      · rw [d2 _ (by omega), e1]; exact t0.symm
      · rw [d2 _ (by omega), e2]; exact (tk (kf i) (pf i) 1 b5 (by omega) (by decide)).symm
      · rw [d2 _ (by omega), e3]; exact (tk (kf i) (pf i) 2 b5 (by omega) (by decide)).symm
      · rw [d2 _ (by omega), e4]; exact (tk (kf i) (pf i) 3 b5 (by omega) (by decide)).symm
      · rw [d2 _ (by omega), e5]; exact k0.symm
      · rw [d2 _ (by omega), e6]
    · rw [if_neg q]
      obtain ⟨x1, x2, x3⟩ := c1 i (by omega) hi
      obtain ⟨y0, y1, y2, y3, y4, y5, y6⟩ := d3 i (by omega) hi
      have b4 := (h4 i (by omega) hi).1
      have t0 := tm (gh.2 i) 0 b4 (by decide)
      rw [Nat.add_zero] at t0
      exact ⟨y0.trans om1.symm, y1.trans (t0.trans x1).symm, y2.trans ((tm _ 1 b4 (by decide)).trans x2).symm, y3.trans ((tm _ 2 b4 (by decide)).trans x3).symm, y4.trans (tm _ 3 b4 (by decide)).symm, y5.trans om.symm, y6⟩
  · exact mPay_fr c3.2 (fun j u1 u2 => lo j (by omega) (by omega)) d4
  · rw [lo _ (by omega) (by omega)]
    exact d5 c2 hc2
  · rw [lo _ (by omega) (by omega), gA _ (by omega) (by omega) (by omega)]
    exact a8 j hj
  · rw [lo 8 (by omega) (by omega), gA 8 (by omega) (by omega) (by omega)]
  · rw [lo 6 (by omega) (by omega), gA 6 (by omega) (by omega) (by omega)]
  · rw [lo 7 (by omega) (by omega), gA 7 (by omega) (by omega) (by omega)]
  · rw [lo 28 (by omega) (by omega), gA 28 (by omega) (by omega) (by omega)]
end CON2
