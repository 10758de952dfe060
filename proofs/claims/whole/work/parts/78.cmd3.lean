/-! commands on both sides: advance, hold -/
section CMD3
variable {f : Nat → Int32} {N : Nat} {kf pf : Nat → Nat} {R C n mh m m4 K D : Nat} {ha : Hal} {fi : Fnd} {se : Sea} {pe ho ti pa : Tab} {ac pr : Nat → Int32} {tm fc ru md : Int32}
theorem pnt_wf (hw : WF f N kf pf R C n mh m m4 K D) {S r c s : Nat} {st ow : Int32} (hS : S < 2 ^ n) (hb : wBlk f R C r c s) (hst : st = nI 0 ∨ (st = nI 1 ∨ st = nI 2) ∧ ∃ k, k < 1000000 ∧ ow = nI k) : WF (pntQ S n (12 * r + c) s st ow f) N kf pf R C n mh m m4 K D := by
  obtain ⟨w1, w2, w3, w4, w5, w6, w7, w8, w9, w10⟩ := hw
  have hR := w1.2.2.2.1
  have hC := w1.2.2.2.2.2.1
  have hn := w2.2.1
  have lo : ∀ j, (j < 139 ∨ 1291 ≤ j) → pntQ S n (12 * r + c) s st ow f j = f j := fun j h => pntQ_out hn h
  have k43 : agr f (pntQ S n (12 * r + c) s st ow f) 43 139 := fun j h1 h2 => lo j (by omega)
  exact ⟨wHal_fr (lo 0 (by decide)) (lo 1 (by decide)) k43 w1, wPer_fr (lo 9 (by decide)) (fun j h1 h2 => lo j (by omega)) w2, paint_w hS hn hR hC hb hst w3, wTim_fr (lo 7 (by decide)) (lo 8 (by decide)) w4, ⟨(lo 32 (by decide)).trans w5.1, (lo 28 (by decide)).trans w5.2.1, w5.2.2⟩, wHol_fr (lo 29 (by decide)) k43 (fun j h1 h2 => lo j (by omega)) hR hC (Nat.le_refl _) (Nat.le_refl _) w6, wTic_fr (lo 30 (by decide)) k43 (fun j h1 h2 => lo j (by omega)) hR hC hn (Nat.le_refl _) (Nat.le_refl _) w7, wDis_fr w6.2.1 w7.2.1 (fun j h1 h2 => lo j (by omega)) (fun j h1 h2 => lo j (by omega)) w8, ⟨(lo 31 (by decide)).trans w9.1, w9.2⟩, fun j hj => (lo j (by omega)).trans (w10 j hj)⟩
theorem pnt_mat (hw : WF f N kf pf R C n mh m m4 K D) (hm : Mat (ha, fi, se, pe, ho, ti, pa, ac, pr, tm, fc, ru, md) f N kf pf R C n mh m4) {S r c s : Nat} {st ow y : Int32} (hS : S < 2 ^ n) (hb : wBlk f R C r c s) (hst : st = nI 0 ∧ y = -nI 1 ∨ (st = nI 1 ∨ st = nI 2) ∧ y = ow) : Mat (ha, fi, markV S (r * 12 + c) s st y se, pe, ho, ti, pa, ac, pr, tm, fc, ru, md) (pntQ S n (12 * r + c) s st ow f) N kf pf R C n mh m4 := by
  obtain ⟨w1, w2, w3, w4, w5, w6, w7, w8, w9, w10⟩ := hw
  obtain ⟨a1, a2, a3, a4, a5, a6, a7, a8, a9, a10, a11, a12⟩ := hm
  have hR := w1.2.2.2.1
  have hC := w1.2.2.2.2.2.1
  have hn := w2.2.1
  have lo : ∀ j, (j < 139 ∨ 1291 ≤ j) → pntQ S n (12 * r + c) s st ow f j = f j := fun j h => pntQ_out hn h
  exact ⟨mHal_fr (fun j h1 h2 => lo j (by omega)) a1, mPer_fr hn (fun j h1 h2 => lo j (by omega)) a2, paint_m hS hn hR hC hb hst a3, mHol_fr w6.2.1 (fun j h1 h2 => lo j (by omega)) a4, mTic_fr (kf_b w7 hn) (fun j h1 h2 => lo j (by omega)) a5, mPay_fr w9.2 (fun j h1 h2 => lo j (by omega)) a6, mAcc_fr (fun j h1 h2 => lo j (by omega)) a7, mPri_fr (fun j h1 h2 => lo j (by omega)) a8, a9.trans (lo 8 (by decide)).symm, a10.trans (lo 6 (by decide)).symm, a11.trans (lo 7 (by decide)).symm, a12.trans (lo 28 (by decide)).symm⟩
theorem time_wf (hw : WF f N kf pf R C n mh m m4 K D) {v : Int32} (g1 : nI 1 ≤ v) (g2 : v ≤ nI 10000) (g3 : f 8 + v ≤ nI 100000) : WF (upd (upd f 32 (f 32 + nI 1)) 8 (f 8 + v)) N kf pf R C n mh m m4 (K + 1) D := by
  obtain ⟨w1, w2, w3, w4, w5, w6, w7, w8, w9, w10⟩ := hw
  have hR := w1.2.2.2.1
  have hC := w1.2.2.2.2.2.1
  have hn := w2.2.1
  refine ⟨wHal_fr (by simp (disch := omega) only [upd_ne]) (by simp (disch := omega) only [upd_ne]) (fun j p q => by simp (disch := omega) only [upd_ne]) w1, wPer_fr (by simp (disch := omega) only [upd_ne]) (fun j p q => by simp (disch := omega) only [upd_ne]) w2, wSea_fr (fun j p q => by simp (disch := omega) only [upd_ne]) (fun j p q => by simp (disch := omega) only [upd_ne]) w3, ⟨?_, ?_⟩, ⟨?_, ?_, by have := w5.2.2; omega⟩, wHol_fr (by simp (disch := omega) only [upd_ne]) (fun j p q => by simp (disch := omega) only [upd_ne]) (fun j p q => by simp (disch := omega) only [upd_ne]) hR hC (Nat.le_refl _) (Nat.le_refl _) w6, wTic_fr (by simp (disch := omega) only [upd_ne]) (fun j p q => by simp (disch := omega) only [upd_ne]) (fun j p q => by simp (disch := omega) only [upd_ne]) hR hC hn (Nat.le_refl _) (Nat.le_refl _) w7, wDis_fr w6.2.1 w7.2.1 (fun j p q => by simp (disch := omega) only [upd_ne]) (fun j p q => by simp (disch := omega) only [upd_ne]) w8, ⟨?_, w9.2⟩, fun j hj => ?_⟩
  · obtain ⟨T, t1, t2⟩ := w4.1
    have v0 : ¬ v < 0 := fun z => Int32.lt_irrefl (Int32.lt_of_lt_of_le (Int32.lt_of_le_of_lt g1 z) (nI_pos' (n := 1) (by decide)))
    obtain ⟨k, k1, rfl⟩ := nI_of v0
    rw [nI_leI k1 (by decide)] at g2
    rw [t2, nI_add, nI_leI (by omega) (by decide)] at g3
    rw [upd_same, t2, nI_add]
    exact ⟨T + k, g3, rfl⟩
  · simp (disch := omega) only [upd_ne]
    exact w4.2
  · simp (disch := omega) only [upd_ne, upd_same]
    rw [w5.1, nI_add]
  · simp (disch := omega) only [upd_ne]
    exact w5.2.1
  · simp (disch := omega) only [upd_ne]
    exact w9.1
  · simp (disch := omega) only [upd_ne]
    exact w10 j hj
theorem time_mat (hw : WF f N kf pf R C n mh m m4 K D) (hm : Mat (ha, fi, se, pe, ho, ti, pa, ac, pr, tm, fc, ru, md) f N kf pf R C n mh m4) {v : Int32} : Mat (ha, fi, se, pe, ho, ti, pa, ac, pr, tm + v, fc, ru, md) (upd (upd f 32 (f 32 + nI 1)) 8 (f 8 + v)) N kf pf R C n mh m4 := by
  obtain ⟨w1, w2, w3, w4, w5, w6, w7, w8, w9, w10⟩ := hw
  obtain ⟨a1, a2, a3, a4, a5, a6, a7, a8, a9, a10, a11, a12⟩ := hm
  refine ⟨mHal_fr (fun j p q => by simp (disch := omega) only [upd_ne]) a1, mPer_fr w2.2.1 (fun j p q => by simp (disch := omega) only [upd_ne]) a2, mSea_fr (fun j p q => by simp (disch := omega) only [upd_ne]) (fun j p q => by simp (disch := omega) only [upd_ne]) a3, mHol_fr w6.2.1 (fun j p q => by simp (disch := omega) only [upd_ne]) a4, mTic_fr (kf_b w7 w2.2.1) (fun j p q => by simp (disch := omega) only [upd_ne]) a5, mPay_fr w9.2 (fun j p q => by simp (disch := omega) only [upd_ne]) a6, mAcc_fr (fun j p q => by simp (disch := omega) only [upd_ne]) a7, mPri_fr (fun j p q => by simp (disch := omega) only [upd_ne]) a8, ?_, a10.trans (by simp (disch := omega) only [upd_ne]), a11.trans (by simp (disch := omega) only [upd_ne]), a12.trans (by simp (disch := omega) only [upd_ne])⟩
  show tm + v = _
  rw [upd_same, show tm = f 8 from a9]
theorem adv_rel_w (hw : WF f N kf pf R C n mh m m4 K D) : WF (advQ n mh f).1 N kf pf R C n (advQ n mh f).2.1 m m4 K D := by
  unfold advQ
  have key : ∀ k, k ≤ mh → mh - k ≤ (fo (fun k q => advS n (mh - 1 - k) q) k (f, mh, nI 0)).2.1 ∧ WF (fo (fun k q => advS n (mh - 1 - k) q) k (f, mh, nI 0)).1 N kf pf R C n (fo (fun k q => advS n (mh - 1 - k) q) k (f, mh, nI 0)).2.1 m m4 K D := by
    intro k
    induction k with
    | zero => intro _; exact ⟨Nat.le_refl _, hw⟩
    | succ k ih =>
      intro hk
      obtain ⟨i1, i2⟩ := ih (by omega)
      show mh - (k + 1) ≤ (advS n (mh - 1 - k) _).2.1 ∧ WF (advS n (mh - 1 - k) _).1 N kf pf R C n (advS n (mh - 1 - k) _).2.1 m m4 K D
      generalize fo (fun k q => advS n (mh - 1 - k) q) k (f, mh, nI 0) = q at i1 i2
      unfold advS
      by_cases hc : q.1 8 < q.1 (1291 + 7 * (mh - 1 - k) + 6)
      · rw [if_pos hc]
        exact ⟨by omega, i2⟩
      · rw [if_neg hc]
        exact ⟨by dsimp only; omega, give_wf i2 (by omega)⟩
  exact (key mh (Nat.le_refl _)).2
theorem adv_rel_m (hw : WF f N kf pf R C n mh m m4 K D) (hm : Mat (ha, fi, se, pe, ho, ti, pa, ac, pr, tm, fc, ru, md) f N kf pf R C n mh m4) : Mat (ha, fi, (pasV tm se ho).1, pe, (pasV tm se ho).2.1, ti, pa, ac, pr, tm, fc, ru, md) (advQ n mh f).1 N kf pf R C n (advQ n mh f).2.1 m4 ∧ (pasV tm se ho).2.2 = (advQ n mh f).2.2 := by
  have hho : ho.1 = mh := hm.2.2.2.1.1
  unfold advQ pasV
  rw [hho]
  have key : ∀ k, k ≤ mh → mh - k ≤ (fo (fun k q => advS n (mh - 1 - k) q) k (f, mh, nI 0)).2.1 ∧ WF (fo (fun k q => advS n (mh - 1 - k) q) k (f, mh, nI 0)).1 N kf pf R C n (fo (fun k q => advS n (mh - 1 - k) q) k (f, mh, nI 0)).2.1 m m4 K D ∧ Mat (ha, fi, (fo (fun k q => pasS tm (mh - 1 - k) q) k (se, ho, nI 0)).1, pe, (fo (fun k q => pasS tm (mh - 1 - k) q) k (se, ho, nI 0)).2.1, ti, pa, ac, pr, tm, fc, ru, md) (fo (fun k q => advS n (mh - 1 - k) q) k (f, mh, nI 0)).1 N kf pf R C n (fo (fun k q => advS n (mh - 1 - k) q) k (f, mh, nI 0)).2.1 m4 ∧ (fo (fun k q => pasS tm (mh - 1 - k) q) k (se, ho, nI 0)).2.2 = (fo (fun k q => advS n (mh - 1 - k) q) k (f, mh, nI 0)).2.2 := by
    intro k
    induction k with
    | zero => intro _; exact ⟨Nat.le_refl _, hw, hm, rfl⟩
    | succ k ih =>
      intro hk
      obtain ⟨i1, i2, i3, i4⟩ := ih (by omega)
      show mh - (k + 1) ≤ (advS n (mh - 1 - k) _).2.1 ∧ WF (advS n (mh - 1 - k) _).1 N kf pf R C n (advS n (mh - 1 - k) _).2.1 m m4 K D ∧ Mat (ha, fi, (pasS tm (mh - 1 - k) _).1, pe, (pasS tm (mh - 1 - k) _).2.1, ti, pa, ac, pr, tm, fc, ru, md) (advS n (mh - 1 - k) _).1 N kf pf R C n (advS n (mh - 1 - k) _).2.1 m4 ∧ (pasS tm (mh - 1 - k) _).2.2 = (advS n (mh - 1 - k) _).2.2
      generalize fo (fun k q => advS n (mh - 1 - k) q) k (f, mh, nI 0) = q at i1 i2 i3 i4
      generalize fo (fun k q => pasS tm (mh - 1 - k) q) k (se, ho, nI 0) = p at i3 i4
      have h8 : tm = q.1 8 := i3.2.2.2.2.2.2.2.2.1
      have hrow := (i3.2.2.2.1.2 (mh - 1 - k) (by omega)).2 5 (by decide)
      dsimp only [oHo] at hrow
      unfold advS pasS
      by_cases hc : q.1 8 < q.1 (1291 + 7 * (mh - 1 - k) + 6)
      · rw [if_pos hc, if_pos (by rw [hrow, h8]; exact hc)]
        exact ⟨by omega, i2, i3, i4⟩
      · rw [if_neg hc, if_neg (by rw [hrow, h8]; exact hc)]
        refine ⟨by dsimp only; omega, give_wf i2 (by omega), give_mat i2 i3 (by omega), ?_⟩
        dsimp only
        rw [i4]
  exact (key mh (Nat.le_refl _)).2.2
theorem fit_blk {S s ct kd r c : Nat} (hr : r < R) (hs1 : 1 ≤ s) (hs8 : s ≤ 8) (hc : c + s ≤ C) (h : fitQ S n f C s ct kd r c) : wBlk f R C r c s := ⟨hr, hs1, hs8, hc, fun i hi => (h.1 i hi).1⟩
abbrev holG (f : Nat → Int32) (mh cu S r c s : Nat) (u : Int32) : Nat → Int32 := upd (hrwQ (upd (upd f 32 (f 32 + nI 1)) 28 (f 28 + nI 1)) mh (f 28) (nI cu) (nI S) (nI r) (nI c) (nI s) (f 8 + u)) 29 (nI (mh + 1))
theorem holG_out {cu S r c s j : Nat} {u : Int32} (hm : mh < 12) (hj : j ≠ 28 ∧ j ≠ 29 ∧ j ≠ 32 ∧ (j < 1291 + 7 * mh ∨ 1291 + 7 * mh + 7 ≤ j)) : holG f mh cu S r c s u j = f j := by
  unfold holG hrwQ
  simp (disch := omega) only [upd_ne]
theorem hrw_at {g : Nat → Int32} {x0 x1 x2 x3 x4 x5 x6 v : Int32} {mh : Nat} : upd (hrwQ g mh x0 x1 x2 x3 x4 x5 x6) 29 v (1291 + 7 * mh) = x0 ∧ upd (hrwQ g mh x0 x1 x2 x3 x4 x5 x6) 29 v (1291 + 7 * mh + 1) = x1 ∧ upd (hrwQ g mh x0 x1 x2 x3 x4 x5 x6) 29 v (1291 + 7 * mh + 2) = x2 ∧ upd (hrwQ g mh x0 x1 x2 x3 x4 x5 x6) 29 v (1291 + 7 * mh + 3) = x3 ∧ upd (hrwQ g mh x0 x1 x2 x3 x4 x5 x6) 29 v (1291 + 7 * mh + 4) = x4 ∧ upd (hrwQ g mh x0 x1 x2 x3 x4 x5 x6) 29 v (1291 + 7 * mh + 5) = x5 ∧ upd (hrwQ g mh x0 x1 x2 x3 x4 x5 x6) 29 v (1291 + 7 * mh + 6) = x6 := by
  unfold hrwQ
  refine ⟨?_, ?_, ?_, ?_, ?_, ?_, ?_⟩
  all_goals simp (disch := omega) only [upd_ne, upd_same]
theorem holG_at {cu S r c s : Nat} {u : Int32} : holG f mh cu S r c s u (1291 + 7 * mh) = f 28 ∧ holG f mh cu S r c s u (1291 + 7 * mh + 1) = nI cu ∧ holG f mh cu S r c s u (1291 + 7 * mh + 2) = nI S ∧ holG f mh cu S r c s u (1291 + 7 * mh + 3) = nI r ∧ holG f mh cu S r c s u (1291 + 7 * mh + 4) = nI c ∧ holG f mh cu S r c s u (1291 + 7 * mh + 5) = nI s ∧ holG f mh cu S r c s u (1291 + 7 * mh + 6) = f 8 + u := hrw_at
theorem holG_wf (hw : WF f N kf pf R C n mh m m4 K D) {cu S r c s : Nat} {u : Int32} (hm : mh < 12) (hcu : cu < 10) (hS1 : 1 ≤ S) (hS : S < 2 ^ n) (hb : wBlk f R C r c s) (hK : K < 1000) : WF (holG f mh cu S r c s u) N kf pf R C n (mh + 1) m m4 (K + 1) (D + 1) := by
  obtain ⟨w1, w2, w3, w4, w5, w6, w7, w8, w9, w10⟩ := hw
  have hR := w1.2.2.2.1
  have hC := w1.2.2.2.2.2.1
  have hn := w2.2.1
  have lo : ∀ j, (j ≠ 28 ∧ j ≠ 29 ∧ j ≠ 32 ∧ (j < 1291 + 7 * mh ∨ 1291 + 7 * mh + 7 ≤ j)) → holG f mh cu S r c s u j = f j := fun j hj => holG_out hm hj
  have k43 : agr f (holG f mh cu S r c s u) 43 139 := fun j h1 h2 => lo j (by omega)
  obtain ⟨x0, x1, x2, x3, x4, x5, x6⟩ := holG_at (f := f) (mh := mh) (cu := cu) (S := S) (r := r) (c := c) (s := s) (u := u)
  have hD := w5.2.1
  have hDK := w5.2.2
  refine ⟨wHal_fr (lo 0 (by omega)) (lo 1 (by omega)) k43 w1, wPer_fr (lo 9 (by omega)) (fun j h1 h2 => lo j (by omega)) w2, wSea_fr k43 (fun j h1 h2 => lo j (by omega)) w3, wTim_fr (lo 7 (by omega)) (lo 8 (by omega)) w4, ⟨?_, ?_, by omega⟩, ⟨upd_same, by omega, fun i hi => ?_, fun i j hij hj => ?_⟩, wTic_fr (lo 30 (by omega)) k43 (fun j h1 h2 => lo j (by omega)) hR hC hn (by omega) (Nat.le_refl _) w7, fun i hi k hk => ?_, ⟨(lo 31 (by omega)).trans w9.1, w9.2⟩, fun j hj => (lo j (by omega)).trans (w10 j hj)⟩
  · unfold holG hrwQ
    simp (disch := omega) only [upd_ne, upd_same]
    rw [w5.1, nI_add]
  · unfold holG hrwQ
    simp (disch := omega) only [upd_ne, upd_same]
    rw [hD, nI_add]
  · by_cases q : i = mh
    · subst q
      exact ⟨D, cu, S, r, c, s, x0.trans hD, by omega, x1, hcu, x2, hS1, hS, x3, x4, x5, wBlk_fr k43 hR hC hb⟩
    · obtain ⟨nu, cu, S, r, c, s, e0, e1, e2, e3, e4, e5, e6, e7, e8, e9, e10⟩ := w6.2.2.1 i (by omega)
      exact ⟨nu, cu, S, r, c, s, (lo _ (by omega)).trans e0, by omega, (lo _ (by omega)).trans e2, e3, (lo _ (by omega)).trans e4, e5, e6, (lo _ (by omega)).trans e7, (lo _ (by omega)).trans e8, (lo _ (by omega)).trans e9, wBlk_fr k43 hR hC e10⟩
  · rw [lo (1291 + 7 * i) (by omega)]
    by_cases q : j = mh
    · rw [q, x0, hD]
      obtain ⟨nu, cu, S, r, c, s, e0, e1, _⟩ := w6.2.2.1 i (by omega)
      rw [e0, nI_eq (by omega) (by omega)]
      omega
    · rw [lo (1291 + 7 * j) (by omega)]
      exact w6.2.2.2 i j hij (by omega)
  · have hm20 := w7.2.1
    rw [lo (1375 + 26 * k) (by omega)]
    by_cases q : i = mh
    · rw [q, x0, hD]
      obtain ⟨nu, cu, e0, e1, _⟩ := w7.2.2.2.2.2.2.1 k hk
      rw [e0, nI_eq (by omega) (by omega)]
      omega
    · rw [lo (1291 + 7 * i) (by omega)]
      exact w8 i (by omega) k hk
theorem holG_mat (hw : WF f N kf pf R C n mh m m4 K D) (hmt : Mat (ha, fi, se, pe, ho, ti, pa, ac, pr, tm, fc, ru, md) f N kf pf R C n mh m4) {cu S r c s : Nat} {u : Int32} (hm : mh < 12) : Mat (ha, fi, se, pe, (ho.1 + 1, rowH ho.2 ho.1 (nI cu) (nI S) (nI r) (nI c) (nI s) (tm + u) md), ti, pa, ac, pr, tm, fc, ru, md + nI 1) (holG f mh cu S r c s u) N kf pf R C n (mh + 1) m4 := by
  obtain ⟨w1, w2, w3, w4, w5, w6, w7, w8, w9, w10⟩ := hw
  obtain ⟨a1, a2, a3, a4, a5, a6, a7, a8, a9, a10, a11, a12⟩ := hmt
  have hn := w2.2.1
  have lo : ∀ j, (j ≠ 28 ∧ j ≠ 29 ∧ j ≠ 32 ∧ (j < 1291 + 7 * mh ∨ 1291 + 7 * mh + 7 ≤ j)) → holG f mh cu S r c s u j = f j := fun j hj => holG_out hm hj
  obtain ⟨x0, x1, x2, x3, x4, x5, x6⟩ := holG_at (f := f) (mh := mh) (cu := cu) (S := S) (r := r) (c := c) (s := s) (u := u)
  dsimp only [oHo, oTm, oMd] at a4 a9 a12
  obtain ⟨b1, b2⟩ := a4
  refine ⟨mHal_fr (fun j h1 h2 => lo j (by omega)) a1, mPer_fr hn (fun j h1 h2 => lo j (by omega)) a2, mSea_fr (fun j h1 h2 => lo j (by omega)) (fun j h1 h2 => lo j (by omega)) a3, ⟨?_, fun i hi => ?_⟩, mTic_fr (kf_b w7 hn) (fun j h1 h2 => lo j (by omega)) a5, mPay_fr w9.2 (fun j h1 h2 => lo j (by omega)) a6, mAcc_fr (fun j h1 h2 => lo j (by omega)) a7, mPri_fr (fun j h1 h2 => lo j (by omega)) a8, a9.trans (lo 8 (by omega)).symm, a10.trans (lo 6 (by omega)).symm, a11.trans (lo 7 (by omega)).symm, ?_⟩
  · show ho.1 + 1 = mh + 1
    rw [b1]
  · dsimp only [oHo]
    rw [b1]
    by_cases q : i = mh
    · subst q
      refine ⟨?_, fun k hk => ?_⟩
      · rw [rowH_6, a12]
        exact x0.symm
      · match k, hk with
        | 0, _ => exact rowH_0.trans x1.symm
        | 1, _ => exact rowH_1.trans x2.symm
        | 2, _ => exact rowH_2.trans x3.symm
        | 3, _ => exact rowH_3.trans x4.symm
        | 4, _ => exact rowH_4.trans x5.symm
        | 5, _ => exact rowH_5.trans ((by rw [a9] : tm + u = f 8 + u).trans x6.symm)
        | k + 6, h => exact absurd h (by omega)
    · obtain ⟨p1, p2⟩ := b2 i (by omega)
      refine ⟨?_, fun k hk => ?_⟩
      · rw [rowH_n (by omega), lo (1291 + 7 * i) (by omega)]
        exact p1
      · rw [rowH_n (by omega), lo (1291 + 7 * i + (k + 1)) (by omega)]
        exact p2 k hk
  · show md + nI 1 = _
    unfold holG hrwQ
    simp (disch := omega) only [upd_ne, upd_same]
    rw [a12]
theorem hold_pn {cu S r c s : Nat} {u st : Int32} (hS : S < 64) (hr : r < 8) (hc : c + s ≤ 12) : pntH (holG f mh cu S r c s u) mh n st = pntQ S n (12 * r + c) s st (f 28) (holG f mh cu S r c s u) := by
  obtain ⟨x0, x1, x2, x3, x4, x5, x6⟩ := holG_at (f := f) (mh := mh) (cu := cu) (S := S) (r := r) (c := c) (s := s) (u := u)
  unfold pntH
  rw [x0, x2, x3, x4, x5, cN_nI (by omega), cN_nI (by omega), cN_nI (by omega), cN_nI (by omega)]
theorem hold_wf (hw : WF f N kf pf R C n mh m m4 K D) {cu S r c s : Nat} {u : Int32} (hm : mh < 12) (hcu : cu < 10) (hS1 : 1 ≤ S) (hS : S < 2 ^ n) (hb : wBlk f R C r c s) (hK : K < 1000) : WF (pntH (holG f mh cu S r c s u) mh n (nI 1)) N kf pf R C n (mh + 1) m m4 (K + 1) (D + 1) := by
  have w1 := hw.1
  have w2 := hw.2.1
  have hR := w1.2.2.2.1
  have hC := w1.2.2.2.2.2.1
  have h64 := (sh7_fact n (by have := w2.2.1; omega)).2
  have hr : r < R := hb.1
  have hc : c + s ≤ C := hb.2.2.2.1
  have w5 := hw.2.2.2.2.1
  have hD : D < 1000000 := by have := w5.2.2; omega
  rw [hold_pn (by omega) (by omega) (by omega)]
  refine pnt_wf (holG_wf hw hm hcu hS1 hS hb hK) hS (wBlk_fr (fun j h1 h2 => holG_out hm (by omega)) hR hC hb) (Or.inr ⟨Or.inl rfl, D, hD, w5.2.1⟩)
theorem hold_mat (hw : WF f N kf pf R C n mh m m4 K D) (hmt : Mat (ha, fi, se, pe, ho, ti, pa, ac, pr, tm, fc, ru, md) f N kf pf R C n mh m4) {cu S r c s : Nat} {u : Int32} (hm : mh < 12) (hcu : cu < 10) (hS1 : 1 ≤ S) (hS : S < 2 ^ n) (hb : wBlk f R C r c s) (hK : K < 1000) : Mat (ha, fi, markV S (r * 12 + c) s (nI 1) md se, pe, (ho.1 + 1, rowH ho.2 ho.1 (nI cu) (nI S) (nI r) (nI c) (nI s) (tm + u) md), ti, pa, ac, pr, tm, fc, ru, md + nI 1) (pntH (holG f mh cu S r c s u) mh n (nI 1)) N kf pf R C n (mh + 1) m4 := by
  have w1 := hw.1
  have w2 := hw.2.1
  have hR := w1.2.2.2.1
  have hC := w1.2.2.2.2.2.1
  have h64 := (sh7_fact n (by have := w2.2.1; omega)).2
  have hr : r < R := hb.1
  have hc : c + s ≤ C := hb.2.2.2.1
  have hmd : md = f 28 := hmt.2.2.2.2.2.2.2.2.2.2.2
  rw [hold_pn (by omega) (by omega) (by omega)]
  exact pnt_mat (holG_wf hw hm hcu hS1 hS hb hK) (holG_mat hw hmt hm) hS (wBlk_fr (fun j h1 h2 => holG_out hm (by omega)) hR hC hb) (Or.inr ⟨Or.inl rfl, hmd⟩)
end CMD3
