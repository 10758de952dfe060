/-! commands on both sides: performances, prices, focus, rule, blocks -/
section CMD1
variable {f : Nat → Int32} {N : Nat} {kf pf : Nat → Nat} {R C n mh m m4 K D : Nat} {ha : Hal} {fi : Fnd} {se : Sea} {pe ho ti pa : Tab} {ac pr : Nat → Int32} {tm fc ru md : Int32}
theorem ct_pos {x : Int32} (h1 : x = nI (cN x)) (h2 : cN x ≤ 6) : nI 0 < nI (ctN x) ↔ ¬ x = nI 0 := by
  rw [nI_ltI (by decide) (by have := ctN_le (x := x); omega)]
  unfold ctN
  constructor
  · intro h z
    rw [z, cN_nI (by decide)] at h
    exact absurd h (by decide)
  · intro h
    by_cases q : cN x < 5
    · rw [if_pos q]
      refine Nat.pos_of_ne_zero fun z => h ?_
      rw [h1, z]
    · rw [if_neg q]
      decide
theorem kf_b (h : wTic f m N kf pf n R C D) (hn : n ≤ 6) : ∀ i, i < N → kf i < 20 ∧ pf i < 6 := fun i hi => ⟨by have := (h.2.2.1 i hi).1; have := h.2.1; omega, by have := (h.2.2.1 i hi).2; omega⟩
/-- commands that touch neither performances nor seats, holds, orders, payments -/
theorem small_wf {g : Nat → Int32} (hw : WF f N kf pf R C n mh m m4 K D) (h0 : g 0 = f 0) (h1 : g 1 = f 1) (h7 : g 7 = nI 0 ∨ g 7 = nI 1) (h8 : g 8 = f 8) (h2 : agr f g 9 32) (h32 : g 32 = f 32 + nI 1) (h3 : agr f g 43 2015) (hz : zOut g) : WF g N kf pf R C n mh m m4 (K + 1) D := by
  obtain ⟨w1, w2, w3, w4, w5, w6, w7, w8, w9, w10⟩ := hw
  have hR := w1.2.2.2.1
  have hC := w1.2.2.2.2.2.1
  have hn := w2.2.1
  have k1 := agr_sub h3 (a' := 43) (b' := 139) (by decide) (by decide)
  have k2 := agr_sub h3 (a' := 1291) (b' := 1375) (by decide) (by decide)
  have k3 := agr_sub h3 (a' := 1375) (b' := 1895) (by decide) (by decide)
  refine ⟨wHal_fr h0 h1 k1 w1, wPer_fr (h2 9 (by decide) (by decide)) (agr_sub h2 (by decide) (by decide)) w2, wSea_fr k1 (agr_sub h3 (by decide) (by decide)) w3, ⟨?_, h7⟩, ⟨?_, (h2 28 (by decide) (by decide)).trans w5.2.1, by have := w5.2.2; omega⟩, wHol_fr (h2 29 (by decide) (by decide)) k1 k2 hR hC (Nat.le_refl _) (Nat.le_refl _) w6, wTic_fr (h2 30 (by decide) (by decide)) k1 k3 hR hC hn (Nat.le_refl _) (Nat.le_refl _) w7, wDis_fr w6.2.1 w7.2.1 k2 k3 w8, ⟨(h2 31 (by decide) (by decide)).trans w9.1, w9.2⟩, hz⟩
  · obtain ⟨T, h4, h5⟩ := w4.1
    exact ⟨T, h4, h8.trans h5⟩
  · rw [h32, w5.1, nI_add]
theorem price_wf (hw : WF f N kf pf R C n mh m m4 K D) {k : Nat} {z : Int32} (k1 : 1 ≤ k) (k4 : k ≤ 4) : WF (upd (upd f 32 (f 32 + nI 1)) (1 + k) z) N kf pf R C n mh m m4 (K + 1) D := by
  have h7 := hw.2.2.2.1.2
  have hz := hw.2.2.2.2.2.2.2.2.2
  refine small_wf hw (by simp (disch := omega) only [upd_ne]) (by simp (disch := omega) only [upd_ne]) ?_ (by simp (disch := omega) only [upd_ne]) (fun j p q => by simp (disch := omega) only [upd_ne]) ?_ (fun j p q => by simp (disch := omega) only [upd_ne]) (fun j hj => by simp (disch := omega) only [upd_ne]; exact hz j hj)
  · simp (disch := omega) only [upd_ne]; exact h7
  · simp (disch := omega) only [upd_ne, upd_same]
theorem focus_wf (hw : WF f N kf pf R C n mh m m4 K D) {z : Int32} : WF (upd (upd f 32 (f 32 + nI 1)) 6 z) N kf pf R C n mh m m4 (K + 1) D := by
  have h7 := hw.2.2.2.1.2
  have hz := hw.2.2.2.2.2.2.2.2.2
  refine small_wf hw (by simp (disch := omega) only [upd_ne]) (by simp (disch := omega) only [upd_ne]) ?_ (by simp (disch := omega) only [upd_ne]) (fun j p q => by simp (disch := omega) only [upd_ne]) ?_ (fun j p q => by simp (disch := omega) only [upd_ne]) (fun j hj => by simp (disch := omega) only [upd_ne]; exact hz j hj)
  · simp (disch := omega) only [upd_ne]; exact h7
  · simp (disch := omega) only [upd_ne, upd_same]
theorem rule_wf (hw : WF f N kf pf R C n mh m m4 K D) {k : Nat} (hk : k < 2) : WF (upd (upd f 32 (f 32 + nI 1)) 7 (nI k)) N kf pf R C n mh m m4 (K + 1) D := by
  have hz := hw.2.2.2.2.2.2.2.2.2
  refine small_wf hw (by simp (disch := omega) only [upd_ne]) (by simp (disch := omega) only [upd_ne]) ?_ (by simp (disch := omega) only [upd_ne]) (fun j p q => by simp (disch := omega) only [upd_ne]) ?_ (fun j p q => by simp (disch := omega) only [upd_ne]) (fun j hj => by simp (disch := omega) only [upd_ne]; exact hz j hj)
  · rw [upd_same]
    rcases (show k = 0 ∨ k = 1 by omega) with rfl | rfl
    · exact Or.inl rfl
    · exact Or.inr rfl
  · simp (disch := omega) only [upd_ne, upd_same]
theorem price_mat (hw : WF f N kf pf R C n mh m m4 K D) (hm : Mat (ha, fi, se, pe, ho, ti, pa, ac, pr, tm, fc, ru, md) f N kf pf R C n mh m4) {k : Nat} {z : Int32} (k1 : 1 ≤ k) (k4 : k ≤ 4) : Mat (ha, fi, se, pe, ho, ti, pa, ac, upd pr (k - 1) z, tm, fc, ru, md) (upd (upd f 32 (f 32 + nI 1)) (1 + k) z) N kf pf R C n mh m4 := by
  obtain ⟨w1, w2, w3, w4, w5, w6, w7, w8, w9, w10⟩ := hw
  obtain ⟨a1, a2, a3, a4, a5, a6, a7, a8, a9, a10, a11, a12⟩ := hm
  refine ⟨mHal_fr (fun j p q => by simp (disch := omega) only [upd_ne]) a1, mPer_fr w2.2.1 (fun j p q => by simp (disch := omega) only [upd_ne]) a2, mSea_fr (fun j p q => by simp (disch := omega) only [upd_ne]) (fun j p q => by simp (disch := omega) only [upd_ne]) a3, mHol_fr w6.2.1 (fun j p q => by simp (disch := omega) only [upd_ne]) a4, mTic_fr (kf_b w7 w2.2.1) (fun j p q => by simp (disch := omega) only [upd_ne]) a5, mPay_fr w9.2 (fun j p q => by simp (disch := omega) only [upd_ne]) a6, mAcc_fr (fun j p q => by simp (disch := omega) only [upd_ne]) a7, fun j hj => ?_, a9.trans ?_, a10.trans ?_, a11.trans ?_, a12.trans ?_⟩
  · show upd pr (k - 1) z j = _
    by_cases q : j = k - 1
    · rw [q, upd_same, show 2 + (k - 1) = 1 + k by omega, upd_same]
    · rw [upd_ne q, upd_ne (by omega), upd_ne (by omega)]
      exact a8 j hj
  all_goals simp (disch := omega) only [upd_ne]
theorem focus_mat (hw : WF f N kf pf R C n mh m m4 K D) (hm : Mat (ha, fi, se, pe, ho, ti, pa, ac, pr, tm, fc, ru, md) f N kf pf R C n mh m4) {z : Int32} : Mat (ha, fi, se, pe, ho, ti, pa, ac, pr, tm, z, ru, md) (upd (upd f 32 (f 32 + nI 1)) 6 z) N kf pf R C n mh m4 := by
  obtain ⟨w1, w2, w3, w4, w5, w6, w7, w8, w9, w10⟩ := hw
  obtain ⟨a1, a2, a3, a4, a5, a6, a7, a8, a9, a10, a11, a12⟩ := hm
  refine ⟨mHal_fr (fun j p q => by simp (disch := omega) only [upd_ne]) a1, mPer_fr w2.2.1 (fun j p q => by simp (disch := omega) only [upd_ne]) a2, mSea_fr (fun j p q => by simp (disch := omega) only [upd_ne]) (fun j p q => by simp (disch := omega) only [upd_ne]) a3, mHol_fr w6.2.1 (fun j p q => by simp (disch := omega) only [upd_ne]) a4, mTic_fr (kf_b w7 w2.2.1) (fun j p q => by simp (disch := omega) only [upd_ne]) a5, mPay_fr w9.2 (fun j p q => by simp (disch := omega) only [upd_ne]) a6, mAcc_fr (fun j p q => by simp (disch := omega) only [upd_ne]) a7, mPri_fr (fun j p q => by simp (disch := omega) only [upd_ne]) a8, a9.trans ?_, ?_, a11.trans ?_, a12.trans ?_⟩
  · simp (disch := omega) only [upd_ne]
  · exact upd_same.symm
  all_goals simp (disch := omega) only [upd_ne]
theorem rule_mat (hw : WF f N kf pf R C n mh m m4 K D) (hm : Mat (ha, fi, se, pe, ho, ti, pa, ac, pr, tm, fc, ru, md) f N kf pf R C n mh m4) {z : Int32} : Mat (ha, fi, se, pe, ho, ti, pa, ac, pr, tm, fc, z, md) (upd (upd f 32 (f 32 + nI 1)) 7 z) N kf pf R C n mh m4 := by
  obtain ⟨w1, w2, w3, w4, w5, w6, w7, w8, w9, w10⟩ := hw
  obtain ⟨a1, a2, a3, a4, a5, a6, a7, a8, a9, a10, a11, a12⟩ := hm
  refine ⟨mHal_fr (fun j p q => by simp (disch := omega) only [upd_ne]) a1, mPer_fr w2.2.1 (fun j p q => by simp (disch := omega) only [upd_ne]) a2, mSea_fr (fun j p q => by simp (disch := omega) only [upd_ne]) (fun j p q => by simp (disch := omega) only [upd_ne]) a3, mHol_fr w6.2.1 (fun j p q => by simp (disch := omega) only [upd_ne]) a4, mTic_fr (kf_b w7 w2.2.1) (fun j p q => by simp (disch := omega) only [upd_ne]) a5, mPay_fr w9.2 (fun j p q => by simp (disch := omega) only [upd_ne]) a6, mAcc_fr (fun j p q => by simp (disch := omega) only [upd_ne]) a7, mPri_fr (fun j p q => by simp (disch := omega) only [upd_ne]) a8, a9.trans ?_, a10.trans ?_, ?_, a12.trans ?_⟩
  · simp (disch := omega) only [upd_ne]
  · simp (disch := omega) only [upd_ne]
  · exact upd_same.symm
  · simp (disch := omega) only [upd_ne]
/-- a performance more -/
theorem add_wf (hw : WF f N kf pf R C n mh m m4 K D) {v w : Int32} (hn6 : n < 6) (g1 : ¬ v ≤ f 8) (g2 : ¬ nI 100000 < v) : WF (upd (upd (upd (upd f 32 (f 32 + nI 1)) 9 (nI (n + 1))) (10 + n) v) (16 + n) w) N kf pf R C (n + 1) mh m m4 (K + 1) D := by
  obtain ⟨w1, w2, w3, w4, w5, w6, w7, w8, w9, w10⟩ := hw
  have hR := w1.2.2.2.1
  have hC := w1.2.2.2.2.2.1
  have hn := w2.2.1
  obtain ⟨T, t1, t2⟩ := w4.1
  refine ⟨wHal_fr (by simp (disch := omega) only [upd_ne]) (by simp (disch := omega) only [upd_ne]) (fun j p q => by simp (disch := omega) only [upd_ne]) w1, ⟨?_, by omega, fun p hp => ?_, fun p h3 h4 => ?_⟩, fun j hj => ?_, wTim_fr (by simp (disch := omega) only [upd_ne]) (by simp (disch := omega) only [upd_ne]) w4, ⟨?_, ?_, by have := w5.2.2; omega⟩, wHol_fr (by simp (disch := omega) only [upd_ne]) (fun j p q => by simp (disch := omega) only [upd_ne]) (fun j p q => by simp (disch := omega) only [upd_ne]) hR hC (Nat.le_refl _) (by omega) w6, wTic_fr (by simp (disch := omega) only [upd_ne]) (fun j p q => by simp (disch := omega) only [upd_ne]) (fun j p q => by simp (disch := omega) only [upd_ne]) hR hC hn (Nat.le_refl _) (by omega) w7, wDis_fr w6.2.1 w7.2.1 (fun j p q => by simp (disch := omega) only [upd_ne]) (fun j p q => by simp (disch := omega) only [upd_ne]) w8, ⟨?_, w9.2⟩, fun j hj => ?_⟩
  · simp (disch := omega) only [upd_ne, upd_same]
  · by_cases q : p = n
    · subst q
      simp (disch := omega) only [upd_ne, upd_same]
      rw [t2] at g1
      have g3 : ¬ v < 0 := fun z => g1 (Int32.le_trans (Int32.le_of_lt z) (nI_pos' (by omega)))
      obtain ⟨k, k1, rfl⟩ := nI_of g3
      rw [nI_ltI (by decide) k1] at g2
      exact ⟨k, by omega, rfl⟩
    · obtain ⟨k, k1, k2⟩ := w2.2.2.1 p (by omega)
      refine ⟨k, k1, ?_⟩
      simp (disch := omega) only [upd_ne]
      exact k2
  · simp (disch := omega) only [upd_ne]
    exact w2.2.2.2 p (by omega) h4
  · simp (disch := omega) only [upd_ne]
    have := w3 j hj
    refine ⟨this.1, fun z => this.2.1 (fun q => z ⟨by have := q.1; omega, ?_⟩), this.2.2⟩
    simp (disch := omega) only [upd_ne]
    exact q.2
  · simp (disch := omega) only [upd_ne, upd_same]
    rw [w5.1, nI_add]
  · simp (disch := omega) only [upd_ne]
    exact w5.2.1
  · simp (disch := omega) only [upd_ne]
    exact w9.1
  · simp (disch := omega) only [upd_ne]
    exact w10 j hj
theorem add_mat (hw : WF f N kf pf R C n mh m m4 K D) (hm : Mat (ha, fi, se, pe, ho, ti, pa, ac, pr, tm, fc, ru, md) f N kf pf R C n mh m4) {v w : Int32} (hn6 : n < 6) : Mat (ha, fi, opnV pe.1 ha se, (pe.1 + 1, upd (upd (upd pe.2 (pe.1 * 3) v) (pe.1 * 3 + 1) w) (pe.1 * 3 + 2) (nI 0)), ho, ti, pa, ac, pr, tm, fc, ru, md) (upd (upd (upd (upd f 32 (f 32 + nI 1)) 9 (nI (n + 1))) (10 + n) v) (16 + n) w) N kf pf R C (n + 1) mh m4 := by
  obtain ⟨w1, w2, w3, w4, w5, w6, w7, w8, w9, w10⟩ := hw
  obtain ⟨a1, a2, a3, a4, a5, a6, a7, a8, a9, a10, a11, a12⟩ := hm
  obtain ⟨b1, b2⟩ := a2
  obtain ⟨c1, c2, c3, c4, c5⟩ := a1
  obtain ⟨d0, d1, d2, d3, d4, d5, d6, d7⟩ := w1
  dsimp only [oPe, oHa, oSe] at b1 b2 c1 c2 c3 c4 c5 a3
  refine ⟨mHal_fr (fun j p q => by simp (disch := omega) only [upd_ne]) ⟨c1, c2, c3, c4, c5⟩, ⟨by show pe.1 + 1 = n + 1; omega, fun p hp => ?_⟩, fun j hj => ?_, mHol_fr w6.2.1 (fun j p q => by simp (disch := omega) only [upd_ne]) a4, mTic_fr (kf_b w7 w2.2.1) (fun j p q => by simp (disch := omega) only [upd_ne]) a5, mPay_fr w9.2 (fun j p q => by simp (disch := omega) only [upd_ne]) a6, mAcc_fr (fun j p q => by simp (disch := omega) only [upd_ne]) a7, mPri_fr (fun j p q => by simp (disch := omega) only [upd_ne]) a8, a9.trans ?_, a10.trans ?_, a11.trans ?_, a12.trans ?_⟩
  · dsimp only [oPe]
    rw [b1]
    by_cases q : p = n
    · subst q
      refine ⟨?_, ?_, ?_⟩
      · simp (disch := omega) only [upd_ne, upd_same]
      · simp (disch := omega) only [upd_ne, upd_same]
      · simp (disch := omega) only [upd_ne, upd_same]
        exact (w2.2.2.2 p (by omega) (by omega)).symm
    · obtain ⟨e1, e2, e3⟩ := b2 p (by omega)
      refine ⟨?_, ?_, ?_⟩
      · simp (disch := omega) only [upd_ne]; exact e1
      · simp (disch := omega) only [upd_ne]; exact e2
      · simp (disch := omega) only [upd_ne]; exact e3
  · dsimp only [oSe]
    unfold opnV opnA
    rw [b1, c1, c2]
    dsimp only
    have a3j := a3 j hj
    have w3j := w3 j hj
    by_cases q : j / 96 = n
    · have hns : ¬ isS f n j := fun z => by have := z.1; omega
      have hz := w3j.2.1 hns
      rw [if_neg hns] at a3j
      have ha3 : ¬ (f (139 + j) = nI 1 ∨ f (139 + j) = nI 2) := by
        rw [hz]; decide
      rw [if_neg ha3] at a3j
      have hi : j - n * 96 = j % 96 := by omega
      rw [hi]
      constructor
      · by_cases qh : inHal R C (j % 96)
        · rw [if_pos (by have := qh.1; have := qh.2; omega)]
          obtain ⟨k1, k2⟩ := d6 (j % 96) (by omega)
          have hpos := ct_pos k1 k2
          rw [(c5 (j % 96) (by omega) qh).1]
          by_cases hk : f (43 + j % 96) = nI 0
          · rw [if_neg (fun z => hpos.mp z hk), if_neg]
            rintro ⟨z1, z2⟩
            simp (disch := omega) only [upd_ne] at z2
            exact z2 hk
          · rw [if_pos (hpos.mpr hk), if_pos]
            · simp (disch := omega) only [upd_ne]
              exact hz.symm
            · refine ⟨by omega, ?_⟩
              simp (disch := omega) only [upd_ne]
              exact hk
        · have hk := d7 (j % 96) (by omega) qh
          rw [if_neg (fun z => qh ⟨by omega, z.2.2⟩), a3j.1, if_neg]
          rintro ⟨z1, z2⟩
          simp (disch := omega) only [upd_ne] at z2
          exact z2 hk
      · simp (disch := omega) only [upd_ne]
        rw [if_neg ha3]
        split
        · rfl
        · exact a3j.2
    · have hreg : ¬ (n * 96 ≤ j ∧ j < n * 96 + R * 12 ∧ (j - n * 96) % 12 < C) := by omega
      rw [if_neg hreg, if_neg hreg]
      simp (disch := omega) only [upd_ne]
      refine ⟨a3j.1.trans ?_, a3j.2⟩
      have hiff : isS (upd (upd (upd (upd f 32 (f 32 + nI 1)) 9 (nI (n + 1))) (10 + n) v) (16 + n) w) (n + 1) j ↔ isS f n j := by
        unfold isS
        simp (disch := omega) only [upd_ne]
        exact ⟨fun z => ⟨by have := z.1; omega, z.2⟩, fun z => ⟨by have := z.1; omega, z.2⟩⟩
      by_cases q2 : isS f n j
      · rw [if_pos q2, if_pos (hiff.mpr q2)]
      · rw [if_neg q2, if_neg (fun z => q2 (hiff.mp z))]
  all_goals simp (disch := omega) only [upd_ne]
/-- a seat blocked or free again -/
theorem block_wf (hw : WF f N kf pf R C n mh m m4 K D) {p r c k : Nat} (hp : p < n) (hr : r < R) (hc : c < C) (hk : k < 2) (hkd : ¬ f (43 + 12 * r + c) = nI 0) : WF (upd (upd (upd f 32 (f 32 + nI 1)) (139 + (96 * p + 12 * r + c)) (nI (3 * k))) (715 + (96 * p + 12 * r + c)) (nI 0)) N kf pf R C n mh m m4 (K + 1) D := by
  obtain ⟨w1, w2, w3, w4, w5, w6, w7, w8, w9, w10⟩ := hw
  have hR := w1.2.2.2.1
  have hC := w1.2.2.2.2.2.1
  have hn := w2.2.1
  have h96 : 96 * p + 12 * r + c < 576 := by omega
  refine ⟨wHal_fr (by simp (disch := omega) only [upd_ne]) (by simp (disch := omega) only [upd_ne]) (fun j p q => by simp (disch := omega) only [upd_ne]) w1, wPer_fr (by simp (disch := omega) only [upd_ne]) (fun j p q => by simp (disch := omega) only [upd_ne]) w2, fun j hj => ?_, wTim_fr (by simp (disch := omega) only [upd_ne]) (by simp (disch := omega) only [upd_ne]) w4, ⟨?_, ?_, by have := w5.2.2; omega⟩, wHol_fr (by simp (disch := omega) only [upd_ne]) (fun j p q => by simp (disch := omega) only [upd_ne]) (fun j p q => by simp (disch := omega) only [upd_ne]) hR hC (Nat.le_refl _) (Nat.le_refl _) w6, wTic_fr (by simp (disch := omega) only [upd_ne]) (fun j p q => by simp (disch := omega) only [upd_ne]) (fun j p q => by simp (disch := omega) only [upd_ne]) hR hC hn (Nat.le_refl _) (Nat.le_refl _) w7, wDis_fr w6.2.1 w7.2.1 (fun j p q => by simp (disch := omega) only [upd_ne]) (fun j p q => by simp (disch := omega) only [upd_ne]) w8, ⟨?_, w9.2⟩, fun j hj => ?_⟩
  · have this := w3 j hj
    have hiff : isS (upd (upd (upd f 32 (f 32 + nI 1)) (139 + (96 * p + 12 * r + c)) (nI (3 * k))) (715 + (96 * p + 12 * r + c)) (nI 0)) n j ↔ isS f n j := isS_fr (fun j p q => by simp (disch := omega) only [upd_ne])
    by_cases q : j = 96 * p + 12 * r + c
    · have e1 : (96 * p + 12 * r + c) / 96 = p := by omega
      have e2 : (96 * p + 12 * r + c) % 96 = 12 * r + c := by omega
      have hS : isS f n j := by
        rw [q]
        unfold isS
        rw [e1, e2, ← Nat.add_assoc]
        exact ⟨hp, hkd⟩
      rw [hiff]
      refine ⟨?_, fun z => absurd hS z, ?_⟩
      · rw [q, upd_ne (by omega), upd_same]
        rcases (show k = 0 ∨ k = 1 by omega) with rfl | rfl
        · exact Or.inl rfl
        · exact Or.inr (Or.inr (Or.inr rfl))
      · intro z
        rw [q, upd_ne (by omega), upd_same] at z
        exfalso
        rcases (show k = 0 ∨ k = 1 by omega) with rfl | rfl
        · exact absurd z (by decide)
        · exact absurd z (by decide)
    · rw [hiff]
      simp (disch := omega) only [upd_ne]
      exact this
  · simp (disch := omega) only [upd_ne, upd_same]
    rw [w5.1, nI_add]
  · simp (disch := omega) only [upd_ne]
    exact w5.2.1
  · simp (disch := omega) only [upd_ne]
    exact w9.1
  · simp (disch := omega) only [upd_ne]
    exact w10 j hj
theorem block_mat (hw : WF f N kf pf R C n mh m m4 K D) (hm : Mat (ha, fi, se, pe, ho, ti, pa, ac, pr, tm, fc, ru, md) f N kf pf R C n mh m4) {p r c k : Nat} (hp : p < n) (hr : r < R) (hc : c < C) (hk : k < 2) (hkd : ¬ f (43 + 12 * r + c) = nI 0) : Mat (ha, fi, (upd se.1 (p * 96 + r * 12 + c) (nI (3 * k)), upd se.2 (p * 96 + r * 12 + c) (-nI 1)), pe, ho, ti, pa, ac, pr, tm, fc, ru, md) (upd (upd (upd f 32 (f 32 + nI 1)) (139 + (96 * p + 12 * r + c)) (nI (3 * k))) (715 + (96 * p + 12 * r + c)) (nI 0)) N kf pf R C n mh m4 := by
  obtain ⟨w1, w2, w3, w4, w5, w6, w7, w8, w9, w10⟩ := hw
  obtain ⟨a1, a2, a3, a4, a5, a6, a7, a8, a9, a10, a11, a12⟩ := hm
  have hR := w1.2.2.2.1
  have hC := w1.2.2.2.2.2.1
  have hn := w2.2.1
  dsimp only [oSe] at a3
  refine ⟨mHal_fr (fun j p q => by simp (disch := omega) only [upd_ne]) a1, mPer_fr w2.2.1 (fun j p q => by simp (disch := omega) only [upd_ne]) a2, fun j hj => ?_, mHol_fr w6.2.1 (fun j p q => by simp (disch := omega) only [upd_ne]) a4, mTic_fr (kf_b w7 w2.2.1) (fun j p q => by simp (disch := omega) only [upd_ne]) a5, mPay_fr w9.2 (fun j p q => by simp (disch := omega) only [upd_ne]) a6, mAcc_fr (fun j p q => by simp (disch := omega) only [upd_ne]) a7, mPri_fr (fun j p q => by simp (disch := omega) only [upd_ne]) a8, a9.trans ?_, a10.trans ?_, a11.trans ?_, a12.trans ?_⟩
  · dsimp only [oSe]
    have a3j := a3 j hj
    have hiff : isS (upd (upd (upd f 32 (f 32 + nI 1)) (139 + (96 * p + 12 * r + c)) (nI (3 * k))) (715 + (96 * p + 12 * r + c)) (nI 0)) n j ↔ isS f n j := isS_fr (fun j p q => by simp (disch := omega) only [upd_ne])
    by_cases q : j = 96 * p + 12 * r + c
    · have e1 : (96 * p + 12 * r + c) / 96 = p := by omega
      have e2 : (96 * p + 12 * r + c) % 96 = 12 * r + c := by omega
      have hS : isS f n j := by
        rw [q]
        unfold isS
        rw [e1, e2, ← Nat.add_assoc]
        exact ⟨hp, hkd⟩
      have e3 : p * 96 + r * 12 + c = j := by omega
      rw [e3, upd_same, upd_same, if_pos (hiff.mpr hS)]
      have e4 : 139 + j ≠ 715 + (96 * p + 12 * r + c) := by omega
      rw [upd_ne e4, ← q, upd_same, upd_same]
      refine ⟨rfl, ?_⟩
      rw [if_neg]
      rcases (show k = 0 ∨ k = 1 by omega) with rfl | rfl
      · decide
      · decide
    · have e3 : j ≠ p * 96 + r * 12 + c := by omega
      rw [upd_ne e3, upd_ne e3]
      simp (disch := omega) only [upd_ne]
      refine ⟨a3j.1.trans ?_, a3j.2⟩
      by_cases q2 : isS f n j
      · rw [if_pos q2, if_pos (hiff.mpr q2)]
      · rw [if_neg q2, if_neg (fun z => q2 (hiff.mp z))]
  all_goals simp (disch := omega) only [upd_ne]
end CMD1
