/-! commands on both sides: a ticket that goes -/
def kfS (kf : Nat → Nat) (i0 : Nat) : Nat → Nat := fun j => kf (skp i0 j)
def kfD (kf : Nat → Nat) (k i0 : Nat) : Nat → Nat := fun j => dkN k (kf (skp i0 j))
theorem dro_row {f : Nat → Int32} {m k k' e : Nat} (hk : k < m) (hk' : k' < m - 1) (he : e < 26) : droQ m k f (1375 + 26 * k' + e) = f (1375 + 26 * skp k k' + e) := by
  unfold droQ skp
  by_cases q : k' < k
  · rw [if_pos q, shV_out (by omega), upd_ne (by omega)]
  · rw [if_neg q, shV_in (by omega) (by omega), upd_ne (by omega), show 1375 + 26 * k' + e + 26 = 1375 + 26 * (k' + 1) + e by omega]
theorem dro_out {f : Nat → Int32} {m k j : Nat} (hm : m ≤ 20) (hj : j ≠ 30) (hj2 : j < 1375 ∨ 1895 ≤ j) : droQ m k f j = f j := by
  unfold droQ
  rw [shV_out (by omega), upd_ne hj]
section CMD7
variable {f g : Nat → Int32} {N : Nat} {kf pf : Nat → Nat} {R C n mh m m4 K D : Nat} {ha : Hal} {fi : Fnd} {se : Sea} {pe ho ti pa : Tab} {ac pr : Nat → Int32} {tm fc ru md : Int32}
/-- the reference's order has no other ticket -/
theorem tc_iff (hw : WF f N kf pf R C n mh m m4 K D) {i0 : Nat} (hi0 : i0 < N) : tcQ (putTQ f (kf i0) (pf i0) (nI 0) (nI 0) (nI 0) (nI 0)) (kf i0) n = 0 ↔ ∀ i, i < N → i ≠ i0 → kf i ≠ kf i0 := by
  obtain ⟨w1, w2, w3, w4, w5, w6, w7, w8, w9, w10⟩ := hw
  have hn := w2.2.1
  obtain ⟨t1, t2, t3, t4, t5, t6, t7, t8, t9, t10⟩ := w7
  obtain ⟨u1, u2⟩ := t3 i0 hi0
  unfold tcQ
  rw [fo_cnt0]
  constructor
  · intro h i hi hne hk
    have hp : pf i ≠ pf i0 := by
      rcases Nat.lt_or_ge i i0 with h | h
      · exact t5 i i0 h hi0 hk
      · exact fun w => t5 i0 i (by omega) hi hk.symm w.symm
    obtain ⟨r, c, s, b1, b2, b3, b4⟩ := t9 i hi
    have hpn := (t3 i hi).2
    refine h (pf i) hpn ?_
    have e1 : tsQ (putTQ f (kf i0) (pf i0) (nI 0) (nI 0) (nI 0) (nI 0)) (kf i0) (pf i) = f (tAt (kf i0) (pf i) + 2) := putTQ_ne (by omega) (by omega) (Or.inr hp) (by decide)
    rw [e1, ← hk, b3]
    have := b4.2.1
    have := b4.2.2.1
    exact nI_lt (a := 0) (by omega) (by omega)
  · intro h p hp
    by_cases q : p = pf i0
    · have e1 : tsQ (putTQ f (kf i0) (pf i0) (nI 0) (nI 0) (nI 0) (nI 0)) (kf i0) p = nI 0 := by
        rw [q]
        exact putTQ_at.2.2.1
      rw [e1]
      exact Int32.lt_irrefl
    · have e1 : tsQ (putTQ f (kf i0) (pf i0) (nI 0) (nI 0) (nI 0) (nI 0)) (kf i0) p = f (tAt (kf i0) p + 2) := putTQ_ne (by omega) (by omega) (Or.inr q) (by decide)
      rw [e1, t10 (kf i0) u1 p (by omega) (fun i hi hk w => ?_)]
      · exact Int32.lt_irrefl
      · by_cases e : i = i0
        · exact q (by rw [← w, e])
        · exact h i hi e hk
theorem rem1_wf (hw : WF f N kf pf R C n mh m m4 K D) {i0 : Nat} (hi0 : i0 < N) (hot : ¬ ∀ i, i < N → i ≠ i0 → kf i ≠ kf i0) : WF (putTQ f (kf i0) (pf i0) (nI 0) (nI 0) (nI 0) (nI 0)) (N - 1) (kfS kf i0) (kfS pf i0) R C n mh m m4 K D := by
  obtain ⟨w1, w2, w3, w4, w5, w6, w7, w8, w9, w10⟩ := hw
  have hR := w1.2.2.2.1
  have hC := w1.2.2.2.2.2.1
  have hn := w2.2.1
  obtain ⟨t1, t2, t3, t4, t5, t6, t7, t8, t9, t10⟩ := w7
  obtain ⟨u1, u2⟩ := t3 i0 hi0
  have lo : ∀ j, (j < 1375 + 26 * kf i0 + 2 ∨ 1375 + 26 * kf i0 + 26 ≤ j) → putTQ f (kf i0) (pf i0) (nI 0) (nI 0) (nI 0) (nI 0) j = f j := fun j h => putTQ_out (by omega)
  have num : ∀ k e, e < 2 → putTQ f (kf i0) (pf i0) (nI 0) (nI 0) (nI 0) (nI 0) (1375 + 26 * k + e) = f (1375 + 26 * k + e) := fun k e he => lo _ (by omega)
  have tk : ∀ k p e, p < 6 → e < 4 → (k ≠ kf i0 ∨ p ≠ pf i0) → putTQ f (kf i0) (pf i0) (nI 0) (nI 0) (nI 0) (nI 0) (tAt k p + e) = f (tAt k p + e) := fun k p e hp he h => putTQ_ne (by omega) hp h he
  have z2 : putTQ f (kf i0) (pf i0) (nI 0) (nI 0) (nI 0) (nI 0) (tAt (kf i0) (pf i0) + 2) = nI 0 := putTQ_at.2.2.1
  generalize putTQ f (kf i0) (pf i0) (nI 0) (nI 0) (nI 0) (nI 0) = g at lo num tk z2
  have k43 : agr f g 43 139 := fun j h1 h2 => lo j (by omega)
  have bl : ∀ {r c s : Nat}, wBlk f R C r c s → wBlk g R C r c s := fun h => wBlk_fr k43 hR hC h
  have inj : ∀ i, i < N → i ≠ i0 → (kf i ≠ kf i0 ∨ pf i ≠ pf i0) := fun i hi hne => by
    by_cases q : kf i = kf i0
    · right
      rcases Nat.lt_or_ge i i0 with h | h
      · exact t5 i i0 h hi0 q
      · exact fun w => t5 i0 i (by omega) hi q.symm w.symm
    · exact Or.inl q
  refine ⟨wHal_fr (lo 0 (by omega)) (lo 1 (by omega)) k43 w1, wPer_fr (lo 9 (by omega)) (fun j h1 h2 => lo j (by omega)) w2, wSea_fr k43 (fun j h1 h2 => lo j (by omega)) w3, wTim_fr (lo 7 (by omega)) (lo 8 (by omega)) w4, ⟨(lo 32 (by omega)).trans w5.1, (lo 28 (by omega)).trans w5.2.1, w5.2.2⟩, wHol_fr (lo 29 (by omega)) k43 (fun j h1 h2 => lo j (by omega)) hR hC (Nat.le_refl _) (Nat.le_refl _) w6, ⟨(lo 30 (by omega)).trans t1, t2, fun j hj => t3 _ (skp_lt hi0 hj), fun i j hij hj => ?_, fun i j hij hj hk => t5 _ _ (skp_mono hij) (skp_lt hi0 hj) hk, fun k hk => ?_, fun k hk => ?_, fun k k' hkk hk' => ?_, fun j hj => ?_, fun k hk p hp hn2 => ?_⟩, fun i hi k hk => ?_, ⟨(lo 31 (by omega)).trans w9.1, w9.2⟩, fun j hj => (lo j (by omega)).trans (w10 j hj)⟩
  · refine t4 _ _ ?_ (skp_lt hi0 hj)
    rcases Nat.lt_or_ge i j with h | h
    · exact Nat.le_of_lt (skp_mono h)
    · rw [show i = j by omega]
      exact Nat.le_refl _
  · obtain ⟨i, hi, hk2⟩ := t6 k hk
    by_cases q : i = i0
    · have : ∃ i', i' < N ∧ i' ≠ i0 ∧ kf i' = kf i0 := Classical.byContradiction fun z => hot fun i' h1 h2 h3 => z ⟨i', h1, h2, h3⟩
      obtain ⟨i', h1, h2, h3⟩ := this
      obtain ⟨j, hj, e⟩ := skp_ex h1 hi0 h2
      exact ⟨j, hj, by unfold kfS; rw [e, h3, ← hk2, q]⟩
    · obtain ⟨j, hj, e⟩ := skp_ex hi hi0 q
      exact ⟨j, hj, by unfold kfS; rw [e]; exact hk2⟩
  · obtain ⟨nu, cu, e1, e2, e3, e4⟩ := t7 k hk
    exact ⟨nu, cu, (num k 0 (by decide)).trans e1, e2, (num k 1 (by decide)).trans e3, e4⟩
  · have n1 := num k 0 (by decide)
    have n2 := num k' 0 (by decide)
    rw [Nat.add_zero] at n1 n2
    rw [n1, n2]
    exact t8 k k' hkk hk'
  · unfold kfS
    obtain ⟨r, c, s, b1, b2, b3, b4⟩ := t9 _ (skp_lt hi0 hj)
    have hb6 := (t3 _ (skp_lt hi0 hj)).2
    have hd := inj _ (skp_lt hi0 hj) skp_ne
    exact ⟨r, c, s, (tk _ _ 0 (by omega) (by decide) hd).trans b1, (tk _ _ 1 (by omega) (by decide) hd).trans b2, (tk _ _ 2 (by omega) (by decide) hd).trans b3, bl b4⟩
  · by_cases q : k = kf i0 ∧ p = pf i0
    · rw [q.1, q.2]
      exact z2
    · have hd : k ≠ kf i0 ∨ p ≠ pf i0 := by
        by_cases q1 : k = kf i0
        · exact Or.inr fun z => q ⟨q1, z⟩
        · exact Or.inl q1
      rw [tk k p 2 hp (by decide) hd]
      refine t10 k hk p hp fun i hi hk2 w => ?_
      have hne : i ≠ i0 := fun z => q ⟨by rw [← hk2, z], by rw [← w, z]⟩
      obtain ⟨j, hj, e⟩ := skp_ex hi hi0 hne
      refine hn2 j hj ?_ ?_
      · unfold kfS; rw [e]; exact hk2
      · unfold kfS; rw [e]; exact w
  · have n2 := num k 0 (by decide)
    rw [Nat.add_zero] at n2
    have := w6.2.1
    rw [n2, lo _ (by omega)]
    exact w8 i hi k hk
theorem rem2_wf (hw : WF f N kf pf R C n mh m m4 K D) {i0 : Nat} (hi0 : i0 < N) (hot : ∀ i, i < N → i ≠ i0 → kf i ≠ kf i0) : WF (droQ m (kf i0) (putTQ f (kf i0) (pf i0) (nI 0) (nI 0) (nI 0) (nI 0))) (N - 1) (kfD kf (kf i0) i0) (kfS pf i0) R C n mh (m - 1) m4 K D := by
  obtain ⟨w1, w2, w3, w4, w5, w6, w7, w8, w9, w10⟩ := hw
  have hR := w1.2.2.2.1
  have hC := w1.2.2.2.2.2.1
  have hn := w2.2.1
  obtain ⟨t1, t2, t3, t4, t5, t6, t7, t8, t9, t10⟩ := w7
  obtain ⟨u1, u2⟩ := t3 i0 hi0
  have lo : ∀ j, j ≠ 30 → (j < 1375 ∨ 1895 ≤ j) → droQ m (kf i0) (putTQ f (kf i0) (pf i0) (nI 0) (nI 0) (nI 0) (nI 0)) j = f j := fun j h1 h2 => (dro_out t2 h1 h2).trans (putTQ_out (by omega))
  have row : ∀ k e, k < m - 1 → e < 26 → droQ m (kf i0) (putTQ f (kf i0) (pf i0) (nI 0) (nI 0) (nI 0) (nI 0)) (1375 + 26 * k + e) = f (1375 + 26 * skp (kf i0) k + e) := fun k e hk he => by
    have hne : skp (kf i0) k ≠ kf i0 := skp_ne
    rw [dro_row u1 hk he]
    refine putTQ_out ?_
    rcases Nat.lt_or_ge (skp (kf i0) k) (kf i0) with h | h
    · omega
    · omega
  have q30 : droQ m (kf i0) (putTQ f (kf i0) (pf i0) (nI 0) (nI 0) (nI 0) (nI 0)) 30 = nI (m - 1) := by
    unfold droQ
    rw [shV_out (by omega), upd_same]
  generalize droQ m (kf i0) (putTQ f (kf i0) (pf i0) (nI 0) (nI 0) (nI 0) (nI 0)) = g at lo row q30
  have tk : ∀ k p e, k < m - 1 → p < 6 → e < 4 → g (tAt k p + e) = f (tAt (skp (kf i0) k) p + e) := fun k p e hk hp he => by
    have := row k (2 + 4 * p + e) hk (by omega)
    unfold tAt
    rwa [show 1375 + 26 * k + (2 + 4 * p + e) = 1375 + 26 * k + 2 + 4 * p + e by omega, show 1375 + 26 * skp (kf i0) k + (2 + 4 * p + e) = 1375 + 26 * skp (kf i0) k + 2 + 4 * p + e by omega] at this
  have k43 : agr f g 43 139 := fun j h1 h2 => lo j (by omega) (by omega)
  have bl : ∀ {r c s : Nat}, wBlk f R C r c s → wBlk g R C r c s := fun h => wBlk_fr k43 hR hC h
  have kd : ∀ j, j < N - 1 → kfD kf (kf i0) i0 j < m - 1 ∧ skp (kf i0) (kfD kf (kf i0) i0 j) = kf (skp i0 j) := fun j hj => by
    have h1 := hot _ (skp_lt hi0 hj) skp_ne
    have h2 := (t3 _ (skp_lt hi0 hj)).1
    refine ⟨?_, skp_dk h1⟩
    unfold kfD dkN
    split <;> omega
  have sk : ∀ k, k < m - 1 → skp (kf i0) k < m := fun k hk => skp_lt u1 hk
  refine ⟨wHal_fr (lo 0 (by omega) (by omega)) (lo 1 (by omega) (by omega)) k43 w1, wPer_fr (lo 9 (by omega) (by omega)) (fun j h1 h2 => lo j (by omega) (by omega)) w2, wSea_fr k43 (fun j h1 h2 => lo j (by omega) (by omega)) w3, wTim_fr (lo 7 (by omega) (by omega)) (lo 8 (by omega) (by omega)) w4, ⟨(lo 32 (by omega) (by omega)).trans w5.1, (lo 28 (by omega) (by omega)).trans w5.2.1, w5.2.2⟩, wHol_fr (lo 29 (by omega) (by omega)) k43 (fun j h1 h2 => lo j (by omega) (by omega)) hR hC (Nat.le_refl _) (Nat.le_refl _) w6, ⟨q30, by omega, fun j hj => ⟨(kd j hj).1, (t3 _ (skp_lt hi0 hj)).2⟩, fun i j hij hj => ?_, fun i j hij hj hk => ?_, fun k hk => ?_, fun k hk => ?_, fun k k' hkk hk' => ?_, fun j hj => ?_, fun k hk p hp hn2 => ?_⟩, fun i hi k hk => ?_, ⟨(lo 31 (by omega) (by omega)).trans w9.1, w9.2⟩, fun j hj => (lo j (by omega) (by omega)).trans (w10 j hj)⟩
  · have h1 : kf (skp i0 i) ≤ kf (skp i0 j) := by
      refine t4 _ _ ?_ (skp_lt hi0 hj)
      rcases Nat.lt_or_ge i j with h | h
      · exact Nat.le_of_lt (skp_mono h)
      · rw [show i = j by omega]
        exact Nat.le_refl _
    unfold kfD dkN
    split <;> split <;> omega
  · have h1 := (kd i (by omega)).2
    have h2 := (kd j hj).2
    rw [hk] at h1
    exact t5 _ _ (skp_mono hij) (skp_lt hi0 hj) (h1.symm.trans h2)
  · obtain ⟨i, hi, hk2⟩ := t6 _ (sk k hk)
    have hne : i ≠ i0 := fun z => (skp_ne (i := kf i0) (j := k)) (by rw [← hk2, z])
    obtain ⟨j, hj, e⟩ := skp_ex hi hi0 hne
    exact ⟨j, hj, by unfold kfD; rw [e, hk2]; exact dk_skp⟩
  · obtain ⟨nu, cu, e1, e2, e3, e4⟩ := t7 _ (sk k hk)
    exact ⟨nu, cu, (row k 0 hk (by decide)).trans e1, e2, (row k 1 hk (by decide)).trans e3, e4⟩
  · have n1 := row k 0 (by omega) (by decide)
    have n2 := row k' 0 hk' (by decide)
    rw [Nat.add_zero, Nat.add_zero] at n1 n2
    rw [n1, n2]
    exact t8 _ _ (skp_mono hkk) (sk k' hk')
  · obtain ⟨h1, h2⟩ := kd j hj
    obtain ⟨r, c, s, b1, b2, b3, b4⟩ := t9 _ (skp_lt hi0 hj)
    have hb6 := (t3 _ (skp_lt hi0 hj)).2
    have k0 := tk (kfD kf (kf i0) i0 j) (kfS pf i0 j) 0 h1 (by unfold kfS; omega) (by decide)
    have k1 := tk (kfD kf (kf i0) i0 j) (kfS pf i0 j) 1 h1 (by unfold kfS; omega) (by decide)
    have k2 := tk (kfD kf (kf i0) i0 j) (kfS pf i0 j) 2 h1 (by unfold kfS; omega) (by decide)
    rw [h2] at k0 k1 k2
    exact ⟨r, c, s, k0.trans b1, k1.trans b2, k2.trans b3, bl b4⟩
  · rw [tk k p 2 hk hp (by decide)]
    refine t10 _ (sk k hk) p hp fun i hi hk2 w => ?_
    have hne : i ≠ i0 := fun z => (skp_ne (i := kf i0) (j := k)) (by rw [← hk2, z])
    obtain ⟨j, hj, e⟩ := skp_ex hi hi0 hne
    refine hn2 j hj ?_ ?_
    · unfold kfD; rw [e, hk2]; exact dk_skp
    · unfold kfS; rw [e]; exact w
  · have n2 := row k 0 hk (by decide)
    rw [Nat.add_zero, Nat.add_zero] at n2
    have := w6.2.1
    rw [n2, lo _ (by omega) (by omega)]
    exact w8 i hi _ (sk k hk)
theorem rem1_mat (hw : WF f N kf pf R C n mh m m4 K D) (hm : Mat (ha, fi, se, pe, ho, ti, pa, ac, pr, tm, fc, ru, md) f N kf pf R C n mh m4) {i0 : Nat} (hi0 : i0 < N) : Mat (ha, fi, se, pe, ho, remV 7 ti i0, pa, ac, pr, tm, fc, ru, md) (putTQ f (kf i0) (pf i0) (nI 0) (nI 0) (nI 0) (nI 0)) (N - 1) (kfS kf i0) (kfS pf i0) R C n mh m4 := by
  obtain ⟨w1, w2, w3, w4, w5, w6, w7, w8, w9, w10⟩ := hw
  obtain ⟨a1, a2, a3, a4, a5, a6, a7, a8, a9, a10, a11, a12⟩ := hm
  have hn := w2.2.1
  obtain ⟨t1, t2, t3, t4, t5, t6, t7, t8, t9, t10⟩ := w7
  obtain ⟨u1, u2⟩ := t3 i0 hi0
  have lo : ∀ j, (j < 1375 + 26 * kf i0 + 2 ∨ 1375 + 26 * kf i0 + 26 ≤ j) → putTQ f (kf i0) (pf i0) (nI 0) (nI 0) (nI 0) (nI 0) j = f j := fun j h => putTQ_out (by omega)
  have num : ∀ k e, e < 2 → putTQ f (kf i0) (pf i0) (nI 0) (nI 0) (nI 0) (nI 0) (1375 + 26 * k + e) = f (1375 + 26 * k + e) := fun k e he => lo _ (by omega)
  have tk : ∀ k p e, p < 6 → e < 4 → (k ≠ kf i0 ∨ p ≠ pf i0) → putTQ f (kf i0) (pf i0) (nI 0) (nI 0) (nI 0) (nI 0) (tAt k p + e) = f (tAt k p + e) := fun k p e hp he h => putTQ_ne (by omega) hp h he
  generalize putTQ f (kf i0) (pf i0) (nI 0) (nI 0) (nI 0) (nI 0) = g at lo num tk
  dsimp only [oTi] at a5
  have inj : ∀ i, i < N → i ≠ i0 → (kf i ≠ kf i0 ∨ pf i ≠ pf i0) := fun i hi hne => by
    by_cases q : kf i = kf i0
    · right
      rcases Nat.lt_or_ge i i0 with h | h
      · exact t5 i i0 h hi0 q
      · exact fun w => t5 i0 i (by omega) hi q.symm w.symm
    · exact Or.inl q
  refine ⟨mHal_fr (fun j h1 h2 => lo j (by omega)) a1, mPer_fr hn (fun j h1 h2 => lo j (by omega)) a2, mSea_fr (fun j h1 h2 => lo j (by omega)) (fun j h1 h2 => lo j (by omega)) a3, mHol_fr w6.2.1 (fun j h1 h2 => lo j (by omega)) a4, ⟨?_, fun j hj => ?_⟩, mPay_fr w9.2 (fun j h1 h2 => lo j (by omega)) a6, mAcc_fr (fun j h1 h2 => lo j (by omega)) a7, mPri_fr (fun j h1 h2 => lo j (by omega)) a8, a9.trans (lo 8 (by omega)).symm, a10.trans (lo 6 (by omega)).symm, a11.trans (lo 7 (by omega)).symm, a12.trans (lo 28 (by omega)).symm⟩
  · show ti.1 - 1 = N - 1
    rw [a5.1]
  · have hi' : i0 < ti.1 := by rw [a5.1]; exact hi0
    have hj' : j < ti.1 - 1 := by rw [a5.1]; exact hj
    have hlt := skp_lt hi0 hj
    obtain ⟨e0, e1, e2, e3, e4, e5, e6⟩ := a5.2 _ hlt
    have hd := inj _ hlt skp_ne
    have hb6 := (t3 _ hlt).2
    dsimp only [oTi]
    have rr : ∀ k, k < 7 → (remV 7 ti i0).2 (j * 7 + k) = ti.2 (skp i0 j * 7 + k) := fun k hk => rem_row hi' hj' hk
    have r0 := rr 0 (by decide)
    have n0 := num (kf (skp i0 j)) 0 (by decide)
    have k0 := tk (kf (skp i0 j)) (pf (skp i0 j)) 0 (by omega) (by decide) hd
    rw [Nat.add_zero, Nat.add_zero] at r0
    rw [Nat.add_zero] at n0 k0
    unfold kfS
    exact ⟨r0.trans (e0.trans (num _ 1 (by decide)).symm), (rr 1 (by decide)).trans (e1.trans k0.symm), (rr 2 (by decide)).trans (e2.trans (tk _ _ 1 (by omega) (by decide) hd).symm), (rr 3 (by decide)).trans (e3.trans (tk _ _ 2 (by omega) (by decide) hd).symm), (rr 4 (by decide)).trans (e4.trans (tk _ _ 3 (by omega) (by decide) hd).symm), (rr 5 (by decide)).trans (e5.trans n0.symm), (rr 6 (by decide)).trans e6⟩
theorem rem2_mat (hw : WF f N kf pf R C n mh m m4 K D) (hm : Mat (ha, fi, se, pe, ho, ti, pa, ac, pr, tm, fc, ru, md) f N kf pf R C n mh m4) {i0 : Nat} (hi0 : i0 < N) (hot : ∀ i, i < N → i ≠ i0 → kf i ≠ kf i0) : Mat (ha, fi, se, pe, ho, remV 7 ti i0, pa, ac, pr, tm, fc, ru, md) (droQ m (kf i0) (putTQ f (kf i0) (pf i0) (nI 0) (nI 0) (nI 0) (nI 0))) (N - 1) (kfD kf (kf i0) i0) (kfS pf i0) R C n mh m4 := by
  obtain ⟨w1, w2, w3, w4, w5, w6, w7, w8, w9, w10⟩ := hw
  obtain ⟨a1, a2, a3, a4, a5, a6, a7, a8, a9, a10, a11, a12⟩ := hm
  have hn := w2.2.1
  obtain ⟨t1, t2, t3, t4, t5, t6, t7, t8, t9, t10⟩ := w7
  obtain ⟨u1, u2⟩ := t3 i0 hi0
  have lo : ∀ j, j ≠ 30 → (j < 1375 ∨ 1895 ≤ j) → droQ m (kf i0) (putTQ f (kf i0) (pf i0) (nI 0) (nI 0) (nI 0) (nI 0)) j = f j := fun j h1 h2 => (dro_out t2 h1 h2).trans (putTQ_out (by omega))
  have row : ∀ k e, k < m - 1 → e < 26 → droQ m (kf i0) (putTQ f (kf i0) (pf i0) (nI 0) (nI 0) (nI 0) (nI 0)) (1375 + 26 * k + e) = f (1375 + 26 * skp (kf i0) k + e) := fun k e hk he => by
    have hne : skp (kf i0) k ≠ kf i0 := skp_ne
    rw [dro_row u1 hk he]
    refine putTQ_out ?_
    rcases Nat.lt_or_ge (skp (kf i0) k) (kf i0) with h | h
    · omega
    · omega
  generalize droQ m (kf i0) (putTQ f (kf i0) (pf i0) (nI 0) (nI 0) (nI 0) (nI 0)) = g at lo row
  have tk : ∀ k p e, k < m - 1 → p < 6 → e < 4 → g (tAt k p + e) = f (tAt (skp (kf i0) k) p + e) := fun k p e hk hp he => by
    have := row k (2 + 4 * p + e) hk (by omega)
    unfold tAt
    rwa [show 1375 + 26 * k + (2 + 4 * p + e) = 1375 + 26 * k + 2 + 4 * p + e by omega, show 1375 + 26 * skp (kf i0) k + (2 + 4 * p + e) = 1375 + 26 * skp (kf i0) k + 2 + 4 * p + e by omega] at this
  have kd : ∀ j, j < N - 1 → kfD kf (kf i0) i0 j < m - 1 ∧ skp (kf i0) (kfD kf (kf i0) i0 j) = kf (skp i0 j) := fun j hj => by
    have h1 := hot _ (skp_lt hi0 hj) skp_ne
    have h2 := (t3 _ (skp_lt hi0 hj)).1
    refine ⟨?_, skp_dk h1⟩
    unfold kfD dkN
    split <;> omega
  dsimp only [oTi] at a5
  refine ⟨mHal_fr (fun j h1 h2 => lo j (by omega) (by omega)) a1, mPer_fr hn (fun j h1 h2 => lo j (by omega) (by omega)) a2, mSea_fr (fun j h1 h2 => lo j (by omega) (by omega)) (fun j h1 h2 => lo j (by omega) (by omega)) a3, mHol_fr w6.2.1 (fun j h1 h2 => lo j (by omega) (by omega)) a4, ⟨?_, fun j hj => ?_⟩, mPay_fr w9.2 (fun j h1 h2 => lo j (by omega) (by omega)) a6, mAcc_fr (fun j h1 h2 => lo j (by omega) (by omega)) a7, mPri_fr (fun j h1 h2 => lo j (by omega) (by omega)) a8, a9.trans (lo 8 (by omega) (by omega)).symm, a10.trans (lo 6 (by omega) (by omega)).symm, a11.trans (lo 7 (by omega) (by omega)).symm, a12.trans (lo 28 (by omega) (by omega)).symm⟩
  · show ti.1 - 1 = N - 1
    rw [a5.1]
  · have hi' : i0 < ti.1 := by rw [a5.1]; exact hi0
    have hj' : j < ti.1 - 1 := by rw [a5.1]; exact hj
    have hlt := skp_lt hi0 hj
    obtain ⟨e0, e1, e2, e3, e4, e5, e6⟩ := a5.2 _ hlt
    have hb6 := (t3 _ hlt).2
    obtain ⟨h1, h2⟩ := kd j hj
    dsimp only [oTi]
    have rr : ∀ k, k < 7 → (remV 7 ti i0).2 (j * 7 + k) = ti.2 (skp i0 j * 7 + k) := fun k hk => rem_row hi' hj' hk
    have r0 := rr 0 (by decide)
    have n0 := row (kfD kf (kf i0) i0 j) 0 h1 (by decide)
    have n1 := row (kfD kf (kf i0) i0 j) 1 h1 (by decide)
    have k0 := tk (kfD kf (kf i0) i0 j) (kfS pf i0 j) 0 h1 (by unfold kfS; omega) (by decide)
    have k1 := tk (kfD kf (kf i0) i0 j) (kfS pf i0 j) 1 h1 (by unfold kfS; omega) (by decide)
    have k2 := tk (kfD kf (kf i0) i0 j) (kfS pf i0 j) 2 h1 (by unfold kfS; omega) (by decide)
    have k3 := tk (kfD kf (kf i0) i0 j) (kfS pf i0 j) 3 h1 (by unfold kfS; omega) (by decide)
    rw [Nat.add_zero, Nat.add_zero] at r0 n0 k0
    rw [h2] at n0 n1 k0 k1 k2 k3
    exact ⟨r0.trans (e0.trans n1.symm), (rr 1 (by decide)).trans (e1.trans k0.symm), (rr 2 (by decide)).trans (e2.trans k1.symm), (rr 3 (by decide)).trans (e3.trans k2.symm), (rr 4 (by decide)).trans (e4.trans k3.symm), (rr 5 (by decide)).trans (e5.trans n0.symm), (rr 6 (by decide)).trans e6⟩
theorem bck_eq {a T : Nat} {am : Int32} (ha : a ≤ 100000) (hT : T ≤ 100000) : bckV (nI a) (nI T) am = if nI T + nI 120 ≤ nI a then am else am / nI 2 := by
  unfold bckV
  have h : nI a - nI T < nI 120 ↔ ¬ nI T + nI 120 ≤ nI a := by
    rw [nI_add, nI_leI (by omega) (by omega), Int32.lt_iff_toInt_lt, pk_sub_toInt (by omega) (by omega), nI_toInt (by decide)]
    omega
  by_cases q : nI T + nI 120 ≤ nI a
  · rw [if_pos q, if_neg (fun z => h.mp z q)]
  · rw [if_neg q, if_pos (h.mpr q)]
end CMD7
