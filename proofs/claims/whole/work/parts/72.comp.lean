/-! what ties an Office's value to the reference's numbers: all of it -/
abbrev agr (f g : Nat → Int32) (a b : Nat) : Prop := ∀ j, a ≤ j → j < b → g j = f j
def wTim (f : Nat → Int32) : Prop := (∃ T, T ≤ 100000 ∧ f 8 = nI T) ∧ (f 7 = nI 0 ∨ f 7 = nI 1)
def wNum (f : Nat → Int32) (K D : Nat) : Prop := f 32 = nI K ∧ f 28 = nI D ∧ D ≤ K
def wBlk (f : Nat → Int32) (R C r c s : Nat) : Prop := r < R ∧ 1 ≤ s ∧ s ≤ 8 ∧ c + s ≤ C ∧ ∀ i, i < s → ¬ f (43 + 12 * r + (c + i)) = nI 0
def wHol (f : Nat → Int32) (mh n R C D : Nat) : Prop := f 29 = nI mh ∧ mh ≤ 12 ∧ (∀ i, i < mh → ∃ nu cu S r c s, f (1291 + 7 * i) = nI nu ∧ nu < D ∧ f (1291 + 7 * i + 1) = nI cu ∧ cu < 10 ∧ f (1291 + 7 * i + 2) = nI S ∧ 1 ≤ S ∧ S < 2 ^ n ∧ f (1291 + 7 * i + 3) = nI r ∧ f (1291 + 7 * i + 4) = nI c ∧ f (1291 + 7 * i + 5) = nI s ∧ wBlk f R C r c s) ∧ ∀ i j, i < j → j < mh → ¬ f (1291 + 7 * i) = f (1291 + 7 * j)
def mHol (ho : Tab) (f : Nat → Int32) (mh : Nat) : Prop := ho.1 = mh ∧ ∀ i, i < mh → ho.2 (i * 7 + 6) = f (1291 + 7 * i) ∧ ∀ k, k < 6 → ho.2 (i * 7 + k) = f (1291 + 7 * i + (k + 1))
def tAt (k p : Nat) : Nat := 1375 + 26 * k + 2 + 4 * p
def wTic (f : Nat → Int32) (m N : Nat) (kf pf : Nat → Nat) (n R C D : Nat) : Prop := f 30 = nI m ∧ m ≤ 20 ∧ (∀ i, i < N → kf i < m ∧ pf i < n) ∧ (∀ i j, i ≤ j → j < N → kf i ≤ kf j) ∧ (∀ i j, i < j → j < N → kf i = kf j → pf i ≠ pf j) ∧ (∀ k, k < m → ∃ i, i < N ∧ kf i = k) ∧ (∀ k, k < m → ∃ nu cu, f (1375 + 26 * k) = nI nu ∧ nu < D ∧ f (1375 + 26 * k + 1) = nI cu ∧ cu < 10) ∧ (∀ k k', k < k' → k' < m → ¬ f (1375 + 26 * k) = f (1375 + 26 * k')) ∧ (∀ i, i < N → ∃ r c s, f (tAt (kf i) (pf i)) = nI r ∧ f (tAt (kf i) (pf i) + 1) = nI c ∧ f (tAt (kf i) (pf i) + 2) = nI s ∧ wBlk f R C r c s) ∧ ∀ k, k < m → ∀ p, p < 6 → (∀ i, i < N → kf i = k → pf i ≠ p) → f (tAt k p + 2) = nI 0
def mTic (ti : Tab) (f : Nat → Int32) (N : Nat) (kf pf : Nat → Nat) : Prop := ti.1 = N ∧ ∀ i, i < N → ti.2 (i * 7) = f (1375 + 26 * kf i + 1) ∧ ti.2 (i * 7 + 1) = f (tAt (kf i) (pf i)) ∧ ti.2 (i * 7 + 2) = f (tAt (kf i) (pf i) + 1) ∧ ti.2 (i * 7 + 3) = f (tAt (kf i) (pf i) + 2) ∧ ti.2 (i * 7 + 4) = f (tAt (kf i) (pf i) + 3) ∧ ti.2 (i * 7 + 5) = f (1375 + 26 * kf i) ∧ ti.2 (i * 7 + 6) = nI (pf i)
def wDis (f : Nat → Int32) (mh m : Nat) : Prop := ∀ i, i < mh → ∀ k, k < m → ¬ f (1291 + 7 * i) = f (1375 + 26 * k)
def wPay (f : Nat → Int32) (m4 : Nat) : Prop := f 31 = nI m4 ∧ m4 ≤ 40
def mPay (pa : Tab) (f : Nat → Int32) (m4 : Nat) : Prop := pa.1 = m4 ∧ ∀ j, j < m4 * 3 → pa.2 j = f (1895 + j)
def mAcc (ac f : Nat → Int32) : Prop := ∀ c, c < 10 → ac c = f (33 + c)
def mPri (pr f : Nat → Int32) : Prop := ∀ j, j < 4 → pr j = f (2 + j)
abbrev zOut (f : Nat → Int32) : Prop := ∀ j, 2015 ≤ j → f j = nI 0
section FRAME
variable {f g : Nat → Int32} {R C n m N mh m4 K D r c s : Nat} {kf pf : Nat → Nat}
theorem agr_sub {a b a' b' : Nat} (h : agr f g a b) (h1 : a ≤ a') (h2 : b' ≤ b) : agr f g a' b' := fun j p q => h j (by omega) (by omega)
theorem wHal_fr (h0 : g 0 = f 0) (h1 : g 1 = f 1) (h2 : agr f g 43 139) (h : wHal f R C) : wHal g R C := by
  obtain ⟨w0, w1, w2, w3, w4, w5, w6, w7⟩ := h
  exact ⟨h0.trans w0, h1.trans w1, w2, w3, w4, w5, agr_kn h2 w6, fun i hi hn => (h2 (43 + i) (by omega) (by omega)).trans (w7 i hi hn)⟩
theorem stN_fr (h2 : agr f g 43 139) : stN g = stN f := fo_congr _ (fun i t hi => by rw [h2 (43 + i) (by omega) (by omega)])
theorem mHal_fr {ha : Hal} (h2 : agr f g 43 139) (h : mHal ha f R C) : mHal ha g R C := by
  obtain ⟨m1, m2, m3, m5, m6⟩ := h
  refine ⟨m1, m2, ?_, m5, fun i hi hin => ?_⟩
  · rw [stN_fr h2]
    exact m3
  · rw [h2 (43 + i) (by omega) (by omega)]
    exact m6 i hi hin
theorem wPer_fr (h9 : g 9 = f 9) (h2 : agr f g 10 28) (h : wPer f n) : wPer g n := by
  obtain ⟨w0, w1, w2, w3⟩ := h
  refine ⟨h9.trans w0, w1, fun p hp => ?_, fun p h3 h4 => (h2 (22 + p) (by omega) (by omega)).trans (w3 p h3 h4)⟩
  obtain ⟨k, h3, h4⟩ := w2 p hp
  exact ⟨k, h3, (h2 (10 + p) (by omega) (by omega)).trans h4⟩
theorem mPer_fr {pe : Tab} (hn : n ≤ 6) (h2 : agr f g 10 28) (h : mPer pe f n) : mPer pe g n := by
  obtain ⟨m1, m2⟩ := h
  refine ⟨m1, fun p hp => ?_⟩
  rw [h2 (10 + p) (by omega) (by omega), h2 (16 + p) (by omega) (by omega), h2 (22 + p) (by omega) (by omega)]
  exact m2 p hp
theorem isS_fr (h2 : agr f g 43 139) {j : Nat} : isS g n j ↔ isS f n j := by
  unfold isS
  rw [h2 (43 + j % 96) (by omega) (by omega)]
theorem wSea_fr (h1 : agr f g 43 139) (h2 : agr f g 139 1291) (h : wSea f n) : wSea g n := by
  intro j hj
  rw [h2 (139 + j) (by omega) (by omega), h2 (715 + j) (by omega) (by omega), isS_fr h1]
  exact h j hj
theorem mSea_fr {se : Sea} (h1 : agr f g 43 139) (h2 : agr f g 139 1291) (h : mSea se f n) : mSea se g n := by
  intro j hj
  rw [h2 (139 + j) (by omega) (by omega), h2 (715 + j) (by omega) (by omega)]
  have := h j hj
  refine ⟨?_, this.2⟩
  rw [this.1]
  by_cases q : isS f n j
  · rw [if_pos q, if_pos ((isS_fr h1).mpr q)]
  · rw [if_neg q, if_neg (fun z => q ((isS_fr h1).mp z))]
theorem wTim_fr (h1 : g 7 = f 7) (h2 : g 8 = f 8) (h : wTim f) : wTim g := by
  obtain ⟨⟨T, h3, h4⟩, h5⟩ := h
  exact ⟨⟨T, h3, h2.trans h4⟩, by rw [h1]; exact h5⟩
theorem wBlk_fr (h1 : agr f g 43 139) (hR : R ≤ 8) (hC : C ≤ 12) (h : wBlk f R C r c s) : wBlk g R C r c s := by
  obtain ⟨b1, b2, b3, b4, b5⟩ := h
  refine ⟨b1, b2, b3, b4, fun i hi => ?_⟩
  rw [h1 (43 + 12 * r + (c + i)) (by omega) (by omega)]
  exact b5 i hi
theorem wHol_fr (h29 : g 29 = f 29) (h1 : agr f g 43 139) (h2 : agr f g 1291 1375) (hR : R ≤ 8) (hC : C ≤ 12) {D' n' : Nat} (hD : D ≤ D') (hnn : n ≤ n') (h : wHol f mh n R C D) : wHol g mh n' R C D' := by
  obtain ⟨w1, w2, w3, w4⟩ := h
  refine ⟨h29.trans w1, w2, fun i hi => ?_, fun i j hij hj => ?_⟩
  · obtain ⟨nu, cu, S, r, c, s, e0, e1, e2, e3, e4, e5, e6, e7, e8, e9, e10⟩ := w3 i hi
    have hpow : 2 ^ n ≤ 2 ^ n' := Nat.pow_le_pow_right (by decide) hnn
    exact ⟨nu, cu, S, r, c, s, (h2 _ (by omega) (by omega)).trans e0, by omega, (h2 _ (by omega) (by omega)).trans e2, e3, (h2 _ (by omega) (by omega)).trans e4, e5, by omega, (h2 _ (by omega) (by omega)).trans e7, (h2 _ (by omega) (by omega)).trans e8, (h2 _ (by omega) (by omega)).trans e9, wBlk_fr h1 hR hC e10⟩
  · rw [h2 (1291 + 7 * i) (by omega) (by omega), h2 (1291 + 7 * j) (by omega) (by omega)]
    exact w4 i j hij hj
theorem mHol_fr {ho : Tab} (hm : mh ≤ 12) (h2 : agr f g 1291 1375) (h : mHol ho f mh) : mHol ho g mh := by
  obtain ⟨m1, m2⟩ := h
  refine ⟨m1, fun i hi => ?_⟩
  obtain ⟨e1, e2⟩ := m2 i hi
  exact ⟨e1.trans (h2 _ (by omega) (by omega)).symm, fun k hk => (e2 k hk).trans (h2 _ (by omega) (by omega)).symm⟩
theorem wTic_fr (h30 : g 30 = f 30) (h1 : agr f g 43 139) (h2 : agr f g 1375 1895) (hR : R ≤ 8) (hC : C ≤ 12) (hn : n ≤ 6) {D' n' : Nat} (hD : D ≤ D') (hnn : n ≤ n') (h : wTic f m N kf pf n R C D) : wTic g m N kf pf n' R C D' := by
  obtain ⟨w1, w2, w3, w4, w5, w6, w7, w8, w9, w10⟩ := h
  have ht : ∀ k p, k < m → p < 6 → 1375 ≤ tAt k p ∧ tAt k p + 3 < 1895 := fun k p hk hp => by unfold tAt; omega
  refine ⟨h30.trans w1, w2, fun i hi => ⟨(w3 i hi).1, by have := (w3 i hi).2; omega⟩, w4, w5, w6, fun k hk => ?_, fun k k' h3 h4 => ?_, fun i hi => ?_, fun k hk p hp hno => ?_⟩
  · obtain ⟨nu, cu, e1, e2, e3, e4⟩ := w7 k hk
    exact ⟨nu, cu, (h2 _ (by omega) (by omega)).trans e1, by omega, (h2 _ (by omega) (by omega)).trans e3, e4⟩
  · rw [h2 (1375 + 26 * k) (by omega) (by omega), h2 (1375 + 26 * k') (by omega) (by omega)]
    exact w8 k k' h3 h4
  · obtain ⟨r, c, s, e1, e2, e3, e4⟩ := w9 i hi
    obtain ⟨b1, b2⟩ := w3 i hi
    obtain ⟨b3, b4⟩ := ht (kf i) (pf i) b1 (by omega)
    exact ⟨r, c, s, (h2 _ (by omega) (by omega)).trans e1, (h2 _ (by omega) (by omega)).trans e2, (h2 _ (by omega) (by omega)).trans e3, wBlk_fr h1 hR hC e4⟩
  · obtain ⟨b3, b4⟩ := ht k p hk hp
    rw [h2 _ (by omega) (by omega)]
    exact w10 k hk p hp hno
theorem mTic_fr {ti : Tab} (hb : ∀ i, i < N → kf i < 20 ∧ pf i < 6) (h2 : agr f g 1375 1895) (h : mTic ti f N kf pf) : mTic ti g N kf pf := by
  obtain ⟨m1, m2⟩ := h
  refine ⟨m1, fun i hi => ?_⟩
  obtain ⟨e0, e1, e2, e3, e4, e5, e6⟩ := m2 i hi
  obtain ⟨b1, b2⟩ := hb i hi
  have b3 : 1375 ≤ tAt (kf i) (pf i) ∧ tAt (kf i) (pf i) + 3 < 1895 := by unfold tAt; omega
  exact ⟨e0.trans (h2 _ (by omega) (by omega)).symm, e1.trans (h2 _ (by omega) (by omega)).symm, e2.trans (h2 _ (by omega) (by omega)).symm, e3.trans (h2 _ (by omega) (by omega)).symm, e4.trans (h2 _ (by omega) (by omega)).symm, e5.trans (h2 _ (by omega) (by omega)).symm, e6⟩
theorem wDis_fr (hm : mh ≤ 12) (hk : m ≤ 20) (h1 : agr f g 1291 1375) (h2 : agr f g 1375 1895) (h : wDis f mh m) : wDis g mh m := by
  intro i hi k hk2
  rw [h1 _ (by omega) (by omega), h2 _ (by omega) (by omega)]
  exact h i hi k hk2
theorem mPay_fr {pa : Tab} (hm : m4 ≤ 40) (h2 : agr f g 1895 2015) (h : mPay pa f m4) : mPay pa g m4 := ⟨h.1, fun j hj => (h.2 j hj).trans (h2 _ (by omega) (by omega)).symm⟩
theorem mAcc_fr {ac : Nat → Int32} (h2 : agr f g 33 43) (h : mAcc ac f) : mAcc ac g := fun c hc => (h c hc).trans (h2 _ (by omega) (by omega)).symm
theorem mPri_fr {pr : Nat → Int32} (h2 : agr f g 2 6) (h : mPri pr f) : mPri pr g := fun j hj => (h j hj).trans (h2 _ (by omega) (by omega)).symm
end FRAME
def WF (f : Nat → Int32) (N : Nat) (kf pf : Nat → Nat) (R C n mh m m4 K D : Nat) : Prop := wHal f R C ∧ wPer f n ∧ wSea f n ∧ wTim f ∧ wNum f K D ∧ wHol f mh n R C D ∧ wTic f m N kf pf n R C D ∧ wDis f mh m ∧ wPay f m4 ∧ zOut f
def Mat (o : Off) (f : Nat → Int32) (N : Nat) (kf pf : Nat → Nat) (R C n mh m4 : Nat) : Prop := mHal (oHa o) f R C ∧ mPer (oPe o) f n ∧ mSea (oSe o) f n ∧ mHol (oHo o) f mh ∧ mTic (oTi o) f N kf pf ∧ mPay (oPa o) f m4 ∧ mAcc (oAc o) f ∧ mPri (oPr o) f ∧ oTm o = f 8 ∧ oFc o = f 6 ∧ oRu o = f 7 ∧ oMd o = f 28
theorem mat_okO {o : Off} {f : Nat → Int32} {N : Nat} {kf pf : Nat → Nat} {R C n mh m m4 K D : Nat} (hw : WF f N kf pf R C n mh m m4 K D) (hm : Mat o f N kf pf R C n mh m4) (hN : N ≤ 120) : okO o := by
  obtain ⟨w1, w2, w3, w4, w5, w6, w7, w8, w9, w10⟩ := hw
  obtain ⟨m1, m2, m3, m4, m5, m6, m7, m8, m9, m10, m11, m12⟩ := hm
  refine ⟨?_, ?_, ?_, ?_, ?_⟩
  · rw [m2.1]; exact w2.2.1
  · rw [m4.1]; exact w6.2.1
  · rw [m5.1]; exact hN
  · rw [m6.1]; exact w9.2
  · rw [m11]; exact w4.2
theorem mat_sam {o o' : Off} {f : Nat → Int32} {N : Nat} {kf pf : Nat → Nat} {R C n mh m4 : Nat} (h1 : Mat o f N kf pf R C n mh m4) (h2 : Mat o' f N kf pf R C n mh m4) : samP (oPe o') (oHo o) (oHo o') (oTi o) (oTi o') (oPa o) (oPa o') (oSe o) (oSe o') (oAc o) (oAc o') (oPr o) (oPr o') (oTm o) (oTm o') := by
  obtain ⟨a1, a2, a3, a4, a5, a6, a7, a8, a9, a10, a11, a12⟩ := h1
  obtain ⟨b1, b2, b3, b4, b5, b6, b7, b8, b9, b10, b11, b12⟩ := h2
  refine ⟨a9.trans b9.symm, fun i hi => (a8 i hi).trans (b8 i hi).symm, ⟨fun i hi => (a3 i hi).1.trans (b3 i hi).1.symm, fun i hi => (a3 i hi).2.trans (b3 i hi).2.symm⟩, ⟨a4.1.trans b4.1.symm, fun i hi => ?_⟩, ⟨a5.1.trans b5.1.symm, fun i hi => ?_⟩, fun c hc => (a7 c hc).trans (b7 c hc).symm, a6.1.trans b6.1.symm, fun j hj => ?_⟩
  · rw [a4.1] at hi
    obtain ⟨p1, p2⟩ := a4.2 (i / 7) (by omega)
    obtain ⟨q1, q2⟩ := b4.2 (i / 7) (by omega)
    by_cases h6 : i % 7 = 6
    · have e : i = i / 7 * 7 + 6 := by omega
      rw [e]
      exact p1.trans q1.symm
    · have e : i = i / 7 * 7 + i % 7 := by omega
      rw [e]
      exact (p2 _ (by omega)).trans (q2 _ (by omega)).symm
  · rw [a5.1] at hi
    obtain ⟨p0, p1, p2, p3, p4, p5, p6⟩ := a5.2 (i / 7) (by omega)
    obtain ⟨q0, q1, q2, q3, q4, q5, q6⟩ := b5.2 (i / 7) (by omega)
    have e : i = i / 7 * 7 + i % 7 := by omega
    rw [e]
    have h7 : i % 7 < 7 := by omega
    generalize i % 7 = k at h7
    match k, h7 with
    | 0, _ => exact p0.trans q0.symm
    | 1, _ => exact p1.trans q1.symm
    | 2, _ => exact p2.trans q2.symm
    | 3, _ => exact p3.trans q3.symm
    | 4, _ => exact p4.trans q4.symm
    | 5, _ => exact p5.trans q5.symm
    | 6, _ => exact p6.trans q6.symm
    | k + 7, h => exact absurd h (by omega)
  · rw [a6.1] at hj
    exact (a6.2 j hj).trans (b6.2 j hj).symm
