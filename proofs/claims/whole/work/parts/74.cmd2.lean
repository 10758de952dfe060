/-! commands on both sides: payments, painting, holds -/
section PAYR
variable {f : Nat → Int32} {m4 k c : Nat} {x : Int32}
theorem payE_v (h : wPay f m4) : payE f = if m4 = 40 then 39 else m4 := by
  unfold payE
  have := h.2
  rw [h.1, cN_nI (by omega)]
theorem payQ_acc {c2 : Nat} (hc : c < 10) (hc2 : c2 < 10) : payQ f k c x (33 + c2) = if c2 = c then f (33 + c) + x else f (33 + c2) := by
  unfold payQ payB
  by_cases q : cN (f 31) = 40
  · rw [if_pos q]
    by_cases e : c2 = c
    · rw [if_pos e, e]
      simp (disch := omega) only [upd_ne, shV_out, upd_same]
    · rw [if_neg e]
      simp (disch := omega) only [upd_ne, shV_out]
  · rw [if_neg q]
    by_cases e : c2 = c
    · rw [if_pos e, e]
      simp (disch := omega) only [upd_ne, upd_same]
    · rw [if_neg e]
      simp (disch := omega) only [upd_ne]
theorem payQ_hi {j : Nat} (h : wPay f m4) (hc : c < 10) (hj : 2015 ≤ j) : payQ f k c x j = f j := by
  have he := payE_le h.1 h.2
  unfold payQ payB
  by_cases q : cN (f 31) = 40
  · rw [if_pos q]
    simp (disch := omega) only [upd_ne, shV_out]
  · rw [if_neg q]
    simp (disch := omega) only [upd_ne]
theorem pay_w (h : wPay f m4) : wPay (payQ f k c x) (payE f + 1) := ⟨payQ_31, (payE_le h.1 h.2).2⟩
theorem pay_mA {ac : Nat → Int32} (hc : c < 10) (h : mAcc ac f) : mAcc (payA ac c x) (payQ f k c x) := by
  intro c2 hc2
  rw [payQ_acc hc hc2]
  unfold payA
  by_cases e : c2 = c
  · rw [if_pos e, e, upd_same, h c hc]
  · rw [if_neg e, upd_ne e]
    exact h c2 hc2
theorem pay_mP {pa : Tab} (h : wPay f m4) (hc : c < 10) (hm : mPay pa f m4) : mPay (payT pa k c x) (payQ f k c x) (payE f + 1) := by
  obtain ⟨m1, m2⟩ := hm
  have hv := payE_v h
  have hcn : cN (f 31) = m4 := by rw [h.1, cN_nI (by have := h.2; omega)]
  have h40 := h.2
  unfold payT payR payQ payB
  rw [hcn, m1]
  by_cases q : m4 = 40
  · rw [if_pos q] at hv
    rw [if_pos (by omega), if_pos q, hv]
    unfold remV
    rw [m1, q]
    refine ⟨rfl, fun j hj => ?_⟩
    dsimp only
    by_cases e2 : j = 39 * 3 + 2
    · rw [e2]
      simp (disch := omega) only [upd_ne, upd_same]
    by_cases e1 : j = 39 * 3 + 1
    · rw [e1]
      simp (disch := omega) only [upd_ne, upd_same]
    by_cases e0 : j = 39 * 3
    · rw [e0]
      simp (disch := omega) only [upd_ne, upd_same]
    simp (disch := omega) only [upd_ne]
    rw [pk_cpy_in (by omega) (by omega), shV_in (by omega) (by omega), upd_ne (by omega), m2 _ (by omega), show 1895 + ((0 + 1) * 3 + (j - 0 * 3)) = 1895 + j + 3 by omega]
  · rw [if_neg q] at hv
    rw [if_neg (by omega), if_neg q, hv, m1]
    refine ⟨rfl, fun j hj => ?_⟩
    dsimp only
    by_cases e2 : j = m4 * 3 + 2
    · rw [e2, show 1895 + (m4 * 3 + 2) = 1895 + 3 * m4 + 2 by omega]
      simp (disch := omega) only [upd_ne, upd_same]
    by_cases e1 : j = m4 * 3 + 1
    · rw [e1, show 1895 + (m4 * 3 + 1) = 1895 + 3 * m4 + 1 by omega]
      simp (disch := omega) only [upd_ne, upd_same]
    by_cases e0 : j = m4 * 3
    · rw [e0, show 1895 + m4 * 3 = 1895 + 3 * m4 by omega]
      simp (disch := omega) only [upd_ne, upd_same]
    simp (disch := omega) only [upd_ne]
    exact m2 j (by omega)
end PAYR
section PAINTR
variable {f : Nat → Int32} {S n R C r c s : Nat} {st ow y : Int32} {se : Sea}
abbrev inPt (S q s j : Nat) : Prop := S.testBit (j / 96) = true ∧ q ≤ j % 96 ∧ j % 96 < q + s
theorem pntQ_s {q j : Nat} (hS : S < 2 ^ n) (hn : n ≤ 6) (hj : j < 576) : pntQ S n q s st ow f (139 + j) = if inPt S q s j then st else f (139 + j) := by
  have e : 139 + j - 139 = j := by omega
  unfold pntQ inPt
  rw [e, if_neg (show ¬ (715 ≤ 139 + j ∧ 139 + j < 715 + 96 * n ∧ S.testBit ((139 + j - 715) / 96) = true ∧ q ≤ (139 + j - 715) % 96 ∧ (139 + j - 715) % 96 < q + s) by omega)]
  by_cases h : S.testBit (j / 96) = true ∧ q ≤ j % 96 ∧ j % 96 < q + s
  · have := bit_lt hS h.1
    rw [if_pos h, if_pos ⟨by omega, by omega, h⟩]
  · rw [if_neg h, if_neg (fun z => h z.2.2)]
theorem pntQ_o {q j : Nat} (hS : S < 2 ^ n) (hn : n ≤ 6) (hj : j < 576) : pntQ S n q s st ow f (715 + j) = if inPt S q s j then ow else f (715 + j) := by
  have e : 715 + j - 715 = j := by omega
  unfold pntQ inPt
  rw [e, if_neg (show ¬ (139 ≤ 715 + j ∧ 715 + j < 139 + 96 * n ∧ S.testBit ((715 + j - 139) / 96) = true ∧ q ≤ (715 + j - 139) % 96 ∧ (715 + j - 139) % 96 < q + s) by omega)]
  by_cases h : S.testBit (j / 96) = true ∧ q ≤ j % 96 ∧ j % 96 < q + s
  · have := bit_lt hS h.1
    rw [if_pos h, if_pos ⟨by omega, by omega, h⟩]
  · rw [if_neg h, if_neg (fun z => h z.2.2)]
theorem inPt_S (hS : S < 2 ^ n) (hR : R ≤ 8) (hC : C ≤ 12) (hb : wBlk f R C r c s) {j : Nat} (hj : j < 576) (h : inPt S (12 * r + c) s j) : isS f n j := by
  obtain ⟨b1, b2, b3, b4, b5⟩ := hb
  obtain ⟨h1, h2, h3⟩ := h
  refine ⟨bit_lt hS h1, ?_⟩
  have := b5 (j % 96 - (12 * r + c)) (by omega)
  rwa [show 43 + 12 * r + (c + (j % 96 - (12 * r + c))) = 43 + j % 96 by omega] at this
theorem paint_w (hS : S < 2 ^ n) (hn : n ≤ 6) (hR : R ≤ 8) (hC : C ≤ 12) (hb : wBlk f R C r c s) (hst : st = nI 0 ∨ (st = nI 1 ∨ st = nI 2) ∧ ∃ k, k < 1000000 ∧ ow = nI k) (h : wSea f n) : wSea (pntQ S n (12 * r + c) s st ow f) n := by
  intro j hj
  have hk : agr f (pntQ S n (12 * r + c) s st ow f) 43 139 := fun i _ h2 => pntQ_out hn (Or.inl h2)
  rw [pntQ_s hS hn hj, pntQ_o hS hn hj, isS_fr hk]
  have hj2 := h j hj
  by_cases q : inPt S (12 * r + c) s j
  · rw [if_pos q, if_pos q]
    have hs := inPt_S hS hR hC hb hj q
    refine ⟨?_, fun z => absurd hs z, fun z => ?_⟩
    · rcases hst with e | ⟨e | e, _⟩
      · exact Or.inl e
      · exact Or.inr (Or.inl e)
      · exact Or.inr (Or.inr (Or.inl e))
    · rcases hst with e | ⟨_, e⟩
      · rw [e] at z
        exact absurd z (by decide)
      · exact e
  · rw [if_neg q, if_neg q]
    exact hj2
theorem paint_m (hS : S < 2 ^ n) (hn : n ≤ 6) (hR : R ≤ 8) (hC : C ≤ 12) (hb : wBlk f R C r c s) (hst : st = nI 0 ∧ y = -nI 1 ∨ (st = nI 1 ∨ st = nI 2) ∧ y = ow) (h : mSea se f n) : mSea (markV S (r * 12 + c) s st y se) (pntQ S n (12 * r + c) s st ow f) n := by
  intro j hj
  have hk : agr f (pntQ S n (12 * r + c) s st ow f) 43 139 := fun i _ h2 => pntQ_out hn (Or.inl h2)
  rw [pntQ_s hS hn hj, pntQ_o hS hn hj]
  have hj2 := h j hj
  unfold markV mkA inB
  dsimp only
  rw [show r * 12 + c = 12 * r + c by omega]
  by_cases q : inPt S (12 * r + c) s j
  · have hs := inPt_S hS hR hC hb hj q
    have hB : j < 576 ∧ S.testBit (j / 96) = true ∧ 12 * r + c ≤ j % 96 ∧ j % 96 < 12 * r + c + s := ⟨hj, q⟩
    rw [if_pos q, if_pos q, if_pos hB, if_pos hB, if_pos ((isS_fr hk).mpr hs)]
    refine ⟨rfl, ?_⟩
    rcases hst with ⟨e, e2⟩ | ⟨e, e2⟩
    · rw [e, if_neg (by decide), e2]
    · rw [if_pos e, e2]
  · have hB : ¬ (j < 576 ∧ S.testBit (j / 96) = true ∧ 12 * r + c ≤ j % 96 ∧ j % 96 < 12 * r + c + s) := fun z => q z.2
    rw [if_neg q, if_neg q, if_neg hB, if_neg hB]
    refine ⟨hj2.1.trans ?_, hj2.2⟩
    by_cases q2 : isS f n j
    · rw [if_pos q2, if_pos ((isS_fr hk).mpr q2)]
    · rw [if_neg q2, if_neg (fun z => q2 ((isS_fr hk).mp z))]
theorem pnt_pow {p q : Nat} (hp : p < n) (hn : n ≤ 6) (hq : q + s ≤ 96) : pbQ p q s st ow f = pntQ (2 ^ p) n q s st ow f := by
  funext j
  unfold pbQ pntQ
  by_cases h1 : 139 + 96 * p + q ≤ j ∧ j < 139 + 96 * p + q + s
  · have e : (j - 139) / 96 = p := by omega
    rw [if_pos h1, if_pos ⟨by omega, by omega, by rw [e, Nat.testBit_two_pow_self], by omega, by omega⟩]
  · have h1' : ¬ (139 ≤ j ∧ j < 139 + 96 * n ∧ (2 ^ p).testBit ((j - 139) / 96) = true ∧ q ≤ (j - 139) % 96 ∧ (j - 139) % 96 < q + s) := by
      rintro ⟨z1, z2, z3, z4, z5⟩
      rw [Nat.testBit_two_pow] at z3
      have := of_decide_eq_true z3
      exact h1 (by omega)
    rw [if_neg h1, if_neg h1']
    by_cases h2 : 715 + 96 * p + q ≤ j ∧ j < 715 + 96 * p + q + s
    · have e : (j - 715) / 96 = p := by omega
      rw [if_pos h2, if_pos ⟨by omega, by omega, by rw [e, Nat.testBit_two_pow_self], by omega, by omega⟩]
    · have h2' : ¬ (715 ≤ j ∧ j < 715 + 96 * n ∧ (2 ^ p).testBit ((j - 715) / 96) = true ∧ q ≤ (j - 715) % 96 ∧ (j - 715) % 96 < q + s) := by
        rintro ⟨z1, z2, z3, z4, z5⟩
        rw [Nat.testBit_two_pow] at z3
        have := of_decide_eq_true z3
        exact h2 (by omega)
      rw [if_neg h2, if_neg h2']
end PAINTR
section HOLR
variable {f : Nat → Int32} {N : Nat} {kf pf : Nat → Nat} {R C n mh m m4 K D : Nat} {ha : Hal} {fi : Fnd} {se : Sea} {pe ho ti pa : Tab} {ac pr : Nat → Int32} {tm fc ru md : Int32}
theorem cmd_wf (hw : WF f N kf pf R C n mh m m4 K D) : WF (upd f 32 (f 32 + nI 1)) N kf pf R C n mh m m4 (K + 1) D := by
  have h7 := hw.2.2.2.1.2
  have hz := hw.2.2.2.2.2.2.2.2.2
  refine small_wf hw (by simp (disch := omega) only [upd_ne]) (by simp (disch := omega) only [upd_ne]) ?_ (by simp (disch := omega) only [upd_ne]) (fun j p q => by simp (disch := omega) only [upd_ne]) upd_same (fun j p q => by simp (disch := omega) only [upd_ne]) (fun j hj => by simp (disch := omega) only [upd_ne]; exact hz j hj)
  simp (disch := omega) only [upd_ne]; exact h7
theorem cmd_mat (hw : WF f N kf pf R C n mh m m4 K D) (hm : Mat (ha, fi, se, pe, ho, ti, pa, ac, pr, tm, fc, ru, md) f N kf pf R C n mh m4) : Mat (ha, fi, se, pe, ho, ti, pa, ac, pr, tm, fc, ru, md) (upd f 32 (f 32 + nI 1)) N kf pf R C n mh m4 := by
  obtain ⟨w1, w2, w3, w4, w5, w6, w7, w8, w9, w10⟩ := hw
  obtain ⟨a1, a2, a3, a4, a5, a6, a7, a8, a9, a10, a11, a12⟩ := hm
  exact ⟨mHal_fr (fun j p q => by simp (disch := omega) only [upd_ne]) a1, mPer_fr w2.2.1 (fun j p q => by simp (disch := omega) only [upd_ne]) a2, mSea_fr (fun j p q => by simp (disch := omega) only [upd_ne]) (fun j p q => by simp (disch := omega) only [upd_ne]) a3, mHol_fr w6.2.1 (fun j p q => by simp (disch := omega) only [upd_ne]) a4, mTic_fr (kf_b w7 w2.2.1) (fun j p q => by simp (disch := omega) only [upd_ne]) a5, mPay_fr w9.2 (fun j p q => by simp (disch := omega) only [upd_ne]) a6, mAcc_fr (fun j p q => by simp (disch := omega) only [upd_ne]) a7, mPri_fr (fun j p q => by simp (disch := omega) only [upd_ne]) a8, a9.trans (by simp (disch := omega) only [upd_ne]), a10.trans (by simp (disch := omega) only [upd_ne]), a11.trans (by simp (disch := omega) only [upd_ne]), a12.trans (by simp (disch := omega) only [upd_ne])⟩
/-- where a row of holds lies behind a removal -/
def skp (i j : Nat) : Nat := if j < i then j else j + 1
theorem drh_row {i j k : Nat} (hm : mh ≤ 12) (hi : i < mh) (hj : j < mh - 1) (hk : k < 7) : drhQ mh i f (1291 + 7 * j + k) = f (1291 + 7 * skp i j + k) := by
  unfold drhQ skp
  by_cases q : j < i
  · rw [if_pos q, shV_out (by omega), upd_ne (by omega)]
  · rw [if_neg q, shV_in (by omega) (by omega), upd_ne (by omega), show 1291 + 7 * j + k + 7 = 1291 + 7 * (j + 1) + k by omega]
theorem rem_row {t : Tab} {w i j k : Nat} (hi : i < t.1) (hj : j < t.1 - 1) (hk : k < w) : (remV w t i).2 (j * w + k) = t.2 (skp i j * w + k) := by
  have hs : (t.1 - i - 1) * w + i * w = (t.1 - 1) * w := by rw [← Nat.add_mul]; congr 1; omega
  have hj1 : (j + 1) * w ≤ (t.1 - 1) * w := Nat.mul_le_mul_right w (by omega)
  rw [Nat.succ_mul] at hj1
  unfold remV va_cpy skp
  dsimp only
  by_cases q : j < i
  · have h2 : (j + 1) * w ≤ i * w := Nat.mul_le_mul_right w q
    rw [Nat.succ_mul] at h2
    rw [if_pos q, if_neg (by omega)]
  · have h2 : i * w ≤ j * w := Nat.mul_le_mul_right w (by omega)
    have s1 : (i + 1) * w = i * w + w := Nat.succ_mul i w
    have s2 : (j + 1) * w = j * w + w := Nat.succ_mul j w
    have s3 : (i + 1) * w + (j * w + k - i * w) = (j + 1) * w + k := by omega
    rw [if_neg q, if_pos ⟨by omega, by omega⟩, s3]
theorem skp_lt {i j M : Nat} (hi : i < M) (hj : j < M - 1) : skp i j < M := by
  unfold skp
  split <;> omega
theorem skp_mono {i j k : Nat} (h : j < k) : skp i j < skp i k := by
  unfold skp
  split <;> split <;> omega
theorem hol_row (hw : WF f N kf pf R C n mh m m4 K D) {i : Nat} (hi : i < mh) : rowOQ f i := by
  obtain ⟨w1, w2, w3, w4, w5, w6, w7, w8, w9, w10⟩ := hw
  obtain ⟨nu, cu, S, r, c, s, e0, e1, e2, e3, e4, e5, e6, e7, e8, e9, e10⟩ := w6.2.2.1 i hi
  have hp := Nat.pow_le_pow_right (show 0 < 2 by decide) w2.2.1
  have h1 := w1.2.2.2.1
  have h2 := w1.2.2.2.2.2.1
  have h3 := e10.1
  have h4 := e10.2.2.2.1
  exact ⟨S, r, c, s, by omega, by omega, by omega, e4, e7, e8, e9⟩
theorem hol_rowC (hw : WF f N kf pf R C n mh m m4 K D) (hm : mHol ho f mh) {i : Nat} (hi : i < mh) : rowOK ho.2 i := by
  obtain ⟨S, r, c, s, h1, h2, h3, h4, h5, h6, h7⟩ := hol_row hw hi
  obtain ⟨a1, a2⟩ := hm.2 i hi
  exact ⟨S, r, c, s, h1, h2, h3, (a2 1 (by decide)).trans h4, (a2 2 (by decide)).trans h5, (a2 3 (by decide)).trans h6, (a2 4 (by decide)).trans h7⟩
/-- a hold given up -/
theorem give_wf (hw : WF f N kf pf R C n mh m m4 K D) {i : Nat} (hi : i < mh) : WF (drhQ mh i (pntH f i n (nI 0))) N kf pf R C n (mh - 1) m m4 K D := by
  have hw2 := hw
  obtain ⟨w1, w2, w3, w4, w5, w6, w7, w8, w9, w10⟩ := hw
  have hR := w1.2.2.2.1
  have hC := w1.2.2.2.2.2.1
  have hn := w2.2.1
  have hm := w6.2.1
  obtain ⟨nu, cu, S, r, c, s, e0, e1, e2, e3, e4, e5, e6, e7, e8, e9, e10⟩ := w6.2.2.1 i hi
  have hr8 : r < R := e10.1
  have hc12 : c + s ≤ C := e10.2.2.2.1
  have hS6 : S < 2 ^ 31 := Nat.lt_of_lt_of_le e6 (Nat.pow_le_pow_right (by decide) (by omega))
  have hpn : pntH f i n (nI 0) = pntQ S n (12 * r + c) s (nI 0) (f (1291 + 7 * i)) f := by
    unfold pntH
    rw [e4, e7, e8, e9, cN_nI hS6, cN_nI (by omega), cN_nI (by omega), cN_nI (by omega)]
  have lo : ∀ j, j ≠ 29 → (j < 139 ∨ 1375 ≤ j) → drhQ mh i (pntH f i n (nI 0)) j = f j := fun j h1 h2 => (drhQ_out hm h1 (by omega)).trans (pntH_out hn (by omega))
  have mid : ∀ j, 139 ≤ j → j < 1291 → drhQ mh i (pntH f i n (nI 0)) j = pntQ S n (12 * r + c) s (nI 0) (f (1291 + 7 * i)) f j := fun j h1 h2 => by rw [drhQ_out hm (by omega) (by omega), hpn]
  have row : ∀ j k, j < mh - 1 → k < 7 → drhQ mh i (pntH f i n (nI 0)) (1291 + 7 * j + k) = f (1291 + 7 * skp i j + k) := fun j k hj hk => by
    have := skp_lt hi hj
    rw [drh_row hm hi hj hk, pntH_out hn (by omega)]
  have hk43 : agr f (drhQ mh i (pntH f i n (nI 0))) 43 139 := fun j h1 h2 => lo j (by omega) (by omega)
  have ho : agr f (drhQ mh i (pntH f i n (nI 0))) 1375 1895 := fun j h1 h2 => lo j (by omega) (by omega)
  have hsea := paint_w e6 hn hR hC e10 (st := nI 0) (ow := f (1291 + 7 * i)) (Or.inl rfl) w3
  have hk2 : agr (pntQ S n (12 * r + c) s (nI 0) (f (1291 + 7 * i)) f) (drhQ mh i (pntH f i n (nI 0))) 43 139 := fun j h1 h2 => (hk43 j h1 h2).trans (pntQ_out hn (Or.inl h2)).symm
  refine ⟨wHal_fr (lo 0 (by decide) (by decide)) (lo 1 (by decide) (by decide)) hk43 w1, wPer_fr (lo 9 (by decide) (by decide)) (fun j h1 h2 => lo j (by omega) (by omega)) w2, wSea_fr hk2 (fun j h1 h2 => mid j h1 h2) hsea, wTim_fr (lo 7 (by decide) (by decide)) (lo 8 (by decide) (by decide)) w4, ⟨(lo 32 (by decide) (by decide)).trans w5.1, (lo 28 (by decide) (by decide)).trans w5.2.1, w5.2.2⟩, ⟨drhQ_29, by omega, fun j hj => ?_, fun j k hjk hk => ?_⟩, wTic_fr (lo 30 (by decide) (by decide)) hk43 ho hR hC hn (Nat.le_refl _) (Nat.le_refl _) w7, fun j hj k hk => ?_, ⟨(lo 31 (by decide) (by decide)).trans w9.1, w9.2⟩, fun j hj => (lo j (by omega) (by omega)).trans (w10 j hj)⟩
  · obtain ⟨nu, cu, S, r, c, s, e0, e1, e2, e3, e4, e5, e6, e7, e8, e9, e10⟩ := w6.2.2.1 (skp i j) (skp_lt hi hj)
    exact ⟨nu, cu, S, r, c, s, (row j 0 hj (by decide)).trans e0, e1, (row j 1 hj (by decide)).trans e2, e3, (row j 2 hj (by decide)).trans e4, e5, e6, (row j 3 hj (by decide)).trans e7, (row j 4 hj (by decide)).trans e8, (row j 5 hj (by decide)).trans e9, wBlk_fr hk43 hR hC e10⟩
  · have r1 := row j 0 (by omega) (by decide)
    have r2 := row k 0 hk (by decide)
    rw [Nat.add_zero, Nat.add_zero] at r1 r2
    rw [r1, r2]
    exact w6.2.2.2 _ _ (skp_mono hjk) (skp_lt hi hk)
  · have r1 := row j 0 hj (by decide)
    rw [Nat.add_zero, Nat.add_zero] at r1
    have hm20 := w7.2.1
    rw [r1, lo (1375 + 26 * k) (by omega) (by omega)]
    exact w8 _ (skp_lt hi hj) k hk
theorem give_mat (hw : WF f N kf pf R C n mh m m4 K D) (hm : Mat (ha, fi, se, pe, ho, ti, pa, ac, pr, tm, fc, ru, md) f N kf pf R C n mh m4) {i : Nat} (hi : i < mh) : Mat (ha, fi, mrkV ho.2 i (nI 0) (-nI 1) se, pe, remV 7 ho i, ti, pa, ac, pr, tm, fc, ru, md) (drhQ mh i (pntH f i n (nI 0))) N kf pf R C n (mh - 1) m4 := by
  obtain ⟨w1, w2, w3, w4, w5, w6, w7, w8, w9, w10⟩ := hw
  obtain ⟨a1, a2, a3, a4, a5, a6, a7, a8, a9, a10, a11, a12⟩ := hm
  have hR := w1.2.2.2.1
  have hC := w1.2.2.2.2.2.1
  have hn := w2.2.1
  have hm12 := w6.2.1
  obtain ⟨nu, cu, S, r, c, s, e0, e1, e2, e3, e4, e5, e6, e7, e8, e9, e10⟩ := w6.2.2.1 i hi
  dsimp only [oSe, oHo] at a3 a4
  obtain ⟨b1, b2⟩ := a4
  obtain ⟨g6, gk⟩ := b2 i hi
  have hr8 : r < R := e10.1
  have hc12 : c + s ≤ C := e10.2.2.2.1
  have hS6 : S < 2 ^ 31 := Nat.lt_of_lt_of_le e6 (Nat.pow_le_pow_right (by decide) (by omega))
  have hpn : pntH f i n (nI 0) = pntQ S n (12 * r + c) s (nI 0) (f (1291 + 7 * i)) f := by
    unfold pntH
    rw [e4, e7, e8, e9, cN_nI hS6, cN_nI (by omega), cN_nI (by omega), cN_nI (by omega)]
  have hmk : mrkV ho.2 i (nI 0) (-nI 1) se = markV S (r * 12 + c) s (nI 0) (-nI 1) se := by
    unfold mrkV
    rw [(gk 1 (by decide)).trans e4, (gk 2 (by decide)).trans e7, (gk 3 (by decide)).trans e8, (gk 4 (by decide)).trans e9, cN_nI hS6, cN_nI (by omega), cN_nI (by omega), cN_nI (by omega)]
  have lo : ∀ j, j ≠ 29 → (j < 139 ∨ 1375 ≤ j) → drhQ mh i (pntH f i n (nI 0)) j = f j := fun j h1 h2 => (drhQ_out hm12 h1 (by omega)).trans (pntH_out hn (by omega))
  have mid : ∀ j, 139 ≤ j → j < 1291 → drhQ mh i (pntH f i n (nI 0)) j = pntQ S n (12 * r + c) s (nI 0) (f (1291 + 7 * i)) f j := fun j h1 h2 => by rw [drhQ_out hm12 (by omega) (by omega), hpn]
  have row : ∀ j k, j < mh - 1 → k < 7 → drhQ mh i (pntH f i n (nI 0)) (1291 + 7 * j + k) = f (1291 + 7 * skp i j + k) := fun j k hj hk => by
    have := skp_lt hi hj
    rw [drh_row hm12 hi hj hk, pntH_out hn (by omega)]
  have hk43 : agr f (drhQ mh i (pntH f i n (nI 0))) 43 139 := fun j h1 h2 => lo j (by omega) (by omega)
  have hsea := paint_m e6 hn hR hC e10 (st := nI 0) (ow := f (1291 + 7 * i)) (y := -nI 1) (Or.inl ⟨rfl, rfl⟩) a3
  have hk2 : agr (pntQ S n (12 * r + c) s (nI 0) (f (1291 + 7 * i)) f) (drhQ mh i (pntH f i n (nI 0))) 43 139 := fun j h1 h2 => (hk43 j h1 h2).trans (pntQ_out hn (Or.inl h2)).symm
  refine ⟨mHal_fr hk43 a1, mPer_fr hn (fun j h1 h2 => lo j (by omega) (by omega)) a2, ?_, ⟨?_, fun j hj => ?_⟩, mTic_fr (kf_b w7 hn) (fun j h1 h2 => lo j (by omega) (by omega)) a5, mPay_fr w9.2 (fun j h1 h2 => lo j (by omega) (by omega)) a6, mAcc_fr (fun j h1 h2 => lo j (by omega) (by omega)) a7, mPri_fr (fun j h1 h2 => lo j (by omega) (by omega)) a8, a9.trans (lo 8 (by decide) (by decide)).symm, a10.trans (lo 6 (by decide) (by decide)).symm, a11.trans (lo 7 (by decide) (by decide)).symm, a12.trans (lo 28 (by decide) (by decide)).symm⟩
  · dsimp only [oSe]
    rw [hmk]
    exact mSea_fr hk2 (fun j h1 h2 => mid j h1 h2) hsea
  · show ho.1 - 1 = mh - 1
    rw [b1]
  · dsimp only [oHo]
    have hi' : i < ho.1 := by rw [b1]; exact hi
    have hj' : j < ho.1 - 1 := by rw [b1]; exact hj
    obtain ⟨q6, qk⟩ := b2 (skp i j) (skp_lt hi hj)
    refine ⟨?_, fun k hk => ?_⟩
    · rw [rem_row hi' hj' (by decide), q6]
      exact (row j 0 hj (by decide)).symm
    · rw [rem_row hi' hj' (by omega), qk k hk, row j (k + 1) hj (by omega)]
end HOLR
