/-! commands on both sides: payments, exchange, refund -/
theorem putTQ_pt {f g : Nat → Int32} {k p j : Nat} {x0 x1 x2 x3 : Int32} (h : f j = g j) : putTQ f k p x0 x1 x2 x3 j = putTQ g k p x0 x1 x2 x3 j := by
  unfold putTQ upd
  simp only [h]
theorem pb_putT {f : Nat → Int32} {k p p' q s : Nat} {st ow x0 x1 x2 x3 : Int32} (hp : p < 6) (hq : q + s ≤ 96) : pbQ p q s st ow (putTQ f k p' x0 x1 x2 x3) = putTQ (pbQ p q s st ow f) k p' x0 x1 x2 x3 := by
  funext j
  by_cases h : j < 139 ∨ 1291 ≤ j
  · rw [pbQ_out hp hq h]
    exact putTQ_pt (pbQ_out hp hq h).symm
  · rw [putTQ_out (by omega)]
    exact pbQ_pt (putTQ_out (by omega))
theorem fo_cnt0 {P : Nat → Prop} {d : ∀ k, Decidable (P k)} : ∀ n, fo (fun k z => if P k then z + 1 else z) n 0 = 0 ↔ ∀ k, k < n → ¬ P k := by
  intro n
  induction n with
  | zero => exact ⟨fun _ k hk => absurd hk (by omega), fun _ => rfl⟩
  | succ n ih =>
    show (if P n then fo (fun k z => if P k then z + 1 else z) n 0 + 1 else fo (fun k z => if P k then z + 1 else z) n 0) = 0 ↔ _
    by_cases h : P n
    · rw [if_pos h]
      exact ⟨fun z => by omega, fun z => absurd h (z n (by omega))⟩
    · rw [if_neg h, ih]
      refine ⟨fun z k hk => ?_, fun z k hk => z k (by omega)⟩
      by_cases e : k = n
      · rw [e]; exact h
      · exact z k (by omega)
theorem skp_ex {i i0 M : Nat} (h : i < M) (hi0 : i0 < M) (hne : i ≠ i0) : ∃ j, j < M - 1 ∧ skp i0 j = i := by
  unfold skp
  by_cases q : i < i0
  · exact ⟨i, by omega, if_pos q⟩
  · refine ⟨i - 1, by omega, ?_⟩
    rw [if_neg (by omega)]
    omega
theorem skp_ne {i j : Nat} : skp i j ≠ i := by
  unfold skp
  split <;> omega
def dkN (k x : Nat) : Nat := if x < k then x else x - 1
theorem skp_dk {k x : Nat} (h : x ≠ k) : skp k (dkN k x) = x := by
  unfold skp dkN
  by_cases h1 : x < k
  · rw [if_pos h1, if_pos h1]
  · rw [if_neg h1, if_neg (by omega)]
    omega
theorem dk_skp {k x : Nat} : dkN k (skp k x) = x := by
  unfold skp dkN
  by_cases h1 : x < k
  · rw [if_pos h1, if_pos h1]
  · rw [if_neg h1, if_neg (by omega)]
    omega
def pfX (pf : Nat → Nat) (i0 pt : Nat) : Nat → Nat := fun i => if i = i0 then pt else pf i
theorem pfX_s {pf : Nat → Nat} {i0 pt : Nat} : pfX pf i0 pt i0 = pt := if_pos rfl
theorem pfX_n {pf : Nat → Nat} {i0 pt i : Nat} (h : i ≠ i0) : pfX pf i0 pt i = pf i := if_neg h
section CMD6
variable {f g : Nat → Int32} {N : Nat} {kf pf : Nat → Nat} {R C n mh m m4 K D : Nat} {ha : Hal} {fi : Fnd} {se : Sea} {pe ho ti pa : Tab} {ac pr : Nat → Int32} {tm fc ru md : Int32}
theorem pay_wf (hw : WF f N kf pf R C n mh m m4 K D) {kk cu : Nat} {x : Int32} (hcu : cu < 10) : WF (payQ f kk cu x) N kf pf R C n mh m (payE f + 1) K D := by
  obtain ⟨w1, w2, w3, w4, w5, w6, w7, w8, w9, w10⟩ := hw
  have hR := w1.2.2.2.1
  have hC := w1.2.2.2.2.2.1
  have hn := w2.2.1
  have lo : ∀ j, (j < 31 ∨ j = 32 ∨ (43 ≤ j ∧ j < 1895)) → payQ f kk cu x j = f j := fun j h => payQ_lo hcu h
  have k43 : agr f (payQ f kk cu x) 43 139 := fun j h1 h2 => lo j (by omega)
  exact ⟨wHal_fr (lo 0 (by omega)) (lo 1 (by omega)) k43 w1, wPer_fr (lo 9 (by omega)) (fun j h1 h2 => lo j (by omega)) w2, wSea_fr k43 (fun j h1 h2 => lo j (by omega)) w3, wTim_fr (lo 7 (by omega)) (lo 8 (by omega)) w4, ⟨(lo 32 (by omega)).trans w5.1, (lo 28 (by omega)).trans w5.2.1, w5.2.2⟩, wHol_fr (lo 29 (by omega)) k43 (fun j h1 h2 => lo j (by omega)) hR hC (Nat.le_refl _) (Nat.le_refl _) w6, wTic_fr (lo 30 (by omega)) k43 (fun j h1 h2 => lo j (by omega)) hR hC hn (Nat.le_refl _) (Nat.le_refl _) w7, wDis_fr w6.2.1 w7.2.1 (fun j h1 h2 => lo j (by omega)) (fun j h1 h2 => lo j (by omega)) w8, pay_w w9, fun j hj => (payQ_hi w9 hcu hj).trans (w10 j hj)⟩
theorem pay_mat (hw : WF f N kf pf R C n mh m m4 K D) (hm : Mat (ha, fi, se, pe, ho, ti, pa, ac, pr, tm, fc, ru, md) f N kf pf R C n mh m4) {kk cu : Nat} {x : Int32} (hcu : cu < 10) : Mat (ha, fi, se, pe, ho, ti, payT pa kk cu x, payA ac cu x, pr, tm, fc, ru, md) (payQ f kk cu x) N kf pf R C n mh (payE f + 1) := by
  obtain ⟨w1, w2, w3, w4, w5, w6, w7, w8, w9, w10⟩ := hw
  obtain ⟨a1, a2, a3, a4, a5, a6, a7, a8, a9, a10, a11, a12⟩ := hm
  have lo : ∀ j, (j < 31 ∨ j = 32 ∨ (43 ≤ j ∧ j < 1895)) → payQ f kk cu x j = f j := fun j h => payQ_lo hcu h
  exact ⟨mHal_fr (fun j h1 h2 => lo j (by omega)) a1, mPer_fr w2.2.1 (fun j h1 h2 => lo j (by omega)) a2, mSea_fr (fun j h1 h2 => lo j (by omega)) (fun j h1 h2 => lo j (by omega)) a3, mHol_fr w6.2.1 (fun j h1 h2 => lo j (by omega)) a4, mTic_fr (kf_b w7 w2.2.1) (fun j h1 h2 => lo j (by omega)) a5, pay_mP w9 hcu a6, pay_mA hcu a7, mPri_fr (fun j h1 h2 => lo j (by omega)) a8, a9.trans (lo 8 (by omega)).symm, a10.trans (lo 6 (by omega)).symm, a11.trans (lo 7 (by omega)).symm, a12.trans (lo 28 (by omega)).symm⟩
theorem kept_wf (hw : WF f N kf pf R C n mh m m4 K D) {p : Nat} {x : Int32} (hp : p < n) : WF (upd f (22 + p) x) N kf pf R C n mh m m4 K D := by
  obtain ⟨w1, w2, w3, w4, w5, w6, w7, w8, w9, w10⟩ := hw
  have hR := w1.2.2.2.1
  have hC := w1.2.2.2.2.2.1
  have hn := w2.2.1
  refine ⟨wHal_fr (by simp (disch := omega) only [upd_ne]) (by simp (disch := omega) only [upd_ne]) (fun j p q => by simp (disch := omega) only [upd_ne]) w1, ⟨(upd_ne (by omega)).trans w2.1, hn, fun q hq => ?_, fun q h1 h2 => (upd_ne (by omega)).trans (w2.2.2.2 q h1 h2)⟩, wSea_fr (fun j p q => by simp (disch := omega) only [upd_ne]) (fun j p q => by simp (disch := omega) only [upd_ne]) w3, wTim_fr (by simp (disch := omega) only [upd_ne]) (by simp (disch := omega) only [upd_ne]) w4, ⟨(upd_ne (by omega)).trans w5.1, (upd_ne (by omega)).trans w5.2.1, w5.2.2⟩, wHol_fr (by simp (disch := omega) only [upd_ne]) (fun j p q => by simp (disch := omega) only [upd_ne]) (fun j p q => by simp (disch := omega) only [upd_ne]) hR hC (Nat.le_refl _) (Nat.le_refl _) w6, wTic_fr (by simp (disch := omega) only [upd_ne]) (fun j p q => by simp (disch := omega) only [upd_ne]) (fun j p q => by simp (disch := omega) only [upd_ne]) hR hC hn (Nat.le_refl _) (Nat.le_refl _) w7, wDis_fr w6.2.1 w7.2.1 (fun j p q => by simp (disch := omega) only [upd_ne]) (fun j p q => by simp (disch := omega) only [upd_ne]) w8, ⟨(upd_ne (by omega)).trans w9.1, w9.2⟩, fun j hj => (upd_ne (by omega)).trans (w10 j hj)⟩
  obtain ⟨k, k1, k2⟩ := w2.2.2.1 q hq
  exact ⟨k, k1, (upd_ne (by omega)).trans k2⟩
theorem kept_mat (hw : WF f N kf pf R C n mh m m4 K D) (hm : Mat (ha, fi, se, pe, ho, ti, pa, ac, pr, tm, fc, ru, md) f N kf pf R C n mh m4) {p : Nat} {x : Int32} (hp : p < n) : Mat (ha, fi, se, (pe.1, upd pe.2 (p * 3 + 2) x), ho, ti, pa, ac, pr, tm, fc, ru, md) (upd f (22 + p) x) N kf pf R C n mh m4 := by
  obtain ⟨w1, w2, w3, w4, w5, w6, w7, w8, w9, w10⟩ := hw
  obtain ⟨a1, a2, a3, a4, a5, a6, a7, a8, a9, a10, a11, a12⟩ := hm
  have hn := w2.2.1
  refine ⟨mHal_fr (fun j p q => by simp (disch := omega) only [upd_ne]) a1, ⟨a2.1, fun q hq => ?_⟩, mSea_fr (fun j p q => by simp (disch := omega) only [upd_ne]) (fun j p q => by simp (disch := omega) only [upd_ne]) a3, mHol_fr w6.2.1 (fun j p q => by simp (disch := omega) only [upd_ne]) a4, mTic_fr (kf_b w7 w2.2.1) (fun j p q => by simp (disch := omega) only [upd_ne]) a5, mPay_fr w9.2 (fun j p q => by simp (disch := omega) only [upd_ne]) a6, mAcc_fr (fun j p q => by simp (disch := omega) only [upd_ne]) a7, mPri_fr (fun j p q => by simp (disch := omega) only [upd_ne]) a8, a9.trans (by simp (disch := omega) only [upd_ne]), a10.trans (by simp (disch := omega) only [upd_ne]), a11.trans (by simp (disch := omega) only [upd_ne]), a12.trans (by simp (disch := omega) only [upd_ne])⟩
  obtain ⟨e1, e2, e3⟩ := a2.2 q hq
  dsimp only [oPe] at e1 e2 e3 ⊢
  refine ⟨?_, ?_, ?_⟩
  · rw [upd_ne (by omega), upd_ne (by omega)]; exact e1
  · rw [upd_ne (by omega), upd_ne (by omega)]; exact e2
  · by_cases q2 : q = p
    · rw [q2, upd_same, upd_same]
    · rw [upd_ne (by omega), upd_ne (by omega)]; exact e3
/-- a ticket put in another's place -/
theorem swap_wf (hw : WF f N kf pf R C n mh m m4 K D) {i0 pt r2 c2 s : Nat} {P : Int32} (hi0 : i0 < N) (hpt : pt < n) (hno : pt = pf i0 ∨ ∀ i, i < N → kf i = kf i0 → pf i ≠ pt) (hb : wBlk f R C r2 c2 s) : WF (putTQ (putTQ f (kf i0) (pf i0) (nI 0) (nI 0) (nI 0) (nI 0)) (kf i0) pt (nI r2) (nI c2) (nI s) P) N kf (pfX pf i0 pt) R C n mh m m4 K D := by
  obtain ⟨w1, w2, w3, w4, w5, w6, w7, w8, w9, w10⟩ := hw
  have hR := w1.2.2.2.1
  have hC := w1.2.2.2.2.2.1
  have hn := w2.2.1
  obtain ⟨t1, t2, t3, t4, t5, t6, t7, t8, t9, t10⟩ := w7
  obtain ⟨u1, u2⟩ := t3 i0 hi0
  have lo : ∀ j, (j < 1375 + 26 * kf i0 + 2 ∨ 1375 + 26 * kf i0 + 26 ≤ j) → putTQ (putTQ f (kf i0) (pf i0) (nI 0) (nI 0) (nI 0) (nI 0)) (kf i0) pt (nI r2) (nI c2) (nI s) P j = f j := fun j h => (putTQ_out (by omega)).trans (putTQ_out (by omega))
  have num : ∀ k e, e < 2 → putTQ (putTQ f (kf i0) (pf i0) (nI 0) (nI 0) (nI 0) (nI 0)) (kf i0) pt (nI r2) (nI c2) (nI s) P (1375 + 26 * k + e) = f (1375 + 26 * k + e) := fun k e he => lo _ (by omega)
  have tk : ∀ k p e, p < 6 → e < 4 → (k ≠ kf i0 ∨ (p ≠ pf i0 ∧ p ≠ pt)) → putTQ (putTQ f (kf i0) (pf i0) (nI 0) (nI 0) (nI 0) (nI 0)) (kf i0) pt (nI r2) (nI c2) (nI s) P (tAt k p + e) = f (tAt k p + e) := fun k p e hp he h => (putTQ_ne (by omega) hp (h.imp id (fun z => z.2)) he).trans (putTQ_ne (by omega) hp (h.imp id (fun z => z.1)) he)
  obtain ⟨x0, x1, x2, x3⟩ := putTQ_at (f := putTQ f (kf i0) (pf i0) (nI 0) (nI 0) (nI 0) (nI 0)) (k := kf i0) (p := pt) (x0 := nI r2) (x1 := nI c2) (x2 := nI s) (x3 := P)
  have z2 : pf i0 ≠ pt → putTQ (putTQ f (kf i0) (pf i0) (nI 0) (nI 0) (nI 0) (nI 0)) (kf i0) pt (nI r2) (nI c2) (nI s) P (tAt (kf i0) (pf i0) + 2) = nI 0 := fun h => (putTQ_ne (by omega) (by omega) (Or.inr h) (by decide)).trans putTQ_at.2.2.1
  generalize putTQ (putTQ f (kf i0) (pf i0) (nI 0) (nI 0) (nI 0) (nI 0)) (kf i0) pt (nI r2) (nI c2) (nI s) P = g at lo num tk x0 x1 x2 x3 z2
  have k43 : agr f g 43 139 := fun j h1 h2 => lo j (by omega)
  have bl : ∀ {r c s : Nat}, wBlk f R C r c s → wBlk g R C r c s := fun h => wBlk_fr k43 hR hC h
  refine ⟨wHal_fr (lo 0 (by omega)) (lo 1 (by omega)) k43 w1, wPer_fr (lo 9 (by omega)) (fun j h1 h2 => lo j (by omega)) w2, wSea_fr k43 (fun j h1 h2 => lo j (by omega)) w3, wTim_fr (lo 7 (by omega)) (lo 8 (by omega)) w4, ⟨(lo 32 (by omega)).trans w5.1, (lo 28 (by omega)).trans w5.2.1, w5.2.2⟩, wHol_fr (lo 29 (by omega)) k43 (fun j h1 h2 => lo j (by omega)) hR hC (Nat.le_refl _) (Nat.le_refl _) w6, ⟨(lo 30 (by omega)).trans t1, t2, fun i hi => ⟨(t3 i hi).1, ?_⟩, t4, fun i j hij hj hk => ?_, t6, fun k hk => ?_, fun k k' hkk hk' => ?_, fun i hi => ?_, fun k hk p hp hn2 => ?_⟩, fun i hi k hk => ?_, ⟨(lo 31 (by omega)).trans w9.1, w9.2⟩, fun j hj => (lo j (by omega)).trans (w10 j hj)⟩
  · by_cases e1 : i = i0
    · rw [e1, pfX_s]
      exact hpt
    · rw [pfX_n e1]
      exact (t3 i hi).2
  · by_cases e1 : i = i0
    · subst e1
      rw [pfX_s, pfX_n (by omega)]
      rcases hno with z | z
      · rw [z]
        exact t5 i j hij hj hk
      · exact fun w => z j hj hk.symm w.symm
    · rw [pfX_n e1]
      by_cases e2 : j = i0
      · subst e2
        rw [pfX_s]
        rcases hno with z | z
        · rw [z]
          exact t5 i j hij hj hk
        · exact z i (by omega) hk
      · rw [pfX_n e2]
        exact t5 i j hij hj hk
  · obtain ⟨nu, cu, e1, e2, e3, e4⟩ := t7 k hk
    exact ⟨nu, cu, (num k 0 (by decide)).trans e1, e2, (num k 1 (by decide)).trans e3, e4⟩
  · have n1 := num k 0 (by decide)
    have n2 := num k' 0 (by decide)
    rw [Nat.add_zero] at n1 n2
    rw [n1, n2]
    exact t8 k k' hkk hk'
  · by_cases e1 : i = i0
    · rw [e1, pfX_s]
      exact ⟨r2, c2, s, x0, x1, x2, bl hb⟩
    · rw [pfX_n e1]
      obtain ⟨r, c, s, b1, b2, b3, b4⟩ := t9 i hi
      have hb6 := (t3 i hi).2
      have hdis : kf i ≠ kf i0 ∨ (pf i ≠ pf i0 ∧ pf i ≠ pt) := by
        by_cases q : kf i = kf i0
        · right
          have h1 : pf i ≠ pf i0 := by
            rcases Nat.lt_or_ge i i0 with h | h
            · exact t5 i i0 h hi0 q
            · exact fun w => t5 i0 i (by omega) hi q.symm w.symm
          refine ⟨h1, ?_⟩
          rcases hno with z | z
          · rw [z]; exact h1
          · exact z i hi q
        · exact Or.inl q
      exact ⟨r, c, s, (tk _ _ 0 (by omega) (by decide) hdis).trans b1, (tk _ _ 1 (by omega) (by decide) hdis).trans b2, (tk _ _ 2 (by omega) (by decide) hdis).trans b3, bl b4⟩
  · have hpt2 : k = kf i0 → p ≠ pt := fun h w => hn2 i0 hi0 h.symm (pfX_s.trans w.symm)
    by_cases q : k = kf i0
    · by_cases q2 : p = pf i0
      · rw [q, q2]
        exact z2 (fun w => hpt2 q (q2.trans w))
      · rw [tk k p 2 hp (by decide) (Or.inr ⟨q2, hpt2 q⟩)]
        refine t10 k hk p hp fun i hi hki w => ?_
        by_cases e1 : i = i0
        · exact q2 (by rw [← w, e1])
        · have := hn2 i hi hki
          rw [pfX_n e1] at this
          exact this w
    · rw [tk k p 2 hp (by decide) (Or.inl q)]
      refine t10 k hk p hp fun i hi hki w => ?_
      have hne : i ≠ i0 := fun z => q (by rw [← hki, z])
      have := hn2 i hi hki
      rw [pfX_n hne] at this
      exact this w
  · have n2 := num k 0 (by decide)
    rw [Nat.add_zero] at n2
    have := w6.2.1
    rw [n2, lo _ (by omega)]
    exact w8 i hi k hk
theorem swap_mat (hw : WF f N kf pf R C n mh m m4 K D) (hm : Mat (ha, fi, se, pe, ho, ti, pa, ac, pr, tm, fc, ru, md) f N kf pf R C n mh m4) {i0 pt r2 c2 s : Nat} {P : Int32} (hi0 : i0 < N) (hpt : pt < n) (hno : pt = pf i0 ∨ ∀ i, i < N → kf i = kf i0 → pf i ≠ pt) (hs : f (tAt (kf i0) (pf i0) + 2) = nI s) : Mat (ha, fi, se, pe, ho, (ti.1, upd (upd (upd (upd ti.2 (i0 * 7 + 6) (nI pt)) (i0 * 7 + 1) (nI r2)) (i0 * 7 + 2) (nI c2)) (i0 * 7 + 4) P), pa, ac, pr, tm, fc, ru, md) (putTQ (putTQ f (kf i0) (pf i0) (nI 0) (nI 0) (nI 0) (nI 0)) (kf i0) pt (nI r2) (nI c2) (nI s) P) N kf (pfX pf i0 pt) R C n mh m4 := by
  obtain ⟨w1, w2, w3, w4, w5, w6, w7, w8, w9, w10⟩ := hw
  obtain ⟨a1, a2, a3, a4, a5, a6, a7, a8, a9, a10, a11, a12⟩ := hm
  have hn := w2.2.1
  obtain ⟨t1, t2, t3, t4, t5, t6, t7, t8, t9, t10⟩ := w7
  obtain ⟨u1, u2⟩ := t3 i0 hi0
  have lo : ∀ j, (j < 1375 + 26 * kf i0 + 2 ∨ 1375 + 26 * kf i0 + 26 ≤ j) → putTQ (putTQ f (kf i0) (pf i0) (nI 0) (nI 0) (nI 0) (nI 0)) (kf i0) pt (nI r2) (nI c2) (nI s) P j = f j := fun j h => (putTQ_out (by omega)).trans (putTQ_out (by omega))
  have num : ∀ k e, e < 2 → putTQ (putTQ f (kf i0) (pf i0) (nI 0) (nI 0) (nI 0) (nI 0)) (kf i0) pt (nI r2) (nI c2) (nI s) P (1375 + 26 * k + e) = f (1375 + 26 * k + e) := fun k e he => lo _ (by omega)
  have tk : ∀ k p e, p < 6 → e < 4 → (k ≠ kf i0 ∨ (p ≠ pf i0 ∧ p ≠ pt)) → putTQ (putTQ f (kf i0) (pf i0) (nI 0) (nI 0) (nI 0) (nI 0)) (kf i0) pt (nI r2) (nI c2) (nI s) P (tAt k p + e) = f (tAt k p + e) := fun k p e hp he h => (putTQ_ne (by omega) hp (h.imp id (fun z => z.2)) he).trans (putTQ_ne (by omega) hp (h.imp id (fun z => z.1)) he)
  obtain ⟨x0, x1, x2, x3⟩ := putTQ_at (f := putTQ f (kf i0) (pf i0) (nI 0) (nI 0) (nI 0) (nI 0)) (k := kf i0) (p := pt) (x0 := nI r2) (x1 := nI c2) (x2 := nI s) (x3 := P)
  generalize putTQ (putTQ f (kf i0) (pf i0) (nI 0) (nI 0) (nI 0) (nI 0)) (kf i0) pt (nI r2) (nI c2) (nI s) P = g at lo num tk x0 x1 x2 x3
  dsimp only [oTi] at a5
  refine ⟨mHal_fr (fun j h1 h2 => lo j (by omega)) a1, mPer_fr hn (fun j h1 h2 => lo j (by omega)) a2, mSea_fr (fun j h1 h2 => lo j (by omega)) (fun j h1 h2 => lo j (by omega)) a3, mHol_fr w6.2.1 (fun j h1 h2 => lo j (by have := w6.2.1; omega)) a4, ⟨a5.1, fun i hi => ?_⟩, mPay_fr w9.2 (fun j h1 h2 => lo j (by omega)) a6, mAcc_fr (fun j h1 h2 => lo j (by omega)) a7, mPri_fr (fun j h1 h2 => lo j (by omega)) a8, a9.trans (lo 8 (by omega)).symm, a10.trans (lo 6 (by omega)).symm, a11.trans (lo 7 (by omega)).symm, a12.trans (lo 28 (by omega)).symm⟩
  obtain ⟨e0, e1, e2, e3, e4, e5, e6⟩ := a5.2 i hi
  dsimp only [oTi]
  have n0 := num (kf i) 0 (by decide)
  have n1 := num (kf i) 1 (by decide)
  rw [Nat.add_zero] at n0
  by_cases q : i = i0
  · subst q
    rw [pfX_s, n0, n1, x0, x1, x2, x3]
    refine ⟨?_, ?_, ?_, ?_, ?_, ?_, ?_⟩
    · simp (disch := omega) only [upd_ne]; exact e0
    · simp (disch := omega) only [upd_ne, upd_same]
    · simp (disch := omega) only [upd_ne, upd_same]
    · simp (disch := omega) only [upd_ne]; exact e3.trans hs
    · simp (disch := omega) only [upd_ne, upd_same]
    · simp (disch := omega) only [upd_ne]; exact e5
    · simp (disch := omega) only [upd_ne, upd_same]
  · rw [pfX_n q]
    have hb6 := (t3 i hi).2
    have hdis : kf i ≠ kf i0 ∨ (pf i ≠ pf i0 ∧ pf i ≠ pt) := by
      by_cases q2 : kf i = kf i0
      · right
        have h1 : pf i ≠ pf i0 := by
          rcases Nat.lt_or_ge i i0 with h | h
          · exact t5 i i0 h hi0 q2
          · exact fun w => t5 i0 i (by omega) hi q2.symm w.symm
        refine ⟨h1, ?_⟩
        rcases hno with z | z
        · rw [z]; exact h1
        · exact z i hi q2
      · exact Or.inl q2
    have k0 := tk _ _ 0 (show pf i < 6 by omega) (by decide) hdis
    rw [Nat.add_zero] at k0
    rw [n0, n1, k0, tk _ _ 1 (by omega) (by decide) hdis, tk _ _ 2 (by omega) (by decide) hdis, tk _ _ 3 (by omega) (by decide) hdis]
    refine ⟨?_, ?_, ?_, ?_, ?_, ?_, ?_⟩
    · simp (disch := omega) only [upd_ne]; exact e0
    · simp (disch := omega) only [upd_ne]; exact e1
    · simp (disch := omega) only [upd_ne]; exact e2
    · simp (disch := omega) only [upd_ne]; exact e3
    · simp (disch := omega) only [upd_ne]; exact e4
    · simp (disch := omega) only [upd_ne]; exact e5
    · simp (disch := omega) only [upd_ne]; exact e6
end CMD6
