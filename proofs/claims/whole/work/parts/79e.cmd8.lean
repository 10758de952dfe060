/-! commands on both sides: exchange, refund -/
section CMD8
variable {f : Nat → Int32} {N : Nat} {kf pf : Nat → Nat} {R C n mh m m4 K D : Nat} {ha : Hal} {fi : Fnd} {se : Sea} {pe ho ti pa : Tab} {ac pr : Nat → Int32} {tm fc ru md : Int32}
theorem tic_ts (h : wTic f m N kf pf n R C D) (hn : n ≤ 6) {k p : Nat} (hk : k < m) (hp : p < n) : nI 0 < tsQ f k p ↔ ∃ i, i < N ∧ kf i = k ∧ pf i = p := by
  obtain ⟨t1, t2, t3, t4, t5, t6, t7, t8, t9, t10⟩ := h
  constructor
  · intro h
    refine Classical.byContradiction fun z => ?_
    have := t10 k hk p (by omega) (fun i h1 h2 h3 => z ⟨i, h1, h2, h3⟩)
    have e : tsQ f k p = nI 0 := this
    rw [e, nI_ltI (by decide) (by decide)] at h
    omega
  · rintro ⟨i, hi, rfl, rfl⟩
    obtain ⟨r, c, s, -, -, e, b1, b2, b3, -⟩ := t9 i hi
    have e2 : tsQ f (kf i) (pf i) = nI s := e
    rw [e2, nI_ltI (by decide) (by omega)]
    omega
theorem ord_inj (h : wTic f m N kf pf n R C D) {k k' : Nat} (hk : k < m) (hk' : k' < m) (he : f (1375 + 26 * k) = f (1375 + 26 * k')) : k = k' := by
  have t8 := h.2.2.2.2.2.2.2.1
  rcases Nat.lt_trichotomy k k' with q | q | q
  · exact absurd he (t8 k k' q hk')
  · exact q
  · exact absurd he.symm (t8 k' k q hk)
theorem tic_inj (h : wTic f m N kf pf n R C D) {i j : Nat} (hi : i < N) (hj : j < N) (h1 : kf i = kf j) (h2 : pf i = pf j) : i = j := by
  have t5 := h.2.2.2.2.1
  rcases Nat.lt_trichotomy i j with q | q | q
  · exact absurd h2 (t5 i j q hj h1)
  · exact q
  · exact absurd h2.symm (t5 j i q hi h1.symm)
theorem tic_no (h : wTic f m N kf pf n R C D) (hm : mTic ti f N kf pf) (hn : n ≤ 6) {v w : Int32} : noTQ f m n v w ↔ ∀ j, j < ti.1 → ti.2 (j * 7 + 5) = v → ¬ ti.2 (j * 7 + 6) = w := by
  have t3 := h.2.2.1
  rw [hm.1]
  constructor
  · intro q j hj h5 h6
    obtain ⟨-, -, -, -, -, e5, e6⟩ := hm.2 j hj
    exact q (kf j) (t3 j hj).1 (e5.symm.trans h5) (pf j) (t3 j hj).2 (h6.symm.trans e6) ((tic_ts h hn (t3 j hj).1 (t3 j hj).2).mpr ⟨j, hj, rfl, rfl⟩)
  · intro q k hk hv p hp hw hs
    obtain ⟨i, hi, e1, e2⟩ := (tic_ts h hn hk hp).mp hs
    obtain ⟨-, -, -, -, -, e5, e6⟩ := hm.2 i hi
    exact q i hi (e5.trans (by rw [e1]; exact hv)) (e6.trans (by rw [e2]; exact hw.symm))
theorem tic_yes (h : wTic f m N kf pf n R C D) (hm : mTic ti f N kf pf) (hn : n ≤ 6) {v w : Int32} (hno : ¬ noTQ f m n v w) : ∃ i, i < N ∧ ti.2 (i * 7 + 5) = v ∧ w = nI (pf i) ∧ ti.2 (i * 7 + 6) = nI (pf i) ∧ (∀ j, j < i → ti.2 (j * 7 + 5) = v → ¬ ti.2 (j * 7 + 6) = nI (pf i)) ∧ kf i < m ∧ pf i < n ∧ f (1375 + 26 * kf i) = v ∧ (∀ j, j < kf i → ¬ f (1375 + 26 * j) = v) ∧ nI 0 < tsQ f (kf i) (pf i) := by
  rw [tic_no h hm hn] at hno
  have : ∃ j, j < ti.1 ∧ ti.2 (j * 7 + 5) = v ∧ ti.2 (j * 7 + 6) = w := Classical.byContradiction fun z => hno fun j h1 h2 h3 => z ⟨j, h1, h2, h3⟩
  obtain ⟨i, hi, h5, h6⟩ := this
  rw [hm.1] at hi
  have t3 := h.2.2.1
  obtain ⟨b1, b2⟩ := t3 i hi
  obtain ⟨-, -, -, -, -, e5, e6⟩ := hm.2 i hi
  refine ⟨i, hi, h5, h6.symm.trans e6, e6, fun j hj g5 g6 => ?_, b1, b2, e5.symm.trans h5, fun j hj g => ?_, (tic_ts h hn b1 b2).mpr ⟨i, hi, rfl, rfl⟩⟩
  · obtain ⟨-, -, -, -, -, d5, d6⟩ := hm.2 j (by omega)
    obtain ⟨c1, c2⟩ := t3 j (by omega)
    have k1 : kf j = kf i := ord_inj h c1 b1 ((d5.symm.trans g5).trans (h5.symm.trans e5))
    have k2 : pf j = pf i := by
      have := d6.symm.trans g6
      rw [nI_eq (by omega) (by omega)] at this
      exact this
    have := tic_inj h (show j < N by omega) hi k1 k2
    omega
  · have := ord_inj h (show j < m by omega) b1 (g.trans (h5.symm.trans e5))
    omega
/-- another ticket of the order -/
theorem tic_oth (h : wTic f m N kf pf n R C D) (hm : mTic ti f N kf pf) (hn : n ≤ 6) {v : Int32} {k p : Nat} (hk : k < m) (hv : f (1375 + 26 * k) = v) (hp : p < n) : (¬ nI 0 < tsQ f k p ↔ ∀ j, j < ti.1 → ti.2 (j * 7 + 5) = v → ¬ ti.2 (j * 7 + 6) = nI p) ∧ (¬ nI 0 < tsQ f k p ↔ ∀ i, i < N → kf i = k → pf i ≠ p) := by
  have t3 := h.2.2.1
  have e : ¬ nI 0 < tsQ f k p ↔ ∀ i, i < N → kf i = k → pf i ≠ p := by
    rw [tic_ts h hn hk hp]
    exact ⟨fun z i h1 h2 h3 => z ⟨i, h1, h2, h3⟩, fun z ⟨i, h1, h2, h3⟩ => z i h1 h2 h3⟩
  refine ⟨e.trans ?_, e⟩
  rw [hm.1]
  constructor
  · intro q j hj h5 h6
    obtain ⟨-, -, -, -, -, e5, e6⟩ := hm.2 j hj
    obtain ⟨b1, b2⟩ := t3 j hj
    refine q j hj (ord_inj h b1 hk ((e5.symm.trans h5).trans hv.symm)) ?_
    have := e6.symm.trans h6
    rw [nI_eq (by omega) (by omega)] at this
    exact this
  · intro q i hi h1 h2
    obtain ⟨-, -, -, -, -, e5, e6⟩ := hm.2 i hi
    exact q i hi (e5.trans (by rw [h1]; exact hv)) (by rw [e6, h2])
theorem has_rel (hw : wHal f R C) (hh : mHal ha f R C) {r c s : Nat} (hr : r < R) (hc : c + s ≤ C) : hasW ha.2.1 (r * 12 + c) s = hasQ f r c s := by
  obtain ⟨w0, w1, w2, w3, w4, w5, w6, w7⟩ := hw
  obtain ⟨m1, m2, m3, m5, m6⟩ := hh
  have key : ∀ i, i < s → (ha.2.1 (r * 12 + c + i) = nI 1 ↔ f (43 + 12 * r + (c + i)) = nI 5) := by
    intro i hi
    have hk := (m6 (r * 12 + c + i) (by omega) ⟨by omega, by omega⟩).2
    rw [show 43 + (r * 12 + c + i) = 43 + 12 * r + (c + i) by omega] at hk
    rw [hk]
    unfold kcQ
    by_cases q : f (43 + 12 * r + (c + i)) = nI 5
    · rw [if_pos q]
      exact ⟨fun _ => q, fun _ => rfl⟩
    · rw [if_neg q]
      by_cases q2 : f (43 + 12 * r + (c + i)) = nI 6
      · rw [if_pos q2]
        exact ⟨fun z => absurd z (by decide), fun z => absurd z q⟩
      · rw [if_neg q2]
        exact ⟨fun z => absurd z (by decide), fun z => absurd z q⟩
  unfold hasW hasQ
  have e : (∀ i, i < s → ¬ ha.2.1 (r * 12 + c + i) = nI 1) ↔ ∀ i, i < s → ¬ f (43 + 12 * r + (c + i)) = nI 5 := ⟨fun z i hi q => z i hi ((key i hi).mpr q), fun z i hi q => z i hi ((key i hi).mp q)⟩
  by_cases q : ∀ i, i < s → ¬ f (43 + 12 * r + (c + i)) = nI 5
  · rw [if_pos q, if_pos (e.mpr q)]
  · rw [if_neg q, if_neg (fun z => q (e.mp z))]
theorem exch_wf (hw : WF f N kf pf R C n mh m m4 K D) {i0 pt r c s r2 c2 cu : Nat} {v P x : Int32} (hi0 : i0 < N) (hpt : pt < n) (hno : pt = pf i0 ∨ ∀ i, i < N → kf i = kf i0 → pf i ≠ pt) (hcu : cu < 10) (hv : f (1375 + 26 * kf i0) = v) (hb : wBlk f R C r c s) (hb2 : wBlk f R C r2 c2 s) (hK : K < 1000) : WF (payQ (pbQ pt (12 * r2 + c2) s (nI 2) v (putTQ (putTQ (pbQ (pf i0) (12 * r + c) s (nI 0) (nI 0) (upd f 32 (f 32 + nI 1))) (kf i0) (pf i0) (nI 0) (nI 0) (nI 0) (nI 0)) (kf i0) pt (nI r2) (nI c2) (nI s) P)) 2 cu x) N kf (pfX pf i0 pt) R C n mh m (payE (pbQ pt (12 * r2 + c2) s (nI 2) v (putTQ (putTQ (pbQ (pf i0) (12 * r + c) s (nI 0) (nI 0) (upd f 32 (f 32 + nI 1))) (kf i0) (pf i0) (nI 0) (nI 0) (nI 0) (nI 0)) (kf i0) pt (nI r2) (nI c2) (nI s) P)) + 1) (K + 1) D := by
  have w1 := hw.1
  have hR := w1.2.2.2.1
  have hC := w1.2.2.2.2.2.1
  have hn := hw.2.1.2.1
  have w7 := hw.2.2.2.2.2.2.1
  obtain ⟨u1, u2⟩ := w7.2.2.1 i0 hi0
  obtain ⟨nu, cu', e1, e2, -⟩ := w7.2.2.2.2.2.2.1 _ u1
  have hD := hw.2.2.2.2.1.2.2
  have hb' := hb
  have hb2' := hb2
  obtain ⟨b1, b2, b3, b4, b5⟩ := hb'
  obtain ⟨d1, d2, d3, d4, d5⟩ := hb2'
  have h1 := cmd_wf hw
  have p1 : 2 ^ pf i0 < 2 ^ n := Nat.pow_lt_pow_right (by decide) u2
  have p2 : 2 ^ pt < 2 ^ n := Nat.pow_lt_pow_right (by decide) hpt
  rw [pb_putT (by omega) (by omega), pb_putT (by omega) (by omega), pnt_pow u2 hn (by omega), pnt_pow hpt hn (by omega)]
  have h2 := pnt_wf h1 (S := 2 ^ pf i0) (r := r) (c := c) (s := s) (st := nI 0) (ow := nI 0) p1 (wBlk_fr (fun j p q => by simp (disch := omega) only [upd_ne]) hR hC hb) (Or.inl rfl)
  have h3 := pnt_wf h2 (S := 2 ^ pt) (r := r2) (c := c2) (s := s) (st := nI 2) (ow := v) p2 (wBlk_fr (fun j a1 a2 => (pntQ_out hn (Or.inl a2)).trans (upd_ne (by omega))) hR hC hb2) (Or.inr ⟨Or.inr rfl, nu, by omega, hv.symm.trans e1⟩)
  have h4 := swap_wf h3 (i0 := i0) (pt := pt) (r2 := r2) (c2 := c2) (s := s) (P := P) hi0 hpt hno (wBlk_fr (fun j a1 a2 => (pntQ_out hn (Or.inl a2)).trans ((pntQ_out hn (Or.inl a2)).trans (upd_ne (by omega)))) hR hC hb2)
  exact pay_wf h4 (kk := 2) (cu := cu) (x := x) hcu
theorem exch_mat (hw : WF f N kf pf R C n mh m m4 K D) (hm : Mat (ha, fi, se, pe, ho, ti, pa, ac, pr, tm, fc, ru, md) f N kf pf R C n mh m4) {i0 pt r c s r2 c2 cu : Nat} {v P x : Int32} (hi0 : i0 < N) (hpt : pt < n) (hno : pt = pf i0 ∨ ∀ i, i < N → kf i = kf i0 → pf i ≠ pt) (hcu : cu < 10) (hv : f (1375 + 26 * kf i0) = v) (hb : wBlk f R C r c s) (hb2 : wBlk f R C r2 c2 s) (hK : K < 1000) (hs : f (tAt (kf i0) (pf i0) + 2) = nI s) {fi' : Fnd} : Mat (ha, fi', markV (2 ^ pt) (r2 * 12 + c2) s (nI 2) v (markV (2 ^ pf i0) (r * 12 + c) s (nI 0) (-nI 1) se), pe, ho, (ti.1, upd (upd (upd (upd ti.2 (i0 * 7 + 6) (nI pt)) (i0 * 7 + 1) (nI r2)) (i0 * 7 + 2) (nI c2)) (i0 * 7 + 4) P), payT pa 2 cu x, payA ac cu x, pr, tm, fc, ru, md) (payQ (pbQ pt (12 * r2 + c2) s (nI 2) v (putTQ (putTQ (pbQ (pf i0) (12 * r + c) s (nI 0) (nI 0) (upd f 32 (f 32 + nI 1))) (kf i0) (pf i0) (nI 0) (nI 0) (nI 0) (nI 0)) (kf i0) pt (nI r2) (nI c2) (nI s) P)) 2 cu x) N kf (pfX pf i0 pt) R C n mh (payE (pbQ pt (12 * r2 + c2) s (nI 2) v (putTQ (putTQ (pbQ (pf i0) (12 * r + c) s (nI 0) (nI 0) (upd f 32 (f 32 + nI 1))) (kf i0) (pf i0) (nI 0) (nI 0) (nI 0) (nI 0)) (kf i0) pt (nI r2) (nI c2) (nI s) P)) + 1) := by
  have w1 := hw.1
  have hR := w1.2.2.2.1
  have hC := w1.2.2.2.2.2.1
  have hn := hw.2.1.2.1
  have w7 := hw.2.2.2.2.2.2.1
  obtain ⟨u1, u2⟩ := w7.2.2.1 i0 hi0
  obtain ⟨nu, cu', e1, e2, -⟩ := w7.2.2.2.2.2.2.1 _ u1
  have hD := hw.2.2.2.2.1.2.2
  have hb' := hb
  have hb2' := hb2
  obtain ⟨b1, b2, b3, b4, b5⟩ := hb'
  obtain ⟨d1, d2, d3, d4, d5⟩ := hb2'
  have h1 := cmd_wf hw
  have g1 := cmd_mat hw hm
  have p1 : 2 ^ pf i0 < 2 ^ n := Nat.pow_lt_pow_right (by decide) u2
  have p2 : 2 ^ pt < 2 ^ n := Nat.pow_lt_pow_right (by decide) hpt
  rw [pb_putT (by omega) (by omega), pb_putT (by omega) (by omega), pnt_pow u2 hn (by omega), pnt_pow hpt hn (by omega)]
  have k1 : wBlk (upd f 32 (f 32 + nI 1)) R C r c s := wBlk_fr (fun j p q => by simp (disch := omega) only [upd_ne]) hR hC hb
  have h2 := pnt_wf h1 (S := 2 ^ pf i0) (r := r) (c := c) (s := s) (st := nI 0) (ow := nI 0) p1 k1 (Or.inl rfl)
  have g2 := pnt_mat h1 g1 (S := 2 ^ pf i0) (r := r) (c := c) (s := s) (st := nI 0) (ow := nI 0) (y := -nI 1) p1 k1 (Or.inl ⟨rfl, rfl⟩)
  have k2 : wBlk (pntQ (2 ^ pf i0) n (12 * r + c) s (nI 0) (nI 0) (upd f 32 (f 32 + nI 1))) R C r2 c2 s := wBlk_fr (fun j a1 a2 => (pntQ_out hn (Or.inl a2)).trans (upd_ne (by omega))) hR hC hb2
  have h3 := pnt_wf h2 (S := 2 ^ pt) (r := r2) (c := c2) (s := s) (st := nI 2) (ow := v) p2 k2 (Or.inr ⟨Or.inr rfl, nu, by omega, hv.symm.trans e1⟩)
  have g3 := pnt_mat h2 g2 (S := 2 ^ pt) (r := r2) (c := c2) (s := s) (st := nI 2) (ow := v) (y := v) p2 k2 (Or.inr ⟨Or.inr rfl, rfl⟩)
  have hs3 : pntQ (2 ^ pt) n (12 * r2 + c2) s (nI 2) v (pntQ (2 ^ pf i0) n (12 * r + c) s (nI 0) (nI 0) (upd f 32 (f 32 + nI 1))) (tAt (kf i0) (pf i0) + 2) = nI s := by
    have : 1375 ≤ tAt (kf i0) (pf i0) + 2 := by unfold tAt; omega
    rw [pntQ_out hn (Or.inr (by omega)), pntQ_out hn (Or.inr (by omega)), upd_ne (by omega)]
    exact hs
  have k3 := wBlk_fr (f := pntQ (2 ^ pf i0) n (12 * r + c) s (nI 0) (nI 0) (upd f 32 (f 32 + nI 1))) (g := pntQ (2 ^ pt) n (12 * r2 + c2) s (nI 2) v (pntQ (2 ^ pf i0) n (12 * r + c) s (nI 0) (nI 0) (upd f 32 (f 32 + nI 1)))) (fun j a1 a2 => pntQ_out hn (Or.inl a2)) hR hC k2
  have h4 := swap_wf h3 (i0 := i0) (pt := pt) (r2 := r2) (c2 := c2) (s := s) (P := P) hi0 hpt hno k3
  have g4 := swap_mat h3 g3 (i0 := i0) (pt := pt) (r2 := r2) (c2 := c2) (s := s) (P := P) hi0 hpt hno hs3
  exact pay_mat h4 g4 (kk := 2) (cu := cu) (x := x) hcu
abbrev refG (f : Nat → Int32) (p cu r c s : Nat) (am back : Int32) : Nat → Int32 := pbQ p (12 * r + c) s (nI 0) (nI 0) (payQ (upd (upd f 32 (f 32 + nI 1)) (22 + p) (f (22 + p) + (am - back))) 3 cu (-back))
theorem refG_rel (hw : WF f N kf pf R C n mh m m4 K D) (hm : Mat (ha, fi, se, pe, ho, ti, pa, ac, pr, tm, fc, ru, md) f N kf pf R C n mh m4) {p r c s cu : Nat} {am back : Int32} (hp : p < n) (hcu : cu < 10) (hb : wBlk f R C r c s) : WF (refG f p cu r c s am back) N kf pf R C n mh m (payE (upd (upd f 32 (f 32 + nI 1)) (22 + p) (f (22 + p) + (am - back))) + 1) (K + 1) D ∧ Mat (ha, fi, markV (2 ^ p) (r * 12 + c) s (nI 0) (-nI 1) se, (pe.1, upd pe.2 (p * 3 + 2) (pe.2 (p * 3 + 2) + am - back)), ho, ti, payT pa 3 cu (-back), payA ac cu (-back), pr, tm, fc, ru, md) (refG f p cu r c s am back) N kf pf R C n mh (payE (upd (upd f 32 (f 32 + nI 1)) (22 + p) (f (22 + p) + (am - back))) + 1) := by
  have w1 := hw.1
  have hR := w1.2.2.2.1
  have hC := w1.2.2.2.2.2.1
  have hn := hw.2.1.2.1
  have hb' := hb
  obtain ⟨b1, b2, b3, b4, b5⟩ := hb'
  have h1 := cmd_wf hw
  have g1 := cmd_mat hw hm
  have p1 : 2 ^ p < 2 ^ n := Nat.pow_lt_pow_right (by decide) hp
  have e : pe.2 (p * 3 + 2) + am - back = f (22 + p) + (am - back) := by
    have := (hm.2.1.2 p hp).2.2
    dsimp only [oPe] at this
    rw [this, Int32.sub_eq_add_neg, Int32.sub_eq_add_neg, Int32.add_assoc]
  unfold refG
  rw [e, pnt_pow hp hn (by omega)]
  have h2 := kept_wf h1 (p := p) (x := f (22 + p) + (am - back)) hp
  have g2 := kept_mat h1 g1 (p := p) (x := f (22 + p) + (am - back)) hp
  have h3 := pay_wf h2 (kk := 3) (cu := cu) (x := -back) hcu
  have g3 := pay_mat h2 g2 (kk := 3) (cu := cu) (x := -back) hcu
  have kb : wBlk (payQ (upd (upd f 32 (f 32 + nI 1)) (22 + p) (f (22 + p) + (am - back))) 3 cu (-back)) R C r c s := wBlk_fr (fun j a1 a2 => (payQ_lo hcu (by omega)).trans ((upd_ne (by omega)).trans (upd_ne (by omega)))) hR hC hb
  exact ⟨pnt_wf h3 p1 kb (Or.inl rfl), pnt_mat h3 g3 p1 kb (Or.inl ⟨rfl, rfl⟩)⟩
abbrev refQ (f : Nat → Int32) (k p cu m n : Nat) (am back : Int32) : Nat → Int32 := if tcQ (freQ (payQ (upd (upd f 32 (f 32 + nI 1)) (22 + p) (f (22 + p) + (am - back))) 3 cu (-back)) k p) k n = 0 then droQ m k (freQ (payQ (upd (upd f 32 (f 32 + nI 1)) (22 + p) (f (22 + p) + (am - back))) 3 cu (-back)) k p) else (freQ (payQ (upd (upd f 32 (f 32 + nI 1)) (22 + p) (f (22 + p) + (am - back))) 3 cu (-back)) k p)
theorem refd_rel (hw : WF f N kf pf R C n mh m m4 K D) (hm : Mat (ha, fi, se, pe, ho, ti, pa, ac, pr, tm, fc, ru, md) f N kf pf R C n mh m4) {i0 r c s cu : Nat} {am back : Int32} (hi0 : i0 < N) (hcu : cu < 10) (hb : wBlk f R C r c s) (g0 : f (tAt (kf i0) (pf i0)) = nI r) (g1 : f (tAt (kf i0) (pf i0) + 1) = nI c) (g2 : f (tAt (kf i0) (pf i0) + 2) = nI s) : ∃ kf' pf' m' m4', WF (refQ f (kf i0) (pf i0) cu m n am back) (N - 1) kf' pf' R C n mh m' m4' (K + 1) D ∧ Mat (ha, fi, markV (2 ^ pf i0) (r * 12 + c) s (nI 0) (-nI 1) se, (pe.1, upd pe.2 (pf i0 * 3 + 2) (pe.2 (pf i0 * 3 + 2) + am - back)), ho, remV 7 ti i0, payT pa 3 cu (-back), payA ac cu (-back), pr, tm, fc, ru, md) (refQ f (kf i0) (pf i0) cu m n am back) (N - 1) kf' pf' R C n mh m4' := by
  have w1 := hw.1
  have hR := w1.2.2.2.1
  have hC := w1.2.2.2.2.2.1
  have hn := hw.2.1.2.1
  have w7 := hw.2.2.2.2.2.2.1
  obtain ⟨u1, u2⟩ := w7.2.2.1 i0 hi0
  have hm20 := w7.2.1
  have hb' := hb
  obtain ⟨b1, b2, b3, b4, b5⟩ := hb'
  obtain ⟨hW, hM⟩ := refG_rel hw hm (p := pf i0) (r := r) (c := c) (s := s) (cu := cu) (am := am) (back := back) u2 hcu hb
  have q : ∀ e, e < 4 → payQ (upd (upd f 32 (f 32 + nI 1)) (22 + pf i0) (f (22 + pf i0) + (am - back))) 3 cu (-back) (tAt (kf i0) (pf i0) + e) = f (tAt (kf i0) (pf i0) + e) := fun e he => by
    have : 1375 ≤ tAt (kf i0) (pf i0) + e ∧ tAt (kf i0) (pf i0) + e < 1895 := by unfold tAt; omega
    rw [payQ_lo hcu (by omega), upd_ne (by omega), upd_ne (by omega)]
  have e : freQ (payQ (upd (upd f 32 (f 32 + nI 1)) (22 + pf i0) (f (22 + pf i0) + (am - back))) 3 cu (-back)) (kf i0) (pf i0) = putTQ (refG f (pf i0) cu r c s am back) (kf i0) (pf i0) (nI 0) (nI 0) (nI 0) (nI 0) := freQ_eq (by omega) (by omega) ((q 0 (by decide)).trans g0) ((q 1 (by decide)).trans g1) ((q 2 (by decide)).trans g2)
  unfold refQ
  rw [e]
  by_cases hot : ∀ i, i < N → i ≠ i0 → kf i ≠ kf i0
  · rw [if_pos ((tc_iff hW hi0).mpr hot)]
    exact ⟨_, _, _, _, rem2_wf hW hi0 hot, rem2_mat hW hM hi0 hot⟩
  · rw [if_neg (fun z => hot ((tc_iff hW hi0).mp z))]
    exact ⟨_, _, _, _, rem1_wf hW hi0 hot, rem1_mat hW hM hi0⟩
theorem pigeon : ∀ (M N : Nat) (g : Nat → Nat), (∀ i, i < N → g i < M) → (∀ i j, i < j → j < N → ¬ g i = g j) → N ≤ M := by
  intro M
  induction M with
  | zero =>
    intro N g h _
    rcases Nat.eq_zero_or_pos N with q | q
    · omega
    · exact absurd (h 0 q) (by omega)
  | succ M ih =>
    intro N g h1 h2
    by_cases q : ∃ i, i < N ∧ g i = M
    · obtain ⟨i0, hi0, e⟩ := q
      have hne : ∀ j, j < N - 1 → ¬ g (skp i0 j) = M := fun j hj z => by
        have hlt := skp_lt hi0 hj
        have hn : skp i0 j ≠ i0 := skp_ne
        rcases Nat.lt_or_ge (skp i0 j) i0 with h | h
        · exact h2 _ _ h hi0 (z.trans e.symm)
        · exact h2 i0 _ (by omega) hlt (e.trans z.symm)
      have := ih (N - 1) (fun j => g (skp i0 j)) (fun j hj => by have := h1 _ (skp_lt hi0 hj); have := hne j hj; omega) (fun i j hij hj => h2 _ _ (skp_mono hij) (skp_lt hi0 hj))
      omega
    · have := ih N g (fun i hi => by have := h1 i hi; have : ¬ g i = M := fun z => q ⟨i, hi, z⟩; omega) h2
      omega
theorem N_le (h : WF f N kf pf R C n mh m m4 K D) : N ≤ 6 * m := by
  have hn := h.2.1.2.1
  have w7 := h.2.2.2.2.2.2.1
  refine pigeon (6 * m) N (fun i => 6 * kf i + pf i) (fun i hi => ?_) (fun i j hij hj z => ?_)
  · have := w7.2.2.1 i hi
    omega
  · have h1 := w7.2.2.1 i (by omega)
    have h2 := w7.2.2.1 j hj
    exact absurd (show pf i = pf j by omega) (w7.2.2.2.2.1 i j hij hj (by omega))
end CMD8
