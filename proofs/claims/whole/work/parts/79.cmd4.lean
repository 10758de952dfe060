/-! commands on both sides: confirm -/
def ghS (S : Nat) (p : Nat) (q : Nat × (Nat → Nat)) : Nat × (Nat → Nat) := if S.testBit p = true then (q.1 + 1, fun i => if i = q.1 then p else q.2 i) else q
def ghQ (S p : Nat) (N : Nat) (pf : Nat → Nat) : Nat × (Nat → Nat) := fo (ghS S) p (N, pf)
theorem gh_inv {S N : Nat} {pf : Nat → Nat} : ∀ p, N ≤ (ghQ S p N pf).1 ∧ (ghQ S p N pf).1 ≤ N + p ∧ (∀ i, i < N → (ghQ S p N pf).2 i = pf i) ∧ (∀ i, N ≤ i → i < (ghQ S p N pf).1 → (ghQ S p N pf).2 i < p ∧ S.testBit ((ghQ S p N pf).2 i) = true) ∧ (∀ i j, N ≤ i → i < j → j < (ghQ S p N pf).1 → (ghQ S p N pf).2 i < (ghQ S p N pf).2 j) ∧ ∀ p', p' < p → S.testBit p' = true → ∃ i, N ≤ i ∧ i < (ghQ S p N pf).1 ∧ (ghQ S p N pf).2 i = p' := by
  intro p
  induction p with
  | zero => exact ⟨Nat.le_refl _, Nat.le_refl _, fun i _ => rfl, fun i h1 h2 => absurd h2 (by show ¬ i < N; omega), fun i j h1 h2 h3 => absurd h3 (by show ¬ j < N; omega), fun p' h _ => absurd h (by omega)⟩
  | succ p ih =>
    obtain ⟨i1, i2, i3, i4, i5, i6⟩ := ih
    show N ≤ (ghS S p (ghQ S p N pf)).1 ∧ (ghS S p (ghQ S p N pf)).1 ≤ N + (p + 1) ∧ (∀ i, i < N → (ghS S p (ghQ S p N pf)).2 i = pf i) ∧ (∀ i, N ≤ i → i < (ghS S p (ghQ S p N pf)).1 → (ghS S p (ghQ S p N pf)).2 i < p + 1 ∧ S.testBit ((ghS S p (ghQ S p N pf)).2 i) = true) ∧ (∀ i j, N ≤ i → i < j → j < (ghS S p (ghQ S p N pf)).1 → (ghS S p (ghQ S p N pf)).2 i < (ghS S p (ghQ S p N pf)).2 j) ∧ ∀ p', p' < p + 1 → S.testBit p' = true → ∃ i, N ≤ i ∧ i < (ghS S p (ghQ S p N pf)).1 ∧ (ghS S p (ghQ S p N pf)).2 i = p'
    generalize ghQ S p N pf = q at i1 i2 i3 i4 i5 i6
    unfold ghS
    by_cases hb : S.testBit p = true
    · rw [if_pos hb]
      dsimp only
      refine ⟨by omega, by omega, fun i hi => ?_, fun i h1 h2 => ?_, fun i j h1 h2 h3 => ?_, fun p' h1 h2 => ?_⟩
      · rw [if_neg (by omega)]
        exact i3 i hi
      · by_cases e : i = q.1
        · rw [if_pos e]
          exact ⟨by omega, hb⟩
        · rw [if_neg e]
          have := i4 i h1 (by omega)
          exact ⟨by omega, this.2⟩
      · rw [if_neg (show ¬ i = q.1 by omega)]
        by_cases e : j = q.1
        · rw [if_pos e]
          exact (i4 i h1 (by omega)).1
        · rw [if_neg e]
          exact i5 i j h1 h2 (by omega)
      · by_cases e : p' = p
        · exact ⟨q.1, i1, by omega, by rw [if_pos rfl, e]⟩
        · obtain ⟨i, g1, g2, g3⟩ := i6 p' (by omega) h2
          exact ⟨i, g1, by omega, by rw [if_neg (by omega)]; exact g3⟩
    · rw [if_neg hb]
      refine ⟨i1, by omega, i3, fun i h1 h2 => ⟨by have := (i4 i h1 h2).1; omega, (i4 i h1 h2).2⟩, i5, fun p' h1 h2 => ?_⟩
      by_cases e : p' = p
      · rw [e] at h2
        exact absurd h2 hb
      · exact i6 p' (by omega) h2
abbrev conF (f : Nat → Int32) (m cu : Nat) (v : Int32) : Nat → Int32 := upd (upd (upd (upd f 32 (f 32 + nI 1)) 30 (nI (m + 1))) (1375 + 26 * m) v) (1375 + 26 * m + 1) (nI cu)
theorem pbQ_pt {p q s j : Nat} {st ow : Int32} {f g : Nat → Int32} (h : f j = g j) : pbQ p q s st ow f j = pbQ p q s st ow g j := by
  unfold pbQ
  rw [h]
theorem putTQ_at {f : Nat → Int32} {k p : Nat} {x0 x1 x2 x3 : Int32} : putTQ f k p x0 x1 x2 x3 (tAt k p) = x0 ∧ putTQ f k p x0 x1 x2 x3 (tAt k p + 1) = x1 ∧ putTQ f k p x0 x1 x2 x3 (tAt k p + 2) = x2 ∧ putTQ f k p x0 x1 x2 x3 (tAt k p + 3) = x3 := by
  unfold putTQ tAt
  refine ⟨?_, ?_, ?_, ?_⟩
  all_goals simp (disch := omega) only [upd_ne, upd_same]
theorem putTQ_ne {f : Nat → Int32} {k k' p p' e : Nat} {x0 x1 x2 x3 : Int32} (hp : p < 6) (hp' : p' < 6) (hne : k' ≠ k ∨ p' ≠ p) (he : e < 4) : putTQ f k p x0 x1 x2 x3 (tAt k' p' + e) = f (tAt k' p' + e) := by
  unfold tAt
  rcases Nat.lt_trichotomy k' k with h | h | h
  · exact putTQ_out (by omega)
  · subst h
    have := hne.resolve_left (fun z => z rfl)
    exact putTQ_out (by omega)
  · exact putTQ_out (by omega)
theorem pnt_n6 {S n q s : Nat} {st ow : Int32} {f : Nat → Int32} (hS : S < 2 ^ n) (hn : n ≤ 6) : pntQ S 6 q s st ow f = pntQ S n q s st ow f := by
  funext j
  unfold pntQ
  have h1 : (139 ≤ j ∧ j < 139 + 96 * 6 ∧ S.testBit ((j - 139) / 96) = true ∧ q ≤ (j - 139) % 96 ∧ (j - 139) % 96 < q + s) ↔ (139 ≤ j ∧ j < 139 + 96 * n ∧ S.testBit ((j - 139) / 96) = true ∧ q ≤ (j - 139) % 96 ∧ (j - 139) % 96 < q + s) := ⟨fun z => ⟨z.1, by have := bit_lt hS z.2.2.1; omega, z.2.2⟩, fun z => ⟨z.1, by omega, z.2.2⟩⟩
  have h2 : (715 ≤ j ∧ j < 715 + 96 * 6 ∧ S.testBit ((j - 715) / 96) = true ∧ q ≤ (j - 715) % 96 ∧ (j - 715) % 96 < q + s) ↔ (715 ≤ j ∧ j < 715 + 96 * n ∧ S.testBit ((j - 715) / 96) = true ∧ q ≤ (j - 715) % 96 ∧ (j - 715) % 96 < q + s) := ⟨fun z => ⟨z.1, by have := bit_lt hS z.2.2.1; omega, z.2.2⟩, fun z => ⟨z.1, by omega, z.2.2⟩⟩
  simp only [h1, h2]
section CON
variable {f F : Nat → Int32} {N : Nat} {kf pf : Nat → Nat} {R C n mh m m4 K D : Nat} {S r c s cu : Nat} {v : Int32}
/-- the reference's sale, performance by performance -/
theorem con_w (hr : r < 8) (hc : c + s ≤ 12) (hcu : cu < 10) (hm : m < 20) (h31 : wPay F m4) (hz : zOut F) : ∀ p, p ≤ 6 → (∀ i, N ≤ i → i < (ghQ S p N pf).1 → (conQ S r c s cu v m p (F, nI 0)).1 (tAt m ((ghQ S p N pf).2 i)) = nI r ∧ (conQ S r c s cu v m p (F, nI 0)).1 (tAt m ((ghQ S p N pf).2 i) + 1) = nI c ∧ (conQ S r c s cu v m p (F, nI 0)).1 (tAt m ((ghQ S p N pf).2 i) + 2) = nI s) ∧ (∀ p', p' < p → ¬ S.testBit p' = true → (conQ S r c s cu v m p (F, nI 0)).1 (tAt m p' + 2) = nI 0) ∧ wPay (conQ S r c s cu v m p (F, nI 0)).1 (cN ((conQ S r c s cu v m p (F, nI 0)).1 31)) ∧ agr (pntQ S p (12 * r + c) s (nI 2) v F) (conQ S r c s cu v m p (F, nI 0)).1 139 1291 ∧ zOut (conQ S r c s cu v m p (F, nI 0)).1 := by
  intro p
  induction p with
  | zero =>
    intro _
    refine ⟨fun i h1 h2 => absurd h2 (by show ¬ i < N; omega), fun p' h _ => absurd h (by omega), ?_, fun j h1 h2 => ?_, hz⟩
    · show wPay F (cN (F 31))
      rw [h31.1, cN_nI (by have := h31.2; omega)]
      exact h31
    · rw [pntQ_0]
      rfl
  | succ p ih =>
    intro hp
    obtain ⟨i1, i2, i3, i4, i5⟩ := ih (by omega)
    obtain ⟨g1, g2, g3, g4, g5, g6⟩ := gh_inv (S := S) (N := N) (pf := pf) p
    show (∀ i, N ≤ i → i < (ghS S p (ghQ S p N pf)).1 → (conS S r c s cu v m p (conQ S r c s cu v m p (F, nI 0))).1 (tAt m ((ghS S p (ghQ S p N pf)).2 i)) = nI r ∧ (conS S r c s cu v m p (conQ S r c s cu v m p (F, nI 0))).1 (tAt m ((ghS S p (ghQ S p N pf)).2 i) + 1) = nI c ∧ (conS S r c s cu v m p (conQ S r c s cu v m p (F, nI 0))).1 (tAt m ((ghS S p (ghQ S p N pf)).2 i) + 2) = nI s) ∧ (∀ p', p' < p + 1 → ¬ S.testBit p' = true → (conS S r c s cu v m p (conQ S r c s cu v m p (F, nI 0))).1 (tAt m p' + 2) = nI 0) ∧ wPay (conS S r c s cu v m p (conQ S r c s cu v m p (F, nI 0))).1 (cN ((conS S r c s cu v m p (conQ S r c s cu v m p (F, nI 0))).1 31)) ∧ agr (pntQ S (p + 1) (12 * r + c) s (nI 2) v F) (conS S r c s cu v m p (conQ S r c s cu v m p (F, nI 0))).1 139 1291 ∧ zOut (conS S r c s cu v m p (conQ S r c s cu v m p (F, nI 0))).1
    generalize conQ S r c s cu v m p (F, nI 0) = q at i1 i2 i3 i4 i5
    generalize ghQ S p N pf = gh at i1 g1 g2 g3 g4 g5 g6
    unfold conS ghS
    by_cases hb : S.testBit p = true
    · rw [if_pos hb, if_pos hb]
      dsimp only
      generalize amtV S (poQ q.1 p r c s) = am
      have q31 : pbQ p (12 * r + c) s (nI 2) v (putTQ q.1 m p (nI r) (nI c) (nI s) am) 31 = nI (cN (q.1 31)) := by
        rw [pbQ_out (by omega) (by omega) (by omega), putTQ_out (by omega)]
        exact i3.1
      have hP : wPay (pbQ p (12 * r + c) s (nI 2) v (putTQ q.1 m p (nI r) (nI c) (nI s) am)) (cN (q.1 31)) := ⟨q31, i3.2⟩
      have tk : ∀ p', p' < 6 → ∀ e, e < 4 → payQ (pbQ p (12 * r + c) s (nI 2) v (putTQ q.1 m p (nI r) (nI c) (nI s) am)) 1 cu am (tAt m p' + e) = putTQ q.1 m p (nI r) (nI c) (nI s) am (tAt m p' + e) := by
        intro p' hp' e he
        have h1 : 1375 ≤ tAt m p' + e ∧ tAt m p' + e < 1895 := by unfold tAt; omega
        rw [payQ_lo hcu (by omega), pbQ_out (by omega) (by omega) (by omega)]
      refine ⟨fun i h1 h2 => ?_, fun p' h1 h2 => ?_, ?_, fun j h1 h2 => ?_, fun j hj => ?_⟩
      · by_cases e : i = gh.1
        · rw [if_pos e]
          obtain ⟨t0, t1, t2, t3⟩ := putTQ_at (f := q.1) (k := m) (p := p) (x0 := nI r) (x1 := nI c) (x2 := nI s) (x3 := am)
          have := tk p (by omega) 0 (by decide)
          rw [Nat.add_zero] at this
          exact ⟨this.trans t0, (tk p (by omega) 1 (by decide)).trans t1, (tk p (by omega) 2 (by decide)).trans t2⟩
        · rw [if_neg e]
          have hlt := (g4 i h1 (by omega)).1
          obtain ⟨a1, a2, a3⟩ := i1 i h1 (by omega)
          have k0 := tk (gh.2 i) (by omega) 0 (by decide)
          have k0' := putTQ_ne (f := q.1) (k := m) (k' := m) (p := p) (p' := gh.2 i) (e := 0) (x0 := nI r) (x1 := nI c) (x2 := nI s) (x3 := am) (by omega) (by omega) (Or.inr (by omega)) (by decide)
          rw [Nat.add_zero] at k0 k0'
          exact ⟨(k0.trans k0').trans a1, ((tk (gh.2 i) (by omega) 1 (by decide)).trans (putTQ_ne (by omega) (by omega) (Or.inr (by omega)) (by decide))).trans a2, ((tk (gh.2 i) (by omega) 2 (by decide)).trans (putTQ_ne (by omega) (by omega) (Or.inr (by omega)) (by decide))).trans a3⟩
      · have hne : p' ≠ p := fun z => h2 (by rw [z]; exact hb)
        exact ((tk p' (by omega) 2 (by decide)).trans (putTQ_ne (by omega) (by omega) (Or.inr hne) (by decide))).trans (i2 p' (by omega) h2)
      · have := pay_w (k := 1) (c := cu) (x := am) hP
        rw [this.1, cN_nI (by have := this.2; omega)]
        exact this
      · rw [payQ_lo hcu (by omega), ← pntQ_in (by omega) (by omega) hb]
        refine pbQ_pt ?_
        rw [putTQ_out (by omega)]
        exact i4 j h1 h2
      · rw [payQ_hi hP hcu hj, pbQ_out (by omega) (by omega) (by omega), putTQ_out (by omega)]
        exact i5 j hj
    · rw [if_neg hb, if_neg hb]
      dsimp only
      refine ⟨fun i h1 h2 => ?_, fun p' h1 h2 => ?_, ?_, fun j h1 h2 => ?_, fun j hj => ?_⟩
      · have hlt := (g4 i h1 h2).1
        obtain ⟨a1, a2, a3⟩ := i1 i h1 h2
        have k0' := putTQ_ne (f := q.1) (k := m) (k' := m) (p := p) (p' := gh.2 i) (e := 0) (x0 := nI r) (x1 := nI c) (x2 := nI 0) (x3 := nI 0) (by omega) (by omega) (Or.inr (by omega)) (by decide)
        rw [Nat.add_zero] at k0'
        exact ⟨k0'.trans a1, (putTQ_ne (by omega) (by omega) (Or.inr (by omega)) (by decide)).trans a2, (putTQ_ne (by omega) (by omega) (Or.inr (by omega)) (by decide)).trans a3⟩
      · by_cases e : p' = p
        · rw [e]
          exact putTQ_at.2.2.1
        · exact (putTQ_ne (by omega) (by omega) (Or.inr e) (by decide)).trans (i2 p' (by omega) h2)
      · have e31 : putTQ q.1 m p (nI r) (nI c) (nI 0) (nI 0) 31 = q.1 31 := putTQ_out (by omega)
        exact ⟨by rw [e31]; exact i3.1, by rw [e31]; exact i3.2⟩
      · rw [putTQ_out (by omega), pntQ_no hb]
        exact i4 j h1 h2
      · rw [putTQ_out (by omega)]
        exact i5 j hj
abbrev conG (f : Nat → Int32) (S r c s cu m : Nat) (v : Int32) : Nat → Int32 := (conQ S r c s cu v m 6 (conF f m cu v, nI 0)).1
abbrev kfC (kf : Nat → Nat) (N m : Nat) : Nat → Nat := fun i => if i < N then kf i else m
theorem conf_wf (hw : WF f N kf pf R C n mh m m4 K D) {i0 : Nat} (hi0 : i0 < mh) (hm : m < 20) (hv : f (1291 + 7 * i0) = v) (g1 : f (1291 + 7 * i0 + 1) = nI cu) (hcu : cu < 10) (hS1 : 1 ≤ S) (hS : S < 2 ^ n) (hb : wBlk f R C r c s) (hK : K < 1000) : WF (drhQ mh i0 (conG f S r c s cu m v)) (ghQ S 6 N pf).1 (kfC kf N m) (ghQ S 6 N pf).2 R C n (mh - 1) (m + 1) (cN (conG f S r c s cu m v 31)) (K + 1) D := by
  obtain ⟨w1, w2, w3, w4, w5, w6, w7, w8, w9, w10⟩ := hw
  have hR := w1.2.2.2.1
  have hC := w1.2.2.2.2.2.1
  have hn := w2.2.1
  have hmh := w6.2.1
  have hr : r < R := hb.1
  have hc : c + s ≤ C := hb.2.2.2.1
  have fA : ∀ j, j ≠ 30 → j ≠ 32 → (j < 1375 + 26 * m ∨ 1375 + 26 * m + 2 ≤ j) → conF f m cu v j = f j := fun j h1 h2 h3 => by unfold conF; rw [upd_ne (by omega), upd_ne (by omega), upd_ne h1, upd_ne h2]
  have fw : wPay (conF f m cu v) m4 := ⟨(fA 31 (by decide) (by decide) (by omega)).trans w9.1, w9.2⟩
  obtain ⟨inv, -⟩ := con_inv (S := S) (r := r) (c := c) (s := s) (cu := cu) (k := m) (num := v) (z := nI 0) (f := conF f m cu v) (by omega) (by omega) hcu hm fw.1 fw.2 6 (by decide)
  obtain ⟨c1, c2, c3, c4, c5⟩ := con_w (N := N) (pf := pf) (S := S) (r := r) (c := c) (s := s) (cu := cu) (m := m) (v := v) (F := conF f m cu v) (by omega) (by omega) hcu hm fw (fun j hj => (fA j (by omega) (by omega) (by omega)).trans (w10 j hj)) 6 (by decide)
  obtain ⟨h1, h2, h3, h4, h5, h6⟩ := gh_inv (S := S) (N := N) (pf := pf) 6
  unfold conG
  generalize hG : (conQ S r c s cu v m 6 (conF f m cu v, nI 0)).1 = G at inv c1 c2 c3 c4 c5
  generalize ghQ S 6 N pf = gh at c1 h1 h2 h3 h4 h5 h6
  obtain ⟨N', pf'⟩ := gh
  dsimp only at c1 h1 h2 h3 h4 h5 h6 ⊢
  rw [pnt_n6 hS hn] at c4
  have gA : ∀ j, j ≠ 30 → j ≠ 32 → (j < 31 ∨ (43 ≤ j ∧ j < 139) ∨ (1291 ≤ j ∧ j < 1375 + 26 * m) ∨ (1375 + 26 * m + 26 ≤ j ∧ j < 1895)) → G j = f j := fun j a1 a2 a3 => (inv j (by omega)).trans (fA j a1 a2 (by omega))
  have lo : ∀ j, j ≠ 29 → (j < 1291 ∨ 1375 ≤ j) → drhQ mh i0 G j = G j := fun j a1 a2 => drhQ_out hmh a1 a2
  have k43 : agr f (drhQ mh i0 G) 43 139 := fun j a1 a2 => (lo j (by omega) (by omega)).trans (gA j (by omega) (by omega) (by omega))
  have row : ∀ j k, j < mh - 1 → k < 7 → drhQ mh i0 G (1291 + 7 * j + k) = f (1291 + 7 * skp i0 j + k) := fun j k hj hk => by
    have := skp_lt hi0 hj
    rw [drh_row hmh hi0 hj hk]
    exact gA _ (by omega) (by omega) (by omega)
  have tk : ∀ k p e, k < m → p < 6 → e < 4 → drhQ mh i0 G (tAt k p + e) = f (tAt k p + e) := fun k p e hk hp he => by
    have : 1375 ≤ tAt k p + e ∧ tAt k p + e < 1375 + 26 * m := by unfold tAt; omega
    rw [lo _ (by omega) (by omega)]
    exact gA _ (by omega) (by omega) (by omega)
  have tm : ∀ p e, p < 6 → e < 4 → drhQ mh i0 G (tAt m p + e) = G (tAt m p + e) := fun p e hp he => lo _ (by unfold tAt; omega) (by unfold tAt; omega)
  have om : drhQ mh i0 G (1375 + 26 * m) = v := by
    rw [lo _ (by omega) (by omega), inv _ (by omega)]
    unfold conF
    rw [upd_ne (by omega), upd_same]
  have om1 : drhQ mh i0 G (1375 + 26 * m + 1) = nI cu := by
    rw [lo _ (by omega) (by omega), inv _ (by omega)]
    unfold conF
    rw [upd_same]
  have ok : ∀ k e, k < m → e < 2 → drhQ mh i0 G (1375 + 26 * k + e) = f (1375 + 26 * k + e) := fun k e hk he => by
    rw [lo _ (by omega) (by omega)]
    exact gA _ (by omega) (by omega) (by omega)
  obtain ⟨nu, cu', S', r', c', s', e0, e1, -⟩ := w6.2.2.1 i0 hi0
  have hvn : v = nI nu := hv.symm.trans e0
  obtain ⟨t1, t2, t3, t4, t5, t6, t7, t8, t9, t10⟩ := w7
  have bl : ∀ {r c s : Nat}, wBlk f R C r c s → wBlk (drhQ mh i0 G) R C r c s := fun h => wBlk_fr k43 hR hC h
  refine ⟨wHal_fr ((lo 0 (by omega) (by omega)).trans (gA 0 (by omega) (by omega) (by omega))) ((lo 1 (by omega) (by omega)).trans (gA 1 (by omega) (by omega) (by omega))) k43 w1, wPer_fr ((lo 9 (by omega) (by omega)).trans (gA 9 (by omega) (by omega) (by omega))) (fun j a1 a2 => (lo j (by omega) (by omega)).trans (gA j (by omega) (by omega) (by omega))) w2, ?_, wTim_fr ((lo 7 (by omega) (by omega)).trans (gA 7 (by omega) (by omega) (by omega))) ((lo 8 (by omega) (by omega)).trans (gA 8 (by omega) (by omega) (by omega))) w4, ⟨?_, (lo 28 (by omega) (by omega)).trans ((gA 28 (by omega) (by omega) (by omega)).trans w5.2.1), by have := w5.2.2; omega⟩, ⟨drhQ_29, by omega, fun j hj => ?_, fun j k hjk hk => ?_⟩, ⟨?_, by omega, fun i hi => ?_, fun i j hij hj => ?_, fun i j hij hj hk => ?_, fun k hk => ?_, fun k hk => ?_, fun k k' hkk hk' => ?_, fun i hi => ?_, fun k hk p hp hno => ?_⟩, fun j hj k hk => ?_, ⟨(lo 31 (by omega) (by omega)).trans c3.1, c3.2⟩, fun j hj => (lo j (by omega) (by omega)).trans (c5 j hj)⟩
  · have hs := paint_w (f := f) hS hn hR hC hb (st := nI 2) (ow := v) (Or.inr ⟨Or.inr rfl, nu, ?_, hvn⟩) w3
    · refine wSea_fr (f := pntQ S n (12 * r + c) s (nI 2) v f) (fun j a1 a2 => (k43 j a1 a2).trans (pntQ_out hn (Or.inl a2)).symm) (fun j a1 a2 => ?_) hs
      rw [lo j (by omega) (by omega), c4 j a1 a2]
      unfold pntQ
      rw [fA j (by omega) (by omega) (by omega)]
    · have := w5.2.2
      omega
  · rw [lo 32 (by omega) (by omega), inv 32 (by omega)]
    unfold conF
    rw [upd_ne (by omega), upd_ne (by omega), upd_ne (by omega), upd_same, w5.1, nI_add]
  · obtain ⟨nu, cu, S, r, c, s, e0, e1, e2, e3, e4, e5, e6, e7, e8, e9, e10⟩ := w6.2.2.1 (skp i0 j) (skp_lt hi0 hj)
    exact ⟨nu, cu, S, r, c, s, (row j 0 hj (by decide)).trans e0, e1, (row j 1 hj (by decide)).trans e2, e3, (row j 2 hj (by decide)).trans e4, e5, e6, (row j 3 hj (by decide)).trans e7, (row j 4 hj (by decide)).trans e8, (row j 5 hj (by decide)).trans e9, bl e10⟩
  · have r1 := row j 0 (by omega) (by decide)
    have r2 := row k 0 hk (by decide)
    rw [Nat.add_zero, Nat.add_zero] at r1 r2
    rw [r1, r2]
    exact w6.2.2.2 _ _ (skp_mono hjk) (skp_lt hi0 hk)
  · rw [lo 30 (by omega) (by omega), inv 30 (by omega)]
    unfold conF
    rw [upd_ne (by omega), upd_ne (by omega), upd_same]
  · unfold kfC
    by_cases q : i < N
    · rw [if_pos q, h3 i q]
      have := t3 i q
      exact ⟨by omega, this.2⟩
    · rw [if_neg q]
      exact ⟨by omega, bit_lt hS (h4 i (by omega) hi).2⟩
  · unfold kfC
    by_cases q : j < N
    · rw [if_pos q, if_pos (by omega)]
      exact t4 i j hij q
    · rw [if_neg q]
      by_cases q2 : i < N
      · rw [if_pos q2]
        have := (t3 i q2).1
        omega
      · rw [if_neg q2]
        exact Nat.le_refl _
  · unfold kfC at hk
    by_cases q : j < N
    · rw [if_pos q, if_pos (by omega)] at hk
      rw [h3 i (by omega), h3 j q]
      exact t5 i j hij q hk
    · rw [if_neg q] at hk
      by_cases q2 : i < N
      · rw [if_pos q2] at hk
        have := (t3 i q2).1
        omega
      · have := h5 i j (by omega) hij hj
        omega
  · by_cases q : k = m
    · obtain ⟨p, hp, hs⟩ := has_bit hS1 hS
      obtain ⟨i, b1, b2, b3⟩ := h6 p (by omega) hs
      exact ⟨i, b2, by unfold kfC; rw [if_neg (by omega), q]⟩
    · obtain ⟨i, b1, b2⟩ := t6 k (by omega)
      exact ⟨i, by omega, by unfold kfC; rw [if_pos b1]; exact b2⟩
  · by_cases q : k = m
    · rw [q]
      exact ⟨nu, cu, om.trans hvn, e1, om1, hcu⟩
    · obtain ⟨nu, cu, b1, b2, b3, b4⟩ := t7 k (by omega)
      exact ⟨nu, cu, (ok k 0 (by omega) (by decide)).trans b1, b2, (ok k 1 (by omega) (by decide)).trans b3, b4⟩
  · have r1 := ok k 0 (by omega) (by decide)
    rw [Nat.add_zero] at r1
    rw [r1]
    by_cases q : k' = m
    · rw [q, om]
      intro z
      exact w8 i0 hi0 k (by omega) (hv.trans z.symm)
    · have r2 := ok k' 0 (by omega) (by decide)
      rw [Nat.add_zero] at r2
      rw [r2]
      exact t8 k k' hkk (by omega)
  · unfold kfC
    by_cases q : i < N
    · rw [if_pos q, h3 i q]
      obtain ⟨r, c, s, b1, b2, b3, b4⟩ := t9 i q
      obtain ⟨b5, b6⟩ := t3 i q
      exact ⟨r, c, s, (tk _ _ 0 b5 (by omega) (by decide)).trans b1, (tk _ _ 1 b5 (by omega) (by decide)).trans b2, (tk _ _ 2 b5 (by omega) (by decide)).trans b3, bl b4⟩
    · rw [if_neg q]
      obtain ⟨b1, b2, b3⟩ := c1 i (by omega) hi
      have b4 := (h4 i (by omega) hi).1
      exact ⟨r, c, s, (tm _ 0 b4 (by decide)).trans b1, (tm _ 1 b4 (by decide)).trans b2, (tm _ 2 b4 (by decide)).trans b3, bl hb⟩
  · by_cases q : k = m
    · rw [q] at hno ⊢
      rw [tm p 2 hp (by decide)]
      refine c2 p hp fun hs => ?_
      obtain ⟨i, b1, b2, b3⟩ := h6 p hp hs
      exact hno i b2 (by unfold kfC; rw [if_neg (by omega)]) b3
    · rw [tk k p 2 (by omega) hp (by decide)]
      refine t10 k (by omega) p hp fun i hi hk2 => ?_
      have := hno i (by omega) (by unfold kfC; rw [if_pos hi]; exact hk2)
      rwa [h3 i hi] at this
  · have r1 := row j 0 hj (by decide)
    rw [Nat.add_zero, Nat.add_zero] at r1
    rw [r1]
    by_cases q : k = m
    · rw [q, om, ← hv]
      have hne : skp i0 j ≠ i0 := by unfold skp; split <;> omega
      rcases Nat.lt_or_ge (skp i0 j) i0 with h | h
      · exact w6.2.2.2 _ _ h hi0
      · exact fun z => w6.2.2.2 i0 (skp i0 j) (by omega) (skp_lt hi0 hj) z.symm
    · have r2 := ok k 0 (by omega) (by decide)
      rw [Nat.add_zero] at r2
      rw [r2]
      exact w8 _ (skp_lt hi0 hj) k (by omega)
end CON
