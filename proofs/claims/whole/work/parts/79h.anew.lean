/-! a hall drawn, on both sides; an office started anew -/
theorem map_fwd {f : Nat → Int32} {i : Nat} : ∀ d q2, foE (mapS f) (i + d) (0, 1, 0) = .inl q2 → ∃ q1, foE (mapS f) i (0, 1, 0) = .inl q1 ∧ q1.2.1 ≤ q2.2.1 ∧ q1.2.2 ≤ q2.2.2 ∧ (2 ≤ q1.2.1 → q1.2.2 = q2.2.2) := by
  intro d
  induction d with
  | zero => exact fun q2 h => ⟨q2, h, Nat.le_refl _, Nat.le_refl _, fun _ => rfl⟩
  | succ d ih =>
    intro q2 h
    rw [← Nat.add_assoc] at h
    unfold foE at h
    cases hf : foE (mapS f) (i + d) (0, 1, 0) with
    | inr r => rw [hf] at h; cases h
    | inl p =>
      rw [hf] at h
      have h : mapS f (i + d) p = .inl q2 := h
      obtain ⟨q1, e, a, b, c⟩ := ih p hf
      obtain ⟨r1, r2, r3, r4, r5⟩ := row_map (i + d) p hf
      refine ⟨q1, e, ?_⟩
      unfold mapS at h
      by_cases c1 : meP f (i + d) p
      · rw [if_pos c1] at h
        cases h
        exact ⟨by dsimp only; omega, b, c⟩
      · rw [if_neg c1] at h
        by_cases c2 : mpP f (i + d) p
        · rw [if_pos c2] at h
          cases h
          dsimp only
          by_cases e1 : p.2.1 = 1
          · rw [if_pos e1]
            have := r3 e1
            exact ⟨a, by omega, fun z => by omega⟩
          · rw [if_neg e1]
            exact ⟨a, b, c⟩
        · rw [if_neg c2] at h
          cases h
theorem stN_upd {f : Nat → Int32} {j : Nat} {v : Int32} (hj : j < 96) (h0 : f (43 + j) = nI 0) : stN (upd f (43 + j) v) = if v = nI 0 then stN f else stN f + 1 := by
  by_cases hv : v = nI 0
  · rw [if_pos hv, hv]
    unfold stN
    refine fo_congr _ fun k t hk => ?_
    by_cases e : k = j
    · rw [e, upd_same, h0]
    · rw [upd_ne (show 43 + k ≠ 43 + j by omega)]
  · rw [if_neg hv]
    have conv : ∀ g : Nat → Int32, stN g = fo (fun x z => if ¬ g (43 + x) = nI 0 then z + (fun _ => 1) x else z) 96 0 := fun g => by
      unfold stN
      refine fo_congr _ fun k t _ => ?_
      by_cases e : g (43 + k) = nI 0
      · rw [if_pos e, if_neg (fun z => z e)]
      · rw [if_neg e, if_pos e]
    rw [conv, conv]
    refine (fo_ins rcN (x0 := j) (fun z => z h0) (by rw [upd_same]; exact hv) (fun x hx => ?_) 96).2 hj
    rw [upd_ne (show 43 + x ≠ 43 + j by omega)]
section DRAWQ
variable {f : Nat → Int32} {n R C : Nat}
def dRel (R C : Nat) (B : Nat → Int32) (w : DW) (q : DQ) : Prop := w.2.1 = q.2.1 ∧ w.2.2 = q.2.2 ∧ w.1.2.2.1 = R ∧ w.1.2.2.2.1 = C ∧ w.1.2.2.2.2 = stN q.1 ∧ catOK w.1 ∧ (∀ j, (j < 43 ∨ 139 ≤ j) → q.1 j = B j) ∧ ∀ j, j < 96 → ((j / 12 < R ∧ j % 12 < C ∧ (j / 12 < q.2.1 ∨ j / 12 = q.2.1 ∧ j % 12 < q.2.2)) → (∃ k, k ≤ 6 ∧ q.1 (43 + j) = nI k ∧ w.1.1 j = nI (ctN (nI k)) ∧ w.1.2.1 j = kcQ (nI k))) ∧ (¬ (j / 12 < R ∧ j % 12 < C ∧ (j / 12 < q.2.1 ∨ j / 12 = q.2.1 ∧ j % 12 < q.2.2)) → q.1 (43 + j) = nI 0)
theorem cN_nI6 {k : Nat} (h : k ≤ 6) : cN (nI k) = k := cN_nI (by omega)
theorem cat_put {g : Hal} {r c : Nat} {x : Int32} (h : catOK g) : catOK (putH g r c x) := by
  unfold putH
  by_cases h1 : r < 8 ∧ c < 12
  · rw [if_pos h1]
    intro j hj
    show upd g.1 (r * 12 + c) (catC x) j = nI (cN (upd g.1 (r * 12 + c) (catC x) j)) ∧ cN (upd g.1 (r * 12 + c) (catC x) j) ≤ 4
    by_cases e : j = r * 12 + c
    · rw [e, upd_same]
      exact (kn_cases x).2.2
    · rw [upd_ne e]
      exact h j hj
  · rw [if_neg h1]
    exact h
theorem cat_draw {ha : Hal} {f : Nat → Int32} (h : catOK ha) : ∀ n, catOK (fo (drwS f) n (ha, 0, 0)).1 := by
  intro n
  induction n with
  | zero => exact h
  | succ n ih =>
    show catOK (drwS f n (fo (drwS f) n (ha, 0, 0))).1
    generalize fo (drwS f) n (ha, 0, 0) = q at ih
    unfold drwS
    split
    · exact ih
    · exact cat_put ih
theorem put_seats {g : Hal} {r c : Nat} {x : Int32} {k : Nat} (hr : r < 8) (hc : c < 12) (hk : k ≤ 6) (hx : catC x = nI (ctN (nI k))) : (putH g r c x).2.2.2.2 = if nI k = nI 0 then g.2.2.2.2 else g.2.2.2.2 + 1 := by
  unfold putH
  rw [if_pos ⟨hr, hc⟩]
  show (if nI 0 < catC x then g.2.2.2.2 + 1 else g.2.2.2.2) = _
  have := ct_pos (x := nI k) (by rw [cN_nI6 hk]) (by rw [cN_nI6 hk]; exact hk)
  rw [hx]
  by_cases e : nI k = nI 0
  · rw [if_neg (fun z => this.mp z e), if_pos e]
  · rw [if_pos (this.mpr e), if_neg e]
theorem drw_rel {ha : Hal} {B : Nat → Int32} {qe : MQ3} (hcat : catOK ha) (hq : foE (mapS f) n (0, 1, 0) = .inl qe) (hR : qe.2.1 = R) (hC : qe.2.2 = C) (hR8 : R ≤ 8) (hC12 : C ≤ 12) (hB : ∀ j, j < 96 → B (43 + j) = nI 0) : ∀ i, i ≤ n → ∃ q, foE (mapS f) i (0, 1, 0) = .inl q ∧ (fo (drqS f) i (B, 0, 0)).2.1 + 1 = q.2.1 ∧ (fo (drqS f) i (B, 0, 0)).2.2 = q.1 ∧ dRel R C B (fo (drwS f) i ((ha.1, ha.2.1, R, C, 0), 0, 0)) (fo (drqS f) i (B, 0, 0)) := by
  intro i
  induction i with
  | zero =>
    intro _
    refine ⟨_, rfl, rfl, rfl, rfl, rfl, rfl, rfl, ?_, hcat, fun j _ => rfl, fun j hj => ⟨fun z => ?_, fun _ => hB j hj⟩⟩
    · show 0 = stN B
      unfold stN
      have : ∀ k, k ≤ 96 → fo (fun k z => if B (43 + k) = nI 0 then z else z + 1) k 0 = 0 := by
        intro k
        induction k with
        | zero => intro _; rfl
        | succ k ih =>
          intro hk
          show (if B (43 + k) = nI 0 then fo (fun k z => if B (43 + k) = nI 0 then z else z + 1) k 0 else fo (fun k z => if B (43 + k) = nI 0 then z else z + 1) k 0 + 1) = 0
          rw [if_pos (hB k (by omega)), ih (by omega)]
      exact (this 96 (Nat.le_refl _)).symm
    · have h3 : j / 12 < 0 ∨ j / 12 = 0 ∧ j % 12 < 0 := z.2.2
      omega
  | succ i ih =>
    intro hi
    obtain ⟨q, e, d1, d2, d3⟩ := ih (by omega)
    obtain ⟨q', e', f1, f2, f3⟩ := map_fwd (f := f) (i := i + 1) (n - (i + 1)) qe (by rw [show i + 1 + (n - (i + 1)) = n by omega]; exact hq)
    obtain ⟨r1, r2, r3, r4, r5⟩ := row_map (i + 1) q' e'
    obtain ⟨s1, s2, s3, s4, s5⟩ := row_map i q e
    refine ⟨q', e', ?_⟩
    show (drqS f i (fo (drqS f) i (B, 0, 0))).2.1 + 1 = q'.2.1 ∧ (drqS f i (fo (drqS f) i (B, 0, 0))).2.2 = q'.1 ∧ dRel R C B (drwS f i (fo (drwS f) i ((ha.1, ha.2.1, R, C, 0), 0, 0))) (drqS f i (fo (drqS f) i (B, 0, 0)))
    generalize fo (drqS f) i (B, 0, 0) = E at d1 d2 d3
    generalize fo (drwS f) i ((ha.1, ha.2.1, R, C, 0), 0, 0) = W at d3
    obtain ⟨g1, g2, g3, g4, g5, g6, g7, g8⟩ := d3
    have e2 : mapS f i q = .inl q' := by
      unfold foE at e'
      rw [e] at e'
      exact e'
    unfold mapS at e2
    unfold drqS drwS
    by_cases c1 : f i = nI 47
    · rw [if_pos c1, if_pos c1]
      have c2 : ¬ mpP f i q := fun z => z.1 (by rw [c1]; exact kn_slash)
      by_cases c3 : meP f i q
      · rw [if_pos c3] at e2
        cases e2
        dsimp only at f1 f2 f3 r1 r2 ⊢
        have hc : q.1 = C := by
          have h2 := f3 (by omega)
          rcases (show q.2.1 = 1 ∨ 2 ≤ q.2.1 by omega) with w | w
          · have := s3 w; omega
          · have := c3.2.2; omega
        refine ⟨by omega, rfl, by dsimp only; omega, rfl, g3, g4, g5, g6, g7, fun j hj => ?_⟩
        obtain ⟨p1, p2⟩ := g8 j hj
        dsimp only at p1 p2 ⊢
        refine ⟨fun z => p1 ⟨z.1, z.2.1, by omega⟩, fun z => p2 fun w => z ⟨w.1, w.2.1, by omega⟩⟩
      · rw [if_neg c3, if_neg c2] at e2
        cases e2
    · rw [if_neg c1, if_neg c1]
      rw [if_neg (show ¬ meP f i q from fun z => c1 z.1)] at e2
      by_cases c2 : mpP f i q
      · rw [if_pos c2] at e2
        obtain ⟨k, k6, x1, x2, x3⟩ := (kn_cases (f i)).2.1 c2.1
        have hq' : q' = (q.1 + 1, q.2.1, if q.2.1 = 1 then q.1 + 1 else q.2.2) := (Sum.inl.inj e2).symm
        have q1 : q'.1 = q.1 + 1 := by rw [hq']
        have q2 : q'.2.1 = q.2.1 := by rw [hq']
        have hc : q.1 < C := by omega
        have hr : E.2.1 < R := by omega
        have hpos : E.2.1 * 12 + E.2.2 = 12 * E.2.1 + E.2.2 := by omega
        have hz : E.1 (43 + (12 * E.2.1 + E.2.2)) = nI 0 := (g8 (12 * E.2.1 + E.2.2) (by omega)).2 (by omega)
        have hput : putH W.1 W.2.1 W.2.2 (f i) = (upd W.1.1 (12 * E.2.1 + E.2.2) (catC (f i)), upd W.1.2.1 (12 * E.2.1 + E.2.2) (kndC (f i)), W.1.2.2.1, W.1.2.2.2.1, (putH W.1 W.2.1 W.2.2 (f i)).2.2.2.2) := by
          unfold putH
          rw [if_pos ⟨by omega, by omega⟩, g1, g2, hpos]
        dsimp only
        refine ⟨by omega, by omega, by rw [g1], by rw [g2], putH_rc.1.trans g3, putH_rc.2.trans g4, ?_, cat_put g6, fun j hj => ?_, fun j hj => ?_⟩
        · dsimp only
          rw [put_seats (by omega) (by omega) k6 x2, x1, show 43 + 12 * E.2.1 + E.2.2 = 43 + (12 * E.2.1 + E.2.2) by omega, stN_upd (by omega) hz, g5]
        · dsimp only
          rw [upd_ne (by omega)]
          exact g7 j hj
        · obtain ⟨p1, p2⟩ := g8 j hj
          dsimp only at p1 p2 ⊢
          rw [hput]
          dsimp only
          by_cases w : j = 12 * E.2.1 + E.2.2
          · refine ⟨fun _ => ⟨k, k6, ?_, ?_, ?_⟩, fun z => absurd (show j / 12 < R ∧ j % 12 < C ∧ (j / 12 < E.2.1 ∨ j / 12 = E.2.1 ∧ j % 12 < E.2.2 + 1) from ⟨by omega, by omega, by omega⟩) z⟩
            · rw [show 43 + j = 43 + 12 * E.2.1 + E.2.2 by omega, upd_same, x1]
            · rw [w, upd_same, x2]
            · rw [w, upd_same, x3]
          · rw [upd_ne (show 43 + j ≠ 43 + 12 * E.2.1 + E.2.2 by omega), upd_ne w, upd_ne w]
            exact ⟨fun z => p1 ⟨z.1, z.2.1, by omega⟩, fun z => p2 fun v => z ⟨v.1, v.2.1, by omega⟩⟩
      · rw [if_neg c2] at e2
        cases e2
end DRAWQ
section ANEW
variable {f F : Nat → Int32} {n R C : Nat} {kf pf : Nat → Nat}
def anQ (F : Nat → Int32) (R C : Nat) : Prop := F 0 = nI R ∧ F 1 = nI C ∧ F 2 = nI 4000 ∧ F 3 = nI 3000 ∧ F 4 = nI 2000 ∧ F 5 = nI 1000 ∧ F 6 = nI (R / 2) ∧ F 7 = nI 1 ∧ ∀ j, 8 ≤ j → (j < 43 ∨ 139 ≤ j) → F j = nI 0
theorem bgn_an {f : Nat → Int32} (hz : zOut f) : anQ (bgnQ R C f) R C ∧ ∀ j, j < 96 → bgnQ R C f (43 + j) = nI 0 := by
  unfold anQ bgnQ
  have z : ∀ j, 8 ≤ j → upd (upd (upd (upd (upd (upd (upd (upd (fillV 2015 (nI 0) f) 0 (nI R)) 1 (nI C)) 2 (nI 4000)) 3 (nI 3000)) 4 (nI 2000)) 5 (nI 1000)) 6 (nI (R / 2))) 7 (nI 1) j = nI 0 := by
    intro j hj
    simp (disch := omega) only [upd_ne]
    unfold fillV
    by_cases h : j < 2015
    · rw [if_pos h]
    · rw [if_neg h]
      exact hz j (by omega)
  refine ⟨⟨?_, ?_, ?_, ?_, ?_, ?_, ?_, ?_, fun j hj _ => z j hj⟩, fun j _ => z _ (by omega)⟩
  all_goals simp (disch := omega) only [upd_ne, upd_same]
theorem an_wf (ha : anQ F R C) (hw : wHal F R C) : WF F 0 kf pf R C 0 0 0 0 0 0 := by
  obtain ⟨a0, a1, a2, a3, a4, a5, a6, a7, z⟩ := ha
  refine ⟨hw, ⟨z 9 (by omega) (by omega), by decide, fun p hp => absurd hp (by omega), fun p h1 h2 => z _ (by omega) (by omega)⟩, fun j hj => ⟨Or.inl (z _ (by omega) (by omega)), fun _ => z _ (by omega) (by omega), fun h => ?_⟩, ⟨⟨0, by decide, z 8 (by omega) (by omega)⟩, Or.inr a7⟩, ⟨z 32 (by omega) (by omega), z 28 (by omega) (by omega), Nat.le_refl _⟩, ⟨z 29 (by omega) (by omega), by decide, fun i hi => absurd hi (by omega), fun i j _ hj => absurd hj (by omega)⟩, ⟨z 30 (by omega) (by omega), by decide, fun i hi => absurd hi (by omega), fun i j _ hj => absurd hj (by omega), fun i j _ hj => absurd hj (by omega), fun k hk => absurd hk (by omega), fun k hk => absurd hk (by omega), fun k k' _ hk => absurd hk (by omega), fun i hi => absurd hi (by omega), fun k hk => absurd hk (by omega)⟩, fun i hi => absurd hi (by omega), ⟨z 31 (by omega) (by omega), by decide⟩, fun j hj => z j (by omega) (by omega)⟩
  rw [z (139 + j) (by omega) (by omega)] at h
  exact absurd h (by decide)
theorem an_mat {D : Hal} {fi : Fnd} {se : Sea} {x1 x2 x3 x4 ac pr : Nat → Int32} (ha : anQ F R C) (hm : mHal D F R C) (hR : R < 1000) : Mat (D, fi, (fillV 576 (nI 4) se.1, fillV 576 (-nI 1) se.2), (0, x1), (0, x2), (0, x3), (0, x4), fillV 10 (nI 0) ac, sgA 4 xFP pr, nI 0, nI (D.2.2.1 / 2), nI 1, nI 0) F 0 kf pf R C 0 0 0 := by
  obtain ⟨a0, a1, a2, a3, a4, a5, a6, a7, z⟩ := ha
  refine ⟨hm, ⟨rfl, fun p hp => absurd hp (by omega)⟩, fun j hj => ⟨?_, ?_⟩, ⟨rfl, fun i hi => absurd hi (by omega)⟩, ⟨rfl, fun i hi => absurd hi (by omega)⟩, ⟨rfl, fun i hi => absurd hi (by omega)⟩, fun c hc => ?_, fun j hj => ?_, (z 8 (by omega) (by omega)).symm, ?_, a7.symm, (z 28 (by omega) (by omega)).symm⟩
  · show fillV 576 (nI 4) se.1 j = _
    unfold fillV
    rw [if_pos hj, if_neg (fun w => absurd w.1 (by omega))]
  · show fillV 576 (-nI 1) se.2 j = _
    unfold fillV
    rw [if_pos hj, if_neg]
    rw [z (139 + j) (by omega) (by omega)]
    decide
  · show fillV 10 (nI 0) ac c = _
    unfold fillV
    rw [if_pos hc, z (33 + c) (by omega) (by omega)]
  · show sgA 4 xFP pr j = _
    unfold sgA
    rw [if_pos hj]
    rcases (show j = 0 ∨ j = 1 ∨ j = 2 ∨ j = 3 by omega) with rfl | rfl | rfl | rfl
    · rw [a2]; rfl
    · rw [a3]; rfl
    · rw [a4]; rfl
    · rw [a5]; rfl
  · show nI (D.2.2.1 / 2) = F 6
    rw [hm.1, a6]
theorem load_rel {ha : Hal} {g : Nat → Int32} (hn : n ≤ 103) (hcat : catOK ha) (hz : zOut g) (he : (mapR f n).1 = -nI 1) : rowN f n = (mapR f n).2.1 ∧ colN f n = (mapR f n).2.2 ∧ ((mapR f n).2.1 ≤ 8 → (mapR f n).2.2 ≤ 12 → wHal (drqQ f n (mapR f n).2.1 (mapR f n).2.2 g).1 (mapR f n).2.1 (mapR f n).2.2 ∧ mHal (drwV f n ha).1 (drqQ f n (mapR f n).2.1 (mapR f n).2.2 g).1 (mapR f n).2.1 (mapR f n).2.2 ∧ anQ (drqQ f n (mapR f n).2.1 (mapR f n).2.2 g).1 (mapR f n).2.1 (mapR f n).2.2) := by
  have : ∃ q, foE (mapS f) n (0, 1, 0) = .inl q ∧ ¬ (q.1 = 0 ∨ q.1 < q.2.2) ∧ mapR f n = (-nI 1, q.2.1, q.2.2) := by
    unfold mapR at he ⊢
    cases hf : foE (mapS f) n (0, 1, 0) with
    | inr r =>
      rw [hf] at he
      dsimp only at he
      rcases t_rel (f := f) n with ⟨w, q, e1, e2, -⟩ | ⟨i, r', hi, e1, e2⟩
      · rw [hf] at e2; cases e2
      · rw [hf] at e2
        cases e2
        have h1 := nI_toInt (n := i) (by omega)
        rw [he] at h1
        have h2 : (-nI 1).toInt = -1 := by decide
        omega
    | inl q =>
      rw [hf] at he
      dsimp only at he
      by_cases c : q.1 = 0 ∨ q.1 < q.2.2
      · rw [if_pos c] at he
        have h1 := nI_toInt (n := n) (by omega)
        rw [he] at h1
        have h2 : (-nI 1).toInt = -1 := by decide
        omega
      · refine ⟨q, rfl, c, ?_⟩
        dsimp only
        rw [if_neg c]
  obtain ⟨q, hq, hc, hm⟩ := this
  rw [hm]
  dsimp only
  obtain ⟨m1, m2⟩ := col_map hq
  refine ⟨m1, m2, fun h8 h12 => ?_⟩
  obtain ⟨r1, r2, r3, r4, r5⟩ := row_map n q hq
  obtain ⟨b1, b2⟩ := bgn_an (R := q.2.1) (C := q.2.2) hz
  obtain ⟨q', e', d1, d2, g1, g2, g3, g4, g5, g6, g7, g8⟩ := drw_rel (ha := ha) (B := bgnQ q.2.1 q.2.2 g) hcat hq rfl rfl h8 h12 b2 n (Nat.le_refl _)
  rw [hq] at e'
  cases e'
  unfold drqQ drwV
  rw [m1, m2]
  generalize fo (drqS f) n (bgnQ q.2.1 q.2.2 g, 0, 0) = E at d1 d2 g1 g2 g5 g7 g8
  generalize fo (drwS f) n ((ha.1, ha.2.1, q.2.1, q.2.2, 0), 0, 0) = W at g1 g2 g3 g4 g5 g6 g8
  obtain ⟨a0, a1, a2, a3, a4, a5, a6, a7, z⟩ := b1
  have all : ∀ j, j < 96 → inHal q.2.1 q.2.2 j → ∃ k, k ≤ 6 ∧ E.1 (43 + j) = nI k ∧ W.1.1 j = nI (ctN (nI k)) ∧ W.1.2.1 j = kcQ (nI k) := fun j hj hin => (g8 j hj).1 ⟨hin.1, hin.2, by have := hin.1; have := hin.2; omega⟩
  have out : ∀ j, j < 96 → ¬ inHal q.2.1 q.2.2 j → E.1 (43 + j) = nI 0 := fun j hj hin => (g8 j hj).2 fun w => hin ⟨w.1, w.2.1⟩
  refine ⟨⟨(g7 0 (by omega)).trans a0, (g7 1 (by omega)).trans a1, by omega, h8, by omega, h12, fun j hj => ?_, out⟩, ⟨g3, g4, g5, g6, fun j hj hin => ?_⟩, ⟨(g7 0 (by omega)).trans a0, (g7 1 (by omega)).trans a1, (g7 2 (by omega)).trans a2, (g7 3 (by omega)).trans a3, (g7 4 (by omega)).trans a4, (g7 5 (by omega)).trans a5, (g7 6 (by omega)).trans a6, (g7 7 (by omega)).trans a7, fun j h1 h2 => (g7 j (by omega)).trans (z j h1 h2)⟩⟩
  · by_cases hin : inHal q.2.1 q.2.2 j
    · obtain ⟨k, k6, e, -⟩ := all j hj hin
      rw [e, cN_nI6 k6]
      exact ⟨rfl, k6⟩
    · rw [out j hj hin]
      decide
  · obtain ⟨k, k6, e, e2, e3⟩ := all j hj hin
    rw [e]
    exact ⟨e2, e3⟩
end ANEW
theorem fir_fact : (∀ i, i < 96 → (firQ (fun _ => 0) (43 + i) = nI (cN (firQ (fun _ => 0) (43 + i))) ∧ cN (firQ (fun _ => 0) (43 + i)) ≤ 6) ∧ (¬ inHal 3 6 i → firQ (fun _ => 0) (43 + i) = nI 0) ∧ ((firH offZ.1).1 i = nI (cN ((firH offZ.1).1 i)) ∧ cN ((firH offZ.1).1 i) ≤ 4) ∧ (inHal 3 6 i → (firH offZ.1).1 i = nI (ctN (firQ (fun _ => 0) (43 + i))) ∧ (firH offZ.1).2.1 i = kcQ (firQ (fun _ => 0) (43 + i)))) ∧ (firH offZ.1).2.2.2.2 = stN (firQ (fun _ => 0)) ∧ (firH offZ.1).2.2.1 = 3 ∧ (firH offZ.1).2.2.2.1 = 6 := by decide +kernel
theorem fir_an : anQ (firQ (fun _ => 0)) 3 6 ∧ wHal (firQ (fun _ => 0)) 3 6 ∧ mHal (firH offZ.1) (firQ (fun _ => 0)) 3 6 := by
  obtain ⟨b1, b2⟩ := bgn_an (R := 3) (C := 6) (f := fun _ => 0) (fun j _ => rfl)
  obtain ⟨g, f1, f2, f3⟩ := fir_fact
  have e : ∀ j, (j < 43 ∨ 139 ≤ j) → firQ (fun _ => 0) j = bgnQ 3 6 (fun _ => 0) j := by
    have key : ∀ n, n ≤ 36 → ∀ j, (j < 43 ∨ 139 ≤ j) → fo (fun k g => upd g (43 + k) (if k % 12 < 6 then nI 2 else nI 0)) n (bgnQ 3 6 (fun _ => 0)) j = bgnQ 3 6 (fun _ => 0) j := by
      intro n
      induction n with
      | zero => intro _ j _; rfl
      | succ n ih =>
        intro hn j hj
        show upd (fo (fun k g => upd g (43 + k) (if k % 12 < 6 then nI 2 else nI 0)) n (bgnQ 3 6 (fun _ => 0))) (43 + n) (if n % 12 < 6 then nI 2 else nI 0) j = _
        rw [upd_ne (by omega), ih (by omega) j hj]
    exact key 36 (Nat.le_refl _)
  obtain ⟨a0, a1, a2, a3, a4, a5, a6, a7, z⟩ := b1
  exact ⟨⟨(e 0 (by omega)).trans a0, (e 1 (by omega)).trans a1, (e 2 (by omega)).trans a2, (e 3 (by omega)).trans a3, (e 4 (by omega)).trans a4, (e 5 (by omega)).trans a5, (e 6 (by omega)).trans a6, (e 7 (by omega)).trans a7, fun j h1 h2 => (e j h2).trans (z j h1 h2)⟩, ⟨(e 0 (by omega)).trans a0, (e 1 (by omega)).trans a1, by decide, by decide, by decide, by decide, fun i hi => (g i hi).1, fun i hi hn => (g i hi).2.1 hn⟩, ⟨f2, f3, f1, fun j hj => (g j hj).2.2.1, fun i hi hin => (g i hi).2.2.2 hin⟩⟩
