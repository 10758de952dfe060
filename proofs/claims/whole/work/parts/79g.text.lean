/-! a hall's text on both sides -/
theorem digit_eq {x : Int32} (h1 : nI 49 ≤ x) (h2 : x ≤ nI 52) : ∃ k, 1 ≤ k ∧ k ≤ 4 ∧ x = nI (48 + k) ∧ x - nI 48 = nI k := by
  have a1 := Int32.le_iff_toInt_le.mp h1
  have a2 := Int32.le_iff_toInt_le.mp h2
  rw [nI_toInt (by decide)] at a1 a2
  have e : x = nI (48 + (x.toInt.toNat - 48)) := by
    apply Int32.toInt_inj.mp
    rw [nI_toInt (by omega)]
    omega
  refine ⟨x.toInt.toNat - 48, by omega, by omega, e, ?_⟩
  have hk : x.toInt.toNat - 48 ≤ 4 := by omega
  have hk1 : 1 ≤ x.toInt.toNat - 48 := by omega
  generalize x.toInt.toNat - 48 = k at e hk hk1
  rw [e]
  rcases (show k = 1 ∨ k = 2 ∨ k = 3 ∨ k = 4 by omega) with rfl | rfl | rfl | rfl
  all_goals decide
theorem kn_cases (x : Int32) : (isPl x ↔ ¬ knQ x = -nI 1) ∧ (¬ knQ x = -nI 1 → ∃ k, k ≤ 6 ∧ knQ x = nI k ∧ catC x = nI (ctN (nI k)) ∧ kndC x = kcQ (nI k)) ∧ catC x = nI (cN (catC x)) ∧ cN (catC x) ≤ 4 := by
  unfold isPl knQ
  by_cases q0 : x = nI 46
  · subst q0
    rw [if_pos rfl]
    exact ⟨⟨fun _ => by decide, fun _ => Or.inl rfl⟩, fun _ => ⟨0, by decide, rfl, by decide, by decide⟩, by decide, by decide⟩
  rw [if_neg q0]
  by_cases q1 : nI 49 ≤ x ∧ x ≤ nI 52
  · rw [if_pos q1]
    obtain ⟨k, k1, k4, e, e2⟩ := digit_eq q1.1 q1.2
    rw [e2, e]
    rcases (show k = 1 ∨ k = 2 ∨ k = 3 ∨ k = 4 by omega) with rfl | rfl | rfl | rfl
    · exact ⟨⟨fun _ => by decide, fun _ => Or.inr (by decide)⟩, fun _ => ⟨1, by decide, rfl, by decide, by decide⟩, by decide, by decide⟩
    · exact ⟨⟨fun _ => by decide, fun _ => Or.inr (by decide)⟩, fun _ => ⟨2, by decide, rfl, by decide, by decide⟩, by decide, by decide⟩
    · exact ⟨⟨fun _ => by decide, fun _ => Or.inr (by decide)⟩, fun _ => ⟨3, by decide, rfl, by decide, by decide⟩, by decide, by decide⟩
    · exact ⟨⟨fun _ => by decide, fun _ => Or.inr (by decide)⟩, fun _ => ⟨4, by decide, rfl, by decide, by decide⟩, by decide, by decide⟩
  rw [if_neg q1]
  by_cases q2 : x = nI 119
  · subst q2
    rw [if_pos rfl]
    exact ⟨⟨fun _ => by decide, fun _ => Or.inr (by decide)⟩, fun _ => ⟨5, by decide, rfl, by decide, by decide⟩, by decide, by decide⟩
  rw [if_neg q2]
  by_cases q3 : x = nI 99
  · subst q3
    rw [if_pos rfl]
    exact ⟨⟨fun _ => by decide, fun _ => Or.inr (by decide)⟩, fun _ => ⟨6, by decide, rfl, by decide, by decide⟩, by decide, by decide⟩
  rw [if_neg q3]
  have e : catC x = nI 0 := by
    unfold catC
    rw [if_neg (fun z => z.elim q2 q3), if_neg (fun z => q1 ⟨Int32.not_lt.mp z.1, Int32.not_lt.mp z.2⟩)]
  rw [e]
  exact ⟨⟨fun z => z.elim (fun w => absurd w q0) (fun w => absurd w (by decide)), fun z => absurd rfl z⟩, fun z => absurd rfl z, by decide, by decide⟩
/-- the two readings of a text, character by character -/
def tRel (w : Nat × Nat) (q : MQ3) : Prop := w.2 = q.1 ∧ 1 ≤ q.2.1 ∧ (q.2.1 = 1 → w.1 = 0 ∧ q.2.2 = q.1) ∧ (2 ≤ q.2.1 → w.1 = q.2.2 ∧ 0 < w.1 ∧ q.1 ≤ q.2.2)
theorem t_step {f : Nat → Int32} {k : Nat} {w : Nat × Nat} {q : MQ3} (h : tRel w q) : (∃ w' q', errS f k w = .inl w' ∧ mapS f k q = .inl q' ∧ tRel w' q') ∨ (errS f k w = .inr k ∧ mapS f k q = .inr (k, q.2.1, q.2.2)) := by
  obtain ⟨h1, h2, h3, h4⟩ := h
  unfold errS mapS
  by_cases c1 : f k = nI 47
  · rw [if_pos c1]
    have hk : knQ (f k) = -nI 1 := by rw [c1]; exact kn_slash
    by_cases c2 : w.2 = 0 ∨ w.2 < w.1
    · right
      rw [if_pos c2]
      refine ⟨rfl, ?_⟩
      rw [if_neg, if_neg (fun z => z.1 hk)]
      rintro ⟨-, z1, z2⟩
      rcases (show q.2.1 = 1 ∨ 2 ≤ q.2.1 by omega) with e | e
      · have := h3 e; omega
      · have := h4 e; omega
    · left
      rw [if_neg c2]
      have hP : meP f k q := by
        refine ⟨c1, by omega, ?_⟩
        rcases (show q.2.1 = 1 ∨ 2 ≤ q.2.1 by omega) with e | e
        · exact Or.inl e
        · have := h4 e; exact Or.inr (by omega)
      rw [if_pos hP]
      refine ⟨_, _, rfl, rfl, rfl, by dsimp only; omega, fun z => ?_, fun _ => ?_⟩
      · dsimp only at z; omega
      · dsimp only
        rcases (show q.2.1 = 1 ∨ 2 ≤ q.2.1 by omega) with e | e
        · have := h3 e; exact ⟨by omega, by omega, by omega⟩
        · have := h4 e; exact ⟨by omega, by omega, by omega⟩
  · rw [if_neg c1, if_neg (show ¬ meP f k q from fun z => c1 z.1)]
    have hpl := (kn_cases (f k)).1
    by_cases c2 : isPl (f k) ∧ ¬ (0 < w.1 ∧ w.2 = w.1)
    · left
      rw [if_pos c2]
      have hP : mpP f k q := by
        refine ⟨hpl.mp c2.1, ?_⟩
        rcases (show q.2.1 = 1 ∨ 2 ≤ q.2.1 by omega) with e | e
        · exact Or.inl e
        · have := h4 e
          have := c2.2
          exact Or.inr (by omega)
      rw [if_pos hP]
      refine ⟨_, _, rfl, rfl, ?_, h2, fun z => ?_, fun z => ?_⟩
      · dsimp only; omega
      · have := h3 z
        dsimp only at z ⊢
        rw [if_pos z]
        exact ⟨this.1, rfl⟩
      · have := h4 z
        dsimp only at z ⊢
        have := c2.2
        rw [if_neg (by omega)]
        exact ⟨by omega, by omega, by omega⟩
    · right
      rw [if_neg c2]
      refine ⟨rfl, ?_⟩
      rw [if_neg]
      rintro ⟨z1, z2⟩
      refine c2 ⟨hpl.mpr z1, ?_⟩
      rcases (show q.2.1 = 1 ∨ 2 ≤ q.2.1 by omega) with e | e
      · have := h3 e; omega
      · have := h4 e; omega
theorem t_rel {f : Nat → Int32} : ∀ n, (∃ w q, foE (errS f) n (0, 0) = .inl w ∧ foE (mapS f) n (0, 1, 0) = .inl q ∧ tRel w q) ∨ ∃ i r, i < n ∧ foE (errS f) n (0, 0) = .inr i ∧ foE (mapS f) n (0, 1, 0) = .inr (i, r) := by
  intro n
  induction n with
  | zero => exact Or.inl ⟨_, _, rfl, rfl, rfl, by decide, fun _ => ⟨rfl, rfl⟩, fun z => absurd z (by decide)⟩
  | succ n ih =>
    unfold foE
    rcases ih with ⟨w, q, e1, e2, h⟩ | ⟨i, r, hi, e1, e2⟩
    · rw [e1, e2]
      rcases t_step (f := f) (k := n) h with ⟨w', q', a, b, c⟩ | ⟨a, b⟩
      · exact Or.inl ⟨w', q', a, b, c⟩
      · exact Or.inr ⟨n, _, by omega, a, b⟩
    · rw [e1, e2]
      exact Or.inr ⟨i, r, by omega, rfl, rfl⟩
theorem err_map {f : Nat → Int32} {n : Nat} : errV f n = (mapR f n).1 := by
  unfold errV mapR
  rcases t_rel (f := f) n with ⟨w, q, e1, e2, h1, h2, h3, h4⟩ | ⟨i, r, hi, e1, e2⟩
  · rw [e1, e2]
    dsimp only
    have : (w.2 = 0 ∨ w.2 < w.1) ↔ (q.1 = 0 ∨ q.1 < q.2.2) := by
      rcases (show q.2.1 = 1 ∨ 2 ≤ q.2.1 by omega) with e | e
      · have := h3 e; omega
      · have := h4 e; omega
    by_cases c : q.1 = 0 ∨ q.1 < q.2.2
    · rw [if_pos c, if_pos (this.mpr c)]
    · rw [if_neg c, if_neg (fun z => c (this.mp z))]
  · rw [e1, e2]
theorem err_sgn {f : Nat → Int32} {n : Nat} (hn : n ≤ 103) : errV f n < nI 0 ↔ (mapR f n).1 = -nI 1 := by
  rw [err_map]
  constructor
  · intro h
    unfold mapR at h ⊢
    rcases t_rel (f := f) n with ⟨w, q, e1, e2, -⟩ | ⟨i, r, hi, e1, e2⟩
    · rw [e2] at h ⊢
      dsimp only at h ⊢
      by_cases c : q.1 = 0 ∨ q.1 < q.2.2
      · rw [if_pos c, nI_ltI (by omega) (by decide)] at h
        omega
      · rw [if_neg c]
    · rw [e2] at h
      dsimp only at h
      rw [nI_ltI (by omega) (by decide)] at h
      omega
  · intro h
    rw [h]
    decide
theorem row_map {f : Nat → Int32} : ∀ n q, foE (mapS f) n (0, 1, 0) = .inl q → q.2.1 = rowN f n ∧ 1 ≤ q.2.1 ∧ (q.2.1 = 1 → q.2.2 = q.1 ∧ q.1 = n ∧ ∀ i, i < n → ¬ f i = nI 47) ∧ (2 ≤ q.2.1 → q.2.2 < n ∧ f q.2.2 = nI 47 ∧ ∀ i, i < q.2.2 → ¬ f i = nI 47) ∧ q.1 ≤ q.2.2 := by
  intro n
  induction n with
  | zero =>
    intro q h
    cases h
    exact ⟨rfl, by decide, fun _ => ⟨rfl, rfl, fun i hi => absurd hi (by omega)⟩, fun z => absurd z (by decide), Nat.le_refl _⟩
  | succ n ih =>
    intro q h
    unfold foE at h
    cases hf : foE (mapS f) n (0, 1, 0) with
    | inr r => rw [hf] at h; cases h
    | inl p =>
      rw [hf] at h
      obtain ⟨i1, i2, i3, i4, i5⟩ := ih p hf
      have h : mapS f n p = .inl q := h
      have hr : rowN f (n + 1) = if f n = nI 47 then rowN f n + 1 else rowN f n := rfl
      rw [hr]
      unfold mapS at h
      by_cases c1 : meP f n p
      · rw [if_pos c1] at h
        cases h
        rw [if_pos c1.1]
        dsimp only
        refine ⟨by omega, by omega, fun z => by omega, fun _ => ?_, by omega⟩
        rcases (show p.2.1 = 1 ∨ 2 ≤ p.2.1 by omega) with e | e
        · obtain ⟨a, b, c⟩ := i3 e
          have : p.2.2 = n := by omega
          rw [this]
          exact ⟨by omega, c1.1, c⟩
        · obtain ⟨a, b, c⟩ := i4 e
          exact ⟨by omega, b, c⟩
      · rw [if_neg c1] at h
        by_cases c2 : mpP f n p
        · rw [if_pos c2] at h
          cases h
          have c3 : ¬ f n = nI 47 := fun z => c2.1 (by rw [z]; exact kn_slash)
          rw [if_neg c3]
          dsimp only
          refine ⟨i1, i2, fun e => ?_, fun e => ?_, ?_⟩
          · obtain ⟨a, b, c⟩ := i3 e
            rw [if_pos e]
            refine ⟨rfl, by omega, fun i hi => ?_⟩
            by_cases w : i = n
            · rw [w]; exact c3
            · exact c i (by omega)
          · obtain ⟨a, b, c⟩ := i4 e
            rw [if_neg (by omega)]
            exact ⟨by omega, b, c⟩
          · by_cases e : p.2.1 = 1
            · rw [if_pos e]
              exact Nat.le_refl _
            · rw [if_neg e]
              have := c2.2
              omega
        · rw [if_neg c2] at h
          cases h
theorem col_map {f : Nat → Int32} {n : Nat} {q : MQ3} (h : foE (mapS f) n (0, 1, 0) = .inl q) : rowN f n = q.2.1 ∧ colN f n = q.2.2 := by
  obtain ⟨i1, i2, i3, i4, i5⟩ := row_map n q h
  refine ⟨i1.symm, ?_⟩
  unfold colN
  rcases (show q.2.1 = 1 ∨ 2 ≤ q.2.1 by omega) with e | e
  · obtain ⟨a, b, c⟩ := i3 e
    have : (List.range n).find? (fun i => decide (f i = nI 47)) = none := by
      rw [List.find?_eq_none]
      intro i hi
      have := c i (List.mem_range.mp hi)
      simpa using this
    rw [this]
    dsimp only
    omega
  · obtain ⟨a, b, c⟩ := i4 e
    have : (List.range n).find? (fun i => decide (f i = nI 47)) = some q.2.2 := by
      rw [List.find?_range_eq_some]
      refine ⟨by simpa using b, by simpa using a, fun j hj => ?_⟩
      have := c j hj
      simpa using this
    rw [this]
