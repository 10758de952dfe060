/-! questions on both sides -/
theorem fo_ins {α : Type} [Add α] (hc : ∀ a b c : α, a + b + c = a + c + b) {P P' : Nat → Prop} {d : ∀ x, Decidable (P x)} {d' : ∀ x, Decidable (P' x)} {G : Nat → α} {x0 : Nat} (h0 : ¬ P x0) (h1 : P' x0) (h2 : ∀ x, x ≠ x0 → (P' x ↔ P x)) {z : α} : ∀ M, (M ≤ x0 → fo (fun x z => if P' x then z + G x else z) M z = fo (fun x z => if P x then z + G x else z) M z) ∧ (x0 < M → fo (fun x z => if P' x then z + G x else z) M z = fo (fun x z => if P x then z + G x else z) M z + G x0) := by
  intro M
  induction M with
  | zero => exact ⟨fun _ => rfl, fun h => absurd h (by omega)⟩
  | succ M ih =>
    obtain ⟨i1, i2⟩ := ih
    have s1 : fo (fun x z => if P' x then z + G x else z) (M + 1) z = if P' M then fo (fun x z => if P' x then z + G x else z) M z + G M else fo (fun x z => if P' x then z + G x else z) M z := rfl
    have s2 : fo (fun x z => if P x then z + G x else z) (M + 1) z = if P M then fo (fun x z => if P x then z + G x else z) M z + G M else fo (fun x z => if P x then z + G x else z) M z := rfl
    rw [s1, s2]
    refine ⟨fun h => ?_, fun h => ?_⟩
    · rw [i1 (by omega)]
      by_cases q : P M
      · rw [if_pos q, if_pos ((h2 M (by omega)).mpr q)]
      · rw [if_neg q, if_neg (fun w => q ((h2 M (by omega)).mp w))]
    · by_cases e : M = x0
      · subst e
        rw [if_pos h1, if_neg h0, i1 (Nat.le_refl _)]
      · rw [i2 (by omega)]
        by_cases q : P M
        · rw [if_pos q, if_pos ((h2 M e).mpr q), hc]
        · rw [if_neg q, if_neg (fun w => q ((h2 M e).mp w))]
theorem sum_in {α : Type} [Add α] (hc : ∀ a b c : α, a + b + c = a + c + b) {S : Nat → Prop} {ds : ∀ x, Decidable (S x)} {h : Nat → Nat} {G : Nat → α} {M : Nat} {z : α} {Q : Nat → Nat → Prop} (hQ : ∀ N x, Q N x ↔ ∃ i, i < N ∧ S i ∧ h i = x) {d : ∀ N x, Decidable (Q N x)} : ∀ N, (∀ i, i < N → S i → h i < M) → (∀ i j, i < j → j < N → S i → S j → h i ≠ h j) → fo (fun i z => if S i then z + G (h i) else z) N z = fo (fun x z => if Q N x then z + G x else z) M z := by
  intro N
  induction N with
  | zero =>
    intro _ _
    have : ∀ M, fo (fun x z => if Q 0 x then z + G x else z) M z = z := by
      intro M
      induction M with
      | zero => rfl
      | succ M ih =>
        show (if Q 0 M then fo (fun x z => if Q 0 x then z + G x else z) M z + G M else fo (fun x z => if Q 0 x then z + G x else z) M z) = z
        rw [if_neg (fun w => by obtain ⟨i, hi, _⟩ := (hQ 0 M).mp w; omega), ih]
    rw [this]
    rfl
  | succ N ih =>
    intro h1 h2
    have ih' := ih (fun i hi => h1 i (by omega)) (fun i j hij hj => h2 i j hij (by omega))
    show (if S N then fo (fun i z => if S i then z + G (h i) else z) N z + G (h N) else fo (fun i z => if S i then z + G (h i) else z) N z) = _
    rw [ih']
    by_cases q : S N
    · rw [if_pos q]
      refine ((fo_ins hc (P := Q N) (P' := Q (N + 1)) (x0 := h N) ?_ ?_ ?_ M).2 (h1 N (by omega) q)).symm
      · intro w
        obtain ⟨i, hi, hs, he⟩ := (hQ N _).mp w
        exact h2 i N hi (by omega) hs q he
      · exact (hQ _ _).mpr ⟨N, by omega, q, rfl⟩
      · intro x hx
        rw [hQ, hQ]
        constructor
        · rintro ⟨i, hi, hs, he⟩
          refine ⟨i, ?_, hs, he⟩
          have : i ≠ N := fun w => hx (by rw [← he, w])
          omega
        · rintro ⟨i, hi, hs, he⟩
          exact ⟨i, by omega, hs, he⟩
    · rw [if_neg q]
      refine fo_congr _ fun x t _ => ?_
      have e : Q (N + 1) x ↔ Q N x := by
        rw [hQ, hQ]
        constructor
        · rintro ⟨i, hi, hs, he⟩
          refine ⟨i, ?_, hs, he⟩
          have : i ≠ N := fun w => q (by rw [← w]; exact hs)
          omega
        · rintro ⟨i, hi, hs, he⟩
          exact ⟨i, by omega, hs, he⟩
      by_cases q2 : Q N x
      · rw [if_pos q2, if_pos (e.mpr q2)]
      · rw [if_neg q2, if_neg (fun w => q2 (e.mp w))]
theorem rc32 : ∀ a b c : Int32, a + b + c = a + c + b := fun a b c => by rw [Int32.add_assoc, Int32.add_comm b c, ← Int32.add_assoc]
theorem rcN : ∀ a b c : Nat, a + b + c = a + c + b := fun a b c => by omega
section ASK
variable {f : Nat → Int32} {N : Nat} {kf pf : Nat → Nat} {R C n mh m m4 K D : Nat} {ha : Hal} {fi : Fnd} {se : Sea} {pe ho ti pa : Tab} {ac pr : Nat → Int32} {tm fc ru md : Int32}
theorem tic_sum {α : Type} [Add α] (hc : ∀ a b c : α, a + b + c = a + c + b) (h : wTic f m N kf pf n R C D) (hn : n ≤ 6) {G : Nat → Nat → α} {z : α} : fo (fun i z => z + G (kf i) (pf i)) N z = fo (fun k z => fo (fun p z => if nI 0 < tsQ f k p then z + G k p else z) n z) m z := by
  have t3 := h.2.2.1
  have k0 : ∀ i, i < N → (n * kf i + pf i) / n = kf i ∧ (n * kf i + pf i) % n = pf i := fun i hi => by
    have := (t3 i hi).2
    have h0 : 0 < n := by omega
    exact ⟨by rw [Nat.mul_add_div h0, Nat.div_eq_of_lt this, Nat.add_zero], by rw [Nat.mul_add_mod, Nat.mod_eq_of_lt this]⟩
  have e := @sum_in α _ hc (fun _ => True) (fun _ => instDecidableTrue) (fun i => n * kf i + pf i) (fun x => G (x / n) (x % n)) (m * n) z (fun N x => ∃ i, i < N ∧ True ∧ n * kf i + pf i = x) (fun _ _ => Iff.rfl) (fun _ _ => Classical.propDecidable _) N ?_ ?_
  · refine Eq.trans (fo_congr _ fun i t hi => ?_) (e.trans ?_)
    · rw [if_pos trivial]
      obtain ⟨a, b⟩ := k0 i hi
      rw [a, b]
    · rw [← fo_two]
      refine fo_congr _ fun k t hk => fo_congr _ fun p t2 hp => ?_
      have a : (k * n + p) / n = k := by rw [Nat.mul_comm, Nat.mul_add_div (by omega), Nat.div_eq_of_lt hp, Nat.add_zero]
      have b : (k * n + p) % n = p := by rw [Nat.mul_comm, Nat.mul_add_mod, Nat.mod_eq_of_lt hp]
      have q : (∃ i, i < N ∧ True ∧ n * kf i + pf i = k * n + p) ↔ nI 0 < tsQ f k p := by
        rw [tic_ts h hn hk hp]
        constructor
        · rintro ⟨i, hi, -, he⟩
          obtain ⟨c, d⟩ := k0 i hi
          exact ⟨i, hi, by rw [← c, he, a], by rw [← d, he, b]⟩
        · rintro ⟨i, hi, rfl, rfl⟩
          exact ⟨i, hi, trivial, by rw [Nat.mul_comm]⟩
      by_cases w : nI 0 < tsQ f k p
      · rw [if_pos w, if_pos (q.mpr w), a, b]
      · rw [if_neg w, if_neg (fun z => w (q.mp z))]
  · intro i hi _
    obtain ⟨a, b⟩ := t3 i hi
    calc n * kf i + pf i < n * kf i + n := by omega
      _ = (kf i + 1) * n := by rw [Nat.add_mul, Nat.mul_comm]; omega
      _ ≤ m * n := Nat.mul_le_mul_right _ (by omega)
  · intro i j hij hj _ _ he
    obtain ⟨a, b⟩ := k0 i (by omega)
    obtain ⟨c, d⟩ := k0 j hj
    have e1 : kf i = kf j := by rw [← a, ← c, he]
    have e2 : pf i = pf j := by rw [← b, ← d, he]
    exact h.2.2.2.2.1 i j hij hj e1 e2
theorem rev_eq (h : wTic f m N kf pf n R C D) (hm : mTic ti f N kf pf) (hn : n ≤ 6) (hpe : mPer pe f n) {p : Nat} (hp : p < n) : revV pe ti p = rvQ f p m := by
  have t3 := h.2.2.1
  unfold revV rvQ
  rw [hm.1, (hpe.2 p hp).2.2]
  have e := @sum_in Int32 _ rc32 (fun i => pf i = p) (fun _ => inferInstance) kf (fun x => f (1375 + 26 * x + 2 + 4 * p + 3)) m (f (22 + p)) (fun N x => ∃ i, i < N ∧ pf i = p ∧ kf i = x) (fun _ _ => Iff.rfl) (fun _ _ => Classical.propDecidable _) N (fun i hi _ => (t3 i hi).1) (fun i j hij hj h1 h2 he => h.2.2.2.2.1 i j hij hj he (h1.trans h2.symm))
  refine Eq.trans (fo_congr _ fun i t hi => ?_) (e.trans (fo_congr _ fun k t hk => ?_))
  · obtain ⟨-, -, -, -, e4, -, e6⟩ := hm.2 i hi
    have := (t3 i hi).2
    have q : ti.2 (i * 7 + 6) = nI p ↔ pf i = p := by rw [e6, nI_eq (by omega) (by omega)]
    by_cases w : pf i = p
    · rw [if_pos w, if_pos (q.mpr w), e4, w]
      rfl
    · rw [if_neg w, if_neg (fun z => w (q.mp z))]
  · have q : (∃ i, i < N ∧ pf i = p ∧ kf i = k) ↔ nI 0 < tsQ f k p := by
      rw [tic_ts h hn hk hp]
      exact ⟨fun ⟨i, a, b, c⟩ => ⟨i, a, c, b⟩, fun ⟨i, a, b, c⟩ => ⟨i, a, c, b⟩⟩
    by_cases w : nI 0 < tsQ f k p
    · rw [if_pos w, if_pos (q.mpr w)]
    · rw [if_neg w, if_neg (fun z => w (q.mp z))]
theorem fo_one {n : Nat} : fo (fun _ (z : Nat) => z + 1) n 0 = n := by
  induction n with
  | zero => rfl
  | succ n ih =>
    show fo (fun _ (z : Nat) => z + 1) n 0 + 1 = n + 1
    rw [ih]
theorem fo_cadd {P : Nat → Prop} {d : ∀ x, Decidable (P x)} {z : Nat} : ∀ n, fo (fun p z => if P p then z + 1 else z) n z = z + fo (fun p z => if P p then z + 1 else z) n 0 := by
  intro n
  induction n with
  | zero => rfl
  | succ n ih =>
    show (if P n then fo (fun p z => if P p then z + 1 else z) n z + 1 else fo (fun p z => if P p then z + 1 else z) n z) = z + (if P n then fo (fun p z => if P p then z + 1 else z) n 0 + 1 else fo (fun p z => if P p then z + 1 else z) n 0)
    rw [ih]
    split <;> omega
theorem tkN_eq (h : wTic f m N kf pf n R C D) (hn : n ≤ 6) : tkN f m n = N := by
  have e := tic_sum rcN h hn (G := fun _ _ => 1) (z := 0)
  rw [fo_one] at e
  rw [e]
  unfold tkN
  refine fo_congr _ fun k t _ => ?_
  unfold tcQ
  exact (fo_cadd n).symm
theorem mnQ_eq {f : Nat → Int32} : mnQ f m n = (fo (fun k z => fo (fun p z => if nI 0 < tsQ f k p then z + f (1375 + 26 * k + 2 + 4 * p + 3) else z) n z) m (nI 0), fo (fun k z => fo (fun p z => if nI 0 < tsQ f k p then z + f (1375 + 26 * k + 2 + 4 * p + 2) else z) n z) m (nI 0)) := by
  unfold mnQ
  rw [← fo_pair]
  refine fo_congr _ fun k q _ => ?_
  rw [← fo_pair]
  refine fo_congr _ fun p q _ => ?_
  by_cases w : nI 0 < tsQ f k p
  · rw [if_pos w, if_pos w, if_pos w]
  · rw [if_neg w, if_neg w, if_neg w]
theorem mean_eq (h : wTic f m N kf pf n R C D) (hm : mTic ti f N kf pf) (hn : n ≤ 6) : fo (fun i s => s + ti.2 (i * 7 + 3)) ti.1 (nI 0) = (mnQ f m n).2 ∧ fo (fun i s => s + ti.2 (i * 7 + 4)) ti.1 (nI 0) = (mnQ f m n).1 := by
  rw [mnQ_eq, hm.1]
  dsimp only
  rw [← tic_sum rc32 h hn (G := fun k p => f (1375 + 26 * k + 2 + 4 * p + 2)), ← tic_sum rc32 h hn (G := fun k p => f (1375 + 26 * k + 2 + 4 * p + 3))]
  refine ⟨fo_congr _ fun i t hi => ?_, fo_congr _ fun i t hi => ?_⟩
  · rw [(hm.2 i hi).2.2.2.1]
    rfl
  · rw [(hm.2 i hi).2.2.2.2.1]
    rfl
theorem ord_eq (h : wTic f m N kf pf n R C D) (hm : mTic ti f N kf pf) : ordV ti = nI m := by
  obtain ⟨t1, t2, t3, t4, t5, t6, t7, t8, t9, t10⟩ := h
  unfold ordV
  rw [hm.1]
  have key : ∀ i, i ≤ N → fo (fun i z => if i = 0 ∨ ¬ ti.2 (i * 7 + 5) = ti.2 ((i - 1) * 7 + 5) then z + nI 1 else z) i (nI 0) = nI (if i = 0 then 0 else kf (i - 1) + 1) := by
    intro i
    induction i with
    | zero => intro _; rfl
    | succ i ih =>
      intro hi
      show (if i = 0 ∨ ¬ ti.2 (i * 7 + 5) = ti.2 ((i - 1) * 7 + 5) then fo (fun i z => if i = 0 ∨ ¬ ti.2 (i * 7 + 5) = ti.2 ((i - 1) * 7 + 5) then z + nI 1 else z) i (nI 0) + nI 1 else fo (fun i z => if i = 0 ∨ ¬ ti.2 (i * 7 + 5) = ti.2 ((i - 1) * 7 + 5) then z + nI 1 else z) i (nI 0)) = _
      rw [ih (by omega), if_neg (show ¬ i + 1 = 0 by omega), Nat.add_sub_cancel]
      by_cases q : i = 0
      · subst q
        obtain ⟨j, hj, hk⟩ := t6 0 (by have := (t3 0 (by omega)).1; omega)
        have := t4 0 j (by omega) hj
        rw [if_pos (Or.inl rfl), if_pos rfl, show kf 0 = 0 by omega]
        rfl
      · rw [if_neg q]
        have e1 : ti.2 (i * 7 + 5) = f (1375 + 26 * kf i) := (hm.2 i (by omega)).2.2.2.2.2.1
        have e2 : ti.2 ((i - 1) * 7 + 5) = f (1375 + 26 * kf (i - 1)) := (hm.2 (i - 1) (by omega)).2.2.2.2.2.1
        have b1 := (t3 i (by omega)).1
        have le := t4 (i - 1) i (by omega) (by omega)
        by_cases q2 : kf (i - 1) = kf i
        · rw [if_neg, q2]
          rw [e1, e2, q2]
          exact fun z => z.elim q (fun z => z rfl)
        · have gap : kf i = kf (i - 1) + 1 := by
            obtain ⟨j, hj, hk⟩ := t6 (kf (i - 1) + 1) (by omega)
            rcases Nat.lt_or_ge j i with w | w
            · have := t4 j (i - 1) (by omega) (by omega)
              omega
            · have := t4 i j w hj
              omega
          rw [if_pos, nI_add, gap]
          right
          rw [e1, e2]
          exact fun z => t8 _ _ (show kf (i - 1) < kf i by omega) b1 z.symm
  rw [key N (Nat.le_refl _)]
  by_cases q : N = 0
  · rw [if_pos q]
    by_cases w : m = 0
    · rw [w]
    · obtain ⟨j, hj, _⟩ := t6 0 (by omega)
      omega
  · rw [if_neg q]
    have b := (t3 (N - 1) (by omega)).1
    obtain ⟨j, hj, hk⟩ := t6 (m - 1) (by omega)
    have := t4 j (N - 1) (by omega) (by omega)
    rw [show kf (N - 1) + 1 = m by omega]
theorem cnt_eq (hs : mSea se f n) {p : Nat} (hp : p < n) (hn : n ≤ 6) {st : Int32} (hst : ¬ st = nI 4) : cntA se.1 p st = nI (siN f p st) := by
  unfold cntA siN
  have key : ∀ k, k ≤ 96 → fo (fun j z => if se.1 (p * 96 + j) = st then z + nI 1 else z) k (nI 0) = nI (fo (fun k z => if ¬ f (43 + k) = nI 0 ∧ f (139 + 96 * p + k) = st then z + 1 else z) k 0) := by
    intro k
    induction k with
    | zero => intro _; rfl
    | succ k ih =>
      intro hk
      show (if se.1 (p * 96 + k) = st then fo (fun j z => if se.1 (p * 96 + j) = st then z + nI 1 else z) k (nI 0) + nI 1 else fo (fun j z => if se.1 (p * 96 + j) = st then z + nI 1 else z) k (nI 0)) = nI (if ¬ f (43 + k) = nI 0 ∧ f (139 + 96 * p + k) = st then fo (fun k z => if ¬ f (43 + k) = nI 0 ∧ f (139 + 96 * p + k) = st then z + 1 else z) k 0 + 1 else fo (fun k z => if ¬ f (43 + k) = nI 0 ∧ f (139 + 96 * p + k) = st then z + 1 else z) k 0)
      rw [ih (by omega), (hs (p * 96 + k) (by omega)).1]
      have e1 : (p * 96 + k) / 96 = p := by omega
      have e2 : (p * 96 + k) % 96 = k := by omega
      have e3 : 139 + (p * 96 + k) = 139 + 96 * p + k := by omega
      unfold isS
      rw [e1, e2, e3]
      by_cases q : f (43 + k) = nI 0
      · have hi : (if p < n ∧ ¬f (43 + k) = nI 0 then f (139 + 96 * p + k) else nI 4) = nI 4 := if_neg (fun z => z.2 q)
        rw [hi, if_neg (fun z => hst z.symm), if_neg (fun z => z.1 q)]
      · have hi : (if p < n ∧ ¬f (43 + k) = nI 0 then f (139 + 96 * p + k) else nI 4) = f (139 + 96 * p + k) := if_pos ⟨hp, q⟩
        rw [hi]
        by_cases w : f (139 + 96 * p + k) = st
        · rw [if_pos w, if_pos ⟨q, w⟩, nI_add]
        · rw [if_neg w, if_neg (fun z => w z.2)]
  exact key 96 (Nat.le_refl _)
theorem n0_add {x : Int32} : nI 0 + x = x := by
  show (0 : Int32) + x = x
  exact Int32.zero_add x
theorem vfr_eq (hw : wHal f R C) (hh : mHal ha f R C) (hs : mSea se f n) (hpr : mPri pr f) (hpe : mPer pe f n) (hn : n ≤ 6) {p : Nat} (hp : p < n) : vfrV ha se.1 pr (pe.2 (p * 3 + 1)) p = vfQ f p R C := by
  have hR := hw.2.2.2.1
  have hC := hw.2.2.2.2.2.1
  unfold vfrV vfQ
  rw [hh.1, hh.2.1]
  refine fo_congr _ fun r t hr => fo_congr _ fun c t2 hc => ?_
  rw [(hs (p * 96 + r * 12 + c) (by omega)).1]
  have e1 : (p * 96 + r * 12 + c) / 96 = p := by omega
  have e2 : (p * 96 + r * 12 + c) % 96 = 12 * r + c := by omega
  unfold isS
  rw [e1, e2, show 43 + (12 * r + c) = 43 + 12 * r + c by omega, show 139 + (p * 96 + r * 12 + c) = 139 + (96 * p + 12 * r + c) by omega]
  by_cases q : f (43 + 12 * r + c) = nI 0
  · have hi : (if p < n ∧ ¬f (43 + 12 * r + c) = nI 0 then f (139 + (96 * p + 12 * r + c)) else nI 4) = nI 4 := if_neg (fun z => z.2 q)
    rw [hi, if_neg (by decide), if_neg (fun z => z.2.1 q)]
  · have hi : (if p < n ∧ ¬f (43 + 12 * r + c) = nI 0 then f (139 + (96 * p + 12 * r + c)) else nI 4) = f (139 + (96 * p + 12 * r + c)) := if_pos ⟨hp, q⟩
    rw [hi]
    by_cases w : f (139 + (96 * p + 12 * r + c)) = nI 0
    · rw [if_pos w, if_pos ⟨hc, q, w⟩]
      have := price_eq hw hh hpr hpe hp (r := r) (c := c) (s := 1) ⟨hr, by omega, by omega, by omega, fun i hi => by rw [show i = 0 by omega]; exact q⟩
      rw [this]
      show t2 + (nI 0 + paQ f p r (c + 0)) = t2 + paQ f p r c
      rw [n0_add, Nat.add_zero]
    · rw [if_neg w, if_neg (fun z => w z.2.2)]
theorem pal_eq (hw : wHal f R C) (hh : mHal ha f R C) (hpr : mPri pr f) (hpe : mPer pe f n) {S r c s : Nat} (hb : wBlk f R C r c s) : pallV pe pr ha.1 S (r * 12 + c) s = palQ f S n r c s := by
  unfold pallV palQ
  rw [hpe.1]
  refine fo_congr _ fun p t hp => ?_
  rw [price_eq hw hh hpr hpe hp hb]
theorem dst_eq (hfc : fc = f 6) (hC1 : 1 ≤ C) {r c : Nat} : dstV C fc r c = dsqV f C r c := by
  unfold dstV dsqV
  rw [hfc, ← nI_sub hC1]
  have : ∀ x y : Int32, x - (y - nI 1) = x - y + nI 1 := by
    intro x y
    simp only [Int32.sub_eq_add_neg, Int32.neg_add, Int32.neg_neg, Int32.add_assoc]
  rw [this]
theorem cat_eq {x : Int32} (h1 : x = nI (cN x)) (h2 : cN x ≤ 6) : nI (ctN x) = catQ x := by
  unfold ctN catQ
  by_cases q : cN x < 5
  · rw [if_pos q, if_pos (by rw [h1, nI_ltI (by omega) (by decide)]; omega)]
    exact h1.symm
  · rw [if_neg q, if_neg (by rw [h1, nI_ltI (by omega) (by decide)]; omega)]
theorem place_eq (hw : wHal f R C) (hh : mHal ha f R C) {r c : Nat} (hr : r < R) (hc : c < C) : ha.1 (r * 12 + c) = catQ (f (43 + 12 * r + c)) ∧ ha.2.1 (r * 12 + c) = kcQ (f (43 + 12 * r + c)) := by
  have hR := hw.2.2.2.1
  have hC := hw.2.2.2.2.2.1
  obtain ⟨k1, k2⟩ := hw.2.2.2.2.2.2.1 (12 * r + c) (by omega)
  obtain ⟨a, b⟩ := hh.2.2.2.2 (r * 12 + c) (by omega) ⟨by omega, by omega⟩
  rw [show 43 + (r * 12 + c) = 43 + 12 * r + c by omega] at a b
  rw [show 43 + (12 * r + c) = 43 + 12 * r + c by omega] at k1 k2
  exact ⟨a.trans (cat_eq k1 k2), b⟩
theorem state_eq (hs : mSea se f n) (hR : R ≤ 8) (hC : C ≤ 12) (hn : n ≤ 6) {p r c : Nat} (hp : p < n) (hr : r < R) (hc : c < C) : se.1 (p * 96 + r * 12 + c) = (if f (43 + 12 * r + c) = nI 0 then nI 4 else f (139 + (96 * p + 12 * r + c))) ∧ se.2 (p * 96 + r * 12 + c) = (if f (139 + (96 * p + 12 * r + c)) = nI 1 ∨ f (139 + (96 * p + 12 * r + c)) = nI 2 then f (715 + (96 * p + 12 * r + c)) else -nI 1) := by
  obtain ⟨a, b⟩ := hs (p * 96 + r * 12 + c) (by omega)
  have e1 : (p * 96 + r * 12 + c) / 96 = p := by omega
  have e2 : (p * 96 + r * 12 + c) % 96 = 12 * r + c := by omega
  unfold isS at a
  rw [e1, e2, show 43 + (12 * r + c) = 43 + 12 * r + c by omega, show 139 + (p * 96 + r * 12 + c) = 139 + (96 * p + 12 * r + c) by omega] at a
  rw [show 139 + (p * 96 + r * 12 + c) = 139 + (96 * p + 12 * r + c) by omega, show 715 + (p * 96 + r * 12 + c) = 715 + (96 * p + 12 * r + c) by omega] at b
  refine ⟨a.trans ?_, b⟩
  by_cases q : f (43 + 12 * r + c) = nI 0
  · rw [if_neg (fun z => z.2 q), if_pos q]
  · rw [if_pos ⟨hp, q⟩, if_neg q]
/-- the holder that is none -/
theorem holder_no (hw : wSea f n) (j : Nat) (hj : j < 576) : (f (139 + j) = nI 1 ∨ f (139 + j) = nI 2) → ¬ f (715 + j) = -nI 1 := by
  intro h
  obtain ⟨k, hk, e⟩ := (hw j hj).2.2 h
  rw [e]
  intro z
  have h1 := nI_toInt (n := k) (by omega)
  rw [z] at h1
  have h2 : (-nI 1).toInt = -1 := by decide
  omega
end ASK
