/-! what the small machine's state says of the machine's: locals, worlds, what stays of the tables -/
def xPr : Nat → xL → List (Nat × Value)
  | _, [] => []
  | i, none :: L => xPr (i + 1) L
  | i, some v :: L => (i, v) :: xPr (i + 1) L
theorem xPr_mem : ∀ (L : xL) (k : Nat) (q : Nat × Value), q ∈ xPr k L ↔ ∃ j : Nat, L[j]? = some (some q.2) ∧ q.1 = k + j := by
  intro L
  induction L with
  | nil => intro k q; simp [xPr]
  | cons a L ih =>
    intro k q
    have h1 : (∃ j : Nat, (a :: L)[j]? = some (some q.2) ∧ q.1 = k + j) ↔ (a = some q.2 ∧ q.1 = k) ∨ ∃ j : Nat, L[j]? = some (some q.2) ∧ q.1 = (k + 1) + j := by
      constructor
      · rintro ⟨j, h1, h2⟩
        cases j with
        | zero => exact Or.inl ⟨by simpa using h1, h2⟩
        | succ j => exact Or.inr ⟨j, by simpa using h1, by omega⟩
      · rintro (⟨h1, h2⟩ | ⟨j, h1, h2⟩)
        · exact ⟨0, by simpa using h1, h2⟩
        · exact ⟨j + 1, by simpa using h1, by omega⟩
    rw [h1]
    cases a with
    | none =>
      show q ∈ xPr (k + 1) L ↔ _
      rw [ih]
      simp
    | some v =>
      show q ∈ (k, v) :: xPr (k + 1) L ↔ _
      rw [List.mem_cons, ih]
      constructor
      · rintro (rfl | h)
        · exact Or.inl ⟨rfl, rfl⟩
        · exact Or.inr h
      · rintro (⟨h1, h2⟩ | h)
        · left
          obtain ⟨q1, q2⟩ := q
          cases h1
          cases h2
          rfl
        · exact Or.inr h
theorem k1_some {a : Option Value} {w : Value} (h : k1 a = some w) : a = some w ∧ ¬ w.category = 2 := by
  cases a with
  | none => cases h
  | some v =>
    cases v <;> first | (cases h; exact ⟨rfl, by simp [Value.category]⟩) | (simp [k1] at h)
theorem xst_get : ∀ (L : xL) (i : Nat) (v : Value) (j : Nat) (w : Value), (xst L i v)[j]? = some (some w) → (j = i ∧ w = v) ∨ (j ≠ i ∧ L[j]? = some (some w) ∧ (j + 1 = i → ¬ w.category = 2)) := by
  intro L i v
  fun_induction xst L i v with
  | case1 a l v =>
    intro j w h
    cases j with
    | zero => left; exact ⟨rfl, by simpa using h.symm⟩
    | succ j => right; exact ⟨by omega, by simpa using h, by omega⟩
  | case2 a b l v =>
    intro j w h
    match j, h with
    | 0, h =>
      have h1 : k1 a = some w := by simpa using h
      obtain ⟨h2, h3⟩ := k1_some h1
      right; exact ⟨by omega, by simp [h2], fun _ => h3⟩
    | 1, h => left; exact ⟨rfl, by simpa using h.symm⟩
    | j + 2, h => right; exact ⟨by omega, by simpa using h, by omega⟩
  | case3 a b l i v ih =>
    intro j w h
    cases j with
    | zero => right; exact ⟨by omega, by simpa using h, by omega⟩
    | succ j =>
      rcases ih j w (by simpa using h) with ⟨h1, h2⟩ | ⟨h1, h2, h3⟩
      · left; exact ⟨by omega, h2⟩
      · right; exact ⟨by omega, by simpa using h2, fun q => h3 (by omega)⟩
  | case4 => intro j w h; simp at h
theorem xst2_get : ∀ (L : xL) (i : Nat) (v : Value) (j : Nat) (w : Value), (xst2 L i v)[j]? = some (some w) → (j = i ∧ w = v) ∨ (j ≠ i ∧ j ≠ i + 1 ∧ L[j]? = some (some w) ∧ (j + 1 = i → ¬ w.category = 2)) := by
  intro L i v
  fun_induction xst2 L i v with
  | case1 a b l v =>
    intro j w h
    match j, h with
    | 0, h => left; exact ⟨rfl, by simpa using h.symm⟩
    | 1, h => simp at h
    | j + 2, h => right; exact ⟨by omega, by omega, by simpa using h, by omega⟩
  | case2 a b c l v =>
    intro j w h
    match j, h with
    | 0, h =>
      have h1 : k1 a = some w := by simpa using h
      obtain ⟨h2, h3⟩ := k1_some h1
      right; exact ⟨by omega, by omega, by simp [h2], fun _ => h3⟩
    | 1, h => left; exact ⟨rfl, by simpa using h.symm⟩
    | 2, h => simp at h
    | j + 3, h => right; exact ⟨by omega, by omega, by simpa using h, by omega⟩
  | case3 a b l i v ih =>
    intro j w h
    cases j with
    | zero => right; exact ⟨by omega, by omega, by simpa using h, by omega⟩
    | succ j =>
      rcases ih j w (by simpa using h) with ⟨h1, h2⟩ | ⟨h1, h2, h3, h4⟩
      · left; exact ⟨by omega, h2⟩
      · right; exact ⟨by omega, by omega, by simpa using h3, fun q => h4 (by omega)⟩
  | case4 => intro j w h; simp at h
theorem xdrop_get : ∀ (L : xL) (i : Nat) (j : Nat) (w : Value), (xdrop L i)[j]? = some (some w) → j ≠ i ∧ L[j]? = some (some w) ∧ (j + 1 = i → ¬ w.category = 2) := by
  intro L i
  fun_induction xdrop L i with
  | case1 a l =>
    intro j w h
    cases j with
    | zero => simp at h
    | succ j => exact ⟨by omega, by simpa using h, by omega⟩
  | case2 a b l =>
    intro j w h
    match j, h with
    | 0, h =>
      have h1 : k1 a = some w := by simpa using h
      obtain ⟨h2, h3⟩ := k1_some h1
      exact ⟨by omega, by simp [h2], fun _ => h3⟩
    | 1, h => simp at h
    | j + 2, h => exact ⟨by omega, by simpa using h, by omega⟩
  | case3 a b l i ih =>
    intro j w h
    cases j with
    | zero => exact ⟨by omega, by simpa using h, by omega⟩
    | succ j =>
      obtain ⟨h1, h2, h3⟩ := ih j w (by simpa using h)
      exact ⟨by omega, by simpa using h2, fun q => h3 (by omega)⟩
  | case4 => intro j w h; simp at h
theorem lv_fewer {ls : Array Slot} {nL : Nat} {l l' : List (Nat × Value)} (h : lv_has ls nL l) (hs : ∀ q ∈ l', q ∈ l) : lv_has ls nL l' := ⟨h.1, h.2.1, fun q hq => h.2.2 q (hs q hq)⟩
theorem x_lst {ls : Array Slot} {nL : Nat} {L : xL} {i : Nat} {v : Value} (h : lv_has ls nL ((i, v) :: (xPr 0 L).filter (fun q => !(q.1 == i) && !(q.1 + 1 == i && q.2.category == 2)))) : lv_has ls nL (xPr 0 (xst L i v)) := by
  refine lv_fewer h fun q hq => ?_
  obtain ⟨j, h1, h2⟩ := (xPr_mem _ _ _).mp hq
  obtain ⟨q1, q2⟩ := q
  have h2 : q1 = j := by simpa using h2
  subst h2
  rcases xst_get _ _ _ _ _ h1 with ⟨rfl, rfl⟩ | ⟨h3, h4, h5⟩
  · exact List.mem_cons_self
  · refine List.mem_cons_of_mem _ (List.mem_filter.mpr ⟨(xPr_mem _ _ _).mpr ⟨q1, h4, by simp⟩, ?_⟩)
    by_cases h6 : q1 + 1 = i
    · have := h5 h6
      simp [h3, this]
    · simp [h3, h6]
theorem x_lst2 {ls : Array Slot} {nL : Nat} {L : xL} {i : Nat} {v : Value} (h : lv_has ls nL ((i, v) :: (xPr 0 L).filter (fun q => !(q.1 == i) && (!(q.1 == i + 1) && !(q.1 + 1 == i && q.2.category == 2))))) : lv_has ls nL (xPr 0 (xst2 L i v)) := by
  refine lv_fewer h fun q hq => ?_
  obtain ⟨j, h1, h2⟩ := (xPr_mem _ _ _).mp hq
  obtain ⟨q1, q2⟩ := q
  have h2 : q1 = j := by simpa using h2
  subst h2
  rcases xst2_get _ _ _ _ _ h1 with ⟨rfl, rfl⟩ | ⟨h3, h7, h4, h5⟩
  · exact List.mem_cons_self
  · refine List.mem_cons_of_mem _ (List.mem_filter.mpr ⟨(xPr_mem _ _ _).mpr ⟨q1, h4, by simp⟩, ?_⟩)
    by_cases h6 : q1 + 1 = i
    · have := h5 h6
      simp [h3, this, h7]
    · simp [h3, h6, h7]
theorem x_ldrop {ls : Array Slot} {nL : Nat} {L : xL} {i : Nat} {v : Value} (h : lv_has ls nL ((i, v) :: (xPr 0 L).filter (fun q => !(q.1 == i) && !(q.1 + 1 == i && q.2.category == 2)))) : lv_has ls nL (xPr 0 (xdrop L i)) := by
  refine lv_fewer h fun q hq => ?_
  obtain ⟨j, h1, h2⟩ := (xPr_mem _ _ _).mp hq
  obtain ⟨q1, q2⟩ := q
  have h2 : q1 = j := by simpa using h2
  subst h2
  obtain ⟨h3, h4, h5⟩ := xdrop_get _ _ _ _ h1
  refine List.mem_cons_of_mem _ (List.mem_filter.mpr ⟨(xPr_mem _ _ _).mpr ⟨q1, h4, by simp⟩, ?_⟩)
  by_cases h6 : q1 + 1 = i
  · have := h5 h6
    simp [h3, this]
  · simp [h3, h6]
theorem x_lld {ls : Array Slot} {nL : Nat} {L : xL} {i : Nat} {v : Value} (h : lv_has ls nL (xPr 0 L)) (hl : xld L i = some v) : ls[i]? = some (.val v) := by
  unfold xld at hl
  split at hl
  next w hw =>
    cases hl
    exact h.2.2 (i, v) ((xPr_mem _ _ _).mpr ⟨i, hw, by simp⟩)
  next => cases hl
/-- the world: the cells from lo on; an array's kind says its class -/
def xcE (cid : Nat → ClassId) (e : xE) : va_E := match e with
  | .inl a => .inl (cid a.1, a.2)
  | .inr o => .inr o
def xW (cid : Nat → ClassId) (lo hi : Nat) (h : xHp) : va_W := (List.range (hi - lo)).map (fun k => (lo + k, xcE cid (h (lo + k))))
theorem xW_get {cid : Nat → ClassId} {lo hi : Nat} {h : xHp} {r : Nat} (h1 : lo ≤ r) (h2 : r < hi) : (xW cid lo hi h)[r - lo]? = some (r, xcE cid (h r)) := by
  unfold xW
  rw [List.getElem?_map, List.getElem?_range (by omega)]
  simp [show lo + (r - lo) = r by omega]
theorem xW_inv {cid : Nat → ClassId} {lo hi : Nat} {h : xHp} {k : Nat} {q : Nat × va_E} (hk : (xW cid lo hi h)[k]? = some q) : k < hi - lo ∧ q = (lo + k, xcE cid (h (lo + k))) := by
  unfold xW at hk
  rw [List.getElem?_map] at hk
  by_cases hl : k < hi - lo
  · rw [List.getElem?_range hl] at hk
    exact ⟨hl, by simpa using hk.symm⟩
  · rw [List.getElem?_eq_none (by simp; omega)] at hk
    cases hk
theorem xW_set {cid : Nat → ClassId} {lo hi : Nat} {h : xHp} {r : Nat} {e : xE} (h1 : lo ≤ r) (_h2 : r < hi) : (xW cid lo hi h).set (r - lo) (r, xcE cid e) = xW cid lo hi (hset h r e) := by
  apply List.ext_getElem?
  intro k
  rw [List.getElem?_set]
  by_cases hk : r - lo = k
  · subst hk
    have hl : r - lo < (xW cid lo hi h).length := by simp [xW]; omega
    rw [if_pos rfl, if_pos hl, xW_get h1 _h2, hset_s]
  · rw [if_neg hk]
    unfold xW
    rw [List.getElem?_map, List.getElem?_map]
    by_cases hl : k < hi - lo
    · rw [List.getElem?_range hl]
      simp only [Option.map_some]
      rw [hset_n (by omega)]
    · rw [List.getElem?_eq_none (by simp; omega)]
      rfl
theorem xW_push {cid : Nat → ClassId} {lo hi : Nat} {h : xHp} {e : xE} (h1 : lo ≤ hi) : xW cid lo hi h ++ [(hi, xcE cid e)] = xW cid lo (hi + 1) (hset h hi e) := by
  unfold xW
  rw [show hi + 1 - lo = (hi - lo) + 1 by omega, List.range_succ, List.map_append]
  congr 1
  · apply List.map_congr_left
    intro k hk
    have : k < hi - lo := List.mem_range.mp hk
    rw [hset_n (by omega)]
  · simp only [List.map_cons, List.map_nil]
    rw [show lo + (hi - lo) = hi by omega, hset_s]
theorem xW_A {cid : Nat → ClassId} {lo hi sz : Nat} {h : xHp} {q : Nat} : va_A (xW cid lo hi h) sz q ↔ (lo ≤ q ∧ q < hi) ∨ sz ≤ q := by
  unfold va_A
  constructor
  · rintro (⟨k, e, hk⟩ | h)
    · obtain ⟨h1, h2⟩ := xW_inv hk
      have : q = lo + k := congrArg Prod.fst h2
      left; omega
    · exact Or.inr h
  · rintro (⟨h1, h2⟩ | h)
    · exact Or.inl ⟨_, _, xW_get h1 h2⟩
    · exact Or.inr h
theorem xW_D {cid : Nat → ClassId} {lo hi : Nat} {h : xHp} {A : Nat → Prop} (hA : ∀ q, lo ≤ q → q < hi → A q) : va_D A (xW cid lo hi h) := by
  refine ⟨fun i j p q hi hj hpq => ?_, fun k q hk => ?_⟩
  · obtain ⟨h1, h2⟩ := xW_inv hi
    obtain ⟨h3, h4⟩ := xW_inv hj
    rw [h2, h4] at hpq
    dsimp only at hpq
    omega
  · obtain ⟨h1, h2⟩ := xW_inv hk
    rw [h2]
    exact hA _ (by omega) (by dsimp only; omega)
theorem xW_lt {D : va_G} {cl : List vw_C} {cid : Nat → ClassId} {lo hi : Nat} {h : xHp} {H : Heap} (hP : va_P D cl (xW cid lo hi h) H) : lo < hi → hi ≤ H.size := by
  intro hl
  have := vx_lt hP (xW_get (r := hi - 1) (by omega) (by omega))
  dsimp only at this
  omega
def xtys (cid : Nat → ClassId) : List (ClassId × FieldType) := [(cid 0, .int), (cid 1, .char), (cid 2, .boolean), (cid 3, .long), (cid 4, .double), (cid 5, .object "TheatreBoxOffice$Office")]
def xFP : Nat → Int32 := fun j => match j with
  | 0 => 4000
  | 1 => 3000
  | 2 => 2000
  | _ => 1000
/-- what the heap holds outside of the world; the kinds within -/
def xJ (lo hi t0 b0 LL : Nat) (xs : Nat → Int32) (h : xHp) : Prop := (∀ k, ¬ (lo ≤ k ∧ k < hi) → h k = .inr (999, []) ∨ (k = t0 ∧ h k = .inl (8, 4, .inl xFP)) ∨ (k = b0 ∧ h k = .inl (7, LL, .inl xs))) ∧ ∀ k, lo ≤ k → k < hi → ∀ t a, h k = .inl (t, a) → t < 6
theorem xJ.set {lo hi t0 b0 LL : Nat} {xs : Nat → Int32} {h : xHp} (hJ : xJ lo hi t0 b0 LL xs h) {r : Nat} {e : xE} (h1 : lo ≤ r) (h2 : r < hi) (he : ∀ t a, e = .inl (t, a) → t < 6) : xJ lo hi t0 b0 LL xs (hset h r e) := by
  refine ⟨fun k hk => ?_, fun k g1 g2 t a hka => ?_⟩
  · rw [hset_n (by rintro rfl; exact hk ⟨h1, h2⟩)]
    exact hJ.1 k hk
  · by_cases hkr : k = r
    · subst hkr
      rw [hset_s] at hka
      exact he t a hka
    · rw [hset_n hkr] at hka
      exact hJ.2 k g1 g2 t a hka
theorem xJ.push {lo hi t0 b0 LL : Nat} {xs : Nat → Int32} {h : xHp} (hJ : xJ lo hi t0 b0 LL xs h) {e : xE} (hl : lo ≤ hi) (he : ∀ t a, e = .inl (t, a) → t < 6) : xJ lo (hi + 1) t0 b0 LL xs (hset h hi e) := by
  refine ⟨fun k hk => ?_, fun k g1 g2 t a hka => ?_⟩
  · rw [hset_n (by rintro rfl; exact hk ⟨hl, by omega⟩)]
    exact hJ.1 k (fun q => hk ⟨q.1, by omega⟩)
  · by_cases hkr : k = hi
    · subst hkr
      rw [hset_s] at hka
      exact he t a hka
    · rw [hset_n hkr] at hka
      exact hJ.2 k g1 (by omega) t a hka
theorem xJ.obj {lo hi t0 b0 LL : Nat} {xs : Nat → Int32} {h : xHp} (hJ : xJ lo hi t0 b0 LL xs h) {r ci : Nat} {fs : List Value} (hr : h r = .inr (ci, fs)) (hc : ci < 999) : lo ≤ r ∧ r < hi := by
  apply Decidable.byContradiction
  intro hk
  rcases hJ.1 r hk with h1 | ⟨-, h1⟩ | ⟨-, h1⟩
  · rw [h1] at hr; cases hr; omega
  · rw [h1] at hr; cases hr
  · rw [h1] at hr; cases hr
theorem xJ.arr {lo hi t0 b0 LL : Nat} {xs : Nat → Int32} {h : xHp} (hJ : xJ lo hi t0 b0 LL xs h) {r t : Nat} {a : vp_A} (hr : h r = .inl (t, a)) : (t < 6 → lo ≤ r ∧ r < hi) ∧ (t = 7 → r = b0 ∧ a = (LL, .inl xs)) ∧ (t = 8 → r = t0 ∧ a = (4, .inl xFP)) := by
  by_cases hk : lo ≤ r ∧ r < hi
  · have := hJ.2 r hk.1 hk.2 t a hr
    exact ⟨fun _ => hk, fun _ => by omega, fun _ => by omega⟩
  · rcases hJ.1 r hk with h1 | ⟨h0, h1⟩ | ⟨h0, h1⟩
    · rw [h1] at hr; cases hr
    · rw [h1] at hr; cases hr
      exact ⟨fun h => by omega, fun h => by omega, fun _ => ⟨h0, rfl⟩⟩
    · rw [h1] at hr; cases hr
      exact ⟨fun h => by omega, fun _ => ⟨h0, rfl⟩, fun h => by omega⟩
