/-! a box office at x: its 227 cells as one value, the Office that is now outermost -/
abbrev oHa (o : Off) := o.1
abbrev oFi (o : Off) := o.2.1
abbrev oSe (o : Off) := o.2.2.1
abbrev oPe (o : Off) := o.2.2.2.1
abbrev oHo (o : Off) := o.2.2.2.2.1
abbrev oTi (o : Off) := o.2.2.2.2.2.1
abbrev oPa (o : Off) := o.2.2.2.2.2.2.1
abbrev oAc (o : Off) := o.2.2.2.2.2.2.2.1
abbrev oPr (o : Off) := o.2.2.2.2.2.2.2.2.1
abbrev oTm (o : Off) := o.2.2.2.2.2.2.2.2.2.1
abbrev oFc (o : Off) := o.2.2.2.2.2.2.2.2.2.2.1
abbrev oRu (o : Off) := o.2.2.2.2.2.2.2.2.2.2.2.1
abbrev oMd (o : Off) := o.2.2.2.2.2.2.2.2.2.2.2.2
abbrev Bx : Type := (Nat → Int32) × Nat × Int32 × Int32 × Nat × Nat × Int32 × Tab × Tab × Off × Off × (Nat → Off)
def pstF (x : Nat) : Nat → Option Nat := fun k => if k < 8 then some (x + 67 + 20 * k) else none
theorem pstF_in {x k : Nat} (hk : k < 8) : va_rf (pstF x k) = .ref (x + 67 + 20 * k) := by
  unfold pstF
  rw [if_pos hk]
  rfl
def updP (f : Nat → Off) (i : Nat) (o : Off) : Nat → Off := fun j => if j = i then o else f j
def bxC (B : Bx) (x i : Nat) : xE := match B with
  | (bf, bn, le, lr, nw, ub, hs, lg, sl, rp, sv, ps) => if i = 0 then .inr (5, [.ref (x + 1), .int (nI bn), .int le, .int lr, .ref (x + 2), .ref (x + 22), .ref (x + 24), .int (nI nw), .int (nI ub), .ref (x + 25), .ref (x + 45), .ref (x + 65), .int hs])
    else if i = 1 then .inl (1, 103, .inl bf)
    else if i < 22 then .inr (999, [])
    else if i = 22 then tabO 7 (x + 22) lg.1
    else if i = 23 then arI 3584 lg.2
    else if i = 24 then .inl (5, 8, .inr (.inr (.inr (.inr (pstF x)))))
    else if i < 45 then offC rp (x + 25) (i - 25)
    else if i < 65 then offC sv (x + 45) (i - 45)
    else if i = 65 then tabO 7 (x + 65) sl.1
    else if i = 66 then arI 3584 sl.2
    else offC (ps ((i - 67) / 20)) (x + 67 + 20 * ((i - 67) / 20)) ((i - 67) % 20)
def bxr (h : xHp) (x : Nat) (B : Bx) : xHp := fun j => if x ≤ j ∧ j < x + 227 then bxC B x (j - x) else h j
theorem putOff_comm {h : xHp} {b b' : Nat} {o o' : Off} (hd : b + 20 ≤ b' ∨ b' + 20 ≤ b) : putOff (putOff h b o) b' o' = putOff (putOff h b' o') b o := by
  funext j
  by_cases h1 : b ≤ j ∧ j < b + 20
  · obtain ⟨k, rfl⟩ : ∃ k, j = b + k := ⟨j - b, by omega⟩
    rw [putOff_out (by omega), putOff_at (by omega), putOff_at (by omega)]
  · rw [putOff_out (b := b) h1]
    by_cases h2 : b' ≤ j ∧ j < b' + 20
    · obtain ⟨k, rfl⟩ : ∃ k, j = b' + k := ⟨j - b', by omega⟩
      rw [putOff_at (by omega), putOff_at (by omega)]
    · rw [putOff_out h2, putOff_out h2, putOff_out h1]
theorem hset_putOff {h : xHp} {b k : Nat} {o : Off} {e : xE} (hk : k < b ∨ b + 20 ≤ k) : hset (putOff h b o) k e = putOff (hset h k e) b o := by
  funext j
  by_cases h1 : b ≤ j ∧ j < b + 20
  · obtain ⟨i, rfl⟩ : ∃ i, j = b + i := ⟨j - b, by omega⟩
    rw [hset_n (by omega), putOff_at (by omega), putOff_at (by omega)]
  · rw [putOff_out h1]
    by_cases h2 : j = k
    · rw [h2, hset_s, hset_s]
    · rw [hset_n h2, hset_n h2, putOff_out h1]
section BOX
variable {t0 x : Nat} {a : Nat × Bool} {h : xHp} {bf : Nat → Int32} {bn nw ub : Nat} {le lr hs : Int32} {lg sl : Tab} {rp sv : Off} {ps : Nat → Off} {o : Off}
theorem bxr_in {B : Bx} {i : Nat} (hi : i < 227) : bxr h x B (x + i) = bxC B x i := by
  unfold bxr
  rw [if_pos ⟨by omega, by omega⟩, Nat.add_sub_cancel_left]
theorem bxr_out {B : Bx} {j : Nat} (hj : ¬ (x ≤ j ∧ j < x + 227)) : bxr h x B j = h j := if_neg hj
theorem bxr_set {B B' : Bx} {i : Nat} {e : xE} (hi : i < 227) (he : ∀ j, j < 227 → bxC B' x j = if j = i then e else bxC B x j) : hset (bxr h x B) (x + i) e = bxr h x B' := by
  funext j
  by_cases hj : x ≤ j ∧ j < x + 227
  · obtain ⟨k, rfl⟩ : ∃ k, j = x + k := ⟨j - x, by omega⟩
    rw [bxr_in (by omega), he k (by omega)]
    by_cases hk : k = i
    · rw [hk, hset_s, if_pos rfl]
    · rw [hset_n (by omega), bxr_in (by omega), if_neg hk]
  · rw [hset_n (by omega), bxr_out hj, bxr_out hj]
theorem bx0 : bxr h x (bf, bn, le, lr, nw, ub, hs, lg, sl, rp, sv, ps) x = .inr (5, [.ref (x + 1), .int (nI bn), .int le, .int lr, .ref (x + 2), .ref (x + 22), .ref (x + 24), .int (nI nw), .int (nI ub), .ref (x + 25), .ref (x + 45), .ref (x + 65), .int hs]) := bxr_in (i := 0) (by decide)
theorem pb0 : putOff (bxr h x (bf, bn, le, lr, nw, ub, hs, lg, sl, rp, sv, ps)) (x + 2) o x = .inr (5, [.ref (x + 1), .int (nI bn), .int le, .int lr, .ref (x + 2), .ref (x + 22), .ref (x + 24), .int (nI nw), .int (nI ub), .ref (x + 25), .ref (x + 45), .ref (x + 65), .int hs]) := (putOff_out (by omega)).trans bx0
theorem bx1 : bxr h x (bf, bn, le, lr, nw, ub, hs, lg, sl, rp, sv, ps) (x + 1) = .inl (1, 103, .inl bf) := bxr_in (i := 1) (by decide)
theorem pb1 : putOff (bxr h x (bf, bn, le, lr, nw, ub, hs, lg, sl, rp, sv, ps)) (x + 2) o (x + 1) = .inl (1, 103, .inl bf) := (putOff_out (by omega)).trans bx1
theorem bx22 : bxr h x (bf, bn, le, lr, nw, ub, hs, lg, sl, rp, sv, ps) (x + 22) = .inr (4, [.int (nI 7), .ref (x + 23), .int (nI lg.1)]) := bxr_in (i := 22) (by decide)
theorem pb22 : putOff (bxr h x (bf, bn, le, lr, nw, ub, hs, lg, sl, rp, sv, ps)) (x + 2) o (x + 22) = .inr (4, [.int (nI 7), .ref (x + 23), .int (nI lg.1)]) := (putOff_out (by omega)).trans bx22
theorem bx23 : bxr h x (bf, bn, le, lr, nw, ub, hs, lg, sl, rp, sv, ps) (x + 23) = arI 3584 lg.2 := bxr_in (i := 23) (by decide)
theorem pb23 : putOff (bxr h x (bf, bn, le, lr, nw, ub, hs, lg, sl, rp, sv, ps)) (x + 2) o (x + 23) = arI 3584 lg.2 := (putOff_out (by omega)).trans bx23
theorem bx24 : bxr h x (bf, bn, le, lr, nw, ub, hs, lg, sl, rp, sv, ps) (x + 24) = .inl (5, 8, .inr (.inr (.inr (.inr (pstF x))))) := bxr_in (i := 24) (by decide)
theorem pb24 : putOff (bxr h x (bf, bn, le, lr, nw, ub, hs, lg, sl, rp, sv, ps)) (x + 2) o (x + 24) = .inl (5, 8, .inr (.inr (.inr (.inr (pstF x))))) := (putOff_out (by omega)).trans bx24
theorem bx65 : bxr h x (bf, bn, le, lr, nw, ub, hs, lg, sl, rp, sv, ps) (x + 65) = .inr (4, [.int (nI 7), .ref (x + 66), .int (nI sl.1)]) := bxr_in (i := 65) (by decide)
theorem pb65 : putOff (bxr h x (bf, bn, le, lr, nw, ub, hs, lg, sl, rp, sv, ps)) (x + 2) o (x + 65) = .inr (4, [.int (nI 7), .ref (x + 66), .int (nI sl.1)]) := (putOff_out (by omega)).trans bx65
theorem bx66 : bxr h x (bf, bn, le, lr, nw, ub, hs, lg, sl, rp, sv, ps) (x + 66) = arI 3584 sl.2 := bxr_in (i := 66) (by decide)
theorem pb66 : putOff (bxr h x (bf, bn, le, lr, nw, ub, hs, lg, sl, rp, sv, ps)) (x + 2) o (x + 66) = arI 3584 sl.2 := (putOff_out (by omega)).trans bx66
theorem bs0 {bn' nw' ub' : Nat} {le' lr' hs' : Int32} : hset (bxr h x (bf, bn, le, lr, nw, ub, hs, lg, sl, rp, sv, ps)) x (.inr (5, [.ref (x + 1), .int (nI bn'), .int le', .int lr', .ref (x + 2), .ref (x + 22), .ref (x + 24), .int (nI nw'), .int (nI ub'), .ref (x + 25), .ref (x + 45), .ref (x + 65), .int hs'])) = bxr h x (bf, bn', le', lr', nw', ub', hs', lg, sl, rp, sv, ps) := bxr_set (i := 0) (by decide) (fun j hj => by
  by_cases hji : j = 0
  · subst hji
    rfl
  refine Eq.trans ?_ (if_neg hji).symm
  unfold bxC
  dsimp only
  by_cases c0 : j = 0
  · exact absurd (by assumption) hji
  rw [if_neg c0, if_neg c0])
theorem pS0 {bn' nw' ub' : Nat} {le' lr' hs' : Int32} : hset (putOff (bxr h x (bf, bn, le, lr, nw, ub, hs, lg, sl, rp, sv, ps)) (x + 2) o) x (.inr (5, [.ref (x + 1), .int (nI bn'), .int le', .int lr', .ref (x + 2), .ref (x + 22), .ref (x + 24), .int (nI nw'), .int (nI ub'), .ref (x + 25), .ref (x + 45), .ref (x + 65), .int hs'])) = putOff (bxr h x (bf, bn', le', lr', nw', ub', hs', lg, sl, rp, sv, ps)) (x + 2) o := by rw [hset_putOff (by omega), bs0]
theorem bs1 {f : Nat → Int32} : hset (bxr h x (bf, bn, le, lr, nw, ub, hs, lg, sl, rp, sv, ps)) (x + 1) (.inl (1, 103, .inl f)) = bxr h x (f, bn, le, lr, nw, ub, hs, lg, sl, rp, sv, ps) := bxr_set (i := 1) (by decide) (fun j hj => by
  by_cases hji : j = 1
  · subst hji
    rfl
  refine Eq.trans ?_ (if_neg hji).symm
  unfold bxC
  dsimp only
  by_cases c0 : j = 0
  · rw [if_pos c0, if_pos c0]
  rw [if_neg c0, if_neg c0]
  by_cases c1 : j = 1
  · exact absurd (by assumption) hji
  rw [if_neg c1, if_neg c1])
theorem pS1 {f : Nat → Int32} : hset (putOff (bxr h x (bf, bn, le, lr, nw, ub, hs, lg, sl, rp, sv, ps)) (x + 2) o) (x + 1) (.inl (1, 103, .inl f)) = putOff (bxr h x (f, bn, le, lr, nw, ub, hs, lg, sl, rp, sv, ps)) (x + 2) o := by rw [hset_putOff (by omega), bs1]
theorem bs22 {n : Nat} : hset (bxr h x (bf, bn, le, lr, nw, ub, hs, lg, sl, rp, sv, ps)) (x + 22) (tabO 7 (x + 22) n) = bxr h x (bf, bn, le, lr, nw, ub, hs, (n, lg.2), sl, rp, sv, ps) := bxr_set (i := 22) (by decide) (fun j hj => by
  by_cases hji : j = 22
  · subst hji
    rfl
  refine Eq.trans ?_ (if_neg hji).symm
  unfold bxC
  dsimp only
  by_cases c0 : j = 0
  · rw [if_pos c0, if_pos c0]
  rw [if_neg c0, if_neg c0]
  by_cases c1 : j = 1
  · rw [if_pos c1, if_pos c1]
  rw [if_neg c1, if_neg c1]
  by_cases c2 : j < 22
  · rw [if_pos c2, if_pos c2]
  rw [if_neg c2, if_neg c2]
  by_cases c3 : j = 22
  · exact absurd (by assumption) hji
  rw [if_neg c3, if_neg c3])
theorem pS22 {n : Nat} : hset (putOff (bxr h x (bf, bn, le, lr, nw, ub, hs, lg, sl, rp, sv, ps)) (x + 2) o) (x + 22) (tabO 7 (x + 22) n) = putOff (bxr h x (bf, bn, le, lr, nw, ub, hs, (n, lg.2), sl, rp, sv, ps)) (x + 2) o := by rw [hset_putOff (by omega), bs22]
theorem bs23 {f : Nat → Int32} : hset (bxr h x (bf, bn, le, lr, nw, ub, hs, lg, sl, rp, sv, ps)) (x + 23) (arI 3584 f) = bxr h x (bf, bn, le, lr, nw, ub, hs, (lg.1, f), sl, rp, sv, ps) := bxr_set (i := 23) (by decide) (fun j hj => by
  by_cases hji : j = 23
  · subst hji
    rfl
  refine Eq.trans ?_ (if_neg hji).symm
  unfold bxC
  dsimp only
  by_cases c0 : j = 0
  · rw [if_pos c0, if_pos c0]
  rw [if_neg c0, if_neg c0]
  by_cases c1 : j = 1
  · rw [if_pos c1, if_pos c1]
  rw [if_neg c1, if_neg c1]
  by_cases c2 : j < 22
  · rw [if_pos c2, if_pos c2]
  rw [if_neg c2, if_neg c2]
  by_cases c3 : j = 22
  · rw [if_pos c3, if_pos c3]
  rw [if_neg c3, if_neg c3]
  by_cases c4 : j = 23
  · exact absurd (by assumption) hji
  rw [if_neg c4, if_neg c4])
theorem pS23 {f : Nat → Int32} : hset (putOff (bxr h x (bf, bn, le, lr, nw, ub, hs, lg, sl, rp, sv, ps)) (x + 2) o) (x + 23) (arI 3584 f) = putOff (bxr h x (bf, bn, le, lr, nw, ub, hs, (lg.1, f), sl, rp, sv, ps)) (x + 2) o := by rw [hset_putOff (by omega), bs23]
theorem bs65 {n : Nat} : hset (bxr h x (bf, bn, le, lr, nw, ub, hs, lg, sl, rp, sv, ps)) (x + 65) (tabO 7 (x + 65) n) = bxr h x (bf, bn, le, lr, nw, ub, hs, lg, (n, sl.2), rp, sv, ps) := bxr_set (i := 65) (by decide) (fun j hj => by
  by_cases hji : j = 65
  · subst hji
    rfl
  refine Eq.trans ?_ (if_neg hji).symm
  unfold bxC
  dsimp only
  by_cases c0 : j = 0
  · rw [if_pos c0, if_pos c0]
  rw [if_neg c0, if_neg c0]
  by_cases c1 : j = 1
  · rw [if_pos c1, if_pos c1]
  rw [if_neg c1, if_neg c1]
  by_cases c2 : j < 22
  · rw [if_pos c2, if_pos c2]
  rw [if_neg c2, if_neg c2]
  by_cases c3 : j = 22
  · rw [if_pos c3, if_pos c3]
  rw [if_neg c3, if_neg c3]
  by_cases c4 : j = 23
  · rw [if_pos c4, if_pos c4]
  rw [if_neg c4, if_neg c4]
  by_cases c5 : j = 24
  · rw [if_pos c5, if_pos c5]
  rw [if_neg c5, if_neg c5]
  by_cases c6 : j < 45
  · rw [if_pos c6, if_pos c6]
  rw [if_neg c6, if_neg c6]
  by_cases c7 : j < 65
  · rw [if_pos c7, if_pos c7]
  rw [if_neg c7, if_neg c7]
  by_cases c8 : j = 65
  · exact absurd (by assumption) hji
  rw [if_neg c8, if_neg c8])
theorem pS65 {n : Nat} : hset (putOff (bxr h x (bf, bn, le, lr, nw, ub, hs, lg, sl, rp, sv, ps)) (x + 2) o) (x + 65) (tabO 7 (x + 65) n) = putOff (bxr h x (bf, bn, le, lr, nw, ub, hs, lg, (n, sl.2), rp, sv, ps)) (x + 2) o := by rw [hset_putOff (by omega), bs65]
theorem bs66 {f : Nat → Int32} : hset (bxr h x (bf, bn, le, lr, nw, ub, hs, lg, sl, rp, sv, ps)) (x + 66) (arI 3584 f) = bxr h x (bf, bn, le, lr, nw, ub, hs, lg, (sl.1, f), rp, sv, ps) := bxr_set (i := 66) (by decide) (fun j hj => by
  by_cases hji : j = 66
  · subst hji
    rfl
  refine Eq.trans ?_ (if_neg hji).symm
  unfold bxC
  dsimp only
  by_cases c0 : j = 0
  · rw [if_pos c0, if_pos c0]
  rw [if_neg c0, if_neg c0]
  by_cases c1 : j = 1
  · rw [if_pos c1, if_pos c1]
  rw [if_neg c1, if_neg c1]
  by_cases c2 : j < 22
  · rw [if_pos c2, if_pos c2]
  rw [if_neg c2, if_neg c2]
  by_cases c3 : j = 22
  · rw [if_pos c3, if_pos c3]
  rw [if_neg c3, if_neg c3]
  by_cases c4 : j = 23
  · rw [if_pos c4, if_pos c4]
  rw [if_neg c4, if_neg c4]
  by_cases c5 : j = 24
  · rw [if_pos c5, if_pos c5]
  rw [if_neg c5, if_neg c5]
  by_cases c6 : j < 45
  · rw [if_pos c6, if_pos c6]
  rw [if_neg c6, if_neg c6]
  by_cases c7 : j < 65
  · rw [if_pos c7, if_pos c7]
  rw [if_neg c7, if_neg c7]
  by_cases c8 : j = 65
  · rw [if_pos c8, if_pos c8]
  rw [if_neg c8, if_neg c8]
  by_cases c9 : j = 66
  · exact absurd (by assumption) hji
  rw [if_neg c9, if_neg c9])
theorem pS66 {f : Nat → Int32} : hset (putOff (bxr h x (bf, bn, le, lr, nw, ub, hs, lg, sl, rp, sv, ps)) (x + 2) o) (x + 66) (arI 3584 f) = putOff (bxr h x (bf, bn, le, lr, nw, ub, hs, lg, (sl.1, f), rp, sv, ps)) (x + 2) o := by rw [hset_putOff (by omega), bs66]
theorem bxr_put {B B' : Bx} {d : Nat} {q : Off} (hd : d + 20 ≤ 227) (he : ∀ j, j < 227 → bxC B' x j = if d ≤ j ∧ j < d + 20 then offC q (x + d) (j - d) else bxC B x j) : putOff (bxr h x B) (x + d) q = bxr h x B' := by
  funext j
  by_cases hj : x ≤ j ∧ j < x + 227
  · obtain ⟨k, rfl⟩ : ∃ k, j = x + k := ⟨j - x, by omega⟩
    rw [bxr_in (by omega), he k (by omega)]
    by_cases hk : d ≤ k ∧ k < d + 20
    · rw [if_pos hk, show x + k = x + d + (k - d) by omega, putOff_at (by omega)]
    · rw [if_neg hk, putOff_out (by omega), bxr_in (by omega)]
  · rw [putOff_out (by omega), bxr_out hj, bxr_out hj]
theorem bxr_rp {q : Off} : putOff (bxr h x (bf, bn, le, lr, nw, ub, hs, lg, sl, rp, sv, ps)) (x + 25) q = bxr h x (bf, bn, le, lr, nw, ub, hs, lg, sl, q, sv, ps) := bxr_put (d := 25) (by decide) (fun j hj => by
  by_cases h1 : 25 ≤ j ∧ j < 25 + 20
  · unfold bxC
    dsimp only
    rw [if_pos h1, if_neg (by omega), if_neg (by omega), if_neg (by omega), if_neg (by omega), if_neg (by omega), if_neg (by omega), if_pos (by omega)]
  · refine Eq.trans ?_ (if_neg h1).symm
    unfold bxC
    dsimp only
    by_cases c0 : j = 0
    · rw [if_pos c0, if_pos c0]
    rw [if_neg c0, if_neg c0]
    by_cases c1 : j = 1
    · rw [if_pos c1, if_pos c1]
    rw [if_neg c1, if_neg c1]
    by_cases c2 : j < 22
    · rw [if_pos c2, if_pos c2]
    rw [if_neg c2, if_neg c2]
    by_cases c3 : j = 22
    · rw [if_pos c3, if_pos c3]
    rw [if_neg c3, if_neg c3]
    by_cases c4 : j = 23
    · rw [if_pos c4, if_pos c4]
    rw [if_neg c4, if_neg c4]
    by_cases c5 : j = 24
    · rw [if_pos c5, if_pos c5]
    rw [if_neg c5, if_neg c5]
    by_cases c6 : j < 45
    · omega
    rw [if_neg c6, if_neg c6])
theorem bxr_sv {q : Off} : putOff (bxr h x (bf, bn, le, lr, nw, ub, hs, lg, sl, rp, sv, ps)) (x + 45) q = bxr h x (bf, bn, le, lr, nw, ub, hs, lg, sl, rp, q, ps) := bxr_put (d := 45) (by decide) (fun j hj => by
  by_cases h1 : 45 ≤ j ∧ j < 45 + 20
  · unfold bxC
    dsimp only
    rw [if_pos h1, if_neg (by omega), if_neg (by omega), if_neg (by omega), if_neg (by omega), if_neg (by omega), if_neg (by omega), if_neg (by omega), if_pos (by omega)]
  · refine Eq.trans ?_ (if_neg h1).symm
    unfold bxC
    dsimp only
    by_cases c0 : j = 0
    · rw [if_pos c0, if_pos c0]
    rw [if_neg c0, if_neg c0]
    by_cases c1 : j = 1
    · rw [if_pos c1, if_pos c1]
    rw [if_neg c1, if_neg c1]
    by_cases c2 : j < 22
    · rw [if_pos c2, if_pos c2]
    rw [if_neg c2, if_neg c2]
    by_cases c3 : j = 22
    · rw [if_pos c3, if_pos c3]
    rw [if_neg c3, if_neg c3]
    by_cases c4 : j = 23
    · rw [if_pos c4, if_pos c4]
    rw [if_neg c4, if_neg c4]
    by_cases c5 : j = 24
    · rw [if_pos c5, if_pos c5]
    rw [if_neg c5, if_neg c5]
    by_cases c6 : j < 45
    · rw [if_pos c6, if_pos c6]
    rw [if_neg c6, if_neg c6]
    by_cases c7 : j < 65
    · omega
    rw [if_neg c7, if_neg c7])
theorem bxr_ps {i : Nat} {q : Off} (hi : i < 8) : putOff (bxr h x (bf, bn, le, lr, nw, ub, hs, lg, sl, rp, sv, ps)) (x + 67 + 20 * i) q = bxr h x (bf, bn, le, lr, nw, ub, hs, lg, sl, rp, sv, updP ps i q) := by
  rw [Nat.add_assoc]
  refine bxr_put (d := 67 + 20 * i) (by omega) (fun j hj => ?_)
  by_cases h1 : 67 + 20 * i ≤ j ∧ j < 67 + 20 * i + 20
  · have e1 : (j - 67) / 20 = i := by omega
    have e2 : (j - 67) % 20 = j - (67 + 20 * i) := by omega
    unfold bxC updP
    dsimp only
    rw [if_pos h1, if_neg (by omega), if_neg (by omega), if_neg (by omega), if_neg (by omega), if_neg (by omega), if_neg (by omega), if_neg (by omega), if_neg (by omega), if_neg (by omega), if_neg (by omega), e1, e2, if_pos rfl, ← Nat.add_assoc]
  · refine Eq.trans ?_ (if_neg h1).symm
    unfold bxC updP
    dsimp only
    by_cases h2 : j < 67
    · by_cases c0 : j = 0
      · rw [if_pos c0, if_pos c0]
      rw [if_neg c0, if_neg c0]
      by_cases c1 : j = 1
      · rw [if_pos c1, if_pos c1]
      rw [if_neg c1, if_neg c1]
      by_cases c2 : j < 22
      · rw [if_pos c2, if_pos c2]
      rw [if_neg c2, if_neg c2]
      by_cases c3 : j = 22
      · rw [if_pos c3, if_pos c3]
      rw [if_neg c3, if_neg c3]
      by_cases c4 : j = 23
      · rw [if_pos c4, if_pos c4]
      rw [if_neg c4, if_neg c4]
      by_cases c5 : j = 24
      · rw [if_pos c5, if_pos c5]
      rw [if_neg c5, if_neg c5]
      by_cases c6 : j < 45
      · rw [if_pos c6, if_pos c6]
      rw [if_neg c6, if_neg c6]
      by_cases c7 : j < 65
      · rw [if_pos c7, if_pos c7]
      rw [if_neg c7, if_neg c7]
      by_cases c8 : j = 65
      · rw [if_pos c8, if_pos c8]
      rw [if_neg c8, if_neg c8]
      by_cases c9 : j = 66
      · rw [if_pos c9, if_pos c9]
      rw [if_neg c9, if_neg c9]
      omega
    · rw [if_neg (show ¬ (j - 67) / 20 = i by omega)]
theorem updP_self {f : Nat → Off} {i : Nat} : updP f i (f i) = f := by
  funext j
  unfold updP
  by_cases h : j = i
  · rw [if_pos h, h]
  · rw [if_neg h]
theorem updP_s {f : Nat → Off} {i : Nat} {q : Off} : updP f i q i = q := if_pos rfl
theorem updP_n {f : Nat → Off} {i j : Nat} {q : Off} (h : j ≠ i) : updP f i q j = f j := if_neg h
abbrev okO (o : Off) : Prop := (oPe o).1 ≤ 6 ∧ (oHo o).1 ≤ 12 ∧ (oTi o).1 ≤ 120 ∧ (oPa o).1 ≤ 40 ∧ (oRu o = 0 ∨ oRu o = 1)
theorem o_copyG {b b' : Nat} {o o' : Off} (hd : b + 20 ≤ b' ∨ b' + 20 ≤ b) (hk : okO o') : CA (xPt t0) 17 [.ref b, .ref b'] a (putOff (putOff h b' o') b o) = some (.inl none, a, putOff (putOff h b' o') b (cpyV o o'), 0, 0) := by
  obtain ⟨h1, h2, h3, h4, h5⟩ := hk
  obtain ⟨p1, p2, p3, p4, p5, p6, p7, p8, p9, p10, p11, p12, p13⟩ := o
  obtain ⟨q1, q2, q3, q4, q5, q6, q7, q8, q9, q10, q11, q12, q13⟩ := o'
  exact o_copy hd h1 h2 h3 h4 h5
/-- past[i].copyFrom(now) -/
theorem cB_past {i : Nat} (hi : i < 8) (hk : okO o) : CA (xPt t0) 17 [.ref (x + 67 + 20 * i), .ref (x + 2)] a (putOff (bxr h x (bf, bn, le, lr, nw, ub, hs, lg, sl, rp, sv, ps)) (x + 2) o) = some (.inl none, a, putOff (bxr h x (bf, bn, le, lr, nw, ub, hs, lg, sl, rp, sv, updP ps i (cpyV (ps i) o))) (x + 2) o, 0, 0) := by
  have e : ∀ q, putOff (bxr h x (bf, bn, le, lr, nw, ub, hs, lg, sl, rp, sv, updP ps i q)) (x + 2) o = putOff (putOff (bxr h x (bf, bn, le, lr, nw, ub, hs, lg, sl, rp, sv, ps)) (x + 2) o) (x + 67 + 20 * i) q := by
    intro q
    rw [← bxr_ps hi, putOff_comm (by omega)]
  have e0 := e (ps i)
  rw [updP_self] at e0
  rw [e0, o_copyG (by omega) hk, ← e]
/-- now.copyFrom(past[i]) -/
theorem cB_back {i : Nat} (hi : i < 8) (hk : okO (ps i)) : CA (xPt t0) 17 [.ref (x + 2), .ref (x + 67 + 20 * i)] a (putOff (bxr h x (bf, bn, le, lr, nw, ub, hs, lg, sl, rp, sv, ps)) (x + 2) o) = some (.inl none, a, putOff (bxr h x (bf, bn, le, lr, nw, ub, hs, lg, sl, rp, sv, ps)) (x + 2) (cpyV o (ps i)), 0, 0) := by
  have e : bxr h x (bf, bn, le, lr, nw, ub, hs, lg, sl, rp, sv, ps) = putOff (bxr h x (bf, bn, le, lr, nw, ub, hs, lg, sl, rp, sv, ps)) (x + 67 + 20 * i) (ps i) := by
    rw [bxr_ps hi, updP_self]
  rw [e, o_copyG (by omega) hk]
/-- saved.copyFrom(now), now.copyFrom(saved) -/
theorem cB_save (hk : okO o) : CA (xPt t0) 17 [.ref (x + 45), .ref (x + 2)] a (putOff (bxr h x (bf, bn, le, lr, nw, ub, hs, lg, sl, rp, sv, ps)) (x + 2) o) = some (.inl none, a, putOff (bxr h x (bf, bn, le, lr, nw, ub, hs, lg, sl, rp, cpyV sv o, ps)) (x + 2) o, 0, 0) := by
  have e : ∀ q, putOff (bxr h x (bf, bn, le, lr, nw, ub, hs, lg, sl, rp, q, ps)) (x + 2) o = putOff (putOff (bxr h x (bf, bn, le, lr, nw, ub, hs, lg, sl, rp, sv, ps)) (x + 2) o) (x + 45) q := by
    intro q
    rw [← bxr_sv (sv := sv), putOff_comm (by omega)]
  rw [e sv, o_copyG (by omega) hk, ← e]
theorem cB_rest (hk : okO sv) : CA (xPt t0) 17 [.ref (x + 2), .ref (x + 45)] a (putOff (bxr h x (bf, bn, le, lr, nw, ub, hs, lg, sl, rp, sv, ps)) (x + 2) o) = some (.inl none, a, putOff (bxr h x (bf, bn, le, lr, nw, ub, hs, lg, sl, rp, sv, ps)) (x + 2) (cpyV o sv), 0, 0) := by
  have e : bxr h x (bf, bn, le, lr, nw, ub, hs, lg, sl, rp, sv, ps) = putOff (bxr h x (bf, bn, le, lr, nw, ub, hs, lg, sl, rp, sv, ps)) (x + 45) sv := by rw [bxr_sv]
  rw [e, o_copyG (by omega) hk]
/-- the log -/
theorem at_lg {r c : Nat} (hr : r < lg.1) (hc : c < 7) (hn : lg.1 ≤ 512) : CA (xPt t0) 29 [.ref (x + 22), .int (nI r), .int (nI c)] a (putOff (bxr h x (bf, bn, le, lr, nw, ub, hs, lg, sl, rp, sv, ps)) (x + 2) o) = some (.inl (some (.int (lg.2 (r * 7 + c)))), a, putOff (bxr h x (bf, bn, le, lr, nw, ub, hs, lg, sl, rp, sv, ps)) (x + 2) o, 0, 0) := s_at (k := x + 22) (w := 7) (cap := 512) (pb22) (pb23) hr hc hn (by decide)
theorem put_lg {r c : Nat} {y : Int32} (hr : r < lg.1) (hc : c < 7) (hn : lg.1 ≤ 512) : CA (xPt t0) 23 [.ref (x + 22), .int (nI r), .int (nI c), .int y] a (putOff (bxr h x (bf, bn, le, lr, nw, ub, hs, lg, sl, rp, sv, ps)) (x + 2) o) = some (.inl none, a, putOff (bxr h x (bf, bn, le, lr, nw, ub, hs, (lg.1, upd lg.2 (r * 7 + c) y), sl, rp, sv, ps)) (x + 2) o, 0, 0) := by rw [s_put (k := x + 22) (w := 7) (cap := 512) (pb22) (pb23) hr hc hn (by decide), ← arI, show 512 * 7 = 3584 from rfl, pS23]
theorem add_lg (hn : lg.1 < 512) : CA (xPt t0) 22 [.ref (x + 22)] a (putOff (bxr h x (bf, bn, le, lr, nw, ub, hs, lg, sl, rp, sv, ps)) (x + 2) o) = some (.inl (some (.int (nI lg.1))), a, putOff (bxr h x (bf, bn, le, lr, nw, ub, hs, (lg.1 + 1, lg.2), sl, rp, sv, ps)) (x + 2) o, 0, 0) := by rw [s_add (k := x + 22) (w := 7) (cap := 512) (pb22) (pb23) hn (by decide) (by decide), pS22]
theorem clear_lg : CA (xPt t0) 13 [.ref (x + 22)] a (putOff (bxr h x (bf, bn, le, lr, nw, ub, hs, lg, sl, rp, sv, ps)) (x + 2) o) = some (.inl none, a, putOff (bxr h x (bf, bn, le, lr, nw, ub, hs, (0, lg.2), sl, rp, sv, ps)) (x + 2) o, 0, 0) := by rw [s_clear (k := x + 22) (w := 7) (pb22), pS22]
theorem remove_lg {r : Nat} (hr : r < lg.1) (hn : lg.1 ≤ 512) : CA (xPt t0) 43 [.ref (x + 22), .int (nI r)] a (putOff (bxr h x (bf, bn, le, lr, nw, ub, hs, lg, sl, rp, sv, ps)) (x + 2) o) = some (.inl none, a, putOff (bxr h x (bf, bn, le, lr, nw, ub, hs, remV 7 lg r, sl, rp, sv, ps)) (x + 2) o, 0, 0) := by rw [s_remove (k := x + 22) (w := 7) (cap := 512) (pb22) (pb23) hr hn (by decide) (by decide), ← arI, show 512 * 7 = 3584 from rfl, pS23, pS22]; rfl
theorem at_sl {r c : Nat} (hr : r < sl.1) (hc : c < 7) (hn : sl.1 ≤ 512) : CA (xPt t0) 29 [.ref (x + 65), .int (nI r), .int (nI c)] a (putOff (bxr h x (bf, bn, le, lr, nw, ub, hs, lg, sl, rp, sv, ps)) (x + 2) o) = some (.inl (some (.int (sl.2 (r * 7 + c)))), a, putOff (bxr h x (bf, bn, le, lr, nw, ub, hs, lg, sl, rp, sv, ps)) (x + 2) o, 0, 0) := s_at (k := x + 65) (w := 7) (cap := 512) (pb65) (pb66) hr hc hn (by decide)
theorem put_sl {r c : Nat} {y : Int32} (hr : r < sl.1) (hc : c < 7) (hn : sl.1 ≤ 512) : CA (xPt t0) 23 [.ref (x + 65), .int (nI r), .int (nI c), .int y] a (putOff (bxr h x (bf, bn, le, lr, nw, ub, hs, lg, sl, rp, sv, ps)) (x + 2) o) = some (.inl none, a, putOff (bxr h x (bf, bn, le, lr, nw, ub, hs, lg, (sl.1, upd sl.2 (r * 7 + c) y), rp, sv, ps)) (x + 2) o, 0, 0) := by rw [s_put (k := x + 65) (w := 7) (cap := 512) (pb65) (pb66) hr hc hn (by decide), ← arI, show 512 * 7 = 3584 from rfl, pS66]
theorem add_sl (hn : sl.1 < 512) : CA (xPt t0) 22 [.ref (x + 65)] a (putOff (bxr h x (bf, bn, le, lr, nw, ub, hs, lg, sl, rp, sv, ps)) (x + 2) o) = some (.inl (some (.int (nI sl.1))), a, putOff (bxr h x (bf, bn, le, lr, nw, ub, hs, lg, (sl.1 + 1, sl.2), rp, sv, ps)) (x + 2) o, 0, 0) := by rw [s_add (k := x + 65) (w := 7) (cap := 512) (pb65) (pb66) hn (by decide) (by decide), pS65]
theorem clear_sl : CA (xPt t0) 13 [.ref (x + 65)] a (putOff (bxr h x (bf, bn, le, lr, nw, ub, hs, lg, sl, rp, sv, ps)) (x + 2) o) = some (.inl none, a, putOff (bxr h x (bf, bn, le, lr, nw, ub, hs, lg, (0, sl.2), rp, sv, ps)) (x + 2) o, 0, 0) := by rw [s_clear (k := x + 65) (w := 7) (pb65), pS65]
theorem remove_sl {r : Nat} (hr : r < sl.1) (hn : sl.1 ≤ 512) : CA (xPt t0) 43 [.ref (x + 65), .int (nI r)] a (putOff (bxr h x (bf, bn, le, lr, nw, ub, hs, lg, sl, rp, sv, ps)) (x + 2) o) = some (.inl none, a, putOff (bxr h x (bf, bn, le, lr, nw, ub, hs, lg, remV 7 sl r, rp, sv, ps)) (x + 2) o, 0, 0) := by rw [s_remove (k := x + 65) (w := 7) (cap := 512) (pb65) (pb66) hr hn (by decide) (by decide), ← arI, show 512 * 7 = 3584 from rfl, pS66, pS65]; rfl
theorem cp_sl (hn : lg.1 ≤ 512) : CA (xPt t0) 20 [.ref (x + 65), .ref (x + 22)] a (putOff (bxr h x (bf, bn, le, lr, nw, ub, hs, lg, sl, rp, sv, ps)) (x + 2) o) = some (.inl none, a, putOff (bxr h x (bf, bn, le, lr, nw, ub, hs, lg, (lg.1, sgA (lg.1 * 7) lg.2 sl.2), rp, sv, ps)) (x + 2) o, 0, 0) := by rw [s_cpyTab (k := x + 65) (k' := x + 22) (w := 7) (cap := 512) pb65 pb66 pb22 pb23 hn (by omega) (by decide), ← arI, show 512 * 7 = 3584 from rfl, pS66, pS65]
theorem cp_lg (hn : sl.1 ≤ 512) : CA (xPt t0) 20 [.ref (x + 22), .ref (x + 65)] a (putOff (bxr h x (bf, bn, le, lr, nw, ub, hs, lg, sl, rp, sv, ps)) (x + 2) o) = some (.inl none, a, putOff (bxr h x (bf, bn, le, lr, nw, ub, hs, (sl.1, sgA (sl.1 * 7) sl.2 lg.2), sl, rp, sv, ps)) (x + 2) o, 0, 0) := by rw [s_cpyTab (k := x + 22) (k' := x + 65) (w := 7) (cap := 512) pb22 pb23 pb65 pb66 hn (by omega) (by decide), ← arI, show 512 * 7 = 3584 from rfl, pS23, pS22]
end BOX
