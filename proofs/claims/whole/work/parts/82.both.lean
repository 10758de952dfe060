/-! the heap of both -/
def bth (h : xHp) (x y : Nat) (B : Bx) (o : Off) (M : Md) : xHp := putMod (putOff (bxr h x B) (x + 2) o) y M
section BOTH
variable {t0 x y L : Nat} {a : Nat × Bool} {h : xHp} {B B' : Bx} {o o' : Off} {M M' : Md}
theorem bth_box (hy : x + 227 ≤ y) : bth h x y B o M = putOff (bxr (putMod h y M) x B) (x + 2) o := by
  unfold bth
  funext j
  by_cases h1 : y ≤ j ∧ j < y + 5
  · rw [putOff_out (by omega), bxr_out (by omega)]
    unfold putMod
    rw [if_pos h1, if_pos h1]
  · rw [putMod_out h1]
    by_cases h2 : x + 2 ≤ j ∧ j < x + 2 + 20
    · unfold putOff
      rw [if_pos h2, if_pos h2]
    · rw [putOff_out h2, putOff_out h2]
      unfold bxr
      by_cases h3 : x ≤ j ∧ j < x + 227
      · rw [if_pos h3, if_pos h3]
      · rw [if_neg h3, if_neg h3, putMod_out h1]
theorem bth_out {j : Nat} (h1 : ¬ (x ≤ j ∧ j < x + 227)) (h2 : ¬ (y ≤ j ∧ j < y + 5)) : bth h x y B o M j = h j := by
  unfold bth
  rw [putMod_out h2, putOff_out (by omega), bxr_out h1]
theorem bth_set {k : Nat} {e : xE} (h1 : ¬ (x ≤ k ∧ k < x + 227)) (h2 : ¬ (y ≤ k ∧ k < y + 5)) : hset (bth h x y B o M) k e = bth (hset h k e) x y B o M := by
  funext j
  by_cases q : j = k
  · subst q
    rw [hset_s, bth_out h1 h2, hset_s]
  · rw [hset_n q]
    unfold bth putMod putOff bxr
    rw [hset_n q]
theorem bth_x (hy : x + 227 ≤ y) : ∃ l, bth h x y B o M x = .inr (5, l) := by
  rw [bth_box hy]
  exact ⟨_, pbG⟩
/-- what the law's loop finds at its other cells -/
def Bse (t0 z w s LL : Nat) (xs : Nat → Int32) (h : xHp) : Prop := h t0 = .inl (8, 4, .inl xFP) ∧ h s = .inl (7, LL, .inl xs) ∧ (∃ f, h z = .inl (3, 1, .inr (.inl f))) ∧ ∃ g, h w = .inl (4, 1, .inr (.inr (.inr (.inl g))))
/-- a call, in the heap of both -/
theorem outc_bth {Mc Mr : Nat} {Es : List Nat} {cs rs : List Value} {P : Value → Prop} (ho : Outc t0 x y L Mc Mr Es B o M cs rs P) (hy : x + 227 ≤ y) (ht0 : t0 < x) : ∃ (B' : Bx) (o' : Off) (M' : Md) (v : Value), P v ∧ Inv (L + 1) B' o' M' ∧ (∀ (a : Nat × Bool) (h : xHp), CA (xPt t0) Mr (.ref y :: rs) a (bth h x y B' o' M) = some (.inl (some v), a, bth h x y B' o' M', 0, 0)) ∧ ((M'.2.2.2.2.1 = nI 0 ∧ ∀ (a : Nat × Bool) (h : xHp), h t0 = .inl (8, 4, .inl xFP) → CA (xPt t0) Mc (.ref x :: cs) a (bth h x y B o M) = some (.inl (some v), a, bth h x y B' o' M, 0, 0)) ∨ ∃ k E, Es[k]? = some E ∧ M'.2.2.2.2.1 = nI (k + 1) ∧ ∀ (a : Nat × Bool) (h : xHp), h t0 = .inl (8, 4, .inl xFP) → CA (xPt t0) Mc (.ref x :: cs) a (bth h x y B o M) = some (.inr E, (a.1, false), bth h x y B' o' M, 1, 6)) := by
  obtain ⟨B', o', M', v, h1, h2, h3, h4⟩ := ho
  have hf : ∀ h : xHp, h t0 = .inl (8, 4, .inl xFP) → putMod h y M t0 = .inl (8, 4, .inl xFP) := fun h q => (putMod_out (by omega)).trans q
  refine ⟨B', o', M', v, h1, h2, fun a h => h3 a _, ?_⟩
  rcases h4 with ⟨q1, q2⟩ | ⟨k, E, q0, q1, q2⟩
  · refine Or.inl ⟨q1, fun a h ht => ?_⟩
    rw [bth_box hy, bth_box hy]
    exact q2 a _ ht0 (hf h ht)
  · refine Or.inr ⟨k, E, q0, q1, fun a h ht => ?_⟩
    rw [bth_box hy, bth_box hy]
    exact q2 a _ ht0 (hf h ht)
end BOTH
