/-! the law's loop: what a call leaves -/
section LOOP
variable {t0 x y z w s LL L i : Nat} {xs : Nat → Int32} {a : Nat × Bool} {h H H' : xHp} {B B' : Bx} {o o' : Off} {M M' : Md}
def Sep (t0 x y z w s : Nat) : Prop := t0 < x ∧ s < x ∧ x + 227 ≤ y ∧ y + 5 ≤ z ∧ z < w
theorem bth_y : ∃ l, bth H x y B o M y = .inr (6, l) := by
  obtain ⟨mf, mg, mv, mi, th, re, pm, iz, ty, ea, mr, mc, br, bc⟩ := M
  exact ⟨_, mo0⟩
theorem bth_th : CA (xPt t0) 154 [.ref y] a (bth H x y B o M) = some (.inl (some (.int M.2.2.2.2.1)), a, bth H x y B o M, 0, 0) := by
  obtain ⟨mf, mg, mv, mi, th, re, pm, iz, ty, ea, mr, mc, br, bc⟩ := M
  exact m_thrown
theorem bth_s (hs : Sep t0 x y z w s) (hb : Bse t0 z w s LL xs H) : bth H x y B o M s = .inl (7, LL, .inl xs) := by
  obtain ⟨s1, s2, s3, s4, s5⟩ := hs
  exact (bth_out (by omega) (by omega)).trans hb.2.1
theorem bth_z (hs : Sep t0 x y z w s) : bth H x y B o M z = H z := by
  obtain ⟨s1, s2, s3, s4, s5⟩ := hs
  exact bth_out (by omega) (by omega)
theorem bth_w (hs : Sep t0 x y z w s) : bth H x y B o M w = H w := by
  obtain ⟨s1, s2, s3, s4, s5⟩ := hs
  exact bth_out (by omega) (by omega)
theorem bth_sz {e : xE} (hs : Sep t0 x y z w s) : hset (bth H x y B o M) z e = bth (hset H z e) x y B o M := by
  obtain ⟨s1, s2, s3, s4, s5⟩ := hs
  exact bth_set (by omega) (by omega)
theorem bth_sw {e : xE} (hs : Sep t0 x y z w s) : hset (bth H x y B o M) w e = bth (hset H w e) x y B o M := by
  obtain ⟨s1, s2, s3, s4, s5⟩ := hs
  exact bth_set (by omega) (by omega)
theorem bse_z {f : Nat → Int64} (hs : Sep t0 x y z w s) (hb : Bse t0 z w s LL xs H) : Bse t0 z w s LL xs (hset H z (.inl (3, 1, .inr (.inl f)))) := by
  obtain ⟨s1, s2, s3, s4, s5⟩ := hs
  obtain ⟨b1, b2, b3, b4⟩ := hb
  exact ⟨by rw [hset_n (by omega)]; exact b1, by rw [hset_n (by omega)]; exact b2, ⟨f, hset_s _ _ _⟩, by rw [hset_n (by omega)]; exact b4⟩
theorem bse_w {g : Nat → UInt64} (hs : Sep t0 x y z w s) (hb : Bse t0 z w s LL xs H) : Bse t0 z w s LL xs (hset H w (.inl (4, 1, .inr (.inr (.inr (.inl g)))))) := by
  obtain ⟨s1, s2, s3, s4, s5⟩ := hs
  obtain ⟨b1, b2, b3, b4⟩ := hb
  exact ⟨by rw [hset_n (by omega)]; exact b1, by rw [hset_n (by omega)]; exact b2, by rw [hset_n (by omega)]; exact b3, ⟨g, hset_s _ _ _⟩⟩
/-- a helper's answer and the reference's -/
def Hlp (t0 x y z w s LL : Nat) (xs : Nat → Int32) (L Mh Mr : Nat) (H : xHp) (B : Bx) (o : Off) (M : Md) (cs rs : List Value) (V : Value → xHp → Int32 → Prop) : Prop := ∀ a : Nat × Bool, ∃ (B' : Bx) (o' : Off) (M' : Md) (H' : xHp) (a' : Nat × Bool) (k : Int32) (v : Value) (cc nn : Nat), Inv (L + 1) B' o' M' ∧ Bse t0 z w s LL xs H' ∧ cc ≤ 1 ∧ nn ≤ 6 ∧ CA (xPt t0) Mh (.ref x :: cs) a (bth H x y B o M) = some (.inl (some (.int k)), a', bth H' x y B' o' M, cc, nn) ∧ (∀ (a : Nat × Bool) (h : xHp), CA (xPt t0) Mr (.ref y :: rs) a (bth h x y B' o' M) = some (.inl (some v), a, bth h x y B' o' M', 0, 0)) ∧ M'.2.2.2.2.1 = k ∧ V v H' k
def VI (z : Nat) (v : Value) (H : xHp) (k : Int32) : Prop := ∃ u : Int32, v = .int u ∧ (k = nI 0 → ∃ f : Nat → Int64, H z = .inl (3, 1, .inr (.inl f)) ∧ f 0 = u.toInt64)
def VB (z : Nat) (v : Value) (H : xHp) (k : Int32) : Prop := ∃ u : Int32, v = .int u ∧ (k = nI 0 → ∃ f : Nat → Int64, H z = .inl (3, 1, .inr (.inl f)) ∧ f 0 = if u = nI 0 then 0 else 1)
def VD (w : Nat) (v : Value) (H : xHp) (k : Int32) : Prop := ∃ u : UInt64, v = .double u ∧ u &&& 0x7fffffffffffffff ≤ 0x7ff0000000000000 ∧ (k = nI 0 → ∃ g : Nat → UInt64, H w = .inl (4, 1, .inr (.inr (.inr (.inl g)))) ∧ g 0 = u)
def VF (w : Nat) (v : Value) (H : xHp) (k : Int32) : Prop := ∃ u : UInt32, v = .float u ∧ FP.f2d u &&& 0x7fffffffffffffff ≤ 0x7ff0000000000000 ∧ (k = nI 0 → ∃ g : Nat → UInt64, H w = .inl (4, 1, .inr (.inr (.inr (.inl g)))) ∧ g 0 = FP.f2d u)
/-- one round of the loop -/
def Lst (t0 x y z w s LL : Nat) (xs : Nat → Int32) (L i : Nat) (H : xHp) (B : Bx) (o : Off) (M : Md) (pc : Nat) : Prop := ∀ (a : Nat × Bool) (c n : Nat) (a6 a7 a8 : Option Value), ∃ (B' : Bx) (o' : Off) (M' : Md) (H' : xHp) (a' : Nat × Bool) (cc nn : Nat) (b6 b7 b8 : Option Value), Inv (L + 1) B' o' M' ∧ Bse t0 z w s LL xs H' ∧ cc ≤ 1 ∧ nn ≤ 6 ∧ XR (xPt t0) 237 pc [some (.ref s), some (.ref x), some (.ref y), some (.ref z), some (.ref w), some (.int (nI i)), a6, a7, a8] [] (a, bth H x y B o M, c, n) = XR (xPt t0) 237 2218 [some (.ref s), some (.ref x), some (.ref y), some (.ref z), some (.ref w), some (.int (nI i)), b6, b7, b8] [] (a', bth H' x y B' o' M', c + cc, n + nn)
theorem lg_self (u : Int64) : lg_cmp u u = nI 0 := by
  unfold lg_cmp
  rw [if_neg (fun q => by have := Int64.lt_iff_toInt_lt.mp q; omega), if_pos rfl]
  rfl
theorem updL_0 {f : Nat → Int64} {v : Int64} : vp_updL f 0 v 0 = v := by simp [vp_updL]
theorem updD_0 {f : Nat → UInt64} {v : UInt64} : vf_upd f 0 v 0 = v := by simp [vf_upd]
theorem dz0 {u : UInt64} (h : u &&& 0x7fffffffffffffff ≤ 0x7ff0000000000000) : Op.cmpValue (FP.dcmp u u) .l = nI 0 := by
  have q : FP.Core.val64 u ≠ .nan := by
    rw [FP.Core.ne_nan]
    rw [UInt64.le_iff_toNat_le, UInt64.toNat_and] at h
    have e : (0x7fffffffffffffff : UInt64).toNat = 2 ^ 63 - 1 := by decide +kernel
    have e2 : (0x7ff0000000000000 : UInt64).toNat = 2047 * 2 ^ 52 := by decide +kernel
    rw [e, e2, Nat.and_two_pow_sub_one_eq_mod] at h
    omega
  rw [show FP.dcmp u u = some .eq from FP.Core.dcmp_self q]
  rfl
theorem xiD_7 {t0 M pc : Nat} {L : xL} {st : List Value} {a : Nat × Bool} {h : xHp} {c z : Nat} {i n : Nat} {f : Nat → Int32} (h1 : i < n) (hn : n ≤ 1000000) : xiD xkI t0 M pc L st (nI i) a h c z (.inl (7, n, .inl f)) = XR (xPt t0) M pc L (.int (f i) :: st) (a, h, c, z) := by
  show xia xkI (.inl (7, n, .inl f)) (nI i) (fun x => XR (xPt t0) M pc L (.int x :: st) (a, h, c, z)) = _
  unfold xia
  dsimp only
  rw [if_pos ⟨rfl, in_nI h1 hn⟩, nI_clamp (by omega)]
theorem xnD_7 {t0 M pc : Nat} {L : xL} {st : List Value} {a : Nat × Bool} {h : xHp} {c z n : Nat} {b : (Nat → Int32) ⊕ (Nat → Int64) ⊕ (Nat → UInt32) ⊕ (Nat → UInt64) ⊕ (Nat → Option Nat)} : xnD t0 M pc L st a h c z (.inl (7, n, b)) = XR (xPt t0) M pc L (.int (nI n) :: st) (a, h, c, z) := by
  show xlen9 (.inl (7, n, b)) (fun x => XR (xPt t0) M pc L (.int x :: st) (a, h, c, z)) = _
  unfold xlen9
  dsimp only
  rw [if_pos (Or.inr rfl)]
  rfl
theorem mask31 (v : Int32) : ∃ k, k < 32 ∧ v &&& nI 31 = nI k := by
  refine ⟨v.toBitVec.toNat % 32, Nat.mod_lt _ (by decide), ?_⟩
  apply Int32.toBitVec_inj.mp
  apply BitVec.eq_of_toNat_eq
  rw [Int32.toBitVec_and, BitVec.toNat_and]
  show v.toBitVec.toNat &&& (2 ^ 5 - 1) = (BitVec.ofNat 32 (v.toBitVec.toNat % 32)).toNat
  rw [Nat.and_two_pow_sub_one_eq_mod, BitVec.toNat_ofNat, Nat.mod_eq_of_lt (a := v.toBitVec.toNat % 32) (by have := v.toBitVec.isLt; omega)]
theorem chr_nI (v : Int32) : ∃ q, q < 65536 ∧ (v.toUInt32 % 65536).toInt32 = nI q := by
  refine ⟨(v.toUInt32 % 65536).toNat, ?_, ?_⟩
  · rw [UInt32.toNat_mod]
    exact Nat.mod_lt _ (by decide)
  · generalize v.toUInt32 % 65536 = u
    apply Int32.toBitVec_inj.mp
    apply BitVec.eq_of_toNat_eq
    show u.toNat = (BitVec.ofNat 32 u.toNat).toNat
    rw [BitVec.toNat_ofNat, Nat.mod_eq_of_lt u.toNat_lt]
theorem cmp7 {LL i : Nat} (hL : LL ≤ 1000000) (hi : i ≤ 1000000) : (nI LL - nI 7 < nI i) = (LL < i + 7) := by
  rw [Int32.lt_iff_toInt_lt, Int32.toInt_sub, nI_toInt (by omega), nI_toInt (by omega), nI_toInt (by omega)]
  have e : ((LL : Int) - (7 : Nat)).bmod (2 ^ 32) = (LL : Int) - (7 : Nat) := Int.bmod_eq_of_le (by omega) (by omega)
  rw [e]
  exact propext ⟨fun _ => by omega, fun _ => by omega⟩
/-- the log's length is the reference's count -/
theorem inv_lg {bf : Nat → Int32} {bn nw ub : Nat} {le lr hs : Int32} {lg sl : Tab} {rp sv : Off} {ps : Nat → Off} {mf mg mv mi : Nat → Int32} {th re iz ea mr mc br bc : Int32} {pm ty : Nat} (h : Inv L (bf, bn, le, lr, nw, ub, hs, lg, sl, rp, sv, ps) o (mf, mg, mv, mi, th, re, pm, iz, ty, ea, mr, mc, br, bc)) : nI lg.1 = mf 32 := by
  obtain ⟨h1, h2, h3, h4, h5, h6, h7, h8, h9, A, ⟨s1, s2, s3⟩, a2, a3, a4, a5⟩ := h
  have q := s1 _ (Nat.le_refl _)
  rw [a4]
  generalize A lg.1 = g at q
  obtain ⟨f, N, kf, pf, R, C, n, mh, m, m4, D⟩ := g
  exact q.2.2.2.2.1.1.symm
end LOOP
