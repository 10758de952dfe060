/-! helpers for walks: fields, arrays, loops -/
theorem xgf0 {ci : Nat} {v0 : Value} {l : List Value} {K : Value → Option (xO × xH)} : xgf (.inr (ci, v0 :: l)) ci 0 K = K v0 := by simp [xgf]
theorem xpf0 {ci : Nat} {v0 w : Value} {l : List Value} {K : xE → Option (xO × xH)} : xpf (.inr (ci, v0 :: l)) ci 0 w K = K (.inr (ci, w :: l)) := by simp [xpf]
theorem xgf1 {ci : Nat} {v0 v1 : Value} {l : List Value} {K : Value → Option (xO × xH)} : xgf (.inr (ci, v0 :: v1 :: l)) ci 1 K = K v1 := by simp [xgf]
theorem xpf1 {ci : Nat} {v0 v1 w : Value} {l : List Value} {K : xE → Option (xO × xH)} : xpf (.inr (ci, v0 :: v1 :: l)) ci 1 w K = K (.inr (ci, v0 :: w :: l)) := by simp [xpf]
theorem xgf2 {ci : Nat} {v0 v1 v2 : Value} {l : List Value} {K : Value → Option (xO × xH)} : xgf (.inr (ci, v0 :: v1 :: v2 :: l)) ci 2 K = K v2 := by simp [xgf]
theorem xpf2 {ci : Nat} {v0 v1 v2 w : Value} {l : List Value} {K : xE → Option (xO × xH)} : xpf (.inr (ci, v0 :: v1 :: v2 :: l)) ci 2 w K = K (.inr (ci, v0 :: v1 :: w :: l)) := by simp [xpf]
theorem xgf3 {ci : Nat} {v0 v1 v2 v3 : Value} {l : List Value} {K : Value → Option (xO × xH)} : xgf (.inr (ci, v0 :: v1 :: v2 :: v3 :: l)) ci 3 K = K v3 := by simp [xgf]
theorem xpf3 {ci : Nat} {v0 v1 v2 v3 w : Value} {l : List Value} {K : xE → Option (xO × xH)} : xpf (.inr (ci, v0 :: v1 :: v2 :: v3 :: l)) ci 3 w K = K (.inr (ci, v0 :: v1 :: v2 :: w :: l)) := by simp [xpf]
theorem xgf4 {ci : Nat} {v0 v1 v2 v3 v4 : Value} {l : List Value} {K : Value → Option (xO × xH)} : xgf (.inr (ci, v0 :: v1 :: v2 :: v3 :: v4 :: l)) ci 4 K = K v4 := by simp [xgf]
theorem xpf4 {ci : Nat} {v0 v1 v2 v3 v4 w : Value} {l : List Value} {K : xE → Option (xO × xH)} : xpf (.inr (ci, v0 :: v1 :: v2 :: v3 :: v4 :: l)) ci 4 w K = K (.inr (ci, v0 :: v1 :: v2 :: v3 :: w :: l)) := by simp [xpf]
theorem xgf5 {ci : Nat} {v0 v1 v2 v3 v4 v5 : Value} {l : List Value} {K : Value → Option (xO × xH)} : xgf (.inr (ci, v0 :: v1 :: v2 :: v3 :: v4 :: v5 :: l)) ci 5 K = K v5 := by simp [xgf]
theorem xpf5 {ci : Nat} {v0 v1 v2 v3 v4 v5 w : Value} {l : List Value} {K : xE → Option (xO × xH)} : xpf (.inr (ci, v0 :: v1 :: v2 :: v3 :: v4 :: v5 :: l)) ci 5 w K = K (.inr (ci, v0 :: v1 :: v2 :: v3 :: v4 :: w :: l)) := by simp [xpf]
theorem xgf6 {ci : Nat} {v0 v1 v2 v3 v4 v5 v6 : Value} {l : List Value} {K : Value → Option (xO × xH)} : xgf (.inr (ci, v0 :: v1 :: v2 :: v3 :: v4 :: v5 :: v6 :: l)) ci 6 K = K v6 := by simp [xgf]
theorem xpf6 {ci : Nat} {v0 v1 v2 v3 v4 v5 v6 w : Value} {l : List Value} {K : xE → Option (xO × xH)} : xpf (.inr (ci, v0 :: v1 :: v2 :: v3 :: v4 :: v5 :: v6 :: l)) ci 6 w K = K (.inr (ci, v0 :: v1 :: v2 :: v3 :: v4 :: v5 :: w :: l)) := by simp [xpf]
theorem xgf7 {ci : Nat} {v0 v1 v2 v3 v4 v5 v6 v7 : Value} {l : List Value} {K : Value → Option (xO × xH)} : xgf (.inr (ci, v0 :: v1 :: v2 :: v3 :: v4 :: v5 :: v6 :: v7 :: l)) ci 7 K = K v7 := by simp [xgf]
theorem xpf7 {ci : Nat} {v0 v1 v2 v3 v4 v5 v6 v7 w : Value} {l : List Value} {K : xE → Option (xO × xH)} : xpf (.inr (ci, v0 :: v1 :: v2 :: v3 :: v4 :: v5 :: v6 :: v7 :: l)) ci 7 w K = K (.inr (ci, v0 :: v1 :: v2 :: v3 :: v4 :: v5 :: v6 :: w :: l)) := by simp [xpf]
theorem xgf8 {ci : Nat} {v0 v1 v2 v3 v4 v5 v6 v7 v8 : Value} {l : List Value} {K : Value → Option (xO × xH)} : xgf (.inr (ci, v0 :: v1 :: v2 :: v3 :: v4 :: v5 :: v6 :: v7 :: v8 :: l)) ci 8 K = K v8 := by simp [xgf]
theorem xpf8 {ci : Nat} {v0 v1 v2 v3 v4 v5 v6 v7 v8 w : Value} {l : List Value} {K : xE → Option (xO × xH)} : xpf (.inr (ci, v0 :: v1 :: v2 :: v3 :: v4 :: v5 :: v6 :: v7 :: v8 :: l)) ci 8 w K = K (.inr (ci, v0 :: v1 :: v2 :: v3 :: v4 :: v5 :: v6 :: v7 :: w :: l)) := by simp [xpf]
theorem xgf9 {ci : Nat} {v0 v1 v2 v3 v4 v5 v6 v7 v8 v9 : Value} {l : List Value} {K : Value → Option (xO × xH)} : xgf (.inr (ci, v0 :: v1 :: v2 :: v3 :: v4 :: v5 :: v6 :: v7 :: v8 :: v9 :: l)) ci 9 K = K v9 := by simp [xgf]
theorem xpf9 {ci : Nat} {v0 v1 v2 v3 v4 v5 v6 v7 v8 v9 w : Value} {l : List Value} {K : xE → Option (xO × xH)} : xpf (.inr (ci, v0 :: v1 :: v2 :: v3 :: v4 :: v5 :: v6 :: v7 :: v8 :: v9 :: l)) ci 9 w K = K (.inr (ci, v0 :: v1 :: v2 :: v3 :: v4 :: v5 :: v6 :: v7 :: v8 :: w :: l)) := by simp [xpf]
theorem xgf10 {ci : Nat} {v0 v1 v2 v3 v4 v5 v6 v7 v8 v9 v10 : Value} {l : List Value} {K : Value → Option (xO × xH)} : xgf (.inr (ci, v0 :: v1 :: v2 :: v3 :: v4 :: v5 :: v6 :: v7 :: v8 :: v9 :: v10 :: l)) ci 10 K = K v10 := by simp [xgf]
theorem xpf10 {ci : Nat} {v0 v1 v2 v3 v4 v5 v6 v7 v8 v9 v10 w : Value} {l : List Value} {K : xE → Option (xO × xH)} : xpf (.inr (ci, v0 :: v1 :: v2 :: v3 :: v4 :: v5 :: v6 :: v7 :: v8 :: v9 :: v10 :: l)) ci 10 w K = K (.inr (ci, v0 :: v1 :: v2 :: v3 :: v4 :: v5 :: v6 :: v7 :: v8 :: v9 :: w :: l)) := by simp [xpf]
theorem xgf11 {ci : Nat} {v0 v1 v2 v3 v4 v5 v6 v7 v8 v9 v10 v11 : Value} {l : List Value} {K : Value → Option (xO × xH)} : xgf (.inr (ci, v0 :: v1 :: v2 :: v3 :: v4 :: v5 :: v6 :: v7 :: v8 :: v9 :: v10 :: v11 :: l)) ci 11 K = K v11 := by simp [xgf]
theorem xpf11 {ci : Nat} {v0 v1 v2 v3 v4 v5 v6 v7 v8 v9 v10 v11 w : Value} {l : List Value} {K : xE → Option (xO × xH)} : xpf (.inr (ci, v0 :: v1 :: v2 :: v3 :: v4 :: v5 :: v6 :: v7 :: v8 :: v9 :: v10 :: v11 :: l)) ci 11 w K = K (.inr (ci, v0 :: v1 :: v2 :: v3 :: v4 :: v5 :: v6 :: v7 :: v8 :: v9 :: v10 :: w :: l)) := by simp [xpf]
theorem xgf12 {ci : Nat} {v0 v1 v2 v3 v4 v5 v6 v7 v8 v9 v10 v11 v12 : Value} {l : List Value} {K : Value → Option (xO × xH)} : xgf (.inr (ci, v0 :: v1 :: v2 :: v3 :: v4 :: v5 :: v6 :: v7 :: v8 :: v9 :: v10 :: v11 :: v12 :: l)) ci 12 K = K v12 := by simp [xgf]
theorem xpf12 {ci : Nat} {v0 v1 v2 v3 v4 v5 v6 v7 v8 v9 v10 v11 v12 w : Value} {l : List Value} {K : xE → Option (xO × xH)} : xpf (.inr (ci, v0 :: v1 :: v2 :: v3 :: v4 :: v5 :: v6 :: v7 :: v8 :: v9 :: v10 :: v11 :: v12 :: l)) ci 12 w K = K (.inr (ci, v0 :: v1 :: v2 :: v3 :: v4 :: v5 :: v6 :: v7 :: v8 :: v9 :: v10 :: v11 :: w :: l)) := by simp [xpf]
theorem xgf13 {ci : Nat} {v0 v1 v2 v3 v4 v5 v6 v7 v8 v9 v10 v11 v12 v13 : Value} {l : List Value} {K : Value → Option (xO × xH)} : xgf (.inr (ci, v0 :: v1 :: v2 :: v3 :: v4 :: v5 :: v6 :: v7 :: v8 :: v9 :: v10 :: v11 :: v12 :: v13 :: l)) ci 13 K = K v13 := by simp [xgf]
theorem xpf13 {ci : Nat} {v0 v1 v2 v3 v4 v5 v6 v7 v8 v9 v10 v11 v12 v13 w : Value} {l : List Value} {K : xE → Option (xO × xH)} : xpf (.inr (ci, v0 :: v1 :: v2 :: v3 :: v4 :: v5 :: v6 :: v7 :: v8 :: v9 :: v10 :: v11 :: v12 :: v13 :: l)) ci 13 w K = K (.inr (ci, v0 :: v1 :: v2 :: v3 :: v4 :: v5 :: v6 :: v7 :: v8 :: v9 :: v10 :: v11 :: v12 :: w :: l)) := by simp [xpf]
theorem xcv_ok {k : Nat} {l : List Value} {K : Option (xO × xH)} : xcv (.inr (k, l)) k K = K := by simp [xcv]
theorem k1i {x : Int32} : k1 (some (.int x)) = some (.int x) := rfl
theorem k1r {x : Nat} : k1 (some (.ref x)) = some (.ref x) := rfl
theorem k1n : k1 none = none := rfl
theorem k1k {a : Option Value} : k1 (k1 a) = k1 a := by
  cases a with
  | none => rfl
  | some v => cases v <;> rfl
theorem in_nI {i n : Nat} (h : i < n) (hn : n ≤ 1000000) : ¬ (nI i < 0 ∨ n ≤ (nI i).toNatClampNeg) := by
  rw [nI_clamp (by omega)]
  rintro (h1 | h1)
  · exact nI_pos (by omega) h1
  · omega
theorem xia_i {i n : Nat} {f : Nat → Int32} {K : Int32 → Option (xO × xH)} (h : i < n) (hn : n ≤ 1000000) : xia xkI (.inl (0, n, .inl f)) (nI i) K = K (f i) := by
  unfold xia
  dsimp only
  rw [if_pos ⟨rfl, in_nI h hn⟩, nI_clamp (by omega)]
theorem xia_k {k i n : Nat} {f : Nat → Int32} {K : Int32 → Option (xO × xH)} (h : i < n) (hn : n ≤ 1000000) : xia (xk k) (.inl (k, n, .inl f)) (nI i) K = K (f i) := by
  unfold xia
  dsimp only
  rw [if_pos ⟨by simp [xk], in_nI h hn⟩, nI_clamp (by omega)]
theorem xiw_i {k i n : Nat} {x : Int32} {f : Nat → Int32} {K : xE → Option (xO × xH)} (h : i < n) (hn : n ≤ 1000000) : xiw k (.inl (k, n, .inl f)) (nI i) x K = K (.inl (k, n, .inl (upd f i x))) := by
  unfold xiw
  dsimp only
  rw [if_pos ⟨rfl, in_nI h hn⟩, nI_clamp (by omega)]
theorem xla_i {i n : Nat} {f : Nat → Int64} {K : Int64 → Option (xO × xH)} (h : i < n) (hn : n ≤ 1000000) : xla (.inl (3, n, .inr (.inl f))) (nI i) K = K (f i) := by
  unfold xla
  dsimp only
  rw [if_pos ⟨rfl, in_nI h hn⟩, nI_clamp (by omega)]
theorem xlw_i {i n : Nat} {x : Int64} {f : Nat → Int64} {K : xE → Option (xO × xH)} (h : i < n) (hn : n ≤ 1000000) : xlw (.inl (3, n, .inr (.inl f))) (nI i) x K = K (.inl (3, n, .inr (.inl (vp_updL f i x)))) := by
  unfold xlw
  dsimp only
  rw [if_pos ⟨rfl, in_nI h hn⟩, nI_clamp (by omega)]
theorem xda_i {i n : Nat} {f : Nat → UInt64} {K : UInt64 → Option (xO × xH)} (h : i < n) (hn : n ≤ 1000000) : xda (.inl (4, n, .inr (.inr (.inr (.inl f))))) (nI i) K = K (f i) := by
  unfold xda
  dsimp only
  rw [if_pos ⟨rfl, in_nI h hn⟩, nI_clamp (by omega)]
theorem xdw_i {i n : Nat} {x : UInt64} {f : Nat → UInt64} {K : xE → Option (xO × xH)} (h : i < n) (hn : n ≤ 1000000) : xdw (.inl (4, n, .inr (.inr (.inr (.inl f))))) (nI i) x K = K (.inl (4, n, .inr (.inr (.inr (.inl (vf_upd f i x)))))) := by
  unfold xdw
  dsimp only
  rw [if_pos ⟨rfl, in_nI h hn⟩, nI_clamp (by omega)]
theorem xra_i {i n : Nat} {f : Nat → Option Nat} {K : Value → Option (xO × xH)} (h : i < n) (hn : n ≤ 1000000) : xra (.inl (5, n, .inr (.inr (.inr (.inr f))))) (nI i) K = K (va_rf (f i)) := by
  unfold xra
  dsimp only
  rw [if_pos ⟨rfl, in_nI h hn⟩, nI_clamp (by omega)]
theorem xlen_i {t n : Nat} {b : (Nat → Int32) ⊕ (Nat → Int64) ⊕ (Nat → UInt32) ⊕ (Nat → UInt64) ⊕ (Nat → Option Nat)} {K : Int32 → Option (xO × xH)} (h : t < 6) : xlen9 (.inl (t, n, b)) K = K (nI n) := by
  unfold xlen9
  dsimp only
  rw [if_pos (Or.inl h)]
  rfl
theorem xcp_i {t0 n0 n1 sp dp n : Nat} {f g : Nat → Int32} {K : xE → Option (xO × xH)} (ht : t0 = 0 ∨ t0 = 8) (h1 : sp + n ≤ n0) (h2 : dp + n ≤ n1) (b0 : n0 ≤ 1000000) (b1 : n1 ≤ 1000000) : xcp (.inl (t0, n0, .inl f)) (.inl (0, n1, .inl g)) (nI sp) (nI dp) (nI n) K = K (.inl (0, n1, .inl (va_cpy f g sp dp n))) := by
  have e1 : (nI sp).toNatClampNeg = sp := nI_clamp (by omega)
  have e2 : (nI dp).toNatClampNeg = dp := nI_clamp (by omega)
  have e3 : (nI n).toNatClampNeg = n := nI_clamp (by omega)
  unfold xcp
  dsimp only
  rw [e1, e2, e3, if_pos ⟨ht, rfl, nI_pos (by omega), nI_pos (by omega), nI_pos (by omega), h1, h2⟩]
theorem xgD0 {t0 M pc : Nat} {L : xL} {st : List Value} {ci : Nat} {a : Nat × Bool} {h : xHp} {c z : Nat} {v0 : Value} {l : List Value} : xgD t0 M pc L st ci 0 a h c z (.inr (ci, v0 :: l)) = XR (xPt t0) M pc L (v0 :: st) (a, h, c, z) := xgf0
theorem xpD0 {t0 M pc : Nat} {L : xL} {st : List Value} {ci r : Nat} {a : Nat × Bool} {h : xHp} {c z : Nat} {v0 w : Value} {l : List Value} : xpD t0 M pc L st ci 0 w r a h c z (.inr (ci, v0 :: l)) = XR (xPt t0) M pc L st (a, hset h r (.inr (ci, w :: l)), c, z) := xpf0
theorem xgD1 {t0 M pc : Nat} {L : xL} {st : List Value} {ci : Nat} {a : Nat × Bool} {h : xHp} {c z : Nat} {v0 v1 : Value} {l : List Value} : xgD t0 M pc L st ci 1 a h c z (.inr (ci, v0 :: v1 :: l)) = XR (xPt t0) M pc L (v1 :: st) (a, h, c, z) := xgf1
theorem xpD1 {t0 M pc : Nat} {L : xL} {st : List Value} {ci r : Nat} {a : Nat × Bool} {h : xHp} {c z : Nat} {v0 v1 w : Value} {l : List Value} : xpD t0 M pc L st ci 1 w r a h c z (.inr (ci, v0 :: v1 :: l)) = XR (xPt t0) M pc L st (a, hset h r (.inr (ci, v0 :: w :: l)), c, z) := xpf1
theorem xgD2 {t0 M pc : Nat} {L : xL} {st : List Value} {ci : Nat} {a : Nat × Bool} {h : xHp} {c z : Nat} {v0 v1 v2 : Value} {l : List Value} : xgD t0 M pc L st ci 2 a h c z (.inr (ci, v0 :: v1 :: v2 :: l)) = XR (xPt t0) M pc L (v2 :: st) (a, h, c, z) := xgf2
theorem xpD2 {t0 M pc : Nat} {L : xL} {st : List Value} {ci r : Nat} {a : Nat × Bool} {h : xHp} {c z : Nat} {v0 v1 v2 w : Value} {l : List Value} : xpD t0 M pc L st ci 2 w r a h c z (.inr (ci, v0 :: v1 :: v2 :: l)) = XR (xPt t0) M pc L st (a, hset h r (.inr (ci, v0 :: v1 :: w :: l)), c, z) := xpf2
theorem xgD3 {t0 M pc : Nat} {L : xL} {st : List Value} {ci : Nat} {a : Nat × Bool} {h : xHp} {c z : Nat} {v0 v1 v2 v3 : Value} {l : List Value} : xgD t0 M pc L st ci 3 a h c z (.inr (ci, v0 :: v1 :: v2 :: v3 :: l)) = XR (xPt t0) M pc L (v3 :: st) (a, h, c, z) := xgf3
theorem xpD3 {t0 M pc : Nat} {L : xL} {st : List Value} {ci r : Nat} {a : Nat × Bool} {h : xHp} {c z : Nat} {v0 v1 v2 v3 w : Value} {l : List Value} : xpD t0 M pc L st ci 3 w r a h c z (.inr (ci, v0 :: v1 :: v2 :: v3 :: l)) = XR (xPt t0) M pc L st (a, hset h r (.inr (ci, v0 :: v1 :: v2 :: w :: l)), c, z) := xpf3
theorem xgD4 {t0 M pc : Nat} {L : xL} {st : List Value} {ci : Nat} {a : Nat × Bool} {h : xHp} {c z : Nat} {v0 v1 v2 v3 v4 : Value} {l : List Value} : xgD t0 M pc L st ci 4 a h c z (.inr (ci, v0 :: v1 :: v2 :: v3 :: v4 :: l)) = XR (xPt t0) M pc L (v4 :: st) (a, h, c, z) := xgf4
theorem xpD4 {t0 M pc : Nat} {L : xL} {st : List Value} {ci r : Nat} {a : Nat × Bool} {h : xHp} {c z : Nat} {v0 v1 v2 v3 v4 w : Value} {l : List Value} : xpD t0 M pc L st ci 4 w r a h c z (.inr (ci, v0 :: v1 :: v2 :: v3 :: v4 :: l)) = XR (xPt t0) M pc L st (a, hset h r (.inr (ci, v0 :: v1 :: v2 :: v3 :: w :: l)), c, z) := xpf4
theorem xgD5 {t0 M pc : Nat} {L : xL} {st : List Value} {ci : Nat} {a : Nat × Bool} {h : xHp} {c z : Nat} {v0 v1 v2 v3 v4 v5 : Value} {l : List Value} : xgD t0 M pc L st ci 5 a h c z (.inr (ci, v0 :: v1 :: v2 :: v3 :: v4 :: v5 :: l)) = XR (xPt t0) M pc L (v5 :: st) (a, h, c, z) := xgf5
theorem xpD5 {t0 M pc : Nat} {L : xL} {st : List Value} {ci r : Nat} {a : Nat × Bool} {h : xHp} {c z : Nat} {v0 v1 v2 v3 v4 v5 w : Value} {l : List Value} : xpD t0 M pc L st ci 5 w r a h c z (.inr (ci, v0 :: v1 :: v2 :: v3 :: v4 :: v5 :: l)) = XR (xPt t0) M pc L st (a, hset h r (.inr (ci, v0 :: v1 :: v2 :: v3 :: v4 :: w :: l)), c, z) := xpf5
theorem xgD6 {t0 M pc : Nat} {L : xL} {st : List Value} {ci : Nat} {a : Nat × Bool} {h : xHp} {c z : Nat} {v0 v1 v2 v3 v4 v5 v6 : Value} {l : List Value} : xgD t0 M pc L st ci 6 a h c z (.inr (ci, v0 :: v1 :: v2 :: v3 :: v4 :: v5 :: v6 :: l)) = XR (xPt t0) M pc L (v6 :: st) (a, h, c, z) := xgf6
theorem xpD6 {t0 M pc : Nat} {L : xL} {st : List Value} {ci r : Nat} {a : Nat × Bool} {h : xHp} {c z : Nat} {v0 v1 v2 v3 v4 v5 v6 w : Value} {l : List Value} : xpD t0 M pc L st ci 6 w r a h c z (.inr (ci, v0 :: v1 :: v2 :: v3 :: v4 :: v5 :: v6 :: l)) = XR (xPt t0) M pc L st (a, hset h r (.inr (ci, v0 :: v1 :: v2 :: v3 :: v4 :: v5 :: w :: l)), c, z) := xpf6
theorem xgD7 {t0 M pc : Nat} {L : xL} {st : List Value} {ci : Nat} {a : Nat × Bool} {h : xHp} {c z : Nat} {v0 v1 v2 v3 v4 v5 v6 v7 : Value} {l : List Value} : xgD t0 M pc L st ci 7 a h c z (.inr (ci, v0 :: v1 :: v2 :: v3 :: v4 :: v5 :: v6 :: v7 :: l)) = XR (xPt t0) M pc L (v7 :: st) (a, h, c, z) := xgf7
theorem xpD7 {t0 M pc : Nat} {L : xL} {st : List Value} {ci r : Nat} {a : Nat × Bool} {h : xHp} {c z : Nat} {v0 v1 v2 v3 v4 v5 v6 v7 w : Value} {l : List Value} : xpD t0 M pc L st ci 7 w r a h c z (.inr (ci, v0 :: v1 :: v2 :: v3 :: v4 :: v5 :: v6 :: v7 :: l)) = XR (xPt t0) M pc L st (a, hset h r (.inr (ci, v0 :: v1 :: v2 :: v3 :: v4 :: v5 :: v6 :: w :: l)), c, z) := xpf7
theorem xgD8 {t0 M pc : Nat} {L : xL} {st : List Value} {ci : Nat} {a : Nat × Bool} {h : xHp} {c z : Nat} {v0 v1 v2 v3 v4 v5 v6 v7 v8 : Value} {l : List Value} : xgD t0 M pc L st ci 8 a h c z (.inr (ci, v0 :: v1 :: v2 :: v3 :: v4 :: v5 :: v6 :: v7 :: v8 :: l)) = XR (xPt t0) M pc L (v8 :: st) (a, h, c, z) := xgf8
theorem xpD8 {t0 M pc : Nat} {L : xL} {st : List Value} {ci r : Nat} {a : Nat × Bool} {h : xHp} {c z : Nat} {v0 v1 v2 v3 v4 v5 v6 v7 v8 w : Value} {l : List Value} : xpD t0 M pc L st ci 8 w r a h c z (.inr (ci, v0 :: v1 :: v2 :: v3 :: v4 :: v5 :: v6 :: v7 :: v8 :: l)) = XR (xPt t0) M pc L st (a, hset h r (.inr (ci, v0 :: v1 :: v2 :: v3 :: v4 :: v5 :: v6 :: v7 :: w :: l)), c, z) := xpf8
theorem xgD9 {t0 M pc : Nat} {L : xL} {st : List Value} {ci : Nat} {a : Nat × Bool} {h : xHp} {c z : Nat} {v0 v1 v2 v3 v4 v5 v6 v7 v8 v9 : Value} {l : List Value} : xgD t0 M pc L st ci 9 a h c z (.inr (ci, v0 :: v1 :: v2 :: v3 :: v4 :: v5 :: v6 :: v7 :: v8 :: v9 :: l)) = XR (xPt t0) M pc L (v9 :: st) (a, h, c, z) := xgf9
theorem xpD9 {t0 M pc : Nat} {L : xL} {st : List Value} {ci r : Nat} {a : Nat × Bool} {h : xHp} {c z : Nat} {v0 v1 v2 v3 v4 v5 v6 v7 v8 v9 w : Value} {l : List Value} : xpD t0 M pc L st ci 9 w r a h c z (.inr (ci, v0 :: v1 :: v2 :: v3 :: v4 :: v5 :: v6 :: v7 :: v8 :: v9 :: l)) = XR (xPt t0) M pc L st (a, hset h r (.inr (ci, v0 :: v1 :: v2 :: v3 :: v4 :: v5 :: v6 :: v7 :: v8 :: w :: l)), c, z) := xpf9
theorem xgD10 {t0 M pc : Nat} {L : xL} {st : List Value} {ci : Nat} {a : Nat × Bool} {h : xHp} {c z : Nat} {v0 v1 v2 v3 v4 v5 v6 v7 v8 v9 v10 : Value} {l : List Value} : xgD t0 M pc L st ci 10 a h c z (.inr (ci, v0 :: v1 :: v2 :: v3 :: v4 :: v5 :: v6 :: v7 :: v8 :: v9 :: v10 :: l)) = XR (xPt t0) M pc L (v10 :: st) (a, h, c, z) := xgf10
theorem xpD10 {t0 M pc : Nat} {L : xL} {st : List Value} {ci r : Nat} {a : Nat × Bool} {h : xHp} {c z : Nat} {v0 v1 v2 v3 v4 v5 v6 v7 v8 v9 v10 w : Value} {l : List Value} : xpD t0 M pc L st ci 10 w r a h c z (.inr (ci, v0 :: v1 :: v2 :: v3 :: v4 :: v5 :: v6 :: v7 :: v8 :: v9 :: v10 :: l)) = XR (xPt t0) M pc L st (a, hset h r (.inr (ci, v0 :: v1 :: v2 :: v3 :: v4 :: v5 :: v6 :: v7 :: v8 :: v9 :: w :: l)), c, z) := xpf10
theorem xgD11 {t0 M pc : Nat} {L : xL} {st : List Value} {ci : Nat} {a : Nat × Bool} {h : xHp} {c z : Nat} {v0 v1 v2 v3 v4 v5 v6 v7 v8 v9 v10 v11 : Value} {l : List Value} : xgD t0 M pc L st ci 11 a h c z (.inr (ci, v0 :: v1 :: v2 :: v3 :: v4 :: v5 :: v6 :: v7 :: v8 :: v9 :: v10 :: v11 :: l)) = XR (xPt t0) M pc L (v11 :: st) (a, h, c, z) := xgf11
theorem xpD11 {t0 M pc : Nat} {L : xL} {st : List Value} {ci r : Nat} {a : Nat × Bool} {h : xHp} {c z : Nat} {v0 v1 v2 v3 v4 v5 v6 v7 v8 v9 v10 v11 w : Value} {l : List Value} : xpD t0 M pc L st ci 11 w r a h c z (.inr (ci, v0 :: v1 :: v2 :: v3 :: v4 :: v5 :: v6 :: v7 :: v8 :: v9 :: v10 :: v11 :: l)) = XR (xPt t0) M pc L st (a, hset h r (.inr (ci, v0 :: v1 :: v2 :: v3 :: v4 :: v5 :: v6 :: v7 :: v8 :: v9 :: v10 :: w :: l)), c, z) := xpf11
theorem xgD12 {t0 M pc : Nat} {L : xL} {st : List Value} {ci : Nat} {a : Nat × Bool} {h : xHp} {c z : Nat} {v0 v1 v2 v3 v4 v5 v6 v7 v8 v9 v10 v11 v12 : Value} {l : List Value} : xgD t0 M pc L st ci 12 a h c z (.inr (ci, v0 :: v1 :: v2 :: v3 :: v4 :: v5 :: v6 :: v7 :: v8 :: v9 :: v10 :: v11 :: v12 :: l)) = XR (xPt t0) M pc L (v12 :: st) (a, h, c, z) := xgf12
theorem xpD12 {t0 M pc : Nat} {L : xL} {st : List Value} {ci r : Nat} {a : Nat × Bool} {h : xHp} {c z : Nat} {v0 v1 v2 v3 v4 v5 v6 v7 v8 v9 v10 v11 v12 w : Value} {l : List Value} : xpD t0 M pc L st ci 12 w r a h c z (.inr (ci, v0 :: v1 :: v2 :: v3 :: v4 :: v5 :: v6 :: v7 :: v8 :: v9 :: v10 :: v11 :: v12 :: l)) = XR (xPt t0) M pc L st (a, hset h r (.inr (ci, v0 :: v1 :: v2 :: v3 :: v4 :: v5 :: v6 :: v7 :: v8 :: v9 :: v10 :: v11 :: w :: l)), c, z) := xpf12
theorem xgD13 {t0 M pc : Nat} {L : xL} {st : List Value} {ci : Nat} {a : Nat × Bool} {h : xHp} {c z : Nat} {v0 v1 v2 v3 v4 v5 v6 v7 v8 v9 v10 v11 v12 v13 : Value} {l : List Value} : xgD t0 M pc L st ci 13 a h c z (.inr (ci, v0 :: v1 :: v2 :: v3 :: v4 :: v5 :: v6 :: v7 :: v8 :: v9 :: v10 :: v11 :: v12 :: v13 :: l)) = XR (xPt t0) M pc L (v13 :: st) (a, h, c, z) := xgf13
theorem xpD13 {t0 M pc : Nat} {L : xL} {st : List Value} {ci r : Nat} {a : Nat × Bool} {h : xHp} {c z : Nat} {v0 v1 v2 v3 v4 v5 v6 v7 v8 v9 v10 v11 v12 v13 w : Value} {l : List Value} : xpD t0 M pc L st ci 13 w r a h c z (.inr (ci, v0 :: v1 :: v2 :: v3 :: v4 :: v5 :: v6 :: v7 :: v8 :: v9 :: v10 :: v11 :: v12 :: v13 :: l)) = XR (xPt t0) M pc L st (a, hset h r (.inr (ci, v0 :: v1 :: v2 :: v3 :: v4 :: v5 :: v6 :: v7 :: v8 :: v9 :: v10 :: v11 :: v12 :: w :: l)), c, z) := xpf13
theorem xiD_i {t0 M pc : Nat} {L : xL} {st : List Value} {a : Nat × Bool} {h : xHp} {c z : Nat} {i n : Nat} {f : Nat → Int32} (h1 : i < n) (hn : n ≤ 1000000) : xiD xkI t0 M pc L st (nI i) a h c z (.inl (0, n, .inl f)) = XR (xPt t0) M pc L (.int (f i) :: st) (a, h, c, z) := xia_i h1 hn
theorem xiD_k {t0 M pc : Nat} {L : xL} {st : List Value} {a : Nat × Bool} {h : xHp} {c z : Nat} {k i n : Nat} {f : Nat → Int32} (h1 : i < n) (hn : n ≤ 1000000) : xiD (xk k) t0 M pc L st (nI i) a h c z (.inl (k, n, .inl f)) = XR (xPt t0) M pc L (.int (f i) :: st) (a, h, c, z) := xia_k h1 hn
theorem xlD_i {t0 M pc : Nat} {L : xL} {st : List Value} {a : Nat × Bool} {h : xHp} {c z : Nat} {i n : Nat} {f : Nat → Int64} (h1 : i < n) (hn : n ≤ 1000000) : xlD t0 M pc L st (nI i) a h c z (.inl (3, n, .inr (.inl f))) = XR (xPt t0) M pc L (.long (f i) :: st) (a, h, c, z) := xla_i h1 hn
theorem xdD_i {t0 M pc : Nat} {L : xL} {st : List Value} {a : Nat × Bool} {h : xHp} {c z : Nat} {i n : Nat} {f : Nat → UInt64} (h1 : i < n) (hn : n ≤ 1000000) : xdD t0 M pc L st (nI i) a h c z (.inl (4, n, .inr (.inr (.inr (.inl f))))) = XR (xPt t0) M pc L (.double (f i) :: st) (a, h, c, z) := xda_i h1 hn
theorem xrD_i {t0 M pc : Nat} {L : xL} {st : List Value} {a : Nat × Bool} {h : xHp} {c z : Nat} {i n : Nat} {f : Nat → Option Nat} (h1 : i < n) (hn : n ≤ 1000000) : xrD t0 M pc L st (nI i) a h c z (.inl (5, n, .inr (.inr (.inr (.inr f))))) = XR (xPt t0) M pc L (va_rf (f i) :: st) (a, h, c, z) := xra_i h1 hn
theorem xnD_i {t0 M pc : Nat} {L : xL} {st : List Value} {a : Nat × Bool} {h : xHp} {c z : Nat} {t n : Nat} {b : (Nat → Int32) ⊕ (Nat → Int64) ⊕ (Nat → UInt32) ⊕ (Nat → UInt64) ⊕ (Nat → Option Nat)} (h1 : t < 6) : xnD t0 M pc L st a h c z (.inl (t, n, b)) = XR (xPt t0) M pc L (.int (nI n) :: st) (a, h, c, z) := xlen_i h1
theorem xwD_i {t0 M pc : Nat} {L : xL} {st : List Value} {a : Nat × Bool} {h : xHp} {c z : Nat} {k i n r : Nat} {x : Int32} {f : Nat → Int32} (h1 : i < n) (hn : n ≤ 1000000) : xwD k t0 M pc L st (nI i) x r a h c z (.inl (k, n, .inl f)) = XR (xPt t0) M pc L st (a, hset h r (.inl (k, n, .inl (upd f i x))), c, z) := xiw_i h1 hn
theorem xlwD_i {t0 M pc : Nat} {L : xL} {st : List Value} {a : Nat × Bool} {h : xHp} {c z : Nat} {i n r : Nat} {x : Int64} {f : Nat → Int64} (h1 : i < n) (hn : n ≤ 1000000) : xlwD t0 M pc L st (nI i) x r a h c z (.inl (3, n, .inr (.inl f))) = XR (xPt t0) M pc L st (a, hset h r (.inl (3, n, .inr (.inl (vp_updL f i x)))), c, z) := xlw_i h1 hn
theorem xdwD_i {t0 M pc : Nat} {L : xL} {st : List Value} {a : Nat × Bool} {h : xHp} {c z : Nat} {i n r : Nat} {x : UInt64} {f : Nat → UInt64} (h1 : i < n) (hn : n ≤ 1000000) : xdwD t0 M pc L st (nI i) x r a h c z (.inl (4, n, .inr (.inr (.inr (.inl f))))) = XR (xPt t0) M pc L st (a, hset h r (.inl (4, n, .inr (.inr (.inr (.inl (vf_upd f i x)))))), c, z) := xdw_i h1 hn
theorem xcD_i {t0 M pc : Nat} {L : xL} {st : List Value} {a : Nat × Bool} {h : xHp} {c z : Nat} {k0 n0 n1 sp dp n r : Nat} {f g : Nat → Int32} (ht : k0 = 0 ∨ k0 = 8) (h1 : sp + n ≤ n0) (h2 : dp + n ≤ n1) (b0 : n0 ≤ 1000000) (b1 : n1 ≤ 1000000) : xcD t0 M pc L st (nI sp) (nI dp) (nI n) r a h c z (.inl (k0, n0, .inl f)) (.inl (0, n1, .inl g)) = XR (xPt t0) M pc L st (a, hset h r (.inl (0, n1, .inl (va_cpy f g sp dp n))), c, z) := xcp_i ht h1 h2 b0 b1
/-- a loop's outcome, turn by turn -/
def fo {σ : Type} (g : Nat → σ → σ) : Nat → σ → σ
  | 0, s => s
  | n + 1, s => g n (fo g n s)
theorem fo_loop {σ α : Type} (F : Nat → σ → α) (g : Nat → σ → σ) (n : Nat) (s : σ) (h : ∀ i s, i < n → F i s = F (i + 1) (g i s)) : F 0 s = F n (fo g n s) := by
  have key : ∀ k, k ≤ n → F 0 s = F k (fo g k s) := by
    intro k
    induction k with
    | zero => intro _; rfl
    | succ k ih =>
      intro hk
      rw [ih (by omega), h k _ (by omega)]
      rfl
  exact key n (Nat.le_refl n)
/-- a loop that may leave early -/
theorem fo_find {σ α : Type} (F : Nat → σ → α) (p : Nat → Bool) (X : Nat → α) (n : Nat) (s : σ) (h : ∀ i, i < n → F i s = if p i = true then X i else F (i + 1) s) : F 0 s = match (List.range n).find? p with
    | some i => X i
    | none => F n s := by
  have key : ∀ k, k ≤ n → F (n - k) s = match (List.range' (n - k) k).find? p with
      | some i => X i
      | none => F n s := by
    intro k
    induction k with
    | zero => intro _; rfl
    | succ k ih =>
      intro hk
      rw [h (n - (k + 1)) (by omega)]
      rw [List.range'_succ, List.find?_cons]
      have e : n - (k + 1) + 1 = n - k := by omega
      rw [e]
      cases hp : p (n - (k + 1)) with
      | true => simp
      | false => simpa using ih (by omega)
  have h1 := key n (Nat.le_refl n)
  rw [Nat.sub_self] at h1
  rw [h1, List.range_eq_range']
theorem nI_lit {n : Nat} : (OfNat.ofNat n : Int32) = nI n := rfl
theorem nI_lt0 {n : Nat} (h : n < 2 ^ 31) : (nI n < 0) = False := eq_false (nI_pos h)
theorem nI_le_eq {a b : Nat} (ha : a < 2 ^ 31) (hb : b < 2 ^ 31) : (nI a ≤ nI b) = (a ≤ b) := propext (nI_leI ha hb)
theorem nI_lt_eq {a b : Nat} (ha : a < 2 ^ 31) (hb : b < 2 ^ 31) : (nI a < nI b) = (a < b) := propext (nI_ltI ha hb)
theorem nI_eq_eq {a b : Nat} (ha : a < 2 ^ 31) (hb : b < 2 ^ 31) : (nI a = nI b) = (a = b) := propext (nI_eq ha hb)

theorem nle_T {a b : Nat} (h : a ≤ b) : (a ≤ b) = True := eq_true h
theorem nle_F {a b : Nat} (h : b < a) : (a ≤ b) = False := eq_false (Nat.not_le.mpr h)
theorem nlt_T {a b : Nat} (h : a < b) : (a < b) = True := eq_true h
theorem nlt_F {a b : Nat} (h : b ≤ a) : (a < b) = False := eq_false (Nat.not_lt.mpr h)
theorem neq_T {a b : Nat} (h : a = b) : (a = b) = True := eq_true h
theorem neq_F {a b : Nat} (h : a ≠ b) : (a = b) = False := eq_false h
theorem nI_sub {a b : Nat} (h : b ≤ a) : nI a - nI b = nI (a - b) := pk_sub h
theorem nI_div {a b : Nat} (ha : a < 2 ^ 31) (h0 : 0 < b) (hb : b < 2 ^ 31) : nI a / nI b = nI (a / b) := pk_div ha h0 hb
/-- a loop with a local of no account -/
theorem lp {σ τ α : Type} (F : Nat → σ → τ → α) (g : Nat → σ → σ) (n : Nat) (s : σ) (t : τ) (h : ∀ i t, i < n → ∃ t', F i (fo g i s) t = F (i + 1) (g i (fo g i s)) t') : ∃ t', F 0 s t = F n (fo g n s) t' := by
  have key : ∀ k, k ≤ n → ∃ t', F 0 s t = F k (fo g k s) t' := by
    intro k
    induction k with
    | zero => intro _; exact ⟨t, rfl⟩
    | succ k ih =>
      intro hk
      obtain ⟨t1, h1⟩ := ih (by omega)
      obtain ⟨t2, h2⟩ := h k t1 (by omega)
      exact ⟨t2, h1.trans h2⟩
  exact key n (Nat.le_refl n)
/-- the same, nothing of no account -/
theorem lp0 {σ α : Type} (F : Nat → σ → α) (g : Nat → σ → σ) (n : Nat) (s : σ) (h : ∀ i, i < n → F i (fo g i s) = F (i + 1) (g i (fo g i s))) : F 0 s = F n (fo g n s) := by
  have key : ∀ k, k ≤ n → F 0 s = F k (fo g k s) := by
    intro k
    induction k with
    | zero => intro _; rfl
    | succ k ih => intro hk; exact (ih (by omega)).trans (h k (by omega))
  exact key n (Nat.le_refl n)
/-- a loop that may end early, with a state -/
def foE {σ ρ : Type} (g : Nat → σ → σ ⊕ ρ) : Nat → σ → σ ⊕ ρ
  | 0, s => .inl s
  | n + 1, s => match foE g n s with
    | .inl s' => g n s'
    | .inr r => .inr r
theorem lpE {σ τ ρ α : Type} (F : Nat → σ → τ → α) (X : ρ → α) (g : Nat → σ → σ ⊕ ρ) (n : Nat) (s : σ) (t : τ) (h : ∀ i s' t, i < n → foE g i s = .inl s' → ∃ t', F i s' t = match g i s' with
    | .inl s2 => F (i + 1) s2 t'
    | .inr r => X r) : ∃ t', F 0 s t = match foE g n s with
    | .inl s' => F n s' t'
    | .inr r => X r := by
  have key : ∀ k, k ≤ n → ∃ t', F 0 s t = match foE g k s with
      | .inl s' => F k s' t'
      | .inr r => X r := by
    intro k
    induction k with
    | zero => intro _; exact ⟨t, rfl⟩
    | succ k ih =>
      intro hk
      obtain ⟨t1, h1⟩ := ih (by omega)
      cases hf : foE g k s with
      | inr r =>
        rw [hf] at h1
        refine ⟨t1, ?_⟩
        unfold foE
        rw [hf]
        exact h1
      | inl s' =>
        rw [hf] at h1
        obtain ⟨t2, h2⟩ := h k s' t1 (by omega) hf
        refine ⟨t2, h1.trans (h2.trans ?_)⟩
        show _ = match foE g (k + 1) s with
          | .inl s' => F (k + 1) s' t2
          | .inr r => X r
        have : foE g (k + 1) s = g k s' := by
          show (match foE g k s with
            | .inl s' => g k s'
            | .inr r => .inr r) = _
          rw [hf]
        rw [this]
  exact key n (Nat.le_refl n)
theorem fo_add {σ : Type} (g : Nat → σ → σ) (a b : Nat) (s : σ) : fo g (a + b) s = fo (fun j => g (a + j)) b (fo g a s) := by
  induction b with
  | zero => rfl
  | succ b ih =>
    show g (a + b) (fo g (a + b) s) = g (a + b) (fo (fun j => g (a + j)) b (fo g a s))
    rw [ih]
/-- rows of columns, one by one -/
theorem fo_two {σ : Type} (g : Nat → σ → σ) (m n : Nat) (s : σ) : fo (fun i s => fo (fun j => g (i * m + j)) m s) n s = fo g (n * m) s := by
  induction n with
  | zero => simp only [Nat.zero_mul]; rfl
  | succ n ih =>
    rw [Nat.succ_mul, fo_add g (n * m) m, ← ih]
    rfl
theorem fo_congr {σ : Type} {g g' : Nat → σ → σ} {n : Nat} (s : σ) (h : ∀ i t, i < n → g i t = g' i t) : fo g n s = fo g' n s := by
  induction n with
  | zero => rfl
  | succ n ih =>
    show g n (fo g n s) = g' n (fo g' n s)
    rw [ih (fun i t hi => h i t (by omega)), h n _ (by omega)]
theorem bz0 : nI 0 = 0 ∨ nI 0 = 1 := Or.inl rfl
theorem bz1 : nI 1 = 0 ∨ nI 1 = 1 := Or.inr rfl
theorem bzi {c : Prop} {d : Decidable c} : (if c then nI 1 else nI 0) = 0 ∨ (if c then nI 1 else nI 0) = 1 := by
  by_cases h : c
  · rw [if_pos h]; exact bz1
  · rw [if_neg h]; exact bz0
