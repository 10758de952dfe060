/-! reads, writes and makings, by the kit's rows -/
section XR
variable {P : xP} {Y : Nat → MethodName} {R : Nat → String} {T : Nat → u_T} {N : Nat → Nat} {ty : Nat → Nat → FieldType} {cl : List vw_C} {Ex : Nat → String} {Hh : Nat → List (Nat × Nat × Nat × Nat)} {B Ne : List Jvm.Cond} {St : List (String × Nat × String)} {Nc : List (String × String)} {NC NM : Nat}
variable {D : va_G} {cid : Nat → ClassId} {lo b0 LL : Nat} {xs : Nat → Int32} {M : Nat}
variable {p : Program} {l : Launch} {e : Env} {Rm : Room} {s : State} {m : MethodId} {args : Array Value} {below : List Frame} {meth : Method} {c : Code} {A : Nat → Prop} {Hp : Heap} {locs : List Loc} {cells slots : Nat} {Q : State → Prop}
variable {pc len : Nat} {ls : Array Slot} {I : Instr} {st st' : List Value} {L : xL} {H : xH}
theorem x_read (ok : xOK P Y R T N ty cl Ex Hh B Ne St Nc NC NM) (C : xCtx P Y R cl Hh B Ne St Nc D cid lo b0 LL xs M p l Rm s m args meth c A) (V : xInv P cl D cid lo b0 LL xs M s A L H Hp locs ls)
    (hd : decode (xB P M) pc = .ok (I, len)) (hlen : xlen I len = len) (h : xrd P M I st H.2.1 = some st')
    (k : W p l e Rm s m args below meth c Hp locs cells slots Q (F0 m (pc + len) ls st')) : W p l e Rm s m args below meth c Hp locs cells slots Q (F0 m pc ls st) := by
  obtain ⟨⟨hx, hb, -, -, -, -, hown, -⟩, hts, hK, hst, hA, hAlo, hlo, -⟩ := C
  obtain ⟨hP, hAw, hS, hl, hJ, hlh, hex⟩ := V
  have arr : ∀ {r t n : Nat} {a : (Nat → Int32) ⊕ (Nat → Int64) ⊕ (Nat → UInt32) ⊕ (Nat → UInt64) ⊕ (Nat → Option Nat)}, H.2.1 r = .inl (t, n, a) → t < 6 → (xW cid lo H.1.1 H.2.1)[r - lo]? = some (r, .inl (cid t, n, a)) := by
    intro r t n a hr ht
    obtain ⟨h1, h2⟩ := (hJ.arr hr).1 ht
    rw [xW_get h1 h2, hr]
    rfl
  cases I with
  | getfield i =>
    replace hlen : 3 = len := hlen; subst hlen
    unfold xrd at h
    dsimp only at h
    split at h
    next r s0 =>
      split at h
      next ci kk hpo =>
        split at h
        next cj fs hr =>
          split at h
          next hc =>
            subst hc
            have h1 := ok.2.1 (xKl P M) i
            rw [hpo] at h1
            obtain ⟨h2, h3, h4⟩ := h1
            obtain ⟨h5, h6, -⟩ := ok.2.2.1 _ h2
            obtain ⟨v, h7, h8⟩ := Option.map_eq_some_iff.mp h
            subst h8
            obtain ⟨g1, g2⟩ := hJ.obj hr (Nat.lt_of_lt_of_le h2 ok.2.2.2.2.1.1)
            refine va_get (C := R cj) (T := T cj) (N := N cj) (ci := cj) (fs := fs) hx hb hts h6 hown hK hP (r - lo) ?_ h5 kk h3 (hts _ h4) (fun _ z => z) h7 hd k
            rw [xW_get g1 g2, hr]
            rfl
          next => cases h
        next => cases h
      next => cases h
    next => cases h
  | getstatic i =>
    replace hlen : 3 = len := hlen; subst hlen
    unfold xrd at h
    dsimp only at h
    split at h
    next x1 x2 hpo =>
      cases h
      have h1 := ok.2.1 (xKl P M) i
      rw [hpo] at h1
      have h2 : va_Nw (Jvm.Cond.fieldLinkNest (R (xKl P M)) i "TheatreBoxOffice" "FIRST_PRICES" "[I" "TheatreBoxOffice") s := (hst.1 _ h1).2
      exact va_getsN hx hb hst.2.2.2.2.2.2.1 hS hown (va_Nw.use rfl h2) (fun _ z => z) hd k
    next => cases h
  | iaload =>
    replace hlen : 1 = len := hlen; subst hlen
    unfold xrd at h
    dsimp only at h
    split at h
    next j r s0 =>
      split at h
      next t n f hr =>
        split at h
        next hc =>
          cases h
          obtain ⟨h1, h2⟩ := hc
          rcases h1 with rfl | rfl
          · exact va_iald hx hb hK hP (r - lo) 0 (arr hr (by omega)) rfl h2 hd k
          · obtain ⟨rfl, g⟩ := (hJ.arr hr).2.1 rfl
            cases g
            obtain ⟨-, -, -, -, -, -, -, -, g1, g2, g3⟩ := hst
            exact va_sld hx hb g1 g2 g3 hS h2 hd k
        next => cases h
      next => cases h
    next => cases h
  | caload =>
    replace hlen : 1 = len := hlen; subst hlen
    unfold xrd at h
    dsimp only at h
    split at h
    next j r s0 =>
      split at h
      next t n f hr =>
        split at h
        next hc =>
          cases h
          obtain ⟨rfl, h2⟩ := hc
          exact va_cald hx hb hK hP (r - lo) 1 (arr hr (by omega)) rfl h2 hd k
        next => cases h
      next => cases h
    next => cases h
  | baload =>
    replace hlen : 1 = len := hlen; subst hlen
    unfold xrd at h
    dsimp only at h
    split at h
    next j r s0 =>
      split at h
      next t n f hr =>
        split at h
        next hc =>
          cases h
          obtain ⟨rfl, h2⟩ := hc
          exact va_zald hx hb hK hP (r - lo) 2 (arr hr (by omega)) rfl h2 hd k
        next => cases h
      next => cases h
    next => cases h
  | laload =>
    replace hlen : 1 = len := hlen; subst hlen
    unfold xrd at h
    dsimp only at h
    split at h
    next j r s0 =>
      split at h
      next t n f hr =>
        split at h
        next hc =>
          cases h
          obtain ⟨rfl, h2⟩ := hc
          exact va_lald hx hb hK hP (r - lo) 3 (arr hr (by omega)) rfl h2 hd k
        next => cases h
      next => cases h
    next => cases h
  | daload =>
    replace hlen : 1 = len := hlen; subst hlen
    unfold xrd at h
    dsimp only at h
    split at h
    next j r s0 =>
      split at h
      next t n f hr =>
        split at h
        next hc =>
          cases h
          obtain ⟨rfl, h2⟩ := hc
          exact va_dald hx hb hK hP (r - lo) 4 (arr hr (by omega)) rfl h2 hd k
        next => cases h
      next => cases h
    next => cases h
  | aaload =>
    replace hlen : 1 = len := hlen; subst hlen
    unfold xrd at h
    dsimp only at h
    split at h
    next j r s0 =>
      split at h
      next t n f hr =>
        split at h
        next hc =>
          cases h
          obtain ⟨rfl, h2⟩ := hc
          exact va_aldq hx hb hK hP (r - lo) 5 (arr hr (by omega)) rfl h2 hd k
        next => cases h
      next => cases h
    next => cases h
  | arraylength =>
    replace hlen : 1 = len := hlen; subst hlen
    unfold xrd at h
    dsimp only at h
    split at h
    next r s0 =>
      split at h
      next t a hr =>
        split at h
        next hc =>
          cases h
          rcases hc with hc | rfl
          · obtain ⟨n, a⟩ := a
            have h9 : ∃ tt, (xtys cid)[t]? = some (cid t, tt) := by
              match t, hc with
              | 0, _ => exact ⟨_, rfl⟩
              | 1, _ => exact ⟨_, rfl⟩
              | 2, _ => exact ⟨_, rfl⟩
              | 3, _ => exact ⟨_, rfl⟩
              | 4, _ => exact ⟨_, rfl⟩
              | 5, _ => exact ⟨_, rfl⟩
            obtain ⟨tt, h9⟩ := h9
            exact va_alen hx hb hK hP (r - lo) t (arr hr hc) h9 rfl hd k
          · obtain ⟨rfl, g⟩ := (hJ.arr hr).2.1 rfl
            cases g
            obtain ⟨-, -, -, -, -, -, -, -, g1, g2, g3⟩ := hst
            exact va_slen hx hb g1 g2 g3 hS hd k
        next => cases h
      next => cases h
    next => cases h
  | ldc_w i =>
    replace hlen : 3 = len := hlen; subst hlen
    unfold xrd at h
    dsimp only at h
    split at h
    next a x2 hpo =>
      cases h
      have h1 := ok.2.1 (xKl P M) i
      rw [hpo] at h1
      exact lv_ldcw hx hb hown (hts _ h1) hd k
    next => cases h
  | ldc i =>
    replace hlen : 2 = len := hlen; subst hlen
    unfold xrd at h
    dsimp only at h
    split at h
    next a x2 hpo =>
      cases h
      have h1 := ok.2.1 (xKl P M) i
      rw [hpo] at h1
      exact lv_ldc hx hb hown (hts _ h1) hd k
    next => cases h
  | _ => cases h
/-- a cell of the world is written -/
theorem xInv_set {H1 : Heap} {locs1 : List Loc} {r : Nat} {e9 : xE} (V : xInv P cl D cid lo b0 LL xs M s A L H Hp locs ls) (h1 : lo ≤ r) (h2 : r < H.1.1) (he : ∀ t a, e9 = .inl (t, a) → t < 6)
    (hP1 : va_P D cl ((xW cid lo H.1.1 H.2.1).set (r - lo) (r, xcE cid e9)) H1) (hS1 : va_S A s.heap H1 locs1) : xInv P cl D cid lo b0 LL xs M s A L (H.1, hset H.2.1 r e9, H.2.2) H1 locs1 ls := by
  obtain ⟨hP, hAw, hS, hl, hJ, hlh, hex⟩ := V
  rw [xW_set h1 h2] at hP1
  exact ⟨hP1, hAw, hS1, hl, hJ.set h1 h2 he, hlh, hex⟩
theorem xsz {P' : xP} {g : JFrame} (k : Hp.size ≤ s.heap.size + cells → W p l e Rm s m args below meth c Hp locs cells slots Q g) : W p l e Rm s m args below meth c Hp locs cells slots Q g := by
  intro T hT X
  exact k (by rw [← hT]; exact X.heapSize) T hT X
/-- a cell is made: it is the next one -/
theorem xInv_push {H1 : Heap} {q : Nat} {e9 : xE} {z : Nat} {e8 : va_E} (V : xInv P cl D cid lo b0 LL xs M s A L H Hp locs ls) (hf : H.1.2 = true) (hAlo : ∀ q, A q → lo ≤ q) (hsz : H1.size ≤ s.heap.size + (H.2.2.1 + 1)) (he8 : xcE cid e9 = e8) (he : ∀ t a, e9 = .inl (t, a) → t < 6)
    (hP1 : va_P D cl (xW cid lo H.1.1 H.2.1 ++ [(q, e8)]) H1) (hD1 : va_D A (xW cid lo H.1.1 H.2.1 ++ [(q, e8)])) (hS1 : va_S A s.heap H1 locs) : q = H.1.1 ∧ xInv P cl D cid lo b0 LL xs M s A L ((H.1.1 + 1, true), hset H.2.1 H.1.1 e9, H.2.2.1 + 1, z) H1 locs ls := by
  obtain ⟨hP, hAw, hS, hl, hJ, hlh, hex⟩ := V
  have hn := hex hf
  have hlen : (xW cid lo H.1.1 H.2.1).length = H.1.1 - lo := by simp [xW]
  have hq : (xW cid lo H.1.1 H.2.1 ++ [(q, e8)])[H.1.1 - lo]? = some (q, e8) := by
    rw [List.getElem?_append_right (by omega), hlen, Nat.sub_self]
    rfl
  have hlt := vx_lt hP1 hq
  dsimp only at hlt
  have hAq : A q := hD1.2 _ _ hq
  have hlq := hAlo q hAq
  have heq : q = H.1.1 := by
    apply Decidable.byContradiction
    intro hne
    have hq2 : q < H.1.1 := by omega
    have h3 := xW_get (cid := cid) (h := H.2.1) hlq hq2
    have h4 : (xW cid lo H.1.1 H.2.1 ++ [(q, e8)])[q - lo]? = some (q, xcE cid (H.2.1 q)) := by
      rw [List.getElem?_append_left (by omega)]
      exact h3
    have := hD1.1 _ _ _ _ h4 hq rfl
    omega
  subst heq
  rw [← he8, xW_push hlh] at hP1
  exact ⟨rfl, hP1, fun q g1 g2 => by
    by_cases g : q = H.1.1
    · rw [g]; exact hAq
    · exact hAw q g1 (by dsimp only at g2; omega), hS1, hl, hJ.push hlh he, by dsimp only; omega, fun _ => by dsimp only; omega⟩
end XR
