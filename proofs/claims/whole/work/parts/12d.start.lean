/-! what the Statement gives of the start -/
section START
variable {args : Array Value} {s : State}
theorem nr {w : Jvm.Cond} (i : Nat) (h : (flatC (Jvm.Cond.and given_1 narrow_1))[i]? = some w) (hg : (Jvm.Cond.and given_1 narrow_1).before args s = true) : w.before args s = true := flat_of_before _ hg _ (List.mem_of_getElem? h)
theorem nt {w : Jvm.Cond} (i : Nat) (h : tables_1[i]? = some w) (ht : ∀ w ∈ lw_tbl, w.before args s = true) : w.before args s = true := ht _ (List.mem_append_right _ (List.mem_of_getElem? h))
theorem st_eq {t : Term} {z : Int32} (h : (Cond.eq t (.int z)).before args s = true) : t.eval args s none [] s = some (.int z) := by
  cases hv : t.eval args s none [] s with
  | none => simp [Cond.before, Cond.holds, Cond.value, hv] at h
  | some w =>
    have hz : (Term.int z).eval args s none [] s = some (.int z) := rfl
    simp only [Cond.before, Cond.holds, Cond.value, hv, hz] at h
    cases w <;> simp_all
theorem st_el {t : Term} {b : Addr} {cell : Cell} {k : Nat} {z : Int32} (hk : k < 1000) (ht : t.eval args s none [] s = some (.ref b)) (harr : s.arrayAt? b = some cell) (h : (Cond.eq (.elem t (.int (nI k))) (.int z)).before args s = true) : cell.slots[k]? = some (.int z) := by
  obtain ⟨a, j, cell', h1, h2, h3, -, h4⟩ := Term.elem_spec (st_eq h)
  cases h1.symm.trans ht
  cases h3.symm.trans harr
  have h2' : nI k = j := by
    have : (Term.int (nI k)).eval args s none [] s = some (.int (nI k)) := rfl
    have q := this.symm.trans h2
    cases q
    rfl
  rw [← h2', nI_clamp (by omega)] at h4
  exact h4
theorem st_sz {t : Term} {b : Addr} {cell : Cell} {v : Value} (ht : t.eval args s none [] s = some (.ref b)) (harr : s.arrayAt? b = some cell) (hv : (Term.length t).eval args s none [] s = some v) : cell.slots.size < 2 ^ 31 := by
  simp only [Term.eval, ht, harr, Option.bind_eq_bind, Option.bind_some] at hv
  by_cases hlt : cell.slots.size < 2147483648
  · exact hlt
  · simp [hlt] at hv
theorem st_fp (hg : (Jvm.Cond.and given_1 narrow_1).before args s = true) : ∃ t0 : Nat, (Term.static "TheatreBoxOffice" "FIRST_PRICES" "[I").eval args s none [] s = some (.ref t0) ∧ va_X t0 4 xFP s s.heap ∧ t0 < s.heap.size := by
  have h4 : (Cond.eq (.length (.static "TheatreBoxOffice" "FIRST_PRICES" "[I")) (.int 4)).before args s = true := nr 6 (by decide +kernel) hg
  obtain ⟨b, cell, ht, harr, hz⟩ := Term.length_spec (st_eq h4)
  obtain ⟨hcell, -, -, -⟩ := State.arrayAt?_spec harr
  have ho : (Cond.arrayOf (.static "TheatreBoxOffice" "FIRST_PRICES" "[I") .int).before args s = true := nr 5 (by decide +kernel) hg
  have hof := Cond.arrayOf_spec ho ht hcell
  have e0 := st_el (k := 0) (z := 4000) (by decide) ht harr (nr 7 (by decide +kernel) hg)
  have e1 := st_el (k := 1) (z := 3000) (by decide) ht harr (nr 8 (by decide +kernel) hg)
  have e2 := st_el (k := 2) (z := 2000) (by decide) ht harr (nr 9 (by decide +kernel) hg)
  have e3 := st_el (k := 3) (z := 1000) (by decide) ht harr (nr 10 (by decide +kernel) hg)
  have hsz := st_sz ht harr (st_eq h4)
  have h44 : cell.slots.size = 4 := by
    have q : (4 : Int32) = cell.slots.size.toInt32 := Value.int.inj hz
    have q2 : nI 4 = nI cell.slots.size := q
    exact ((nI_eq (by decide) hsz).mp q2).symm
  refine ⟨b, ht, ⟨cell, hcell, hof.1, hof.2, h44, fun j hj => ?_⟩, (Array.getElem?_eq_some_iff.mp hcell).1⟩
  match j, hj with
  | 0, _ => exact e0
  | 1, _ => exact e1
  | 2, _ => exact e2
  | 3, _ => exact e3
  | j + 4, h => exact absurd h (by omega)
theorem st_ne {b t0 : Nat} (hg : (Jvm.Cond.and given_1 narrow_1).before #[Value.ref b] s = true) (ht : (Term.static "TheatreBoxOffice" "FIRST_PRICES" "[I").eval #[Value.ref b] s none [] s = some (.ref t0)) : t0 ≠ b := by
  rintro rfl
  have h : (Cond.not (.eq (.arg 0) (.static "TheatreBoxOffice" "FIRST_PRICES" "[I"))).before #[Value.ref t0] s = true := nr 1045 (by decide +kernel) hg
  have h1 : (Term.arg 0).eval #[Value.ref t0] s none [] s = some (.ref t0) := rfl
  simp [Cond.before, Cond.holds, Cond.value, ht, h1] at h
theorem st_R {own tx : String} {k : Nat} (h1 : (Cond.stringRef own k tx).before args s = true) (h2 : (Cond.exactly (.string own k) "java/lang/String").before args s = true) : ∃ sa, vk_R own k tx sa s := by
  obtain ⟨a, c, cell, kk, h, -⟩ := Cond.exactly_spec h2
  exact ⟨a, vk_R.of h1 h⟩
theorem st_St (ht : ∀ w ∈ lw_tbl, w.before args s = true) (hg : (Jvm.Cond.and given_1 narrow_1).before args s = true) : ∀ q ∈ xStw, ∃ sa, vk_R q.1 q.2.1 q.2.2 sa s := by
  exact List.forall_mem_cons.mpr ⟨st_R (nt 579 (by decide +kernel) ht) (nr 90 (by decide +kernel) hg), List.forall_mem_cons.mpr ⟨st_R (nt 640 (by decide +kernel) ht) (nr 156 (by decide +kernel) hg), List.forall_mem_cons.mpr ⟨st_R (nt 656 (by decide +kernel) ht) (nr 182 (by decide +kernel) hg), List.forall_mem_cons.mpr ⟨st_R (nt 687 (by decide +kernel) ht) (nr 209 (by decide +kernel) hg), List.forall_mem_cons.mpr ⟨st_R (nt 735 (by decide +kernel) ht) (nr 238 (by decide +kernel) hg), List.forall_mem_cons.mpr ⟨st_R (nt 742 (by decide +kernel) ht) (nr 260 (by decide +kernel) hg), List.forall_mem_cons.mpr ⟨st_R (nt 751 (by decide +kernel) ht) (nr 290 (by decide +kernel) hg), List.forall_mem_cons.mpr ⟨st_R (nt 760 (by decide +kernel) ht) (nr 340 (by decide +kernel) hg), List.forall_mem_cons.mpr ⟨st_R (nt 761 (by decide +kernel) ht) (nr 368 (by decide +kernel) hg), List.forall_mem_cons.mpr ⟨st_R (nt 770 (by decide +kernel) ht) (nr 406 (by decide +kernel) hg), List.forall_mem_cons.mpr ⟨st_R (nt 792 (by decide +kernel) ht) (nr 465 (by decide +kernel) hg), List.forall_mem_cons.mpr ⟨st_R (nt 812 (by decide +kernel) ht) (nr 501 (by decide +kernel) hg), List.forall_mem_cons.mpr ⟨st_R (nt 820 (by decide +kernel) ht) (nr 552 (by decide +kernel) hg), List.forall_mem_cons.mpr ⟨st_R (nt 847 (by decide +kernel) ht) (nr 758 (by decide +kernel) hg), List.forall_mem_cons.mpr ⟨st_R (nt 916 (by decide +kernel) ht) (nr 865 (by decide +kernel) hg), List.forall_mem_cons.mpr ⟨st_R (nt 991 (by decide +kernel) ht) (nr 903 (by decide +kernel) hg), List.forall_mem_cons.mpr ⟨st_R (nt 1005 (by decide +kernel) ht) (nr 949 (by decide +kernel) hg), List.forall_mem_cons.mpr ⟨st_R (nt 1022 (by decide +kernel) ht) (nr 995 (by decide +kernel) hg), List.forall_mem_cons.mpr ⟨st_R (nt 619 (by decide +kernel) ht) (nr 124 (by decide +kernel) hg), List.forall_mem_cons.mpr ⟨st_R (nt 863 (by decide +kernel) ht) (nr 792 (by decide +kernel) hg), List.forall_mem_cons.mpr ⟨st_R (nt 787 (by decide +kernel) ht) (nr 431 (by decide +kernel) hg), List.forall_mem_cons.mpr ⟨st_R (nt 833 (by decide +kernel) ht) (nr 607 (by decide +kernel) hg), List.forall_mem_cons.mpr ⟨st_R (nt 838 (by decide +kernel) ht) (nr 677 (by decide +kernel) hg), List.forall_mem_cons.mpr ⟨st_R (nt 882 (by decide +kernel) ht) (nr 830 (by decide +kernel) hg), fun q hq => absurd hq List.not_mem_nil⟩⟩⟩⟩⟩⟩⟩⟩⟩⟩⟩⟩⟩⟩⟩⟩⟩⟩⟩⟩⟩⟩⟩⟩
theorem st_Nc (hg : (Jvm.Cond.and given_1 narrow_1).before args s = true) : ∀ q ∈ xNcw, va_Nc q.1 q.2 s := by
  exact List.forall_mem_cons.mpr ⟨va_Nc.of (nr 20 (by decide +kernel) hg), List.forall_mem_cons.mpr ⟨va_Nc.of (nr 73 (by decide +kernel) hg), List.forall_mem_cons.mpr ⟨va_Nc.of (nr 60 (by decide +kernel) hg), List.forall_mem_cons.mpr ⟨va_Nc.of (nr 85 (by decide +kernel) hg), List.forall_mem_cons.mpr ⟨va_Nc.of (nr 47 (by decide +kernel) hg), List.forall_mem_cons.mpr ⟨va_Nc.of (nr 33 (by decide +kernel) hg), List.forall_mem_cons.mpr ⟨va_Nc.of (nr 72 (by decide +kernel) hg), List.forall_mem_cons.mpr ⟨va_Nc.of (nr 59 (by decide +kernel) hg), List.forall_mem_cons.mpr ⟨va_Nc.of (nr 84 (by decide +kernel) hg), List.forall_mem_cons.mpr ⟨va_Nc.of (nr 46 (by decide +kernel) hg), List.forall_mem_cons.mpr ⟨va_Nc.of (nr 37 (by decide +kernel) hg), List.forall_mem_cons.mpr ⟨va_Nc.of (nr 24 (by decide +kernel) hg), List.forall_mem_cons.mpr ⟨va_Nc.of (nr 63 (by decide +kernel) hg), List.forall_mem_cons.mpr ⟨va_Nc.of (nr 89 (by decide +kernel) hg), List.forall_mem_cons.mpr ⟨va_Nc.of (nr 50 (by decide +kernel) hg), List.forall_mem_cons.mpr ⟨va_Nc.of (nr 35 (by decide +kernel) hg), List.forall_mem_cons.mpr ⟨va_Nc.of (nr 22 (by decide +kernel) hg), List.forall_mem_cons.mpr ⟨va_Nc.of (nr 75 (by decide +kernel) hg), List.forall_mem_cons.mpr ⟨va_Nc.of (nr 87 (by decide +kernel) hg), List.forall_mem_cons.mpr ⟨va_Nc.of (nr 48 (by decide +kernel) hg), List.forall_mem_cons.mpr ⟨va_Nc.of (nr 38 (by decide +kernel) hg), List.forall_mem_cons.mpr ⟨va_Nc.of (nr 25 (by decide +kernel) hg), List.forall_mem_cons.mpr ⟨va_Nc.of (nr 76 (by decide +kernel) hg), List.forall_mem_cons.mpr ⟨va_Nc.of (nr 64 (by decide +kernel) hg), List.forall_mem_cons.mpr ⟨va_Nc.of (nr 51 (by decide +kernel) hg), List.forall_mem_cons.mpr ⟨va_Nc.of (nr 34 (by decide +kernel) hg), List.forall_mem_cons.mpr ⟨va_Nc.of (nr 21 (by decide +kernel) hg), List.forall_mem_cons.mpr ⟨va_Nc.of (nr 74 (by decide +kernel) hg), List.forall_mem_cons.mpr ⟨va_Nc.of (nr 61 (by decide +kernel) hg), List.forall_mem_cons.mpr ⟨va_Nc.of (nr 86 (by decide +kernel) hg), fun q hq => absurd hq List.not_mem_nil⟩⟩⟩⟩⟩⟩⟩⟩⟩⟩⟩⟩⟩⟩⟩⟩⟩⟩⟩⟩⟩⟩⟩⟩⟩⟩⟩⟩⟩⟩
theorem st_Ne (ht : ∀ w ∈ lw_tbl, w.before args s = true) : ∀ w ∈ xNew, xNf w = true ∧ va_Nw w s := fun w hw => ⟨(List.mem_filter.mp hw).2, va_Nw.of (xNf_tab (List.mem_filter.mp hw).2) (ht w (List.mem_append_right _ (List.mem_filter.mp hw).1))⟩
theorem st_arr {ty : FieldType} (h : (Cond.arrayClass ty).before args s = true) : ∃ cA : ClassId, ArrOfT s cA ty ∧ s.vm.findClass ("[" ++ ty.toString) = some cA := by
  obtain ⟨c, k, comp, h1, h2, h3⟩ := Cond.arrayClass_spec h
  exact ⟨c, fun n z => ⟨fun k h => (by cases h), k, h2, comp, h3⟩, h1⟩
theorem st_K (ht : ∀ w ∈ lw_tbl, w.before args s = true) (hB : ∀ w ∈ xBw, w.before args s = true) : ∃ (D : va_G) (cid : Nat → ClassId), va_K D xcl (xtys cid) s := by
  have ok := (xAll_ok 0).2.2.1
  obtain ⟨c0, i0, k0⟩ := u_known (C := xRn 0) (T := xTn 0) (N := xNn 0) (n := 8) hB (ok 0 (by decide)).2.1 (nt 72 (by decide +kernel) ht)
  obtain ⟨c1, i1, k1⟩ := u_known (C := xRn 1) (T := xTn 1) (N := xNn 1) (n := 5) hB (ok 1 (by decide)).2.1 (nt 38 (by decide +kernel) ht)
  obtain ⟨c2, i2, k2⟩ := u_known (C := xRn 2) (T := xTn 2) (N := xNn 2) (n := 13) hB (ok 2 (by decide)).2.1 (nt 32 (by decide +kernel) ht)
  obtain ⟨c3, i3, k3⟩ := u_known (C := xRn 3) (T := xTn 3) (N := xNn 3) (n := 2) hB (ok 3 (by decide)).2.1 (nt 112 (by decide +kernel) ht)
  obtain ⟨c4, i4, k4⟩ := u_known (C := xRn 4) (T := xTn 4) (N := xNn 4) (n := 3) hB (ok 4 (by decide)).2.1 (nt 125 (by decide +kernel) ht)
  obtain ⟨c5, i5, k5⟩ := u_known (C := xRn 5) (T := xTn 5) (N := xNn 5) (n := 13) hB (ok 5 (by decide)).2.1 (nt 24 (by decide +kernel) ht)
  obtain ⟨c6, i6, k6⟩ := u_known (C := xRn 6) (T := xTn 6) (N := xNn 6) (n := 14) hB (ok 6 (by decide)).2.1 (nt 1043 (by decide +kernel) ht)
  obtain ⟨a0, f0, g0⟩ := st_arr (ty := .int) (nt 70 (by decide +kernel) ht)
  obtain ⟨a1, f1, g1⟩ := st_arr (ty := .char) (nt 69 (by decide +kernel) ht)
  obtain ⟨a2, f2, g2⟩ := st_arr (ty := .boolean) (nt 110 (by decide +kernel) ht)
  obtain ⟨a3, f3, g3⟩ := st_arr (ty := .long) (nt 1412 (by decide +kernel) ht)
  obtain ⟨a4, f4, g4⟩ := st_arr (ty := .double) (nt 1413 (by decide +kernel) ht)
  have hao : (Cond.arrayOver (.object "TheatreBoxOffice$Office")).before args s = true := nt 201 (by decide +kernel) ht
  obtain ⟨comp, a5, kA, q1, q2, q3, q4, q5⟩ := Cond.arrayOver_spec hao
  refine ⟨(fun k => match k with | 0 => c0 | 1 => c1 | 2 => c2 | 3 => c3 | 4 => c4 | 5 => c5 | _ => c6, fun k => match k with | 0 => i0 | 1 => i1 | 2 => i2 | 3 => i3 | 4 => i4 | 5 => i5 | _ => i6), fun k => match k with | 0 => a0 | 1 => a1 | 2 => a2 | 3 => a3 | 4 => a4 | _ => a5, fun k q hq => ?_, fun k q hq => ?_⟩
  · match k, hq with
    | 0, hq =>
      obtain rfl : (xRn 0, xTn 0, xNn 0) = q := Option.some.inj hq
      exact k0
    | 1, hq =>
      obtain rfl : (xRn 1, xTn 1, xNn 1) = q := Option.some.inj hq
      exact k1
    | 2, hq =>
      obtain rfl : (xRn 2, xTn 2, xNn 2) = q := Option.some.inj hq
      exact k2
    | 3, hq =>
      obtain rfl : (xRn 3, xTn 3, xNn 3) = q := Option.some.inj hq
      exact k3
    | 4, hq =>
      obtain rfl : (xRn 4, xTn 4, xNn 4) = q := Option.some.inj hq
      exact k4
    | 5, hq =>
      obtain rfl : (xRn 5, xTn 5, xNn 5) = q := Option.some.inj hq
      exact k5
    | 6, hq =>
      obtain rfl : (xRn 6, xTn 6, xNn 6) = q := Option.some.inj hq
      exact k6
    | k + 7, hq => exact absurd hq (by simp [xcl])
  · match k, hq with
    | 0, hq =>
      obtain rfl : (a0, FieldType.int) = q := Option.some.inj hq
      exact ⟨f0, g0⟩
    | 1, hq =>
      obtain rfl : (a1, FieldType.char) = q := Option.some.inj hq
      exact ⟨f1, g1⟩
    | 2, hq =>
      obtain rfl : (a2, FieldType.boolean) = q := Option.some.inj hq
      exact ⟨f2, g2⟩
    | 3, hq =>
      obtain rfl : (a3, FieldType.long) = q := Option.some.inj hq
      exact ⟨f3, g3⟩
    | 4, hq =>
      obtain rfl : (a4, FieldType.double) = q := Option.some.inj hq
      exact ⟨f4, g4⟩
    | 5, hq =>
      obtain rfl : (a5, FieldType.object "TheatreBoxOffice$Office") = q := Option.some.inj hq
      exact ⟨fun n z => ⟨fun k h => (by cases h), kA, q3, comp, q4⟩, kA, comp, q3, q4, q1, q5⟩
    | k + 6, hq => exact absurd hq (by simp [xtys])
theorem st_stat {b t0 LL : Nat} {xs : Nat → Int32} (ht : ∀ w ∈ lw_tbl, w.before #[Value.ref b] s = true) (hg : (Jvm.Cond.and given_1 narrow_1).before #[Value.ref b] s = true) (hX : va_X b LL xs s s.heap) (hb : b < s.heap.size) (h0 : (Term.static "TheatreBoxOffice" "FIRST_PRICES" "[I").eval #[Value.ref b] s none [] s = some (.ref t0)) (hF : va_X t0 4 xFP s s.heap) (ht0 : t0 < s.heap.size) : xStat xNew xStw xNcw t0 b LL xs (fun q => s.heap.size ≤ q) s := by
  have hA : ∀ a : Nat, a < s.heap.size → ¬ (fun q => s.heap.size ≤ q) a := fun a h q => Nat.not_le.mpr h q
  have hao : (Cond.arrayOver (.object "TheatreBoxOffice$Office")).before #[Value.ref b] s = true := nt 201 (by decide +kernel) ht
  refine ⟨st_Ne ht, st_St ht hg, st_Nc hg, va_AO.of hao, vx_Zqof (nt 561 (by decide +kernel) ht) (nt 11 (by decide +kernel) ht) (nr 11 (by decide +kernel) hg) hA, vx_Zqof (nt 563 (by decide +kernel) ht) (nt 11 (by decide +kernel) ht) (nr 12 (by decide +kernel) hg) hA, va_Zof (nt 230 (by decide +kernel) ht) (nt 1 (by decide +kernel) ht) h0 hA, ⟨hF, ht0, hA _ ht0⟩, hX, hb, hA _ hb⟩
end START
