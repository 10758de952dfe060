/-! what ties an Office's value to the reference's numbers: the finder -/
theorem fo_rel {σ τ : Type} {g : Nat → σ → σ} {g' : Nat → τ → τ} {n : Nat} (J : Nat → σ → τ → Prop) (hs : ∀ i s t, i < n → J i s t → J (i + 1) (g i s) (g' i t)) {s : σ} {t : τ} (h0 : J 0 s t) : J n (fo g n s) (fo g' n t) := by
  have key : ∀ k, k ≤ n → J k (fo g k s) (fo g' k t) := by
    intro k
    induction k with
    | zero => intro _; exact h0
    | succ k ih => intro hk; exact hs k _ _ (by omega) (ih (by omega))
  exact key n (Nat.le_refl n)
def kcQ (x : Int32) : Int32 := if x = nI 5 then nI 1 else if x = nI 6 then nI 2 else nI 0
abbrev inHal (R C i : Nat) : Prop := i / 12 < R ∧ i % 12 < C
def mHal (ha : Hal) (f : Nat → Int32) (R C : Nat) : Prop := ha.2.2.1 = R ∧ ha.2.2.2.1 = C ∧ ha.2.2.2.2 = stN f ∧ catOK ha ∧ ∀ i, i < 96 → inHal R C i → ha.1 i = nI (ctN (f (43 + i))) ∧ ha.2.1 i = kcQ (f (43 + i))
def wHal (f : Nat → Int32) (R C : Nat) : Prop := f 0 = nI R ∧ f 1 = nI C ∧ 1 ≤ R ∧ R ≤ 8 ∧ 1 ≤ C ∧ C ≤ 12 ∧ kndOK f ∧ ∀ i, i < 96 → ¬ inHal R C i → f (43 + i) = nI 0
abbrev isS (f : Nat → Int32) (n j : Nat) : Prop := j / 96 < n ∧ ¬ f (43 + j % 96) = nI 0
def mSea (se : Sea) (f : Nat → Int32) (n : Nat) : Prop := ∀ j, j < 576 → se.1 j = (if isS f n j then f (139 + j) else nI 4) ∧ se.2 j = (if f (139 + j) = nI 1 ∨ f (139 + j) = nI 2 then f (715 + j) else -nI 1)
def wSea (f : Nat → Int32) (n : Nat) : Prop := ∀ j, j < 576 → (f (139 + j) = nI 0 ∨ f (139 + j) = nI 1 ∨ f (139 + j) = nI 2 ∨ f (139 + j) = nI 3) ∧ (¬ isS f n j → f (139 + j) = nI 0) ∧ ((f (139 + j) = nI 1 ∨ f (139 + j) = nI 2) → ∃ k, k < 1000000 ∧ f (715 + j) = nI k)
def mPer (pe : Tab) (f : Nat → Int32) (n : Nat) : Prop := pe.1 = n ∧ ∀ p, p < n → pe.2 (p * 3) = f (10 + p) ∧ pe.2 (p * 3 + 1) = f (16 + p) ∧ pe.2 (p * 3 + 2) = f (22 + p)
def wPer (f : Nat → Int32) (n : Nat) : Prop := f 9 = nI n ∧ n ≤ 6 ∧ (∀ p, p < n → ∃ k, k ≤ 100000 ∧ f (10 + p) = nI k) ∧ ∀ p, n ≤ p → p < 6 → f (22 + p) = nI 0
section FREL
variable {ha : Hal} {f st : Nat → Int32} {pe : Tab} {tm fc ru : Int32} {S n R C s ct kd : Nat}
theorem four_ne : ¬ nI 4 = nI 0 := by decide
theorem bit_lt {S n p : Nat} (h2 : S < 2 ^ n) (hb : S.testBit p = true) : p < n := by
  refine Classical.byContradiction fun h => ?_
  have h3 : 2 ^ n ≤ 2 ^ p := Nat.pow_le_pow_right (by decide) (by omega)
  rw [Nat.testBit_lt_two_pow (Nat.lt_of_lt_of_le h2 h3)] at hb
  cases hb
theorem has_bit {S n : Nat} (h1 : 1 ≤ S) (h2 : S < 2 ^ n) : ∃ p, p < n ∧ S.testBit p = true := by
  refine Classical.byContradiction fun h => ?_
  have : S = 0 := by
    refine Nat.eq_of_testBit_eq fun p => ?_
    rw [Nat.zero_testBit]
    cases hb : S.testBit p with
    | false => rfl
    | true => exact absurd ⟨p, bit_lt h2 hb, hb⟩ h
  omega
abbrev stOK (st f : Nat → Int32) (n : Nat) : Prop := ∀ j, j < 576 → st j = (if isS f n j then f (139 + j) else nI 4)
/-- what is free in a performance, told by the class' rows -/
theorem free_iff (hst : stOK st f n) {p i : Nat} (hp : p < 6) (hi : i < 96) : st (p * 96 + i) = nI 0 ↔ p < n ∧ ¬ f (43 + i) = nI 0 ∧ f (139 + (96 * p + i)) = nI 0 := by
  have h := hst (p * 96 + i) (by omega)
  have e1 : (p * 96 + i) / 96 = p := by omega
  have e2 : (p * 96 + i) % 96 = i := by omega
  rw [h]
  unfold isS
  rw [e1, e2, show p * 96 + i = 96 * p + i by omega]
  by_cases q : p < n ∧ ¬ f (43 + i) = nI 0
  · rw [if_pos q]
    exact ⟨fun z => ⟨q.1, q.2, z⟩, fun z => z.2.2⟩
  · rw [if_neg q]
    exact ⟨fun z => absurd z four_ne, fun z => absurd ⟨z.1, z.2.1⟩ q⟩
theorem frL_all (hst : stOK st f n) (h1 : 1 ≤ S) (h2 : S < 2 ^ n) (hn : n ≤ 6) {i : Nat} (hi : i < 96) : frL S st i 6 = S ↔ ¬ f (43 + i) = nI 0 ∧ ∀ p, p < n → S.testBit p = true → f (139 + (96 * p + i)) = nI 0 := by
  constructor
  · intro h
    have hb : ∀ p, S.testBit p = true → st (p * 96 + i) = nI 0 := by
      intro p hp
      rw [← h, frL_bit] at hp
      exact (of_decide_eq_true hp).2.2
    refine ⟨?_, fun p hp hs => ((free_iff hst (by omega) hi).mp (hb p hs)).2.2⟩
    obtain ⟨p, hp, hs⟩ := has_bit h1 h2
    exact ((free_iff hst (by omega) hi).mp (hb p hs)).2.1
  · rintro ⟨h3, h4⟩
    refine Nat.eq_of_testBit_eq fun p => ?_
    rw [frL_bit]
    cases hs : S.testBit p with
    | false => simp
    | true =>
      have hp := bit_lt h2 hs
      exact decide_eq_true ⟨by omega, rfl, (free_iff hst (by omega) hi).mpr ⟨hp, h3, h4 p hp hs⟩⟩
theorem sta_S (hpe : mPer pe f n) (h2 : S < 2 ^ n) {x : Int32} : staL S pe x = S ↔ ∀ p, p < n → S.testBit p = true → f (10 + p) ≤ x := by
  obtain ⟨e1, e2⟩ := hpe
  constructor
  · intro h p hp hs
    rw [← h] at hs
    unfold staL at hs
    rw [mskL_bit] at hs
    have := (of_decide_eq_true hs).2.2
    rw [(e2 p hp).1] at this
    exact Int32.not_lt.mp this
  · intro h
    refine Nat.eq_of_testBit_eq fun p => ?_
    unfold staL
    rw [mskL_bit]
    refine Bool.eq_iff_iff.mpr ?_
    rw [decide_eq_true_iff]
    constructor
    · rintro ⟨_, h3, _⟩
      exact h3
    · intro hs
      have hp := bit_lt h2 hs
      exact ⟨by omega, hs, by rw [(e2 p hp).1]; exact Int32.not_lt.mpr (h p hp hs)⟩
theorem sta_0 (hpe : mPer pe f n) {x : Int32} : staL S pe x = 0 ↔ ¬ ∃ p, p < n ∧ S.testBit p = true ∧ f (10 + p) ≤ x := by
  obtain ⟨e1, e2⟩ := hpe
  constructor
  · rintro h ⟨p, hp, hs, hx⟩
    have hb : (staL S pe x).testBit p = true := by
      unfold staL
      rw [mskL_bit]
      exact decide_eq_true ⟨by omega, hs, by rw [(e2 p hp).1]; exact Int32.not_lt.mpr hx⟩
    rw [h, Nat.zero_testBit] at hb
    cases hb
  · intro h
    refine Nat.eq_of_testBit_eq fun p => ?_
    rw [Nat.zero_testBit]
    unfold staL
    rw [mskL_bit]
    refine decide_eq_false ?_
    rintro ⟨hp, hs, hx⟩
    rw [e1] at hp
    rw [(e2 p hp).1] at hx
    exact h ⟨p, hp, hs, Int32.not_lt.mp hx⟩
theorem com_iff (hpe : mPer pe f n) (htm : tm = f 8) (h2 : S < 2 ^ n) : comP S pe tm kd ↔ cmpQ S n f kd := by
  unfold comP cmpQ sooP
  rw [sta_S hpe h2, htm]
theorem kc_1 {x : Int32} : kcQ x = nI 1 ↔ x = nI 5 := by
  unfold kcQ
  by_cases h : x = nI 5
  · rw [if_pos h]; exact ⟨fun _ => h, fun _ => rfl⟩
  · rw [if_neg h]
    refine ⟨fun z => ?_, fun z => absurd z h⟩
    split at z
    · exact absurd z (by decide)
    · exact absurd z (by decide)
theorem kc_2 {x : Int32} : kcQ x = nI 2 ↔ x = nI 6 := by
  unfold kcQ
  by_cases h : x = nI 5
  · rw [if_pos h, h]
    exact ⟨fun z => absurd z (by decide), fun z => absurd z (by decide)⟩
  · rw [if_neg h]
    by_cases h6 : x = nI 6
    · rw [if_pos h6]; exact ⟨fun _ => h6, fun _ => rfl⟩
    · rw [if_neg h6]
      exact ⟨fun z => absurd z (by decide), fun z => absurd z h6⟩
theorem us_iff (hw : wHal f R C) (hh : mHal ha f R C) (hst : stOK st f n) (hpe : mPer pe f n) (htm : tm = f 8) (h1 : 1 ≤ S) (h2 : S < 2 ^ n) (hn : n ≤ 6) {r c : Nat} (hr : r < R) (hc : c < C) {g : Nat → Int32} : ¬ usV S ha st pe tm ct kd g (r * 12 + c) = nI 0 ↔ okQ S n f C ct (cmpQ S n f kd) r c ∧ (¬ f (43 + 12 * r + c) = nI 5 ∨ kd = 1) := by
  obtain ⟨w0, w1, w2, w3, w4, w5, w6, w7⟩ := hw
  obtain ⟨m1, m2, m3, m4, m5⟩ := hh
  have hi : r * 12 + c < 96 := by omega
  have hin : inHal R C (r * 12 + c) := ⟨by omega, by omega⟩
  obtain ⟨a1, a2⟩ := m5 _ hi hin
  have e0 : 43 + (r * 12 + c) = 43 + 12 * r + c := by omega
  rw [e0] at a1 a2
  obtain ⟨k1, k2⟩ := w6 _ hi
  rw [e0] at k1 k2
  have hcat := catQ_n k1 k2
  have hfr := frL_all hst h1 h2 hn hi
  rw [e0] at hfr
  have hcom := com_iff (kd := kd) hpe htm h2
  have e1 : ∀ p, 139 + (96 * p + (r * 12 + c)) = 139 + (96 * p + 12 * r + c) := fun p => by omega
  unfold usV sgA
  rw [if_pos hi]
  have key : useP S ha st ct kd (comP S pe tm kd) (r * 12 + c) ↔ okQ S n f C ct (cmpQ S n f kd) r c ∧ (¬ f (43 + 12 * r + c) = nI 5 ∨ kd = 1) := by
    unfold useP okQ fraP frQ
    rw [hfr, a1, a2, kc_1, kc_2, hcom, hcat]
    constructor
    · rintro ⟨⟨b1, b2⟩, b3, b4, b5⟩
      exact ⟨⟨b1, fun p hp hs => ⟨hc, b1, by rw [← e1]; exact b2 p hp hs⟩, b3, b5⟩, b4⟩
    · rintro ⟨⟨b1, b2, b3, b5⟩, b4⟩
      exact ⟨⟨b1, fun p hp hs => by rw [e1]; exact (b2 p hp hs).2.2⟩, b3, b4, b5⟩
  dsimp only
  by_cases q : useP S ha st ct kd (comP S pe tm kd) (r * 12 + c)
  · rw [if_pos q]
    exact ⟨fun _ => key.mp q, fun _ => by decide⟩
  · rw [if_neg q]
    exact ⟨fun z => absurd rfl z, fun z => absurd (key.mpr z) q⟩
theorem acc_eq (hw : wHal f R C) (hh : mHal ha f R C) {r c : Nat} (hr : r < R) (hc : c + s ≤ C) : accV ha.2.1 s r c = nI (accQ f r c s) := by
  obtain ⟨w0, w1, w2, w3, w4, w5, w6, w7⟩ := hw
  obtain ⟨m1, m2, m3, m4, m5⟩ := hh
  unfold accV accQ
  refine fo_rel (fun _ (z : Int32) (t : Nat) => z = nI t) (fun i z t hi hz => ?_) rfl
  obtain ⟨a1, a2⟩ := m5 (r * 12 + (c + i)) (by omega) ⟨by omega, by omega⟩
  rw [show 43 + (r * 12 + (c + i)) = 43 + 12 * r + (c + i) by omega] at a2
  subst hz
  rw [a2]
  by_cases q : f (43 + 12 * r + (c + i)) = nI 5
  · rw [if_pos (kc_1.mpr q), if_pos q, nI_add]
  · rw [if_neg (fun z => q (kc_1.mp z)), if_neg q]
theorem acc_0 {r c : Nat} : accQ f r c s = 0 ↔ ∀ i, i < s → ¬ f (43 + 12 * r + (c + i)) = nI 5 := by
  unfold accQ
  induction s with
  | zero => exact ⟨fun _ i hi => absurd hi (by omega), fun _ => rfl⟩
  | succ s ih =>
    show (if f (43 + 12 * r + (c + s)) = nI 5 then fo (fun i z => if f (43 + 12 * r + (c + i)) = nI 5 then z + 1 else z) s 0 + 1 else fo (fun i z => if f (43 + 12 * r + (c + i)) = nI 5 then z + 1 else z) s 0) = 0 ↔ _
    by_cases q : f (43 + 12 * r + (c + s)) = nI 5
    · rw [if_pos q]
      exact ⟨fun z => by omega, fun z => absurd q (z s (by omega))⟩
    · rw [if_neg q, ih]
      refine ⟨fun z i hi => ?_, fun z i hi => z i (by omega)⟩
      by_cases e : i = s
      · rw [e]; exact q
      · exact z i (by omega)
theorem fit_iff (hw : wHal f R C) (hh : mHal ha f R C) (hst : stOK st f n) (hpe : mPer pe f n) (htm : tm = f 8) (h1 : 1 ≤ S) (h2 : S < 2 ^ n) (hn : n ≤ 6) (hkd : kd < 2) (hs8 : s ≤ 8) {r c : Nat} (hr : r < R) (hc : c + s ≤ C) {g : Nat → Int32} : fitP (usV S ha st pe tm ct kd g) ha.2.1 s kd r c ↔ fitQ S n f C s ct kd r c := by
  have hacc := acc_eq (s := s) hw hh hr hc
  have hle : accQ f r c s ≤ s := accQ_le
  have hu : ∀ i, i < s → (¬ usV S ha st pe tm ct kd g (r * 12 + (c + i)) = nI 0 ↔ okQ S n f C ct (cmpQ S n f kd) r (c + i) ∧ (¬ f (43 + 12 * r + (c + i)) = nI 5 ∨ kd = 1)) := fun i hi => us_iff hw hh hst hpe htm h1 h2 hn hr (by omega)
  unfold fitP fitQ
  rw [hacc, nI_eq (by omega) (by decide)]
  constructor
  · rintro ⟨b1, b2⟩
    refine ⟨fun i hi => ((hu i hi).mp (b1 i hi)).1, ?_⟩
    rcases (show kd = 0 ∨ kd = 1 by omega) with rfl | rfl
    · refine acc_0.mpr fun i hi => ?_
      exact ((hu i hi).mp (b1 i hi)).2.resolve_right (by decide)
    · exact b2.resolve_left (by decide)
  · rintro ⟨b1, b2⟩
    rcases (show kd = 0 ∨ kd = 1 by omega) with rfl | rfl
    · have b3 := acc_0.mp b2
      exact ⟨fun i hi => (hu i hi).mpr ⟨b1 i hi, Or.inl (b3 i hi)⟩, Or.inl rfl⟩
    · exact ⟨fun i hi => (hu i hi).mpr ⟨b1 i hi, Or.inr rfl⟩, Or.inr b2⟩
theorem dis_eq (hfc : fc = f 6) (hC1 : 1 ≤ C) {r c : Nat} : disV C fc s r c = disQ f C s r c := by
  unfold disV disQ
  refine fo_congr _ fun i t hi => ?_
  unfold dstV dsqV
  rw [hfc, ← nI_sub hC1]
  have : ∀ x y : Int32, x - (y - nI 1) = x - y + nI 1 := by
    intro x y
    simp only [Int32.sub_eq_add_neg, Int32.neg_add, Int32.neg_neg, Int32.add_assoc]
  rw [this]
theorem one_fact : ∀ a, a < 64 → ∀ b, b < 64 → decide (nI a &&& (nI b ^^^ -nI 1) = nI 0) = (List.range 6).all (fun p => !a.testBit p || b.testBit p) := by decide +kernel
theorem one_iff {a b : Nat} (ha : a < 64) (hb : b < 64) : oneV (nI a) (nI b) = nI 0 ∧ (∀ p, p < 6 → a.testBit p = true → b.testBit p = true) ∨ oneV (nI a) (nI b) = nI 1 ∧ ¬ ∀ p, p < 6 → a.testBit p = true → b.testBit p = true := by
  have h := one_fact a ha b hb
  unfold oneV
  by_cases q : nI a &&& (nI b ^^^ -nI 1) = nI 0
  · left
    rw [if_pos q]
    rw [decide_eq_true q, eq_comm, List.all_eq_true] at h
    refine ⟨rfl, fun p hp hs => ?_⟩
    have := h p (List.mem_range.mpr hp)
    rw [hs] at this
    simpa using this
  · right
    rw [if_neg q]
    rw [decide_eq_false q, eq_comm] at h
    refine ⟨rfl, fun z => ?_⟩
    have : (List.range 6).all (fun p => !a.testBit p || b.testBit p) = true := by
      rw [List.all_eq_true]
      intro p hp
      cases hs : a.testBit p with
      | false => rfl
      | true => rw [z p (List.mem_range.mp hp) hs]; rfl
    rw [this] at h
    cases h
/-- what is free in a place, as bits -/
def frN (S : Nat) (st : Nat → Int32) (r c : Nat) : Nat := if c < 12 then frL S st (r * 12 + c) 6 else 0
theorem frN_lt {r c : Nat} : frN S st r c < 64 := by
  unfold frN
  split
  · exact frL_lt (by decide)
  · decide
theorem frN_bit (hw : wHal f R C) (hst : stOK st f n) (h2 : S < 2 ^ n) (hn : n ≤ 6) {r c p : Nat} (hr : r < R) : (frN S st r c).testBit p = true ↔ S.testBit p = true ∧ frQ f C p r c := by
  obtain ⟨w0, w1, w2, w3, w4, w5, w6, w7⟩ := hw
  unfold frN frQ
  by_cases q : c < 12
  · rw [if_pos q, frL_bit, decide_eq_true_iff]
    have hi : r * 12 + c < 96 := by omega
    have e0 : 43 + (r * 12 + c) = 43 + 12 * r + c := by omega
    have e1 : ∀ p, 139 + (96 * p + (r * 12 + c)) = 139 + (96 * p + 12 * r + c) := fun p => by omega
    constructor
    · rintro ⟨a1, a2, a3⟩
      obtain ⟨b1, b2, b3⟩ := (free_iff hst a1 hi).mp a3
      rw [e0] at b2
      rw [e1] at b3
      refine ⟨a2, Classical.byContradiction fun z => ?_, b2, b3⟩
      have := w7 (r * 12 + c) hi (fun w => z (by have := w.2; omega))
      rw [e0] at this
      exact b2 this
    · rintro ⟨a2, a3, a4, a5⟩
      have hp := bit_lt h2 a2
      refine ⟨by omega, a2, (free_iff hst (by omega) hi).mpr ⟨hp, ?_, ?_⟩⟩
      · rw [e0]; exact a4
      · rw [e1]; exact a5
  · rw [if_neg q, Nat.zero_testBit]
    exact ⟨fun z => (by cases z), fun z => absurd z.2.1 (by omega)⟩
theorem orp_eq (hw : wHal f R C) (hst : stOK st f n) (h1 : 1 ≤ S) (h2 : S < 2 ^ n) (hn : n ≤ 6) {r c : Nat} (hr : r < R) (hc : c < C) (hs8 : s ≤ 8) {g : Nat → Int32} : orpV (frV S st g) r c s = orqV S n f C r c s := by
  have hw2 := hw
  obtain ⟨w0, w1, w2, w3, w4, w5, w6, w7⟩ := hw
  have fa : ∀ c, faV (frV S st g) r c = nI (frN S st r c) := by
    intro c
    unfold faV frN frV sgA
    by_cases q : c < 12
    · rw [if_pos q, if_pos q, if_pos (by omega)]
    · rw [if_neg q, if_neg q]
  have fm : ∀ d, fmV (frV S st g) r c d = nI (if d ≤ c then frN S st r (c - d) else 0) := by
    intro d
    unfold fmV
    by_cases q : d ≤ c
    · rw [if_pos q, if_pos q]
      unfold frN frV sgA
      rw [if_pos (by omega), if_pos (by omega)]
    · rw [if_neg q, if_neg q]
  have lm : ∀ d, (if d ≤ c then frN S st r (c - d) else 0) < 64 := by
    intro d
    split
    · exact frN_lt
    · decide
  have bm : ∀ d p, (if d ≤ c then frN S st r (c - d) else 0).testBit p = true ↔ S.testBit p = true ∧ frM f C r c d p := by
    intro d p
    unfold frM
    by_cases q : d ≤ c
    · rw [if_pos q, frN_bit hw2 hst h2 hn hr]
      exact ⟨fun z => ⟨z.1, q, z.2⟩, fun z => ⟨z.1, z.2.2⟩⟩
    · rw [if_neg q, Nat.zero_testBit]
      exact ⟨fun z => (by cases z), fun z => absurd z.2.1 q⟩
  have gen : ∀ (a b : Nat) (P Q : Nat → Prop), a < 64 → b < 64 → (∀ p, a.testBit p = true ↔ S.testBit p = true ∧ P p) → (∀ p, b.testBit p = true ↔ S.testBit p = true ∧ Q p) → oneV (nI a) (nI b) = iteC (¬ ∀ p, p < n → S.testBit p = true → P p → Q p) (nI 1) (nI 0) := by
    intro a b P Q ha hb hP hQ
    have hiff : (∀ p, p < 6 → a.testBit p = true → b.testBit p = true) ↔ ∀ p, p < n → S.testBit p = true → P p → Q p := by
      constructor
      · intro z p hp hs hp1
        exact ((hQ p).mp (z p (by omega) ((hP p).mpr ⟨hs, hp1⟩))).2
      · intro z p hp hs
        obtain ⟨b1, b2⟩ := (hP p).mp hs
        exact (hQ p).mpr ⟨b1, z p (bit_lt h2 b1) b1 b2⟩
    rcases one_iff ha hb with ⟨q1, q2⟩ | ⟨q1, q2⟩
    · rw [q1, iteC_F (fun z => z (hiff.mp q2))]
    · rw [q1, iteC_T (fun z => q2 (hiff.mpr z))]
  unfold orpV orqV
  rw [fa, fa, fm, fm, gen _ _ _ _ (lm 1) (lm 2) (bm 1) (bm 2), gen _ _ (fun p => frQ f C p r (c + s)) (fun p => frQ f C p r (c + s + 1)) frN_lt frN_lt (fun p => frN_bit hw2 hst h2 hn hr) (fun p => frN_bit hw2 hst h2 hn hr)]
/-- a step's outcome on both sides -/
def jL (f : Nat → Int32) (S n R C s ct kd B : Nat) (q : W5) (t : F5) : Prop := ∃ k, k ≤ B ∧ q.1 = nI k ∧ t.1 = nI k ∧ (k = 0 ∨ ∃ r c, r < R ∧ c + s ≤ C ∧ fitQ S n f C s ct kd r c ∧ q.2.1 = nI r ∧ q.2.2.1 = nI c ∧ t.2.2.2.1 = nI r ∧ t.2.2.2.2 = nI c ∧ q.2.2.2.1 = disQ f C s r c ∧ t.2.2.1 = disQ f C s r c ∧ q.2.2.2.2 = orqV S n f C r c s ∧ t.2.1 = (if f 7 = nI 1 then orqV S n f C r c s else nI 0))
theorem jL_step (hw : wHal f R C) (hh : mHal ha f R C) (hst : stOK st f n) (hpe : mPer pe f n) (htm : tm = f 8) (hfc : fc = f 6) (hru : ru = f 7) (h7 : f 7 = nI 0 ∨ f 7 = nI 1) (h1 : 1 ≤ S) (h2 : S < 2 ^ n) (hn : n ≤ 6) (hkd : kd < 2) (hs1 : 1 ≤ s) (hs8 : s ≤ 8) {r c B : Nat} (hr : r < R) (hc : c + s ≤ C) (hB : B < 1000) {g g2 : Nat → Int32} {q : W5} {t : F5} (hJ : jL f S n R C s ct kd B q t) : jL f S n R C s ct kd (B + 1) (stpV (frV S st g) (usV S ha st pe tm ct kd g2) ha.2.1 C fc ru s kd r c q) (stpQ f S n C s ct kd r c t) := by
  have hfit := fit_iff (ct := ct) (g := g2) hw hh hst hpe htm h1 h2 hn hkd hs8 hr hc
  have hC1 : 1 ≤ C := hw.2.2.2.2.1
  unfold stpV stpQ
  by_cases hf : fitQ S n f C s ct kd r c
  · rw [if_pos (hfit.mpr hf), iteC_T hf]
    have hd : disV C fc s r c = disQ f C s r c := dis_eq hfc hC1
    have ho : orpV (frV S st g) r c s = orqV S n f C r c s := orp_eq hw hst h1 h2 hn hr (by omega) hs8
    unfold weiV weiQ
    rw [hd, ho]
    obtain ⟨k, hk, e1, e2, e3⟩ := hJ
    obtain ⟨q1, q2, q3, q4, q5⟩ := q
    obtain ⟨t1, t2, t3, t4, t5⟩ := t
    dsimp only at e1 e2 e3 ⊢
    subst e1 e2
    have hk1 : nI k + nI 1 = nI (k + 1) := nI_add k 1
    rw [hk1, hru]
    unfold betP
    dsimp only
    have c1 : nI (k + 1) = nI 1 ↔ k = 0 := by rw [nI_eq (by omega) (by decide)]; omega
    have c2 : nI k = nI 0 ↔ k = 0 := nI_eq (by omega) (by decide)
    have good : ∀ al, (if f 7 = nI 1 then orqV S n f C r c s else nI 0) = al → jL f S n R C s ct kd (B + 1) (nI (k + 1), nI r, nI c, disQ f C s r c, orqV S n f C r c s) (nI (k + 1), al, disQ f C s r c, nI r, nI c) := fun al hal => ⟨k + 1, by omega, rfl, rfl, Or.inr ⟨r, c, hr, hc, hf, rfl, rfl, rfl, rfl, rfl, rfl, rfl, hal.symm⟩⟩
    rcases e3 with k0 | ⟨r0, c0, g1, g2, g3, g4, g5, g6, g7, g8, g9, g10, g11⟩
    · rw [if_pos (Or.inl (c1.mpr k0)), if_pos (Or.inl (c2.mpr k0))]
      exact good _ rfl
    · by_cases k0 : k = 0
      · rw [if_pos (Or.inl (c1.mpr k0)), if_pos (Or.inl (c2.mpr k0))]
        exact good _ rfl
      have keep : jL f S n R C s ct kd (B + 1) (nI (k + 1), q2, q3, q4, q5) (nI (k + 1), t2, t3, t4, t5) := ⟨k + 1, by omega, rfl, rfl, Or.inr ⟨r0, c0, g1, g2, g3, g4, g5, g6, g7, g8, g9, g10, g11⟩⟩
      subst g8 g9 g10 g11
      rcases h7 with h7 | h7
      · have h71 : ¬ f 7 = nI 1 := by rw [h7]; decide
        rw [if_neg h71, if_neg h71, h7]
        by_cases hlt : disQ f C s r c < disQ f C s r0 c0
        · rw [if_pos (Or.inr (Or.inr ⟨Or.inl rfl, hlt⟩)), if_pos (Or.inr (Or.inr ⟨rfl, hlt⟩))]
          exact good _ (if_neg h71)
        · rw [if_neg (by rintro (z | z | z); exact k0 (c1.mp z); exact z.1 rfl; exact hlt z.2), if_neg (by rintro (z | z | z); exact k0 (c2.mp z); exact absurd z (by decide); exact hlt z.2)]
          rw [if_neg h71] at keep
          exact keep
      · have h70 : ¬ f 7 = nI 0 := by rw [h7]; decide
        rw [if_pos h7, if_pos h7]
        by_cases p1 : orqV S n f C r c s < orqV S n f C r0 c0 s
        · rw [if_pos (Or.inr (Or.inl ⟨h70, p1⟩)), if_pos (Or.inr (Or.inl p1))]
          exact good _ (if_pos h7)
        · by_cases p2 : orqV S n f C r c s = orqV S n f C r0 c0 s ∧ disQ f C s r c < disQ f C s r0 c0
          · rw [if_pos (Or.inr (Or.inr ⟨Or.inr p2.1, p2.2⟩)), if_pos (Or.inr (Or.inr p2))]
            exact good _ (if_pos h7)
          · rw [if_neg (by rintro (z | z | z); exact k0 (c1.mp z); exact p1 z.2; exact z.1.elim h70 (fun w => p2 ⟨w, z.2⟩)), if_neg (by rintro (z | z | z); exact k0 (c2.mp z); exact p1 z; exact p2 z)]
            rw [if_pos h7] at keep
            exact keep
  · rw [if_neg (fun z => hf (hfit.mp z)), iteC_F hf]
    obtain ⟨k, hk, e⟩ := hJ
    exact ⟨k, by omega, e⟩
theorem look_rel (hw : wHal f R C) (hh : mHal ha f R C) (hst : stOK st f n) (hpe : mPer pe f n) (htm : tm = f 8) (hfc : fc = f 6) (hru : ru = f 7) (h7 : f 7 = nI 0 ∨ f 7 = nI 1) (h1 : 1 ≤ S) (h2 : S < 2 ^ n) (hn : n ≤ 6) (hkd : kd < 2) (hs1 : 1 ≤ s) (hs8 : s ≤ 8) {fi : Fnd} {br bc : Int32} : ∃ k, k < 1000 ∧ (lookV ha fi st pe tm fc ru S s ct kd).2.2.2.1 = nI k ∧ (fndQ f S n R C s ct kd (nI 0, nI 0, nI 0, br, bc)).1 = nI k ∧ (k = 0 ∨ ∃ r c, r < R ∧ c + s ≤ C ∧ fitQ S n f C s ct kd r c ∧ (lookV ha fi st pe tm fc ru S s ct kd).2.2.2.2.1 = nI r ∧ (lookV ha fi st pe tm fc ru S s ct kd).2.2.2.2.2.1 = nI c ∧ (fndQ f S n R C s ct kd (nI 0, nI 0, nI 0, br, bc)).2.2.2.1 = nI r ∧ (fndQ f S n R C s ct kd (nI 0, nI 0, nI 0, br, bc)).2.2.2.2 = nI c ∧ (lookV ha fi st pe tm fc ru S s ct kd).2.2.2.2.2.2.1 = disQ f C s r c ∧ (lookV ha fi st pe tm fc ru S s ct kd).2.2.2.2.2.2.2 = orqV S n f C r c s) := by
  have hm1 : ha.2.2.1 = R := hh.1
  have hm2 : ha.2.2.2.1 = C := hh.2.1
  have hR8 : R ≤ 8 := hw.2.2.2.1
  have hC12 : C ≤ 12 := hw.2.2.2.2.2.1
  unfold lookV fin5 lokV fndQ
  dsimp only
  rw [hm1, hm2]
  have hJ := fo_rel (n := R) (fun r q t => jL f S n R C s ct kd (12 * r) q t) (g := fun r q => fo (fun c q => stpV (frV S st fi.1) (usV S ha st pe tm ct kd fi.2.1) ha.2.1 C fc ru s kd r c q) (C + 1 - s) q) (g' := fun r t => fo (fun c t => stpQ f S n C s ct kd r c t) (C + 1 - s) t) (fun r q t hr hq => by
    have := fo_rel (n := C + 1 - s) (fun c q t => jL f S n R C s ct kd (12 * r + c) q t) (g := fun c q => stpV (frV S st fi.1) (usV S ha st pe tm ct kd fi.2.1) ha.2.1 C fc ru s kd r c q) (g' := fun c t => stpQ f S n C s ct kd r c t) (fun c q t hc hq => jL_step (B := 12 * r + c) hw hh hst hpe htm hfc hru h7 h1 h2 hn hkd hs1 hs8 hr (by omega) (by omega) hq) hq
    obtain ⟨k, hk, e⟩ := this
    exact ⟨k, by omega, e⟩) (s := (nI 0, fi.2.2.2.2.1, fi.2.2.2.2.2.1, fi.2.2.2.2.2.2.1, fi.2.2.2.2.2.2.2)) (t := (nI 0, nI 0, nI 0, br, bc)) ⟨0, Nat.zero_le _, rfl, rfl, Or.inl rfl⟩
  obtain ⟨k, hk, e1, e2, e3⟩ := hJ
  refine ⟨k, by omega, e1, e2, e3.elim Or.inl (fun ⟨r, c, g1, g2, g3, g4, g5, g6, g7, g8, g9, g10, g11⟩ => Or.inr ⟨r, c, g1, g2, g3, g4, g5, g6, g7, g8, g10⟩)⟩
end FREL
