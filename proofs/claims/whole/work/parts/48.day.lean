/-! a day, as numbers -/
def tll (w : Wd) (p : Nat) : Bool := (wH w).testBit p && !(wT w).testBit p
def chs (c : Cx) (w : Wd) (x st p : Nat) : Nat := if tll w p = true then (if p = x then st else choF c w p) else 0
def dfB (c : Cx) (w : Wd) (z o : Nat) : Bool := decide (o = z) || (decide (cK c o = 5) && decide (wD w % (cV c o + 2) = 0))
def dfL (c : Cx) (d : Nat) : Nat → Nat
  | 0 => 0
  | j + 1 => if cK c j = 5 ∧ d % (cV c j + 2) = 0 then dfL c d j ||| 2 ^ j else dfL c d j
def dfN (c : Cx) (w : Wd) (z : Nat) : Nat := dfL c (wD w) (cN c) ||| (if z = 7 then 0 else 2 ^ z)
def cmb (lw cur n : Nat) : Nat := if cur = 10 then n else if lw % 2 = 1 then (if cur < n then n else cur) else (if n < cur then n else cur)
def les (c : Cx) (w : Wd) (p : Nat) : Nat := wN w p - cF c
def numP (c : Cx) (w : Wd) (x st o : Nat) : Nat → Nat
  | 0 => 10
  | j + 1 => if (chs c w x st j).testBit o = true then cmb (cL_ c) (numP c w x st o j) (les c w j) else numP c w x st o j
def finP (c : Cx) (w : Wd) (x st : Nat) : Nat → Nat
  | 0 => 0
  | j + 1 => finP c w x st j + (if tll w j = true then (askF c w j - pc (chs c w x st j)) * fineF c w j else 0)
def hrP (c : Cx) (w : Wd) (x st df : Nat) : Nat → Nat
  | 0 => 0
  | j + 1 => hrP c w x st df j ||| wo (chs c w x st j) df
def hrF (c : Cx) (w : Wd) (x st z : Nat) : Nat := hrP c w x st (dfN c w z) (cN c)
def dayW (c : Cx) (w : Wd) (x st z : Nat) : Wd := ((wD w + 1, wF w + nI (finP c w x st (cN c)), wH w ||| hrF c w x st z, wT w ||| wH w), (fun p => if (hrF c w x st z).testBit p = true then numP c w x st p (cN c) else wN w p), fun p => if (hrF c w x st z).testBit p = true then nI (wD w) else wY w p)
def chOk (c : Cx) (w : Wd) (x st : Nat) : Prop := x ≤ 7 ∧ (x < 7 → tll w x = true → st &&& mayF c w x = st ∧ pc st ≤ askF c w x)
theorem bit_lt {a n p : Nat} (h : a < 2 ^ n) (hb : a.testBit p = true) : p < n := by
  rcases Nat.lt_or_ge p n with z | z
  · exact z
  · rw [Nat.testBit_lt_two_pow (Nat.lt_of_lt_of_le h (Nat.pow_le_pow_right (by omega) z))] at hb; cases hb
theorem tll_hd {w : Wd} {p : Nat} (h : tll w p = true) : (wH w).testBit p = true := by
  unfold tll at h
  rw [Bool.and_eq_true] at h
  exact h.1
theorem chs_lt {c : Cx} {w : Wd} {x st : Nat} (hc : CxOk c) (h : chOk c w x st) (j : Nat) (hj : j < 7) : chs c w x st j < 2 ^ cN c := by
  have p0 : (0 : Nat) < 2 ^ cN c := Nat.pow_pos (by omega)
  unfold chs
  split
  · rename_i ht
    split
    · rename_i hx
      subst hx
      have := (h.2 hj ht).1
      have hm := mayF_lt (c := c) (w := w) (one := j)
      rw [← this]
      exact Nat.lt_of_le_of_lt Nat.and_le_right hm
    · exact cho_lt hc.1 8 _ 0 0 mayF_lt p0
  · exact p0
theorem chs_bit {c : Cx} {w : Wd} {x st : Nat} (hc : CxOk c) (h : chOk c w x st) {j p : Nat} (hj : j < 7) (hp : p < 7) (hb : (chs c w x st j).testBit p = true) : tll w j = true ∧ (wH w).testBit p = false := by
  unfold chs at hb
  split at hb
  · rename_i ht
    refine ⟨ht, ?_⟩
    split at hb
    · rename_i hx
      subst hx
      have := (h.2 hj ht).1
      rw [← this, Nat.testBit_and, Bool.and_eq_true] at hb
      exact mayF_hd hb.2
    · rcases cho_bit hc.1 p hp 8 _ 0 0 mayF_lt (by omega) hb with z | z
      · rw [Nat.zero_testBit] at z; cases z
      · exact mayF_hd z
  · rw [Nat.zero_testBit] at hb; cases hb
theorem pc00 : pc 0 = 0 := rfl
theorem chs_pc {c : Cx} {w : Wd} {x st : Nat} (hc : CxOk c) (h : chOk c w x st) {j : Nat} (hj : j < 7) (ht : tll w j = true) : pc (chs c w x st j) ≤ askF c w j := by
  unfold chs
  rw [if_pos ht]
  split
  · rename_i hx
    subst hx
    exact (h.2 hj ht).2
  · exact cho_pc hc.1 8 _ 0 0 mayF_lt (by omega) (by rw [pc00]; omega) (by omega)
theorem dfL_lt {c : Cx} {d : Nat} : ∀ j, dfL c d j < 2 ^ j
  | 0 => by unfold dfL; omega
  | j + 1 => by
    have ih := dfL_lt (c := c) (d := d) j
    have h2 : (2 : Nat) ^ j < 2 ^ (j + 1) := Nat.pow_lt_pow_right (by omega) (by omega)
    unfold dfL
    split
    · exact Nat.or_lt_two_pow (by omega) h2
    · omega
theorem dfL_bit {c : Cx} {d p : Nat} : ∀ j, (dfL c d j).testBit p = (decide (p < j) && (decide (cK c p = 5) && decide (d % (cV c p + 2) = 0)))
  | 0 => by unfold dfL; rw [Nat.zero_testBit]; simp
  | j + 1 => by
    have ih := dfL_bit (c := c) (d := d) (p := p) j
    unfold dfL
    by_cases hp : p = j
    · subst hp
      have e0 : (dfL c d p).testBit p = false := Nat.testBit_lt_two_pow (dfL_lt p)
      split
      · rename_i h
        rw [Nat.testBit_or, Nat.testBit_two_pow, h.1, h.2]; simp
      · rename_i h
        rw [e0]
        by_cases h1 : cK c p = 5
        · have h2 : ¬ d % (cV c p + 2) = 0 := fun z => h ⟨h1, z⟩
          simp [h2]
        · simp [h1]
    · have e1 : decide (p < j + 1) = decide (p < j) := by
        by_cases z : p < j
        · rw [decide_eq_true z, decide_eq_true (by omega)]
        · rw [decide_eq_false z, decide_eq_false (by omega)]
      rw [e1, ← ih]
      split
      · rw [Nat.testBit_or, Nat.testBit_two_pow, decide_eq_false (fun z => hp z.symm), Bool.or_false]
      · rfl
theorem dfN_lt {c : Cx} {w : Wd} {z : Nat} (hc : CxOk c) (hz : z ≤ 7) : dfN c w z < 128 := by
  unfold dfN
  refine Nat.or_lt_two_pow (n := 7) (lt128 (dfL_lt _) hc.1) ?_
  split
  · omega
  · exact pow_lt (by omega)
theorem dfN_bit {c : Cx} {w : Wd} {z p : Nat} (hz : z ≤ 7) (hp : p < cN c) (hp7 : p < 7) : (dfN c w z).testBit p = dfB c w z p := by
  unfold dfN dfB
  rw [Nat.testBit_or, dfL_bit, decide_eq_true hp, Bool.true_and, Bool.or_comm]
  congr 1
  split
  · rename_i h
    rw [Nat.zero_testBit, decide_eq_false (by omega)]
  · rw [Nat.testBit_two_pow]
    by_cases e : p = z
    · rw [decide_eq_true e, decide_eq_true e.symm]
    · rw [decide_eq_false e, decide_eq_false (fun y => e y.symm)]
theorem cmb_lt {lw cur n : Nat} (h : cur ≤ 10) (hn : n < 10) : cmb lw cur n < 10 := by
  unfold cmb
  split
  · exact hn
  · split
    · split <;> omega
    · split <;> omega
theorem les_lt {c : Cx} {w : Wd} {j : Nat} (hw : WdOk c w) (hj : j < 7) (ht : tll w j = true) : les c w j < 10 := by
  have := hw.2.2.2 j hj (tll_hd ht)
  unfold les
  omega
theorem numP_le {c : Cx} {w : Wd} {x st : Nat} (hc : CxOk c) (hw : WdOk c w) (h : chOk c w x st) {o : Nat} (ho : o < 7) : ∀ j, j ≤ 7 → numP c w x st o j ≤ 10
  | 0, _ => Nat.le_refl _
  | j + 1, hj => by
    have ih := numP_le hc hw h ho j (by omega)
    unfold numP
    split
    · rename_i hb
      exact Nat.le_of_lt (cmb_lt ih (les_lt hw (by omega) (chs_bit hc h (by omega) ho hb).1))
    · exact ih
theorem hrP_bit {c : Cx} {w : Wd} {x st df : Nat} (hc : CxOk c) (hw : WdOk c w) (h : chOk c w x st) (hd : df < 128) {o : Nat} (ho : o < 7) : ∀ j, j ≤ 7 → (hrP c w x st df j).testBit o = (decide (numP c w x st o j < 10) && !df.testBit o)
  | 0, _ => by unfold hrP numP; rw [Nat.zero_testBit]; rfl
  | j + 1, hj => by
    have ih := hrP_bit hc hw h hd ho j (by omega)
    have c7 : chs c w x st j < 128 := lt128 (chs_lt hc h j (by omega)) hc.1
    unfold hrP numP
    rw [Nat.testBit_or, ih, wo_bit _ c7 _ hd o ho]
    cases hb : (chs c w x st j).testBit o
    · simp
    · have h2 := cmb_lt (lw := cL_ c) (numP_le hc hw h ho j (by omega)) (les_lt hw (show j < 7 by omega) (chs_bit hc h (by omega) ho hb).1)
      rw [if_pos rfl, decide_eq_true h2]
      cases decide (numP c w x st o j < 10) <;> cases df.testBit o <;> rfl
theorem hrP_lt {c : Cx} {w : Wd} {x st df : Nat} (hc : CxOk c) (h : chOk c w x st) : ∀ j, j ≤ 7 → hrP c w x st df j < 2 ^ cN c
  | 0, _ => Nat.pow_pos (by omega)
  | j + 1, hj => Nat.or_lt_two_pow (hrP_lt hc h j (by omega)) (wo_ltn (chs_lt hc h j (by omega)))
theorem hrP_hd {c : Cx} {w : Wd} {x st df : Nat} (hc : CxOk c) (h : chOk c w x st) (hd : df < 128) {o : Nat} (ho : o < 7) : ∀ j, j ≤ 7 → (hrP c w x st df j).testBit o = true → (wH w).testBit o = false
  | 0, _, hb => by unfold hrP at hb; rw [Nat.zero_testBit] at hb; cases hb
  | j + 1, hj, hb => by
    have c7 : chs c w x st j < 128 := lt128 (chs_lt hc h j (by omega)) hc.1
    unfold hrP at hb
    rw [Nat.testBit_or, wo_bit _ c7 _ hd o ho, Bool.or_eq_true, Bool.and_eq_true] at hb
    rcases hb with hb | hb
    · exact hrP_hd hc h hd ho j (by omega) hb
    · exact (chs_bit hc h (by omega) ho hb.1).2
theorem dayW_ok {c : Cx} {w : Wd} {x st z : Nat} (hc : CxOk c) (hw : WdOk c w) (h : chOk c w x st) (hz : z ≤ 7) (hD : wD w < 1999) : WdOk c (dayW c w x st z) := by
  have hn := hc.1
  refine ⟨by show wD w + 1 < 2000; omega, Nat.or_lt_two_pow hw.2.1 (hrP_lt hc h _ hn), Nat.or_lt_two_pow hw.2.2.1 hw.2.1, fun p hp hb => ?_⟩
  show (if (hrF c w x st z).testBit p = true then numP c w x st p (cN c) else wN w p) < 10
  have hb2 : (wH w ||| hrF c w x st z).testBit p = true := hb
  rw [Nat.testBit_or, Bool.or_eq_true] at hb2
  split
  · rename_i hh
    unfold hrF at hh
    rw [hrP_bit hc hw h (dfN_lt hc hz) hp _ hn, Bool.and_eq_true] at hh
    exact of_decide_eq_true hh.1
  · rename_i hh
    exact hw.2.2.2 p hp (hb2.resolve_right hh)
/-! the word with other fines -/
def wX (w : Wd) (F : Int32) : Wd := ((wD w, F, wH w, wT w), wN w, wY w)
theorem mayL_wX (c : Cx) (w : Wd) (F : Int32) (p : Nat) : ∀ r j a, mayL c (wX w F) p r j a = mayL c w p r j a
  | 0, _, _ => rfl
  | r + 1, j, a => by
    rw [mayL, mayL, mayL_wX c w F p r]
    rfl
theorem mayF_wX (c : Cx) (w : Wd) (F : Int32) (p : Nat) : mayF c (wX w F) p = mayF c w p := mayL_wX c w F p _ _ _
theorem fineF_wX (c : Cx) (w : Wd) (F : Int32) (p : Nat) : fineF c (wX w F) p = fineF c w p := rfl
theorem askF_wX (c : Cx) (w : Wd) (F : Int32) (p : Nat) : askF c (wX w F) p = askF c w p := rfl
theorem choF_wX (c : Cx) (w : Wd) (F : Int32) (p : Nat) : choL c p (askF c w p) 8 (mayF c (wX w F) p) 0 0 = choF c w p := by rw [mayF_wX]; rfl
theorem wX_ok {c : Cx} {w : Wd} {F : Int32} (h : WdOk c w) : WdOk c (wX w F) := h
theorem oi_eq {j x : Nat} (hj : j < 7) (hx : x ≤ 7) : nI j = oi x ↔ j = x := by
  unfold oi
  by_cases h : x = 7
  · rw [if_pos h]
    exact ⟨fun z => absurd z (nI_m1 (by omega)), fun z => by omega⟩
  · rw [if_neg h]
    exact nI_eq (by omega) (by omega)
theorem les_val : ∀ a, a < 10 → ∀ b, b < 100 → (if (0 : Int32) < nI a - nI b then nI a - nI b else 0) = nI (a - b) := by decide +kernel
