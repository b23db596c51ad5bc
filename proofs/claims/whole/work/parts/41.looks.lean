/-! what a clause says of one who would tell: a stack of truths -/
def tst (f : Nat → Nat) (x : Int) : Bool := if x.toNat / 8 % 4 = 0 then decide (f (x.toNat % 8) < x.toNat / 32) else if x.toNat / 8 % 4 = 1 then decide (f (x.toNat % 8) = x.toNat / 32) else decide (x.toNat / 32 < f (x.toNat % 8))
def stp (f : Nat → Nat) (x : Int) (st : List Bool) : List Bool :=
  if x = -1 then (match st with | b :: r => (!b) :: r | [] => []) else if x < 0 then (match st with | a :: b :: r => (if x = -2 then b && a else b || a) :: r | st => st) else tst f x :: st
def ev (f : Nat → Nat) : List Int → List Bool → List Bool
  | [], st => st
  | x :: xs, st => ev f xs (stp f x st)
def hol (f : Nat → Nat) (xs : List Int) : Bool := (ev f xs []).headD false
theorem dep_cons {x : Int} {xs : List Int} {st : List Bool} (f : Nat → Nat) (hx : stOk x) (hd : dep (x :: xs) st.length = some 1) (hl : st.length ≤ 20) :
    (x = -1 ∧ ∃ b r, st = b :: r ∧ dep xs (stp f x st).length = some 1 ∧ (stp f x st).length ≤ 20) ∨ (x < 0 ∧ x ≠ -1 ∧ ∃ a b r, st = a :: b :: r ∧ dep xs (stp f x st).length = some 1 ∧ (stp f x st).length ≤ 20) ∨ (¬ x < 0 ∧ st.length < 20 ∧ dep xs (stp f x st).length = some 1 ∧ (stp f x st).length ≤ 20) := by
  unfold dep at hd
  unfold stp
  by_cases h1 : x = -1
  · rw [if_pos h1] at hd
    refine Or.inl ⟨h1, ?_⟩
    cases st with
    | nil => rw [if_pos (show ([] : List Bool).length = 0 from rfl)] at hd; cases hd
    | cons b r =>
      rw [if_neg (by simp)] at hd
      refine ⟨b, r, rfl, ?_, ?_⟩
      · rw [if_pos h1]; exact hd
      · rw [if_pos h1]; exact hl
  rw [if_neg h1] at hd
  by_cases h2 : x < 0
  · rw [if_pos h2] at hd
    refine Or.inr (Or.inl ⟨h2, h1, ?_⟩)
    match st, hd, hl with
    | [], hd, _ => rw [if_pos (by decide)] at hd; cases hd
    | [a], hd, _ => rw [if_pos (show [a].length < 2 from by simp)] at hd; cases hd
    | a :: b :: r, hd, hl =>
      rw [if_neg (by simp)] at hd
      refine ⟨a, b, r, rfl, ?_, ?_⟩
      · rw [if_neg h1, if_pos h2]; exact hd
      · rw [if_neg h1, if_pos h2]; simp at hl ⊢; omega
  · rw [if_neg h2] at hd
    by_cases h3 : 20 ≤ st.length
    · rw [if_pos h3] at hd; cases hd
    · rw [if_neg h3] at hd
      refine Or.inr (Or.inr ⟨h2, by omega, ?_, ?_⟩)
      · rw [if_neg h1, if_neg h2]; exact hd
      · rw [if_neg h1, if_neg h2, List.length_cons]; omega
theorem en_bd {st : List Bool} (h : st.length ≤ 20) : en st < 2 ^ 20 := Nat.lt_of_lt_of_le (en_lt st) (Nat.pow_le_pow_right (by omega) h)
theorem hol_lp (N : Nat) (u : MM) (f : Nat → Nat) (K : Int32 → MM → Prop) (ci e : Nat) (hci : ci < 10) (he : u 17 ci = nI e) (he2 : e ≤ 100) (hf : ∀ w, w < 5 → u 3 w = nI (f w) ∧ f w < 10) : ∀ (xs : List Int) (i : Nat) (st : List Bool) (fl : Nat), i + xs.length = e → xs.length < fl → (∀ (j : Nat) (x : Int), xs[j]? = some x → stC u 10 (i + j) x) → (∀ x ∈ xs, stOk x) → dep xs st.length = some 1 → st.length ≤ 20 → K (nI (bn ((ev f xs st).headD false))) u → wX8_holds_b10 N K fl (nI ci) (nI (en st)) (nI i) u := by
  intro xs
  induction xs with
  | nil =>
    intro i st fl hi hfl hC hO hd hl hK
    obtain ⟨g, rfl⟩ : ∃ g, fl = g + 1 := ⟨fl - 1, by rw [List.length_nil] at hfl; omega⟩
    have h1 : st.length = 1 := by simpa [dep] using hd
    obtain ⟨b, rfl⟩ : ∃ b, st = [b] := List.length_eq_one_iff.mp h1
    have ei : i = e := by simpa using hi
    subst ei
    refine ⟨vp_in_nI hci (by omega), b_t (by rw [nI_clamp (by omega), he]; exact nI_le (by omega) (by omega)) ?_⟩
    have e1 : nI (en [b]) &&& 1 = nI (bn b) := en_low b 0 (by cases b <;> simp [bn])
    rw [e1]
    have hK2 : K (nI (bn b)) u := hK
    cases b
    · exact n_t (by decide) hK2
    · exact n_f rfl hK2
  | cons x xs ih =>
    intro i st fl hi hfl hC hO hd hl hK
    rw [List.length_cons] at hi hfl
    obtain ⟨g, rfl⟩ : ∃ g, fl = g + 1 := ⟨fl - 1, by omega⟩
    have hx : stOk x := hO x List.mem_cons_self
    have hCx : stC u 10 i x := hC 0 x rfl
    have nxt : ∀ st2 : List Bool, stp f x st = st2 → dep xs st2.length = some 1 → st2.length ≤ 20 → wX8_holds_b142 N K (wX8_holds_b10 N K g) (nI ci) (nI (en st2)) (nI i) u := by
      intro st2 e2 d2 l2 y17 e17
      rw [i_one] at e17
      subst e17
      refine ih (i + 1) st2 g (by omega) (by omega) (fun j y hj => ?_) (fun y hy => hO y (List.mem_cons_of_mem _ hy)) d2 l2 ?_
      · have := hC (j + 1) y (by simpa using hj)
        rw [show i + 1 + j = i + (j + 1) from by omega]; exact this
      · rw [← e2]; exact hK
    refine ⟨vp_in_nI hci (by omega), b_f (by rw [nI_clamp (by omega), he]; exact nI_ge (by omega) (by omega)) ⟨vp_in_nI (by omega) (by omega), ?_⟩⟩
    rw [nI_clamp (by omega)]
    intro y4 e4
    have bd := en_bd hl
    rcases dep_cons f hx hd hl with ⟨c1, b, r, rfl, d2, l2⟩ | ⟨c1, c2, a, b, r, rfl, d2, l2⟩ | ⟨c1, c2, d2, l2⟩
    · have c0 : x < 0 := by omega
      unfold stC at hCx
      rw [if_pos c0, c1] at hCx
      have ey : y4 = -1 := e4.trans hCx
      refine n_f ey (fun y14 e14 => ?_)
      rw [en, en_not] at e14
      subst e14
      have es : stp f x (b :: r) = (!b) :: r := by unfold stp; rw [if_pos c1]
      rw [es] at d2 l2
      exact nxt ((!b) :: r) es d2 l2
    · unfold stC at hCx
      rw [if_pos c1] at hCx
      have hx2 : x = -2 ∨ x = -3 := by
        rcases hx with h | h | h | ⟨w, hh, v, -, -, -, h⟩
        · exact absurd h c2
        · exact Or.inl h
        · exact Or.inr h
        · omega
      have es : stp f x (a :: b :: r) = (if x = -2 then b && a else b || a) :: r := by unfold stp; rw [if_neg c2, if_pos c1]
      rw [es] at d2 l2
      rw [en, en] at bd
      rcases hx2 with rfl | rfl
      · have ey : y4 = -2 := e4.trans hCx
        refine n_t (by rw [ey]; decide) (n_f ey (fun y13 e13 => ?_))
        rw [en, en, en_and _ _ _ (by omega)] at e13
        subst e13
        rw [if_pos rfl] at es d2 l2
        exact nxt _ es d2 l2
      · have ey : y4 = -3 := e4.trans hCx
        refine n_t (by rw [ey]; decide) (n_t (by rw [ey]; decide) (n_f ey (fun y12 e12 => ?_)))
        rw [en, en, en_or _ _ _ (by omega)] at e12
        subst e12
        rw [if_neg (by decide)] at es d2 l2
        exact nxt _ es d2 l2
    · unfold stC at hCx
      rw [if_neg c1] at hCx
      obtain ⟨w, hh, v, hw, hh3, hv, hxe⟩ : ∃ w h v : Nat, w < 5 ∧ h < 3 ∧ v < 100 ∧ x = w + 8 * h + 32 * v := by
        rcases hx with h | h | h | h
        · omega
        · omega
        · omega
        · exact h
      have t0 : x.toNat = w + 8 * hh + 32 * v := by omega
      have tw : x.toNat % 8 = w := by omega
      have th : x.toNat / 8 % 4 = hh := by omega
      have tv : x.toNat / 32 = v := by omega
      rw [tw, th, tv] at hCx
      obtain ⟨k8, k9⟩ := hCx
      have ey : y4 = nI w := e4.trans k8
      obtain ⟨fw, fl⟩ := hf w hw
      have es : stp f x st = tst f x :: st := by unfold stp; rw [if_neg (by omega), if_neg c1]
      rw [es] at d2 l2
      have et : tst f x = if hh = 0 then decide (f w < v) else if hh = 1 then decide (f w = v) else decide (v < f w) := by unfold tst; rw [tw, th, tv]
      have fin : ∀ b : Bool, tst f x = b → wX8_holds_b140 N K (wX8_holds_b10 N K g) (nI ci) (nI i) (nI (bn b)) (nI (en st) <<< ((1 : Int32) &&& 31)) u := by
        intro b eb y16 e16
        rw [en_push _ _ (by omega)] at e16
        subst e16
        rw [eb] at es d2 l2
        exact nxt (b :: st) es d2 l2
      subst ey
      refine n_t (by rw [show (-1 : Int32) = -1 from rfl]; exact nI_m1 (by omega)) (n_t ?_ (n_t ?_ (b_f (nI_pos (by omega)) (b_f (nI_ge (a := w) (b := 5) hw (by omega)) ⟨vp_in_nI hw (by omega), vp_in_nI (by omega) (by omega), ?_⟩))))
      · intro z
        have := congrArg Int32.toInt z
        rw [nI_toInt (by omega)] at this
        have e2 : ((-2 : Int32)).toInt = -2 := by decide
        omega
      · intro z
        have := congrArg Int32.toInt z
        rw [nI_toInt (by omega)] at this
        have e2 : ((-3 : Int32)).toInt = -3 := by decide
        omega
      rw [nI_clamp (by omega), fw]
      have yes : tst f x = true → wX8_holds_b125 N K (wX8_holds_b10 N K g) (nI ci) (nI (en st)) (nI i) 1 u := fun z => b_f (by decide) (fin true z)
      have no : tst f x = false → wX8_holds_b124 N K (wX8_holds_b10 N K g) (nI ci) (nI (en st)) (nI i) u := fun z => b_t rfl (fin false z)
      rw [et] at yes no
      have h3 : hh = 0 ∨ hh = 1 ∨ hh = 2 := by omega
      rcases h3 with rfl | rfl | rfl
      · rw [if_pos rfl] at k9 yes no
        obtain ⟨k9, k10⟩ := k9
        show ((nI (f w) < u 19 i → _) ∧ (¬ nI (f w) < u 19 i → _))
        rw [show u 19 i = 0 from k9, show u 20 i = nI v - 1 from k10]
        refine b_f (nI_pos (by omega)) ⟨vp_in_nI hw (by omega), vp_in_nI (by omega) (by omega), ?_⟩
        rcases Nat.eq_zero_or_pos v with h0 | h0
        · subst h0
          refine b_t ?_ (no (by simp))
          rw [Int32.lt_iff_toInt_lt, nI_toInt (by omega), show (nI 0 - 1).toInt = -1 from by decide]
          omega
        · obtain ⟨v2, rfl⟩ : ∃ k, v = k + 1 := ⟨v - 1, by omega⟩
          rw [i_sub1]
          by_cases hc : f w < v2 + 1
          · exact b_f (nI_nlt (by omega) (by omega)) (yes (decide_eq_true hc))
          · exact b_t (nl_lt (by omega) (by omega)) (no (decide_eq_false hc))
      · rw [if_neg (by decide), if_pos rfl] at k9 yes no
        obtain ⟨k9, k10⟩ := k9
        show ((nI (f w) < u 19 i → _) ∧ (¬ nI (f w) < u 19 i → _))
        rw [show u 19 i = nI v from k9, show u 20 i = nI v from k10]
        by_cases hc : f w < v
        · exact b_t (nl_lt hc (by omega)) (no (decide_eq_false (by omega)))
        · refine b_f (nI_nlt (by omega) (by omega)) ⟨vp_in_nI hw (by omega), vp_in_nI (by omega) (by omega), ?_⟩
          by_cases hc2 : v < f w
          · exact b_t (nl_lt hc2 (by omega)) (no (decide_eq_false (by omega)))
          · exact b_f (nI_nlt (by omega) (by omega)) (yes (decide_eq_true (by omega)))
      · rw [if_neg (by decide), if_neg (by decide)] at k9 yes no
        obtain ⟨k9, k10⟩ := k9
        show ((nI (f w) < u 19 i → _) ∧ (¬ nI (f w) < u 19 i → _))
        rw [show u 19 i = nI (v + 1) from k9.trans i_one, show u 20 i = nI 99 from k10]
        by_cases hc : v < f w
        · exact b_f (nI_nlt (by omega) (by omega)) ⟨vp_in_nI hw (by omega), vp_in_nI (by omega) (by omega), b_f (nI_nlt (by omega) (by omega)) (yes (decide_eq_true hc))⟩
        · exact b_t (nl_lt (by omega) (by omega)) (no (decide_eq_false hc))
