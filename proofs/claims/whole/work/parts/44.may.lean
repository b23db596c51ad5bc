def mayS (c : Cx) (w : Wd) (one j : Nat) : Bool := (cB c one).testBit j && (!(wH w).testBit j && !(shn (fct c w one j) (cP c)))
def mayL (c : Cx) (w : Wd) (one : Nat) : Nat → Nat → Nat → Nat
  | 0, _, a => a
  | r + 1, j, a => mayL c w one r (j + 1) (if mayS c w one j = true then a ||| 2 ^ j else a)
def mayF (c : Cx) (w : Wd) (one : Nat) : Nat := mayL c w one (cN c) 0 0
theorem mayL_lt (c : Cx) (w : Wd) (one n : Nat) : ∀ (r j a : Nat), r + j = n → a < 2 ^ n → mayL c w one r j a < 2 ^ n
  | 0, j, a, _, h => h
  | r + 1, j, a, e, h => by
    rw [mayL]
    refine mayL_lt c w one n r (j + 1) _ (by omega) ?_
    split
    · exact Nat.or_lt_two_pow h (Nat.pow_lt_pow_right (by omega) (by omega))
    · exact h
theorem mayL_bit (c : Cx) (w : Wd) (one p : Nat) : ∀ (r j a : Nat), (mayL c w one r j a).testBit p = true → a.testBit p = true ∨ mayS c w one p = true
  | 0, j, a, h => Or.inl h
  | r + 1, j, a, h => by
    rw [mayL] at h
    rcases mayL_bit c w one p r (j + 1) _ h with h2 | h2
    · split at h2
      · rename_i hs
        rw [Nat.testBit_or, Bool.or_eq_true] at h2
        rcases h2 with h2 | h2
        · exact Or.inl h2
        · rw [Nat.testBit_two_pow] at h2
          have : j = p := of_decide_eq_true h2
          subst this
          exact Or.inr hs
      · exact Or.inl h2
    · exact Or.inr h2
theorem mayF_lt {c : Cx} {w : Wd} {one : Nat} : mayF c w one < 2 ^ cN c := mayL_lt c w one (cN c) (cN c) 0 0 (by omega) (Nat.pow_pos (by omega))
theorem mayF_hd {c : Cx} {w : Wd} {one p : Nat} (h : (mayF c w one).testBit p = true) : (wH w).testBit p = false := by
  rcases mayL_bit c w one p _ _ _ h with h | h
  · rw [Nat.zero_testBit] at h; cases h
  · unfold mayS at h
    rw [Bool.and_eq_true, Bool.and_eq_true] at h
    simpa using h.2.1
theorem may_lp (N o : Nat) (c : Cx) (w : Wd) (one : Nat) (u : MM) (K : Int32 → MM → Prop) (hN : 101 ≤ N) (hc : CxOk c) (hu : CxU u c) (hw : WdOk c w) (wu : WdU u o w) (ho : 7 ≤ o) (h1 : one < 7) (k : ∀ u' : MM, (∀ a, a ≠ 3 → u' a = u a) → K (nI (mayF c w one)) u') : ∀ (r j a fl : Nat) (u1 : MM), r + j = cN c → r < fl → a < 128 → mayL c w one r j a = mayF c w one → (∀ b, b ≠ 3 → u1 b = u b) → wX7_mayOf_b5 N K o fl (nI one) (nI a) (nI j) u1 := by
  intro r
  induction r with
  | zero =>
    intro j a fl u1 hj hfl ha hm hf
    obtain ⟨g, rfl⟩ : ∃ g, fl = g + 1 := ⟨fl - 1, by omega⟩
    have hn := hc.1
    refine b_t (by rw [hf 21 (by omega), hu.1]; exact nI_le (by omega) (by omega)) ?_
    have : a = mayF c w one := hm
    rw [this]
    exact k u1 hf
  | succ r ih =>
    intro j a fl u1 hj hfl ha hm hf
    obtain ⟨g, rfl⟩ : ∃ g, fl = g + 1 := ⟨fl - 1, by omega⟩
    have hn := hc.1
    have hj7 : j < 7 := by omega
    have hn7 : wH w < 128 := lt128 hw.2.1 hc.1
    have hB := (hc.2.1 one h1).2.2.1
    rw [mayL] at hm
    have nxt : ∀ (b : Nat) (u2 : MM), b < 128 → (if mayS c w one j = true then a ||| 2 ^ j else a) = b → (∀ d, d ≠ 3 → u2 d = u d) → wX7_mayOf_b85 N K o (wX7_mayOf_b5 N K o g) (nI one) (nI b) (nI j) u2 := by
      intro b u2 hb eb hf2 y12 e12
      rw [i_one] at e12
      subst e12
      rw [eb] at hm
      exact ih (j + 1) b g u2 (by omega) (by omega) hb hm hf2
    refine b_f (by rw [hf 21 (by omega), hu.1]; exact nI_ge (by omega) (by omega)) ⟨vp7 h1, ?_⟩
    rw [cl7 (by omega), hf 24 (by omega), (hu.2.1 one h1).2.2.1, hf o (by omega), wu.2.2.1]
    have hno : mayS c w one j = false → wX7_mayOf_b85 N K o (wX7_mayOf_b5 N K o g) (nI one) (nI a) (nI j) u1 := fun z => nxt a u1 ha (by rw [z]; rfl) hf
    cases hk : (cB c one).testBit j
    · exact hb_no hB hj7 hk (b_t rfl (hno (by unfold mayS; rw [hk]; rfl)))
    · refine hb_yes hB hj7 hk (b_f (by decide) ?_)
      cases hh : (wH w).testBit j
      · refine hb_no hn7 hj7 hh (n_f rfl ?_)
        have hu1 : CxU u1 c := hu.same (fun k a b => hf k (by omega))
        have wu1 : WdU u1 o w := wu.same (hf _ (by omega)) (hf _ (by omega)) (hf _ (by omega))
        refine setF_c hc hu1 hw wu1 ho h1 (by omega) (fun u2 fr2 hF => ?_)
        have hf2 : ∀ d, d ≠ 3 → u2 d = u d := fun d hd => (fr2 d hd).trans (hf d hd)
        have hP : CP u2 10 (cP c) := hu.2.2.2.2.2.rows (fun k a b => hf2 k (by omega))
        refine weigh_c (kd := 0) hN (by omega) hP hc.2.2.2.2.2.1 hF ?_
        have hi := shn_iff (fct c w one j) (cP c) hc.2.2.2.2.2.1
        have hl := wgh_le 0 (fct c w one j) (cP c) (fun d hd => (hc.2.2.2.2.2.1 d hd).2.1)
        have hl2 := hc.2.2.2.2.2.2
        have ez : nI (wgh 0 (fct c w one j) (cP c)) = 0 ↔ wgh 0 (fct c w one j) (cP c) = 0 := nI_eq (b := 0) (by omega) (by omega)
        cases hs : shn (fct c w one j) (cP c)
        · refine n_f (ez.mpr (hi.mp hs)) (fun y11 e11 => ?_)
          rw [shl_val j hj7, nor_] at e11
          subst e11
          exact nxt _ u2 (Nat.or_lt_two_pow (n := 7) ha (pow_lt hj7)) (by unfold mayS; rw [hk, hh, hs]; rfl) hf2
        · refine n_t (fun z => ?_) (nxt a u2 ha (by unfold mayS; rw [hk, hh, hs]; rfl) hf2)
          rw [hi.mpr (ez.mp z)] at hs
          cases hs
      · exact hb_yes hn7 hj7 hh (n_t (by decide) (hno (by unfold mayS; rw [hk, hh]; rfl)))
theorem may_c {N o : Nat} {c : Cx} {w : Wd} {one : Nat} {u : MM} {K : Int32 → MM → Prop} (hN : 101 ≤ N) (hc : CxOk c) (hu : CxU u c) (hw : WdOk c w) (wu : WdU u o w) (ho : 7 ≤ o) (h1 : one < 7) (k : ∀ u' : MM, (∀ a, a ≠ 3 → u' a = u a) → K (nI (mayF c w one)) u') : wX7_mayOf N o (nI one) u K :=
  may_lp N o c w one u K hN hc hu hw wu ho h1 k (cN c) 0 0 N u (by omega) (by have := hc.1; omega) (by omega) rfl (fun _ _ => rfl)
theorem maym_lp (N : Nat) (c : Cx) (w : Wd) (one : Nat) (v : MM) (K : Int32 → MM → Prop) (hN : 200 ≤ N) (hc : CxOk c) (hv : CxV (v 1) c) (hw : WdOk c w) (wv : WdV (v 1) w) (h1 : one < 7) (k : ∀ v' : MM, mR v v' → K (nI (mayF c w one)) v') : ∀ (r j a fl : Nat) (v1 : MM), r + j = cN c → r < fl → a < 128 → mayL c w one r j a = mayF c w one → mR v v1 → wX11_mayOf_b4 N K fl (nI one) (nI a) (nI j) v1 := by
  intro r
  induction r with
  | zero =>
    intro j a fl v1 hj hfl ha hm hf
    obtain ⟨g, rfl⟩ : ∃ g, fl = g + 1 := ⟨fl - 1, by omega⟩
    have hn := hc.1
    refine b_t (by rw [hf.1 1 (by omega) (by omega) (by omega), hv.1]; exact nI_le (by omega) (by omega)) ?_
    have : a = mayF c w one := hm
    rw [this]
    exact k v1 hf
  | succ r ih =>
    intro j a fl v1 hj hfl ha hm hf
    obtain ⟨g, rfl⟩ : ∃ g, fl = g + 1 := ⟨fl - 1, by omega⟩
    have hn := hc.1
    have hj7 : j < 7 := by omega
    have hn7 : wH w < 128 := lt128 hw.2.1 hc.1
    have hB := (hc.2.1 one h1).2.2.1
    have q1 : v1 1 = v 1 := hf.1 1 (by omega) (by omega) (by omega)
    rw [mayL] at hm
    have nxt : ∀ (b : Nat) (v2 : MM), b < 128 → (if mayS c w one j = true then a ||| 2 ^ j else a) = b → mR v v2 → wX11_mayOf_b63 N K (wX11_mayOf_b4 N K g) (nI one) (nI b) (nI j) v2 := by
      intro b v2 hb eb hf2 y12 e12
      rw [i_one] at e12
      subst e12
      rw [eb] at hm
      exact ih (j + 1) b g v2 (by omega) (by omega) hb hm hf2
    refine b_f (by rw [q1, hv.1]; exact nI_ge (by omega) (by omega)) ?_
    rw [i38, nI_clamp (by omega), q1, (hv.2.1 one h1).2.2.1, bit_val _ hB j hj7]
    refine ⟨vp_in_nI (by omega) (by omega), ?_⟩
    have hno : mayS c w one j = false → wX11_mayOf_b63 N K (wX11_mayOf_b4 N K g) (nI one) (nI a) (nI j) v1 := fun z => nxt a v1 ha (by rw [z]; rfl) hf
    cases hk : (cB c one).testBit j
    · exact n_t (by decide) (hno (by unfold mayS; rw [hk]; rfl))
    · refine n_f rfl ?_
      have w2 : v1 1 2 = nI (wH w) := by rw [q1]; exact wv.2.2.1
      cases hh : (wH w).testBit j
      · refine hh_no w2 hn7 hj7 hh (n_f rfl ?_)
        refine looks_m hN hc (by rw [q1]; exact hv) hw (by rw [q1]; exact wv) h1 (by omega) (fun v2 hm2 h12 h13 => ?_)
        have hf2 := hf.tr hm2
        rw [h12]
        cases hs : shn (fct c w one j) (cP c)
        · refine b_t rfl (fun y9 e9 => ?_)
          rw [shl_val j hj7, nor_] at e9
          subst e9
          exact nxt _ v2 (Nat.or_lt_two_pow (n := 7) ha (pow_lt hj7)) (by unfold mayS; rw [hk, hh, hs]; rfl) hf2
        · refine b_f (by decide) (fun y9 e9 => ?_)
          rw [show (0 : Int32) = nI 0 from rfl, nor_, Nat.or_zero] at e9
          subst e9
          exact nxt a v2 ha (by unfold mayS; rw [hk, hh, hs]; rfl) hf2
      · exact hh_yes w2 hn7 hj7 hh (n_t (by decide) (hno (by unfold mayS; rw [hk, hh]; rfl)))
theorem may_m {N : Nat} {c : Cx} {w : Wd} {one : Nat} {v : MM} {K : Int32 → MM → Prop} (hN : 200 ≤ N) (hc : CxOk c) (hv : CxV (v 1) c) (hw : WdOk c w) (wv : WdV (v 1) w) (h1 : one < 7) (k : ∀ v' : MM, mR v v' → K (nI (mayF c w one)) v') : wX11_mayOf N (nI one) v K :=
  maym_lp N c w one v K hN hc hv hw wv h1 k (cN c) 0 0 N v (by omega) (by have := hc.1; omega) (by omega) rfl (mR.rf v)
def fineF (c : Cx) (w : Wd) (one : Nat) : Nat := wgh 1 (fct c w one 9) (cP c)
theorem fineF_le {c : Cx} {w : Wd} {one : Nat} (hc : CxOk c) : fineF c w one ≤ 990 := by
  have hl := wgh_le 1 (fct c w one 9) (cP c) (fun d hd => (hc.2.2.2.2.2.1 d hd).2.1)
  have hl2 := hc.2.2.2.2.2.2
  unfold fineF
  omega
theorem fine_c {N o : Nat} {c : Cx} {w : Wd} {one : Nat} {u : MM} {K : Int32 → MM → Prop} (hN : 101 ≤ N) (hc : CxOk c) (hu : CxU u c) (hw : WdOk c w) (wu : WdU u o w) (ho : 7 ≤ o) (h1 : one < 7) (k : ∀ u' : MM, (∀ a, a ≠ 3 → u' a = u a) → K (nI (fineF c w one)) u') : wX7_fineOf N o (nI one) u K := by
  refine setF_c (other := 9) hc hu hw wu ho h1 (by omega) (fun u2 fr2 hF => ?_)
  have hP : CP u2 10 (cP c) := hu.2.2.2.2.2.rows (fun k a b => fr2 k (by omega))
  exact weigh_c (kd := 1) hN (by omega) hP hc.2.2.2.2.2.1 hF (k u2 fr2)
theorem fine_m {N : Nat} {c : Cx} {w : Wd} {one : Nat} {v : MM} {K : Int32 → MM → Prop} (hN : 200 ≤ N) (hc : CxOk c) (hv : CxV (v 1) c) (hw : WdOk c w) (wv : WdV (v 1) w) (h1 : one < 7) (k : ∀ v' : MM, mR v v' → K (nI (fineF c w one)) v') : wX11_fineOf N (nI one) v K := by
  refine looks_m (other := 9) hN hc hv hw wv h1 (by omega) (fun v2 hm2 h12 h13 => ?_)
  rw [h13]
  exact k v2 hm2
def askF (c : Cx) (w : Wd) (one : Nat) : Nat := if cK c one = 2 ∨ cK c one = 5 then (if cV c one % 3 < wN w one then wN w one else 0) else if cK c one = 4 then wN w one + 1 else wN w one
theorem askF_le {c : Cx} {w : Wd} {one : Nat} (hw : WdOk c w) (h1 : one < 7) (hb : (wH w).testBit one = true) : askF c w one ≤ 10 := by
  have := hw.2.2.2 one h1 hb
  unfold askF
  split
  · split <;> omega
  · split <;> omega
theorem ask_c {N o : Nat} {c : Cx} {w : Wd} {one : Nat} {u : MM} {K : Int32 → MM → Prop} (hc : CxOk c) (hu : CxU u c) (hw : WdOk c w) (wu : WdU u o w) (h1 : one < 7) (hb : (wH w).testBit one = true) (k : K (nI (askF c w one)) u) : wX7_askedOf N o (nI one) u K := by
  have hn := hw.2.2.2 one h1 hb
  obtain ⟨k1, k2, -⟩ := hc.2.1 one h1
  obtain ⟨u1, u2, -⟩ := hu.2.1 one h1
  refine ⟨vp7 h1, ?_⟩
  rw [cl7 (by omega), (wu.2.2.2.2 one h1 hb).1, u1]
  intro y1 e1
  subst e1
  refine ⟨vp7 h1, ?_⟩
  intro y2 e2
  subst e2
  have e2 : nI (cK c one) = 2 ↔ cK c one = 2 := nI_eq (b := 2) (by omega) (by omega)
  have e5 : nI (cK c one) = 5 ↔ cK c one = 5 := nI_eq (b := 5) (by omega) (by omega)
  have e4 : nI (cK c one) = 4 ↔ cK c one = 4 := nI_eq (b := 4) (by omega) (by omega)
  have sub : (cK c one = 2 ∨ cK c one = 5) → wX7_askedOf_b33 N K o (nI one) (nI (wN w one)) u := by
    intro z
    unfold askF at k
    rw [if_pos z] at k
    refine ⟨vp7 h1, ?_⟩
    rw [cl7 (by omega), u2, show (3 : Int32) = nI 3 from rfl, pk_rem (by omega) (by omega) (by omega)]
    by_cases hq : cV c one % 3 < wN w one
    · rw [if_pos hq] at k
      exact b_t (nl_lt hq (by omega)) k
    · rw [if_neg hq] at k
      exact b_f (nI_nlt (by omega) (by omega)) k
  by_cases h2 : cK c one = 2
  · exact b_t (e2.mpr h2) (sub (Or.inl h2))
  refine b_f (fun z => h2 (e2.mp z)) ?_
  by_cases h5 : cK c one = 5
  · exact n_f (e5.mpr h5) (sub (Or.inr h5))
  refine n_t (fun z => h5 (e5.mp z)) ?_
  unfold askF at k
  rw [if_neg (by omega)] at k
  by_cases h4 : cK c one = 4
  · rw [if_pos h4] at k
    exact n_f (e4.mpr h4) (by rw [i_one]; exact k)
  · rw [if_neg h4] at k
    exact n_t (fun z => h4 (e4.mp z)) k
theorem ask_m {N : Nat} {c : Cx} {w : Wd} {one : Nat} {v : MM} {K : Int32 → MM → Prop} (hc : CxOk c) (hv : CxV (v 1) c) (hw : WdOk c w) (wv : WdV (v 1) w) (h1 : one < 7) (hb : (wH w).testBit one = true) (k : K (nI (askF c w one)) v) : wX11_askedOf N (nI one) v K := by
  have hn := hw.2.2.2 one h1 hb
  obtain ⟨k1, k2, -⟩ := hc.2.1 one h1
  obtain ⟨u1, u2, -⟩ := hv.2.1 one h1
  unfold wX11_askedOf
  rw [i4, i24, nI_clamp (by omega), nI_clamp (by omega), (wv.2.2.2.2 one h1 hb).1, u1]
  refine ⟨vp_in_nI (by omega) (by omega), ?_⟩
  intro y1 e1
  subst e1
  refine ⟨vp_in_nI (by omega) (by omega), ?_⟩
  intro y2 e2
  subst e2
  have e2 : nI (cK c one) = 2 ↔ cK c one = 2 := nI_eq (b := 2) (by omega) (by omega)
  have e5 : nI (cK c one) = 5 ↔ cK c one = 5 := nI_eq (b := 5) (by omega) (by omega)
  have e4 : nI (cK c one) = 4 ↔ cK c one = 4 := nI_eq (b := 4) (by omega) (by omega)
  have z0 : nI (wN w one) + 0 = nI (wN w one) := by rw [show (0 : Int32) = nI 0 from rfl, nI_add, Nat.add_zero]
  have sub : (cK c one = 2 ∨ cK c one = 5) → wX11_askedOf_b29 N K (nI one) (nI (wN w one)) (nI (cK c one)) v := by
    intro z
    unfold askF at k
    rw [if_pos z] at k
    unfold wX11_askedOf_b29
    rw [i31, nI_clamp (by omega), u2, show (3 : Int32) = nI 3 from rfl, pk_rem (by omega) (by omega) (by omega)]
    refine ⟨vp_in_nI (by omega) (by omega), ?_⟩
    by_cases hq : cV c one % 3 < wN w one
    · rw [if_pos hq] at k
      exact b_t (nl_lt hq (by omega)) (b_t rfl (n_t (fun y => by have := e4.mp y; omega) (by rw [z0]; exact k)))
    · rw [if_neg hq] at k
      exact b_f (nI_nlt (by omega) (by omega)) (b_f (by decide) k)
  by_cases h2 : cK c one = 2
  · exact b_t (e2.mpr h2) (sub (Or.inl h2))
  refine b_f (fun z => h2 (e2.mp z)) ?_
  by_cases h5 : cK c one = 5
  · exact n_f (e5.mpr h5) (sub (Or.inr h5))
  refine n_t (fun z => h5 (e5.mp z)) ?_
  unfold askF at k
  rw [if_neg (by omega)] at k
  by_cases h4 : cK c one = 4
  · rw [if_pos h4] at k
    exact b_t rfl (n_f (e4.mpr h4) (by rw [i_one]; exact k))
  · rw [if_neg h4] at k
    exact b_t rfl (n_t (fun z => h4 (e4.mp z)) (by rw [z0]; exact k))
