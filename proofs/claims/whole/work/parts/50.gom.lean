/-! the reference: a day goes -/
theorem tt_m {N p h t : Nat} {v : MM} {K : Int32 → MM → Prop} (h2 : v 1 2 = nI h) (h3 : v 1 3 = nI t) (hh : h < 128) (ht : t < 128) (hp : p < 7) (k : K (nI (bn (h.testBit p && !t.testBit p))) v) : wX11_isToTell N (nI p) v K := by
  cases hb : h.testBit p
  · rw [hb, Bool.false_and] at k
    exact hh_no h2 hh hp hb (b_t rfl k)
  · rw [hb, Bool.true_and] at k
    refine hh_yes h2 hh hp hb (b_f (by decide) ?_)
    cases hc : t.testBit p
    · rw [hc] at k
      exact ht_no h3 ht hp hc (n_f rfl k)
    · rw [hc] at k
      exact ht_yes h3 ht hp hc (n_t (by decide) k)
def cR_ (v v' : MM) : Prop := (∀ a, a ≠ 0 → a ≠ 4 → a ≠ 5 → a ≠ 6 → v' a = v a) ∧ ∀ j, j ≠ 12 → j ≠ 13 → v' 0 j = v 0 j
theorem cR_.m {a b c : MM} (h : cR_ a b) (h2 : mR b c) : cR_ a c := ⟨fun k x y z t => (h2.1 k x y z).trans (h.1 k x y z t), fun j x y => (h2.2 j x y).trans (h.2 j x y)⟩
theorem cR_.six {a b c : MM} {j : Nat} {x : Int32} (h : cR_ a b) (e : c = up b 6 j x) : cR_ a c := ⟨fun k x y z t => by rw [upu e t]; exact h.1 k x y z t, fun j x y => by rw [upu e (by omega)]; exact h.2 j x y⟩
theorem mR_six {a b : MM} (h : mR a b) : b 6 = a 6 := h.1 6 (by omega) (by omega) (by omega)
theorem chooses_lp (N : Nat) (c : Cx) (w : Wd) (x st : Nat) (v0 : MM) (K : MM → Prop) (hN : 200 ≤ N) (hc : CxOk c) (hv : CxV (v0 1) c) (hw : WdOk c w) (wv : WdV (v0 1) w) (hx : chOk c w x st) (h17 : v0 0 17 = oi x) (h18 : x < 7 → v0 0 18 = nI st) (k : ∀ v1 v2 v3 : MM, cR_ v0 v1 → (∀ p, p < cN c → v1 6 p = nI (chs c w x st p)) → v2 = up v1 0 17 (-1) → v3 = up v2 1 1 (wF w + nI (finP c w x st (cN c))) → K v3) : ∀ (r j fl : Nat) (v1 : MM), r + j = cN c → r < fl → cR_ v0 v1 → (∀ p, p < j → v1 6 p = nI (chs c w x st p)) → wX11_chooses_b4 N K fl (nI (finP c w x st j)) (nI j) v1 := by
  have hn := hc.1
  have hh7 : wH w < 128 := lt128 hw.2.1 hn
  have ht7 : wT w < 128 := lt128 hw.2.2.1 hn
  intro r
  induction r with
  | zero =>
    intro j fl v1 hj hfl hR h6
    obtain ⟨g, rfl⟩ : ∃ g, fl = g + 1 := ⟨fl - 1, by omega⟩
    have e : j = cN c := by omega
    subst e
    have r1 : v1 1 = v0 1 := hR.1 1 (by omega) (by omega) (by omega) (by omega)
    refine b_t (by rw [r1, hv.1]; exact nI_le (by omega) (by omega)) (fun v2 e2 v3 e3 => k v1 v2 v3 hR h6 e2 ?_)
    rw [e3, upu e2 (by omega), r1, wv.2.1]
  | succ r ih =>
    intro j fl v1 hj hfl hR h6
    obtain ⟨g, rfl⟩ : ∃ g, fl = g + 1 := ⟨fl - 1, by omega⟩
    have hj7 : j < 7 := by omega
    have r1 : v1 1 = v0 1 := hR.1 1 (by omega) (by omega) (by omega) (by omega)
    have nxt : ∀ (m : Nat) (v2 : MM), cR_ v0 v2 → (∀ p, p < j → v2 6 p = v1 6 p) → v2 6 j = nI (chs c w x st j) → finP c w x st (j + 1) = m → wX11_chooses_b80 N K (wX11_chooses_b4 N K g) (nI m) (nI j) v2 := by
      intro m v2 hR2 hl hj6 em y18 e18
      rw [i_one] at e18
      subst e18 em
      refine ih (j + 1) g v2 (by omega) (by omega) hR2 (fun p hp => ?_)
      by_cases h : p = j
      · subst h; exact hj6
      · rw [hl p (by omega)]; exact h6 p (by omega)
    refine b_f (by rw [r1, hv.1]; exact nI_ge (by omega) (by omega)) ⟨vp7 hj7, fun v4 e4 => ?_⟩
    rw [cl7 (by omega)] at e4
    have hR4 : cR_ v0 v4 := hR.six e4
    have q1 : v4 1 = v0 1 := hR4.1 1 (by omega) (by omega) (by omega) (by omega)
    refine tt_m (by rw [q1]; exact wv.2.2.1) (by rw [q1]; exact wv.2.2.2.1) hh7 ht7 hj7 ?_
    show _ ∧ _
    have hb0 : ((wH w).testBit j && !(wT w).testBit j) = tll w j := rfl
    rw [hb0]
    cases hb : tll w j
    · refine b_t rfl (nxt _ v4 hR4 (fun p hp => by rw [e4, up_j (by omega)]) ?_ ?_)
      · rw [e4, up_at]
        unfold chs
        rw [hb]; rfl
      · rw [finP, hb]; rfl
    · have hhd := tll_hd hb
      have c7 : chs c w x st j < 128 := lt128 (chs_lt hc hx j hj7) hn
      have hcp := chs_pc hc hx hj7 hb
      have h40 : v4 0 17 = oi x := by rw [hR4.2 17 (by omega) (by omega)]; exact h17
      have fin : ∀ (v5 : MM) (s0 : Int32), mR v4 v5 → s0 = nI (chs c w x st j) → wX11_chooses_b55 N K (wX11_chooses_b4 N K g) (nI (finP c w x st j)) (nI j) s0 (nI j) v5 := by
        intro v5 s0 m5 e0
        subst e0
        refine ⟨vp7 hj7, fun v11 e11 => ?_⟩
        rw [cl7 (by omega)] at e11
        have hR11 : cR_ v0 v11 := (hR4.m m5).six e11
        have x1 : v11 1 = v0 1 := hR11.1 1 (by omega) (by omega) (by omega) (by omega)
        refine fine_m hN hc (by rw [x1]; exact hv) hw (by rw [x1]; exact wv) hj7 (fun v13 m13 => ?_)
        have hR13 := hR11.m m13
        have y1 : v13 1 = v0 1 := hR13.1 1 (by omega) (by omega) (by omega) (by omega)
        refine ask_m hc (by rw [y1]; exact hv) hw (by rw [y1]; exact wv) hj7 hhd ⟨vp7 hj7, ?_⟩
        have z6 : v13 6 j = nI (chs c w x st j) := by rw [mR_six m13]; exact upx e11
        rw [cl7 (by omega), z6]
        refine count1_val (by omega) c7 (fun y17 e17 => ?_)
        rw [pk_sub hcp, pk_mul, nI_add] at e17
        subst e17
        refine nxt _ v13 hR13 (fun p hp => ?_) z6 ?_
        · rw [mR_six m13, e11, up_j (by omega), mR_six m5, e4, up_j (by omega)]
        · rw [finP, if_pos hb, Nat.mul_comm]
      refine b_f (by decide) ?_
      rw [h40]
      have ex := oi_eq (x := x) hj7 hx.1
      by_cases hjx : j = x
      · refine n_f (ex.mpr hjx) (fin v4 _ (mR.rf v4) ?_)
        rw [hR4.2 18 (by omega) (by omega), h18 (by omega)]
        unfold chs
        rw [if_pos hb, if_pos hjx]
      · refine n_t (fun y => hjx (ex.mp y)) (cho_m hN hc (by rw [q1]; exact hv) hw (by rw [q1]; exact wv) hj7 hhd (fun v10 m10 => fin v10 _ m10 ?_))
        unfold chs
        rw [if_pos hb, if_neg hjx]
def ot (x : Nat) : Int32 := if x = 10 then -1 else nI x
theorem ot_m1 {x : Nat} (h : x ≤ 10) : ot x = -1 ↔ x = 10 := by
  unfold ot
  by_cases h1 : x = 10
  · rw [if_pos h1]; exact ⟨fun _ => h1, fun _ => rfl⟩
  · rw [if_neg h1]; exact ⟨fun z => absurd z (nI_m1 (by omega)), fun z => absurd z h1⟩
theorem ot_n {x : Nat} (h : x < 10) : ot x = nI x := by unfold ot; rw [if_neg (by omega)]
theorem less_m {N a : Nat} {c : Cx} {v : MM} {K : Int32 → MM → Prop} (hc : CxOk c) (hv : CxV (v 1) c) (ha : a < 10) (k : K (nI (a - cF c)) v) : wX11_lessOne N (nI a) v K := by
  have hf := hc.2.2.2.1
  refine tof_few hv.2.2.2 (fun y3 e3 => ?_)
  by_cases h : cF c ≤ a
  · rw [pk_sub h] at e3
    subst e3
    exact b_t (nI_pos' (by omega)) k
  · have hs := pk_sneg (a := a) (b := cF c) (by omega) (by omega)
    rw [← e3] at hs
    have e0 : a - cF c = 0 := by omega
    rw [e0] at k
    exact b_f (fun z => absurd hs (Int32.not_lt.mpr z)) k
theorem num_lp (N o : Nat) (c : Cx) (w : Wd) (x st : Nat) (v : MM) (K : Int32 → MM → Prop) (hc : CxOk c) (hv : CxV (v 1) c) (hw : WdOk c w) (wn : ∀ p, p < 7 → (wH w).testBit p = true → v 1 (4 + p) = nI (wN w p)) (hx : chOk c w x st) (ho : o < 7) (h6 : ∀ p, p < cN c → v 6 p = nI (chs c w x st p)) (k : K (ot (numP c w x st o (cN c))) v) : ∀ (r j fl : Nat), r + j = cN c → r < fl → wX11_numberFor_b25 N K fl (nI o) (nI (cL_ c % 2)) (ot (numP c w x st o j)) (nI j) v := by
  have hn := hc.1
  intro r
  induction r with
  | zero =>
    intro j fl hj hfl
    obtain ⟨g, rfl⟩ : ∃ g, fl = g + 1 := ⟨fl - 1, by omega⟩
    have e : j = cN c := by omega
    subst e
    exact b_t (by rw [hv.1]; exact nI_le (by omega) (by omega)) k
  | succ r ih =>
    intro j fl hj hfl
    obtain ⟨g, rfl⟩ : ∃ g, fl = g + 1 := ⟨fl - 1, by omega⟩
    have hj7 : j < 7 := by omega
    have nxt : ∀ b : Nat, numP c w x st o (j + 1) = b → wX11_numberFor_b98 N K (wX11_numberFor_b25 N K g) (nI o) (nI (cL_ c % 2)) (ot b) (nI j) v := by
      intro b eb y12 e12
      rw [i_one] at e12
      subst e12 eb
      exact ih (j + 1) g (by omega) (by omega)
    have c7 : chs c w x st j < 128 := lt128 (chs_lt hc hx j hj7) hn
    refine b_f (by rw [hv.1]; exact nI_ge (by omega) (by omega)) ⟨vp7 hj7, ?_⟩
    rw [cl7 (by omega), h6 j (by omega), bit_val _ c7 o ho]
    cases hb : (chs c w x st j).testBit o
    · exact n_t (by decide) (nxt _ (by rw [numP, hb]; rfl))
    · have ht := (chs_bit hc hx hj7 ho hb).1
      have hhd := tll_hd ht
      have hn9 := hw.2.2.2 j hj7 hhd
      have hle := numP_le hc hw hx ho j (by omega)
      have hl := les_lt (c := c) hw hj7 ht
      have hld : les c w j = wN w j - cF c := rfl
      refine n_f rfl ?_
      rw [i4, nI_clamp (by omega), wn j hj7 hhd]
      refine ⟨vp_in_nI (by omega) (by omega), less_m hc hv hn9 ?_⟩
      show (ot _ = -1 → _) ∧ (¬ ot _ = -1 → _)
      have take : numP c w x st o (j + 1) = les c w j → wX11_numberFor_b91 N K (wX11_numberFor_b25 N K g) (nI o) (nI (cL_ c % 2)) (nI j) (nI (les c w j)) v := by
        intro e
        have := nxt _ e
        rw [ot_n hl] at this
        exact this
      have stay : numP c w x st o (j + 1) = numP c w x st o j → wX11_numberFor_b96 N K (wX11_numberFor_b25 N K g) (nI o) (nI (cL_ c % 2)) (ot (numP c w x st o j)) (nI j) v := fun e => nxt _ e
      have e1 : numP c w x st o (j + 1) = cmb (cL_ c) (numP c w x st o j) (les c w j) := by rw [numP, if_pos hb]
      rw [e1] at take stay
      unfold cmb at take stay
      by_cases h10 : numP c w x st o j = 10
      · rw [if_pos h10] at take
        exact b_t ((ot_m1 hle).mpr h10) (take rfl)
      refine b_f (fun z => h10 ((ot_m1 hle).mp z)) ?_
      rw [if_neg h10] at take stay
      have l2 : cL_ c % 2 = 0 ∨ cL_ c % 2 = 1 := by omega
      have hot := ot_n (show numP c w x st o j < 10 by omega)
      rcases l2 with l2 | l2
      · rw [if_neg (by omega)] at take stay
        have e0 : nI (cL_ c % 2) = 0 := by rw [l2]; rfl
        refine b_t e0 ?_
        rw [hot] at stay ⊢
        by_cases hlt : les c w j < numP c w x st o j
        · rw [if_pos hlt] at take
          exact b_f (nI_ge hlt (by omega)) (take rfl)
        · rw [if_neg hlt] at stay
          exact b_t (nI_le (by omega) (by omega)) (stay rfl)
      · rw [if_pos l2] at take stay
        have e0 : ¬ nI (cL_ c % 2) = 0 := by rw [l2]; decide
        refine b_f e0 ?_
        rw [hot] at stay ⊢
        by_cases hlt : numP c w x st o j < les c w j
        · rw [if_pos hlt] at take
          exact b_f (nI_ge hlt (by omega)) (take rfl)
        · rw [if_neg hlt] at stay
          exact b_t (nI_le (by omega) (by omega)) (stay rfl)
theorem num_m {N o : Nat} {c : Cx} {w : Wd} {x st : Nat} {v : MM} {K : Int32 → MM → Prop} (hN : 10 ≤ N) (hc : CxOk c) (hv : CxV (v 1) c) (hw : WdOk c w) (wn : ∀ p, p < 7 → (wH w).testBit p = true → v 1 (4 + p) = nI (wN w p)) (hx : chOk c w x st) (ho : o < 7) (h6 : ∀ p, p < cN c → v 6 p = nI (chs c w x st p)) (k : K (ot (numP c w x st o (cN c))) v) : wX11_numberFor N (nI o) v K := by
  have hl := hc.2.2.2.2.1
  refine tof_law hv.2.2.2 ?_
  rw [show (2 : Int32) = nI 2 from rfl, pk_rem (by omega) (by omega) (by omega)]
  have go : ∀ s : Int32, s = nI (cL_ c % 2) → wX11_numberFor_b19 N K (nI o) s v := by
    intro s e
    subst e
    exact num_lp N o c w x st v K hc hv hw wn hx ho h6 k (cN c) 0 N (by omega) (by have := hc.1; omega)
  have l2 : cL_ c % 2 = 0 ∨ cL_ c % 2 = 1 := by omega
  rcases l2 with l2 | l2
  · exact n_t (by rw [l2]; decide) (go 0 (by rw [l2]; rfl))
  · exact n_f (by rw [l2]; rfl) (go 1 (by rw [l2]; rfl))
theorem isDeaf_m {N o z : Nat} {c : Cx} {w : Wd} {v : MM} {K : Int32 → MM → Prop} (hc : CxOk c) (hv : CxV (v 1) c) (hw : WdOk c w) (wd : v 1 0 = nI (wD w)) (ho : o < 7) (hz : z ≤ 7) (h16 : v 0 16 = oi z) (k : K (nI (bn (dfB c w z o))) v) : wX11_isDeaf N (nI o) v K := by
  unfold wX11_isDeaf
  rw [h16]
  have ex := oi_eq (x := z) ho hz
  unfold dfB at k
  by_cases h : o = z
  · rw [decide_eq_true h, Bool.true_or] at k
    exact b_t (ex.mpr h) k
  rw [decide_eq_false h, Bool.false_or] at k
  refine b_f (fun y => h (ex.mp y)) ?_
  obtain ⟨s1, s2, -, -⟩ := hv.2.1 o ho
  obtain ⟨k1, k2, -⟩ := hc.2.1 o ho
  have hD := hw.1
  rw [i24, nI_clamp (by omega), s1, i31, nI_clamp (by omega), s2, wd, show (2 : Int32) = nI 2 from rfl, nI_add, pk_rem (by omega) (by omega) (by omega)]
  refine ⟨vp_in_nI (by omega) (by omega), ?_⟩
  have e5 : nI (cK c o) = 5 ↔ cK c o = 5 := nI_eq (b := 5) (by omega) (by omega)
  by_cases c5 : cK c o = 5
  · rw [decide_eq_true c5, Bool.true_and] at k
    refine n_f (e5.mpr c5) ⟨vp_in_nI (by omega) (by omega), nI_ne0 (by omega) (by omega), ?_⟩
    have hm : wD w % (cV c o + 2) < cV c o + 2 := Nat.mod_lt _ (by omega)
    have e0 : nI (wD w % (cV c o + 2)) = 0 ↔ wD w % (cV c o + 2) = 0 := nI_eq (b := 0) (by omega) (by omega)
    by_cases c0 : wD w % (cV c o + 2) = 0
    · rw [decide_eq_true c0] at k
      exact n_f (e0.mpr c0) k
    · rw [decide_eq_false c0] at k
      exact n_t (fun y => c0 (e0.mp y)) k
  · rw [decide_eq_false c5, Bool.false_and] at k
    exact n_t (fun y => c5 (e5.mp y)) k
def comF (c : Cx) (w : Wd) (x st z o : Nat) : Nat := if dfB c w z o = true then 10 else numP c w x st o (cN c)
theorem com_lp (N : Nat) (c : Cx) (w : Wd) (x st z : Nat) (v0 : MM) (K : Int32 → MM → Prop) (hN : 10 ≤ N) (hc : CxOk c) (hv : CxV (v0 1) c) (hw : WdOk c w) (w0 : v0 1 0 = nI (wD w)) (w2 : v0 1 2 = nI (wH w)) (w3 : v0 1 3 = nI (wT w)) (wn : ∀ p, p < 7 → (wH w).testBit p = true → v0 1 (4 + p) = nI (wN w p)) (hx : chOk c w x st) (hz : z ≤ 7) (h16 : v0 0 16 = oi z) (h6 : ∀ p, p < cN c → v0 6 p = nI (chs c w x st p)) (k : ∀ v1 v4 : MM, (∀ a, a ≠ 7 → v1 a = v0 a) → (∀ p, p < cN c → v1 7 p = ot (comF c w x st z p)) → v4 = up v1 1 3 (nI (wT w ||| wH w)) → wX11_goes_b65 N K N 0 0 v4) : ∀ (r j fl : Nat) (v1 : MM), r + j = cN c → r < fl → (∀ a, a ≠ 7 → v1 a = v0 a) → (∀ p, p < j → v1 7 p = ot (comF c w x st z p)) → wX11_goes_b6 N K fl (nI j) v1 := by
  have hn := hc.1
  intro r
  induction r with
  | zero =>
    intro j fl v1 hj hfl hR h7
    obtain ⟨g, rfl⟩ : ∃ g, fl = g + 1 := ⟨fl - 1, by omega⟩
    have e : j = cN c := by omega
    subst e
    have r1 : v1 1 = v0 1 := hR 1 (by omega)
    refine b_t (by rw [r1, hv.1]; exact nI_le (by omega) (by omega)) (fun v4 e4 => k v1 v4 hR h7 ?_)
    rw [r1, w2, w3, nor_] at e4
    exact e4
  | succ r ih =>
    intro j fl v1 hj hfl hR h7
    obtain ⟨g, rfl⟩ : ∃ g, fl = g + 1 := ⟨fl - 1, by omega⟩
    have hj7 : j < 7 := by omega
    have r1 : v1 1 = v0 1 := hR 1 (by omega)
    refine b_f (by rw [r1, hv.1]; exact nI_ge (by omega) (by omega)) (isDeaf_m (z := z) hc (by rw [r1]; exact hv) hw (by rw [r1]; exact w0) hj7 hz (by rw [hR 0 (by omega)]; exact h16) ?_)
    have fin : ∀ s0 : Int32, s0 = ot (comF c w x st z j) → wX11_goes_b39 N K (wX11_goes_b6 N K g) (nI j) s0 (nI j) v1 := by
      intro s0 e0
      refine ⟨vp7 hj7, fun v10 e10 y11 e11 => ?_⟩
      rw [cl7 (by omega), e0] at e10
      rw [i_one] at e11
      subst e11
      refine ih (j + 1) g v10 (by omega) (by omega) (fun a ha => by rw [upu e10 ha]; exact hR a ha) (fun p hp => ?_)
      by_cases h : p = j
      · subst h; exact upx e10
      · rw [e10, up_j h]; exact h7 p (by omega)
    cases hb : dfB c w z j
    · exact b_t rfl (num_m (w := w) hN hc (by rw [r1]; exact hv) hw (fun p hp hb => by rw [r1]; exact wn p hp hb) hx hj7 (fun p hp => by rw [hR 6 (by omega)]; exact h6 p hp) (fin _ (by unfold comF; rw [hb]; rfl)))
    · exact b_f (by decide) (fin (-1) (by unfold comF; rw [hb]; rfl))
def hsP (h : Nat) : Nat → Nat
  | 0 => 0
  | o + 1 => if h.testBit o = true then hsP h o ||| 2 ^ o else hsP h o
theorem hsP_lt (h : Nat) : ∀ o, hsP h o < 2 ^ o
  | 0 => by unfold hsP; omega
  | o + 1 => by
    have ih := hsP_lt h o
    have h2 : (2 : Nat) ^ o < 2 ^ (o + 1) := Nat.pow_lt_pow_right (by omega) (by omega)
    unfold hsP
    split
    · exact Nat.or_lt_two_pow (by omega) h2
    · omega
theorem hsP_bit (h p : Nat) : ∀ o, (hsP h o).testBit p = (decide (p < o) && h.testBit p)
  | 0 => by unfold hsP; rw [Nat.zero_testBit]; simp
  | o + 1 => by
    have ih := hsP_bit h p o
    unfold hsP
    by_cases hp : p = o
    · subst hp
      have e0 : (hsP h p).testBit p = false := Nat.testBit_lt_two_pow (hsP_lt h p)
      split
      · rename_i hb
        rw [Nat.testBit_or, Nat.testBit_two_pow, hb]; simp
      · rename_i hb
        have hb2 : h.testBit p = false := by simpa using hb
        rw [e0, hb2, Bool.and_false]
    · have e1 : decide (p < o + 1) = decide (p < o) := by
        by_cases z : p < o
        · rw [decide_eq_true z, decide_eq_true (by omega)]
        · rw [decide_eq_false z, decide_eq_false (by omega)]
      rw [e1, ← ih]
      split
      · rw [Nat.testBit_or, Nat.testBit_two_pow, decide_eq_false (fun z => hp z.symm), Bool.or_false]
      · rfl
theorem hsP_all {h n : Nat} (hh : h < 2 ^ n) : hsP h n = h := by
  apply Nat.eq_of_testBit_eq
  intro p
  rw [hsP_bit]
  cases hb : h.testBit p
  · rw [Bool.and_false]
  · rw [decide_eq_true (bit_lt hh hb), Bool.true_and]
theorem or_as (a b d : Nat) : a ||| b ||| d = a ||| (b ||| d) := Nat.or_assoc a b d
def LI (w : Wd) (f : Nat → Nat) (h : Nat) (v0 : MM) (j : Nat) (v : MM) : Prop := (∀ a, a ≠ 1 → v a = v0 a) ∧ (∀ i, i = 0 ∨ i = 1 ∨ i = 3 ∨ 18 ≤ i → v 1 i = v0 1 i) ∧ v 1 2 = nI (wH w ||| hsP h j) ∧ ∀ p, p < 7 → ((p < j ∧ h.testBit p = true) → v 1 (4 + p) = nI (f p) ∧ v 1 (11 + p) = nI (wD w)) ∧ (¬ (p < j ∧ h.testBit p = true) → v 1 (4 + p) = v0 1 (4 + p) ∧ v 1 (11 + p) = v0 1 (11 + p))
theorem goes_lp (N : Nat) (c : Cx) (w : Wd) (f : Nat → Nat) (h : Nat) (v0 : MM) (K : Int32 → MM → Prop) (hc : CxOk c) (hv : CxV (v0 1) c) (w0 : v0 1 0 = nI (wD w)) (h7 : ∀ p, p < cN c → v0 7 p = if h.testBit p = true then nI (f p) else -1) (hf : ∀ p, p < cN c → h.testBit p = true → f p < 10) (k : ∀ v1 v2 : MM, LI w f h v0 (cN c) v1 → v2 = up v1 1 0 (nI (wD w + 1)) → K (nI (pc (hsP h (cN c)))) v2) : ∀ (r j fl : Nat) (v1 : MM), r + j = cN c → r < fl → LI w f h v0 j v1 → wX11_goes_b65 N K fl (nI (pc (hsP h j))) (nI j) v1 := by
  have hn := hc.1
  intro r
  induction r with
  | zero =>
    intro j fl v1 hj hfl hI
    obtain ⟨g, rfl⟩ : ∃ g, fl = g + 1 := ⟨fl - 1, by omega⟩
    have e : j = cN c := by omega
    subst e
    refine b_t (by rw [hI.2.1 18 (by omega), hv.1]; exact nI_le (by omega) (by omega)) (fun v13 e13 => k v1 v13 hI ?_)
    rw [hI.2.1 0 (by omega), w0, i_one] at e13
    exact e13
  | succ r ih =>
    intro j fl v1 hj hfl hI
    obtain ⟨g, rfl⟩ : ∃ g, fl = g + 1 := ⟨fl - 1, by omega⟩
    have hj7 : j < 7 := by omega
    obtain ⟨i1, i2, i3, i4_⟩ := id hI
    refine b_f (by rw [i2 18 (by omega), hv.1]; exact nI_ge (by omega) (by omega)) ⟨vp7 hj7, ?_⟩
    rw [cl7 (by omega), i1 7 (by omega), h7 j (by omega)]
    have nxt : ∀ (b : Nat) (v2 : MM), LI w f h v0 (j + 1) v2 → pc (hsP h (j + 1)) = b → wX11_goes_b130 N K (wX11_goes_b65 N K g) (nI b) (nI j) v2 := by
      intro b v2 hI2 eb y19 e19
      rw [i_one] at e19
      subst e19 eb
      exact ih (j + 1) g v2 (by omega) (by omega) hI2
    by_cases hb : h.testBit j = true
    · rw [if_pos hb]
      have hf10 := hf j (by omega) hb
      refine b_f (nI_m1 (by omega)) (fun v15 e15 => ⟨vp7 hj7, ?_⟩)
      have g7 : v15 7 j = nI (f j) := by rw [upu e15 (by omega), i1 7 (by omega), h7 j (by omega), if_pos hb]
      rw [i4, i11, nI_clamp (by omega), nI_clamp (by omega), g7]
      refine ⟨vp_in_nI (by omega) (by omega), fun v16 e16 => ⟨vp_in_nI (by omega) (by omega), fun v17 e17 y18 e18 => ?_⟩⟩
      have d16 : v16 1 0 = nI (wD w) := by rw [e16, up_j (by omega), e15, up_j (by omega), i2 0 (by omega)]; exact w0
      rw [d16] at e17
      rw [i_one] at e18
      rw [shl_val j hj7, i3, nor_, or_as] at e15
      have eh : hsP h (j + 1) = hsP h j ||| 2 ^ j := by rw [hsP, if_pos hb]
      rw [← eh] at e15
      subst e18
      have hs : ∀ i, i ≠ 2 → i ≠ 4 + j → i ≠ 11 + j → v17 1 i = v1 1 i := fun i z1 z2 z3 => by rw [upv e17 z3, upv e16 z2, upv e15 z1]
      refine nxt _ v17 ⟨fun a ha => by rw [upu e17 ha, upu e16 ha, upu e15 ha]; exact i1 a ha, fun i hi => by rw [hs i (by omega) (by omega) (by omega)]; exact i2 i hi, by rw [upv e17 (by omega), upv e16 (by omega)]; exact upx e15, fun p hp => ?_⟩ ?_
      · by_cases hpj : p = j
        · subst hpj
          refine ⟨fun _ => ⟨by rw [upv e17 (by omega)]; exact upx e16, upx e17⟩, fun z => absurd ⟨by omega, hb⟩ z⟩
        · rw [hs _ (by omega) (by omega) (by omega), hs _ (by omega) (by omega) (by omega)]
          have e : (p < j + 1 ∧ h.testBit p = true) ↔ (p < j ∧ h.testBit p = true) := ⟨fun z => ⟨by omega, z.2⟩, fun z => ⟨by omega, z.2⟩⟩
          rw [e]
          exact i4_ p hp
      · have h128 : hsP h j < 128 := lt128 (hsP_lt h j) (by omega)
        have e0 : (hsP h j).testBit j = false := Nat.testBit_lt_two_pow (hsP_lt h j)
        rw [eh, pc_or _ h128 _ hj7, e0]
        rfl
    · rw [if_neg hb]
      have eh : hsP h (j + 1) = hsP h j := by rw [hsP, if_neg hb]
      refine b_t rfl (nxt _ v1 ⟨i1, i2, by rw [eh]; exact i3, fun p hp => ?_⟩ (by rw [eh]))
      have e : (p < j + 1 ∧ h.testBit p = true) ↔ (p < j ∧ h.testBit p = true) := by
        constructor
        · rintro ⟨z1, z2⟩
          refine ⟨?_, z2⟩
          by_cases hh : p = j
          · subst hh; exact absurd z2 hb
          · omega
        · rintro ⟨z1, z2⟩; exact ⟨by omega, z2⟩
      rw [e]
      exact i4_ p hp
/-- what a day of the reference leaves -/
def gR (v v' : MM) : Prop := (∀ a, a ≠ 0 → a ≠ 1 → a ≠ 4 → a ≠ 5 → a ≠ 6 → a ≠ 7 → v' a = v a) ∧ (∀ j, j ≠ 12 → j ≠ 13 → j ≠ 17 → v' 0 j = v 0 j) ∧ ∀ j, 18 ≤ j → v' 1 j = v 1 j
theorem gR.rf (v : MM) : gR v v := ⟨fun _ _ _ _ _ _ _ => rfl, fun _ _ _ _ => rfl, fun _ _ => rfl⟩
theorem gR.tr {a b c : MM} (h : gR a b) (h2 : gR b c) : gR a c := ⟨fun k x y z p q r => (h2.1 k x y z p q r).trans (h.1 k x y z p q r), fun j x y z => (h2.2.1 j x y z).trans (h.2.1 j x y z), fun j x => (h2.2.2 j x).trans (h.2.2 j x)⟩
theorem goes_m {N x st z : Nat} {c : Cx} {w : Wd} {v : MM} {K : Int32 → MM → Prop} (hN : 200 ≤ N) (hc : CxOk c) (hv : CxV (v 1) c) (hw : WdOk c w) (wv : WdV (v 1) w) (hx : chOk c w x st) (hz : z ≤ 7) (h16 : v 0 16 = oi z) (h17 : v 0 17 = oi x) (h18 : x < 7 → v 0 18 = nI st) (k : ∀ v' : MM, gR v v' → v' 0 17 = -1 → WdV (v' 1) (dayW c w x st z) → K (nI (pc (hrF c w x st z))) v') : wX11_goes N v K := by
  have hn := hc.1
  have hd := dfN_lt (w := w) hc hz
  refine chooses_lp N c w x st v _ hN hc hv hw wv hx h17 h18 (fun v1 v2 v3 hR h6 e2 e3 => ?_) (cN c) 0 N v (by omega) (by omega) ⟨fun _ _ _ _ _ => rfl, fun _ _ _ => rfl⟩ (fun p hp => by omega)
  have r1 : v1 1 = v 1 := hR.1 1 (by omega) (by omega) (by omega) (by omega)
  have s3 : ∀ i, i ≠ 1 → v3 1 i = v 1 i := fun i hi => by rw [upv e3 hi, upu e2 (by omega), r1]
  have f3 : v3 1 1 = wF w + nI (finP c w x st (cN c)) := upx e3
  have z3 : ∀ a, a ≠ 0 → a ≠ 1 → v3 a = v1 a := fun a h0 h1 => by rw [upu e3 h1, upu e2 h0]
  have o3 : ∀ j, j ≠ 12 → j ≠ 13 → j ≠ 17 → v3 0 j = v 0 j := fun j a b d => by rw [upu e3 (by omega), e2, up_j d]; exact hR.2 j a b
  have t3 : v3 0 17 = -1 := by rw [upu e3 (by omega)]; exact upx e2
  have hv3 : CxV (v3 1) c := hv.same (fun j hj => s3 j (by omega))
  have hg3 : gR v v3 := ⟨fun a p0 p1 p4 p5 p6 p7 => by rw [z3 a p0 p1]; exact hR.1 a p0 p4 p5 p6, o3, fun j hj => s3 j (by omega)⟩
  refine com_lp N c w x st z v3 _ (by omega) hc hv3 hw (by rw [s3 0 (by omega)]; exact wv.1) (by rw [s3 2 (by omega)]; exact wv.2.2.1) (by rw [s3 3 (by omega)]; exact wv.2.2.2.1) (fun p hp hb => by rw [s3 _ (by omega)]; exact (wv.2.2.2.2 p hp hb).1) hx hz (by rw [o3 16 (by omega) (by omega) (by omega)]; exact h16) (fun p hp => by rw [z3 6 (by omega) (by omega)]; exact h6 p hp) (fun v4 v5 g4 h7 e5 => ?_) (cN c) 0 N v3 (by omega) (by omega) (fun _ _ => rfl) (fun p hp => by omega)
  have s5 : ∀ i, i ≠ 3 → v5 1 i = v3 1 i := fun i hi => by rw [upv e5 hi, g4 1 (by omega)]
  have hrl : hrF c w x st z < 2 ^ cN c := hrP_lt hc hx _ hn
  have hbit : ∀ p, p < cN c → (hrF c w x st z).testBit p = (decide (numP c w x st p (cN c) < 10) && !dfB c w z p) := fun p hp => by
    unfold hrF
    rw [hrP_bit hc hw hx hd (by omega) _ hn, dfN_bit hz hp (by omega)]
  have e0 : nI (pc (hsP (hrF c w x st z) 0)) = 0 := by rw [hsP]; rfl
  rw [show wX11_goes_b65 N K N 0 0 v5 = wX11_goes_b65 N K N (nI (pc (hsP (hrF c w x st z) 0))) (nI 0) v5 from by rw [e0]; rfl]
  refine goes_lp N c w (fun p => numP c w x st p (cN c)) (hrF c w x st z) v5 K hc (hv3.same (fun j hj => s5 j (by omega))) (by rw [s5 0 (by omega), s3 0 (by omega)]; exact wv.1) (fun p hp => ?_) (fun p hp hb => ?_) (fun v6 v7 hI e7 => ?_) (cN c) 0 N v5 (by omega) (by omega) ⟨fun _ _ => rfl, fun _ _ => rfl, ?_, fun p hp => ⟨fun y => by omega, fun _ => ⟨rfl, rfl⟩⟩⟩
  · rw [upu e5 (by omega), h7 p hp, hbit p hp]
    have hle := numP_le hc hw hx (show p < 7 by omega) (cN c) hn
    unfold comF
    cases dfB c w z p
    · rw [Bool.not_false, Bool.and_true, if_neg (show ¬ (false = true) by decide)]
      by_cases h10 : numP c w x st p (cN c) = 10
      · rw [(ot_m1 hle).mpr h10, if_neg (by rw [decide_eq_false (by omega)]; decide)]
      · rw [ot_n (by omega), if_pos (decide_eq_true (by omega))]
    · rw [if_pos rfl, Bool.not_true, Bool.and_false, if_neg (by decide)]
      rfl
  · rw [hbit p hp, Bool.and_eq_true] at hb
    exact of_decide_eq_true hb.1
  · rw [hsP_all hrl]
    have s7 : ∀ i, i ≠ 0 → v7 1 i = v6 1 i := fun i hi => upv e7 hi
    have z7 : ∀ a, a ≠ 1 → v7 a = v5 a := fun a ha => by rw [upu e7 ha]; exact hI.1 a ha
    have g35 : gR v3 v5 := ⟨fun a p0 p1 p4 p5 p6 p7 => by rw [upu e5 p1]; exact g4 a p7, fun j a b d => by rw [upu e5 (by omega), g4 0 (by omega)], fun j hj => s5 j (by omega)⟩
    have g57 : gR v5 v7 := ⟨fun a p0 p1 p4 p5 p6 p7 => z7 a p1, fun j a b d => by rw [z7 0 (by omega)], fun j hj => by rw [s7 j (by omega)]; exact hI.2.1 j (by omega)⟩
    refine k v7 ((hg3.tr g35).tr g57) (by rw [z7 0 (by omega), upu e5 (by omega), g4 0 (by omega)]; exact t3) ⟨upx e7, ?_, ?_, ?_, fun p hp hb => ?_⟩
    · rw [s7 1 (by omega), hI.2.1 1 (by omega), s5 1 (by omega)]; exact f3
    · rw [s7 2 (by omega), hI.2.2.1, hsP_all hrl]; rfl
    · rw [s7 3 (by omega), hI.2.1 3 (by omega)]; exact upx e5
    · rw [s7 _ (by omega), s7 _ (by omega)]
      show v6 1 (4 + p) = nI (if (hrF c w x st z).testBit p = true then numP c w x st p (cN c) else wN w p) ∧ v6 1 (11 + p) = if (hrF c w x st z).testBit p = true then nI (wD w) else wY w p
      have hb2 : (wH w ||| hrF c w x st z).testBit p = true := hb
      rw [Nat.testBit_or, Bool.or_eq_true] at hb2
      by_cases hh : (hrF c w x st z).testBit p = true
      · rw [if_pos hh, if_pos hh]
        exact (hI.2.2.2 p hp).1 ⟨bit_lt hrl hh, hh⟩
      · rw [if_neg hh, if_neg hh]
        obtain ⟨y1, y2⟩ := (hI.2.2.2 p hp).2 (fun y => hh y.2)
        rw [y1, y2, s5 _ (by omega), s5 _ (by omega), s3 _ (by omega), s3 _ (by omega)]
        exact wv.2.2.2.2 p hp (hb2.resolve_right hh)
  · rw [s5 2 (by omega), s3 2 (by omega), wv.2.2.1, hsP, Nat.or_zero]
