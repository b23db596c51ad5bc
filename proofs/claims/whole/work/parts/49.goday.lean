/-! the class: a day goes -/
theorem deaf_lp (N D : Nat) (c : Cx) (u : MM) (K : Int32 → MM → Prop) (hc : CxOk c) (hu : CxU u c) (hD : D < 2000) (k : K (nI (dfL c D (cN c))) u) : ∀ r j fl : Nat, r + j = cN c → r < fl → wX2_deafOn_b4 N K fl (nI D) (nI (dfL c D j)) (nI j) u := by
  have hn := hc.1
  intro r
  induction r with
  | zero =>
    intro j fl hj hf
    obtain ⟨g, rfl⟩ : ∃ g, fl = g + 1 := ⟨fl - 1, by omega⟩
    have e : j = cN c := by omega
    subst e
    exact b_t (by rw [hu.1]; exact nI_le (by omega) (by omega)) k
  | succ r ih =>
    intro j fl hj hf
    obtain ⟨g, rfl⟩ : ∃ g, fl = g + 1 := ⟨fl - 1, by omega⟩
    have hj7 : j < 7 := by omega
    obtain ⟨g1, g2, -, -⟩ := hu.2.1 j hj7
    have hv := (hc.2.1 j hj7).2.1
    have hk := (hc.2.1 j hj7).1
    have nxt : ∀ b : Nat, dfL c D (j + 1) = b → wX2_deafOn_b41 N K (wX2_deafOn_b4 N K g) (nI D) (nI b) (nI j) u := by
      intro b eb y5 e5
      rw [i_one] at e5
      subst e5 eb
      exact ih (j + 1) g (by omega) (by omega)
    refine b_f (by rw [hu.1]; exact nI_ge (by omega) (by omega)) ⟨vp7 hj7, ?_⟩
    rw [cl7 (by omega), g1, g2, show (2 : Int32) = nI 2 from rfl, nI_add]
    have e5 : nI (cK c j) = 5 ↔ cK c j = 5 := nI_eq (b := 5) (by omega) (by omega)
    by_cases c5 : cK c j = 5
    · refine n_f (e5.mpr c5) ⟨vp7 hj7, nI_ne0 (by omega) (by omega), ?_⟩
      rw [pk_rem (by omega) (by omega) (by omega)]
      have hm : D % (cV c j + 2) < cV c j + 2 := Nat.mod_lt _ (by omega)
      have e0 : nI (D % (cV c j + 2)) = 0 ↔ D % (cV c j + 2) = 0 := nI_eq (b := 0) (by omega) (by omega)
      by_cases c0 : D % (cV c j + 2) = 0
      · refine n_f (e0.mpr c0) (fun y4 e4 => ?_)
        rw [shl_val j hj7, nor_] at e4
        subst e4
        exact nxt _ (by rw [dfL, if_pos ⟨c5, c0⟩])
      · exact n_t (fun z => c0 (e0.mp z)) (nxt _ (by rw [dfL, if_neg (fun z => c0 z.2)]))
    · exact n_t (fun z => c5 (e5.mp z)) (nxt _ (by rw [dfL, if_neg (fun z => c5 z.1)]))
theorem deaf_c {N D : Nat} {c : Cx} {u : MM} {K : Int32 → MM → Prop} (hN : 10 ≤ N) (hc : CxOk c) (hu : CxU u c) (hD : D < 2000) (k : K (nI (dfL c D (cN c))) u) : wX2_deafOn N (nI D) u K :=
  deaf_lp N D c u K hc hu hD k (cN c) 0 N (by omega) (by have := hc.1; omega)
def HI (o ears D lw y : Nat) (f : Nat → Nat) (u0 : MM) (j : Nat) (u : MM) : Prop := (∀ a, a ≠ o + 1 → a ≠ o + 2 → u a = u0 a) ∧ ∀ p, p < 7 → ((p < j ∧ ears.testBit p = true) → u (o + 1) p = nI (cmb lw (f p) y) ∧ u (o + 2) p = nI D) ∧ (¬ (p < j ∧ ears.testBit p = true) → u (o + 1) p = u0 (o + 1) p ∧ u (o + 2) p = u0 (o + 2) p)
theorem hand_lp (N o ears acc y D : Nat) (c : Cx) (f : Nat → Nat) (u0 : MM) (K : MM → Prop) (hc : CxOk c) (hu : CxU u0 c) (ho : o = 7 ∨ o = 27) (hD : u0 o 0 = nI D) (he : ears < 128) (ha : acc < 128) (hy : y < 10) (hf : ∀ p, p < 7 → ears.testBit p = true → (acc.testBit p = true → f p < 10 ∧ u0 (o + 1) p = nI (f p)) ∧ (acc.testBit p = false → f p = 10)) (k : ∀ u' : MM, HI o ears D (cL_ c) y f u0 (cN c) u' → K u') : ∀ (r j fl : Nat) (u : MM), r + j = cN c → r < fl → HI o ears D (cL_ c) y f u0 j u → wX7_hand_b26 N K o fl (nI ears) (nI acc) (nI y) (nI j) u := by
  have hn := hc.1
  intro r
  induction r with
  | zero =>
    intro j fl u hj hfl hI
    obtain ⟨g, rfl⟩ : ∃ g, fl = g + 1 := ⟨fl - 1, by omega⟩
    have e : j = cN c := by omega
    subst e
    exact b_t (by rw [hI.1 21 (by omega) (by omega), hu.1]; exact nI_le (by omega) (by omega)) (k u hI)
  | succ r ih =>
    intro j fl u hj hfl hI
    obtain ⟨g, rfl⟩ : ∃ g, fl = g + 1 := ⟨fl - 1, by omega⟩
    have hj7 : j < 7 := by omega
    refine b_f (by rw [hI.1 21 (by omega) (by omega), hu.1]; exact nI_ge (by omega) (by omega)) ?_
    cases hb : ears.testBit j
    · refine hb_no he hj7 hb (b_t rfl (fun y12 e12 => ?_))
      rw [i_one] at e12
      subst e12
      refine ih (j + 1) g u (by omega) (by omega) ⟨hI.1, fun p hp => ?_⟩
      have e : (p < j + 1 ∧ ears.testBit p = true) ↔ (p < j ∧ ears.testBit p = true) := by
        constructor
        · rintro ⟨z1, z2⟩
          refine ⟨?_, z2⟩
          by_cases h : p = j
          · subst h; rw [hb] at z2; cases z2
          · omega
        · rintro ⟨z1, z2⟩; exact ⟨by omega, z2⟩
      rw [e]
      exact hI.2 p hp
    · refine hb_yes he hj7 hb (b_f (by decide) ⟨vp7 hj7, fun u5 e5 => ?_⟩)
      rw [cl7 (by omega), hI.1 o (by omega) (by omega), hD] at e5
      rw [cl7 (by omega)]
      have h13 : u5 13 1 = nI (cL_ c % 2) := by rw [upu e5 (by omega), hI.1 13 (by omega) (by omega)]; exact hu.2.2.2.2.1
      have hj0 := (hI.2 j hj7).2 (fun z => by omega)
      have h51 : u5 (o + 1) j = u0 (o + 1) j := by rw [upu e5 (by omega)]; exact hj0.1
      have fin : ∀ u9 : MM, u9 = up u5 (o + 1) j (nI (cmb (cL_ c) (f j) y)) → wX7_hand_b137 N K o (wX7_hand_b26 N K o g) (nI ears) (nI acc) (nI y) (nI j) u9 := by
        intro u9 e9 y12 e12
        rw [i_one] at e12
        subst e12
        refine ih (j + 1) g u9 (by omega) (by omega) ⟨fun a h1 h2 => by rw [upu e9 h1, upu e5 h2]; exact hI.1 a h1 h2, fun p hp => ?_⟩
        by_cases hpj : p = j
        · subst hpj
          refine ⟨fun _ => ⟨upx e9, ?_⟩, fun z => absurd ⟨by omega, hb⟩ z⟩
          rw [upu e9 (by omega)]
          exact upx e5
        · have z1 : u9 (o + 1) p = u (o + 1) p := by rw [e9, up_j hpj, upu e5 (by omega)]
          have z2 : u9 (o + 2) p = u (o + 2) p := by rw [upu e9 (by omega), e5, up_j hpj]
          have e : (p < j + 1 ∧ ears.testBit p = true) ↔ (p < j ∧ ears.testBit p = true) := ⟨fun z => ⟨by omega, z.2⟩, fun z => ⟨by omega, z.2⟩⟩
          rw [e, z1, z2]
          exact hI.2 p hp
      obtain ⟨fa, fb⟩ := hf j hj7 hb
      rw [h13]
      cases hac : acc.testBit j
      · refine hb_no ha hj7 hac (n_f rfl ⟨vp7 hj7, fun u11 e11 => fin u11 ?_⟩)
        rw [e11]
        unfold cmb
        rw [if_pos (fb hac)]
      · obtain ⟨fl10, fe⟩ := fa hac
        rw [fe] at h51
        rw [h51]
        have l2 : cL_ c % 2 = 0 ∨ cL_ c % 2 = 1 := by omega
        refine hb_yes ha hj7 hac (n_t (by decide) ?_)
        rcases l2 with l2 | l2
        · rw [l2]
          refine n_f rfl ⟨vp7 hj7, vp7 hj7, fun u10 e10 => fin u10 ?_⟩
          rw [e10]
          unfold cmb
          rw [if_neg (show ¬ f j = 10 by omega), if_neg (show ¬ cL_ c % 2 = 1 by omega)]
          by_cases z : y < f j
          · rw [if_pos z, if_pos (nl_lt z (by omega))]
          · rw [if_neg z, if_neg (nI_nlt (by omega) (by omega))]
        · rw [l2]
          refine n_t (by decide) ⟨vp7 hj7, vp7 hj7, fun u10 e10 => fin u10 ?_⟩
          rw [e10]
          unfold cmb
          rw [if_neg (show ¬ f j = 10 by omega), if_pos l2]
          by_cases z : f j < y
          · rw [if_pos z, if_pos (nl_lt z (by omega))]
          · rw [if_neg z, if_neg (nI_nlt (by omega) (by omega))]
theorem hand_c {N o ears acc j : Nat} {c : Cx} {w : Wd} {f : Nat → Nat} {u0 : MM} {K : MM → Prop} (hN : 10 ≤ N) (hc : CxOk c) (hu : CxU u0 c) (hw : WdOk c w) (wu : WdU u0 o w) (ho : o = 7 ∨ o = 27) (hj : j < 7) (hb : (wH w).testBit j = true) (he : ears < 128) (ha : acc < 128) (hf : ∀ p, p < 7 → ears.testBit p = true → (acc.testBit p = true → f p < 10 ∧ u0 (o + 1) p = nI (f p)) ∧ (acc.testBit p = false → f p = 10)) (k : ∀ u' : MM, HI o ears (wD w) (cL_ c) (les c w j) f u0 (cN c) u' → K u') : wX7_hand N o (nI j) (nI ears) (nI acc) u0 K := by
  have hn9 := hw.2.2.2 j hj hb
  refine ⟨vp7 hj, fun y1 e1 => ?_⟩
  rw [cl7 (by omega), (wu.2.2.2.2 j hj hb).1, hu.2.2.2.1, les_val _ hn9 _ hc.2.2.2.1] at e1
  subst e1
  refine hand_lp N o ears acc (les c w j) (wD w) c f u0 K hc hu ho wu.1 he ha (by unfold les; omega) hf k (cN c) 0 N u0 (by omega) (by have := hc.1; omega) ⟨fun a _ _ => rfl, fun p _ => ⟨fun z => by omega, fun _ => ⟨rfl, rfl⟩⟩⟩
def DI (o : Nat) (c : Cx) (w : Wd) (x st df : Nat) (u0 : MM) (j : Nat) (u : MM) : Prop := (∀ a, a ≠ 3 → a ≠ o → a ≠ o + 1 → a ≠ o + 2 → u a = u0 a) ∧ WdU u o (wX w (wF w + nI (finP c w x st j))) ∧ ∀ p, p < 7 → (hrP c w x st df j).testBit p = true → u (o + 1) p = nI (numP c w x st p j) ∧ u (o + 2) p = nI (wD w)
theorem tel_or : ∀ a, a < 128 → ∀ b, b < 128 → b ||| wo a b = b ||| a := by
  intro a ha b hb
  apply Nat.eq_of_testBit_eq
  intro i
  rw [Nat.testBit_or, Nat.testBit_or]
  by_cases hi : i < 7
  · rw [wo_bit a ha b hb i hi]
    cases a.testBit i <;> cases b.testBit i <;> rfl
  · have h7 : (2 : Nat) ^ 7 ≤ 2 ^ i := Nat.pow_le_pow_right (by omega) (by omega)
    rw [Nat.testBit_lt_two_pow (show wo a b < 2 ^ i from Nat.lt_of_lt_of_le (wo_ltn (n := 7) ha) h7), Nat.testBit_lt_two_pow (Nat.lt_of_lt_of_le ha h7)]
theorem wo_z (b : Nat) : wo 0 b = 0 := Nat.zero_and _
theorem day_lp (N o : Nat) (c : Cx) (w : Wd) (x st z : Nat) (u0 : MM) (K : Int32 → MM → Prop) (hN : 200 ≤ N) (hc : CxOk c) (hu : CxU u0 c) (hw : WdOk c w) (ho : o = 7 ∨ o = 27) (hx : chOk c w x st) (hz : z ≤ 7) (k : ∀ u' : MM, (∀ a, a ≠ 3 → a ≠ o → a ≠ o + 1 → a ≠ o + 2 → u' a = u0 a) → WdU u' o (dayW c w x st z) → K (nI (pc (hrF c w x st z))) u') : ∀ (r j fl : Nat) (u : MM), r + j = cN c → r < fl → DI o c w x st (dfN c w z) u0 j u → wX7_goDay_b43 N K o fl (oi x) (nI st) (nI (wo (wH w) (wT w))) (nI (dfN c w z)) (nI (hrP c w x st (dfN c w z) j)) (nI j) u := by
  have hn := hc.1
  have hd := dfN_lt (w := w) hc hz
  have hh7 : wH w < 128 := lt128 hw.2.1 hn
  have ht7 : wT w < 128 := lt128 hw.2.2.1 hn
  intro r
  induction r with
  | zero =>
    intro j fl u hj hfl hI
    obtain ⟨g, rfl⟩ : ∃ g, fl = g + 1 := ⟨fl - 1, by omega⟩
    have e : j = cN c := by omega
    subst e
    obtain ⟨i1, i2, i3⟩ := hI
    refine b_t (by rw [i1 21 (by omega) (by omega) (by omega) (by omega), hu.1]; exact nI_le (by omega) (by omega)) (fun u8 e8 u9 e9 u10 e10 => ?_)
    have hrl : hrP c w x st (dfN c w z) (cN c) < 128 := lt128 (hrP_lt hc hx _ hn) hn
    refine bc_val hrl (k u10 (fun a h3 h0 h1 h2 => by rw [upu e10 h0, upu e9 h0, upu e8 h0]; exact i1 a h3 h0 h1 h2) ?_)
    obtain ⟨a1, a2, a3, a4, a5⟩ := i2
    rw [a4] at e8
    have b2 : u8 o 2 = nI (wH w) := by rw [e8, up_j (by omega)]; exact a3
    rw [b2, nor_] at e9
    have b0 : u9 o 0 = nI (wD w) := by rw [e9, up_j (by omega), e8, up_j (by omega)]; exact a1
    rw [b0, i_one] at e10
    refine ⟨upx e10, ?_, ?_, ?_, fun p hp hb => ?_⟩
    · rw [e10, up_j (by omega), e9, up_j (by omega), e8, up_j (by omega)]; exact a2
    · rw [e10, up_j (by omega)]; exact upx e9
    · rw [e10, up_j (by omega), e9, up_j (by omega)]
      refine (upx e8).trans ?_
      show nI (wT w) ||| _ = nI (wT w ||| wH w)
      rw [nor_, tel_or _ hh7 _ ht7]
    · rw [upu e10 (by omega), upu e9 (by omega), upu e8 (by omega), upu e10 (by omega), upu e9 (by omega), upu e8 (by omega)]
      show u (o + 1) p = nI (if (hrF c w x st z).testBit p = true then numP c w x st p (cN c) else wN w p) ∧ u (o + 2) p = if (hrF c w x st z).testBit p = true then nI (wD w) else wY w p
      have hb2 : (wH w ||| hrF c w x st z).testBit p = true := hb
      rw [Nat.testBit_or, Bool.or_eq_true] at hb2
      by_cases hh : (hrF c w x st z).testBit p = true
      · rw [if_pos hh, if_pos hh]
        exact i3 p hp hh
      · rw [if_neg hh, if_neg hh]
        exact a5 p hp (hb2.resolve_right hh)
  | succ r ih =>
    intro j fl u hj hfl hI
    obtain ⟨g, rfl⟩ : ∃ g, fl = g + 1 := ⟨fl - 1, by omega⟩
    have hj7 : j < 7 := by omega
    have htb : (wo (wH w) (wT w)).testBit j = tll w j := wo_bit _ hh7 _ ht7 j hj7
    have htl : wo (wH w) (wT w) < 128 := wo_lt hh7
    obtain ⟨i1, i2, i3⟩ := id hI
    refine b_f (by rw [i1 21 (by omega) (by omega) (by omega) (by omega), hu.1]; exact nI_ge (by omega) (by omega)) ?_
    cases hb : tll w j
    · refine hb_no htl hj7 (htb.trans hb) (b_t rfl (fun y30 e30 => ?_))
      rw [i_one] at e30
      subst e30
      have e0 : chs c w x st j = 0 := by unfold chs; rw [hb]; rfl
      have e1 : hrP c w x st (dfN c w z) (j + 1) = hrP c w x st (dfN c w z) j := by rw [hrP, e0, wo_z, Nat.or_zero]
      have e2 : finP c w x st (j + 1) = finP c w x st j := by rw [finP, hb]; rfl
      have e3 : ∀ p, numP c w x st p (j + 1) = numP c w x st p j := fun p => by rw [numP, e0, Nat.zero_testBit]; rfl
      have hI2 : DI o c w x st (dfN c w z) u0 (j + 1) u := ⟨i1, by rw [e2]; exact i2, fun p hp hb => by rw [e3]; rw [e1] at hb; exact i3 p hp hb⟩
      have := ih (j + 1) g u (by omega) (by omega) hI2
      rw [e1] at this
      exact this
    · refine hb_yes htl hj7 (htb.trans hb) (b_f (by decide) ?_)
      have hhd := tll_hd hb
      have c7 : chs c w x st j < 128 := lt128 (chs_lt hc hx j hj7) hn
      have hcp := chs_pc hc hx hj7 hb
      have hr7 : hrP c w x st (dfN c w z) j < 128 := lt128 (hrP_lt hc hx _ (by omega)) hn
      have hu1 : ∀ u1 : MM, (∀ a, a ≠ 3 → u1 a = u a) → CxU u1 c := fun u1 h1 => hu.same (fun a h2 h3 => by rw [h1 a (by omega)]; exact i1 a (by omega) (by omega) (by omega) (by omega))
      have wu1 : ∀ u1 : MM, (∀ a, a ≠ 3 → u1 a = u a) → WdU u1 o (wX w (wF w + nI (finP c w x st j))) := fun u1 h1 => i2.same (h1 _ (by omega)) (h1 _ (by omega)) (h1 _ (by omega))
      have hal := askF_le hw hj7 hhd
      -- behind the choice
      have cho : ∀ u1 : MM, (∀ a, a ≠ 3 → u1 a = u a) → wX7_goDay_b108 N K o (wX7_goDay_b43 N K o g) (oi x) (nI st) (nI (wo (wH w) (wT w))) (nI (dfN c w z)) (nI (hrP c w x st (dfN c w z) j)) (nI j) (nI (askF c w j)) (nI (chs c w x st j)) u1 := by
        intro u1 h1
        have fin : ∀ (m : Nat) (u2 : MM), (askF c w j - pc (chs c w x st j)) * fineF c w j = m → (∀ a, a ≠ 3 → u2 a = u a) → wX7_goDay_b144 N K o (wX7_goDay_b43 N K o g) (oi x) (nI st) (nI (wo (wH w) (wT w))) (nI (dfN c w z)) (nI (hrP c w x st (dfN c w z) j)) (nI j) (nI (chs c w x st j)) (nI m) (u1 o 1) u2 := by
          intro m u2 em h2 u26 e26
          have ef : finP c w x st (j + 1) = finP c w x st j + m := by rw [finP, if_pos hb, em]
          rw [h1 o (by omega), i2.2.1] at e26
          have e26' : u26 = up u2 o 1 (wF w + nI (finP c w x st (j + 1))) := by
            rw [e26, ef, ← nI_add, ← Int32.add_assoc]; rfl
          rw [wo_val _ c7 _ hd]
          have f26 : ∀ a, a ≠ 3 → a ≠ o → u26 a = u a := fun a z1 z2 => by rw [upu e26' z2]; exact h2 a z1
          have w26 : WdU u26 o (wX w (wF w + nI (finP c w x st (j + 1)))) := by
            obtain ⟨a1, a2, a3, a4, a5⟩ := wu1 u2 h2
            exact ⟨by rw [e26', up_j (by omega)]; exact a1, upx e26', by rw [e26', up_j (by omega)]; exact a3, by rw [e26', up_j (by omega)]; exact a4, fun p hp hb => by rw [upu e26' (by omega), upu e26' (by omega)]; exact a5 p hp hb⟩
          refine hand_c (w := wX w (wF w + nI (finP c w x st (j + 1)))) (f := fun p => numP c w x st p j) (by omega) hc (hu.same (fun a z1 z2 => by rw [f26 a (by omega) (by omega)]; exact i1 a (by omega) (by omega) (by omega) (by omega))) (wX_ok hw) w26 ho hj7 hhd (wo_lt c7) hr7 (fun p hp he => ?_) (fun u28 hh y29 e29 y30 e30 => ?_)
          · rw [wo_bit _ c7 _ hd p hp, Bool.and_eq_true] at he
            have hd0 : (dfN c w z).testBit p = false := by simpa using he.2
            have hbit := hrP_bit hc hw hx hd hp j (by omega)
            rw [hd0, Bool.not_false, Bool.and_true] at hbit
            refine ⟨fun y => ⟨of_decide_eq_true (hbit.symm.trans y), ?_⟩, fun y => ?_⟩
            · rw [f26 _ (by omega) (by omega)]
              exact (i3 p hp y).1
            · have := of_decide_eq_false (hbit.symm.trans y)
              have h10 := numP_le hc hw hx hp j (by omega)
              show numP c w x st p j = 10
              omega
          · rw [nor_] at e29
            rw [i_one] at e30
            subst e29 e30
            refine ih (j + 1) g u28 (by omega) (by omega) ⟨fun a z1 z2 z3 z4 => by rw [hh.1 a z3 z4, f26 a z1 z2]; exact i1 a z1 z2 z3 z4, ?_, fun p hp hb2 => ?_⟩
            · obtain ⟨a1, a2, a3, a4, a5⟩ := w26
              rw [← hh.1 o (by omega) (by omega)] at a1 a2 a3 a4
              refine ⟨a1, a2, a3, a4, fun p hp hb2 => ?_⟩
              have nb : ¬ (p < cN c ∧ (wo (chs c w x st j) (dfN c w z)).testBit p = true) := by
                rintro ⟨-, y⟩
                rw [wo_bit _ c7 _ hd p hp, Bool.and_eq_true] at y
                have := (chs_bit hc hx hj7 hp y.1).2
                rw [show (wH w).testBit p = true from hb2] at this
                cases this
              obtain ⟨z1, z2⟩ := (hh.2 p hp).2 nb
              rw [z1, z2]
              exact a5 p hp hb2
            · by_cases he : (wo (chs c w x st j) (dfN c w z)).testBit p = true
              · have hpn : p < cN c := bit_lt (wo_ltn (chs_lt hc hx j hj7)) he
                obtain ⟨z1, z2⟩ := (hh.2 p hp).1 ⟨hpn, he⟩
                rw [wo_bit _ c7 _ hd p hp, Bool.and_eq_true] at he
                refine ⟨?_, z2⟩
                rw [z1, numP, if_pos he.1]
                rfl
              · obtain ⟨z1, z2⟩ := (hh.2 p hp).2 (fun y => he y.2)
                rw [hrP, Nat.testBit_or, Bool.or_eq_true] at hb2
                have hb3 := hb2.resolve_right he
                have hbit := hrP_bit hc hw hx hd hp j (by omega)
                rw [hb3] at hbit
                have hd0 : (dfN c w z).testBit p = false := by
                  cases hq : (dfN c w z).testBit p
                  · rfl
                  · rw [hq] at hbit; simp at hbit
                have hc0 : (chs c w x st j).testBit p = false := by
                  cases hq : (chs c w x st j).testBit p
                  · rfl
                  · exact absurd (by rw [wo_bit _ c7 _ hd p hp, hq, hd0]; rfl) he
                rw [z1, z2, f26 _ (by omega) (by omega), f26 _ (by omega) (by omega), numP, hc0]
                exact i3 p hp hb3
        refine bc_val c7 (fun y22 e22 => ?_)
        rw [pk_sub hcp] at e22
        subst e22
        have hfl := fineF_le (w := w) (one := j) hc
        by_cases h0 : askF c w j - pc (chs c w x st j) = 0
        · rw [h0]
          exact b_t (by decide) (fin 0 u1 (by rw [h0, Nat.zero_mul]) h1)
        · refine b_f (nI_nle (by omega) (by omega)) (fine_c (by omega) hc (hu1 u1 h1) (wX_ok hw) (wu1 u1 h1) (by omega) hj7 (fun u2 h2 => ?_))
          rw [fineF_wX, pk_mul]
          exact fin _ u2 rfl (fun a ha => by rw [h2 a ha]; exact h1 a ha)
      refine ask_c hc (hu1 u (fun _ _ => rfl)) (wX_ok hw) i2 hj7 hhd ?_
      rw [askF_wX]
      have ex := oi_eq (x := x) hj7 hx.1
      by_cases hjx : j = x
      · refine n_f (ex.mpr hjx) ?_
        have := cho u (fun _ _ => rfl)
        have ec : chs c w x st j = st := by unfold chs; rw [if_pos hb, if_pos hjx]
        rw [ec] at this
        exact this
      · refine n_t (fun y => hjx (ex.mp y)) (may_c (by omega) hc (hu1 u (fun _ _ => rfl)) (wX_ok hw) i2 (by omega) hj7 (fun u2 h2 => ?_))
        rw [mayF_wX]
        refine pick_c (by omega) hc (hu1 u2 h2) hj7 mayF_lt hal ?_
        have := cho u2 h2
        have ec : chs c w x st j = choF c w j := by unfold chs; rw [if_pos hb, if_neg hjx]
        rw [ec] at this
        exact this
theorem goDay_c {N o x st z : Nat} {c : Cx} {w : Wd} {u : MM} {K : Int32 → MM → Prop} (hN : 200 ≤ N) (hc : CxOk c) (hu : CxU u c) (hw : WdOk c w) (wu : WdU u o w) (ho : o = 7 ∨ o = 27) (hx : chOk c w x st) (hz : z ≤ 7) (k : ∀ u' : MM, (∀ a, a ≠ 3 → a ≠ o → a ≠ o + 1 → a ≠ o + 2 → u' a = u a) → WdU u' o (dayW c w x st z) → K (nI (pc (hrF c w x st z))) u') : wX7_goDay N o (oi x) (nI st) (oi z) u K := by
  have hn := hc.1
  have hh7 : wH w < 128 := lt128 hw.2.1 hn
  have ht7 : wT w < 128 := lt128 hw.2.2.1 hn
  unfold wX7_goDay wX9_yetToTell
  rw [wu.2.2.1, wu.2.2.2.1, wo_val _ hh7 _ ht7]
  show wX2_deafOn N (u o 0) u _
  rw [wu.1]
  refine deaf_c (by omega) hc hu hw.1 ?_
  have go : ∀ m : Nat, dfN c w z = dfL c (wD w) (cN c) ||| m → wX7_goDay_b34 N K o (oi x) (nI st) (nI (wo (wH w) (wT w))) (nI m) (nI (dfL c (wD w) (cN c))) u := by
    intro m em y6 e6
    rw [nor_, ← em] at e6
    subst e6
    refine day_lp N o c w x st z u K hN hc hu hw ho hx hz k (cN c) 0 N u (by omega) (by omega) ⟨fun a _ _ _ _ => rfl, ?_, fun p hp hb => ?_⟩
    · obtain ⟨a1, a2, a3, a4, a5⟩ := wu
      exact ⟨a1, a2.trans (Int32.add_zero (wF w)).symm, a3, a4, a5⟩
    · unfold hrP at hb; rw [Nat.zero_testBit] at hb; cases hb
  by_cases h7 : z = 7
  · refine n_f (by unfold oi; rw [if_pos h7]) (go 0 (by unfold dfN; rw [if_pos h7]))
  · have e : oi z = nI z := by unfold oi; rw [if_neg h7]
    rw [e, shl_val z (by omega)]
    exact n_t (nI_m1 (by omega)) (go (2 ^ z) (by unfold dfN; rw [if_neg h7]))
