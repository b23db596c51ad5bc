theorem first_lp (N k rest one : Nat) (c : Cx) (v : MM) (K : Int32 → MM → Prop) (hN : 10 ≤ N) (hc : CxOk c) (hv : CxV (v 1) c) (hk : k < 7) (hr : rest < 128) (x : Nat) (q : K (oi x) v) : ∀ (r j cur fl : Nat), r + j = cN c → r < fl → cur ≤ 7 → scanL c k rest r j cur = x → wX11_firstOf_b78 N K fl (nI rest) (nI k) (oi cur) (nI j) v := by
  have hn := hc.1
  intro r
  induction r with
  | zero =>
    intro j cur fl hj hf hcu he
    obtain ⟨g, rfl⟩ : ∃ g, fl = g + 1 := ⟨fl - 1, by omega⟩
    have he2 : cur = x := he
    subst he2
    exact b_t (by rw [hv.1]; exact nI_le (by omega) (by omega)) q
  | succ r ih =>
    intro j cur fl hj hf hcu he
    obtain ⟨g, rfl⟩ : ∃ g, fl = g + 1 := ⟨fl - 1, by omega⟩
    have hj7 : j < 7 := by omega
    rw [scanL] at he
    have stay : ¬ (rest.testBit j = true ∧ (cur = 7 ∨ ahd c k j cur = true)) → wX11_firstOf_b179 N K (wX11_firstOf_b78 N K g) (nI rest) (nI k) (oi cur) (nI j) v := by
      intro z y9 e9
      rw [i_one] at e9
      subst e9
      rw [if_neg z] at he
      exact ih (j + 1) cur g (by omega) (by omega) hcu he
    have take : (rest.testBit j = true ∧ (cur = 7 ∨ ahd c k j cur = true)) → wX11_firstOf_b174 N K (wX11_firstOf_b78 N K g) (nI rest) (nI k) (nI j) v := by
      intro z y9 e9
      rw [i_one] at e9
      subst e9
      rw [if_pos z] at he
      have := ih (j + 1) j g (by omega) (by omega) (by omega) he
      have e : oi j = nI j := by unfold oi; rw [if_neg (by omega)]
      rw [e] at this
      exact this
    have e7 : oi cur = -1 ↔ cur = 7 := by
      unfold oi
      by_cases h7 : cur = 7
      · rw [if_pos h7]; exact ⟨fun _ => h7, fun _ => rfl⟩
      · rw [if_neg h7]; exact ⟨fun z => absurd z (nI_m1 (by omega)), fun z => absurd z h7⟩
    have fin : ∀ b : Bool, (cur = 7 ∨ ahd c k j cur = b) → wX11_firstOf_b151 N K (wX11_firstOf_b78 N K g) (nI rest) (nI k) (oi cur) (nI j) (nI (bn b)) v := by
      intro b hb
      unfold wX11_firstOf_b151
      rw [bit_val rest hr j hj7]
      cases ht : rest.testBit j
      · exact n_t (by decide) (stay (fun z => by rw [ht] at z; exact absurd z.1 (by decide)))
      · refine n_f rfl ?_
        by_cases h7 : cur = 7
        · exact b_t (e7.mpr h7) (take ⟨ht, Or.inl h7⟩)
        · have ha := hb.resolve_left h7
          refine b_f (fun z => h7 (e7.mp z)) ?_
          cases b
          · exact b_t rfl (stay (fun z => by rcases z.2 with y | y; exact h7 y; rw [ha] at y; cases y))
          · exact b_f (by decide) (take ⟨ht, Or.inr ha⟩)
    have e1 : nI k = 1 ↔ k = 1 := nI_eq (b := 1) (by omega) (by omega)
    have e3 : nI k = 3 ↔ k = 3 := nI_eq (b := 3) (by omega) (by omega)
    have e4 : nI k = 4 ↔ k = 4 := nI_eq (b := 4) (by omega) (by omega)
    have e6 : nI k = 6 ↔ k = 6 := nI_eq (b := 6) (by omega) (by omega)
    have sub : (k = 1 ∨ k = 4) → wX11_firstOf_b111 N K (wX11_firstOf_b78 N K g) (nI rest) (nI k) (oi cur) (nI j) v := by
      intro z
      have ea : ahd c k j cur = decide (pc (cB c cur) < pc (cB c j)) := by unfold ahd; rw [if_pos z]
      unfold wX11_firstOf_b111
      by_cases h7 : cur = 7
      · exact b_t (e7.mpr h7) (fin false (Or.inl h7))
      refine b_f (fun z => h7 (e7.mp z)) ?_
      have eo : oi cur = nI cur := by unfold oi; rw [if_neg h7]
      rw [eo] at fin ⊢
      rw [i38, nI_clamp (by omega), (hv.2.1 j hj7).2.2.1]
      refine ⟨vp_in_nI (by omega) (by omega), count1_val (by omega) (hc.2.1 j hj7).2.2.1 ?_⟩
      rw [i38, nI_clamp (by omega), (hv.2.1 cur (by omega)).2.2.1]
      refine ⟨vp_in_nI (by omega) (by omega), count1_val (by omega) (hc.2.1 cur (by omega)).2.2.1 ?_⟩
      have p1 := pc_le (cB c j)
      have p2 := pc_le (cB c cur)
      by_cases hq : pc (cB c cur) < pc (cB c j)
      · exact b_f (nI_ge hq (by omega)) (fin true (Or.inr (by rw [ea]; exact decide_eq_true hq)))
      · exact b_t (nI_le (by omega) (by omega)) (fin false (Or.inr (by rw [ea]; exact decide_eq_false hq)))
    refine b_f (by rw [hv.1]; exact nI_ge (by omega) (by omega)) ?_
    have e36 : ¬ (k = 1 ∨ k = 4) → ahd c k j cur = decide (k = 3 ∨ k = 6) := fun z => by unfold ahd; rw [if_neg z]
    by_cases c3 : k = 3
    · exact b_t (e3.mpr c3) (fin true (Or.inr (by rw [e36 (by omega)]; exact decide_eq_true (Or.inl c3))))
    refine b_f (fun z => c3 (e3.mp z)) ?_
    by_cases c6 : k = 6
    · exact b_t (e6.mpr c6) (fin true (Or.inr (by rw [e36 (by omega)]; exact decide_eq_true (Or.inr c6))))
    refine b_f (fun z => c6 (e6.mp z)) ?_
    by_cases c1 : k = 1
    · exact b_t (e1.mpr c1) (sub (Or.inl c1))
    refine b_f (fun z => c1 (e1.mp z)) ?_
    by_cases c4 : k = 4
    · exact n_f (e4.mpr c4) (sub (Or.inr c4))
    · exact n_t (fun z => c4 (e4.mp z)) (fin false (Or.inr (by rw [e36 (by omega)]; exact decide_eq_false (by omega))))
theorem firow_lp (N rest one : Nat) (c : Cx) (v : MM) (K : Int32 → MM → Prop) (hN : 10 ≤ N) (hc : CxOk c) (hv : CxV (v 1) c) (h1 : one < 7) (hr : rest < 128) (q : ∀ x : Nat, x = firF c one rest → K (oi x) v) : ∀ (r j fl : Nat), r + j = cZ c one → r < fl → rowL c one rest (cZ c one) 0 = rowL c one rest r j → wX11_firstOf_b13 N K fl (nI one) (nI rest) (nI (cK c one)) (nI j) v := by
  have hn := hc.1
  have hz7 := (hc.2.1 one h1).2.2.2.1
  intro r
  induction r with
  | zero =>
    intro j fl hj hf he
    obtain ⟨g, rfl⟩ : ∃ g, fl = g + 1 := ⟨fl - 1, by omega⟩
    unfold wX11_firstOf_b13
    rw [i45, nI_clamp (by omega), (hv.2.1 one h1).2.2.2]
    refine ⟨vp_in_nI (by omega) (by omega), b_t (nI_le (by omega) (by omega)) ?_⟩
    have ef : firF c one rest = scanL c (cK c one) rest (cN c) 0 7 := by unfold firF; rw [he, rowL]
    exact first_lp N (cK c one) rest one c v K hN hc hv (hc.2.1 one h1).1 hr _ (q _ ef.symm) (cN c) 0 7 N (by omega) (by omega) (by omega) rfl
  | succ r ih =>
    intro j fl hj hf he
    obtain ⟨g, rfl⟩ : ∃ g, fl = g + 1 := ⟨fl - 1, by omega⟩
    unfold wX11_firstOf_b13
    have hR : cR c (7 * one + j) < 7 := hc.2.2.1 _ (by omega)
    have ix : (52 : Int32) + 7 * nI one + nI j = nI (52 + (7 * one + j)) := by rw [show (7 : Int32) = nI 7 from rfl, pk_mul, i52, nI_add, Nat.add_assoc]
    rw [ix, i45, nI_clamp (by omega), nI_clamp (by omega), (hv.2.1 one h1).2.2.2, hv.2.2.1 _ (by omega), bit_val rest hr _ hR]
    refine ⟨vp_in_nI (by omega) (by omega), b_f (nI_ge (by omega) (by omega)) ⟨vp_in_nI (by omega) (by omega), ?_⟩⟩
    rw [rowL] at he
    by_cases hb : rest.testBit (cR c (7 * one + j)) = true
    · rw [if_pos hb] at he ⊢
      refine n_f rfl ⟨vp_in_nI (by omega) (by omega), ?_⟩
      have ef : cR c (7 * one + j) = firF c one rest := by unfold firF; rw [he]
      have := q _ ef
      unfold oi at this
      rw [if_neg (by omega)] at this
      exact this
    · rw [if_neg hb] at he ⊢
      refine n_t (by decide) (fun y4 e4 => ?_)
      rw [i_one] at e4
      subst e4
      exact ih (j + 1) g (by omega) (by omega) he
theorem first_m {N rest one : Nat} {c : Cx} {v : MM} {K : Int32 → MM → Prop} (hN : 10 ≤ N) (hc : CxOk c) (hv : CxV (v 1) c) (h1 : one < 7) (h0 : rest ≠ 0) (hr : rest < 2 ^ cN c) (q : K (nI (firF c one rest)) v) : wX11_firstOf N (nI one) (nI rest) v K := by
  have hz7 := (hc.2.1 one h1).2.2.2.1
  have hn := hc.1
  unfold wX11_firstOf
  rw [i24, nI_clamp (by omega), (hv.2.1 one h1).1]
  refine ⟨vp_in_nI (by omega) (by omega), fun y1 e1 => ?_⟩
  subst e1
  refine firow_lp N rest one c v K hN hc hv h1 (lt128 hr hn) (fun x ex => ?_) (cZ c one) 0 N (by omega) (by omega) rfl
  have := (fir_bit (one := one) hn h0 hr).1
  unfold oi
  rw [if_neg (by omega), ex]
  exact q
theorem chom_lp (N one : Nat) (c : Cx) (w : Wd) (v : MM) (K : Int32 → MM → Prop) (hN : 10 ≤ N) (hc : CxOk c) (hv : CxV (v 1) c) (hw : WdOk c w) (wv : WdV (v 1) w) (h1 : one < 7) (hb : (wH w).testBit one = true) : ∀ (r rest acc i fl : Nat), pc rest < r → r ≤ fl → rest < 2 ^ cN c → acc < 128 → i < 100 → K (nI (choL c one (askF c w one) r rest acc i)) v → wX11_choiceOf_b11 N K fl (nI one) (nI rest) (nI acc) (nI i) v := by
  have hn := hc.1
  intro r
  induction r with
  | zero => intro rest acc i fl h; omega
  | succ r ih =>
    intro rest acc i fl hp hf hr ha hi q
    obtain ⟨g, rfl⟩ : ∃ g, fl = g + 1 := ⟨fl - 1, by omega⟩
    have al := askF_le hw h1 hb
    have hr7 : rest < 128 := lt128 hr hn
    refine ask_m hc hv hw wv h1 hb ?_
    rw [choL] at q
    by_cases h2 : askF c w one ≤ i
    · rw [if_pos (Or.inl h2)] at q
      exact b_t (nI_le h2 (by omega)) q
    refine b_f (nI_ge (by omega) (by omega)) ?_
    have e0 : nI rest = 0 ↔ rest = 0 := nI_eq (b := 0) (by omega) (by omega)
    by_cases h0 : rest = 0
    · rw [if_pos (Or.inr h0)] at q
      exact b_t (e0.mpr h0) q
    rw [if_neg (fun z => z.elim h2 h0)] at q
    refine b_f (fun z => h0 (e0.mp z)) (first_m hN hc hv h1 h0 hr ?_)
    obtain ⟨f1, f2⟩ := fir_bit (one := one) hn h0 hr
    rw [shl_val _ (by omega)]
    intro y9 e9 y10 e10 y11 e11
    rw [nor_] at e9
    rw [wo_val rest hr7 _ (pow_lt (by omega))] at e10
    rw [i_one] at e11
    subst e9 e10 e11
    have := pc_wo rest hr7 _ (by omega) f2
    exact ih _ _ (i + 1) g (by omega) (by omega) (wo_ltn hr) (Nat.or_lt_two_pow (n := 7) ha (pow_lt (by omega))) (by omega) q
theorem cho_m {N one : Nat} {c : Cx} {w : Wd} {v : MM} {K : Int32 → MM → Prop} (hN : 200 ≤ N) (hc : CxOk c) (hv : CxV (v 1) c) (hw : WdOk c w) (wv : WdV (v 1) w) (h1 : one < 7) (hb : (wH w).testBit one = true) (q : ∀ v' : MM, mR v v' → K (nI (choF c w one)) v') : wX11_choiceOf N (nI one) v K := by
  refine may_m hN hc hv hw wv h1 (fun v2 m2 => ?_)
  have e1 : v2 1 = v 1 := m2.1 1 (by omega) (by omega) (by omega)
  exact chom_lp N one c w v2 K (by omega) hc (by rw [e1]; exact hv) hw (by rw [e1]; exact wv) h1 hb 8 (mayF c w one) 0 0 N (by have := pc_le (mayF c w one); omega) (by omega) mayF_lt (by omega) (by omega) (q v2 m2)
