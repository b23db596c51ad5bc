/-! BEST -/
def bstT (c : Cx) (w : Wd) (num : Nat) : Nat → Nat × Nat × Int32
  | 0 => (0, 0, 0)
  | j + 1 => if j = 0 ∨ (bstT c w num j).2.1 < pc (wH (runW c w j num)) ∨ (pc (wH (runW c w j num)) = (bstT c w num j).2.1 ∧ wF (runW c w j num) < (bstT c w num j).2.2) then (j, pc (wH (runW c w j num)), wF (runW c w j num)) else bstT c w num j
theorem bstT_lt (c : Cx) (w : Wd) (num : Nat) : ∀ j, (bstT c w num j).1 ≤ j ∧ (bstT c w num j).2.1 ≤ 7
  | 0 => ⟨Nat.le_refl _, Nat.zero_le _⟩
  | j + 1 => by
    have ih := bstT_lt c w num j
    rw [bstT]
    split
    · exact ⟨by show j ≤ j + 1; omega, pc_le _⟩
    · exact ⟨by omega, ih.2⟩
theorem best_clp (N num : Nat) (c : Cx) (w : Wd) (u0 : MM) (K : MM → Prop) (hN : 200 ≤ N) (hc : CxOk c) (hu : CxU u0 c) (hw : WdOk c w) (wu : WdU u0 27 w) (hD : wD w < 1000) (hnum : num < 10) (k : ∀ u' : MM, (∀ a, a ≠ 1 → a ≠ 3 → a ≠ 7 → a ≠ 8 → a ≠ 9 → u' a = u0 a) → (0 < cN c → u' 1 2 = nI (bstT c w num (cN c)).1 ∧ u' 1 3 = nI (bstT c w num (cN c)).2.1 ∧ u' 1 4 = (bstT c w num (cN c)).2.2) → K u') : ∀ (r j fl : Nat) (u : MM), r + j = cN c → r < fl → (∀ a, a ≠ 1 → a ≠ 3 → a ≠ 7 → a ≠ 8 → a ≠ 9 → u a = u0 a) → (j = 0 → u 1 2 = -1) → (0 < j → u 1 2 = nI (bstT c w num j).1 ∧ u 1 3 = nI (bstT c w num j).2.1 ∧ u 1 4 = (bstT c w num j).2.2) → wX1_findBest_b7 N K fl (nI num) (nI j) u := by
  have hn := hc.1
  intro r
  induction r with
  | zero =>
    intro j fl u hj hfl hR i0 i1
    obtain ⟨g, rfl⟩ : ∃ g, fl = g + 1 := ⟨fl - 1, by omega⟩
    have e : j = cN c := by omega
    subst e
    exact b_t (by rw [hR 21 (by omega) (by omega) (by omega) (by omega) (by omega), hu.1]; exact nI_le (by omega) (by omega)) (k u hR i1)
  | succ r ih =>
    intro j fl u hj hfl hR i0 i1
    obtain ⟨g, rfl⟩ : ∃ g, fl = g + 1 := ⟨fl - 1, by omega⟩
    have hb := bstT_lt c w num j
    refine b_f (by rw [hR 21 (by omega) (by omega) (by omega) (by omega) (by omega), hu.1]; exact nI_ge (by omega) (by omega)) ?_
    have hu1 : CxU u c := hu.same (fun a h1 h2 => hR a (by omega) (by omega) (by omega) (by omega) (by omega))
    have wu1 : WdU u 27 w := wu.same (hR _ (by omega) (by omega) (by omega) (by omega) (by omega)) (hR _ (by omega) (by omega) (by omega) (by omega) (by omega)) (hR _ (by omega) (by omega) (by omega) (by omega) (by omega))
    refine brun_c hN hc hu1 hw wu1 hD (by omega) hnum (fun u6 r6 w6 => ?_)
    have hW := runW_ok hc hw hD (show j < cN c by omega) hnum
    have hH7 : wH (runW c w j num) < 128 := lt128 hW.2.1 hn
    have q1 : u6 1 = u 1 := r6 1 (by omega) (by omega) (by omega) (by omega)
    have hR6 : ∀ a, a ≠ 1 → a ≠ 3 → a ≠ 7 → a ≠ 8 → a ≠ 9 → u6 a = u0 a := fun a h1 h3 h7 h8 h9 => (r6 a h3 h7 h8 h9).trans (hR a h1 h3 h7 h8 h9)
    rw [w6.2.2.1]
    refine bc_val hH7 ?_
    have hp7 := pc_le (wH (runW c w j num))
    have take : bstT c w num (j + 1) = (j, pc (wH (runW c w j num)), wF (runW c w j num)) → wX1_findBest_b122 N K (wX1_findBest_b7 N K g) (nI num) (nI j) (nI (pc (wH (runW c w j num)))) u6 := by
      intro eb u14 e14 u15 e15 u16 e16 y13 e13
      rw [i_one] at e13
      subst e13
      rw [upu e15 (by decide), upu e14 (by decide), w6.2.1] at e16
      refine ih (j + 1) g u16 (by omega) (by omega) (fun a h1 h3 h7 h8 h9 => by rw [upu e16 h1, upu e15 h1, upu e14 h1]; exact hR6 a h1 h3 h7 h8 h9) (fun y => by omega) (fun _ => ?_)
      rw [eb]
      exact ⟨by rw [e16, up_j (by decide), e15, up_j (by decide)]; exact upx e14, by rw [e16, up_j (by decide)]; exact upx e15, upx e16⟩
    have skip : bstT c w num (j + 1) = bstT c w num j → 0 < j → wX1_findBest_b143 N K (wX1_findBest_b7 N K g) (nI num) (nI j) u6 := by
      intro eb h0 y13 e13
      rw [i_one] at e13
      subst e13
      exact ih (j + 1) g u6 (by omega) (by omega) hR6 (fun y => by omega) (fun _ => by rw [eb, q1]; exact i1 h0)
    rw [bstT] at take skip
    by_cases h0 : j = 0
    · rw [if_pos (Or.inl h0)] at take
      have z2 : u6 1 2 = -1 := by rw [q1]; exact i0 h0
      have any : ∀ s0 : Int32, wX1_findBest_b107 N K (wX1_findBest_b7 N K g) (nI num) (nI j) (nI (pc (wH (runW c w j num)))) s0 u6 := fun s0 => b_t z2 (take rfl)
      by_cases c1 : u6 1 3 < nI (pc (wH (runW c w j num)))
      · exact b_t c1 (any 1)
      refine b_f c1 ?_
      by_cases c2 : nI (pc (wH (runW c w j num))) = u6 1 3
      · refine n_f c2 ?_
        by_cases c3 : u6 1 4 ≤ u6 7 1
        · exact b_t c3 (any 0)
        · exact b_f c3 (any 1)
      · exact n_t c2 (any 0)
    · obtain ⟨b1, b2, b3⟩ := i1 (by omega)
      have nz : ¬ u6 1 2 = -1 := by rw [q1, b1]; exact nI_m1 (by omega)
      have a1 : (bstT c w num j).2.1 < pc (wH (runW c w j num)) ∨ (pc (wH (runW c w j num)) = (bstT c w num j).2.1 ∧ wF (runW c w j num) < (bstT c w num j).2.2) → wX1_findBest_b102 N K (wX1_findBest_b7 N K g) (nI num) (nI j) (nI (pc (wH (runW c w j num)))) u6 := by
        intro y
        rw [if_pos (Or.inr y)] at take
        exact b_f nz (b_f (by decide) (take rfl))
      have a0 : ¬ ((bstT c w num j).2.1 < pc (wH (runW c w j num)) ∨ (pc (wH (runW c w j num)) = (bstT c w num j).2.1 ∧ wF (runW c w j num) < (bstT c w num j).2.2)) → wX1_findBest_b106 N K (wX1_findBest_b7 N K g) (nI num) (nI j) (nI (pc (wH (runW c w j num)))) u6 := by
        intro y
        rw [if_neg (fun z => z.elim h0 y)] at skip
        exact b_f nz (b_t rfl (skip rfl (by omega)))
      rw [q1, b2, b3, w6.2.1]
      by_cases c1 : (bstT c w num j).2.1 < pc (wH (runW c w j num))
      · exact b_t (nl_lt c1 (by omega)) (a1 (Or.inl c1))
      refine b_f (nI_nlt (by omega) (by omega)) ?_
      have e2 : nI (pc (wH (runW c w j num))) = nI (bstT c w num j).2.1 ↔ pc (wH (runW c w j num)) = (bstT c w num j).2.1 := nI_eq (by omega) (by omega)
      by_cases c2 : pc (wH (runW c w j num)) = (bstT c w num j).2.1
      · refine n_f (e2.mpr c2) ?_
        by_cases c3 : wF (runW c w j num) < (bstT c w num j).2.2
        · exact b_f (Int32.not_le.mpr c3) (a1 (Or.inr ⟨c2, c3⟩))
        · exact b_t (Int32.not_lt.mp c3) (a0 (fun y => y.elim c1 (fun z => c3 z.2)))
      · exact n_t (fun y => c2 (e2.mp y)) (a0 (fun y => y.elim c1 (fun z => c2 z.1)))
def bm (j : Nat) (h : Nat) : Int32 := if j = 0 then -1 else nI h
theorem best_mlp (N num : Nat) (c : Cx) (w : Wd) (v0 : MM) (x2 : Int32) (K : Int32 → MM → Prop) (hN : 200 ≤ N) (hc : CxOk c) (hv : CxV (v0 1) c) (hw : WdOk c w) (wv : WdV (v0 1) w) (hD : wD w < 1000) (hnum : num < 10) (h16 : v0 0 16 = -1) (k : ∀ v' : MM, tR v0 v' → v' 1 = v0 1 → v' 0 17 = -1 → ((¬ x2 = 0 → ((¬ x2 = 1 → (K (bstT c w num (cN c)).2.2 v')) ∧ (x2 = 1 → (K (bm (cN c) (bstT c w num (cN c)).2.1) v')))) ∧ (x2 = 0 → (K (nI (bstT c w num (cN c)).1) v')))) : ∀ (r j fl : Nat) (v : MM), r + j = cN c → r < fl → tR v0 v → v 1 = v0 1 → v 0 17 = -1 → wX11_best_b52 N K fl (nI num) x2 (nI (bstT c w num j).1) (bm j (bstT c w num j).2.1) (bstT c w num j).2.2 (nI j) v := by
  have hn := hc.1
  intro r
  induction r with
  | zero =>
    intro j fl v hj hfl hR h1 h17
    obtain ⟨g, rfl⟩ : ∃ g, fl = g + 1 := ⟨fl - 1, by omega⟩
    have e : j = cN c := by omega
    subst e
    exact b_t (by rw [h1, hv.1]; exact nI_le (by omega) (by omega)) (k v hR h1 h17)
  | succ r ih =>
    intro j fl v hj hfl hR h1 h17
    obtain ⟨g, rfl⟩ : ∃ g, fl = g + 1 := ⟨fl - 1, by omega⟩
    have hb := bstT_lt c w num j
    refine b_f (by rw [h1, hv.1]; exact nI_ge (by omega) (by omega)) ?_
    refine brun_m (v0 := v0) hN hc (by rw [h1]; exact hv) hw (by rw [h1]; exact wv) hD (by omega) hnum (by rw [hR.2.1 16 (by omega)]; exact h16) h17 hR (fun v6 t6 z6 e6 s6 w6 => ?_)
    have hW := runW_ok hc hw hD (show j < cN c by omega) hnum
    have hH7 : wH (runW c w j num) < 128 := lt128 hW.2.1 hn
    have hp7 := pc_le (wH (runW c w j num))
    rw [w6.2.2.1]
    refine count1_val (by omega) hH7 ?_
    rw [w6.2.1]
    have fin : ∀ (B : Nat × Nat × Int32) (x3 x4 x5 : Int32), bstT c w num (j + 1) = B → x3 = nI B.1 → x4 = nI B.2.1 → x5 = B.2.2 → wX11_best_b161 N K (wX11_best_b52 N K g) (nI num) x2 x3 x4 (nI j) x5 v6 := by
      intro B x3 x4 x5 eB e3 e4 e5
      refine tback_m (by omega) t6 (fun v7 t7 s7 z7 y24 e24 => ?_)
      rw [i_one] at e24
      subst e24 eB e3 e4 e5
      have eb : bm (j + 1) (bstT c w num (j + 1)).2.1 = nI (bstT c w num (j + 1)).2.1 := by unfold bm; rw [if_neg (by omega)]
      have := ih (j + 1) g v7 (by omega) (by omega) t7 s7 (by rw [z7]; exact e6)
      rw [eb] at this
      exact this
    rw [bstT] at fin
    have take : (j = 0 ∨ (bstT c w num j).2.1 < pc (wH (runW c w j num)) ∨ (pc (wH (runW c w j num)) = (bstT c w num j).2.1 ∧ wF (runW c w j num) < (bstT c w num j).2.2)) → wX11_best_b112 N K (wX11_best_b52 N K g) (nI num) x2 (nI (bstT c w num j).1) (bm j (bstT c w num j).2.1) (bstT c w num j).2.2 (nI j) (nI (pc (wH (runW c w j num)))) v6 := by
      intro y
      rw [if_pos y] at fin
      refine b_f (by decide) (b_f (by decide) (b_f (by decide) ?_))
      exact fin _ _ _ _ rfl rfl rfl w6.2.1
    have skip : ¬ (j = 0 ∨ (bstT c w num j).2.1 < pc (wH (runW c w j num)) ∨ (pc (wH (runW c w j num)) = (bstT c w num j).2.1 ∧ wF (runW c w j num) < (bstT c w num j).2.2)) → wX11_best_b116 N K (wX11_best_b52 N K g) (nI num) x2 (nI (bstT c w num j).1) (bm j (bstT c w num j).2.1) (bstT c w num j).2.2 (nI j) (nI (pc (wH (runW c w j num)))) v6 := by
      intro y
      rw [if_neg y] at fin
      refine b_t rfl (b_t rfl (b_t rfl ?_))
      exact fin _ _ _ _ rfl rfl (by unfold bm; rw [if_neg (fun z => y (Or.inl z))]) rfl
    by_cases h0 : j = 0
    · have em : bm j (bstT c w num j).2.1 = -1 := by unfold bm; rw [if_pos h0]
      refine b_t ?_ (take (Or.inl h0))
      rw [em, Int32.lt_iff_toInt_lt, nI_toInt (by omega)]
      have : ((-1 : Int32)).toInt = -1 := by decide
      omega
    · have em : bm j (bstT c w num j).2.1 = nI (bstT c w num j).2.1 := by unfold bm; rw [if_neg h0]
      rw [em] at take skip ⊢
      by_cases c1 : (bstT c w num j).2.1 < pc (wH (runW c w j num))
      · exact b_t (nl_lt c1 (by omega)) (take (Or.inr (Or.inl c1)))
      refine b_f (nI_nlt (by omega) (by omega)) ?_
      have e2 : nI (pc (wH (runW c w j num))) = nI (bstT c w num j).2.1 ↔ pc (wH (runW c w j num)) = (bstT c w num j).2.1 := nI_eq (by omega) (by omega)
      by_cases c2 : pc (wH (runW c w j num)) = (bstT c w num j).2.1
      · refine n_f (e2.mpr c2) ?_
        by_cases c3 : wF (runW c w j num) < (bstT c w num j).2.2
        · exact b_f (Int32.not_le.mpr c3) (take (Or.inr (Or.inr ⟨c2, c3⟩)))
        · exact b_t (Int32.not_lt.mp c3) (skip (fun y => y.elim h0 (fun z => z.elim c1 (fun z => c3 z.2))))
      · exact n_t (fun y => c2 (e2.mp y)) (skip (fun y => y.elim h0 (fun z => z.elim c1 (fun z => c2 z.1))))
theorem rel_best (N : Nat) (hN : 200 ≤ N) : ∀ (u v : MM) (x1 x2 : Int32), relT u v → wX10_best N x1 x2 u (fun r u2 => wX11_best N x1 x2 v (fun r2 v2 => r = r2 ∧ relT u2 v2)) := by
  intro u v x1 x2 h
  obtain ⟨⟨n, hd, td, hRS⟩, -, h16, h17, -⟩ := id h
  obtain ⟨c, w, hc, hu, hv, hw, wu, wv, en, eh, et, hD⟩ := hRS.nums
  have hn := hc.1
  rcases arg3 x2 (n := 3) (by omega) with hx | ⟨a, ha, rfl⟩
  · exact in_no (n := 3) hx (n_f rfl (min_no (n := 2) (by omega) hx (n_f rfl ⟨rfl, h⟩)))
  refine in_yes (n := 3) ha (by omega) (n_t (by decide) ?_)
  rcases arg3 x1 (n := 10) (by omega) with hx | ⟨b, hb, rfl⟩
  · exact num_no hx (n_f rfl (min_yes (n := 2) (by omega) (by omega) (n_t (by decide) (min_no (n := 9) (by omega) hx (n_f rfl ⟨rfl, h⟩)))))
  refine num_yes hb (n_t (by decide) ?_)
  have mid : ∀ K2 : Int32 → MM → Prop, ((¬ (v 1 18) = 0 → (wX11_keeps N v (fun u7 => (wX11_best_b52 N K2 N (nI b) (nI a) 0 (-1) 0 0 u7)))) ∧ ((v 1 18) = 0 → (K2 (-3) v))) → wX11_best N (nI b) (nI a) v K2 := fun K2 q => min_yes (n := 2) (by omega) (by omega) (n_t (by decide) (min_yes (n := 9) (by omega) (by omega) (n_t (by decide) q)))
  rw [hv.1] at mid
  rw [hu.1]
  have e0 : nI (cN c) = 0 ↔ cN c = 0 := nI_eq (b := 0) (by omega) (by omega)
  by_cases h0 : cN c = 0
  · exact n_f (e0.mpr h0) (mid _ (n_f (e0.mpr h0) ⟨rfl, h⟩))
  refine n_t (fun y => h0 (e0.mp y)) (fun u1 e1 => ?_)
  refine best_clp N b c w u _ hN hc hu hw wu hD hb (fun u7 r7 i7 => ?_) (cN c) 0 N u1 (by omega) (by omega) (fun a h1 _ _ _ _ => upu e1 h1) (fun _ => upx e1) (fun y => by omega)
  obtain ⟨b1, b2, b3⟩ := i7 (by omega)
  have last : ∀ r : Int32, ((¬ nI a = 0 → ((¬ nI a = 1 → r = (bstT c w b (cN c)).2.2) ∧ (nI a = 1 → r = nI (bstT c w b (cN c)).2.1))) ∧ (nI a = 0 → r = nI (bstT c w b (cN c)).1)) → wX11_best N (nI b) (nI a) v (fun r2 v2 => r = r2 ∧ relT u7 v2) := by
    intro r hr
    refine mid _ (n_t (fun y => h0 (e0.mp y)) (tkeep_m (by omega) (fun v4 t4 s4 z4 => ?_)))
    refine best_mlp N b c w v (nI a) _ hN hc hv hw wv hD hb h16 (fun v7 t7 s7 e7 => ?_) (cN c) 0 N v4 (by omega) (by omega) t4 s4 (by rw [z4]; exact h17)
    have rr : relT u7 v7 := rel_try h r7 t7 s7 e7
    have em : bm (cN c) (bstT c w b (cN c)).2.1 = nI (bstT c w b (cN c)).2.1 := by unfold bm; rw [if_neg h0]
    rw [em]
    exact ⟨fun y => ⟨fun z => ⟨(hr.1 y).1 z, rr⟩, fun z => ⟨(hr.1 y).2 z, rr⟩⟩, fun y => ⟨hr.2 y, rr⟩⟩
  rw [b1, b2, b3]
  obtain rfl | rfl | rfl : a = 0 ∨ a = 1 ∨ a = 2 := by omega
  · exact b_t rfl (last _ (n_f rfl rfl))
  · exact b_f (by decide) (b_t rfl (last _ (n_t (by decide) (n_f rfl rfl))))
  · exact b_f (by decide) (b_f (by decide) (last _ (n_t (by decide) (n_t (by decide) rfl))))
