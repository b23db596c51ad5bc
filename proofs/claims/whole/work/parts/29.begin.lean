theorem EqS.w17 {u u' v v' : MM} (h : EqS u 10 (v 1)) (hr : ∀ k, 10 ≤ k → k < 34 → k ≠ 27 → k ≠ 28 → k ≠ 29 → u' k = u k) (hs : ∀ k, 18 ≤ k → v' 1 k = v 1 k) (h4 : ∀ i, i < 4 → u' 27 i = v' 1 i) : EqS u' 10 (v' 1) := by
  intro i a b hm
  by_cases ha : a = 17
  · have : i < 4 ∧ b = i := by unfold mir at hm; omega
    rw [ha, this.2]
    exact h4 i this.1
  · have e : 10 ≤ 10 + a ∧ 10 + a < 34 ∧ 10 + a ≠ 27 ∧ 10 + a ≠ 28 ∧ 10 + a ≠ 29 ∧ 18 ≤ i := by unfold mir at hm; omega
    rw [hr _ e.1 e.2.1 e.2.2.1 e.2.2.2.1 e.2.2.2.2.1, hs _ e.2.2.2.2.2]
    exact h i a b hm
theorem i4cases {i : Nat} (h : i < 4) : i = 0 ∨ i = 1 ∨ i = 2 ∨ i = 3 := by omega
theorem rel_begin (N : Nat) : ∀ (u v : MM) (x1 x2 : Int32), relT u v → wX10_begin N x1 x2 u (fun r u2 => wX11_begin N x1 x2 v (fun r2 v2 => r = r2 ∧ relT u2 v2)) := by
  intro u v x1 x2 h
  obtain ⟨⟨n, hd, td, h1, h2, h3, h4, h5, h6, h7, h8⟩, hr⟩ := id h
  obtain ⟨p1, p2, p3, p4, p5, p6⟩ := id h1
  have hu : u 21 0 = nI n := (h2 18 11 0 m18).trans p2
  rcases arg3 x1 (n := n) (by omega) with hx | ⟨a, ha, rfl⟩
  · exact has_no hu hx (n_f rfl (per_no p2 p1 hx (n_f rfl ⟨rfl, h⟩)))
  refine has_yes hu p1 ha (n_t (by decide) ?_)
  have ha7 : a < 7 := by omega
  rcases arg3 x2 (n := 10) (by omega) with hx | ⟨b, hb, rfl⟩
  · exact num_no hx (n_f rfl (per_yes p2 p1 ha (n_t (by decide) (min_no (n := 9) (by omega) hx (n_f rfl ⟨rfl, h⟩)))))
  refine num_yes hb (n_t (by decide) ?_)
  intro u1 e1 u2 e2 u3 e3 u4 e4
  refine ⟨vp7 ha7, fun u5 e5 => ⟨vp7 ha7, fun u6 e6 => ?_⟩⟩
  rw [nI_clamp (by omega)] at e5 e6
  rw [shl_val a ha7] at e3
  refine per_yes p2 p1 ha (n_t (by decide) (min_yes (n := 9) (by omega) (by omega) (n_t (by decide) ?_)))
  intro v1 f1 v2 f2
  rw [shl_val a ha7] at f1
  rw [i4, i11]
  rw [nI_clamp (by omega), nI_clamp (by omega)]
  refine ⟨vp_in_nI (by omega) (by omega), fun v3 f3 => ⟨vp_in_nI (by omega) (by omega), fun v4 f4 => fun v5 f5 => ⟨rfl, ?_⟩⟩⟩
  have d0 : u 27 0 = v 1 0 := h2 0 17 0 (m17 (by decide))
  have d3 : v3 1 0 = v 1 0 := (upv f3 (by omega)).trans ((upv f2 (by decide)).trans (upv f1 (by decide)))
  rw [d3] at f4
  rw [d0] at e1 e6
  refine rel_now h (((((((kpu e1 (by decide)).tr (kpu e2 (by decide))).tr (kpu e3 (by decide))).tr (kpu e4 (by decide))).tr (kpu e5 (by decide))).tr (kpu e6 (by decide)))) ((((((kq1 f1).tr (kq1 f2)).tr (kq1 f3)).tr (kq1 f4)).tr (kq1 f5))) ⟨n, 2 ^ a, 0, ?_⟩
  have hs : ∀ k, (k ≠ 1 ∧ k ≠ 11 + a ∧ k ≠ 4 + a ∧ k ≠ 3 ∧ k ≠ 2) → v5 1 k = v 1 k := fun k z => (upv f5 z.1).trans ((upv f4 z.2.1).trans ((upv f3 z.2.2.1).trans ((upv f2 z.2.2.2.1).trans (upv f1 z.2.2.2.2))))
  have hr2 : ∀ k, (k ≠ 27 ∧ k ≠ 28 ∧ k ≠ 29) → u6 k = u k := fun k z => (upu e6 z.2.2).trans ((upu e5 z.2.1).trans ((upu e4 z.1).trans ((upu e3 z.1).trans ((upu e2 z.1).trans (upu e1 z.1)))))
  have w0 : v5 1 0 = v 1 0 := hs 0 (by omega)
  have w1 : v5 1 1 = 0 := upx f5
  have w2 : v5 1 2 = nI (2 ^ a) := by rw [upv f5 (by decide), upv f4 (by omega), upv f3 (by omega), upv f2 (by decide)]; exact upx f1
  have w3 : v5 1 3 = 0 := by rw [upv f5 (by decide), upv f4 (by omega), upv f3 (by omega)]; exact upx f2
  have y27 : u6 27 = u4 27 := (upu e6 (by decide)).trans (upu e5 (by decide))
  have y0 : u6 27 0 = v 1 0 := by rw [y27, e4, up_j (by decide), e3, up_j (by decide), e2, up_j (by decide), e1, up_at]
  have y1 : u6 27 1 = 0 := by rw [y27, e4, up_j (by decide), e3, up_j (by decide), e2, up_at]
  have y2 : u6 27 2 = nI (2 ^ a) := by rw [y27, e4, up_j (by decide), e3, up_at]
  have y3 : u6 27 3 = 0 := by rw [y27, e4, up_at]
  refine ⟨⟨p1, by rw [hs 18 (by omega)]; exact p2, Nat.pow_lt_pow_right (by omega) ha, w2, Nat.pow_pos (by omega), w3⟩, h2.w17 (fun k _ _ a b c => hr2 k ⟨a, b, c⟩) (fun k hk => hs k (by omega)) (fun i hi => ?_), h3.kp w0 (hs 19 (by omega)) (hs 22 (by omega)), h4.kp (fun k hk => hs k (by omega)), fun p hp hbt => ?_, h6.kp ⟨hr2 _ (by decide), hr2 _ (by decide)⟩ (fun k hk => hs k (by omega)), h7.kp ⟨hr2 _ (by decide), hr2 _ (by decide)⟩ (fun k hk => hs k (by omega)), h8.kp (fun k a b => hr2 k (by omega)) (fun k hk => hs k (by omega))⟩
  · rcases i4cases hi with rfl | rfl | rfl | rfl
    · rw [y0, w0]
    · rw [y1, w1]
    · rw [y2, w2]
    · rw [y3, w3]
  · rw [Nat.testBit_two_pow] at hbt
    have hpa : p = a := (of_decide_eq_true hbt).symm
    subst hpa
    have x4 : v5 1 (4 + p) = nI b := by rw [upv f5 (by omega), upv f4 (by omega)]; exact upx f3
    have x11 : v5 1 (11 + p) = v 1 0 := by rw [upv f5 (by omega)]; exact upx f4
    have z28 : u6 28 p = nI b := by rw [upu e6 (by decide)]; exact upx e5
    have z29 : u6 29 p = v 1 0 := upx e6
    exact ⟨z28.trans x4.symm, by rw [x4]; exact ⟨b, hb, rfl⟩, z29.trans x11.symm⟩
