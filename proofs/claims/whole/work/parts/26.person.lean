set_option maxRecDepth 20000 in
theorem rel_person (N : Nat) : ∀ (u v : MM) (x1 x2 : Int32), relT u v → wX10_person N x1 x2 u (fun r u2 => wX11_person N x1 x2 v (fun r2 v2 => r = r2 ∧ relT u2 v2)) := by
  intro u v x1 x2 h
  obtain ⟨⟨n, hd, td, h1, h2, h3, h4, h5, h6, h7, h8⟩, hr⟩ := id h
  obtain ⟨p1, p2, p3, p4, p5, p6⟩ := id h1
  have hu : u 21 0 = nI n := (h2 18 11 0 m18).trans p2
  rcases arg3 x1 (n := 7) (by omega) with hx | ⟨a, ha, rfl⟩
  · exact in_no (n := 7) hx (n_f rfl (min_no (n := 6) (by omega) hx (n_f rfl ⟨rfl, h⟩)))
  refine in_yes (n := 7) ha (by omega) (n_t (by decide) ?_)
  rcases arg3 x2 (n := 10) (by omega) with hx | ⟨b, hb, rfl⟩
  · exact num_no hx (n_f rfl (min_yes (n := 6) (by omega) (by omega) (n_t (by decide) (min_no (n := 9) (by omega) hx (n_f rfl ⟨rfl, h⟩)))))
  refine num_yes hb (n_t (by decide) ?_)
  have hm : ∀ {K : Int32 → MM → Prop}, ((¬ (v 1 18) = 7 → (∀ y6 : Int32, y6 = (v 1 18) → (vp_in ((24 + y6)) 944 ∧ ∀ u7 : MM, u7 = up v 1 ((24 + y6).toNatClampNeg) (nI a) → (vp_in ((31 + y6)) 944 ∧ ∀ u8 : MM, u8 = up u7 1 ((31 + y6).toNatClampNeg) (nI b) → (vp_in ((38 + y6)) 944 ∧ ∀ u9 : MM, u9 = up u8 1 ((38 + y6).toNatClampNeg) 0 → (vp_in ((45 + y6)) 944 ∧ ∀ u10 : MM, u10 = up u9 1 ((45 + y6).toNatClampNeg) 0 → (vp_in ((4 + y6)) 944 ∧ ∀ u11 : MM, u11 = up u10 1 ((4 + y6).toNatClampNeg) 0 → (vp_in ((11 + y6)) 944 ∧ ∀ u12 : MM, u12 = up u11 1 ((11 + y6).toNatClampNeg) 0 → (∀ u13 : MM, u13 = up u12 1 18 ((u12 1 18) + 1) → (K y6 u13)))))))))) ∧ ((v 1 18) = 7 → (K (-4) v))) → wX11_person N (nI a) (nI b) v K := fun k => min_yes (n := 6) (by omega) (by omega) (n_t (by decide) (min_yes (n := 9) (by omega) (by omega) (n_t (by decide) k)))
  by_cases hf : n = 7
  · refine b_f (by rw [hu, hf]; exact nI_nlt (a := 7) (b := 7) (by omega) (by omega)) (b_t rfl (hm (n_f (by rw [p2, hf]; rfl) ⟨rfl, h⟩)))
  have hn : n < 7 := by omega
  have vin : ∀ w : MM, w 21 0 = nI n → vp_in (w 21 0) 7 := fun w hw => by rw [hw]; exact vp7 hn
  refine b_t (by rw [hu]; exact nl_lt (a := n) (b := 7) hn (by omega)) ⟨vin u hu, ?_⟩
  intro u2 e2
  rw [hu, nI_clamp (by omega)] at e2
  have g2 : u2 21 0 = nI n := by rw [e2, up_k (by decide)]; exact hu
  refine ⟨vin u2 g2, ?_⟩
  intro u3 e3
  rw [g2, nI_clamp (by omega)] at e3
  have g3 : u3 21 0 = nI n := by rw [e3, up_k (by decide)]; exact g2
  refine ⟨vin u3 g3, ?_⟩
  intro u4 e4
  rw [g3, nI_clamp (by omega)] at e4
  have g4 : u4 21 0 = nI n := by rw [e4, up_k (by decide)]; exact g3
  refine ⟨vin u4 g4, ?_⟩
  intro u5 e5
  rw [g4, nI_clamp (by omega)] at e5
  have g5 : u5 21 0 = nI n := by rw [e5, up_k (by decide)]; exact g4
  intro u6 e6
  rw [g5, i_one] at e6
  refine b_f (by decide) (hm (n_t (by rw [p2, show (7 : Int32) = nI 7 from rfl, nI_eq (by omega) (by omega)]; omega) ?_))
  intro y6 ey
  rw [p2] at ey
  subst ey
  have vi : ∀ c, c < 100 → vp_in (nI (c + n)) 944 := fun c hc => vp_in_nI (by omega) (by omega)
  rw [i24, i31, i38, i45, i4, i11]
  rw [nI_clamp (by omega), nI_clamp (by omega), nI_clamp (by omega), nI_clamp (by omega), nI_clamp (by omega), nI_clamp (by omega)]
  refine ⟨vi 24 (by omega), fun v1 f1 => ⟨vi 31 (by omega), fun v2 f2 => ⟨vi 38 (by omega), fun v3 f3 => ⟨vi 45 (by omega), fun v4 f4 => ⟨vi 4 (by omega), fun v5 f5 => ⟨vi 11 (by omega), fun v6 f6 => fun v7 f7 => ?_⟩⟩⟩⟩⟩⟩
  have f18 : v6 1 18 = nI n := by rw [f6, up_j (by omega), f5, up_j (by omega), f4, up_j (by omega), f3, up_j (by omega), f2, up_j (by omega), f1, up_j (by omega)]; exact p2
  rw [f18, i_one] at f7
  refine ⟨by rw [e6, up_at, i_sub1], ?_⟩
  refine rel_now h (((((kpu e2 (by decide)).tr (kpu e3 (by decide))).tr (kpu e4 (by decide))).tr (kpu e5 (by decide))).tr (kpu e6 (by decide))) (((((((kq1 f1).tr (kq1 f2)).tr (kq1 f3)).tr (kq1 f4)).tr (kq1 f5)).tr (kq1 f6)).tr (kq1 f7)) ⟨n + 1, hd, td, ?_⟩
  have hs : ∀ k, (k ≠ 18 ∧ k ≠ 11 + n ∧ k ≠ 4 + n ∧ k ≠ 45 + n ∧ k ≠ 38 + n ∧ k ≠ 31 + n ∧ k ≠ 24 + n) → v7 1 k = v 1 k := fun k z => (upv f7 z.1).trans ((upv f6 z.2.1).trans ((upv f5 z.2.2.1).trans ((upv f4 z.2.2.2.1).trans ((upv f3 z.2.2.2.2.1).trans ((upv f2 z.2.2.2.2.2.1).trans (upv f1 z.2.2.2.2.2.2))))))
  have hr2 : ∀ k, (k ≠ 21 ∧ k ≠ 22 ∧ k ≠ 23 ∧ k ≠ 24 ∧ k ≠ 25) → u6 k = u k := fun k z => (upu e6 z.1).trans ((upu e5 z.2.2.2.2).trans ((upu e4 z.2.2.2.1).trans ((upu e3 z.2.2.1).trans (upu e2 z.2.1))))
  have q1 : 2 ^ n ≤ 2 ^ (n + 1) := Nat.pow_le_pow_right (by omega) (by omega)
  have g : EqS u6 10 (v7 1) := by
    have a1 : EqS u2 10 (v1 1) := h2.put2 (a := 12) e2 f1 (m24 hn) rfl
    have a2 : EqS u3 10 (v2 1) := a1.put2 (a := 13) e3 f2 (m31 hn) rfl
    have a3 : EqS u4 10 (v3 1) := a2.put2 (a := 14) e4 f3 (m38 hn) rfl
    have a4 : EqS u5 10 (v4 1) := a3.put2 (a := 15) e5 f4 (m45 hn) rfl
    have a5 : EqS u5 10 (v5 1) := a4.offv f5 (fun a b hm => by unfold mir at hm; omega)
    have a6 : EqS u5 10 (v6 1) := a5.offv f6 (fun a b hm => by unfold mir at hm; omega)
    exact a6.put2 (a := 11) e6 f7 m18 rfl
  refine ⟨⟨by omega, upx f7, by omega, by rw [hs 2 (by omega)]; exact p4, by omega, by rw [hs 3 (by omega)]; exact p6⟩, g, h3.kp (hs 0 (by omega)) (hs 19 (by omega)) (hs 22 (by omega)), ⟨fun p hp => ?_, fun k hk => ?_, fun k hk => ?_⟩, fun p hp hb => ?_, h6.kp ⟨hr2 _ (by decide), hr2 _ (by decide)⟩ (fun k hk => hs k (by omega)), h7.kp ⟨hr2 _ (by decide), hr2 _ (by decide)⟩ (fun k hk => hs k (by omega)), h8.kp (fun k a b => hr2 k (by omega)) (fun k hk => hs k (by omega))⟩
  · by_cases hpn : p = n
    · subst hpn
      have w1 : v7 1 (24 + p) = nI a := by rw [upv f7 (by omega), upv f6 (by omega), upv f5 (by omega), upv f4 (by omega), upv f3 (by omega), upv f2 (by omega)]; exact upx f1
      have w2 : v7 1 (31 + p) = nI b := by rw [upv f7 (by omega), upv f6 (by omega), upv f5 (by omega), upv f4 (by omega), upv f3 (by omega)]; exact upx f2
      have w3 : v7 1 (38 + p) = 0 := by rw [upv f7 (by omega), upv f6 (by omega), upv f5 (by omega), upv f4 (by omega)]; exact upx f3
      have w4 : v7 1 (45 + p) = 0 := by rw [upv f7 (by omega), upv f6 (by omega), upv f5 (by omega)]; exact upx f4
      rw [w1, w2, w3, w4]
      exact ⟨⟨a, ha, rfl⟩, ⟨b, hb, rfl⟩, ⟨0, by omega, rfl⟩, ⟨0, by omega, rfl⟩, fun _ => rfl⟩
    · rw [hs (24 + p) (by omega), hs (31 + p) (by omega), hs (38 + p) (by omega), hs (45 + p) (by omega)]
      exact h4.1 p hp
  · rw [hs _ (by omega)]; exact h4.2.1 k hk
  · rw [hs _ (by omega)]; exact h4.2.2 k hk
  · have hpn : p ≠ n := by
      intro e
      subst e
      rw [Nat.testBit_lt_two_pow p3] at hb
      cases hb
    rw [hs (4 + p) (by omega), hs (11 + p) (by omega), hr2 _ (by decide), hr2 _ (by decide)]
    exact h5 p hp hb
