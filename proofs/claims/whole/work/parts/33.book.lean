theorem rel_book (N : Nat) : ∀ (u v : MM) (x1 x2 : Int32), relT u v → wX10_book N x1 x2 u (fun r u2 => wX11_book N x1 x2 v (fun r2 v2 => r = r2 ∧ relT u2 v2)) := by
  intro u v x1 x2 h
  obtain ⟨⟨n, hd, td, hRS⟩, hr⟩ := id h
  obtain ⟨h1, h2, h3, h4, h5, h6, h7, h8⟩ := id hRS
  obtain ⟨p1, p2, p3, p4, p5, p6⟩ := id h1
  obtain ⟨m, hm, em, hsn⟩ := id h7
  have hu : u 21 0 = nI n := (h2 18 11 0 m18).trans p2
  have um : u 33 0 = nI m := (h2 21 23 0 m21).trans em
  by_cases hx0 : x1 = -1
  · refine n_f hx0 (fun u2 e2 => n_f hx0 (fun v2 f2 => ⟨rfl, ?_⟩))
    refine rel_now h (kpu e2 (by decide)) (kq1 f2) ⟨n, hd, td, h1.kp (upv f2 (by decide)) (upv f2 (by decide)) (upv f2 (by decide)), h2.put2 (a := 23) e2 f2 m21 rfl, h3.kp (upv f2 (by decide)) (upv f2 (by decide)) (upv f2 (by decide)), h4.kp (fun k hk => upv f2 (by omega)), h5.kp ⟨upu e2 (by decide), upu e2 (by decide)⟩ (fun k a b => upv f2 (by omega)), h6.kp ⟨upu e2 (by decide), upu e2 (by decide)⟩ (fun k hk => upv f2 (by omega)), ⟨0, by omega, upx f2, fun k hk => by omega⟩, h8.kp (fun k a b => upu e2 (by omega)) (fun k hk => upv f2 (by omega))⟩
  refine n_t hx0 ?_
  rcases arg3 x1 (n := n) (by omega) with hx | ⟨c, hc, rfl⟩
  · exact has_no hu hx (n_f rfl (n_t hx0 (per_no p2 p1 hx (n_f rfl ⟨rfl, h⟩))))
  refine has_yes hu p1 hc (n_t (by decide) ?_)
  rcases arg3 x2 (n := 1000) (by omega) with hx | ⟨d, hd7, rfl⟩
  · exact in_no (n := 1000) hx (n_f rfl (n_t hx0 (per_yes p2 p1 hc (n_t (by decide) (min_no (n := 999) (by omega) hx (n_f rfl ⟨rfl, h⟩))))))
  refine in_yes (n := 1000) hd7 (by omega) (n_t (by decide) ?_)
  have m6 : nI m = 8 ↔ m = 8 := nI_eq (a := m) (b := 8) (by omega) (by omega)
  unfold wX4_add8
  rw [um]
  by_cases hf : m = 8
  · refine b_t (by rw [hf]; exact nI_le (a := 8) (b := 8) (by omega) (by omega)) (b_t rfl (n_t hx0 ?_))
    refine per_yes p2 p1 hc (n_t (by decide) (min_yes (n := 999) (by omega) (by omega) (n_t (by decide) (n_f (by rw [em]; exact m6.mpr hf) ⟨rfl, h⟩))))
  have hm5 : m < 8 := by omega
  refine b_f (nI_ge (a := m) (b := 8) hm5 (by omega)) (b_t (nl_lt (a := m) (b := 8) hm5 (by omega)) ⟨vp_in_nI hm5 (by omega), fun u2 e2 => ?_⟩)
  rw [nI_clamp (by omega)] at e2
  have q2 : u2 33 0 = nI m := by rw [upu e2 (by decide)]; exact um
  rw [q2, nI_clamp (by omega)]
  refine ⟨vp_in_nI hm5 (by omega), fun u3 e3 u4 e4 => b_f (by decide) (n_t hx0 ?_)⟩
  have q3 : u3 33 0 = nI m := by rw [upu e3 (by decide)]; exact q2
  rw [q3, i_one] at e4
  refine per_yes p2 p1 hc (n_t (by decide) (min_yes (n := 999) (by omega) (by omega) (n_t (by decide) (n_t (by rw [em]; exact fun z => hf (m6.mp z)) ?_))))
  rw [em, i113, nI_clamp (by omega)]
  refine ⟨vp_in_nI (by omega) (by omega), fun v2 f2 => ?_⟩
  have g2 : v2 1 21 = nI m := by rw [upv f2 (by omega)]; exact em
  rw [g2, i121, nI_clamp (by omega)]
  refine ⟨vp_in_nI (by omega) (by omega), fun v3 f3 v4 f4 => ?_⟩
  have g3 : v3 1 21 = nI m := by rw [upv f3 (by omega)]; exact g2
  rw [g3, i_one] at f4
  refine ⟨by rw [upx e4, upx f4], ?_⟩
  have hs : ∀ k, (k ≠ 21 ∧ k ≠ 121 + m ∧ k ≠ 113 + m) → v4 1 k = v 1 k := fun k z => (upv f4 z.1).trans ((upv f3 z.2.1).trans (upv f2 z.2.2))
  have hr2 : ∀ k, (k ≠ 33 ∧ k ≠ 34 ∧ k ≠ 35) → u4 k = u k := fun k z => (upu e4 z.1).trans ((upu e3 z.2.2).trans (upu e2 z.2.1))
  have g : EqS u4 10 (v4 1) := by
    have a1 : EqS u3 10 (v 1) := ((h2.offu e2 (Or.inr (Or.inr (fun i c hm => by unfold mir at hm; omega)))).offu e3 (Or.inr (Or.inr (fun i c hm => by unfold mir at hm; omega))))
    have a2 : EqS u3 10 (v3 1) := (a1.offv f2 (fun a b hm => by unfold mir at hm; omega)).offv f3 (fun a b hm => by unfold mir at hm; omega)
    exact a2.put2 (a := 23) e4 f4 m21 rfl
  refine rel_now h (((kpu e2 (by decide)).tr (kpu e3 (by decide))).tr (kpu e4 (by decide))) (((kq1 f2).tr (kq1 f3)).tr (kq1 f4)) ⟨n, hd, td, h1.kp (hs _ (by omega)) (hs _ (by omega)) (hs _ (by omega)), g, h3.kp (hs _ (by omega)) (hs _ (by omega)) (hs _ (by omega)), h4.kp (fun k hk => hs k (by omega)), h5.kp ⟨hr2 _ (by decide), hr2 _ (by decide)⟩ (fun k a b => hs k (by omega)), h6.kp ⟨hr2 _ (by decide), hr2 _ (by decide)⟩ (fun k hk => hs k (by omega)), ⟨m + 1, by omega, upx f4, fun k hk => ?_⟩, h8.kp (fun k a b => hr2 k (by omega)) (fun k hk => hs k (by omega))⟩
  by_cases hkm : k = m
  · subst hkm
    have y1 : v4 1 (113 + k) = nI c := by rw [upv f4 (by omega), upv f3 (by omega)]; exact upx f2
    have y2 : v4 1 (121 + k) = nI d := by rw [upv f4 (by omega)]; exact upx f3
    have y3 : u4 34 k = nI c := by rw [upu e4 (by decide), upu e3 (by decide)]; exact upx e2
    have y4 : u4 35 k = nI d := by rw [upu e4 (by decide)]; exact upx e3
    exact ⟨y3.trans y1.symm, y4.trans y2.symm, by rw [y1]; exact ⟨c, by omega, rfl⟩⟩
  · have y3 : u4 34 k = u 34 k := by rw [upu e4 (by decide), upu e3 (by decide), e2, up_j hkm]
    have y4 : u4 35 k = u 35 k := by rw [upu e4 (by decide), e3, up_j hkm, upu e2 (by decide)]
    rw [hs (113 + k) (by omega), hs (121 + k) (by omega)]
    exact ⟨y3.trans (hsn k (by omega)).1, y4.trans (hsn k (by omega)).2.1, (hsn k (by omega)).2.2⟩
