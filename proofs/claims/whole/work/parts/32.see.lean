theorem shl8 : ∀ p, p < 8 → ((1 : Int32) <<< (nI p &&& 31)) - 1 = nI (2 ^ p - 1) := by decide +kernel
theorem pow8 {n : Nat} (hn : n ≤ 7) : 0 < 2 ^ n ∧ 2 ^ n ≤ 128 := ⟨Nat.pow_pos (by omega), by have := Nat.pow_le_pow_right (n := 2) (by omega) hn; omega⟩
theorem rel_see (N : Nat) : ∀ (u v : MM) (x1 x2 : Int32), relT u v → wX10_see N x1 x2 u (fun r u2 => wX11_see N x1 x2 v (fun r2 v2 => r = r2 ∧ relT u2 v2)) := by
  intro u v x1 x2 h
  obtain ⟨⟨n, hd, td, hRS⟩, hr⟩ := id h
  obtain ⟨h1, h2, h3, h4, h5, h6, h7, h8⟩ := id hRS
  obtain ⟨p1, p2, p3, p4, p5, p6⟩ := id h1
  obtain ⟨m, hm, em, hsn⟩ := id h6
  have hu : u 21 0 = nI n := (h2 18 11 0 m18).trans p2
  have um : u 30 0 = nI m := (h2 20 20 0 m20).trans em
  by_cases hx0 : x1 = -1
  · refine n_f hx0 (fun u2 e2 => n_f hx0 (fun v2 f2 => ⟨rfl, ?_⟩))
    refine rel_now h (kpu e2 (by decide)) (kq1 f2) ⟨n, hd, td, h1.kp (upv f2 (by decide)) (upv f2 (by decide)) (upv f2 (by decide)), h2.put2 (a := 20) e2 f2 m20 rfl, h3.kp (upv f2 (by decide)) (upv f2 (by decide)) (upv f2 (by decide)), h4.kp (fun k hk => upv f2 (by omega)), h5.kp ⟨upu e2 (by decide), upu e2 (by decide)⟩ (fun k a b => upv f2 (by omega)), ⟨0, by omega, upx f2, fun k hk => by omega⟩, h7.kp ⟨upu e2 (by decide), upu e2 (by decide)⟩ (fun k hk => upv f2 (by omega)), h8.kp (fun k a b => upu e2 (by omega)) (fun k hk => upv f2 (by omega))⟩
  have ep : ((1 : Int32) <<< (nI n &&& 31)) - 1 = nI (2 ^ n - 1) := shl8 n (by omega)
  obtain ⟨w1, w2⟩ := pow8 p1
  have ul : ∀ K : Int32 → MM → Prop, K (nI (2 ^ n - 1)) u → wX2_all N u K := fun K q => by
    unfold wX2_all
    rw [hu, ep]
    exact q
  refine n_t hx0 ?_
  have out : (x1 < 0 ∨ nI (2 ^ n - 1 + 1) ≤ x1) → wX11_see N x1 x2 v (fun r2 v2 => -2 = r2 ∧ relT u v2) := fun hx => by
    refine n_t hx0 ?_
    rw [p2, ep]
    exact min_no (by omega) hx (b_t rfl ⟨rfl, h⟩)
  rcases arg3 x1 (n := 2 ^ n - 1 + 1) (by omega) with hx | ⟨c, hc, rfl⟩
  · by_cases h0 : x1 < 0
    · exact b_t h0 (out hx)
    · exact b_f h0 (ul _ (b_t ((i_le_of_lt (by omega)).mpr (hx.resolve_left h0)) (out hx)))
  refine b_f (nI_pos (by omega)) (ul _ (b_f (nI_nlt (by omega) (by omega)) ?_))
  rcases arg3 x2 (n := 7) (by omega) with hx | ⟨d, hd7, rfl⟩
  · refine in_no (n := 7) hx (n_f rfl (n_t hx0 ?_))
    rw [p2, ep]
    exact min_yes hc (by omega) (b_f (by decide) (min_no (n := 6) (by omega) hx (n_f rfl ⟨rfl, h⟩)))
  refine in_yes (n := 7) hd7 (by omega) (n_t (by decide) ?_)
  have m6 : nI m = 6 ↔ m = 6 := nI_eq (a := m) (b := 6) (by omega) (by omega)
  unfold wX4_add
  rw [um]
  by_cases hf : m = 6
  · refine b_t (by rw [hf]; exact nI_le (a := 6) (b := 6) (by omega) (by omega)) (b_t rfl (n_t hx0 ?_))
    rw [p2, ep]
    refine min_yes hc (by omega) (b_f (by decide) (min_yes (n := 6) (by omega) (by omega) (n_t (by decide) (n_f (by rw [em]; exact m6.mpr hf) ⟨rfl, h⟩))))
  have hm5 : m < 6 := by omega
  refine b_f (nI_ge (a := m) (b := 6) hm5 (by omega)) (b_t (nl_lt (a := m) (b := 6) hm5 (by omega)) ⟨vp_in_nI hm5 (by omega), fun u2 e2 => ?_⟩)
  rw [nI_clamp (by omega)] at e2
  have q2 : u2 30 0 = nI m := by rw [upu e2 (by decide)]; exact um
  rw [q2, nI_clamp (by omega)]
  refine ⟨vp_in_nI hm5 (by omega), fun u3 e3 u4 e4 => b_f (by decide) (n_t hx0 ?_)⟩
  have q3 : u3 30 0 = nI m := by rw [upu e3 (by decide)]; exact q2
  rw [q3, i_one] at e4
  rw [p2, ep]
  refine min_yes hc (by omega) (b_f (by decide) (min_yes (n := 6) (by omega) (by omega) (n_t (by decide) (n_t (by rw [em]; exact fun z => hf (m6.mp z)) ?_))))
  rw [em, i101, nI_clamp (by omega)]
  refine ⟨vp_in_nI (by omega) (by omega), fun v2 f2 => ?_⟩
  have g2 : v2 1 20 = nI m := by rw [upv f2 (by omega)]; exact em
  rw [g2, i107, nI_clamp (by omega)]
  refine ⟨vp_in_nI (by omega) (by omega), fun v3 f3 v4 f4 => ?_⟩
  have g3 : v3 1 20 = nI m := by rw [upv f3 (by omega)]; exact g2
  rw [g3, i_one] at f4
  refine ⟨by rw [upx e4, upx f4], ?_⟩
  have hs : ∀ k, (k ≠ 20 ∧ k ≠ 107 + m ∧ k ≠ 101 + m) → v4 1 k = v 1 k := fun k z => (upv f4 z.1).trans ((upv f3 z.2.1).trans (upv f2 z.2.2))
  have hr2 : ∀ k, (k ≠ 30 ∧ k ≠ 31 ∧ k ≠ 32) → u4 k = u k := fun k z => (upu e4 z.1).trans ((upu e3 z.2.2).trans (upu e2 z.2.1))
  have g : EqS u4 10 (v4 1) := by
    have a1 : EqS u3 10 (v 1) := ((h2.offu e2 (Or.inr (Or.inr (fun i c hm => by unfold mir at hm; omega)))).offu e3 (Or.inr (Or.inr (fun i c hm => by unfold mir at hm; omega))))
    have a2 : EqS u3 10 (v3 1) := (a1.offv f2 (fun a b hm => by unfold mir at hm; omega)).offv f3 (fun a b hm => by unfold mir at hm; omega)
    exact a2.put2 (a := 20) e4 f4 m20 rfl
  refine rel_now h (((kpu e2 (by decide)).tr (kpu e3 (by decide))).tr (kpu e4 (by decide))) (((kq1 f2).tr (kq1 f3)).tr (kq1 f4)) ⟨n, hd, td, h1.kp (hs _ (by omega)) (hs _ (by omega)) (hs _ (by omega)), g, h3.kp (hs _ (by omega)) (hs _ (by omega)) (hs _ (by omega)), h4.kp (fun k hk => hs k (by omega)), h5.kp ⟨hr2 _ (by decide), hr2 _ (by decide)⟩ (fun k a b => hs k (by omega)), ⟨m + 1, by omega, upx f4, fun k hk => ?_⟩, h7.kp ⟨hr2 _ (by decide), hr2 _ (by decide)⟩ (fun k hk => hs k (by omega)), h8.kp (fun k a b => hr2 k (by omega)) (fun k hk => hs k (by omega))⟩
  by_cases hkm : k = m
  · subst hkm
    have y1 : v4 1 (101 + k) = nI c := by rw [upv f4 (by omega), upv f3 (by omega)]; exact upx f2
    have y2 : v4 1 (107 + k) = nI d := by rw [upv f4 (by omega)]; exact upx f3
    have y3 : u4 31 k = nI c := by rw [upu e4 (by decide), upu e3 (by decide)]; exact upx e2
    have y4 : u4 32 k = nI d := by rw [upu e4 (by decide)]; exact upx e3
    exact ⟨y3.trans y1.symm, y4.trans y2.symm, by rw [y1]; exact ⟨c, by omega, rfl⟩, by rw [y2]; exact ⟨d, hd7, rfl⟩⟩
  · have y3 : u4 31 k = u 31 k := by rw [upu e4 (by decide), upu e3 (by decide), e2, up_j hkm]
    have y4 : u4 32 k = u 32 k := by rw [upu e4 (by decide), e3, up_j hkm, upu e2 (by decide)]
    rw [hs (101 + k) (by omega), hs (107 + k) (by omega)]
    exact ⟨y3.trans (hsn k (by omega)).1, y4.trans (hsn k (by omega)).2.1, (hsn k (by omega)).2.2⟩
