/-! town -/
theorem pR_ok {T : Tp} : ∀ (r n p : Nat) (S : St), 1 ≤ n → p ≤ T.2 → SOk (n - 1) p S → (pR T r n p S).1 = true → ∃ m, SOk m (pR T r n p S).2.1 (pR T r n p S).2.2
  | 0, n, p, S, _, _, _, h => by cases h
  | r + 1, n, p, S, hn, hp, hO, h => by
    have hK := pK_ok hp hO
    rw [pR] at h ⊢
    cases hb : (pK T p S).1
    · rw [hb, if_neg (by decide)] at h
      cases h
    · rw [hb, if_pos rfl] at h
      rw [if_pos rfl]
      obtain ⟨m1, m2⟩ := hK.2 hb
      rw [show n - 1 + 1 = n from by omega] at m2
      by_cases hlt : T.2 ≤ (pK T p S).2.1
      · rw [if_pos hlt]
        exact ⟨n, m2⟩
      · rw [if_neg hlt] at h ⊢
        by_cases hc : n = 10 ∨ ¬ sg T (pK T p S).2.1 = 59
        · rw [if_pos hc] at h
          cases h
        · rw [if_neg hc] at h ⊢
          exact pR_ok r (n + 1) _ _ (by omega) (by omega) (m2.mono (by omega) (by omega)) h
def tRow (A : Nat) (v v' : MM) : Prop := (∀ a, a ≠ 0 → a ≠ 1 → v' a = v a) ∧ (∀ j, (j < 5 ∨ 9 < j) → v' 0 j = v 0 j) ∧ ∀ j, j ≠ 19 → j ≠ 22 → j ≠ 23 → j ≠ 229 + A → j ≠ 234 + A → j ≠ 239 + A → (j < 244 + 140 * A ∨ 384 + 140 * A ≤ j) → v' 1 j = v 1 j
theorem town_m {N A : Nat} {T : Tp} {v : MM} {K : Int32 → MM → Prop} (hN : 200 ≤ N) (hA : A < 5) (hT : TpOk T) (h19 : v 1 19 = nI A) (h22 : v 1 22 = nI T.2) (ht : ∀ i, i < T.2 → v 1 (129 + i) = nI (T.1 i)) (kf : (pR T 10 1 0 (1, 0, [])).1 = false → ∀ v' : MM, tRow A v v' → v' 1 22 = 0 → v' 1 19 = nI A → v' 1 23 = v 1 23 → K ((-10) - nI (pR T 10 1 0 (1, 0, [])).2.1) v') (kt : (pR T 10 1 0 (1, 0, [])).1 = true → ∀ v' : MM, tRow A v v' → v' 1 22 = 0 → v' 1 19 = nI (A + 1) → v' 1 23 = nI A → RSt A v' (pR T 10 1 0 (1, 0, [])).2.2 → K (nI A) v') : wX11_town N v K := by
  have htl := hT.1
  have e5 : nI A = nI 5 ↔ A = 5 := nI_eq (by omega) (by omega)
  refine n_t (by rw [h19]; exact fun y => by have := e5.mp y; omega) (fun u2 e2 u3 e3 u4 e4 => ?_)
  rw [h19] at e2
  rw [upu e2 (by omega), h22] at e3
  have q5 : u4 0 5 = nI A := by rw [upu e4 (by omega), e3, up_j (by omega)]; exact upx e2
  rw [q5, i229, nI_clamp (by omega)]
  refine ⟨vp_in_nI (by omega) (by omega), fun u5 e5' => ?_⟩
  have q5b : u5 0 5 = nI A := by rw [upu e5' (by omega)]; exact q5
  rw [q5b, i234, nI_clamp (by omega)]
  refine ⟨vp_in_nI (by omega) (by omega), fun u6 e6 => ?_⟩
  have q5c : u6 0 5 = nI A := by rw [upu e6 (by omega)]; exact q5b
  rw [q5c, i239, nI_clamp (by omega)]
  refine ⟨vp_in_nI (by omega) (by omega), fun u7 e7 u8 e8 u9 e9 u10 e10 => ?_⟩
  have r1 : u10 1 = u7 1 := by rw [upu e10 (by omega), upu e9 (by omega), upu e8 (by omega)]
  have b1 : u3 1 = v 1 := by rw [upu e3 (by omega), upu e2 (by omega)]
  have s1 : ∀ j, j ≠ 22 → j ≠ 229 + A → j ≠ 234 + A → j ≠ 239 + A → u10 1 j = v 1 j := fun j a b c d => by rw [r1, upv e7 d, upv e6 c, upv e5' b, upv e4 a, b1]
  have s22 : u10 1 22 = 0 := by rw [r1, upv e7 (by omega), upv e6 (by omega), upv e5' (by omega)]; exact upx e4
  have s229 : u10 1 (229 + A) = nI 1 := by rw [r1, upv e7 (by omega), upv e6 (by omega)]; exact upx e5'
  have s234 : u10 1 (234 + A) = nI 0 := by rw [r1, upv e7 (by omega)]; exact upx e6
  have s239 : u10 1 (239 + A) = nI 0 := by rw [r1]; exact upx e7
  have o8 : u10 0 8 = 0 := by rw [e10, up_j (by omega)]; exact upx e9
  have o6 : u10 0 6 = nI 0 := by rw [e10, up_j (by omega), e9, up_j (by omega)]; exact upx e8
  have o9 : u10 0 9 = 0 := upx e10
  have o7 : u10 0 7 = nI T.2 := by rw [e10, up_j (by omega), e9, up_j (by omega), e8, up_j (by omega), upu e7 (by omega), upu e6 (by omega), upu e5' (by omega), upu e4 (by omega)]; exact upx e3
  have o5 : u10 0 5 = nI A := by rw [e10, up_j (by omega), e9, up_j (by omega), e8, up_j (by omega), upu e7 (by omega)]; exact q5c
  have o0 : ∀ j, (j < 5 ∨ 9 < j) → u10 0 j = v 0 j := fun j hj => by rw [e10, up_j (by omega), e9, up_j (by omega), e8, up_j (by omega), upu e7 (by omega), upu e6 (by omega), upu e5' (by omega), upu e4 (by omega), e3, up_j (by omega), e2, up_j (by omega)]
  have oa : ∀ a, a ≠ 0 → a ≠ 1 → u10 a = v a := fun a h0 h1 => by rw [upu e10 h0, upu e9 h0, upu e8 h0, upu e7 h1, upu e6 h1, upu e5' h1, upu e4 h1, upu e3 h0, upu e2 h0]
  have row : ∀ v' : MM, fG A u10 v' → tRow A v v' := fun v' g => ⟨fun a h0 h1 => by rw [g.1 a h0 h1]; exact oa a h0 h1, fun j hj => by rw [g.2.1 j (by omega) (by omega)]; exact o0 j hj, fun j y1 y2 y3 y4 y5 y6 y7 => by rw [g.2.2 j y4 y5 y6 y7]; exact s1 j y2 y4 y5 y6⟩
  refine rt_lp N A T u10 K hN hA hT _ (fun v' g a6 kt' kf' => ?_) 10 1 0 N (1, 0, []) u10 (by omega) (by omega) (by omega) ⟨fun _ _ _ => rfl, fun _ _ _ => rfl, fun _ _ _ _ _ => rfl⟩ ⟨o7, fun i hi => by rw [s1 _ (by omega) (by omega) (by omega) (by omega)]; exact ht i hi⟩ o5 o6 o8 o9 ⟨s229, s234, s239, by show 0 ≤ 140; omega, fun i x hx => by simp [flat] at hx⟩ ⟨by show 1 < 100; omega, by show 0 < 100; omega, fun c hc => absurd hc List.not_mem_nil, by show 0 ≤ 1 - 1; omega, by show 0 ≤ 0; omega⟩ (by omega) rfl (by omega)
  have w7 : v' 0 7 = nI T.2 := by rw [g.2.1 7 (by omega) (by omega)]; exact o7
  have w22 : v' 1 22 = 0 := by rw [g.2.2 22 (by omega) (by omega) (by omega) (by omega)]; exact s22
  have w19 : v' 1 19 = nI A := by rw [g.2.2 19 (by omega) (by omega) (by omega) (by omega), s1 19 (by omega) (by omega) (by omega) (by omega)]; exact h19
  have w23 : v' 1 23 = v 1 23 := by rw [g.2.2 23 (by omega) (by omega) (by omega) (by omega), s1 23 (by omega) (by omega) (by omega) (by omega)]
  have w5 : v' 0 5 = nI A := by rw [g.2.1 5 (by omega) (by omega)]; exact o5
  unfold wX11_town_b149
  rw [a6, w7]
  cases hb : (pR T 10 1 0 (1, 0, [])).1
  · have fin := kf hb v' (row v' g) w22 w19 w23
    rcases kf' hb with z | ⟨z, z2⟩
    · exact n_t (by rw [z]; decide) fin
    · have e6 : nI (pR T 10 1 0 (1, 0, [])).2.1 = nI T.2 ↔ (pR T 10 1 0 (1, 0, [])).2.1 = T.2 := nI_eq (by omega) (by omega)
      exact n_f z (b_f (fun y => by have := e6.mp y; omega) fin)
  · obtain ⟨z8, zp, zR⟩ := kt' hb
    refine n_f z8 (b_t (by rw [zp]) (fun u24 e24 u25 e25 => ?_))
    rw [w19, i_one] at e24
    rw [upu e24 (by omega), w5] at e25
    rw [show u25 0 5 = nI A from by rw [upu e25 (by omega), upu e24 (by omega)]; exact w5]
    have g2 := row v' g
    have k1 : ∀ j, j ≠ 19 → j ≠ 23 → u25 1 j = v' 1 j := fun j a b => by rw [upv e25 b, upv e24 a]
    refine kt hb u25 ⟨fun a h0 h1 => by rw [upu e25 h1, upu e24 h1]; exact g2.1 a h0 h1, fun j hj => by rw [upu e25 (by omega), upu e24 (by omega)]; exact g2.2.1 j hj, fun j y1 y2 y3 y4 y5 y6 y7 => by rw [k1 j y1 y3]; exact g2.2.2 j y1 y2 y3 y4 y5 y6 y7⟩ (by rw [k1 22 (by omega) (by omega)]; exact w22) (by rw [upv e25 (by omega)]; exact upx e24) (upx e25) ⟨by rw [k1 _ (by omega) (by omega)]; exact zR.1, by rw [k1 _ (by omega) (by omega)]; exact zR.2.1, ?_⟩
    obtain ⟨m1, m2, m3⟩ := zR.2.2
    exact ⟨by rw [k1 _ (by omega) (by omega)]; exact m1, m2, fun i x hx => by rw [k1 _ (by omega) (by omega)]; exact m3 i x hx⟩
theorem RS.town {u u' : MM} {s s' : Nat → Int32} {n hd td : Nat} (h : RS u 10 s n hd td) (hu : ∀ k, 12 ≤ k → k < 36 → (k < 13 ∨ 20 < k) → u' k = u k) (h10 : u' 10 2 = s' 19) (h11 : u' 11 1 = 0) (h22 : s' 22 = 0) (h19 : lt_ (s' 19) 6) (hs : ∀ j, j < 229 → j ≠ 19 → j ≠ 22 → j ≠ 23 → s' j = s j) (hR : RT u' 10 s') : RS u' 10 s' n hd td := by
  obtain ⟨h1, h2, h3, h4, h5, h6, h7, h8⟩ := h
  refine ⟨h1.kp (hs 18 (by omega) (by omega) (by omega) (by omega)) (hs 2 (by omega) (by omega) (by omega) (by omega)) (hs 3 (by omega) (by omega) (by omega) (by omega)), fun i a b hm => ?_, ⟨by rw [hs 0 (by omega) (by omega) (by omega) (by omega)]; exact h3.1, h19, by rw [h22]; exact ⟨0, by omega, rfl⟩⟩, h4.kp (fun k hk => hs k (by omega) (by omega) (by omega) (by omega)), h5.kp ⟨hu _ (by omega) (by omega) (by omega), hu _ (by omega) (by omega) (by omega)⟩ (fun k a b => hs k (by omega) (by omega) (by omega) (by omega)), h6.kp ⟨hu _ (by omega) (by omega) (by omega), hu _ (by omega) (by omega) (by omega)⟩ (fun k hk => hs k (by omega) (by omega) (by omega) (by omega)), h7.kp ⟨hu _ (by omega) (by omega) (by omega), hu _ (by omega) (by omega) (by omega)⟩ (fun k hk => hs k (by omega) (by omega) (by omega) (by omega)), hR⟩
  by_cases i19 : i = 19
  · have : a = 0 ∧ b = 2 := by unfold mir at hm; omega
    rw [i19, this.1, this.2]
    exact h10
  by_cases i22 : i = 22
  · have : a = 1 ∧ b = 1 := by unfold mir at hm; omega
    rw [i22, this.1, this.2, h22]
    exact h11
  have z : i < 229 ∧ i ≠ 23 ∧ 12 ≤ 10 + a ∧ 10 + a < 36 ∧ (10 + a < 13 ∨ 20 < 10 + a) := by unfold mir at hm; omega
  rw [hu _ z.2.2.1 z.2.2.2.1 z.2.2.2.2, hs i z.1 i19 i22 z.2.1]
  exact h2 i a b hm
theorem CQ.cp {u : MM} {P : List Cl} (h : CQ u P) : CP u 61 P := by
  obtain ⟨a, b, c, d, e⟩ := h
  refine ⟨a, b, fun j => tot (P.take j), fun j x hj => ?_⟩
  obtain ⟨p, q, r, s, t⟩ := e j x hj
  have := tot_take P j x hj
  exact ⟨p, q, r, s, by show tot (P.take j) + x.2.2.length ≤ 100; omega, t⟩
theorem RT.old {u u' : MM} {s s' : Nat → Int32} {A : Nat} (h : RT u 10 s) (hA : A < 5) (h19 : s 19 = nI A) (hu : ∀ k, 13 ≤ k → k < 21 → u' k = u k) (h19' : s' 19 = nI A) (h23 : s' 23 = s 23) (hs : ∀ j, 229 ≤ j → j ≠ 229 + A → j ≠ 234 + A → j ≠ 239 + A → (j < 244 + 140 * A ∨ 384 + 140 * A ≤ j) → s' j = s j) : RT u' 10 s' := by
  obtain ⟨fw, lw, P, a, b, c, d, e, f, g⟩ := h.rows (u' := u') (fun k a b => hu k (by omega) (by omega))
  refine ⟨fw, lw, P, a, b, c, d, e, f, ?_⟩
  rcases g with ⟨g1, g2⟩ | ⟨hh, tw, g1, g2, g3, g4, g5, g6, g7, g8, g9⟩
  · exact Or.inl ⟨by rw [h23]; exact g1, g2⟩
  · have et : tw = A := (nI_eq (by omega) (by omega)).mp (g3.symm.trans h19)
    subst et
    exact Or.inr ⟨hh, tw, g1, g2, h19', by rw [h23]; exact g4, by rw [hs _ (by omega) (by omega) (by omega) (by omega) (by omega)]; exact g5, by rw [hs _ (by omega) (by omega) (by omega) (by omega) (by omega)]; exact g6, by rw [hs _ (by omega) (by omega) (by omega) (by omega) (by omega)]; exact g7, g8, fun i x hx => by
      have := (List.getElem?_eq_some_iff.mp hx).1
      rw [hs _ (by omega) (by omega) (by omega) (by omega) (by omega)]
      exact g9 i x hx⟩
theorem rel_town (N : Nat) (hN : 200 ≤ N) : ∀ (u v : MM), relT u v → wX10_town N u (fun r u2 => wX11_town N v (fun r2 v2 => r = r2 ∧ relT u2 v2)) := by
  intro u v h
  obtain ⟨⟨n, hd, td, hRS⟩, -⟩ := id h
  obtain ⟨h1, h2, h3, h4, h5, h6, h7, h8⟩ := id hRS
  obtain ⟨A, hA6, eA⟩ := h3.2.1
  obtain ⟨t, ht, et⟩ := h3.2.2
  have u10 : u 10 2 = nI A := (h2 19 0 2 m19).trans eA
  have u11 : u 11 1 = nI t := (h2 22 1 1 m22).trans et
  unfold wX10_town
  rw [u10]
  by_cases h5A : A = 5
  · refine b_f (show ¬ nI A < nI 5 from nI_nlt (by omega) (by omega)) (n_f ?_ ⟨rfl, h⟩)
    rw [eA, h5A]
    rfl
  have hA : A < 5 := by omega
  have hT : TpOk ((fun i => (v 1 (129 + i)).toNatClampNeg), t) := ⟨by show t ≤ 100; omega, fun i hi => (lt_w (h4.2.2 i hi) (by omega)).2⟩
  have hv : ∀ i, i < t → v 1 (129 + i) = nI (v 1 (129 + i)).toNatClampNeg := fun i hi => (lt_w (h4.2.2 i (by omega)) (by omega)).1
  have hu : ∀ i, i < t → u 12 i = nI (v 1 (129 + i)).toNatClampNeg := fun i hi => (h2 (129 + i) 2 i (m129 (by omega))).trans (hv i hi)
  refine b_t (show nI A < nI 5 from nl_lt (by omega) (by omega)) (read_c (T := ((fun i => (v 1 (129 + i)).toNatClampNeg), t)) hN hT u11 hu (fun u3 g3 y6 cs u4 e4 => ?_))
  have g4 : ∀ a, a ≠ 6 → a ≠ 11 → (a < 62 ∨ 72 ≤ a) → u4 a = u a := fun a h6' h11 hh => by rw [upu e4 h11]; exact g3 a h6' hh
  have kpu4 : kp u u4 := ⟨fun k a b => g4 k (by omega) (by omega) (by omega), g4 0 (by omega) (by omega) (by omega), g4 4 (by omega) (by omega) (by omega), g4 5 (by omega) (by omega) (by omega)⟩
  have kqv : ∀ v' : MM, tRow A v v' → kq v v' := fun v' g => ⟨g.1 2 (by omega) (by omega), g.1 8 (by omega) (by omega), g.2.1 4 (by omega), g.2.1 16 (by omega), g.2.1 17 (by omega), g.2.1 23 (by omega)⟩
  have sv : ∀ v' : MM, tRow A v v' → ∀ j, j < 229 → j ≠ 19 → j ≠ 22 → j ≠ 23 → v' 1 j = v 1 j := fun v' g j a b c d => g.2.2 j b c d (by omega) (by omega) (by omega) (by omega)
  cases hb : (pR ((fun i => (v 1 (129 + i)).toNatClampNeg), t) 10 1 0 (1, 0, [])).1
  · refine n_f rfl (town_m (T := ((fun i => (v 1 (129 + i)).toNatClampNeg), t)) hN hA hT eA et hv (fun _ v' g w22 w19 w23 => ?_) (fun z => by rw [hb] at z; cases z))
    refine ⟨by rw [upu e4 (by omega), y6], rel_now h kpu4 (kqv v' g) ⟨n, hd, td, ?_⟩⟩
    refine hRS.town (fun k a b _ => g4 k (by omega) (by omega) (by omega)) (by rw [g4 10 (by omega) (by omega) (by omega), w19]; exact u10) (upx e4) w22 (by rw [w19]; exact ⟨A, by omega, rfl⟩) (sv v' g) (h8.old hA eA (fun k a b => g4 k (by omega) (by omega) (by omega)) w19 w23 (fun j a b c d e => g.2.2 j (by omega) (by omega) (by omega) b c d e))
  · refine n_t (by decide) ?_
    obtain ⟨c1, c2, c3⟩ := cs hb
    refine wX8_copyFrom_ok N 13 64 u4 _ (by omega) (fun u7 a0 a1 a2 a3 a4 a5 a6 a7 a8 a9 a10 g7 u8 e8 => ?_)
    have q64 : ∀ a, 64 ≤ a → a < 72 → u4 a = u3 a := fun a x y => upu e4 (by omega)
    have p10 : u7 10 2 = nI A := by rw [g7 10 (by omega), g4 10 (by omega) (by omega) (by omega)]; exact u10
    rw [p10, i_one] at e8
    have p10b : u8 10 2 = nI (A + 1) := upx e8
    rw [p10b, i_sub1]
    have k8 : ∀ a, a ≠ 10 → u8 a = u7 a := fun a ha => upu e8 ha
    have k4 : ∀ a, a ≠ 10 → a ≠ 6 → a ≠ 11 → (a < 13 ∨ 20 < a) → (a < 62 ∨ 72 ≤ a) → u8 a = u a := fun a y1 y2 y3 y4 y5 => by rw [k8 a y1, g7 a (by omega)]; exact g4 a y2 y3 y5
    obtain ⟨m, hm⟩ := pR_ok (T := ((fun i => (v 1 (129 + i)).toNatClampNeg), t)) 10 1 0 (1, 0, []) (by omega) (by omega) ⟨by show 1 < 100; omega, by show 0 < 100; omega, fun c hc => absurd hc List.not_mem_nil, by show 0 ≤ 1 - 1; omega, by show 0 ≤ 0; omega⟩ hb
    refine town_m (T := ((fun i => (v 1 (129 + i)).toNatClampNeg), t)) hN hA hT eA et hv (fun z => by rw [hb] at z; cases z) (fun _ v' g w22 w19 w23 wR => ⟨rfl, ?_⟩)
    refine rel_now h ⟨fun k a b => k4 k (by omega) (by omega) (by omega) (by omega) (by omega), k4 0 (by omega) (by omega) (by omega) (by omega) (by omega), k4 4 (by omega) (by omega) (by omega) (by omega) (by omega), k4 5 (by omega) (by omega) (by omega) (by omega) (by omega)⟩ (kqv v' g) ⟨n, hd, td, ?_⟩
    refine hRS.town (fun k a b c => k4 k (by omega) (by omega) (by omega) c (by omega)) (p10b.trans w19.symm) (by rw [k8 11 (by omega), g7 11 (by omega)]; exact upx e4) w22 (by rw [w19]; exact ⟨A + 1, by omega, rfl⟩) (sv v' g) ⟨_, _, _, hm.1, hm.2.1, hm.2.2.1, ?_, ?_, ?_, Or.inr ⟨A, A + 1, by omega, by omega, w19, w23, wR.1, wR.2.1, wR.2.2⟩⟩
    · rw [k8 13 (by omega)]
      exact a0.trans (by rw [q64 64 (by omega) (by omega)]; exact c1)
    · rw [k8 13 (by omega)]
      exact a1.trans (by rw [q64 64 (by omega) (by omega)]; exact c2)
    · refine (c3.cp).copy (t := 10) ?_ (fun a b y1 y2 y3 => ?_) (fun a b y1 y2 y3 => ?_)
      · rw [k8 (10 + 3) (by omega)]
        exact a2.trans (by rw [q64 64 (by omega) (by omega)])
      · rw [k8 (10 + a) (by omega)]
        obtain rfl | rfl | rfl | rfl : a = 4 ∨ a = 5 ∨ a = 6 ∨ a = 7 := by omega
        · exact (a4 b y3).trans (by rw [q64 (64 + 1) (by omega) (by omega)])
        · exact (a5 b y3).trans (by rw [q64 (64 + 2) (by omega) (by omega)])
        · exact (a6 b y3).trans (by rw [q64 (64 + 3) (by omega) (by omega)])
        · exact (a7 b y3).trans (by rw [q64 (64 + 4) (by omega) (by omega)])
      · rw [k8 (10 + a) (by omega)]
        obtain rfl | rfl | rfl : a = 8 ∨ a = 9 ∨ a = 10 := by omega
        · exact (a8 b y3).trans (by rw [q64 (64 + 5) (by omega) (by omega)])
        · exact (a9 b y3).trans (by rw [q64 (64 + 6) (by omega) (by omega)])
        · exact (a10 b y3).trans (by rw [q64 (64 + 7) (by omega) (by omega)])
