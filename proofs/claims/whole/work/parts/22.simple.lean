theorem i2 (p : Nat) : (2 : Int32) + nI p = nI (2 + p) := by rw [show (2 : Int32) = nI 2 from rfl, nI_add]
theorem i3 (p : Nat) : (3 : Int32) + nI p = nI (3 + p) := by rw [show (3 : Int32) = nI 3 from rfl, nI_add]
theorem i4 (p : Nat) : (4 : Int32) + nI p = nI (4 + p) := by rw [show (4 : Int32) = nI 4 from rfl, nI_add]
theorem i7 (p : Nat) : (7 : Int32) + nI p = nI (7 + p) := by rw [show (7 : Int32) = nI 7 from rfl, nI_add]
theorem i11 (p : Nat) : (11 : Int32) + nI p = nI (11 + p) := by rw [show (11 : Int32) = nI 11 from rfl, nI_add]
theorem i24 (p : Nat) : (24 : Int32) + nI p = nI (24 + p) := by rw [show (24 : Int32) = nI 24 from rfl, nI_add]
theorem i31 (p : Nat) : (31 : Int32) + nI p = nI (31 + p) := by rw [show (31 : Int32) = nI 31 from rfl, nI_add]
theorem i38 (p : Nat) : (38 : Int32) + nI p = nI (38 + p) := by rw [show (38 : Int32) = nI 38 from rfl, nI_add]
theorem i45 (p : Nat) : (45 : Int32) + nI p = nI (45 + p) := by rw [show (45 : Int32) = nI 45 from rfl, nI_add]
theorem i52 (p : Nat) : (52 : Int32) + nI p = nI (52 + p) := by rw [show (52 : Int32) = nI 52 from rfl, nI_add]
theorem i101 (p : Nat) : (101 : Int32) + nI p = nI (101 + p) := by rw [show (101 : Int32) = nI 101 from rfl, nI_add]
theorem i107 (p : Nat) : (107 : Int32) + nI p = nI (107 + p) := by rw [show (107 : Int32) = nI 107 from rfl, nI_add]
theorem i113 (p : Nat) : (113 : Int32) + nI p = nI (113 + p) := by rw [show (113 : Int32) = nI 113 from rfl, nI_add]
theorem i121 (p : Nat) : (121 : Int32) + nI p = nI (121 + p) := by rw [show (121 : Int32) = nI 121 from rfl, nI_add]
theorem i129 (p : Nat) : (129 : Int32) + nI p = nI (129 + p) := by rw [show (129 : Int32) = nI 129 from rfl, nI_add]
theorem i229 (p : Nat) : (229 : Int32) + nI p = nI (229 + p) := by rw [show (229 : Int32) = nI 229 from rfl, nI_add]
theorem i234 (p : Nat) : (234 : Int32) + nI p = nI (234 + p) := by rw [show (234 : Int32) = nI 234 from rfl, nI_add]
theorem i239 (p : Nat) : (239 : Int32) + nI p = nI (239 + p) := by rw [show (239 : Int32) = nI 239 from rfl, nI_add]
theorem i244 (p : Nat) : (244 : Int32) + nI p = nI (244 + p) := by rw [show (244 : Int32) = nI 244 from rfl, nI_add]
theorem nl_lt {a b : Nat} (h : a < b) (hb : b < 2 ^ 31) : nI a < nI b := nI_lt h hb
theorem mi {i a b : Nat} (h : mir i a b) : mir i a b := h
theorem out_nle {x : Int32} {n : Nat} (hn : n + 1 < 2 ^ 31) (h : nI (n + 1) ≤ x) : ¬ x ≤ nI n := Int32.not_le.mpr ((i_le_of_lt hn).mpr h)
set_option maxRecDepth 20000 in
theorem rel_feed (N : Nat) : ∀ (u v : MM) (x1 : Int32), relT u v → wX10_feed N x1 u (fun r u2 => wX11_feed N x1 v (fun r2 v2 => r = r2 ∧ relT u2 v2)) := by
  intro u v x1 h
  obtain ⟨⟨n, hd, td, h1, h2, h3, h4, h5, h6, h7, h8⟩, hr⟩ := id h
  rcases arg3 x1 (n := 128) (by omega) with hx | ⟨j, hj, rfl⟩
  · have hm : wX11_feed N x1 v (fun r2 v2 => -2 = r2 ∧ relT u v2) := min_no (n := 127) (by omega) hx (n_f rfl ⟨rfl, h⟩)
    by_cases h0 : x1 < 0
    · exact b_t h0 hm
    · exact b_f h0 (b_f (out_nle (n := 127) (by omega) (hx.resolve_left h0)) hm)
  · obtain ⟨t, ht, et⟩ := h3.2.2
    have hu : u 11 1 = nI t := (h2 22 1 1 m22).trans et
    refine b_f (nI_pos (by omega)) (b_t (show nI j ≤ nI 127 from nI_le (by omega) (by omega)) ?_)
    by_cases hf : t = 100
    · subst hf
      refine b_f (by rw [hu]; exact nI_nlt (a := 100) (b := 100) (by omega) (by omega)) (b_t rfl ?_)
      refine min_yes (n := 127) (by omega) (by omega) (n_t (by decide) (n_f (by rw [et]; rfl) ⟨rfl, h⟩))
    · have ht2 : t < 100 := by omega
      refine b_t (by rw [hu]; exact nl_lt (a := t) (b := 100) ht2 (by omega)) ⟨by rw [hu]; exact vp_in_nI ht2 (by omega), ?_⟩
      intro u2 e2 u3 e3
      refine b_f (by decide) ?_
      refine min_yes (n := 127) (by omega) (by omega) (n_t (by decide) (n_t (by rw [et, show (100 : Int32) = nI 100 from rfl, nI_eq (by omega) (by omega)]; omega) ⟨by rw [et, i129]; exact vp_in_nI (by omega) (by omega), ?_⟩))
      intro v2 f2 v3 f3
      rw [hu, nI_clamp (by omega)] at e2
      rw [et, i129, nI_clamp (by omega)] at f2
      have a1 : u2 11 1 = nI t := by rw [e2, up_k (by decide)]; exact hu
      have b1 : v2 1 22 = nI t := by rw [f2, up_j (by omega)]; exact et
      rw [a1, i_one] at e3
      rw [b1, i_one] at f3
      refine ⟨by rw [e3, f3, up_at, up_at], ?_⟩
      subst e2 e3 f2 f3
      refine rel_now h ((kp.up (by omega)).tr (kp.up (by omega))) ((kq.up (by omega)).tr (kq.up (by omega))) ⟨n, hd, td, ?_⟩
      have g2 : EqS (up (up u 12 t (nI j)) 11 1 (nI (t + 1))) 10 (up (up v 1 (129 + t) (nI j)) 1 22 (nI (t + 1)) 1) := by
        refine EqS.put (i := 22) (a := 1) (s := up v 1 (129 + t) (nI j) 1) (EqS.put (i := 129 + t) (a := 2) h2 (m129 ht2) rfl (fun k => ?_)) m22 rfl (fun k => ?_)
        · simp [up]
        · simp [up]
      have hs : ∀ k, k ≠ 22 → k ≠ 129 + t → up (up v 1 (129 + t) (nI j)) 1 22 (nI (t + 1)) 1 k = v 1 k := fun k a b => by rw [up_j a, up_j b]
      obtain ⟨p1, p2, p3, p4, p5, p6⟩ := h1
      refine ⟨⟨p1, by rw [hs 18 (by omega) (by omega)]; exact p2, p3, by rw [hs 2 (by omega) (by omega)]; exact p4, p5, by rw [hs 3 (by omega) (by omega)]; exact p6⟩, g2, ⟨by rw [hs 0 (by omega) (by omega)]; exact h3.1, by rw [hs 19 (by omega) (by omega)]; exact h3.2.1, by rw [up_at]; exact ⟨t + 1, by omega, rfl⟩⟩, ⟨fun p hp => ?_, fun k hk => ?_, fun k hk => ?_⟩, fun p hp hb => ?_, ?_, ?_, ?_⟩
      · rw [hs _ (by omega) (by omega), hs _ (by omega) (by omega), hs _ (by omega) (by omega), hs _ (by omega) (by omega)]; exact h4.1 p hp
      · rw [hs _ (by omega) (by omega)]; exact h4.2.1 k hk
      · by_cases hkt : k = t
        · subst hkt; rw [up_j (by omega), up_at]; exact ⟨j, hj, rfl⟩
        · rw [hs _ (by omega) (by omega)]; exact h4.2.2 k hk
      · rw [hs _ (by omega) (by omega), hs _ (by omega) (by omega), up_k (by omega), up_k (by omega), up_k (by omega), up_k (by omega)]; exact h5 p hp hb
      · obtain ⟨m, a, b, c⟩ := h6
        exact ⟨m, a, by rw [hs _ (by omega) (by omega)]; exact b, fun k hk => by rw [hs _ (by omega) (by omega), hs _ (by omega) (by omega), up_k (by omega), up_k (by omega), up_k (by omega), up_k (by omega)]; exact c k hk⟩
      · obtain ⟨m, a, b, c⟩ := h7
        exact ⟨m, a, by rw [hs _ (by omega) (by omega)]; exact b, fun k hk => by rw [hs _ (by omega) (by omega), hs _ (by omega) (by omega), up_k (by omega), up_k (by omega), up_k (by omega), up_k (by omega)]; exact c k hk⟩
      · refine RT.same (s := v 1) ?_ (fun k hk => hs k (by omega) (by omega))
        exact h8.rows (fun k a b => by rw [up_k (by omega), up_k (by omega)])
