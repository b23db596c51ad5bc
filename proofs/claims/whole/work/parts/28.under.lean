/-! one taken for a kind -/
def und (k c : Nat) : Prop := c = k ∨ c = 0 ∨ (4 ≤ k ∧ c + 3 = k)
theorem u_step {N n p c s : Nat} {K : Int32 → Prop} (hp : p < 7) (hc : c < 7) (hs : s < 7) (h1 : p = c → K 1) (h2 : p ≠ c → wX10_isUnder_b4 N K n (nI c) (kab p) (nI (s + 1))) : wX10_isUnder_b4 N K (n + 1) (nI c) (nI p) (nI s) := by
  refine b_f (show ¬ nI 7 ≤ nI s from nI_ge hs (by omega)) (in_yes (n := 7) hp (by omega) (b_f (by decide) ?_))
  by_cases e : p = c
  · exact n_f (by rw [e]) (h1 e)
  · refine n_t (by rw [nI_eq (by omega) (by omega)]; exact e) ⟨vp7 hp, ?_⟩
    rw [nI_clamp (by omega)]
    intro y5 e5 y6 e6
    subst e5
    rw [i_one] at e6
    subst e6
    exact h2 e
theorem u_end {N n s : Nat} {K : Int32 → Prop} {x : Int32} (hs : s < 7) (h : K 0) : wX10_isUnder_b4 N K (n + 1) x (-1) (nI s) :=
  b_f (show ¬ nI 7 ≤ nI s from nI_ge hs (by omega)) (in_no (n := 7) (Or.inl (by decide)) (b_t rfl h))
theorem und_c {N k c : Nat} {K : Int32 → Prop} (hN : 8 ≤ N) (hk : k < 7) (hc : c < 7) (h1 : und k c → K 1) (h0 : ¬ und k c → K 0) : wX10_isUnder N (nI k) (nI c) K := by
  obtain ⟨M, rfl⟩ : ∃ M, N = M + 4 := ⟨N - 4, by omega⟩
  show wX10_isUnder_b4 (M + 4) K (M + 3 + 1) (nI c) (nI k) (nI 0)
  unfold und at h1 h0
  have hk2 : k = 0 ∨ k = 1 ∨ k = 2 ∨ k = 3 ∨ k = 4 ∨ k = 5 ∨ k = 6 := by omega
  rcases hk2 with rfl | rfl | rfl | rfl | rfl | rfl | rfl
  · exact u_step (by omega) hc (by omega) (fun e => h1 (by omega)) (fun e => u_end (by omega) (h0 (by omega)))
  · exact u_step (by omega) hc (by omega) (fun e => h1 (by omega)) (fun e => u_step (p := 0) (by omega) hc (by omega) (fun e => h1 (by omega)) (fun e => u_end (by omega) (h0 (by omega))))
  · exact u_step (by omega) hc (by omega) (fun e => h1 (by omega)) (fun e => u_step (p := 0) (by omega) hc (by omega) (fun e => h1 (by omega)) (fun e => u_end (by omega) (h0 (by omega))))
  · exact u_step (by omega) hc (by omega) (fun e => h1 (by omega)) (fun e => u_step (p := 0) (by omega) hc (by omega) (fun e => h1 (by omega)) (fun e => u_end (by omega) (h0 (by omega))))
  · exact u_step (by omega) hc (by omega) (fun e => h1 (by omega)) (fun e => u_step (p := 1) (by omega) hc (by omega) (fun e => h1 (by omega)) (fun e => u_step (p := 0) (by omega) hc (by omega) (fun e => h1 (by omega)) (fun e => u_end (by omega) (h0 (by omega)))))
  · exact u_step (by omega) hc (by omega) (fun e => h1 (by omega)) (fun e => u_step (p := 2) (by omega) hc (by omega) (fun e => h1 (by omega)) (fun e => u_step (p := 0) (by omega) hc (by omega) (fun e => h1 (by omega)) (fun e => u_end (by omega) (h0 (by omega)))))
  · exact u_step (by omega) hc (by omega) (fun e => h1 (by omega)) (fun e => u_step (p := 3) (by omega) hc (by omega) (fun e => h1 (by omega)) (fun e => u_step (p := 0) (by omega) hc (by omega) (fun e => h1 (by omega)) (fun e => u_end (by omega) (h0 (by omega)))))
theorem und_m {N k c : Nat} {K : Int32 → Prop} (hk : k < 7) (hc : c < 7) (h1 : und k c → K 1) (h0 : ¬ und k c → K 0) : wX11_isUnder N (nI k) (nI c) K := by
  unfold und at h1 h0
  have ez : nI c = 0 ↔ c = 0 := nI_eq (a := c) (b := 0) (by omega) (by omega)
  have ek : nI c = nI k ↔ c = k := nI_eq (by omega) (by omega)
  have el : nI c ≤ 0 ↔ c ≤ 0 := nI_leI (a := c) (b := 0) (by omega) (by omega)
  have e4 : 4 ≤ nI c ↔ 4 ≤ c := nI_leI (a := 4) (b := c) (by omega) (by omega)
  have e3 : nI k = nI c + 3 ↔ k = c + 3 := by rw [show (3 : Int32) = nI 3 from rfl, nI_add]; exact nI_eq (by omega) (by omega)
  refine ⟨fun h => h1 (by rw [ez] at h; omega), fun h => ⟨fun h2 => h1 (by rw [ek] at h2; omega), fun h2 => ⟨fun h3 => ?_, fun h3 => ⟨fun h4 => h0 ?_, fun h4 => ⟨fun h5 => h0 ?_, fun h5 => h1 ?_⟩⟩⟩⟩⟩
  · rw [ez] at h; rw [el] at h3; omega
  · rw [ez] at h; rw [ek] at h2; rw [e4] at h4; omega
  · rw [ez] at h; rw [ek] at h2; rw [e3] at h5; omega
  · rw [ez] at h; rw [e3] at h5; omega
theorem rel_as (N : Nat) (hN : 8 ≤ N) : ∀ (u v : MM) (x1 x2 : Int32), relT u v → wX10_as N x1 x2 u (fun r u2 => wX11_as N x1 x2 v (fun r2 v2 => r = r2 ∧ relT u2 v2)) := by
  intro u v x1 x2 h
  obtain ⟨⟨n, hd, td, h1, h2, h3, h4, h5, h6, h7, h8⟩, hr⟩ := id h
  obtain ⟨p1, p2, p3, p4, p5, p6⟩ := id h1
  have hu : u 21 0 = nI n := (h2 18 11 0 m18).trans p2
  rcases arg3 x1 (n := n) (by omega) with hx | ⟨a, ha, rfl⟩
  · exact has_no hu hx (b_t rfl (per_no p2 p1 hx (b_t rfl ⟨rfl, h⟩)))
  refine has_yes hu p1 ha (b_f (by decide) ?_)
  have ha7 : a < 7 := by omega
  rcases arg3 x2 (n := 7) (by omega) with hx | ⟨b, hb, rfl⟩
  · exact in_no (n := 7) hx (n_f rfl (per_yes p2 p1 ha (b_f (by decide) (min_no (n := 6) (by omega) hx (n_f rfl ⟨rfl, h⟩)))))
  refine in_yes (n := 7) hb (by omega) (n_t (by decide) ⟨vp7 ha7, ?_⟩)
  obtain ⟨⟨k, hk, ek⟩, ⟨w, hw, ew⟩, -⟩ := h4.1 a ha7
  have uk : u 22 a = nI k := (h2 (24 + a) 12 a (m24 ha7)).trans ek
  have uw : u 23 a = v 1 (31 + a) := h2 (31 + a) 13 a (m31 ha7)
  rw [nI_clamp (by omega), uk]
  have hm : ∀ K : Int32 → MM → Prop, wX11_isUnder N (nI k) (nI b) (fun r6 => ((r6 = 0 → (K (-6) v)) ∧ (¬ r6 = 0 → (vp_in ((31 + nI a)) 944 ∧ (K (v 1 (31 + nI a).toNatClampNeg) v))))) → wX11_as N (nI a) (nI b) v K := fun K q => by
    refine per_yes p2 p1 ha (b_f (by decide) (min_yes (n := 6) (by omega) (by omega) (n_t (by decide) ⟨by rw [i24]; exact vp_in_nI (by omega) (by omega), ?_⟩)))
    rw [i24, nI_clamp (by omega), ek]
    exact q
  refine und_c hN hk hb (fun z => b_f (by decide) ⟨vp7 ha7, hm _ (und_m hk hb (fun _ => b_f (by decide) ?_) (fun y => absurd z y))⟩) (fun z => b_t rfl (hm _ (und_m hk hb (fun y => absurd y z) (fun _ => b_t rfl ⟨rfl, h⟩))))
  rw [i31, nI_clamp (by omega)]
  exact ⟨vp_in_nI (by omega) (by omega), uw, h⟩
theorem rel_trace (N : Nat) : ∀ (u v : MM) (x1 : Int32), relT u v → wX10_trace N x1 u (fun r u2 => wX11_trace N x1 v (fun r2 v2 => r = r2 ∧ relT u2 v2)) := by
  intro u v x1 h
  obtain ⟨-, -, -, -, r, r1, r2, r3, r4⟩ := id h
  have c1 : ¬ (20 : Int32) < u 4 3 := by rw [r2]; exact nI_nlt (a := 20) (b := r) (by omega) (by omega)
  show wX10_isIn N x1 (if (20 : Int32) < (u 4 3) then 20 else (u 4 3)) _
  rw [if_neg c1, r2]
  have hm : ∀ K : Int32 → MM → Prop, wX11_in N x1 0 (nI r - 1) (fun r2 => ((r2 = 0 → (K (-1) v)) ∧ (¬ r2 = 0 → (vp_in x1 20 ∧ (K (v 8 x1.toNatClampNeg) v))))) → wX11_trace N x1 v K := fun K q => by
    refine b_f (by rw [r3]; exact nI_ge (a := r) (b := 20) r1 (by omega)) ?_
    show wX11_in N x1 0 (v 0 23 - 1) _
    rw [r3]
    exact q
  rcases arg3 x1 (n := r) (by omega) with hx | ⟨a, ha, rfl⟩
  · refine in_no hx (b_t rfl (hm _ ?_))
    rcases Nat.eq_zero_or_pos r with e | e
    · subst e
      by_cases h0 : x1 < 0
      · exact b_t h0 (b_t rfl ⟨rfl, h⟩)
      · refine b_f h0 (b_t ?_ (b_t rfl ⟨rfl, h⟩))
        rw [Int32.lt_iff_toInt_lt] at h0 ⊢
        have e1 : (nI 0 - 1).toInt = -1 := by decide
        have e2 : (0 : Int32).toInt = 0 := by decide
        omega
    · obtain ⟨m, rfl⟩ : ∃ m, r = m + 1 := ⟨r - 1, by omega⟩
      rw [i_sub1]
      exact min_no (by omega) hx (b_t rfl ⟨rfl, h⟩)
  · obtain ⟨m, rfl⟩ : ∃ m, r = m + 1 := ⟨r - 1, by omega⟩
    refine in_yes ha (by omega) (b_f (by decide) ⟨vp_in_nI (by omega) (by omega), hm _ ?_⟩)
    rw [i_sub1]
    refine min_yes ha (by omega) (b_f (by decide) ⟨vp_in_nI (by omega) (by omega), ?_, h⟩)
    rw [nI_clamp (by omega)]
    exact r4 a ha
