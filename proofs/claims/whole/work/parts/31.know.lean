theorem kn_val {k b : Nat} (hk : k < 128) (hb : b < 7) (x3 : Int32) : (x3 = 0 → nI k &&& (((1 : Int32) <<< (nI b &&& 31)) ^^^ ((-1) : Int32)) = nI (wo k (2 ^ b))) ∧ (nI k ||| ((1 : Int32) <<< (nI b &&& 31)) = nI (k ||| 2 ^ b)) := by
  rw [shl_val b hb]
  exact ⟨fun _ => wo_val k hk _ (pow_lt hb), or_val k hk _ (pow_lt hb)⟩
theorem acq (N : Nat) (K : MM → Prop) (u : MM) {a b ka kb : Nat} (ha : a < 7) (hb : b < 7) (hab : a ≠ b) (hka : ka < 128) (hkb : kb < 128) (ea : u 24 a = nI ka) (eb : u 24 b = nI kb) (x3 : Int32) (h : ∀ u2 u3 : MM, u2 = up u 24 a (nI (if x3 = 0 then wo ka (2 ^ b) else ka ||| 2 ^ b)) → u3 = up u2 24 b (nI (if x3 = 0 then wo kb (2 ^ a) else kb ||| 2 ^ a)) → K u3) : wX2_acquaint N (nI a) (nI b) x3 u K := by
  have ca : (nI a).toNatClampNeg = a := nI_clamp (by omega)
  have cb : (nI b).toNatClampNeg = b := nI_clamp (by omega)
  unfold wX2_acquaint wX2_acquaint_b34 wX2_acquaint_b69
  rw [ca, cb, ea]
  by_cases hx : x3 = 0
  · refine b_t hx ⟨vp7 ha, vp7 ha, fun u2 e2 => b_t hx ⟨vp7 hb, vp7 hb, fun u3 e3 => ?_⟩⟩
    rw [(kn_val hka hb x3).1 hx] at e2
    rw [show u2 24 b = nI kb by rw [e2, up_j (Ne.symm hab)]; exact eb, (kn_val hkb ha x3).1 hx] at e3
    exact h u2 u3 (by rw [if_pos hx]; exact e2) (by rw [if_pos hx]; exact e3)
  · refine b_f hx ⟨vp7 ha, vp7 ha, fun u2 e2 => b_f hx ⟨vp7 hb, vp7 hb, fun u3 e3 => ?_⟩⟩
    rw [(kn_val hka hb x3).2] at e2
    rw [show u2 24 b = nI kb by rw [e2, up_j (Ne.symm hab)]; exact eb, (kn_val hkb ha x3).2] at e3
    exact h u2 u3 (by rw [if_neg hx]; exact e2) (by rw [if_neg hx]; exact e3)
theorem rel_know (N : Nat) : ∀ (u v : MM) (x1 x2 x3 : Int32), (x3 = 0 ∨ x3 = 1) → relT u v → wX10_know N x1 x2 x3 u (fun r u2 => wX11_know N x1 x2 x3 v (fun r2 v2 => r = r2 ∧ relT u2 v2)) := by
  intro u v x1 x2 x3 _ h
  obtain ⟨⟨n, hd, td, hRS⟩, hr⟩ := id h
  obtain ⟨h1, h2, h3, h4, h5, h6, h7, h8⟩ := id hRS
  obtain ⟨p1, p2, p3, p4, p5, p6⟩ := id h1
  have hu : u 21 0 = nI n := (h2 18 11 0 m18).trans p2
  rcases arg3 x1 (n := n) (by omega) with hx | ⟨a, ha, rfl⟩
  · exact has_no hu hx (b_t rfl (per_no p2 p1 hx (b_t rfl ⟨rfl, h⟩)))
  refine has_yes hu p1 ha (b_f (by decide) ?_)
  rcases arg3 x2 (n := n) (by omega) with hx | ⟨b, hb, rfl⟩
  · exact has_no hu hx (n_f rfl (per_yes p2 p1 ha (b_f (by decide) (per_no p2 p1 hx (n_f rfl ⟨rfl, h⟩)))))
  refine has_yes hu p1 hb (n_t (by decide) ?_)
  have ha7 : a < 7 := by omega
  have hb7 : b < 7 := by omega
  by_cases hab : a = b
  · subst hab
    exact n_f rfl (per_yes p2 p1 ha (b_f (by decide) (per_yes p2 p1 ha (n_t (by decide) (n_f rfl ⟨rfl, h⟩)))))
  have nab : ¬ nI a = nI b := fun e => hab ((nI_eq (by omega) (by omega)).mp e)
  obtain ⟨-, -, ⟨ka, hka, eka⟩, -⟩ := h4.1 a ha7
  obtain ⟨-, -, ⟨kb, hkb, ekb⟩, -⟩ := h4.1 b hb7
  have ua : u 24 a = nI ka := (h2 (38 + a) 14 a (m38 ha7)).trans eka
  have ub : u 24 b = nI kb := (h2 (38 + b) 14 b (m38 hb7)).trans ekb
  have ca : (nI a).toNatClampNeg = a := nI_clamp (by omega)
  have c38a : ((38 : Int32) + nI a).toNatClampNeg = 38 + a := by rw [i38]; exact nI_clamp (by omega)
  have c38b : ((38 : Int32) + nI b).toNatClampNeg = 38 + b := by rw [i38]; exact nI_clamp (by omega)
  have w38a : vp_in ((38 : Int32) + nI a) 944 := by rw [i38]; exact vp_in_nI (by omega) (by omega)
  have w38b : vp_in ((38 : Int32) + nI b) 944 := by rw [i38]; exact vp_in_nI (by omega) (by omega)
  refine n_t nab ⟨vp7 ha7, ?_⟩
  rw [ca, ua]
  have hwo : ∀ k j, k < 128 → j < 7 → (if x3 = 0 then wo k (2 ^ j) else k ||| 2 ^ j) < 128 := fun k j hk hj => by
    by_cases z : x3 = 0
    · rw [if_pos z]; exact wo_lt hk
    · rw [if_neg z]; exact or_lt (k := 7) hk (pow_lt hj)
  have hm : ∀ (r : Int32) (u3 : MM), (∀ v2 v3 : MM, v2 = up v 1 (38 + a) (nI (if x3 = 0 then wo ka (2 ^ b) else ka ||| 2 ^ b)) → v3 = up v2 1 (38 + b) (nI (if x3 = 0 then wo kb (2 ^ a) else kb ||| 2 ^ a)) → relT u3 v3) → (r = if ka.testBit b then 1 else 0) → wX11_know N (nI a) (nI b) x3 v (fun r2 v2 => r = r2 ∧ relT u3 v2) := by
    intro r u3 q er
    refine per_yes p2 p1 ha (b_f (by decide) (per_yes p2 p1 hb (n_t (by decide) (n_t nab ⟨w38a, fun y8 e8 => ?_⟩))))
    rw [c38a, eka, bit_val ka hka b hb7] at e8
    unfold wX11_know_b84 wX11_know_b128
    rw [c38a, c38b, eka]
    by_cases hx : x3 = 0
    · refine b_t hx ⟨w38a, w38a, fun v2 f2 => b_t hx ⟨w38b, w38b, fun v3 f3 => ⟨by rw [er, e8], ?_⟩⟩⟩
      rw [(kn_val hka hb7 x3).1 hx] at f2
      rw [show v2 1 (38 + b) = nI kb by rw [f2, up_j (by omega)]; exact ekb, (kn_val hkb ha7 x3).1 hx] at f3
      exact q v2 v3 (by rw [if_pos hx]; exact f2) (by rw [if_pos hx]; exact f3)
    · refine b_f hx ⟨w38a, w38a, fun v2 f2 => b_f hx ⟨w38b, w38b, fun v3 f3 => ⟨by rw [er, e8], ?_⟩⟩⟩
      rw [(kn_val hka hb7 x3).2] at f2
      rw [show v2 1 (38 + b) = nI kb by rw [f2, up_j (by omega)]; exact ekb, (kn_val hkb ha7 x3).2] at f3
      exact q v2 v3 (by rw [if_neg hx]; exact f2) (by rw [if_neg hx]; exact f3)
  have fin : ∀ u2 u3 : MM, u2 = up u 24 a (nI (if x3 = 0 then wo ka (2 ^ b) else ka ||| 2 ^ b)) → u3 = up u2 24 b (nI (if x3 = 0 then wo kb (2 ^ a) else kb ||| 2 ^ a)) → ∀ v2 v3 : MM, v2 = up v 1 (38 + a) (nI (if x3 = 0 then wo ka (2 ^ b) else ka ||| 2 ^ b)) → v3 = up v2 1 (38 + b) (nI (if x3 = 0 then wo kb (2 ^ a) else kb ||| 2 ^ a)) → relT u3 v3 := by
    intro u2 u3 e2 e3 v2 v3 f2 f3
    refine rel_now h ((kpu e2 (by decide)).tr (kpu e3 (by decide))) ((kq1 f2).tr (kq1 f3)) ⟨n, hd, td, RS.mid hRS ((h2.put2 (a := 14) e2 f2 (m38 ha7) rfl).put2 (a := 14) e3 f3 (m38 hb7) rfl) ⟨fun p hp => ?_, fun j hj => ?_, fun j hj => ?_⟩ (fun j hj => (upv f3 (by omega)).trans (upv f2 (by omega))) (fun j hj => (upu e3 (by omega)).trans (upu e2 (by omega)))⟩
    · rw [upv f3 (k := 24 + p) (by omega), upv f3 (k := 31 + p) (by omega), upv f3 (k := 45 + p) (by omega), upv f2 (k := 24 + p) (by omega), upv f2 (k := 31 + p) (by omega), upv f2 (k := 45 + p) (by omega)]
      have q := h4.1 p hp
      refine ⟨q.1, q.2.1, ?_, q.2.2.2.1, q.2.2.2.2⟩
      by_cases hpb : p = b
      · subst hpb; rw [upx f3]; exact ⟨_, hwo _ _ hkb ha7, rfl⟩
      · rw [upv f3 (by omega)]
        by_cases hpa : p = a
        · subst hpa; rw [upx f2]; exact ⟨_, hwo _ _ hka hb7, rfl⟩
        · rw [upv f2 (by omega)]; exact q.2.2.1
    · rw [upv f3 (by omega), upv f2 (by omega)]; exact h4.2.1 j hj
    · rw [upv f3 (by omega), upv f2 (by omega)]; exact h4.2.2 j hj
  by_cases hbit : ka.testBit b = true
  · refine hb_yes hka hb7 hbit (acq N _ u ha7 hb7 hab hka hkb ua ub x3 (fun u2 u3 e2 e3 => b_f (by decide) (hm 1 u3 (fun v2 v3 f2 f3 => fin u2 u3 e2 e3 v2 v3 f2 f3) (by rw [if_pos hbit]))))
  · refine hb_no hka hb7 (by simpa using hbit) (acq N _ u ha7 hb7 hab hka hkb ua ub x3 (fun u2 u3 e2 e3 => b_t rfl (hm 0 u3 (fun v2 v3 f2 f3 => fin u2 u3 e2 e3 v2 v3 f2 f3) (by rw [if_neg hbit]))))
