theorem RS.mid {u u' v v' : MM} {n hd td : Nat} (h : RS u 10 (v 1) n hd td) (g : EqS u' 10 (v' 1)) (b : BA (v' 1)) (hv : ∀ k, k < 24 ∨ 101 ≤ k → v' 1 k = v 1 k) (hu : ∀ k, k < 22 ∨ 26 < k → u' k = u k) : RS u' 10 (v' 1) n hd td := by
  obtain ⟨h1, h2, h3, h4, h5, h6, h7, h8⟩ := h
  exact ⟨h1.kp (hv _ (by omega)) (hv _ (by omega)) (hv _ (by omega)), g, h3.kp (hv _ (by omega)) (hv _ (by omega)) (hv _ (by omega)), b, h5.kp ⟨hu _ (by omega), hu _ (by omega)⟩ (fun k _ _ => hv k (by omega)), h6.kp ⟨hu _ (by omega), hu _ (by omega)⟩ (fun k hk => hv k (by omega)), h7.kp ⟨hu _ (by omega), hu _ (by omega)⟩ (fun k hk => hv k (by omega)), h8.kp (fun k a b => hu k (by omega)) (fun k hk => hv k (by omega))⟩
theorem row_core (N : Nat) (u v : MM) (h : relT u v) (n : Nat) (p2 : v 1 18 = nI n) (hn : n ≤ 7) (a : Nat) (ha : a < 7) (x2 : Int32) (hx : x2 = -1 ∨ ∃ c, c < n ∧ x2 = nI c) : wX10_row_b31 N (fun r u2 => wX11_row_b23 N (fun r2 v2 => r = r2 ∧ relT u2 v2) (nI a) x2 v) (nI a) x2 u := by
  obtain ⟨⟨n', hd, td, hRS⟩, hr⟩ := id h
  obtain ⟨h1, h2, h3, h4, h5, h6, h7, h8⟩ := id hRS
  obtain ⟨⟨k, hk, ek⟩, -, -, ⟨z, hz, ez⟩, hkz⟩ := h4.1 a ha
  have uk : u 22 a = nI k := (h2 (24 + a) 12 a (m24 ha)).trans ek
  have uz : u 25 a = nI z := (h2 (45 + a) 15 a (m45 ha)).trans ez
  have ca : (nI a).toNatClampNeg = a := nI_clamp (by omega)
  have k6 : nI k = 6 ↔ k = 6 := nI_eq (a := k) (b := 6) (by omega) (by omega)
  have c24 : ((24 : Int32) + nI a).toNatClampNeg = 24 + a := by rw [i24]; exact nI_clamp (by omega)
  have c45 : ((45 : Int32) + nI a).toNatClampNeg = 45 + a := by rw [i45]; exact nI_clamp (by omega)
  have w24 : vp_in ((24 : Int32) + nI a) 944 := by rw [i24]; exact vp_in_nI (by omega) (by omega)
  have w45 : vp_in ((45 : Int32) + nI a) 944 := by rw [i45]; exact vp_in_nI (by omega) (by omega)
  refine ⟨vp7 ha, ?_⟩
  unfold wX11_row_b23
  rw [ca, c24, c45, uk, ek]
  by_cases hk6 : k = 6
  · refine b_t (k6.mpr hk6) ?_
    rcases hx with rfl | ⟨c, hc, rfl⟩
    · refine n_f rfl ⟨vp7 ha, fun u2 e2 => ⟨w24, b_t (k6.mpr hk6) (n_f rfl ⟨w45, fun v2 f2 => ⟨rfl, ?_⟩⟩)⟩⟩
      refine rel_now h (kpu e2 (by decide)) (kq1 f2) ⟨n', hd, td, RS.mid hRS (h2.put2 (a := 15) e2 f2 (m45 ha) rfl) ⟨fun p hp => ?_, fun j hj => ?_, fun j hj => ?_⟩ (fun j hj => upv f2 (by omega)) (fun j hj => upu e2 (by omega))⟩
      · rw [upv f2 (k := 24 + p) (by omega), upv f2 (k := 31 + p) (by omega), upv f2 (k := 38 + p) (by omega)]
        by_cases hpa : p = a
        · subst hpa
          rw [upx f2]
          have := h4.1 p hp
          exact ⟨this.1, this.2.1, this.2.2.1, ⟨0, by omega, rfl⟩, fun _ => rfl⟩
        · rw [upv f2 (k := 45 + p) (by omega)]; exact h4.1 p hp
      · rw [upv f2 (by omega)]; exact h4.2.1 j hj
      · rw [upv f2 (by omega)]; exact h4.2.2 j hj
    · have cm1 : ¬ nI c = -1 := nI_m1 (by omega)
      refine n_t cm1 ?_
      show wX2_addToRow N (nI a) (nI c) u _
      refine ⟨vp7 ha, ?_⟩
      rw [ca, uz]
      have z7 : nI z = 7 ↔ z = 7 := nI_eq (a := z) (b := 7) (by omega) (by omega)
      by_cases hz7 : z = 7
      · refine b_f (by rw [hz7]; exact nI_nlt (a := 7) (b := 7) (by omega) (by omega)) (b_t rfl ⟨w24, b_t (k6.mpr hk6) (n_t cm1 ⟨w45, n_f (by rw [ez]; exact z7.mpr hz7) ⟨rfl, h⟩⟩)⟩)
      · have e1 : nI a * 7 + nI z = nI (a * 7 + z) := by rw [show (7 : Int32) = nI 7 from rfl, pk_mul, nI_add]
        have e3 : (52 : Int32) + 7 * nI a + nI z = nI (52 + (a * 7 + z)) := by rw [show (7 : Int32) = nI 7 from rfl, pk_mul, i52, nI_add, Nat.mul_comm 7 a, Nat.add_assoc]
        have h49 : a * 7 + z < 49 := by omega
        refine b_t (show nI z < nI 7 from nl_lt (by omega) (by omega)) ⟨vp7 ha, by rw [e1]; exact vp_in_nI h49 (by omega), fun u2 e2 => ⟨vp7 ha, vp7 ha, fun u3 e3' => ?_⟩⟩
        rw [e1, nI_clamp (by omega)] at e2
        rw [upu e2 (by decide), uz, i_one] at e3'
        refine b_f (by decide) ⟨vp7 ha, ⟨w24, b_t (k6.mpr hk6) (n_t cm1 ⟨w45, ?_⟩)⟩⟩
        rw [ez]
        refine n_t (fun q => hz7 (z7.mp q)) ⟨w45, ?_⟩
        rw [e3, nI_clamp (by omega)]
        refine ⟨vp_in_nI (by omega) (by omega), fun v2 f2 => ⟨w45, w45, fun v3 f3 => ⟨w45, ?_⟩⟩⟩
        rw [upv f2 (by omega), ez, i_one] at f3
        refine ⟨by rw [upx e3', upx f3], ?_⟩
        refine rel_now h ((kpu e2 (by decide)).tr (kpu e3' (by decide))) ((kq1 f2).tr (kq1 f3)) ⟨n', hd, td, RS.mid hRS ((h2.put2 (a := 16) e2 f2 (m52 h49) rfl).put2 (a := 15) e3' f3 (m45 ha) rfl) ⟨fun p hp => ?_, fun j hj => ?_, fun j hj => ?_⟩ (fun j hj => (upv f3 (by omega)).trans (upv f2 (by omega))) (fun j hj => (upu e3' (by omega)).trans (upu e2 (by omega)))⟩
        · rw [upv f3 (k := 24 + p) (by omega), upv f3 (k := 31 + p) (by omega), upv f3 (k := 38 + p) (by omega), upv f2 (k := 24 + p) (by omega), upv f2 (k := 31 + p) (by omega), upv f2 (k := 38 + p) (by omega)]
          by_cases hpa : p = a
          · subst hpa
            rw [upx f3]
            have := h4.1 p hp
            exact ⟨this.1, this.2.1, this.2.2.1, ⟨z + 1, by omega, rfl⟩, fun q => absurd (ek.trans (k6.mpr hk6)) q⟩
          · rw [upv f3 (k := 45 + p) (by omega), upv f2 (k := 45 + p) (by omega)]; exact h4.1 p hp
        · rw [upv f3 (by omega)]
          by_cases hj2 : j = a * 7 + z
          · subst hj2; rw [upx f2]; exact ⟨c, by omega, rfl⟩
          · rw [upv f2 (by omega)]; exact h4.2.1 j hj
        · rw [upv f3 (by omega), upv f2 (by omega)]; exact h4.2.2 j hj
  · exact b_f (fun q => hk6 (k6.mp q)) ⟨w24, b_f (fun q => hk6 (k6.mp q)) ⟨rfl, h⟩⟩
theorem rel_row (N : Nat) : ∀ (u v : MM) (x1 x2 : Int32), relT u v → wX10_row N x1 x2 u (fun r u2 => wX11_row N x1 x2 v (fun r2 v2 => r = r2 ∧ relT u2 v2)) := by
  intro u v x1 x2 h
  obtain ⟨⟨n, hd, td, h1, h2, h3, h4, h5, h6, h7, h8⟩, hr⟩ := id h
  obtain ⟨p1, p2, p3, p4, p5, p6⟩ := id h1
  have hu : u 21 0 = nI n := (h2 18 11 0 m18).trans p2
  have wk : ∀ (K K2 : Int32 → MM → Prop) (y : Int32), (∀ r w, K r w → K2 r w) → wX10_row_b31 N K x1 y u → wX10_row_b31 N K2 x1 y u := by
    intro K K2 y hK q
    refine ⟨q.1, fun c => ⟨fun d => ?_, fun d => ⟨((q.2.1 c).2 d).1, fun w e => hK _ _ (((q.2.1 c).2 d).2 w e)⟩⟩, fun c => hK _ _ (q.2.2 c)⟩
    have q2 : wX2_addToRow N x1 y u _ := (q.2.1 c).1 d
    exact ⟨q2.1, fun c1 => ⟨((q2.2.1 c1)).1, ((q2.2.1 c1)).2.1, fun w e => ⟨((q2.2.1 c1).2.2 w e).1, ((q2.2.1 c1).2.2 w e).2.1, fun w2 e2 => ⟨fun z => hK _ _ ((((q2.2.1 c1).2.2 w e).2.2 w2 e2).1 z), fun z => ⟨((((q2.2.1 c1).2.2 w e).2.2 w2 e2).2 z).1, hK _ _ ((((q2.2.1 c1).2.2 w e).2.2 w2 e2).2 z).2⟩⟩⟩⟩, fun c1 => ⟨fun z => hK _ _ ((q2.2.2 c1).1 z), fun z => ⟨((q2.2.2 c1).2 z).1, hK _ _ ((q2.2.2 c1).2 z).2⟩⟩⟩
  rcases arg3 x1 (n := n) (by omega) with hx | ⟨a, ha, rfl⟩
  · exact has_no hu hx (b_t rfl (per_no p2 p1 hx (b_t rfl ⟨rfl, h⟩)))
  refine has_yes hu p1 ha (b_f (by decide) ?_)
  by_cases hm : x2 = -1
  · exact b_t hm (wk _ _ _ (fun r w q => per_yes p2 p1 ha (b_f (by decide) (b_t hm q))) (row_core N u v h n p2 p1 a (by omega) x2 (Or.inl hm)))
  refine b_f hm ?_
  rcases arg3 x2 (n := n) (by omega) with hx | ⟨c, hc, rfl⟩
  · exact has_no hu hx (n_f rfl (per_yes p2 p1 ha (b_f (by decide) (b_f hm (per_no p2 p1 hx (n_f rfl ⟨rfl, h⟩))))))
  exact has_yes hu p1 hc (n_t (by decide) (wk _ _ _ (fun r w q => per_yes p2 p1 ha (b_f (by decide) (b_f hm (per_yes p2 p1 hc (n_t (by decide) q))))) (row_core N u v h n p2 p1 a (by omega) _ (Or.inr ⟨c, hc, rfl⟩))))
