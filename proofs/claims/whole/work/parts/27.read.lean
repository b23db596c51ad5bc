/-! what only reads: told, count, as, trace -/
theorem RS.eqs {u v : MM} {n hd td : Nat} (h : RS u 10 (v 1) n hd td) : EqS u 10 (v 1) := h.2.1
theorem rel_told (N : Nat) : ∀ (u v : MM) (x1 : Int32), relT u v → wX10_told N x1 u (fun r u2 => wX11_told N x1 v (fun r2 v2 => r = r2 ∧ relT u2 v2)) := by
  intro u v x1 h
  obtain ⟨⟨n, hd, td, h1, h2, h3, h4, h5, h6, h7, h8⟩, hr⟩ := id h
  obtain ⟨fw, lw, P, t1, t2, t3, t4, t5, t6, t7⟩ := h8
  have e0 : u 27 0 = v 1 0 := h2 0 17 0 (m17 (by decide))
  have e1 : u 27 1 = v 1 1 := h2 1 17 1 (m17 (by decide))
  have e2 : u 27 2 = v 1 2 := h2 2 17 2 (m17 (by decide))
  by_cases c0 : x1 = 0
  · exact b_t c0 (b_t c0 ⟨e0, h⟩)
  by_cases c1 : x1 = 1
  · exact b_f c0 (b_t c1 (b_f c0 (b_t c1 ⟨e1, h⟩)))
  by_cases c2 : x1 = 2
  · refine b_f c0 (b_f c1 (b_t c2 (b_f c0 (b_f c1 (b_t c2 ?_)))))
    rcases t7 with ⟨a, b, c, d⟩ | ⟨hh, tw, a, b, c, d, e, f, g⟩
    · exact n_f a ⟨by rw [show u 13 0 = nI fw from t4, b]; rfl, h⟩
    · refine n_t (by rw [d]; exact nI_m1 (by omega)) ?_
      rw [d, i229, nI_clamp (by omega)]
      exact ⟨vp_in_nI (by omega) (by omega), by rw [show u 13 0 = nI fw from t4, e], h⟩
  by_cases c3 : x1 = 3
  · refine b_f c0 (b_f c1 (b_f c2 (b_t c3 (b_f c0 (b_f c1 (b_f c2 (b_t c3 ?_)))))))
    rcases t7 with ⟨a, b, c, d⟩ | ⟨hh, tw, a, b, c, d, e, f, g⟩
    · exact n_f a ⟨by rw [show u 13 1 = nI (lw % 2) from t5, c]; rfl, h⟩
    · refine n_t (by rw [d]; exact nI_m1 (by omega)) ?_
      rw [d, i234, nI_clamp (by omega)]
      refine ⟨vp_in_nI (by omega) (by omega), ?_, h⟩
      rw [show u 13 1 = nI (lw % 2) from t5, f]
      exact (pk_rem (a := lw) (d := 2) (by omega) (by omega) (by omega)).symm
  by_cases c4 : x1 = 4
  · exact b_f c0 (b_f c1 (b_f c2 (b_f c3 (b_t c4 (b_f c0 (b_f c1 (b_f c2 (b_f c3 (b_t c4 ⟨e2, h⟩)))))))))
  exact b_f c0 (b_f c1 (b_f c2 (b_f c3 (b_f c4 (b_f c0 (b_f c1 (b_f c2 (b_f c3 (b_f c4 ⟨rfl, h⟩)))))))))
theorem rel_count (N : Nat) : ∀ (u v : MM) (x1 : Int32), relT u v → wX10_count N x1 u (fun r u2 => wX11_count N x1 v (fun r2 v2 => r = r2 ∧ relT u2 v2)) := by
  intro u v x1 h
  obtain ⟨⟨n, hd, td, h1, h2, h3, h4, h5, h6, h7, h8⟩, hr⟩ := id h
  obtain ⟨-, -, -, r, -, r1, r2, -⟩ := hr
  have cs : ∀ (k : Nat) (K : Int32 → MM → Prop), k < 5 → x1 = nI k → K (v 1 (18 + k)) v → wX11_count N x1 v K := by
    intro k K hk e hK
    subst e
    refine n_t (by rw [show (5 : Int32) = nI 5 from rfl, nI_eq (by omega) (by omega)]; omega) (min_yes (n := 4) (by omega) (by omega) (b_f (by decide) ?_))
    rw [show (18 : Int32) = nI 18 from rfl, nI_add, nI_clamp (by omega)]
    exact ⟨vp_in_nI (by omega) (by omega), hK⟩
  by_cases c0 : x1 = 0
  · exact b_t c0 (cs 0 _ (by omega) c0 ⟨h2 18 11 0 m18, h⟩)
  by_cases c1 : x1 = 1
  · exact b_f c0 (b_t c1 (cs 1 _ (by omega) c1 ⟨h2 19 0 2 m19, h⟩))
  by_cases c2 : x1 = 2
  · exact b_f c0 (b_f c1 (b_t c2 (cs 2 _ (by omega) c2 ⟨h2 20 20 0 m20, h⟩)))
  by_cases c3 : x1 = 3
  · exact b_f c0 (b_f c1 (b_f c2 (b_t c3 (cs 3 _ (by omega) c3 ⟨h2 21 23 0 m21, h⟩))))
  by_cases c4 : x1 = 4
  · exact b_f c0 (b_f c1 (b_f c2 (b_f c3 (b_t c4 (cs 4 _ (by omega) c4 ⟨h2 22 1 1 m22, h⟩)))))
  by_cases c5 : x1 = 5
  · exact b_f c0 (b_f c1 (b_f c2 (b_f c3 (b_f c4 (b_t c5 (n_f c5 ⟨r1.trans r2.symm, h⟩))))))
  refine b_f c0 (b_f c1 (b_f c2 (b_f c3 (b_f c4 (b_f c5 (n_t c5 (min_no (n := 4) (by omega) ?_ (b_t rfl ⟨rfl, h⟩))))))))
  rcases arg3 x1 (n := 5) (by omega) with hx | ⟨j, hj, rfl⟩
  · exact hx
  · exfalso
    have : j = 0 ∨ j = 1 ∨ j = 2 ∨ j = 3 ∨ j = 4 := by omega
    rcases this with rfl | rfl | rfl | rfl | rfl
    · exact c0 rfl
    · exact c1 rfl
    · exact c2 rfl
    · exact c3 rfl
    · exact c4 rfl
