/-! what a state is, as numbers -/
theorem lt_w {x : Int32} {k : Nat} (h : lt_ x k) (hk : k < 2 ^ 31) : x = nI x.toNatClampNeg ∧ x.toNatClampNeg < k := by
  obtain ⟨j, h1, rfl⟩ := h
  rw [nI_clamp (by omega)]
  exact ⟨rfl, h1⟩
def cxS (s : Nat → Int32) (n fw lw : Nat) (P : List Cl) : Cx := ((n, fw, lw, P), (fun p => (s (24 + p)).toNatClampNeg), (fun p => (s (31 + p)).toNatClampNeg), (fun p => (s (38 + p)).toNatClampNeg), (fun p => (s (45 + p)).toNatClampNeg), fun k => (s (52 + k)).toNatClampNeg)
def wdS (s : Nat → Int32) (hd td : Nat) : Wd := (((s 0).toNatClampNeg, s 1, hd, td), (fun p => (s (4 + p)).toNatClampNeg), fun p => s (11 + p))
theorem RS.nums {u : MM} {s : Nat → Int32} {n hd td : Nat} (h : RS u 10 s n hd td) : ∃ (c : Cx) (w : Wd), CxOk c ∧ CxU u c ∧ CxV s c ∧ WdOk c w ∧ WdU u 27 w ∧ WdV s w ∧ cN c = n ∧ wH w = hd ∧ wT w = td ∧ wD w < 1000 := by
  obtain ⟨h1, h2, h3, h4, h5, h6, h7, fw, lw, P, t1, t2, t3, t4, t5, t6, t7⟩ := h
  obtain ⟨p1, p2, p3, p4, p5, p6⟩ := h1
  have hu : u 21 0 = nI n := (h2 18 11 0 m18).trans p2
  obtain ⟨d1, d2⟩ := lt_w h3.1 (by omega)
  refine ⟨cxS s n fw lw P, wdS s hd td, ⟨p1, fun p hp => ?_, fun k hk => ?_, t1, t2, t3, t6.2.1⟩, ⟨hu, fun p hp => ?_, fun k hk => ?_, t4, t5, t6⟩, ⟨p2, fun p hp => ?_, fun k hk => ?_, t7⟩, ⟨Nat.lt_of_lt_of_le d2 (by omega), p3, p5, fun p hp hb => ?_⟩, ⟨?_, ?_, ?_, ?_, fun p hp hb => ?_⟩, ⟨?_, rfl, p4, p6, fun p hp hb => ?_⟩, rfl, rfl, rfl, d2⟩
  · obtain ⟨a, b, c, d, e⟩ := h4.1 p hp
    have a1 := lt_w a (by omega)
    have b1 := lt_w b (by omega)
    have c1 := lt_w c (by omega)
    have d1 := lt_w d (by omega)
    refine ⟨a1.2, b1.2, c1.2, by have := d1.2; show (s (45 + p)).toNatClampNeg ≤ 7; omega, fun z => ?_⟩
    have : s (24 + p) ≠ 6 := fun y => z (by show (s (24 + p)).toNatClampNeg = 6; rw [y]; rfl)
    show (s (45 + p)).toNatClampNeg = 0
    rw [e this]; rfl
  · exact (lt_w (h4.2.1 k hk) (by omega)).2
  · obtain ⟨a, b, c, d, e⟩ := h4.1 p hp
    have a1 := lt_w a (by omega)
    have b1 := lt_w b (by omega)
    have c1 := lt_w c (by omega)
    have d1 := lt_w d (by omega)
    exact ⟨(h2 _ 12 p (m24 hp)).trans a1.1, (h2 _ 13 p (m31 hp)).trans b1.1, (h2 _ 14 p (m38 hp)).trans c1.1, (h2 _ 15 p (m45 hp)).trans d1.1⟩
  · exact (h2 _ 16 k (m52 hk)).trans (lt_w (h4.2.1 k hk) (by omega)).1
  · obtain ⟨a, b, c, d, e⟩ := h4.1 p hp
    exact ⟨(lt_w a (by omega)).1, (lt_w b (by omega)).1, (lt_w c (by omega)).1, (lt_w d (by omega)).1⟩
  · exact (lt_w (h4.2.1 k hk) (by omega)).1
  · exact (lt_w (h5 p hp hb).2.1 (by omega)).2
  · exact (h2 0 17 0 (m17 (by omega))).trans d1
  · exact h2 1 17 1 (m17 (by omega))
  · exact (h2 2 17 2 (m17 (by omega))).trans p4
  · exact (h2 3 17 3 (m17 (by omega))).trans p6
  · obtain ⟨a, b, c⟩ := h5 p hp hb
    exact ⟨a.trans (lt_w b (by omega)).1, c⟩
  · exact d1
  · exact ⟨(lt_w (h5 p hp hb).2.1 (by omega)).1, rfl⟩
theorem rel_read {u v u' v' : MM} (h : relT u v) (hu : ∀ a, a ≠ 3 → u' a = u a) (hv : mR v v') : relT u' v' := by
  obtain ⟨⟨n, hd, td, hRS⟩, -⟩ := id h
  refine rel_now h ⟨fun k a b => hu k (by omega), hu 0 (by omega), hu 4 (by omega), hu 5 (by omega)⟩ ⟨hv.1 2 (by omega) (by omega) (by omega), hv.1 8 (by omega) (by omega) (by omega), hv.2 4 (by omega) (by omega), hv.2 16 (by omega) (by omega), hv.2 17 (by omega) (by omega), hv.2 23 (by omega) (by omega)⟩ ⟨n, hd, td, ?_⟩
  rw [hv.1 1 (by omega) (by omega) (by omega)]
  exact hRS.rows (fun k a b => hu k (by omega))
theorem rel_of (N : Nat) (hN : 200 ≤ N) : ∀ (u v : MM) (x1 x2 : Int32), relT u v → wX10_of N x1 x2 u (fun r u2 => wX11_of N x1 x2 v (fun r2 v2 => r = r2 ∧ relT u2 v2)) := by
  intro u v x1 x2 h
  obtain ⟨⟨n, hd, td, hRS⟩, hr⟩ := id h
  obtain ⟨c, w, hc, hu, hv, hw, wu, wv, en, eh, et, -⟩ := hRS.nums
  have p1 := hc.1
  have uN := hu.1
  have vN := hv.1
  rcases arg3 x1 (n := cN c) (by omega) with hx | ⟨a, ha, rfl⟩
  · exact has_no uN hx (n_f rfl (per_no vN p1 hx (n_f rfl ⟨rfl, h⟩)))
  have ha7 : a < 7 := by omega
  have hn7 : wH w < 128 := lt128 hw.2.1 p1
  have ht7 : wT w < 128 := lt128 hw.2.2.1 p1
  refine has_yes uN p1 ha (n_t (by decide) ?_)
  have per : ∀ (K : Int32 → MM → Prop), wX11_hasHeard N (nI a) v (fun r4 u5 => ((x2 = 0 → (vp_in ((24 + nI a)) 944 ∧ (K (u5 1 (24 + nI a).toNatClampNeg) u5))) ∧ (¬ x2 = 0 → ((x2 = 1 → (vp_in ((31 + nI a)) 944 ∧ (K (u5 1 (31 + nI a).toNatClampNeg) u5))) ∧ (¬ x2 = 1 → ((x2 = 2 → ((r4 = 0 → (K 0 u5)) ∧ (¬ r4 = 0 → (K 1 u5)))) ∧ (¬ x2 = 2 → ((x2 = 3 → ((r4 = 0 → (K (-5) u5)) ∧ (¬ r4 = 0 → (vp_in ((4 + nI a)) 944 ∧ (K (u5 1 (4 + nI a).toNatClampNeg) u5))))) ∧ (¬ x2 = 3 → ((x2 = 4 → (wX11_hasTold N (nI a) u5 (fun r13 u14 => ((r13 = 0 → (K 0 u14)) ∧ (¬ r13 = 0 → (K 1 u14)))))) ∧ (¬ x2 = 4 → ((x2 = 5 → ((r4 = 0 → (K (-5) u5)) ∧ (¬ r4 = 0 → (vp_in ((11 + nI a)) 944 ∧ (K (u5 1 (11 + nI a).toNatClampNeg) u5))))) ∧ (¬ x2 = 5 → ((x2 = 6 → (vp_in ((38 + nI a)) 944 ∧ (K (u5 1 (38 + nI a).toNatClampNeg) u5))) ∧ (¬ x2 = 6 → ((x2 = 7 → ((r4 = 0 → (K (-5) u5)) ∧ (¬ r4 = 0 → (wX11_mayOf N (nI a) u5 (fun r21 u22 => (K r21 u22)))))) ∧ (¬ x2 = 7 → ((x2 = 8 → ((r4 = 0 → (K (-5) u5)) ∧ (¬ r4 = 0 → (wX11_askedOf N (nI a) u5 (fun r25 u26 => (K r25 u26)))))) ∧ (¬ x2 = 8 → ((x2 = 9 → ((r4 = 0 → (K (-5) u5)) ∧ (¬ r4 = 0 → (wX11_choiceOf N (nI a) u5 (fun r29 u30 => (K r29 u30)))))) ∧ (¬ x2 = 9 → ((x2 = 10 → (wX11_fineOf N (nI a) u5 (fun r32 u33 => (K r32 u33)))) ∧ (¬ x2 = 10 → ((x2 = 11 → (vp_in ((45 + nI a)) 944 ∧ (K (u5 1 (45 + nI a).toNatClampNeg) u5))) ∧ (¬ x2 = 11 → (K (-1) u5)))))))))))))))))))))))))) → wX11_of N (nI a) x2 v K := fun K q => per_yes vN p1 ha (n_t (by decide) q)
  obtain ⟨g1, g2, g3, g4⟩ := hu.2.1 a ha7
  obtain ⟨s1, s2, s3, s4⟩ := hv.2.1 a ha7
  have same : relT u v := h
  have hd2 : ∀ {K : Int32 → MM → Prop}, K (nI (bn ((wH w).testBit a))) v → wX11_hasHeard N (nI a) v K := by
    intro K q
    cases hb : (wH w).testBit a
    · rw [hb] at q; exact hh_no wv.2.2.1 hn7 ha7 hb q
    · rw [hb] at q; exact hh_yes wv.2.2.1 hn7 ha7 hb q
  have q24 : vp_in ((24 : Int32) + nI a) 944 ∧ ((24 : Int32) + nI a).toNatClampNeg = 24 + a := by rw [i24]; exact ⟨vp_in_nI (by omega) (by omega), nI_clamp (by omega)⟩
  have q31 : vp_in ((31 : Int32) + nI a) 944 ∧ ((31 : Int32) + nI a).toNatClampNeg = 31 + a := by rw [i31]; exact ⟨vp_in_nI (by omega) (by omega), nI_clamp (by omega)⟩
  have q38 : vp_in ((38 : Int32) + nI a) 944 ∧ ((38 : Int32) + nI a).toNatClampNeg = 38 + a := by rw [i38]; exact ⟨vp_in_nI (by omega) (by omega), nI_clamp (by omega)⟩
  have q45 : vp_in ((45 : Int32) + nI a) 944 ∧ ((45 : Int32) + nI a).toNatClampNeg = 45 + a := by rw [i45]; exact ⟨vp_in_nI (by omega) (by omega), nI_clamp (by omega)⟩
  have q4 : vp_in ((4 : Int32) + nI a) 944 ∧ ((4 : Int32) + nI a).toNatClampNeg = 4 + a := by rw [i4]; exact ⟨vp_in_nI (by omega) (by omega), nI_clamp (by omega)⟩
  have q11 : vp_in ((11 : Int32) + nI a) 944 ∧ ((11 : Int32) + nI a).toNatClampNeg = 11 + a := by rw [i11]; exact ⟨vp_in_nI (by omega) (by omega), nI_clamp (by omega)⟩
  rw [q24.2, q31.2, q38.2, q45.2, q4.2, q11.2] at per
  have cl : (nI a).toNatClampNeg = a := nI_clamp (by omega)
  rw [cl]
  by_cases c0 : x2 = 0
  · exact b_t c0 ⟨vp7 ha7, per _ (hd2 (b_t c0 ⟨q24.1, g1.trans s1.symm, h⟩))⟩
  refine b_f c0 ?_
  by_cases c1 : x2 = 1
  · exact b_t c1 ⟨vp7 ha7, per _ (hd2 (b_f c0 (b_t c1 ⟨q31.1, g2.trans s2.symm, h⟩)))⟩
  refine b_f c1 ?_
  by_cases c2 : x2 = 2
  · refine b_t c2 ?_
    rw [wu.2.2.1]
    cases hb : (wH w).testBit a
    · exact hb_no hn7 ha7 hb (b_t rfl (per _ (hh_no wv.2.2.1 hn7 ha7 hb (b_f c0 (b_f c1 (b_t c2 (b_t rfl ⟨rfl, h⟩)))))))
    · exact hb_yes hn7 ha7 hb (b_f (by decide) (per _ (hh_yes wv.2.2.1 hn7 ha7 hb (b_f c0 (b_f c1 (b_t c2 (b_f (by decide) ⟨rfl, h⟩)))))))
  refine b_f c2 ?_
  have tel : ∀ {K : Int32 → MM → Prop} , ((wH w).testBit a = false → K (-5) u) → ((wH w).testBit a = true → wX10_ofTeller N (nI a) x2 u K) → wX10_of_b184 N K (nI a) x2 u := by
    intro K k1 k2
    unfold wX10_of_b184
    rw [wu.2.2.1]
    cases hb : (wH w).testBit a
    · exact hb_no hn7 ha7 hb (b_t rfl (k1 hb))
    · exact hb_yes hn7 ha7 hb (b_f (by decide) (k2 hb))
  by_cases c3 : x2 = 3
  · refine b_t c3 (tel (fun hb => per _ (hh_no wv.2.2.1 hn7 ha7 hb (b_f c0 (b_f c1 (b_f c2 (b_t c3 (b_t rfl ⟨rfl, h⟩))))))) (fun hb => b_t c3 ⟨vp7 ha7, ?_⟩))
    rw [cl]
    refine per _ (hh_yes wv.2.2.1 hn7 ha7 hb (b_f c0 (b_f c1 (b_f c2 (b_t c3 (b_f (by decide) ⟨q4.1, ?_, h⟩))))))
    exact (wu.2.2.2.2 a ha7 hb).1.trans (wv.2.2.2.2 a ha7 hb).1.symm
  refine b_f c3 ?_
  by_cases c4 : x2 = 4
  · refine b_t c4 ?_
    rw [wu.2.2.2.1]
    have l4 : ∀ {K : Int32 → MM → Prop}, wX11_hasTold N (nI a) v (fun r13 u14 => ((r13 = 0 → (K 0 u14)) ∧ (¬ r13 = 0 → (K 1 u14)))) → wX11_of N (nI a) x2 v K := fun q => per _ (hd2 (b_f c0 (b_f c1 (b_f c2 (b_f c3 (b_t c4 q))))))
    cases hb : (wT w).testBit a
    · exact hb_no ht7 ha7 hb (b_t rfl (l4 (ht_no wv.2.2.2.1 ht7 ha7 hb (b_t rfl ⟨rfl, h⟩))))
    · exact hb_yes ht7 ha7 hb (b_f (by decide) (l4 (ht_yes wv.2.2.2.1 ht7 ha7 hb (b_f (by decide) ⟨rfl, h⟩))))
  refine b_f c4 ?_
  by_cases c5 : x2 = 5
  · refine b_t c5 (tel (fun hb => per _ (hh_no wv.2.2.1 hn7 ha7 hb (b_f c0 (b_f c1 (b_f c2 (b_f c3 (b_f c4 (b_t c5 (b_t rfl ⟨rfl, h⟩))))))))) (fun hb => b_f c3 (b_f c4 (b_t c5 ⟨vp7 ha7, ?_⟩))))
    rw [cl]
    refine per _ (hh_yes wv.2.2.1 hn7 ha7 hb (b_f c0 (b_f c1 (b_f c2 (b_f c3 (b_f c4 (b_t c5 (b_f (by decide) ⟨q11.1, ?_, h⟩))))))))
    exact (wu.2.2.2.2 a ha7 hb).2.trans (wv.2.2.2.2 a ha7 hb).2.symm
  refine b_f c5 ?_
  by_cases c6 : x2 = 6
  · exact b_t c6 ⟨vp7 ha7, per _ (hd2 (b_f c0 (b_f c1 (b_f c2 (b_f c3 (b_f c4 (b_f c5 (b_t c6 ⟨q38.1, g3.trans s3.symm, h⟩))))))))⟩
  refine b_f c6 ?_
  by_cases c7 : x2 = 7
  · refine b_t c7 (tel (fun hb => per _ (hh_no wv.2.2.1 hn7 ha7 hb (b_f c0 (b_f c1 (b_f c2 (b_f c3 (b_f c4 (b_f c5 (b_f c6 (b_t c7 (b_t rfl ⟨rfl, h⟩))))))))))) (fun hb => b_f c3 (b_f c4 (b_f c5 (b_f c6 (b_t c7 (may_c (by omega) hc hu hw wu (by omega) ha7 (fun u2 f2 => ?_))))))))
    exact per _ (hh_yes wv.2.2.1 hn7 ha7 hb (b_f c0 (b_f c1 (b_f c2 (b_f c3 (b_f c4 (b_f c5 (b_f c6 (b_t c7 (b_f (by decide) (may_m hN hc hv hw wv ha7 (fun v2 m2 => ⟨rfl, rel_read h f2 m2⟩)))))))))))) 
  refine b_f c7 ?_
  by_cases c8 : x2 = 8
  · refine b_t c8 (tel (fun hb => per _ (hh_no wv.2.2.1 hn7 ha7 hb (b_f c0 (b_f c1 (b_f c2 (b_f c3 (b_f c4 (b_f c5 (b_f c6 (b_f c7 (b_t c8 (b_t rfl ⟨rfl, h⟩)))))))))))) (fun hb => b_f c3 (b_f c4 (b_f c5 (b_f c6 (b_f c7 (b_t c8 (ask_c hc hu hw wu ha7 hb ?_))))))))
    exact per _ (hh_yes wv.2.2.1 hn7 ha7 hb (b_f c0 (b_f c1 (b_f c2 (b_f c3 (b_f c4 (b_f c5 (b_f c6 (b_f c7 (b_t c8 (b_f (by decide) (ask_m hc hv hw wv ha7 hb ⟨rfl, h⟩)))))))))))) 
  refine b_f c8 ?_
  by_cases c9 : x2 = 9
  · refine b_t c9 (tel (fun hb => per _ (hh_no wv.2.2.1 hn7 ha7 hb (b_f c0 (b_f c1 (b_f c2 (b_f c3 (b_f c4 (b_f c5 (b_f c6 (b_f c7 (b_f c8 (b_t c9 (b_t rfl ⟨rfl, h⟩))))))))))))) (fun hb => b_f c3 (b_f c4 (b_f c5 (b_f c6 (b_f c7 (b_f c8 (may_c (by omega) hc hu hw wu (by omega) ha7 (fun u2 f2 => ?_)))))))))
    have hu2 : CxU u2 c := hu.same (fun k a b => f2 k (by omega))
    have wu2 : WdU u2 27 w := wu.same (f2 _ (by omega)) (f2 _ (by omega)) (f2 _ (by omega))
    refine ask_c hc hu2 hw wu2 ha7 hb (pick_c (by omega) hc hu2 ha7 mayF_lt (askF_le hw ha7 hb) ?_)
    exact per _ (hh_yes wv.2.2.1 hn7 ha7 hb (b_f c0 (b_f c1 (b_f c2 (b_f c3 (b_f c4 (b_f c5 (b_f c6 (b_f c7 (b_f c8 (b_t c9 (b_f (by decide) (cho_m hN hc hv hw wv ha7 hb (fun v2 m2 => ⟨rfl, rel_read h f2 m2⟩))))))))))))))
  refine b_f c9 ?_
  have tl : ∀ {K : Int32 → MM → Prop}, ((x2 = 10 → (wX11_fineOf N (nI a) v (fun r32 u33 => (K r32 u33)))) ∧ (¬ x2 = 10 → ((x2 = 11 → (vp_in ((45 + nI a)) 944 ∧ (K (v 1 (45 + a)) v))) ∧ (¬ x2 = 11 → (K (-1) v))))) → wX11_of N (nI a) x2 v K := fun q => per _ (hd2 (b_f c0 (b_f c1 (b_f c2 (b_f c3 (b_f c4 (b_f c5 (b_f c6 (b_f c7 (b_f c8 (b_f c9 q)))))))))))
  by_cases c10 : x2 = 10
  · exact b_t c10 (fine_c (by omega) hc hu hw wu (by omega) ha7 (fun u2 f2 => tl (b_t c10 (fine_m hN hc hv hw wv ha7 (fun v2 m2 => ⟨rfl, rel_read h f2 m2⟩)))))
  refine b_f c10 ?_
  by_cases c11 : x2 = 11
  · exact b_t c11 ⟨vp7 ha7, tl (b_f c10 (b_t c11 ⟨q45.1, g4.trans s4.symm, h⟩))⟩
  · exact b_f c11 (tl (b_f c10 (b_f c11 ⟨rfl, h⟩)))
