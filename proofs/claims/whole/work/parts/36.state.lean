/-- the slots of a State -/
def vs (ms mb a b : Nat) : Prop := (a = 0 ∧ b = 2) ∨ (a = 1 ∧ b = 1) ∨ (a = 2 ∧ b < 100) ∨ (a = 3 ∧ b < 4) ∨ (4 ≤ a ∧ a < 8 ∧ b < 10) ∨ (8 ≤ a ∧ a < 11 ∧ b < 100) ∨ (a = 11 ∧ b = 0) ∨ (12 ≤ a ∧ a < 16 ∧ b < 7) ∨ (a = 16 ∧ b < 49) ∨ (a = 17 ∧ b < 4) ∨ (18 ≤ a ∧ a < 20 ∧ b < 7) ∨ (a = 20 ∧ b = 0) ∨ (21 ≤ a ∧ a < 23 ∧ b < ms) ∨ (a = 23 ∧ b = 0) ∨ (24 ≤ a ∧ a < 26 ∧ b < mb)
def CopyS (u' : MM) (t : Nat) (u : MM) (o ms mb : Nat) : Prop := ∀ a b, vs ms mb a b → u' (t + a) b = u (o + a) b
theorem wX5_copyFrom_ok (N t o : Nat) (hN : 10 ≤ N) (u : MM) (K : MM → Prop) (ms mb : Nat) (h : o + 26 ≤ t ∨ t + 26 ≤ o) (hs : ms ≤ 6) (us : u (o + 20) 0 = nI ms) (hb : mb ≤ 8) (ub : u (o + 23) 0 = nI mb) (k : ∀ u' : MM, CopyS u' t u o ms mb → fr t 26 u u' → K u') : wX5_copyFrom N t o u K := by
  refine wX6_copyFrom_ok N (t + 1) (o + 1) u _ (by omega) (fun u1 a1 a2 g1 => ?_)
  refine wX8_copyFrom_ok N (t + 3) (o + 3) u1 _ (by omega) (fun u2 b1 b2 b3 b4 b5 b6 b7 b8 b9 b10 b11 g2 => ?_)
  intro u3 e3
  refine wX2_copyFrom_ok N (t + 11) (o + 11) u3 _ (by omega) (fun u4 c1 c2 c3 c4 c5 c6 g4 => ?_)
  refine wX9_copyFrom_ok N (t + 17) (o + 17) u4 _ (by omega) (fun u5 d1 d2 d3 d4 d5 d6 g5 => ?_)
  have g3 : fr t 1 u2 u3 := fun a ha => upu e3 (by omega)
  have w1 : fr t 26 u u1 := g1.wide (by omega) (by omega)
  have w2 : fr t 26 u u2 := w1.tr (g2.wide (by omega) (by omega))
  have w3 : fr t 26 u u3 := w2.tr (g3.wide (by omega) (by omega))
  have w4 : fr t 26 u u4 := w3.tr (g4.wide (by omega) (by omega))
  have w5 : fr t 26 u u5 := w4.tr (g5.wide (by omega) (by omega))
  refine wX4_copyFrom_ok N (t + 20) (o + 20) u5 _ ms (by omega) hs (by omega) (by rw [w5 _ (by omega)]; exact us) (fun u6 x1 x2 x3 g6 => ?_)
  have w6 : fr t 26 u u6 := w5.tr (g6.wide (by omega) (by omega))
  refine wX4_copyFrom8_ok N (t + 23) (o + 23) u6 _ mb (by omega) hb (by omega) (by rw [w6 _ (by omega)]; exact ub) (fun u7 y1 y2 y3 g7 => ?_)
  refine k u7 (fun a b hv => ?_) (w6.tr (g7.wide (by omega) (by omega)))
  unfold vs at hv
  rcases hv with hv | hv | hv | hv | hv | hv | hv | hv | hv | hv | hv | hv | hv | hv | hv
  · obtain ⟨rfl, rfl⟩ := hv
    rw [g7 (t + 0) (by omega), g6 (t + 0) (by omega), g5 (t + 0) (by omega), g4 (t + 0) (by omega)]; exact (upx e3).trans (by rw [show u2 o = u o from w2 o (by omega)]; rfl)
  · obtain ⟨rfl, rfl⟩ := hv
    rw [g7 (t + 1) (by omega), g6 (t + 1) (by omega), g5 (t + 1) (by omega), g4 (t + 1) (by omega), g3 (t + 1) (by omega), g2 (t + 1) (by omega)]; exact a2
  · obtain ⟨rfl, hb2⟩ := hv
    rw [g7 (t + 2) (by omega), g6 (t + 2) (by omega), g5 (t + 2) (by omega), g4 (t + 2) (by omega), g3 (t + 2) (by omega), g2 (t + 2) (by omega)]; exact a1 b hb2
  · obtain ⟨rfl, hb2⟩ := hv
    rcases i4cases hb2 with rfl | rfl | rfl | rfl
    · rw [g7 (t + 3) (by omega), g6 (t + 3) (by omega), g5 (t + 3) (by omega), g4 (t + 3) (by omega), g3 (t + 3) (by omega)]; exact (b1).trans (by rw [w1 (o + 3) (by omega)])
    · rw [g7 (t + 3) (by omega), g6 (t + 3) (by omega), g5 (t + 3) (by omega), g4 (t + 3) (by omega), g3 (t + 3) (by omega)]; exact (b2).trans (by rw [w1 (o + 3) (by omega)])
    · rw [g7 (t + 3) (by omega), g6 (t + 3) (by omega), g5 (t + 3) (by omega), g4 (t + 3) (by omega), g3 (t + 3) (by omega)]; exact (b3).trans (by rw [w1 (o + 3) (by omega)])
    · rw [g7 (t + 3) (by omega), g6 (t + 3) (by omega), g5 (t + 3) (by omega), g4 (t + 3) (by omega), g3 (t + 3) (by omega)]; exact (b4).trans (by rw [w1 (o + 3) (by omega)])
  · obtain ⟨h1, h2, hb2⟩ := hv
    obtain rfl | rfl | rfl | rfl : a = 4 ∨ a = 5 ∨ a = 6 ∨ a = 7 := by omega
    · rw [g7 (t + 4) (by omega), g6 (t + 4) (by omega), g5 (t + 4) (by omega), g4 (t + 4) (by omega), g3 (t + 4) (by omega)]; exact (b5 b hb2).trans (by rw [w1 (o + 4) (by omega)])
    · rw [g7 (t + 5) (by omega), g6 (t + 5) (by omega), g5 (t + 5) (by omega), g4 (t + 5) (by omega), g3 (t + 5) (by omega)]; exact (b6 b hb2).trans (by rw [w1 (o + 5) (by omega)])
    · rw [g7 (t + 6) (by omega), g6 (t + 6) (by omega), g5 (t + 6) (by omega), g4 (t + 6) (by omega), g3 (t + 6) (by omega)]; exact (b7 b hb2).trans (by rw [w1 (o + 6) (by omega)])
    · rw [g7 (t + 7) (by omega), g6 (t + 7) (by omega), g5 (t + 7) (by omega), g4 (t + 7) (by omega), g3 (t + 7) (by omega)]; exact (b8 b hb2).trans (by rw [w1 (o + 7) (by omega)])
  · obtain ⟨h1, h2, hb2⟩ := hv
    obtain rfl | rfl | rfl : a = 8 ∨ a = 9 ∨ a = 10 := by omega
    · rw [g7 (t + 8) (by omega), g6 (t + 8) (by omega), g5 (t + 8) (by omega), g4 (t + 8) (by omega), g3 (t + 8) (by omega)]; exact (b9 b hb2).trans (by rw [w1 (o + 8) (by omega)])
    · rw [g7 (t + 9) (by omega), g6 (t + 9) (by omega), g5 (t + 9) (by omega), g4 (t + 9) (by omega), g3 (t + 9) (by omega)]; exact (b10 b hb2).trans (by rw [w1 (o + 9) (by omega)])
    · rw [g7 (t + 10) (by omega), g6 (t + 10) (by omega), g5 (t + 10) (by omega), g4 (t + 10) (by omega), g3 (t + 10) (by omega)]; exact (b11 b hb2).trans (by rw [w1 (o + 10) (by omega)])
  · obtain ⟨rfl, rfl⟩ := hv
    rw [g7 (t + 11) (by omega), g6 (t + 11) (by omega), g5 (t + 11) (by omega)]; exact (c1).trans (by rw [w3 (o + 11) (by omega)])
  · obtain ⟨h1, h2, hb2⟩ := hv
    obtain rfl | rfl | rfl | rfl : a = 12 ∨ a = 13 ∨ a = 14 ∨ a = 15 := by omega
    · rw [g7 (t + 12) (by omega), g6 (t + 12) (by omega), g5 (t + 12) (by omega)]; exact (c2 b hb2).trans (by rw [w3 (o + 12) (by omega)])
    · rw [g7 (t + 13) (by omega), g6 (t + 13) (by omega), g5 (t + 13) (by omega)]; exact (c3 b hb2).trans (by rw [w3 (o + 13) (by omega)])
    · rw [g7 (t + 14) (by omega), g6 (t + 14) (by omega), g5 (t + 14) (by omega)]; exact (c4 b hb2).trans (by rw [w3 (o + 14) (by omega)])
    · rw [g7 (t + 15) (by omega), g6 (t + 15) (by omega), g5 (t + 15) (by omega)]; exact (c5 b hb2).trans (by rw [w3 (o + 15) (by omega)])
  · obtain ⟨rfl, hb2⟩ := hv
    rw [g7 (t + 16) (by omega), g6 (t + 16) (by omega), g5 (t + 16) (by omega)]; exact (c6 b hb2).trans (by rw [w3 (o + 16) (by omega)])
  · obtain ⟨rfl, hb2⟩ := hv
    rcases i4cases hb2 with rfl | rfl | rfl | rfl
    · rw [g7 (t + 17) (by omega), g6 (t + 17) (by omega)]; exact (d1).trans (by rw [w4 (o + 17) (by omega)])
    · rw [g7 (t + 17) (by omega), g6 (t + 17) (by omega)]; exact (d2).trans (by rw [w4 (o + 17) (by omega)])
    · rw [g7 (t + 17) (by omega), g6 (t + 17) (by omega)]; exact (d3).trans (by rw [w4 (o + 17) (by omega)])
    · rw [g7 (t + 17) (by omega), g6 (t + 17) (by omega)]; exact (d4).trans (by rw [w4 (o + 17) (by omega)])
  · obtain ⟨h1, h2, hb2⟩ := hv
    obtain rfl | rfl : a = 18 ∨ a = 19 := by omega
    · rw [g7 (t + 18) (by omega), g6 (t + 18) (by omega)]; exact (d5 b hb2).trans (by rw [w4 (o + 18) (by omega)])
    · rw [g7 (t + 19) (by omega), g6 (t + 19) (by omega)]; exact (d6 b hb2).trans (by rw [w4 (o + 19) (by omega)])
  · obtain ⟨rfl, rfl⟩ := hv
    rw [g7 (t + 20) (by omega)]; exact x1.trans us.symm
  · obtain ⟨h1, h2, hb2⟩ := hv
    obtain rfl | rfl : a = 21 ∨ a = 22 := by omega
    · rw [g7 (t + 21) (by omega)]; exact (x2 b hb2).trans (by rw [w5 (o + 21) (by omega)])
    · rw [g7 (t + 22) (by omega)]; exact (x3 b hb2).trans (by rw [w5 (o + 22) (by omega)])
  · obtain ⟨rfl, rfl⟩ := hv
    exact y1.trans ub.symm
  · obtain ⟨h1, h2, hb2⟩ := hv
    obtain rfl | rfl : a = 24 ∨ a = 25 := by omega
    · exact (y2 b hb2).trans (by rw [w6 (o + 24) (by omega)])
    · exact (y3 b hb2).trans (by rw [w6 (o + 25) (by omega)])
theorem vs_0 {ms mb : Nat}  : vs ms mb 0 2 := Or.inl ⟨rfl, rfl⟩
theorem vs_1 {ms mb : Nat}  : vs ms mb 1 1 := Or.inr (Or.inl ⟨rfl, rfl⟩)
theorem vs_2 {ms mb : Nat} {b : Nat} (h : b < 100) : vs ms mb 2 b := Or.inr (Or.inr (Or.inl ⟨rfl, h⟩))
theorem vs_3 {ms mb : Nat} {b : Nat} (h : b < 4) : vs ms mb 3 b := Or.inr (Or.inr (Or.inr (Or.inl ⟨rfl, h⟩)))
theorem vs_4 {ms mb : Nat} {a b : Nat} (h1 : 4 ≤ a) (h2 : a < 8) (h : b < 10) : vs ms mb a b := Or.inr (Or.inr (Or.inr (Or.inr (Or.inl ⟨h1, h2, h⟩))))
theorem vs_5 {ms mb : Nat} {a b : Nat} (h1 : 8 ≤ a) (h2 : a < 11) (h : b < 100) : vs ms mb a b := Or.inr (Or.inr (Or.inr (Or.inr (Or.inr (Or.inl ⟨h1, h2, h⟩)))))
theorem vs_6 {ms mb : Nat}  : vs ms mb 11 0 := Or.inr (Or.inr (Or.inr (Or.inr (Or.inr (Or.inr (Or.inl ⟨rfl, rfl⟩))))))
theorem vs_7 {ms mb : Nat} {a b : Nat} (h1 : 12 ≤ a) (h2 : a < 16) (h : b < 7) : vs ms mb a b := Or.inr (Or.inr (Or.inr (Or.inr (Or.inr (Or.inr (Or.inr (Or.inl ⟨h1, h2, h⟩)))))))
theorem vs_8 {ms mb : Nat} {b : Nat} (h : b < 49) : vs ms mb 16 b := Or.inr (Or.inr (Or.inr (Or.inr (Or.inr (Or.inr (Or.inr (Or.inr (Or.inl ⟨rfl, h⟩))))))))
theorem vs_9 {ms mb : Nat} {b : Nat} (h : b < 4) : vs ms mb 17 b := Or.inr (Or.inr (Or.inr (Or.inr (Or.inr (Or.inr (Or.inr (Or.inr (Or.inr (Or.inl ⟨rfl, h⟩)))))))))
theorem vs_10 {ms mb : Nat} {a b : Nat} (h1 : 18 ≤ a) (h2 : a < 20) (h : b < 7) : vs ms mb a b := Or.inr (Or.inr (Or.inr (Or.inr (Or.inr (Or.inr (Or.inr (Or.inr (Or.inr (Or.inr (Or.inl ⟨h1, h2, h⟩))))))))))
theorem vs_11 {ms mb : Nat}  : vs ms mb 20 0 := Or.inr (Or.inr (Or.inr (Or.inr (Or.inr (Or.inr (Or.inr (Or.inr (Or.inr (Or.inr (Or.inr (Or.inl ⟨rfl, rfl⟩)))))))))))
theorem vs_12 {ms mb : Nat} {a b : Nat} (h1 : 21 ≤ a) (h2 : a < 23) (h : b < ms) : vs ms mb a b := Or.inr (Or.inr (Or.inr (Or.inr (Or.inr (Or.inr (Or.inr (Or.inr (Or.inr (Or.inr (Or.inr (Or.inr (Or.inl ⟨h1, h2, h⟩))))))))))))
theorem vs_13 {ms mb : Nat}  : vs ms mb 23 0 := Or.inr (Or.inr (Or.inr (Or.inr (Or.inr (Or.inr (Or.inr (Or.inr (Or.inr (Or.inr (Or.inr (Or.inr (Or.inr (Or.inl ⟨rfl, rfl⟩)))))))))))))
theorem vs_14 {ms mb : Nat} {a b : Nat} (h1 : 24 ≤ a) (h2 : a < 26) (h : b < mb) : vs ms mb a b := Or.inr (Or.inr (Or.inr (Or.inr (Or.inr (Or.inr (Or.inr (Or.inr (Or.inr (Or.inr (Or.inr (Or.inr (Or.inr (Or.inr (⟨h1, h2, h⟩))))))))))))))
theorem mir_vs {ms mb i a b : Nat} (h : mir i a b) : vs ms mb a b := by
  unfold mir at h
  rcases h with h | h | h | h | h | h | h | h | h | h | h | h
  · obtain ⟨h1, rfl, rfl⟩ := h; exact vs_9 h1
  · obtain ⟨h1, rfl, rfl⟩ := h; exact vs_6
  · obtain ⟨h1, rfl, rfl⟩ := h; exact vs_0
  · obtain ⟨h1, rfl, rfl⟩ := h; exact vs_11
  · obtain ⟨h1, rfl, rfl⟩ := h; exact vs_13
  · obtain ⟨h1, rfl, rfl⟩ := h; exact vs_1
  · exact vs_7 (by omega) (by omega) (by omega)
  · exact vs_7 (by omega) (by omega) (by omega)
  · exact vs_7 (by omega) (by omega) (by omega)
  · exact vs_7 (by omega) (by omega) (by omega)
  · obtain ⟨h1, h2, rfl, h3⟩ := h; exact vs_8 (by omega)
  · obtain ⟨h1, h2, rfl, h3⟩ := h; exact vs_2 (by omega)
theorem stC.copy {u u' : MM} {t o i : Nat} {x : Int} (h : stC u o i x) (h8 : u' (t + 8) i = u (o + 8) i) (h9 : u' (t + 9) i = u (o + 9) i) (h10 : u' (t + 10) i = u (o + 10) i) : stC u' t i x := by
  unfold stC at h ⊢
  rw [h8, h9, h10]
  exact h
theorem CP.copy {u u' : MM} {t o : Nat} {P : List Cl} (h : CP u o P) (h3 : u' (t + 3) 2 = u (o + 3) 2) (h4 : ∀ a b, 4 ≤ a → a < 8 → b < 10 → u' (t + a) b = u (o + a) b) (h8 : ∀ a b, 8 ≤ a → a < 11 → b < 100 → u' (t + a) b = u (o + a) b) : CP u' t P := by
  obtain ⟨a1, a2, st, a3⟩ := h
  refine ⟨h3.trans a1, a2, st, fun j c hj => ?_⟩
  have hj10 : j < 10 := by
    have := (List.getElem?_eq_some_iff.mp hj).1
    omega
  obtain ⟨q1, q2, q3, q4, q5, q6⟩ := a3 j c hj
  refine ⟨(h4 4 j (by omega) (by omega) hj10).trans q1, (h4 5 j (by omega) (by omega) hj10).trans q2, (h4 6 j (by omega) (by omega) hj10).trans q3, (h4 7 j (by omega) (by omega) hj10).trans q4, q5, fun i x hx => ?_⟩
  have hi : i < c.2.2.length := (List.getElem?_eq_some_iff.mp hx).1
  exact (q6 i x hx).copy (h8 8 _ (by omega) (by omega) (by omega)) (h8 9 _ (by omega) (by omega) (by omega)) (h8 10 _ (by omega) (by omega) (by omega))
theorem RS.copy {u u' : MM} {t o : Nat} {s : Nat → Int32} {n hd td ms mb : Nat} (h : RS u o s n hd td) (hm : ms ≤ 6) (es : s 20 = nI ms) (hb : mb ≤ 8) (eb : s 21 = nI mb) (hc : CopyS u' t u o ms mb) : RS u' t s n hd td := by
  obtain ⟨h1, h2, h3, h4, h5, h6, h7, h8⟩ := h
  refine ⟨h1, fun i a b hm => (hc a b (mir_vs hm)).trans (h2 i a b hm), h3, h4, fun p hp hbt => ?_, ?_, ?_, ?_⟩
  · obtain ⟨a, b, c⟩ := h5 p hp hbt
    exact ⟨(hc 18 p (vs_10 (by omega) (by omega) hp)).trans a, b, (hc 19 p (vs_10 (by omega) (by omega) hp)).trans c⟩
  · obtain ⟨m, a, b, c⟩ := h6
    have e : m = ms := (nI_eq (by omega) (by omega)).mp (b.symm.trans es)
    subst e
    exact ⟨m, a, b, fun k hk => ⟨(hc 21 k (vs_12 (by omega) (by omega) hk)).trans (c k hk).1, (hc 22 k (vs_12 (by omega) (by omega) hk)).trans (c k hk).2.1, (c k hk).2.2⟩⟩
  · obtain ⟨m, a, b, c⟩ := h7
    have e : m = mb := (nI_eq (by omega) (by omega)).mp (b.symm.trans eb)
    subst e
    exact ⟨m, a, b, fun k hk => ⟨(hc 24 k (vs_14 (by omega) (by omega) hk)).trans (c k hk).1, (hc 25 k (vs_14 (by omega) (by omega) hk)).trans (c k hk).2.1, (c k hk).2.2⟩⟩
  · obtain ⟨fw, lw, P, a, b, c, d, e, f, g⟩ := h8
    exact ⟨fw, lw, P, a, b, c, (hc 3 0 (vs_3 (by omega))).trans d, (hc 3 1 (vs_3 (by omega))).trans e, f.copy (hc 3 2 (vs_3 (by omega))) (fun a b x y z => hc a b (vs_4 x y z)) (fun a b x y z => hc a b (vs_5 x y z)), g⟩
theorem RS.ss {u : MM} {S : Nat} {s s' : Nat → Int32} {n hd td : Nat} (h : RS u S s n hd td) (hs : ∀ k, k < 944 → s' k = s k) : RS u S s' n hd td := by
  obtain ⟨h1, h2, h3, h4, h5, h6, h7, h8⟩ := h
  refine ⟨h1.kp (hs _ (by omega)) (hs _ (by omega)) (hs _ (by omega)), h2.other (fun i a c hm => hs i (by unfold mir at hm; omega)), h3.kp (hs _ (by omega)) (hs _ (by omega)) (hs _ (by omega)), h4.kp (fun k hk => hs k (by omega)), h5.kp ⟨rfl, rfl⟩ (fun k a b => hs k (by omega)), h6.kp ⟨rfl, rfl⟩ (fun k hk => hs k (by omega)), h7.kp ⟨rfl, rfl⟩ (fun k hk => hs k (by omega)), ?_⟩
  obtain ⟨fw, lw, P, a, b, c, d, e, f, g⟩ := h8
  refine ⟨fw, lw, P, a, b, c, d, e, f, ?_⟩
  rcases g with ⟨g1, g2⟩ | ⟨hh, tw, g1, g2, g3, g4, g5, g6, g7, g8, g9⟩
  · exact Or.inl ⟨by rw [hs 23 (by omega)]; exact g1, g2⟩
  · refine Or.inr ⟨hh, tw, g1, g2, by rw [hs 19 (by omega)]; exact g3, by rw [hs 23 (by omega)]; exact g4, by rw [hs _ (by omega)]; exact g5, by rw [hs _ (by omega)]; exact g6, by rw [hs _ (by omega)]; exact g7, g8, fun i x hx => ?_⟩
    have hi : i < (flat P).length := (List.getElem?_eq_some_iff.mp hx).1
    rw [hs _ (by omega)]; exact g9 i x hx
theorem img_lp (N : Nat) (v : MM) (K : Int32 → MM → Prop) (k : ∀ v' : MM, (∀ j, j < 944 → v' 2 j = v 1 j) → (∀ a, a ≠ 2 → v' a = v a) → ∀ v2 : MM, v2 = up v' 0 4 1 → K (v2 1 18) v2) : ∀ (j i f : Nat) (w : MM), i + j = 944 → j < f → (∀ b, b < i → w 2 b = v 1 b) → (∀ a, a ≠ 2 → w a = v a) → wX11_image_b2 N K f (nI i) w := by
  intro j
  induction j with
  | zero =>
    intro i f w hi hf h1 h2
    obtain ⟨f, rfl⟩ : ∃ g, f = g + 1 := ⟨f - 1, by omega⟩
    have hm2 : i = 944 := by omega
    subst hm2
    exact b_t (nI_le (a := 944) (b := 944) (by omega) (by omega)) (k w h1 h2)
  | succ j ih =>
    intro i f w hi hf h1 h2
    obtain ⟨f, rfl⟩ : ∃ g, f = g + 1 := ⟨f - 1, by omega⟩
    refine b_f (nI_ge (a := i) (b := 944) (by omega) (by omega)) ⟨vp_in_nI (by omega) (by omega), vp_in_nI (by omega) (by omega), fun w2 e2 => ?_⟩
    intro y e
    rw [i_one] at e
    subst e
    rw [nI_clamp (by omega), h2 1 (by omega)] at e2
    refine ih (i + 1) f w2 (by omega) (by omega) (fun b hb => ?_) (fun a ha => by rw [upu e2 ha]; exact h2 a ha)
    by_cases hbi : b = i
    · subst hbi; exact upx e2
    · rw [e2, up_j hbi]; exact h1 b (by omega)
theorem und_lp (N : Nat) (v : MM) (K : Int32 → MM → Prop) (k : ∀ v' : MM, (∀ j, j < 944 → v' 1 j = v 2 j) → (∀ a, a ≠ 1 → v' a = v a) → K (v' 1 18) v') : ∀ (j i f : Nat) (w : MM), i + j = 944 → j < f → (∀ b, b < i → w 1 b = v 2 b) → (∀ a, a ≠ 1 → w a = v a) → wX11_undo_b12 N K f (nI i) w := by
  intro j
  induction j with
  | zero =>
    intro i f w hi hf h1 h2
    obtain ⟨f, rfl⟩ : ∃ g, f = g + 1 := ⟨f - 1, by omega⟩
    have hm2 : i = 944 := by omega
    subst hm2
    exact b_t (nI_le (a := 944) (b := 944) (by omega) (by omega)) (k w h1 h2)
  | succ j ih =>
    intro i f w hi hf h1 h2
    obtain ⟨f, rfl⟩ : ∃ g, f = g + 1 := ⟨f - 1, by omega⟩
    refine b_f (nI_ge (a := i) (b := 944) (by omega) (by omega)) ⟨vp_in_nI (by omega) (by omega), vp_in_nI (by omega) (by omega), fun w2 e2 => ?_⟩
    intro y e
    rw [i_one] at e
    subst e
    rw [nI_clamp (by omega), h2 2 (by omega)] at e2
    refine ih (i + 1) f w2 (by omega) (by omega) (fun b hb => ?_) (fun a ha => by rw [upu e2 ha]; exact h2 a ha)
    by_cases hbi : b = i
    · subst hbi; exact upx e2
    · rw [e2, up_j hbi]; exact h1 b (by omega)
theorem rel_image (N : Nat) (hN : 1000 ≤ N) : ∀ (u v : MM), relT u v → wX10_image N u (fun r u2 => wX11_image N v (fun r2 v2 => r = r2 ∧ relT u2 v2)) := by
  intro u v h
  obtain ⟨⟨n, hd, td, hRS⟩, -, h3, h4, r, h5, h6, h7, h8⟩ := id h
  obtain ⟨ms, hm, es, -⟩ := hRS.2.2.2.2.2.1
  obtain ⟨mb, hb, eb, -⟩ := hRS.2.2.2.2.2.2.1
  have us : u 30 0 = nI ms := (hRS.2.1 20 20 0 m20).trans es
  have ub : u 33 0 = nI mb := (hRS.2.1 21 23 0 m21).trans eb
  refine wX5_copyFrom_ok N 36 10 (by omega) u _ ms mb (by omega) hm us hb ub (fun u2 hc g => ?_)
  intro u3 e3
  refine img_lp N v _ (fun v2 b1 b2 v3 f3 => ?_) 944 0 N v (by omega) (by omega) (fun b hb => by omega) (fun a ha => rfl)
  have k3 : ∀ a, a ≠ 0 → u3 a = u2 a := fun a ha => upu e3 ha
  have j3 : ∀ a, a ≠ 0 → v3 a = v2 a := fun a ha => upu f3 ha
  have z18 : u3 21 0 = v3 1 18 := by rw [k3 21 (by omega), g 21 (by omega), j3 1 (by omega), b2 1 (by omega)]; exact hRS.2.1 18 11 0 m18
  refine ⟨z18, ⟨n, hd, td, ?_⟩, Or.inr ⟨upx f3, upx e3, n, hd, td, ?_⟩, ?_, ?_, r, h5, ?_, ?_, fun k hk => ?_⟩
  · rw [j3 1 (by omega), b2 1 (by omega)]
    exact hRS.rows (fun k x y => by rw [k3 k (by omega), g k (by omega)])
  · rw [j3 2 (by omega)]
    exact ((hRS.copy hm es hb eb hc).rows (fun k x y => k3 k (by omega))).ss b1
  · rw [f3, up_j (by omega), b2 0 (by omega)]; exact h3
  · rw [f3, up_j (by omega), b2 0 (by omega)]; exact h4
  · rw [k3 4 (by omega), g 4 (by omega)]; exact h6
  · rw [f3, up_j (by omega), b2 0 (by omega)]; exact h7
  · rw [k3 5 (by omega), g 5 (by omega), j3 8 (by omega), b2 8 (by omega)]; exact h8 k hk
theorem rel_undo (N : Nat) (hN : 1000 ≤ N) : ∀ (u v : MM), relT u v → wX10_undo N u (fun r u2 => wX11_undo N v (fun r2 v2 => r = r2 ∧ relT u2 v2)) := by
  intro u v h
  obtain ⟨-, hk, h3, h4, r, h5, h6, h7, h8⟩ := id h
  rcases hk with ⟨a1, a2⟩ | ⟨a1, a2, n, hd, td, hRS⟩
  · exact n_f a2 (n_f a1 ⟨rfl, h⟩)
  obtain ⟨ms, hm, es, -⟩ := hRS.2.2.2.2.2.1
  obtain ⟨mb, hb, eb, -⟩ := hRS.2.2.2.2.2.2.1
  have us : u 56 0 = nI ms := (hRS.2.1 20 20 0 m20).trans es
  have ub : u 59 0 = nI mb := (hRS.2.1 21 23 0 m21).trans eb
  refine n_t (by rw [a2]; decide) (wX5_copyFrom_ok N 10 36 (by omega) u _ ms mb (by omega) hm us hb ub (fun u3 hc g => ?_))
  refine n_t (by rw [a1]; decide) (und_lp N v _ (fun v3 b1 b2 => ?_) 944 0 N v (by omega) (by omega) (fun b hb => by omega) (fun a ha => rfl))
  have z18 : u3 21 0 = v3 1 18 := by
    rw [b1 18 (by omega), show u3 21 0 = u 47 0 from hc 11 0 vs_6]
    exact hRS.2.1 18 11 0 m18
  refine ⟨z18, ⟨n, hd, td, (hRS.copy hm es hb eb hc).ss b1⟩, Or.inr ⟨?_, ?_, n, hd, td, ?_⟩, ?_, ?_, r, h5, ?_, ?_, fun k hk => ?_⟩
  · rw [b2 0 (by omega)]; exact a1
  · rw [g 0 (by omega)]; exact a2
  · rw [b2 2 (by omega)]
    exact hRS.rows (fun k x y => g k (by omega))
  · rw [b2 0 (by omega)]; exact h3
  · rw [b2 0 (by omega)]; exact h4
  · rw [g 4 (by omega)]; exact h6
  · rw [b2 0 (by omega)]; exact h7
  · rw [g 5 (by omega), b2 8 (by omega)]; exact h8 k hk
