/-! a word on trial -/
def begW (w : Wd) (p num : Nat) : Wd := ((wD w, 0, 2 ^ p, 0), (fun _ => num), fun _ => nI (wD w))
theorem begW_ok {c : Cx} {w : Wd} {p num : Nat} (hw : WdOk c w) (hp : p < cN c) (hn : num < 10) : WdOk c (begW w p num) := ⟨hw.1, Nat.pow_lt_pow_right (by omega) hp, Nat.pow_pos (by omega), fun _ _ _ => hn⟩
theorem bit2p {p q : Nat} (h : (2 ^ p).testBit q = true) : q = p := by
  rw [Nat.testBit_two_pow] at h
  exact (of_decide_eq_true h).symm
theorem start_c {N p num : Nat} {c : Cx} {w : Wd} {u : MM} {K : MM → Prop} (hc : CxOk c) (wu : WdU u 27 w) (hp : p < cN c) (k : ∀ u' : MM, (∀ a, a ≠ 7 → a ≠ 8 → a ≠ 9 → u' a = u a) → WdU u' 7 (begW w p num) → K u') : wX9_startWith N 7 (nI p) (nI num) (u 27 0) u K := by
  have hn := hc.1
  intro u1 e1 u2 e2 u3 e3 u4 e4
  refine ⟨vp7 (by omega), fun u5 e5 => ⟨vp7 (by omega), fun u6 e6 => ?_⟩⟩
  rw [cl7 (by omega)] at e5 e6
  rw [wu.1] at e1 e6
  rw [shl_val p (by omega)] at e3
  refine k u6 (fun a h7 h8 h9 => by rw [upu e6 h9, upu e5 h8, upu e4 h7, upu e3 h7, upu e2 h7, upu e1 h7]) ⟨?_, ?_, ?_, ?_, fun q hq hb => ?_⟩
  · rw [upu e6 (by decide), upu e5 (by decide), e4, up_j (by decide), e3, up_j (by decide), e2, up_j (by decide)]; exact upx e1
  · rw [upu e6 (by decide), upu e5 (by decide), e4, up_j (by decide), e3, up_j (by decide)]; exact upx e2
  · rw [upu e6 (by decide), upu e5 (by decide), e4, up_j (by decide)]; exact upx e3
  · rw [upu e6 (by decide), upu e5 (by decide)]; exact upx e4
  · have := bit2p hb
    subst this
    exact ⟨by rw [upu e6 (by decide)]; exact upx e5, upx e6⟩
theorem begins_m {N p num : Nat} {c : Cx} {w : Wd} {v : MM} {K : MM → Prop} (hc : CxOk c) (wv : WdV (v 1) w) (hp : p < cN c) (k : ∀ v' : MM, (∀ a, a ≠ 1 → v' a = v a) → (∀ j, 18 ≤ j → v' 1 j = v 1 j) → WdV (v' 1) (begW w p num) → K v') : wX11_begins N (nI p) (nI num) v K := by
  have hn := hc.1
  intro v1 f1 v2 f2
  rw [shl_val p (by omega)] at f1
  rw [i4, i11]
  rw [nI_clamp (by omega), nI_clamp (by omega)]
  refine ⟨vp_in_nI (by omega) (by omega), fun v3 f3 => ⟨vp_in_nI (by omega) (by omega), fun v4 f4 => fun v5 f5 => ?_⟩⟩
  have d3 : v3 1 0 = nI (wD w) := by rw [upv f3 (by omega), upv f2 (by decide), upv f1 (by decide)]; exact wv.1
  rw [d3] at f4
  refine k v5 (fun a ha => by rw [upu f5 ha, upu f4 ha, upu f3 ha, upu f2 ha, upu f1 ha]) (fun j hj => by rw [upv f5 (by omega), upv f4 (by omega), upv f3 (by omega), upv f2 (by omega), upv f1 (by omega)]) ⟨?_, ?_, ?_, ?_, fun q hq hb => ?_⟩
  · rw [upv f5 (by omega), upv f4 (by omega)]; exact d3
  · exact upx f5
  · rw [upv f5 (by omega), upv f4 (by omega), upv f3 (by omega), upv f2 (by decide)]; exact upx f1
  · rw [upv f5 (by omega), upv f4 (by omega), upv f3 (by omega)]; exact upx f2
  · have := bit2p hb
    subst this
    exact ⟨by rw [upv f5 (by omega), upv f4 (by omega)]; exact upx f3, by rw [upv f5 (by omega)]; exact upx f4⟩
def runW (c : Cx) (w : Wd) (p num : Nat) : Wd := endW c 7 8 (begW w p num) 7 0
theorem runW_ok {c : Cx} {w : Wd} {p num : Nat} (hc : CxOk c) (hw : WdOk c w) (hD : wD w < 1000) (hp : p < cN c) (hn : num < 10) : WdOk c (runW c w p num) :=
  endW_H hc (Nat.le_refl _) 8 _ 7 0 (begW_ok hw hp hn) (chO.none c _).ok (by show wD w + 8 < 2000; omega)
theorem brun_c {N p num : Nat} {c : Cx} {w : Wd} {u : MM} {K : Int32 → MM → Prop} (hN : 200 ≤ N) (hc : CxOk c) (hu : CxU u c) (hw : WdOk c w) (wu : WdU u 27 w) (hD : wD w < 1000) (hp : p < cN c) (hn : num < 10) (k : ∀ u' : MM, (∀ a, a ≠ 3 → a ≠ 7 → a ≠ 8 → a ≠ 9 → u' a = u a) → WdU u' 7 (runW c w p num) → K (nI (endN c 7 8 (begW w p num) 7 0)) u') : wX9_startWith N 7 (nI p) (nI num) (u 27 0) u (fun u4 => wX7_goOn N (-1) 0 (-1) u4 K) :=
  start_c hc wu hp (fun u1 r1 w1 => goOn_c (x := 7) (st := 0) (z := 7) hN hc (hu.same (fun a h1 h2 => r1 a (by omega) (by omega) (by omega))) (begW_ok hw hp hn) w1 (chO.none c _) (Nat.le_refl _) (by show wD w < 1900; omega) (fun u2 r2 w2 => k u2 (fun a h3 h7 h8 h9 => (r2 a h3 h7 h8 h9).trans (r1 a h7 h8 h9)) w2))
theorem brun_m {N p num : Nat} {c : Cx} {w : Wd} {v0 v : MM} {K : Int32 → MM → Prop} (hN : 200 ≤ N) (hc : CxOk c) (hv : CxV (v 1) c) (hw : WdOk c w) (wv : WdV (v 1) w) (hD : wD w < 1000) (hp : p < cN c) (hn : num < 10) (h16 : v 0 16 = -1) (h17 : v 0 17 = -1) (ht : tR v0 v) (k : ∀ v' : MM, tR v0 v' → (∀ j, j ≠ 12 → j ≠ 13 → j ≠ 17 → v' 0 j = v 0 j) → v' 0 17 = -1 → (∀ j, 18 ≤ j → v' 1 j = v 1 j) → WdV (v' 1) (runW c w p num) → K (nI (endN c 7 8 (begW w p num) 7 0)) v') : wX11_begins N (nI p) (nI num) v (fun v2 => wX11_ends N v2 K) :=
  begins_m hc wv hp (fun v1 r1 s1 w1 => ends_m (x := 7) (st := 0) (z := 7) hN hc (hv.same s1) (begW_ok hw hp hn) w1 (chO.none c _) (Nat.le_refl _) (by rw [r1 0 (by decide)]; exact h16) (by rw [r1 0 (by decide)]; exact h17) (fun y => by omega) (Or.inl rfl) (by show wD w < 1900; omega) (fun v2 g2 e2 w2 => k v2 (tR.go (b := v1) ⟨fun a p0 p1 p3 p4 p5 p6 p7 => by rw [r1 a p1]; exact ht.1 a p0 p1 p3 p4 p5 p6 p7, fun j hj => by rw [r1 0 (by decide)]; exact ht.2.1 j hj, fun j hj => by rw [r1 3 (by decide)]; exact ht.2.2.1 j hj, fun j hj => (s1 j hj).trans (ht.2.2.2 j hj)⟩ g2) (fun j a b d => by rw [g2.2.1 j a b d, r1 0 (by decide)]) e2 (fun j hj => (g2.2.2 j hj).trans (s1 j hj)) w2))
theorem trial_c {N : Nat} {w : Wd} {u : MM} {K : MM → Prop} (wu : WdU u 27 w) (k : ∀ u' : MM, (∀ a, a ≠ 7 → a ≠ 8 → a ≠ 9 → u' a = u a) → WdU u' 7 w → K u') : wX9_copyFrom N 7 27 u K := by
  refine wX9_copyFrom_ok N 7 27 u K (by omega) (fun u' a0 a1 a2 a3 a4 a5 g => k u' (fun a h7 h8 h9 => g a (by omega)) ?_)
  obtain ⟨b0, b1, b2, b3, b4⟩ := wu
  exact ⟨a0.trans b0, a1.trans b1, a2.trans b2, a3.trans b3, fun p hp hb => ⟨(a4 p hp).trans (b4 p hp hb).1, (a5 p hp).trans (b4 p hp hb).2⟩⟩
theorem and_sw (a b : Int32) : a &&& b = b &&& a := Int32.and_comm a b
theorem all_lt {n : Nat} (hn : n ≤ 7) : 2 ^ n - 1 < 128 := by
  have := Nat.pow_le_pow_right (n := 2) (by omega) hn
  omega
theorem rel_u {u v u' : MM} (h : relT u v) (hu : ∀ a, a ≠ 1 → a ≠ 3 → a ≠ 7 → a ≠ 8 → a ≠ 9 → u' a = u a) : relT u' v := by
  obtain ⟨⟨n, hd, td, hRS⟩, -⟩ := id h
  exact rel_now h ⟨fun k a b => hu k (by omega) (by omega) (by omega) (by omega) (by omega), hu 0 (by omega) (by omega) (by omega) (by omega) (by omega), hu 4 (by omega) (by omega) (by omega) (by omega) (by omega), hu 5 (by omega) (by omega) (by omega) (by omega) (by omega)⟩ (kq.rf v) ⟨n, hd, td, hRS.rows (fun k a b => hu k (by omega) (by omega) (by omega) (by omega) (by omega))⟩
theorem rel_end (N : Nat) (hN : 200 ≤ N) : ∀ (u v : MM) (x1 : Int32), relT u v → wX10_end N x1 u (fun r u2 => wX11_end N x1 v (fun r2 v2 => r = r2 ∧ relT u2 v2)) := by
  intro u v x1 h
  obtain ⟨⟨n, hd, td, hRS⟩, -, h16, h17, -⟩ := id h
  obtain ⟨c, w, hc, hu, hv, hw, wu, wv, en, eh, et, hD⟩ := hRS.nums
  have hn := hc.1
  refine trial_c wu (fun u2 r2 w2 => goOn_c (x := 7) (st := 0) (z := 7) hN hc (hu.same (fun a h1 h2 => r2 a (by omega) (by omega) (by omega))) hw w2 (chO.none c _) (Nat.le_refl _) (by omega) (fun u4 r4 w4 => ?_))
  have hW : WdOk c (endW c 7 8 w 7 0) := endW_H hc (Nat.le_refl _) 8 _ 7 0 hw (chO.none c _).ok (by omega)
  have hH7 : wH (endW c 7 8 w 7 0) < 128 := lt128 hW.2.1 hn
  have fu : ∀ a, a ≠ 1 → a ≠ 3 → a ≠ 7 → a ≠ 8 → a ≠ 9 → u4 a = u a := fun a _ h3 h7 h8 h9 => (r4 a h3 h7 h8 h9).trans (r2 a h7 h8 h9)
  have mid : ∀ r : Int32, (∀ v6 : MM, CxV (v6 1) c → WdV (v6 1) (endW c 7 8 w 7 0) → (∀ K2 : Int32 → MM → Prop, wX11_end_b81 N K2 r v6 → ∀ y7 : Int32, y7 = (((v6 1 2) ^^^ ((-1) : Int32)) &&& (((1 : Int32) <<< ((v6 1 18) &&& 31)) - 1)) → ((¬ x1 = 0 → ((¬ x1 = 1 → ((¬ x1 = 2 → (wX11_end_b81 N K2 y7 v6)) ∧ (x1 = 2 → (wX11_end_b81 N K2 (v6 1 1) v6)))) ∧ (x1 = 1 → (wX11_count1 N (v6 1 2) (fun r11 => (wX11_end_b81 N K2 r11 v6)))))) ∧ (x1 = 0 → (wX11_end_b81 N K2 (nI (endN c 7 8 w 7 0)) v6))))) → (∃ j, j < 4 ∧ x1 = nI j) → wX11_end N x1 v (fun r2 v2 => r = r2 ∧ relT u4 v2) := by
    intro r hr hx
    obtain ⟨j, hj, rfl⟩ := hx
    refine min_yes (n := 3) (by omega) (by omega) (n_t (by decide) (tkeep_m (by omega) (fun v4 t4 s4 z4 => ?_)))
    refine ends_m (x := 7) (st := 0) (z := 7) hN hc (by rw [s4]; exact hv) hw (by rw [s4]; exact wv) (chO.none c _) (Nat.le_refl _) (by rw [z4]; exact h16) (by rw [z4]; exact h17) (fun y => by omega) (Or.inl rfl) (by omega) (fun v6 g6 e6 w6 => ?_)
    have t6 := t4.go g6
    refine hr v6 (hv.same (fun j hj => by rw [g6.2.2 j hj, s4])) w6 _ (tback_m (by omega) t6 (fun v7 t7 s7 z7 => ⟨rfl, rel_try h fu t7 s7 (by rw [z7]; exact e6)⟩))
  rcases arg3 x1 (n := 4) (by omega) with hx | ⟨j, hj, rfl⟩
  · have ne : ∀ m : Nat, m < 4 → ¬ x1 = nI m := by
      rintro m hm rfl
      rcases hx with hx | hx
      · exact nI_pos (by omega) hx
      · exact nI_ge hm (by omega) hx
    exact b_f (ne 0 (by omega)) (b_f (ne 1 (by omega)) (b_f (ne 2 (by omega)) (b_f (ne 3 (by omega)) (min_no (n := 3) (by omega) hx (n_f rfl ⟨rfl, rel_u h fu⟩)))))
  · obtain rfl | rfl | rfl | rfl : j = 0 ∨ j = 1 ∨ j = 2 ∨ j = 3 := by omega
    · exact b_t rfl (mid _ (fun v6 _ _ K2 q y7 _ => n_f rfl q) ⟨0, by omega, rfl⟩)
    · refine b_f (by decide) (b_t rfl ?_)
      rw [w4.2.2.1]
      refine bc_val hH7 (mid _ (fun v6 hv6 w6 K2 q y7 _ => n_t (by decide) (n_f rfl ?_)) ⟨1, by omega, rfl⟩)
      rw [w6.2.2.1]
      exact count1_val (by omega) hH7 q
    · refine b_f (by decide) (b_f (by decide) (b_t rfl (mid _ (fun v6 hv6 w6 K2 q y7 _ => n_t (by decide) (n_t (by decide) (n_f rfl ?_))) ⟨2, by omega, rfl⟩)))
      rw [w6.2.1, ← w4.2.1]
      exact q
    · refine b_f (by decide) (b_f (by decide) (b_f (by decide) (b_t rfl ?_)))
      refine mid _ (fun v6 hv6 w6 K2 q y7 e7 => n_t (by decide) (n_t (by decide) (n_t (by decide) ?_))) ⟨3, by omega, rfl⟩
      rw [e7, w6.2.2.1, hv6.1, and_sw]
      rw [r4 21 (by omega) (by omega) (by omega) (by omega), r2 21 (by omega) (by omega) (by omega), hu.1, w4.2.2.1] at q
      exact q
theorem hr_vain {c : Cx} {w : Wd} {x st z : Nat} (hc : CxOk c) (hw : WdOk c w) (h : chOk c w x st) (hz : z < cN c) : (hrF c w x st z).testBit z = false := by
  have hn := hc.1
  unfold hrF
  rw [hrP_bit hc hw h (dfN_lt hc (by omega)) (by omega) _ hn, dfN_bit (by omega) hz (by omega)]
  have : dfB c w z z = true := by unfold dfB; rw [decide_eq_true rfl]; rfl
  rw [this]
  simp
theorem end_vain {c : Cx} {z : Nat} (hc : CxOk c) (hz : z < cN c) : ∀ (r : Nat) (w : Wd) (x st : Nat), WdOk c w → chOk c w x st → wD w + r < 2000 → (wH w).testBit z = false → (wH (endW c z r w x st)).testBit z = false
  | 0, w, x, st, _, _, _, hb => hb
  | r + 1, w, x, st, hw, hx, hD, hb => by
    have hn := hc.1
    rw [endW]
    split
    · exact hb
    · refine end_vain hc hz r _ 7 0 (dayW_ok hc hw hx (by omega) (by omega)) (chO.none c _).ok (by show wD w + 1 + r < 2000; omega) ?_
      show (wH w ||| hrF c w x st z).testBit z = false
      rw [Nat.testBit_or, hb, hr_vain hc hw hx hz]
      rfl
theorem wo_no : ∀ a, a < 128 → ∀ x, x < 7 → a.testBit x = false → wo a (2 ^ x) = a := by decide +kernel
theorem oth_m {N a z : Nat} {c : Cx} {w : Wd} {v : MM} {K : Int32 → MM → Prop} (hN : 200 ≤ N) (hc : CxOk c) (hv : CxV (v 1) c) (hw : WdOk c w) (wv : WdV (v 1) w) (hD : wD w < 1000) (ha : a < cN c) (hz : z ≤ 7) (h16 : v 0 16 = oi z) (h17 : v 0 17 = -1) (k : ∀ v' : MM, tR v v' → v' 1 = v 1 → v' 0 17 = -1 → K (nI (pc (wo (wH (endW c z 8 w 7 0)) (2 ^ a)))) v') : wX11_othersHeard N (nI a) v K := by
  have hn := hc.1
  refine tkeep_m (by omega) (fun v4 t4 s4 z4 => ?_)
  refine ends_m (x := 7) (st := 0) (z := z) hN hc (by rw [s4]; exact hv) hw (by rw [s4]; exact wv) (chO.none c _) hz (by rw [z4]; exact h16) (by rw [z4]; exact h17) (fun y => by omega) (Or.inl rfl) (by omega) (fun v6 g6 e6 w6 => ?_)
  have hW : WdOk c (endW c z 8 w 7 0) := endW_H hc hz 8 _ 7 0 hw (chO.none c _).ok (by omega)
  have hH7 : wH (endW c z 8 w 7 0) < 128 := lt128 hW.2.1 hn
  rw [w6.2.2.1, shl_val a (by omega), wo_val _ hH7 _ (pow_lt (by omega))]
  exact count1_val (by omega) (wo_lt hH7) (tback_m (by omega) (t4.go g6) (fun v7 t7 s7 z7 => k v7 t7 s7 (by rw [z7]; exact e6)))
theorem rel_stops (N : Nat) (hN : 200 ≤ N) : ∀ (u v : MM) (x1 : Int32), relT u v → wX10_stops N x1 u (fun r u2 => wX11_stops N x1 v (fun r2 v2 => r = r2 ∧ relT u2 v2)) := by
  intro u v x1 h
  obtain ⟨⟨n, hd, td, hRS⟩, -, h16, h17, -⟩ := id h
  obtain ⟨c, w, hc, hu, hv, hw, wu, wv, en, eh, et, hD⟩ := hRS.nums
  have hn := hc.1
  rcases arg3 x1 (n := cN c) (by omega) with hx | ⟨a, ha, rfl⟩
  · exact has_no hu.1 hx (n_f rfl (per_no hv.1 hn hx (n_f rfl ⟨rfl, h⟩)))
  have ha7 : a < 7 := by omega
  have hn7 : wH w < 128 := lt128 hw.2.1 hn
  refine has_yes hu.1 hn ha (n_t (by decide) ?_)
  rw [wu.2.2.1]
  cases hb : (wH w).testBit a
  · refine hb_no hn7 ha7 hb (b_t rfl ?_)
    have hW : WdOk c (endW c 7 8 w 7 0) := endW_H hc (Nat.le_refl _) 8 _ 7 0 hw (chO.none c _).ok (by omega)
    have hH7 : wH (endW c 7 8 w 7 0) < 128 := lt128 hW.2.1 hn
    have hW2 : WdOk c (endW c a 8 w 7 0) := endW_H hc (by omega) 8 _ 7 0 hw (chO.none c _).ok (by omega)
    have hH72 : wH (endW c a 8 w 7 0) < 128 := lt128 hW2.2.1 hn
    refine trial_c wu (fun u2 r2 w2 => goOn_c (x := 7) (st := 0) (z := 7) hN hc (hu.same (fun a h1 h2 => r2 a (by omega) (by omega) (by omega))) hw w2 (chO.none c _) (Nat.le_refl _) (by omega) (fun u4 r4 w4 => ?_))
    rw [w4.2.2.1, shl_val a ha7, wo_val _ hH7 _ (pow_lt ha7)]
    refine bc_val (wo_lt hH7) ?_
    have fu : ∀ a, a ≠ 3 → a ≠ 7 → a ≠ 8 → a ≠ 9 → u4 a = u a := fun a h3 h7 h8 h9 => (r4 a h3 h7 h8 h9).trans (r2 a h7 h8 h9)
    have wu4 : WdU u4 27 w := wu.same (fu _ (by omega) (by omega) (by omega) (by omega)) (fu _ (by omega) (by omega) (by omega) (by omega)) (fu _ (by omega) (by omega) (by omega) (by omega))
    have eoi : oi a = nI a := by unfold oi; rw [if_neg (by omega)]
    refine trial_c wu4 (fun u5 r5 w5 => ?_)
    rw [← eoi]
    refine goOn_c (x := 7) (st := 0) (z := a) hN hc (hu.same (fun b h1 h2 => by rw [r5 b (by omega) (by omega) (by omega)]; exact fu b (by omega) (by omega) (by omega) (by omega))) hw w5 (chO.none c _) (by omega) (by omega) (fun u6 r6 w6 => ?_)
    rw [w6.2.2.1, eoi]
    refine bc_val hH72 ?_
    refine per_yes hv.1 hn ha (n_t (by decide) (hh_no wv.2.2.1 hn7 ha7 hb (b_t rfl ?_)))
    refine oth_m (z := 7) hN hc hv hw wv hD ha (Nat.le_refl _) h16 h17 (fun v8 t8 s8 e8 => ?_)
    intro v9 e9
    have s9 : v9 1 = v 1 := by rw [upu e9 (by decide)]; exact s8
    refine oth_m (z := a) hN hc (by rw [s9]; exact hv) hw (by rw [s9]; exact wv) hD ha (by omega) (by rw [eoi]; exact upx e9) (by rw [e9, up_j (by omega)]; exact e8) (fun v11 t11 s11 e11 => ?_)
    intro v12 e12
    refine ⟨?_, rel_try h (fun b h1 h3 h7 h8 h9 => by rw [r6 b h3 h7 h8 h9, r5 b h7 h8 h9]; exact fu b h3 h7 h8 h9) (v' := v12) ⟨fun b p0 p1 p3 p4 p5 p6 p7 => ?_, fun j hj => ?_, fun j hj => ?_, fun j hj => ?_⟩ ?_ ?_⟩
    · rw [wo_no _ hH72 a ha7 (end_vain hc ha 8 w 7 0 hw (chO.none c _).ok (by omega) hb)]
    · rw [upu e12 p0, t11.1 b p0 p1 p3 p4 p5 p6 p7, upu e9 p0, t8.1 b p0 p1 p3 p4 p5 p6 p7]
    · rcases hj with rfl | rfl | rfl
      · rw [e12, up_j (by omega), t11.2.1 4 (by omega), e9, up_j (by omega), t8.2.1 4 (by omega)]
      · exact (upx e12).trans h16.symm
      · rw [e12, up_j (by omega), t11.2.1 23 (by omega), e9, up_j (by omega), t8.2.1 23 (by omega)]
    · rw [upu e12 (by decide), t11.2.2.1 j hj, s9]
    · rw [upu e12 (by decide), s11, s9]
    · rw [upu e12 (by decide), s11, s9]
    · rw [e12, up_j (by omega)]; exact e11
  · exact hb_yes hn7 ha7 hb (b_f (by decide) (per_yes hv.1 hn ha (n_t (by decide) (hh_yes wv.2.2.1 hn7 ha7 hb (b_f (by decide) ⟨rfl, h⟩)))))
