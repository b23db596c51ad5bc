def cod (c : Cl) : Int := if c.1 = 0 then -10 else -200 - (c.2.1 : Int)
theorem flat_cons (c : Cl) (Q : List Cl) : flat (c :: Q) = c.2.2 ++ (cod c :: flat Q) := by
  unfold flat cod
  rw [List.flatMap_cons, List.append_assoc]
  rfl
theorem lk_end (N : Nat) (f : Nat → Nat) (K : MM → Prop) (B L i g : Nat) (c : Cl) (v : MM) (sh b : Bool) (acc : Nat) (hBL : B + L ≤ 944) (hi : i < B + L) (hc : (c.1 = 0 ∧ c.2.1 = 1) ∨ c.1 = 1) (ha : c.2.1 < 100) (hv : v 1 i = Int32.ofInt (cod c)) (h5 : v 5 0 = nI (bn b)) (h12 : v 0 12 = nI (bn sh)) (h13 : v 0 13 = nI acc) (k : ∀ v' : MM, fR v v' → v' 0 12 = nI (bn (sh || (decide (c.1 = 0) && b))) → v' 0 13 = nI (acc + (if c.1 = 1 ∧ b = true then c.2.1 else 0)) → wX11_looks_b114 N K g (nI L) (nI B) 0 (nI (i + 1)) v') : wX11_looks_b114 N K (g + 1) (nI L) (nI B) (nI 1) (nI i) v := by
  refine b_f (by rw [nI_add]; exact nI_ge (by omega) (by omega)) ⟨vp_in_nI (by omega) (by omega), ?_⟩
  rw [nI_clamp (by omega), hv]
  intro y15 e15
  have ey : y15 < 0 ∧ y15 ≠ -1 ∧ y15 ≤ -10 ∧ (c.1 = 0 → y15 = -10 ∧ (-200 : Int32) < y15) ∧ (c.1 = 1 → y15 ≠ -10 ∧ ¬ (-200 : Int32) < y15 ∧ (-200 : Int32) - y15 = nI c.2.1) := by
    unfold cod at e15
    rcases hc with ⟨hc, -⟩ | hc
    · rw [if_pos hc] at e15
      subst e15
      refine ⟨by decide, by decide, by decide, fun _ => by decide, fun z => by omega⟩
    · rw [if_neg (by omega)] at e15
      obtain ⟨z1, z2, z3, z4, z5, z6⟩ := amts c.2.1 ha
      subst e15
      exact ⟨z1, z2, z3, fun z => by omega, fun _ => ⟨z4, z5, z6⟩⟩
  obtain ⟨n1, n2, n3, n4, n5⟩ := ey
  -- the new flag
  have stp2 : ∀ s0 : Int32, bz s0 → s0 = nI (bn (sh || (decide (c.1 = 0) && b))) → wX11_looks_b384 N K (wX11_looks_b114 N K g) (nI L) (nI B) 0 (nI i) y15 s0 v := by
    intro s0 hb e0
    refine ⟨hb, fun v2 f2 => ?_⟩
    have z5 : v2 5 0 = nI (bn b) := by rw [upu f2 (by omega)]; exact h5
    have z13 : v2 0 13 = nI acc := by rw [f2, up_j (by omega)]; exact h13
    have z12 : v2 0 12 = nI (bn (sh || (decide (c.1 = 0) && b))) := by rw [upx f2]; exact e0
    rw [z5, z13]
    have fr2 : fR v v2 := ⟨fun a x y => upu f2 x, fun j x y => by rw [f2, up_j x]⟩
    have fin : ∀ (s0 : Int32) (m : Nat), s0 = nI m → (if c.1 = 1 ∧ b = true then c.2.1 else 0) = m → wX11_looks_b419 N K (wX11_looks_b114 N K g) (nI L) (nI B) 0 (nI i) s0 (nI acc) v2 := by
      intro s0 m e0 em v3 f3 y39 e39
      rw [e0, nI_add] at f3
      rw [i_one] at e39
      subst e39
      refine k v3 (fr2.tr ⟨fun a x y => upu f3 x, fun j x y => by rw [f3, up_j y]⟩) (by rw [f3, up_j (by omega)]; exact z12) (by rw [upx f3, em])
    cases b
    · exact b_t rfl (fin 0 0 rfl (by simp))
    · refine b_f (by decide) ?_
      rcases hc with ⟨hc, -⟩ | hc
      · exact b_t (n4 hc).2 (fin 0 0 rfl (by rw [if_neg (by omega)]))
      · exact b_f (n5 hc).2.1 (fin _ c.2.1 (n5 hc).2.2 (by rw [if_pos ⟨hc, rfl⟩]))
  refine b_t n1 (n_t n2 (b_t n3 ?_))
  rw [h12, h5]
  cases sh
  · refine n_f rfl ?_
    cases b
    · exact b_t rfl (stp2 0 bz0 (by simp; rfl))
    · refine b_f (by decide) ?_
      rcases hc with ⟨hc, -⟩ | hc
      · exact n_f (n4 hc).1 (stp2 1 bz1 (by rw [hc]; rfl))
      · exact n_t (n5 hc).1 (stp2 0 bz0 (by rw [hc]; rfl))
  · exact n_t (by decide) (stp2 1 bz1 rfl)
theorem lk_cl (N : Nat) (f : Nat → Nat) (K : MM → Prop) (B L : Nat) (hBL : B + L ≤ 944) : ∀ (Q : List Cl) (i fl acc : Nat) (sh : Bool) (v : MM), WF Q → (∀ (j : Nat) (x : Int), (flat Q)[j]? = some x → v 1 (i + j) = Int32.ofInt x) → i + (flat Q).length = B + L → (flat Q).length < fl → (∀ w, w < 5 → v 4 w = nI (f w) ∧ f w < 10) → v 0 12 = nI (bn sh) → v 0 13 = nI acc → (∀ v' : MM, fR v v' → v' 0 12 = nI (bn (sh || shn f Q)) → v' 0 13 = nI (acc + wgh 1 f Q) → K v') → wX11_looks_b114 N K fl (nI L) (nI B) 0 (nI i) v := by
  intro Q
  induction Q with
  | nil =>
    intro i fl acc sh v hW hv hi hfl hf h12 h13 k
    have e0 : (flat []).length = 0 := rfl
    rw [e0] at hi hfl
    obtain ⟨g, rfl⟩ : ∃ g, fl = g + 1 := ⟨fl - 1, by omega⟩
    exact b_t (by rw [nI_add]; exact nI_le (by omega) (by omega)) (k v (fR.rf v) (by rw [shn, Bool.or_false]; exact h12) (by rw [wgh, Nat.add_zero]; exact h13))
  | cons c Q ih =>
    intro i fl acc sh v hW hv hi hfl hf h12 h13 k
    obtain ⟨w1, w2, w3, w4⟩ := hW c List.mem_cons_self
    rw [flat_cons] at hv hi hfl
    rw [List.length_append, List.length_cons] at hi hfl
    refine lk_st N f K B L hBL c.2.2 i [] fl v (fun j x hj => hv j x ?_) w3 (by omega) (by omega) hf w4 (by simp) trivial (fun v2 g hg h5 fr2 => ?_)
    · rw [List.getElem?_append_left (List.getElem?_eq_some_iff.mp hj).1]; exact hj
    obtain ⟨g, rfl⟩ : ∃ k, g = k + 1 := ⟨g - 1, by omega⟩
    refine lk_end N f K B L (i + c.2.2.length) g c v2 sh (hld f c) acc hBL (by omega) w1 w2 ?_ h5 (by rw [fr2 0 (by omega)]; exact h12) (by rw [fr2 0 (by omega)]; exact h13) (fun v3 fr3 z12 z13 => ?_)
    · rw [fr2 1 (by omega)]
      refine hv c.2.2.length (cod c) ?_
      rw [List.getElem?_append_right (Nat.le_refl _), Nat.sub_self]
      rfl
    have f23 : fR v v2 := ⟨fun a x y => fr2 a y, fun j x y => by rw [fr2 0 (by omega)]⟩
    refine ih (i + c.2.2.length + 1) g _ _ v3 (fun d hd => hW d (List.mem_cons_of_mem _ hd)) (fun j x hj => ?_) (by omega) (by omega) (fun w hw => by rw [fr3.1 4 (by omega) (by omega), fr2 4 (by omega)]; exact hf w hw) z12 z13 (fun v4 fr4 y12 y13 => k v4 ((f23.tr fr3).tr fr4) ?_ ?_)
    · rw [fr3.1 1 (by omega) (by omega), fr2 1 (by omega), show i + c.2.2.length + 1 + j = i + (c.2.2.length + 1 + j) from by omega]
      refine hv _ x ?_
      rw [List.getElem?_append_right (by omega), show c.2.2.length + 1 + j - c.2.2.length = j + 1 from by omega, List.getElem?_cons_succ]
      exact hj
    · rw [y12, shn, Bool.or_assoc]
    · rw [y13, wgh, Nat.add_assoc]
/-! the town, the people, the word: as numbers -/
abbrev Cx : Type := (Nat × Nat × Nat × List Cl) × (Nat → Nat) × (Nat → Nat) × (Nat → Nat) × (Nat → Nat) × (Nat → Nat)
def cN (c : Cx) : Nat := c.1.1
def cF (c : Cx) : Nat := c.1.2.1
def cL_ (c : Cx) : Nat := c.1.2.2.1
def cP (c : Cx) : List Cl := c.1.2.2.2
def cK (c : Cx) : Nat → Nat := c.2.1
def cV (c : Cx) : Nat → Nat := c.2.2.1
def cB (c : Cx) : Nat → Nat := c.2.2.2.1
def cZ (c : Cx) : Nat → Nat := c.2.2.2.2.1
def cR (c : Cx) : Nat → Nat := c.2.2.2.2.2
abbrev Wd : Type := (Nat × Int32 × Nat × Nat) × (Nat → Nat) × (Nat → Int32)
def wD (w : Wd) : Nat := w.1.1
def wF (w : Wd) : Int32 := w.1.2.1
def wH (w : Wd) : Nat := w.1.2.2.1
def wT (w : Wd) : Nat := w.1.2.2.2
def wN (w : Wd) : Nat → Nat := w.2.1
def wY (w : Wd) : Nat → Int32 := w.2.2
def CxOk (c : Cx) : Prop := cN c ≤ 7 ∧ (∀ p, p < 7 → cK c p < 7 ∧ cV c p < 10 ∧ cB c p < 128 ∧ cZ c p ≤ 7 ∧ (cK c p ≠ 6 → cZ c p = 0)) ∧ (∀ k, k < 49 → cR c k < 7) ∧ cF c < 100 ∧ cL_ c < 100 ∧ WF (cP c) ∧ (cP c).length ≤ 10
def CxU (u : MM) (c : Cx) : Prop := u 21 0 = nI (cN c) ∧ (∀ p, p < 7 → u 22 p = nI (cK c p) ∧ u 23 p = nI (cV c p) ∧ u 24 p = nI (cB c p) ∧ u 25 p = nI (cZ c p)) ∧ (∀ k, k < 49 → u 26 k = nI (cR c k)) ∧ u 13 0 = nI (cF c) ∧ u 13 1 = nI (cL_ c % 2) ∧ CP u 10 (cP c)
def CxV (s : Nat → Int32) (c : Cx) : Prop := s 18 = nI (cN c) ∧ (∀ p, p < 7 → s (24 + p) = nI (cK c p) ∧ s (31 + p) = nI (cV c p) ∧ s (38 + p) = nI (cB c p) ∧ s (45 + p) = nI (cZ c p)) ∧ (∀ k, k < 49 → s (52 + k) = nI (cR c k)) ∧ TS s (cF c) (cL_ c) (cP c)
def WdOk (c : Cx) (w : Wd) : Prop := wD w < 2000 ∧ wH w < 2 ^ cN c ∧ wT w < 2 ^ cN c ∧ ∀ p, p < 7 → (wH w).testBit p = true → wN w p < 10
def WdU (u : MM) (o : Nat) (w : Wd) : Prop := u o 0 = nI (wD w) ∧ u o 1 = wF w ∧ u o 2 = nI (wH w) ∧ u o 3 = nI (wT w) ∧ ∀ p, p < 7 → (wH w).testBit p = true → u (o + 1) p = nI (wN w p) ∧ u (o + 2) p = wY w p
def WdV (s : Nat → Int32) (w : Wd) : Prop := s 0 = nI (wD w) ∧ s 1 = wF w ∧ s 2 = nI (wH w) ∧ s 3 = nI (wT w) ∧ ∀ p, p < 7 → (wH w).testBit p = true → s (4 + p) = nI (wN w p) ∧ s (11 + p) = wY w p
theorem CxU.same {u u' : MM} {c : Cx} (h : CxU u c) (hu : ∀ k, 13 ≤ k → k < 27 → u' k = u k) : CxU u' c := by
  obtain ⟨h1, h2, h3, h4, h5, h6⟩ := h
  refine ⟨by rw [hu 21 (by omega) (by omega)]; exact h1, fun p hp => ?_, fun k hk => by rw [hu 26 (by omega) (by omega)]; exact h3 k hk, by rw [hu 13 (by omega) (by omega)]; exact h4, by rw [hu 13 (by omega) (by omega)]; exact h5, h6.rows (fun k a b => hu k (by omega) (by omega))⟩
  rw [hu 22 (by omega) (by omega), hu 23 (by omega) (by omega), hu 24 (by omega) (by omega), hu 25 (by omega) (by omega)]
  exact h2 p hp
theorem TS.same {s s' : Nat → Int32} {fw lw : Nat} {P : List Cl} (h : TS s fw lw P) (hs : ∀ j, 18 ≤ j → s' j = s j) : TS s' fw lw P := by
  rcases h with ⟨a, b⟩ | ⟨hh, tw, g1, g2, g3, g4, g5, g6, g7, g8, g9⟩
  · exact Or.inl ⟨by rw [hs 23 (by omega)]; exact a, b⟩
  · exact Or.inr ⟨hh, tw, g1, g2, by rw [hs 19 (by omega)]; exact g3, by rw [hs 23 (by omega)]; exact g4, by rw [hs _ (by omega)]; exact g5, by rw [hs _ (by omega)]; exact g6, by rw [hs _ (by omega)]; exact g7, g8, fun i x hx => by rw [hs _ (by omega)]; exact g9 i x hx⟩
theorem CxV.same {s s' : Nat → Int32} {c : Cx} (h : CxV s c) (hs : ∀ j, 18 ≤ j → s' j = s j) : CxV s' c := by
  obtain ⟨h1, h2, h3, h4⟩ := h
  refine ⟨by rw [hs 18 (by omega)]; exact h1, fun p hp => ?_, fun k hk => by rw [hs _ (by omega)]; exact h3 k hk, h4.same hs⟩
  rw [hs _ (by omega), hs _ (by omega), hs _ (by omega), hs _ (by omega)]
  exact h2 p hp
theorem WdU.same {u u' : MM} {o : Nat} {w : Wd} (h : WdU u o w) (h0 : u' o = u o) (h1 : u' (o + 1) = u (o + 1)) (h2 : u' (o + 2) = u (o + 2)) : WdU u' o w := by
  unfold WdU at h ⊢
  rw [h0, h1, h2]
  exact h
/-- the facts of one who would tell another one -/
def fct (c : Cx) (w : Wd) (one other : Nat) (k : Nat) : Nat := if k = 0 then one else if k = 1 then other else if k = 2 then cK c one else if k = 3 then (if (wH w).testBit one = true then wN w one else 9) else wD w % 7
theorem fct_lt {c : Cx} {w : Wd} {one other : Nat} (hc : CxOk c) (hw : WdOk c w) (h1 : one < 7) (h2 : other < 10) (k : Nat) : fct c w one other k < 10 := by
  have := (hc.2.1 one h1).1
  have h9 := hw.2.2.2 one h1
  unfold fct
  split
  · omega
  · split
    · omega
    · split
      · omega
      · split
        · split
          · rename_i hb; exact h9 hb
          · omega
        · omega
theorem setF_c {N o : Nat} {c : Cx} {w : Wd} {one other : Nat} {u : MM} {K : MM → Prop} (hc : CxOk c) (hu : CxU u c) (hw : WdOk c w) (wu : WdU u o w) (ho : 7 ≤ o) (h1 : one < 7) (h2 : other < 10) (k : ∀ u' : MM, (∀ a, a ≠ 3 → u' a = u a) → (∀ j, j < 5 → u' 3 j = nI (fct c w one other j) ∧ fct c w one other j < 10) → K u') : wX7_setFacts N o (nI one) (nI other) u K := by
  intro u1 e1 u2 e2
  refine ⟨vp7 h1, ?_⟩
  rw [cl7 (by omega)]
  intro u3 e3
  have r3 : ∀ a, a ≠ 3 → u3 a = u a := fun a ha => by rw [upu e3 ha, upu e2 ha, upu e1 ha]
  rw [r3 o (by omega), r3 (o + 1) (by omega), wu.2.2.1]
  have hn7 : wH w < 128 := lt128 hw.2.1 hc.1
  have fin : ∀ (num : Nat), num = (if (wH w).testBit one = true then wN w one else 9) → wX7_setFacts_b59 N K o (nI num) 3 u3 := by
    intro num en
    refine ⟨vp_in_nI (n := 3) (by omega) (by omega), fun u6 e6 u7 e7 => ?_⟩
    rw [show ((3 : Int32)).toNatClampNeg = 3 from nI_clamp (n := 3) (by omega)] at e6
    have dt : u6 o 0 = nI (wD w) := by rw [upu e6 (by omega), r3 o (by omega)]; exact wu.1
    have hd2 := hw.1
    rw [dt, show (7 : Int32) = nI 7 from rfl, pk_rem (by omega) (by omega) (by omega)] at e7
    refine k u7 (fun a ha => by rw [upu e7 ha, upu e6 ha]; exact r3 a ha) (fun j hj => ⟨?_, fct_lt hc hw h1 h2 j⟩)
    have hj5 : j = 0 ∨ j = 1 ∨ j = 2 ∨ j = 3 ∨ j = 4 := by omega
    rcases hj5 with rfl | rfl | rfl | rfl | rfl
    · rw [e7, up_j (by omega), e6, up_j (by omega), e3, up_j (by omega), e2, up_j (by omega)]; exact upx e1
    · rw [e7, up_j (by omega), e6, up_j (by omega), e3, up_j (by omega)]; exact upx e2
    · rw [e7, up_j (by omega), e6, up_j (by omega), upx e3, upu e2 (by omega), upu e1 (by omega)]
      exact (hu.2.1 one h1).1
    · rw [e7, up_j (by omega), upx e6, en]; rfl
    · exact upx e7
  cases hb : (wH w).testBit one
  · exact hb_no hn7 h1 hb (b_t rfl (fin 9 (by rw [hb]; rfl)))
  · refine hb_yes hn7 h1 hb (b_f (by decide) ⟨vp7 h1, ?_⟩)
    rw [(wu.2.2.2.2 one h1 hb).1]
    exact fin _ (by rw [hb, if_pos rfl])
/-- what the readers of the reference leave -/
def mR (v v' : MM) : Prop := (∀ a, a ≠ 0 → a ≠ 4 → a ≠ 5 → v' a = v a) ∧ ∀ j, j ≠ 12 → j ≠ 13 → v' 0 j = v 0 j
theorem mR.rf (v : MM) : mR v v := ⟨fun _ _ _ _ => rfl, fun _ _ _ => rfl⟩
theorem mR.tr {a b c : MM} (h : mR a b) (h2 : mR b c) : mR a c := ⟨fun k x y z => (h2.1 k x y z).trans (h.1 k x y z), fun j x y => (h2.2 j x y).trans (h.2 j x y)⟩
theorem looks_m {N : Nat} {c : Cx} {w : Wd} {one other : Nat} {v : MM} {K : MM → Prop} (hN : 200 ≤ N) (hc : CxOk c) (hv : CxV (v 1) c) (hw : WdOk c w) (wv : WdV (v 1) w) (h1 : one < 7) (h2 : other < 10) (k : ∀ v' : MM, mR v v' → v' 0 12 = nI (bn (shn (fct c w one other) (cP c))) → v' 0 13 = nI (wgh 1 (fct c w one other) (cP c)) → K v') : wX11_looks N (nI one) (nI other) v K := by
  intro v1 e1 v2 e2
  have hn7 : wH w < 128 := lt128 hw.2.1 hc.1
  have r2 : ∀ a, a ≠ 4 → v2 a = v a := fun a ha => by rw [upu e2 ha, upu e1 ha]
  rw [i24, nI_clamp (by omega), r2 1 (by omega), (hv.2.1 one h1).1]
  refine ⟨vp_in_nI (by omega) (by omega), fun v3 e3 => ?_⟩
  have r3 : ∀ a, a ≠ 4 → v3 a = v a := fun a ha => by rw [upu e3 ha]; exact r2 a ha
  have fin : ∀ (num : Nat), num = (if (wH w).testBit one = true then wN w one else 9) → wX11_looks_b55 N K (nI num) 3 v3 := by
    intro num en
    refine ⟨vp_in_nI (n := 3) (by omega) (by omega), fun v6 e6 v7 e7 v8 e8 v9 e9 => ?_⟩
    rw [show ((3 : Int32)).toNatClampNeg = 3 from nI_clamp (n := 3) (by omega)] at e6
    have dt : v6 1 0 = nI (wD w) := by rw [upu e6 (by omega), r3 1 (by omega)]; exact wv.1
    have hd2 := hw.1
    rw [dt, show (7 : Int32) = nI 7 from rfl, pk_rem (by omega) (by omega) (by omega)] at e7
    have r9 : ∀ a, a ≠ 0 → a ≠ 4 → v9 a = v a := fun a h0 h4 => by rw [upu e9 h0, upu e8 h0, upu e7 h4, upu e6 h4]; exact r3 a h4
    have z0 : ∀ j, j ≠ 12 → j ≠ 13 → v9 0 j = v 0 j := fun j ha hb => by rw [e9, up_j hb, e8, up_j ha, upu e7 (by omega), upu e6 (by omega), r3 0 (by omega)]
    have m9 : mR v v9 := ⟨fun a h0 h4 _ => r9 a h0 h4, z0⟩
    have z12 : v9 0 12 = nI (bn false) := by rw [e9, up_j (by omega)]; exact upx e8
    have z13 : v9 0 13 = nI 0 := upx e9
    have hF : ∀ j, j < 5 → v9 4 j = nI (fct c w one other j) ∧ fct c w one other j < 10 := by
      intro j hj
      refine ⟨?_, fct_lt hc hw h1 h2 j⟩
      rw [upu e9 (by omega), upu e8 (by omega)]
      have hj5 : j = 0 ∨ j = 1 ∨ j = 2 ∨ j = 3 ∨ j = 4 := by omega
      rcases hj5 with rfl | rfl | rfl | rfl | rfl
      · rw [e7, up_j (by omega), e6, up_j (by omega), e3, up_j (by omega), e2, up_j (by omega)]; exact upx e1
      · rw [e7, up_j (by omega), e6, up_j (by omega), e3, up_j (by omega)]; exact upx e2
      · rw [e7, up_j (by omega), e6, up_j (by omega)]; exact upx e3
      · rw [e7, up_j (by omega), upx e6, en]; rfl
      · exact upx e7
    have q23 : v9 1 = v 1 := r9 1 (by omega) (by omega)
    have last : ∀ v' : MM, fR v9 v' → v' 0 12 = nI (bn (false || shn (fct c w one other) (cP c))) → v' 0 13 = nI (0 + wgh 1 (fct c w one other) (cP c)) → K v' := fun v' fr a b => k v' (m9.tr ⟨fun a x _ y => fr.1 a x y, fr.2⟩) (by rw [Bool.false_or] at a; exact a) (by rw [Nat.zero_add] at b; exact b)
    obtain ⟨-, -, -, -, -, hWF, -⟩ := hc
    rcases hv.2.2.2 with ⟨a, b, d, e⟩ | ⟨hh, tw, t1, t2, t3, t4, t5, t6, t7, t8, t9⟩
    · refine n_f (by rw [q23]; exact a) (fun y13 e13 => ?_)
      rw [q23, a] at e13
      have e13' : y13 = nI 104 := e13.trans (by decide)
      subst e13'
      rw [e] at last
      refine lk_cl N (fct c w one other) K 104 0 (by omega) [] 104 N 0 false v9 (fun x hx => absurd hx List.not_mem_nil) (fun j x hj => by simp [flat] at hj) rfl (show 0 < N by omega) hF z12 z13 last
    · refine n_t (by rw [q23, t4]; exact nI_m1 (by omega)) ?_
      rw [q23, t4, i239, nI_clamp (by omega), t7]
      refine ⟨vp_in_nI (by omega) (by omega), fun y13 e13 => ?_⟩
      rw [q23, t4, show (140 : Int32) = nI 140 from rfl, pk_mul, i244] at e13
      subst e13
      refine lk_cl N (fct c w one other) K (244 + 140 * hh) (flat (cP c)).length (by omega) (cP c) (244 + 140 * hh) N 0 false v9 hWF (fun j x hj => by rw [q23]; exact t9 j x hj) rfl (by omega) hF z12 z13 last
  cases hb : (wH w).testBit one
  · refine hh_no (by rw [r3 1 (by omega)]; exact wv.2.2.1) hn7 h1 hb (b_t rfl (fin 9 (by rw [hb]; rfl)))
  · refine hh_yes (by rw [r3 1 (by omega)]; exact wv.2.2.1) hn7 h1 hb (b_f (by decide) ?_)
    rw [i4, nI_clamp (by omega), r3 1 (by omega), (wv.2.2.2.2 one h1 hb).1]
    exact ⟨vp_in_nI (by omega) (by omega), fin _ (by rw [hb, if_pos rfl])⟩
