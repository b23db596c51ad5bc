/-! the class reads E -/
def preC (u : MM) (T : Tp) (P : List Cl) (kd am : Nat) (zs : List Int) (p : Nat) : Prop := TC u T ∧ u 6 2 = nI p ∧ CQ u (P ++ [(kd, am, zs)]) ∧ tot P + zs.length ≤ p ∧ p ≤ T.2
def kC (u : MM) (P : List Cl) (kd am : Nat) (zs : List Int) (q : Rs) (K : Int32 → MM → Prop) : Prop := ∀ u' : MM, fC u u' → u' 6 2 = nI q.2.1 → (q.1 = true → CQ u' (P ++ [(kd, am, zs ++ q.2.2)])) → K (nI (bn q.1)) u'
theorem fac_c {N s : Nat} {u : MM} {K : Int32 → MM → Prop} (hs : s ≤ 128) (k : K (if fac s = 5 then -1 else nI (fac s)) u) : wX3_factOf N (oz s) u K := by
  have e : ∀ c, c < 128 → (oz s = nI c ↔ s = c) := fun c hc => oz_eq hs hc
  unfold wX3_factOf
  by_cases h0 : s = 100
  · subst h0; exact b_t ((e 100 (by omega)).mpr rfl) k
  refine b_f (fun y => h0 ((e 100 (by omega)).mp y)) ?_
  by_cases h1 : s = 101
  · subst h1; exact b_t ((e 101 (by omega)).mpr rfl) k
  refine b_f (fun y => h1 ((e 101 (by omega)).mp y)) ?_
  by_cases h2 : s = 102
  · subst h2; exact b_t ((e 102 (by omega)).mpr rfl) k
  refine b_f (fun y => h2 ((e 102 (by omega)).mp y)) ?_
  by_cases h3 : s = 103
  · subst h3; exact b_t ((e 103 (by omega)).mpr rfl) k
  refine b_f (fun y => h3 ((e 103 (by omega)).mp y)) ?_
  by_cases h4 : s = 104
  · subst h4; exact b_t ((e 104 (by omega)).mpr rfl) k
  refine b_f (fun y => h4 ((e 104 (by omega)).mp y)) ?_
  by_cases h5 : s = 105
  · subst h5; exact b_t ((e 105 (by omega)).mpr rfl) k
  refine b_f (fun y => h5 ((e 105 (by omega)).mp y)) ?_
  by_cases h6 : s = 106
  · subst h6; exact b_t ((e 106 (by omega)).mpr rfl) k
  refine b_f (fun y => h6 ((e 106 (by omega)).mp y)) ?_
  by_cases h7 : s = 107
  · subst h7; exact b_t ((e 107 (by omega)).mpr rfl) k
  refine b_f (fun y => h7 ((e 107 (by omega)).mp y)) ?_
  by_cases h8 : s = 108
  · subst h8; exact b_t ((e 108 (by omega)).mpr rfl) k
  refine b_f (fun y => h8 ((e 108 (by omega)).mp y)) ?_
  by_cases h9 : s = 109
  · subst h9; exact b_t ((e 109 (by omega)).mpr rfl) k
  refine b_f (fun y => h9 ((e 109 (by omega)).mp y)) ?_
  by_cases h10 : s = 110
  · subst h10; exact b_t ((e 110 (by omega)).mpr rfl) k
  refine b_f (fun y => h10 ((e 110 (by omega)).mp y)) ?_
  by_cases h11 : s = 111
  · subst h11; exact b_t ((e 111 (by omega)).mpr rfl) k
  refine b_f (fun y => h11 ((e 111 (by omega)).mp y)) ?_
  by_cases h12 : s = 112
  · subst h12; exact b_t ((e 112 (by omega)).mpr rfl) k
  refine b_f (fun y => h12 ((e 112 (by omega)).mp y)) ?_
  have : fac s = 5 := by unfold fac; rw [if_neg h12, if_neg h11, if_neg h7, if_neg h10, if_neg h0]
  rw [if_pos this] at k
  exact k
theorem stC_n {w : MM} {i f h v : Nat} (hf : f < 5) (hh : h < 3) (hv : v < 100) (h8 : w 69 i = nI f) (h0 : h = 0 → w 70 i = 0 ∧ w 71 i = nI v - 1) (h1 : h = 1 → w 70 i = nI v ∧ w 71 i = nI v) (h2 : h = 2 → w 70 i = nI v + 1 ∧ w 71 i = 99) : stC w 61 i (stpN f h v) := by
  have t0 : (stpN f h v).toNat = f + 8 * h + 32 * v := by unfold stpN; omega
  have tw : (stpN f h v).toNat % 8 = f := by omega
  have th : (stpN f h v).toNat / 8 % 4 = h := by omega
  have tv : (stpN f h v).toNat / 32 = v := by omega
  unfold stC
  rw [if_neg (by unfold stpN; omega), tw, th, tv]
  refine ⟨h8, ?_⟩
  obtain rfl | rfl | rfl : h = 0 ∨ h = 1 ∨ h = 2 := by omega
  · rw [if_pos rfl]; exact h0 rfl
  · rw [if_neg (by decide), if_pos rfl]; exact h1 rfl
  · rw [if_neg (by decide), if_neg (by decide)]; exact h2 rfl
theorem test_c {N kd am p : Nat} {T : Tp} {P : List Cl} {zs : List Int} {u : MM} {K : Int32 → MM → Prop} (hT : TpOk T) (h : preC u T P kd am zs p) (k : kC u P kd am zs (pT T p) K) : wX3_readTest N u K := by
  obtain ⟨hc, h2, hq, htot, hp⟩ := h
  have ht := hT.1
  have s1 := sg_le hT p
  have s2 := sg_le hT (p + 1)
  unfold wX3_readTest
  rw [h2]
  refine at_c hc hT (by omega) (fac_c s1 ?_)
  unfold pT at k
  by_cases h5 : fac (sg T p) = 5
  · rw [if_pos h5] at k ⊢
    exact n_f rfl (k u (fC.rf u) h2 (fun z => by cases z))
  rw [if_neg h5] at k ⊢
  have f1 := fac_le (sg T p)
  have i1 : p < T.2 := sg_in (fac_in h5)
  refine n_t (nI_m1 (by omega)) (fun u6 e6 => ?_)
  rw [h2, i_one] at e6
  have g6 := f6.up e6 (Or.inl rfl)
  have x2 : u6 6 2 = nI (p + 1) := upx e6
  have hc6 := hc.c g6.c
  rw [x2]
  refine at_c hc6 hT (by omega) ?_
  have e : ∀ c, c < 128 → (oz (sg T (p + 1)) = nI c ↔ sg T (p + 1) = c) := fun c hc => oz_eq s2 hc
  by_cases h3 : hw_ (sg T (p + 1)) = 3
  · rw [if_pos h3] at k
    have ne : sg T (p + 1) ≠ 60 ∧ sg T (p + 1) ≠ 61 ∧ sg T (p + 1) ≠ 62 := by
      refine ⟨fun z => ?_, fun z => ?_, fun z => ?_⟩ <;> (rw [z] at h3; revert h3; decide)
    exact b_f (fun y => ne.1 ((e 60 (by omega)).mp y)) (b_f (fun y => ne.2.1 ((e 61 (by omega)).mp y)) (b_f (fun y => ne.2.2 ((e 62 (by omega)).mp y)) (k u6 g6.c x2 (fun z => by cases z))))
  rw [if_neg h3] at k
  have i2 : p + 1 < T.2 := sg_in (hw_in h3)
  have hN := pN_ok (T := T) (p := p + 2) (by omega)
  have main : ∀ s : Nat, sg T (p + 1) = s → (s = 60 ∨ s = 61 ∨ s = 62) → wX3_readTest_b65 N K (nI (fac (sg T p))) (oz (sg T (p + 1))) u6 := by
    intro s es hs u12 e12
    rw [x2, i_one] at e12
    have g12 := g6.tr (f6.up e12 (Or.inl rfl))
    have y2 : u12 6 2 = nI (p + 2) := upx e12
    refine num_c (hc.c g12.c) hT y2 (by omega) (fun u14 g14 z2 z3 => ?_)
    have g := g12.tr g14
    cases hb : (pN T (p + 2)).1
    · rw [hb, if_neg (by decide)] at k
      exact n_f rfl (k u14 g.c z2 (fun z => by cases z))
    · rw [hb, if_pos rfl] at k
      have v3 := z3 hb
      have q14 := hq.f6 g
      have tl : tot (P ++ [(kd, am, zs)]) < 100 := by
        rw [tot_last]
        show tot P + zs.length < 100
        omega
      have ee : ∀ c, c < 128 → (oz (sg T (p + 1)) = nI c ↔ s = c) := fun c hc => by rw [← es]; exact e c hc
      have fin : ∀ u' : MM, fC u14 u' → u' 6 = u14 6 → CQ u' (P ++ [(kd, am, zs ++ [stpN (fac (sg T p)) (hw_ (sg T (p + 1))) (pN T (p + 2)).2.2])]) → K 1 u' := fun u' gg g6' cq => k u' (g.c.tr gg) (by rw [g6']; exact z2) (fun _ => cq)
      refine n_t (by decide) ?_
      rw [v3]
      rcases hs with rfl | rfl | rfl
      · refine n_f ((ee 60 (by omega)).mpr rfl) (step_c q14 tl (fun w i a b d => ?_) fin)
        rw [es]
        exact stC_n (by omega) (by decide) hN.2.2.1 a (fun _ => ⟨b, d⟩) (fun z => absurd z (by decide)) (fun z => absurd z (by decide))
      · refine n_t (fun y => by have := (ee 60 (by omega)).mp y; omega) (n_f ((ee 61 (by omega)).mpr rfl) (step_c q14 tl (fun w i a b d => ?_) fin))
        rw [es]
        exact stC_n (by omega) (by decide) hN.2.2.1 a (fun z => absurd z (by decide)) (fun _ => ⟨b, d⟩) (fun z => absurd z (by decide))
      · refine n_t (fun y => by have := (ee 60 (by omega)).mp y; omega) (n_t (fun y => by have := (ee 61 (by omega)).mp y; omega) (step_c q14 tl (fun w i a b d => ?_) fin))
        rw [es]
        exact stC_n (by omega) (by decide) hN.2.2.1 a (fun z => absurd z (by decide)) (fun z => absurd z (by decide)) (fun _ => ⟨b, d⟩)
  have h60 : sg T (p + 1) = 60 ∨ sg T (p + 1) = 61 ∨ sg T (p + 1) = 62 := by
    unfold hw_ at h3
    by_cases a : sg T (p + 1) = 60
    · exact Or.inl a
    by_cases b : sg T (p + 1) = 61
    · exact Or.inr (Or.inl b)
    by_cases d : sg T (p + 1) = 62
    · exact Or.inr (Or.inr d)
    rw [if_neg a, if_neg b, if_neg d] at h3
    exact absurd rfl h3
  have mm := main _ rfl h60
  rcases h60 with z | z | z
  · exact b_t ((e 60 (by omega)).mpr z) mm
  · exact b_f (fun y => by have := (e 60 (by omega)).mp y; omega) (b_t ((e 61 (by omega)).mpr z) mm)
  · exact b_f (fun y => by have := (e 60 (by omega)).mp y; omega) (b_f (fun y => by have := (e 61 (by omega)).mp y; omega) (b_t ((e 62 (by omega)).mpr z) mm))
theorem stC_op {w : MM} {i : Nat} {x : Int} {y : Int32} (hx : x < 0) (hy : y = Int32.ofInt x) (h8 : w 69 i = y) : stC w 61 i x := by
  unfold stC
  rw [if_pos hx]
  exact h8.trans hy
theorem el_c (N o kd am : Nat) (T : Tp) (P : List Cl) (zs : List Int) (rP : Int32 → MM → (Int32 → MM → Prop) → Prop) (F : Nat → Rs) (K : Int32 → MM → Prop) (hT : TpOk T) (hFo : ∀ p, p ≤ T.2 → rOk T (o + 1) p (F p)) (hF : ∀ (p : Nat) (ys : List Int) (u : MM) (K : Int32 → MM → Prop), preC u T P kd am ys p → kC u P kd am ys (F p) K → rP (nI o) u K) (u0 : MM) (q : Rs) (k : kC u0 P kd am zs q K) : ∀ (r : Nat) (w : Bool) (p : Nat) (xs : List Int) (x3 fl : Nat) (u : MM), fC u0 u → preC u T P kd am (zs ++ xs) p → tot P + (zs ++ xs).length + bn w ≤ p → T.2 < r + p → x3 ≤ p → r ≤ fl → pEL T F r w p xs = q → wX3_readEither_b14 N rP K fl (nI o) (nI (bn w)) (nI x3) u := by
  have ht := hT.1
  intro r
  induction r with
  | zero =>
    intro w p xs x3 fl u g hpre
    have := hpre.2.2.2.2
    omega
  | succ r ih =>
    intro w p xs x3 fl u g hpre htw hr hx3 hfl eq
    obtain ⟨fg, rfl⟩ : ∃ g, fl = g + 1 := ⟨fl - 1, by omega⟩
    obtain ⟨hc, h2, hq, htot, hp⟩ := id hpre
    rw [pEL] at eq
    refine b_f (show ¬ nI 100 < nI x3 from nI_nlt (by omega) (by omega)) (skip_c (x := 38) hc hT h2 (by omega) (by omega) (fun hs u5 g5 y5 => ?_) (fun hs => ?_))
    · -- &
      rw [if_pos hs] at eq
      have i1 : p < T.2 := sg_in (by omega)
      have hFq := hFo (p + 1) (by omega)
      refine n_t (by decide) (n_t (by decide) (hF (p + 1) (zs ++ xs) u5 _ ⟨hc.c g5.c, y5, hq.f6 g5, by omega, by omega⟩ (fun u6 g6 y6 c6 => ?_)))
      have g06 := (g.tr g5.c).tr g6
      cases hb : (F (p + 1)).1
      · rw [hb, if_neg (by decide)] at eq
        subst eq
        exact n_f rfl (k u6 g06 y6 (fun z => by cases z))
      · rw [hb, if_pos rfl] at eq
        obtain ⟨m1, m2, m3, m4⟩ := hFq.2 hb
        have mp := hFq.1
        refine n_t (by decide) (b_f (by decide) (step_c (x := -2) (c6 hb) ?_ (fun w i a b d => stC_op (y := -2) (by decide) rfl a) (fun u20 g20 s20 c20 y21 e21 => ?_)))
        · rw [tot_last]
          show tot P + (zs ++ xs ++ (F (p + 1)).2.2).length < 100
          rw [List.length_append]
          omega
        rw [i_one] at e21
        subst e21
        have el : zs ++ (xs ++ (F (p + 1)).2.2 ++ [-2]) = zs ++ xs ++ (F (p + 1)).2.2 ++ [-2] := by simp [List.append_assoc]
        have ll : (zs ++ xs ++ (F (p + 1)).2.2 ++ [-2]).length = (zs ++ xs).length + (F (p + 1)).2.2.length + 1 := by rw [List.length_append, List.length_append, List.length_singleton]
        refine ih w (F (p + 1)).2.1 _ (x3 + 1) fg u20 (g06.tr g20) ?_ (by rw [el, ll]; omega) (by omega) (by omega) (by omega) eq
        rw [el]
        exact ⟨hc.c (g5.c.tr (g6.tr g20)), by rw [s20]; exact y6, c20, by rw [ll]; omega, mp⟩
    · rw [if_neg hs] at eq
      have b50 : ∀ (u1 : MM) (orr : List Int), fC u0 u1 → preC u1 T P kd am (zs ++ (xs ++ orr)) p → (if w = true then [-3] else []) = orr → wX3_readEither_b50 N rP K (wX3_readEither_b14 N rP K fg) (nI o) 0 (nI x3) 0 u1 := by
        intro u1 orr g1 pre1 eo
        rw [eo] at eq
        obtain ⟨d1, d2, d3, d4, d5⟩ := id pre1
        refine n_f rfl (skip_c (x := 124) d1 hT d2 (by omega) (by omega) (fun hs2 u5 g5 y5 => ?_) (fun hs2 => ?_))
        · rw [if_pos hs2] at eq
          have i1 : p < T.2 := sg_in (by omega)
          have hFq := hFo (p + 1) (by omega)
          refine n_t (by decide) (hF (p + 1) (zs ++ (xs ++ orr)) u5 _ ⟨d1.c g5.c, y5, d3.f6 g5, by omega, by omega⟩ (fun u6 g6 y6 c6 => ?_))
          have g06 := (g1.tr g5.c).tr g6
          cases hb : (F (p + 1)).1
          · rw [hb, if_neg (by decide)] at eq
            subst eq
            exact n_f rfl (k u6 g06 y6 (fun z => by cases z))
          · rw [hb, if_pos rfl] at eq
            obtain ⟨m1, m2, m3, m4⟩ := hFq.2 hb
            have mp := hFq.1
            refine n_t (by decide) (b_t rfl (fun y21 e21 => ?_))
            rw [i_one] at e21
            subst e21
            have el : zs ++ (xs ++ orr ++ (F (p + 1)).2.2) = zs ++ (xs ++ orr) ++ (F (p + 1)).2.2 := by simp [List.append_assoc]
            have ll : (zs ++ (xs ++ orr) ++ (F (p + 1)).2.2).length = (zs ++ (xs ++ orr)).length + (F (p + 1)).2.2.length := List.length_append
            have b1 : bn true = 1 := rfl
            refine ih true (F (p + 1)).2.1 _ (x3 + 1) fg u6 g06 ?_ (by rw [el, ll]; omega) (by omega) (by omega) (by omega) eq
            rw [el]
            exact ⟨d1.c (g5.c.tr g6), y6, c6 hb, by rw [ll]; omega, mp⟩
        · rw [if_neg hs2] at eq
          subst eq
          exact n_f rfl (k u1 g1 d2 (fun _ => d3))
      refine n_f rfl ?_
      cases w
      · exact b_t rfl (b50 u [] g (by rw [List.append_nil]; exact hpre) rfl)
      · have b1 : bn true = 1 := rfl
        refine b_f (by decide) (step_c (x := -3) hq ?_ (fun w i a b d => stC_op (y := -3) (by decide) rfl a) (fun u10 g10 s10 c10 => ?_))
        · rw [tot_last]
          show tot P + (zs ++ xs).length < 100
          omega
        · have el : zs ++ (xs ++ [-3]) = zs ++ xs ++ [-3] := by simp [List.append_assoc]
          refine b50 u10 [-3] (g.tr g10) ?_ rfl
          rw [el]
          exact ⟨hc.c g10, by rw [s10]; exact h2, c10, by rw [List.length_append, List.length_singleton]; omega, hp⟩
theorem either_c {N o kd am p : Nat} {T : Tp} {P : List Cl} {zs : List Int} {rP : Int32 → MM → (Int32 → MM → Prop) → Prop} {F : Nat → Rs} {u : MM} {K : Int32 → MM → Prop} (hN : 200 ≤ N) (hT : TpOk T) (hFo : ∀ p, p ≤ T.2 → rOk T (o + 1) p (F p)) (hF : ∀ (p : Nat) (ys : List Int) (u : MM) (K : Int32 → MM → Prop), preC u T P kd am ys p → kC u P kd am ys (F p) K → rP (nI o) u K) (h : preC u T P kd am zs p) (k : kC u P kd am zs (pE T F p) K) : wX3_readEither N rP (nI o) u K := by
  have ht := hT.1
  have hFq := hFo p h.2.2.2.2
  refine hF p zs u _ h (fun u2 g2 y2 c2 => ?_)
  unfold pE at k
  cases hb : (F p).1
  · rw [hb, if_neg (by decide)] at k
    exact n_f rfl (k u2 g2 y2 (fun z => by cases z))
  · rw [hb, if_pos rfl] at k
    obtain ⟨m1, m2, m3, m4⟩ := hFq.2 hb
    have mp := hFq.1
    have h4 := h.2.2.2.1
    have ll : (zs ++ (F p).2.2).length = zs.length + (F p).2.2.length := List.length_append
    have b0 : bn false = 0 := rfl
    refine n_t (by decide) (el_c N o kd am T P zs rP F K hT hFo hF u _ k 101 false (F p).2.1 (F p).2.2 1 N u2 g2 ⟨h.1.c g2, y2, c2 hb, by rw [ll]; omega, mp⟩ (by rw [ll]; omega) (by omega) (by omega) (by omega) rfl)
theorem rpart_c {N kd am : Nat} {T : Tp} {P : List Cl} (hN : 200 ≤ N) (hT : TpOk T) : ∀ (d o : Nat), d + o = 8 → o ≤ 5 → ∀ (p : Nat) (zs : List Int) (u : MM) (K : Int32 → MM → Prop), preC u T P kd am zs p → kC u P kd am zs (pF T d o p) K → fP N d (nI o) u K := by
  have ht := hT.1
  intro d
  induction d with
  | zero => intro o h1 h2; omega
  | succ d ih =>
    intro o hdo ho p zs u K h k
    obtain ⟨hc, h2, hq, htot, hp⟩ := id h
    have s1 := sg_le hT p
    have e : ∀ c, c < 128 → (oz (sg T p) = nI c ↔ sg T p = c) := fun c hc => oz_eq s1 hc
    show wX3_readPart N (fP N d) (wX3_readEither N (fP N d)) (nI o) u K
    unfold wX3_readPart
    rw [h2]
    refine at_c hc hT (by omega) ?_
    rw [pF] at k
    by_cases h33 : sg T p = 33
    · rw [if_pos h33] at k
      refine b_t ((e 33 (by omega)).mpr h33) ?_
      by_cases h5 : 5 ≤ o
      · rw [if_pos h5] at k
        exact b_f (show ¬ nI o < nI 5 from nI_nlt (by omega) (by omega)) (k u (fC.rf u) h2 (fun z => by cases z))
      rw [if_neg h5] at k
      have i1 : p < T.2 := sg_in (by omega)
      refine b_t (show nI o < nI 5 from nl_lt (by omega) (by omega)) (fun u8 e8 => ?_)
      rw [h2, i_one] at e8
      have g8 := f6.up e8 (Or.inl rfl)
      have x8 : u8 6 2 = nI (p + 1) := upx e8
      have hFq := pF_ok (T := T) d (o + 1) (by omega) (p + 1) (by omega)
      refine n_t (fun y => by have := (e 40 (by omega)).mp y; omega) ?_
      rw [i_one]
      refine ih (o + 1) (by omega) (by omega) (p + 1) zs u8 _ ⟨hc.c g8.c, x8, hq.f6 g8, by omega, by omega⟩ (fun u11 g11 y11 c11 => ?_)
      cases hb : (pF T d (o + 1) (p + 1)).1
      · rw [hb, if_neg (by decide)] at k
        exact n_f rfl (k u11 (g8.c.tr g11) y11 (fun z => by cases z))
      · rw [hb, if_pos rfl] at k
        obtain ⟨m1, m2, m3, m4⟩ := hFq.2 hb
        have mp := hFq.1
        refine n_t (by decide) (step_c (x := -1) (c11 hb) ?_ (fun w i a b d => stC_op (y := -1) (by decide) rfl a) (fun u14 g14 s14 c14 => ?_))
        · rw [tot_last]
          show tot P + (zs ++ (pF T d (o + 1) (p + 1)).2.2).length < 100
          rw [List.length_append]
          omega
        · refine k u14 ((g8.c.tr g11).tr g14) (by rw [s14]; exact y11) (fun _ => ?_)
          have el : zs ++ ((pF T d (o + 1) (p + 1)).2.2 ++ [-1]) = zs ++ (pF T d (o + 1) (p + 1)).2.2 ++ [-1] := by simp [List.append_assoc]
          show CQ u14 (P ++ [(kd, am, zs ++ ((pF T d (o + 1) (p + 1)).2.2 ++ [-1]))])
          rw [el]
          exact c14
    rw [if_neg h33] at k
    refine b_f (fun y => h33 ((e 33 (by omega)).mp y)) ?_
    by_cases h40 : sg T p = 40
    · rw [if_pos h40] at k
      refine b_t ((e 40 (by omega)).mpr h40) ?_
      by_cases h5 : 5 ≤ o
      · rw [if_pos h5] at k
        exact b_f (show ¬ nI o < nI 5 from nI_nlt (by omega) (by omega)) (k u (fC.rf u) h2 (fun z => by cases z))
      rw [if_neg h5] at k
      have i1 : p < T.2 := sg_in (by omega)
      refine b_t (show nI o < nI 5 from nl_lt (by omega) (by omega)) (fun u8 e8 => ?_)
      rw [h2, i_one] at e8
      have g8 := f6.up e8 (Or.inl rfl)
      have x8 : u8 6 2 = nI (p + 1) := upx e8
      have hEq := pE_ok (o := o + 1) (pF_ok (T := T) d (o + 1) (by omega)) (show p + 1 ≤ T.2 by omega)
      refine n_f ((e 40 (by omega)).mpr h40) ?_
      rw [i_one]
      refine either_c (zs := zs) hN hT (pF_ok (T := T) d (o + 1) (by omega)) (fun p ys u K => ih (o + 1) (by omega) (by omega) p ys u K) ⟨hc.c g8.c, x8, hq.f6 g8, by omega, by omega⟩ (fun u16 g16 y16 c16 => ?_)
      cases hb : (pE T (pF T d (o + 1)) (p + 1)).1
      · rw [hb, if_neg (by decide)] at k
        exact b_t rfl (k u16 (g8.c.tr g16) y16 (fun z => by cases z))
      · rw [hb, if_pos rfl] at k
        have mp := hEq.1
        refine b_f (by decide) (skip_c (x := 41) (hc.c (g8.c.tr g16)) hT y16 (by omega) (by omega) (fun hs u19 g19 y19 => ?_) (fun hs => ?_))
        · rw [if_pos hs] at k
          exact b_f (by decide) (k u19 ((g8.c.tr g16).tr g19.c) y19 (fun _ => (c16 hb).f6 g19))
        · rw [if_neg hs] at k
          exact b_t rfl (k u16 (g8.c.tr g16) y16 (fun z => by cases z))
    · rw [if_neg h40] at k
      refine b_f (fun y => h40 ((e 40 (by omega)).mp y)) (test_c hT h (fun u' g y c => ⟨bz_bn _, k u' g y c⟩))
