/-! CHOICE, REACH -/
def mn (a p : Nat) : Nat := if p < a then p else a
def okS (c : Cx) (w : Wd) (x s : Nat) : Bool := decide (wo s (mayF c w x) = 0) && decide (pc s = mn (askF c w x) (pc (mayF c w x)))
def setH (c : Cx) (w : Wd) (x s : Nat) : Nat := wH (endW c 7 8 w x s)
def csL (c : Cx) (w : Wd) (x : Nat) : Nat → Nat → Nat → Nat → Nat × Nat
  | 0, _, b, h => (b, h)
  | r + 1, s, b, h => if okS c w x s = true ∧ (h = 10 ∨ h < pc (setH c w x s)) then csL c w x r (s + 1) s (pc (setH c w x s)) else csL c w x r (s + 1) b h
def rcL (c : Cx) (w : Wd) (x o : Nat) : Nat → Nat → Nat
  | 0, _ => 128
  | r + 1, s => if okS c w x s = true ∧ (setH c w x s).testBit o = true then s else rcL c w x o r (s + 1)
theorem wo_sub : ∀ a, a < 128 → ∀ b, b < 128 → wo a b = 0 → a &&& b = a := by decide +kernel
theorem okS_may {c : Cx} {w : Wd} {x s : Nat} (hc : CxOk c) (hs : s < 128) (h : okS c w x s = true) : s &&& mayF c w x = s ∧ s ≤ mayF c w x ∧ pc s ≤ askF c w x := by
  unfold okS at h
  rw [Bool.and_eq_true] at h
  have h1 := wo_sub s hs _ (lt128 mayF_lt hc.1) (of_decide_eq_true h.1)
  have h2 := of_decide_eq_true h.2
  refine ⟨h1, ?_, ?_⟩
  · rw [← h1]
    exact Nat.and_le_right
  · unfold mn at h2
    split at h2 <;> omega
theorem csL_cut {c : Cx} {w : Wd} {x : Nat} (hc : CxOk c) : ∀ k s b h, mayF c w x < s → s + k ≤ 128 → csL c w x k s b h = (b, h)
  | 0, _, _, _, _, _ => rfl
  | k + 1, s, b, h, hs, hk => by
    rw [csL, if_neg (fun y => by have := (okS_may hc (by omega) y.1).2.1; omega)]
    exact csL_cut hc k (s + 1) b h (by omega) (by omega)
theorem csL_may {c : Cx} {w : Wd} {x : Nat} (hc : CxOk c) (k : Nat) : ∀ r s b h, mayF c w x + 1 = s + r → s + (r + k) ≤ 128 → csL c w x (r + k) s b h = csL c w x r s b h
  | 0, s, b, h, hs, hk => by rw [Nat.zero_add, csL_cut hc k s b h (by omega) (by omega)]; rfl
  | r + 1, s, b, h, hs, hk => by
    rw [show r + 1 + k = (r + k) + 1 from by omega, csL, csL, csL_may hc k r _ _ _ (by omega) (by omega), csL_may hc k r _ _ _ (by omega) (by omega)]
theorem rcL_cut {c : Cx} {w : Wd} {x o : Nat} (hc : CxOk c) : ∀ k s, mayF c w x < s → s + k ≤ 128 → rcL c w x o k s = 128
  | 0, _, _, _ => rfl
  | k + 1, s, hs, hk => by
    rw [rcL, if_neg (fun y => by have := (okS_may hc (by omega) y.1).2.1; omega)]
    exact rcL_cut hc k (s + 1) (by omega) (by omega)
theorem rcL_may {c : Cx} {w : Wd} {x o : Nat} (hc : CxOk c) (k : Nat) : ∀ r s, mayF c w x + 1 = s + r → s + (r + k) ≤ 128 → rcL c w x o (r + k) s = rcL c w x o r s
  | 0, s, hs, hk => by rw [Nat.zero_add, rcL_cut hc k s (by omega) (by omega)]; rfl
  | r + 1, s, hs, hk => by
    rw [show r + 1 + k = (r + k) + 1 from by omega, rcL, rcL, rcL_may hc k r _ (by omega) (by omega)]
theorem chsb_c {N s may ask : Nat} {u : MM} {K : Int32 → MM → Prop} (hs : s < 128) (hm : may < 128) (ha : ask < 100) (q : K (nI (bn (decide (wo s may = 0) && decide (pc s = mn ask (pc may))))) u) : wX1_isChoosable N (nI s) (nI may) (nI ask) u K := by
  have p1 := pc_le may
  have p2 := pc_le s
  refine bc_val hm (fun y2 e2 => ?_)
  have em : y2 = nI (mn ask (pc may)) := by
    rw [e2]
    unfold mn
    by_cases z : pc may < ask
    · rw [if_pos z, if_pos (nl_lt z (by omega))]
    · rw [if_neg z, if_neg (nI_nlt (by omega) (by omega))]
  have hmn : mn ask (pc may) < 200 := by unfold mn; split <;> omega
  subst em
  rw [wo_val _ hs _ hm]
  have hw : wo s may < 128 := wo_lt hs
  have e0 : nI (wo s may) = 0 ↔ wo s may = 0 := nI_eq (b := 0) (by omega) (by omega)
  by_cases c0 : wo s may = 0
  · rw [decide_eq_true c0, Bool.true_and] at q
    refine n_f (e0.mpr c0) (bc_val hs ?_)
    have e1 : nI (pc s) = nI (mn ask (pc may)) ↔ pc s = mn ask (pc may) := nI_eq (by omega) (by omega)
    by_cases c1 : pc s = mn ask (pc may)
    · rw [decide_eq_true c1] at q
      exact n_f (e1.mpr c1) q
    · rw [decide_eq_false c1] at q
      exact n_t (fun y => c1 (e1.mp y)) q
  · rw [decide_eq_false c0, Bool.false_and] at q
    exact n_t (fun y => c0 (e0.mp y)) q
theorem ytt_bit {w : Wd} {x : Nat} (h1 : wH w < 128) (h2 : wT w < 128) (hx : x < 7) (ht : tll w x = true) : ytt w ≠ 0 := by
  intro z
  have := wo_bit _ h1 _ h2 x hx
  unfold ytt at z
  rw [z, Nat.zero_testBit] at this
  unfold tll at ht
  rw [ht] at this
  cases this
theorem okS_chO {c : Cx} {w : Wd} {x s : Nat} (hc : CxOk c) (hx : x < 7) (ht : tll w x = true) (hs : s < 128) (h : okS c w x s = true) : chO c w x s :=
  ⟨by omega, fun _ => Or.inr ⟨ht, (okS_may hc hs h).1, (okS_may hc hs h).2.2⟩⟩
theorem le_ot {a h : Nat} (hh : h ≤ 10) (ha : a < 100) : nI a ≤ ot h ↔ ¬ (h = 10 ∨ h < a) := by
  unfold ot
  by_cases h1 : h = 10
  · rw [if_pos h1]
    refine ⟨fun y => ?_, fun y => absurd (Or.inl h1) y⟩
    rw [Int32.le_iff_toInt_le, nI_toInt (by omega)] at y
    have : ((-1 : Int32)).toInt = -1 := by decide
    omega
  · rw [if_neg h1]
    refine ⟨fun y => ?_, fun y => nI_le (by omega) (by omega)⟩
    rintro (z | z)
    · exact h1 z
    · exact nI_ge z (by omega) y
theorem setH_lt {c : Cx} {w : Wd} {x s : Nat} (hc : CxOk c) (hw : WdOk c w) (hD : wD w < 1000) (h : chO c w x s) : setH c w x s < 128 :=
  lt128 (endW_H hc (Nat.le_refl _) 8 _ x s hw h.ok (by omega)).2.1 hc.1
theorem cho_clp (N x : Nat) (c : Cx) (w : Wd) (u0 : MM) (K : MM → Prop) (hN : 200 ≤ N) (hc : CxOk c) (hu : CxU u0 c) (hw : WdOk c w) (wu : WdU u0 27 w) (hD : wD w < 1000) (hx : x < 7) (ht : tll w x = true) (T : Nat × Nat) (k : ∀ u' : MM, (∀ a, a ≠ 1 → a ≠ 3 → a ≠ 7 → a ≠ 8 → a ≠ 9 → u' a = u0 a) → u' 1 5 = nI T.1 → u' 1 6 = ot T.2 → K u') : ∀ (r s fl b h : Nat) (u : MM), r + s = 128 → r < fl → (∀ a, a ≠ 1 → a ≠ 3 → a ≠ 7 → a ≠ 8 → a ≠ 9 → u a = u0 a) → u 1 5 = nI b → u 1 6 = ot h → h ≤ 10 → csL c w x r s b h = T → wX1_findChoice_b45 N K fl (nI x) (nI (mayF c w x)) (nI (askF c w x)) (nI s) u := by
  have hn := hc.1
  have hask := askF_le hw hx (tll_hd ht)
  intro r
  induction r with
  | zero =>
    intro s fl b h u hs hfl hR h5 h6 hh eT
    obtain ⟨g, rfl⟩ : ∃ g, fl = g + 1 := ⟨fl - 1, by omega⟩
    rw [csL] at eT
    subst eT
    exact b_t (show nI 128 ≤ nI s from nI_le (by omega) (by omega)) (k u hR h5 h6)
  | succ r ih =>
    intro s fl b h u hs hfl hR h5 h6 hh eT
    obtain ⟨g, rfl⟩ : ∃ g, fl = g + 1 := ⟨fl - 1, by omega⟩
    have hs7 : s < 128 := by omega
    refine b_f (show ¬ nI 128 ≤ nI s from nI_ge (by omega) (by omega)) (chsb_c hs7 (lt128 mayF_lt hn) (by omega) ?_)
    rw [csL] at eT
    show (nI (bn (okS c w x s)) = 0 → _) ∧ (¬ nI (bn (okS c w x s)) = 0 → _)
    cases ho : okS c w x s
    · rw [ho, if_neg (fun y => by cases y.1)] at eT
      refine b_t rfl (fun y19 e19 => ?_)
      rw [i_one] at e19
      subst e19
      exact ih (s + 1) g b h u (by omega) (by omega) hR h5 h6 hh eT
    · rw [ho] at eT
      refine b_f (by decide) ?_
      have hu1 : CxU u c := hu.same (fun a h1 h2 => hR a (by omega) (by omega) (by omega) (by omega) (by omega))
      have wu1 : WdU u 27 w := wu.same (hR _ (by omega) (by omega) (by omega) (by omega) (by omega)) (hR _ (by omega) (by omega) (by omega) (by omega) (by omega)) (hR _ (by omega) (by omega) (by omega) (by omega) (by omega))
      have hO := okS_chO hc hx ht hs7 ho
      have hS7 := setH_lt hc hw hD hO
      have hp7 := pc_le (setH c w x s)
      have eox : oi x = nI x := by unfold oi; rw [if_neg (by omega)]
      refine trial_c wu1 (fun u2 r2 w2 => ?_)
      rw [← eox]
      refine goOn_c (z := 7) hN hc (hu1.same (fun a h1 h2 => r2 a (by omega) (by omega) (by omega))) hw w2 hO (Nat.le_refl _) (by omega) (fun u4 r4 w4 => ?_)
      have q1 : u4 1 = u 1 := by rw [r4 1 (by omega) (by omega) (by omega) (by omega), r2 1 (by omega) (by omega) (by omega)]
      have hR4 : ∀ a, a ≠ 1 → a ≠ 3 → a ≠ 7 → a ≠ 8 → a ≠ 9 → u4 a = u0 a := fun a h1 h3 h7 h8 h9 => by rw [r4 a h3 h7 h8 h9, r2 a h7 h8 h9]; exact hR a h1 h3 h7 h8 h9
      rw [w4.2.2.1]
      refine bc_val hS7 ?_
      rw [q1, h6, eox]
      have el := le_ot (a := pc (setH c w x s)) hh (by omega)
      by_cases cc : h = 10 ∨ h < pc (setH c w x s)
      · rw [if_pos ⟨rfl, cc⟩] at eT
        refine b_f (fun y => el.mp y cc) (fun u17 e17 u18 e18 y19 e19 => ?_)
        rw [i_one] at e19
        subst e19
        refine ih (s + 1) g s (pc (setH c w x s)) u18 (by omega) (by omega) (fun a h1 h3 h7 h8 h9 => by rw [upu e18 h1, upu e17 h1]; exact hR4 a h1 h3 h7 h8 h9) (by rw [e18, up_j (by omega)]; exact upx e17) ?_ (by omega) eT
        rw [ot_n (by omega)]
        exact upx e18
      · rw [if_neg (fun y => cc y.2)] at eT
        refine b_t (el.mpr cc) (fun y19 e19 => ?_)
        rw [i_one] at e19
        subst e19
        exact ih (s + 1) g b h u4 (by omega) (by omega) hR4 (by rw [q1]; exact h5) (by rw [q1]; exact h6) hh eT
theorem rch_clp (N x o : Nat) (c : Cx) (w : Wd) (u0 : MM) (K : Int32 → MM → Prop) (hN : 200 ≤ N) (hc : CxOk c) (hu : CxU u0 c) (hw : WdOk c w) (wu : WdU u0 27 w) (hD : wD w < 1000) (hx : x < 7) (ho7 : o < 7) (ht : tll w x = true) (T : Nat) (k : ∀ u' : MM, (∀ a, a ≠ 1 → a ≠ 3 → a ≠ 7 → a ≠ 8 → a ≠ 9 → u' a = u0 a) → K (if T = 128 then -5 else nI T) u') : ∀ (r s fl : Nat) (u : MM), r + s = 128 → r < fl → (∀ a, a ≠ 1 → a ≠ 3 → a ≠ 7 → a ≠ 8 → a ≠ 9 → u a = u0 a) → rcL c w x o r s = T → wX1_findReach_b36 N K fl (nI x) (nI o) (nI (mayF c w x)) (nI (askF c w x)) (nI s) u := by
  have hn := hc.1
  have hask := askF_le hw hx (tll_hd ht)
  intro r
  induction r with
  | zero =>
    intro s fl u hs hfl hR eT
    obtain ⟨g, rfl⟩ : ∃ g, fl = g + 1 := ⟨fl - 1, by omega⟩
    rw [rcL] at eT
    subst eT
    exact b_t (show nI 128 ≤ nI s from nI_le (by omega) (by omega)) (k u hR)
  | succ r ih =>
    intro s fl u hs hfl hR eT
    obtain ⟨g, rfl⟩ : ∃ g, fl = g + 1 := ⟨fl - 1, by omega⟩
    have hs7 : s < 128 := by omega
    refine b_f (show ¬ nI 128 ≤ nI s from nI_ge (by omega) (by omega)) (chsb_c hs7 (lt128 mayF_lt hn) (by omega) ?_)
    rw [rcL] at eT
    show (nI (bn (okS c w x s)) = 0 → _) ∧ (¬ nI (bn (okS c w x s)) = 0 → _)
    cases ho : okS c w x s
    · rw [ho, if_neg (fun y => by cases y.1)] at eT
      refine b_t rfl (fun y19 e19 => ?_)
      rw [i_one] at e19
      subst e19
      exact ih (s + 1) g u (by omega) (by omega) hR eT
    · rw [ho] at eT
      refine b_f (by decide) ?_
      have hu1 : CxU u c := hu.same (fun a h1 h2 => hR a (by omega) (by omega) (by omega) (by omega) (by omega))
      have wu1 : WdU u 27 w := wu.same (hR _ (by omega) (by omega) (by omega) (by omega) (by omega)) (hR _ (by omega) (by omega) (by omega) (by omega) (by omega)) (hR _ (by omega) (by omega) (by omega) (by omega) (by omega))
      have hO := okS_chO hc hx ht hs7 ho
      have hS7 := setH_lt hc hw hD hO
      have eox : oi x = nI x := by unfold oi; rw [if_neg (by omega)]
      refine trial_c wu1 (fun u2 r2 w2 => ?_)
      rw [← eox]
      refine goOn_c (z := 7) hN hc (hu1.same (fun a h1 h2 => r2 a (by omega) (by omega) (by omega))) hw w2 hO (Nat.le_refl _) (by omega) (fun u4 r4 w4 => ?_)
      have hR4 : ∀ a, a ≠ 1 → a ≠ 3 → a ≠ 7 → a ≠ 8 → a ≠ 9 → u4 a = u0 a := fun a h1 h3 h7 h8 h9 => by rw [r4 a h3 h7 h8 h9, r2 a h7 h8 h9]; exact hR a h1 h3 h7 h8 h9
      rw [w4.2.2.1, eox]
      cases hb : (setH c w x s).testBit o
      · rw [if_neg (fun y => by rw [hb] at y; cases y.2)] at eT
        refine hb_no hS7 ho7 hb (b_t rfl (fun y19 e19 => ?_))
        rw [i_one] at e19
        subst e19
        exact ih (s + 1) g u4 (by omega) (by omega) hR4 eT
      · rw [if_pos ⟨rfl, hb⟩] at eT
        subst eT
        have := k u4 hR4
        rw [if_neg (by omega)] at this
        exact hb_yes hS7 ho7 hb (b_f (by decide) this)
def o5 (R : Nat) : Int32 := if R = 128 then -5 else nI R
theorem o5_eq {R : Nat} (h : R ≤ 128) : o5 R = -5 ↔ R = 128 := by
  unfold o5
  by_cases h1 : R = 128
  · rw [if_pos h1]; exact ⟨fun _ => h1, fun _ => rfl⟩
  · rw [if_neg h1]
    refine ⟨fun y => ?_, fun y => absurd y h1⟩
    have := congrArg Int32.toInt y
    rw [nI_toInt (by omega)] at this
    have e2 : ((-5 : Int32)).toInt = -5 := by decide
    omega
theorem try_lp (N x o : Nat) (c : Cx) (w : Wd) (v0 : MM) (K : MM → Prop) (hN : 200 ≤ N) (hc : CxOk c) (hv : CxV (v0 1) c) (hw : WdOk c w) (wv : WdV (v0 1) w) (hD : wD w < 1000) (hx : x < 7) (ho7 : o ≤ 7) (ht : tll w x = true) (h16 : v0 0 16 = -1) (T : Nat × Nat) (TR : Nat) (k : ∀ v' : MM, tR v0 v' → v' 1 = v0 1 → v' 0 17 = -1 → v' 0 19 = nI T.1 → v' 0 20 = ot T.2 → v' 0 21 = o5 TR → K v') : ∀ (r s fl b h R : Nat) (v : MM), r + s = mayF c w x + 1 → r < fl → tR v0 v → v 1 = v0 1 → v 0 17 = -1 → v 0 19 = nI b → v 0 20 = ot h → v 0 21 = o5 R → h ≤ 10 → R ≤ 128 → csL c w x r s b h = T → (if R = 128 then rcL c w x o r s else R) = TR → wX11_triesSets_b56 N K fl (nI x) (oi o) (nI (mayF c w x)) (nI (mn (askF c w x) (pc (mayF c w x)))) (nI s) v := by
  have hn := hc.1
  have hask := askF_le hw hx (tll_hd ht)
  have hm7 : mayF c w x < 128 := lt128 mayF_lt hn
  have hh7 : wH w < 128 := lt128 hw.2.1 hn
  have ht7 : wT w < 128 := lt128 hw.2.2.1 hn
  intro r
  induction r with
  | zero =>
    intro s fl b h R v hs hfl hR h1 h17 h19 h20 h21 hh hR2 eT eR
    obtain ⟨g, rfl⟩ : ∃ g, fl = g + 1 := ⟨fl - 1, by omega⟩
    rw [csL] at eT
    rw [rcL] at eR
    subst eT
    have : R = TR := by
      by_cases z : R = 128
      · rw [if_pos z] at eR; omega
      · rw [if_neg z] at eR; exact eR
    subst this
    exact b_t (nl_lt (by omega) (by omega)) (k v hR h1 h17 h19 h20 h21)
  | succ r ih =>
    intro s fl b h R v hs hfl hR h1 h17 h19 h20 h21 hh hR2 eT eR
    obtain ⟨g, rfl⟩ : ∃ g, fl = g + 1 := ⟨fl - 1, by omega⟩
    have hs7 : s < 128 := by omega
    rw [csL] at eT
    rw [rcL] at eR
    refine b_f (nI_nlt (by omega) (by omega)) ?_
    rw [wo_val _ hs7 _ hm7]
    have hw7 : wo s (mayF c w x) < 128 := wo_lt hs7
    have e0 : nI (wo s (mayF c w x)) = 0 ↔ wo s (mayF c w x) = 0 := nI_eq (b := 0) (by omega) (by omega)
    have p1 := pc_le (mayF c w x)
    have p2 := pc_le s
    have hmn : mn (askF c w x) (pc (mayF c w x)) < 200 := by unfold mn; split <;> omega
    have e1 : nI (pc s) = nI (mn (askF c w x) (pc (mayF c w x))) ↔ pc s = mn (askF c w x) (pc (mayF c w x)) := nI_eq (by omega) (by omega)
    have skip : okS c w x s = false → wX11_triesSets_b191 N K (wX11_triesSets_b56 N K g) (nI x) (oi o) (nI (mayF c w x)) (nI (mn (askF c w x) (pc (mayF c w x)))) (nI s) v := by
      intro ho y34 e34
      rw [i_one] at e34
      subst e34
      rw [ho, if_neg (fun y => by cases y.1)] at eT
      rw [ho, if_neg (fun (y : false = true ∧ _) => by cases y.1)] at eR
      exact ih (s + 1) g b h R v (by omega) (by omega) hR h1 h17 h19 h20 h21 hh hR2 eT eR
    by_cases c0 : wo s (mayF c w x) = 0
    · refine n_f (e0.mpr c0) (count1_val (by omega) hs7 ?_)
      by_cases c1 : pc s = mn (askF c w x) (pc (mayF c w x))
      · have ho : okS c w x s = true := by unfold okS; rw [decide_eq_true c0, decide_eq_true c1]; rfl
        rw [ho] at eT eR
        have hO := okS_chO hc hx ht hs7 ho
        have hS7 := setH_lt hc hw hD hO
        have hp7 := pc_le (setH c w x s)
        have eox : oi x = nI x := by unfold oi; rw [if_neg (by omega)]
        refine n_f (e1.mpr c1) (fun v17 e17 v18 e18 => ?_)
        have z1 : v18 1 = v0 1 := by rw [upu e18 (by omega), upu e17 (by omega)]; exact h1
        refine ends_m (x := x) (st := s) (z := 7) hN hc (by rw [z1]; exact hv) hw (by rw [z1]; exact wv) hO (Nat.le_refl _) ?_ ?_ (fun _ => upx e18) (Or.inr (ytt_bit hh7 ht7 hx ht)) (by omega) (fun v20 g20 t20 w20 => ?_)
        · rw [e18, up_j (by omega), e17, up_j (by omega), hR.2.1 16 (by omega)]; exact h16
        · rw [e18, up_j (by omega), eox]; exact upx e17
        have t18 : tR v0 v18 := ⟨fun a p0 p1 p3 p4 p5 p6 p7 => by rw [upu e18 p0, upu e17 p0]; exact hR.1 a p0 p1 p3 p4 p5 p6 p7, fun j hj => by rw [e18, up_j (by omega), e17, up_j (by omega)]; exact hR.2.1 j hj, fun j hj => by rw [upu e18 (by omega), upu e17 (by omega)]; exact hR.2.2.1 j hj, fun j hj => by rw [z1]⟩
        have tt := t18.go g20
        have y19 : v20 0 19 = nI b := by rw [g20.2.1 19 (by omega) (by omega) (by omega), e18, up_j (by omega), e17, up_j (by omega)]; exact h19
        have y20 : v20 0 20 = ot h := by rw [g20.2.1 20 (by omega) (by omega) (by omega), e18, up_j (by omega), e17, up_j (by omega)]; exact h20
        have y21 : v20 0 21 = o5 R := by rw [g20.2.1 21 (by omega) (by omega) (by omega), e18, up_j (by omega), e17, up_j (by omega)]; exact h21
        rw [w20.2.2.1]
        refine count1_val (by omega) hS7 ?_
        rw [y20, y19]
        have el := le_ot (a := pc (setH c w x s)) hh (by omega)
        -- the reach, then back
        have fin : ∀ (b2 h2 : Nat) (s0 : Int32) (v25 : MM), csL c w x r (s + 1) b2 h2 = T → h2 ≤ 10 → s0 = ot h2 → (∀ a, a ≠ 0 → v25 a = v20 a) → (∀ j, j ≠ 19 → v25 0 j = v20 0 j) → v25 0 19 = nI b2 → wX11_triesSets_b149 N K (wX11_triesSets_b56 N K g) (nI x) (oi o) (nI (mayF c w x)) (nI (mn (askF c w x) (pc (mayF c w x)))) (nI s) s0 v25 := by
          intro b2 h2 s0 v24 eT2 hh2 es0 f1 f2 f3 v25 e25
          subst es0
          have k1 : ∀ a, a ≠ 0 → v25 a = v20 a := fun a ha => by rw [upu e25 ha]; exact f1 a ha
          have k21 : v25 0 21 = o5 R := by rw [e25, up_j (by omega), f2 21 (by omega)]; exact y21
          have k17 : v25 0 17 = -1 := by rw [e25, up_j (by omega), f2 17 (by omega)]; exact t20
          have k19 : v25 0 19 = nI b2 := by rw [e25, up_j (by omega)]; exact f3
          have k20 : v25 0 20 = ot h2 := upx e25
          have k0 : ∀ j, j = 4 ∨ j = 16 ∨ j = 23 → v25 0 j = v0 0 j := fun j hj => by rw [e25, up_j (by omega), f2 j (by omega)]; exact tt.2.1 j hj
          have last : ∀ (R2 : Nat) (s0 : Int32), R2 ≤ 128 → s0 = o5 R2 → (if R2 = 128 then rcL c w x o r (s + 1) else R2) = TR → wX11_triesSets_b184 N K (wX11_triesSets_b56 N K g) (nI x) (oi o) (nI (mayF c w x)) (nI (mn (askF c w x) (pc (mayF c w x)))) (nI s) s0 v25 := by
            intro R2 s0 hR3 es eR2 v31 e31
            subst es
            have t31 : tR v0 v31 := ⟨fun a p0 p1 p3 p4 p5 p6 p7 => by rw [upu e31 p0, k1 a p0]; exact tt.1 a p0 p1 p3 p4 p5 p6 p7, fun j hj => by rw [e31, up_j (by omega)]; exact k0 j hj, fun j hj => by rw [upu e31 (by omega), k1 3 (by omega)]; exact tt.2.2.1 j hj, fun j hj => by rw [upu e31 (by omega), k1 1 (by omega)]; exact tt.2.2.2 j hj⟩
            refine tback_m (by omega) t31 (fun v33 t33 s33 z33 y34 e34 => ?_)
            rw [i_one] at e34
            subst e34
            exact ih (s + 1) g b2 h2 R2 v33 (by omega) (by omega) t33 s33 (by rw [z33, e31, up_j (by omega)]; exact k17) (by rw [z33, e31, up_j (by omega)]; exact k19) (by rw [z33, e31, up_j (by omega)]; exact k20) (by rw [z33]; exact upx e31) hh2 hR3 eT2 eR2
          have e5 := o5_eq hR2
          have stay : (R = 128 → (setH c w x s).testBit o = false) → wX11_triesSets_b180 N K (wX11_triesSets_b56 N K g) (nI x) (oi o) (nI (mayF c w x)) (nI (mn (askF c w x) (pc (mayF c w x)))) (nI s) v25 := by
            intro hno
            refine last R _ hR2 k21 ?_
            by_cases z : R = 128
            · rw [if_pos z] at eR ⊢
              rw [if_neg (fun y => by rw [hno z] at y; cases y.2)] at eR
              exact eR
            · rw [if_neg z] at eR ⊢
              exact eR
          rw [k21]
          by_cases z : R = 128
          · refine n_f (e5.mpr z) ?_
            by_cases o7 : o = 7
            · refine b_t (by unfold oi; rw [if_pos o7]) (stay (fun _ => ?_))
              rw [o7]
              exact Nat.testBit_lt_two_pow hS7
            · have eoo : oi o = nI o := by unfold oi; rw [if_neg o7]
              refine b_f (by rw [eoo]; exact nI_m1 (by omega)) ?_
              have kw : v25 1 2 = nI (setH c w x s) := by rw [k1 1 (by omega)]; exact w20.2.2.1
              rw [eoo] at stay last ⊢
              cases hb : (setH c w x s).testBit o
              · exact hh_no kw hS7 (by omega) hb (b_t rfl (stay (fun _ => hb)))
              · refine hh_yes kw hS7 (by omega) hb (b_f (by decide) (last s _ (by omega) (by unfold o5; rw [if_neg (by omega)]) ?_))
                rw [if_neg (show ¬ s = 128 by omega)]
                rw [if_pos z, if_pos ⟨rfl, hb⟩] at eR
                exact eR
          · exact n_t (fun y => z (e5.mp y)) (stay (fun y => absurd y z))
        by_cases cc : h = 10 ∨ h < pc (setH c w x s)
        · rw [if_pos ⟨rfl, cc⟩] at eT
          refine b_f (fun y => el.mp y cc) (fun v23 e23 => ?_)
          rw [show v23 0 20 = ot h from by rw [e23, up_j (by omega)]; exact y20]
          refine b_f (fun y => el.mp y cc) (fin s _ _ v23 eT (by omega) (ot_n (show pc (setH c w x s) < 10 by omega)).symm (fun a ha => upu e23 ha) (fun j hj => by rw [e23, up_j hj]) (upx e23))
        · rw [if_neg (fun y => cc y.2)] at eT
          refine b_t (el.mpr cc) (fun v23 e23 => ?_)
          rw [show v23 0 20 = ot h from by rw [e23, up_j (by omega)]; exact y20]
          exact b_t (el.mpr cc) (fin b h _ v23 eT hh rfl (fun a ha => upu e23 ha) (fun j hj => by rw [e23, up_j hj]) (upx e23))
      · exact n_t (fun y => c1 (e1.mp y)) (skip (by unfold okS; rw [decide_eq_false c1, Bool.and_false]))
    · exact n_t (fun y => c0 (e0.mp y)) (skip (by unfold okS; rw [decide_eq_false c0, Bool.false_and]))
theorem tries_m {N x o : Nat} {c : Cx} {w : Wd} {v : MM} {K : MM → Prop} (hN : 200 ≤ N) (hc : CxOk c) (hv : CxV (v 1) c) (hw : WdOk c w) (wv : WdV (v 1) w) (hD : wD w < 1000) (hx : x < 7) (ho7 : o ≤ 7) (ht : tll w x = true) (h16 : v 0 16 = -1) (h17 : v 0 17 = -1) (k : ∀ v' : MM, tR v v' → v' 1 = v 1 → v' 0 17 = -1 → v' 0 19 = nI (csL c w x 128 0 0 10).1 → v' 0 20 = ot (csL c w x 128 0 0 10).2 → v' 0 21 = o5 (rcL c w x o 128 0) → K v') : wX11_triesSets N (nI x) (oi o) v K := by
  have hn := hc.1
  have hask := askF_le hw hx (tll_hd ht)
  have hm7 : mayF c w x < 128 := lt128 mayF_lt hn
  have p1 := pc_le (mayF c w x)
  have e1 := csL_may (w := w) (x := x) hc (127 - mayF c w x) (mayF c w x + 1) 0 0 10 (by omega) (by omega)
  have e2 := rcL_may (w := w) (x := x) (o := o) hc (127 - mayF c w x) (mayF c w x + 1) 0 (by omega) (by omega)
  rw [show mayF c w x + 1 + (127 - mayF c w x) = 128 from by omega] at e1 e2
  refine may_m hN hc hv hw wv hx (fun v2 m2 => ?_)
  have q1 : v2 1 = v 1 := m2.1 1 (by omega) (by omega) (by omega)
  refine ask_m hc (by rw [q1]; exact hv) hw (by rw [q1]; exact wv) hx (tll_hd ht) (count1_val (by omega) hm7 ?_)
  have go : ∀ s0 : Int32, s0 = nI (mn (askF c w x) (pc (mayF c w x))) → wX11_triesSets_b31 N K (nI x) (oi o) (nI (mayF c w x)) s0 v2 := by
    intro s0 es v8 e8 v9 e9 v10 e10
    subst es
    refine tkeep_m (by omega) (fun v12 t12 s12 z12 => ?_)
    have f1 : ∀ a, a ≠ 0 → v10 a = v2 a := fun a ha => by rw [upu e10 ha, upu e9 ha, upu e8 ha]
    have f0 : ∀ j, j ≠ 19 → j ≠ 20 → j ≠ 21 → v10 0 j = v2 0 j := fun j a b d => by rw [e10, up_j d, e9, up_j b, e8, up_j a]
    have t : tR v v12 := ⟨fun a p0 p1 p3 p4 p5 p6 p7 => by rw [t12.1 a p0 p1 p3 p4 p5 p6 p7, f1 a p0]; exact m2.1 a p0 p4 p5, fun j hj => by rw [t12.2.1 j hj, f0 j (by omega) (by omega) (by omega)]; exact m2.2 j (by omega) (by omega), fun j hj => by rw [t12.2.2.1 j hj, f1 1 (by omega), q1], fun j hj => by rw [t12.2.2.2 j hj, f1 1 (by omega), q1]⟩
    refine try_lp N x o c w v K hN hc hv hw wv hD hx ho7 ht h16 (csL c w x 128 0 0 10) (rcL c w x o 128 0) k (mayF c w x + 1) 0 N 0 10 128 v12 (by omega) (by omega) t (by rw [s12, f1 1 (by omega), q1]) ?_ ?_ ?_ ?_ (by omega) (by omega) e1.symm ?_
    · rw [z12, f0 17 (by omega) (by omega) (by omega), m2.2 17 (by omega) (by omega)]; exact h17
    · rw [z12, e10, up_j (by omega), e9, up_j (by omega)]; exact upx e8
    · rw [z12, e10, up_j (by omega)]; exact upx e9
    · rw [z12]; exact upx e10
    · rw [if_pos rfl]; exact e2.symm
  by_cases z : pc (mayF c w x) < askF c w x
  · refine b_f (nI_ge z (by omega)) (count1_val (by omega) hm7 (go _ (by unfold mn; rw [if_pos z])))
  · exact b_t (nI_le (by omega) (by omega)) (go _ (by unfold mn; rw [if_neg z]))
theorem rel_choice (N : Nat) (hN : 200 ≤ N) : ∀ (u v : MM) (x1 x2 : Int32), relT u v → wX10_choice N x1 x2 u (fun r u2 => wX11_choice N x1 x2 v (fun r2 v2 => r = r2 ∧ relT u2 v2)) := by
  intro u v x1 x2 h
  obtain ⟨⟨n, hd, td, hRS⟩, -, h16, h17, -⟩ := id h
  obtain ⟨c, w, hc, hu, hv, hw, wu, wv, en, eh, et, hD⟩ := hRS.nums
  have hn := hc.1
  have hh7 : wH w < 128 := lt128 hw.2.1 hn
  have ht7 : wT w < 128 := lt128 hw.2.2.1 hn
  rcases arg3 x1 (n := cN c) (by omega) with hx | ⟨a, ha, rfl⟩
  · exact has_no hu.1 hx (b_t rfl (per_no hv.1 hn hx (b_t rfl ⟨rfl, h⟩)))
  refine has_yes hu.1 hn ha (b_f (by decide) ?_)
  rcases arg3 x2 (n := 2) (by omega) with hx | ⟨b, hb2, rfl⟩
  · exact in_no (n := 2) hx (n_f rfl (per_yes hv.1 hn ha (b_f (by decide) (min_no (n := 1) (by omega) hx (n_f rfl ⟨rfl, h⟩)))))
  refine in_yes (n := 2) hb2 (by omega) (n_t (by decide) ?_)
  have ha7 : a < 7 := by omega
  unfold wX9_yetToTell
  rw [wu.2.2.1, wu.2.2.2.1, wo_val _ hh7 _ ht7]
  have htb : (wo (wH w) (wT w)).testBit a = tll w a := wo_bit _ hh7 _ ht7 a ha7
  have mid : ∀ K2 : Int32 → MM → Prop, wX11_isToTell N (nI a) v (fun r6 u7 => ((¬ r6 = 0 → (wX11_triesSets N (nI a) (-1) u7 (fun u10 => ((¬ nI b = 0 → (K2 (u10 0 20) u10)) ∧ (nI b = 0 → (K2 (u10 0 19) u10)))))) ∧ (r6 = 0 → (K2 (-3) u7)))) → wX11_choice N (nI a) (nI b) v K2 := fun K2 q => per_yes hv.1 hn ha (b_f (by decide) (min_yes (n := 1) (by omega) (by omega) (n_t (by decide) q)))
  have et2 : ∀ K2 : Int32 → MM → Prop, K2 (nI (bn (tll w a))) v → wX11_isToTell N (nI a) v K2 := fun K2 q => tt_m wv.2.2.1 wv.2.2.2.1 hh7 ht7 ha7 q
  cases hb : tll w a
  · rw [hb] at et2
    exact hb_no (wo_lt hh7) ha7 (htb.trans hb) (n_f rfl (mid _ (et2 _ (n_f rfl ⟨rfl, h⟩))))
  · rw [hb] at et2
    refine hb_yes (wo_lt hh7) ha7 (htb.trans hb) (n_t (by decide) ?_)
    refine may_c (by omega) hc hu hw wu (by omega) ha7 (fun u2 r2 => ?_)
    have hu2 : CxU u2 c := hu.same (fun k a b => r2 k (by omega))
    have wu2 : WdU u2 27 w := wu.same (r2 _ (by omega)) (r2 _ (by omega)) (r2 _ (by omega))
    refine ask_c hc hu2 hw wu2 ha7 (tll_hd hb) (fun u5 e5 u6 e6 => ?_)
    have hR6 : ∀ a, a ≠ 1 → a ≠ 3 → a ≠ 7 → a ≠ 8 → a ≠ 9 → u6 a = u a := fun a h1 h3 h7 h8 h9 => by rw [upu e6 h1, upu e5 h1]; exact r2 a h3
    refine cho_clp N a c w u _ hN hc hu hw wu hD ha7 hb (csL c w a 128 0 0 10) (fun u11 r11 y5 y6 => ?_) 128 0 N 0 10 u6 (by omega) (by omega) hR6 (by rw [e6, up_j (by omega)]; exact upx e5) (upx e6) (by omega) rfl
    rw [y5, y6]
    have last : ∀ r : Int32, ((¬ nI b = 0 → r = ot (csL c w a 128 0 0 10).2) ∧ (nI b = 0 → r = nI (csL c w a 128 0 0 10).1)) → wX11_choice N (nI a) (nI b) v (fun r2 v2 => r = r2 ∧ relT u11 v2) := by
      intro r hr
      refine mid _ (et2 _ (n_t (by decide) (tries_m (o := 7) hN hc hv hw wv hD ha7 (Nat.le_refl _) hb h16 h17 (fun v10 t10 s10 z17 z19 z20 z21 => ?_))))
      have rr : relT u11 v10 := rel_try h r11 t10 s10 z17
      rw [z19, z20]
      exact ⟨fun y => ⟨hr.1 y, rr⟩, fun y => ⟨hr.2 y, rr⟩⟩
    obtain rfl | rfl : b = 0 ∨ b = 1 := by omega
    · exact n_f rfl (last _ (n_f rfl rfl))
    · exact n_t (by decide) (last _ (n_t (by decide) rfl))
theorem rel_reach (N : Nat) (hN : 200 ≤ N) : ∀ (u v : MM) (x1 x2 : Int32), relT u v → wX10_reach N x1 x2 u (fun r u2 => wX11_reach N x1 x2 v (fun r2 v2 => r = r2 ∧ relT u2 v2)) := by
  intro u v x1 x2 h
  obtain ⟨⟨n, hd, td, hRS⟩, -, h16, h17, -⟩ := id h
  obtain ⟨c, w, hc, hu, hv, hw, wu, wv, en, eh, et, hD⟩ := hRS.nums
  have hn := hc.1
  have hh7 : wH w < 128 := lt128 hw.2.1 hn
  have ht7 : wT w < 128 := lt128 hw.2.2.1 hn
  rcases arg3 x1 (n := cN c) (by omega) with hx | ⟨a, ha, rfl⟩
  · exact has_no hu.1 hx (b_t rfl (per_no hv.1 hn hx (b_t rfl ⟨rfl, h⟩)))
  refine has_yes hu.1 hn ha (b_f (by decide) ?_)
  rcases arg3 x2 (n := cN c) (by omega) with hx | ⟨b, hb2, rfl⟩
  · exact has_no hu.1 hx (n_f rfl (per_yes hv.1 hn ha (b_f (by decide) (per_no hv.1 hn hx (n_f rfl ⟨rfl, h⟩)))))
  refine has_yes hu.1 hn hb2 (n_t (by decide) ?_)
  have ha7 : a < 7 := by omega
  unfold wX9_yetToTell
  rw [wu.2.2.1, wu.2.2.2.1, wo_val _ hh7 _ ht7]
  have htb : (wo (wH w) (wT w)).testBit a = tll w a := wo_bit _ hh7 _ ht7 a ha7
  have mid : ∀ K2 : Int32 → MM → Prop, wX11_isToTell N (nI a) v (fun r6 u7 => ((¬ r6 = 0 → (wX11_triesSets N (nI a) (nI b) u7 (fun u10 => K2 (u10 0 21) u10))) ∧ (r6 = 0 → (K2 (-3) u7)))) → wX11_reach N (nI a) (nI b) v K2 := fun K2 q => per_yes hv.1 hn ha (b_f (by decide) (per_yes hv.1 hn hb2 (n_t (by decide) q)))
  have et2 : ∀ K2 : Int32 → MM → Prop, K2 (nI (bn (tll w a))) v → wX11_isToTell N (nI a) v K2 := fun K2 q => tt_m wv.2.2.1 wv.2.2.2.1 hh7 ht7 ha7 q
  cases hb : tll w a
  · rw [hb] at et2
    exact hb_no (wo_lt hh7) ha7 (htb.trans hb) (n_f rfl (mid _ (et2 _ (n_f rfl ⟨rfl, h⟩))))
  · rw [hb] at et2
    refine hb_yes (wo_lt hh7) ha7 (htb.trans hb) (n_t (by decide) ?_)
    refine may_c (by omega) hc hu hw wu (by omega) ha7 (fun u2 r2 => ?_)
    have hu2 : CxU u2 c := hu.same (fun k a b => r2 k (by omega))
    have wu2 : WdU u2 27 w := wu.same (r2 _ (by omega)) (r2 _ (by omega)) (r2 _ (by omega))
    refine ask_c hc hu2 hw wu2 ha7 (tll_hd hb) ?_
    have eob : oi b = nI b := by unfold oi; rw [if_neg (by omega)]
    refine rch_clp N a b c w u _ hN hc hu hw wu hD ha7 (by omega) hb (rcL c w a b 128 0) (fun u11 r11 => ?_) 128 0 N u2 (by omega) (by omega) (fun a h1 h3 h7 h8 h9 => r2 a h3) rfl
    refine mid _ (et2 _ (n_t (by decide) ?_))
    rw [← eob]
    refine tries_m (o := b) hN hc hv hw wv hD ha7 (by omega) hb h16 h17 (fun v10 t10 s10 z17 z19 z20 z21 => ⟨?_, rel_try h r11 t10 s10 z17⟩)
    rw [z21]
    rfl
