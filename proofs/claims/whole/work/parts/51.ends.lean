/-! the days till the end -/
theorem chs_told {c : Cx} {w : Wd} {x st p : Nat} (h : x = 7 ∨ (wT w).testBit x = true) (hp : p < 7) : chs c w x st p = chs c w 7 0 p := by
  unfold chs
  by_cases ht : tll w p = true
  · rw [if_pos ht, if_pos ht]
    have hx : ¬ p = x := by
      intro e
      subst e
      rcases h with h | h
      · omega
      · unfold tll at ht
        rw [h] at ht
        simp at ht
    rw [if_neg hx, if_neg (by omega)]
  · rw [if_neg ht, if_neg ht]
theorem numP_told {c : Cx} {w : Wd} {x st o : Nat} (h : x = 7 ∨ (wT w).testBit x = true) : ∀ j, j ≤ 7 → numP c w x st o j = numP c w 7 0 o j
  | 0, _ => rfl
  | j + 1, hj => by rw [numP, numP, numP_told h j (by omega), chs_told h (by omega)]
theorem finP_told {c : Cx} {w : Wd} {x st : Nat} (h : x = 7 ∨ (wT w).testBit x = true) : ∀ j, j ≤ 7 → finP c w x st j = finP c w 7 0 j
  | 0, _ => rfl
  | j + 1, hj => by rw [finP, finP, finP_told h j (by omega), chs_told h (by omega)]
theorem hrP_told {c : Cx} {w : Wd} {x st df : Nat} (h : x = 7 ∨ (wT w).testBit x = true) : ∀ j, j ≤ 7 → hrP c w x st df j = hrP c w 7 0 df j
  | 0, _ => rfl
  | j + 1, hj => by rw [hrP, hrP, hrP_told h j (by omega), chs_told h (by omega)]
theorem dayW_told {c : Cx} {w : Wd} {x st z : Nat} (hc : CxOk c) (h : x = 7 ∨ (wT w).testBit x = true) : dayW c w x st z = dayW c w 7 0 z := by
  have hn := hc.1
  unfold dayW hrF
  rw [finP_told h _ hn, hrP_told h _ hn]
  have e : (fun p => if (hrP c w 7 0 (dfN c w z) (cN c)).testBit p = true then numP c w x st p (cN c) else wN w p) = (fun p => if (hrP c w 7 0 (dfN c w z) (cN c)).testBit p = true then numP c w 7 0 p (cN c) else wN w p) := by
    funext p
    rw [numP_told h _ hn]
  rw [e]
def ytt (w : Wd) : Nat := wo (wH w) (wT w)
def endW (c : Cx) (z : Nat) : Nat → Wd → Nat → Nat → Wd
  | 0, w, _, _ => w
  | r + 1, w, x, st => if ytt w = 0 then w else endW c z r (dayW c w x st z) 7 0
def endN (c : Cx) (z : Nat) : Nat → Wd → Nat → Nat → Nat
  | 0, _, _, _ => 0
  | r + 1, w, x, st => if ytt w = 0 then 0 else endN c z r (dayW c w x st z) 7 0 + 1
theorem endW_told {c : Cx} {z : Nat} {w : Wd} {x st : Nat} (hc : CxOk c) (h : x = 7 ∨ (wT w).testBit x = true) : ∀ r, endW c z r w x st = endW c z r w 7 0
  | 0 => rfl
  | r + 1 => by rw [endW, endW, dayW_told hc h]
theorem endN_told {c : Cx} {z : Nat} {w : Wd} {x st : Nat} (hc : CxOk c) (h : x = 7 ∨ (wT w).testBit x = true) : ∀ r, endN c z r w x st = endN c z r w 7 0
  | 0 => rfl
  | r + 1 => by rw [endN, endN, dayW_told hc h]
/-- who chooses a set: nobody, one who has told it, or one who may and can -/
def chO (c : Cx) (w : Wd) (x st : Nat) : Prop := x ≤ 7 ∧ (x < 7 → (wT w).testBit x = true ∨ (tll w x = true ∧ st &&& mayF c w x = st ∧ pc st ≤ askF c w x))
theorem chO.ok {c : Cx} {w : Wd} {x st : Nat} (h : chO c w x st) : chOk c w x st := by
  refine ⟨h.1, fun h7 ht => ?_⟩
  rcases h.2 h7 with y | y
  · unfold tll at ht; rw [y] at ht; simp at ht
  · exact y.2
theorem chO.none (c : Cx) (w : Wd) : chO c w 7 0 := ⟨Nat.le_refl _, fun h => by omega⟩
theorem tld_day {c : Cx} {w : Wd} {x st z : Nat} (h : chO c w x st) : x = 7 ∨ (wT (dayW c w x st z)).testBit x = true := by
  by_cases h7 : x = 7
  · exact Or.inl h7
  refine Or.inr ?_
  show (wT w ||| wH w).testBit x = true
  rw [Nat.testBit_or]
  have hx : x < 7 := by have := h.1; omega
  rcases h.2 hx with y | y
  · rw [y]; rfl
  · rw [tll_hd y.1, Bool.or_true]
theorem chO.day {c : Cx} {w : Wd} {x st z : Nat} (h : chO c w x st) : chO c (dayW c w x st z) x st := by
  refine ⟨h.1, fun h7 => Or.inl ?_⟩
  rcases tld_day (z := z) h with y | y
  · omega
  · exact y
theorem pc_day : ∀ a, a < 128 → ∀ b, b < 128 → wo a b ≠ 0 → pc b + 1 ≤ pc (b ||| a) := by decide +kernel
theorem endW_H {c : Cx} {z : Nat} (hc : CxOk c) (hz : z ≤ 7) : ∀ (r : Nat) (w : Wd) (x st : Nat), WdOk c w → chOk c w x st → wD w + r < 2000 → WdOk c (endW c z r w x st)
  | 0, w, x, st, hw, _, _ => hw
  | r + 1, w, x, st, hw, hx, hD => by
    rw [endW]
    split
    · exact hw
    · exact endW_H hc hz r _ 7 0 (dayW_ok hc hw hx hz (by omega)) (chO.none c _).ok (by show wD w + 1 + r < 2000; omega)
theorem ytt_ne {w : Wd} (h1 : wH w < 128) (h2 : wT w < 128) : nI (wH w) &&& (nI (wT w) ^^^ ((-1) : Int32)) = 0 ↔ ytt w = 0 := by
  rw [wo_val _ h1 _ h2]
  have : ytt w < 128 := wo_lt h1
  exact nI_eq (a := ytt w) (b := 0) (by omega) (by omega)
theorem goOn_lp (N x st z : Nat) (c : Cx) (u0 : MM) (K : Int32 → MM → Prop) (hN : 200 ≤ N) (hc : CxOk c) (hu : CxU u0 c) (hz : z ≤ 7) (tw : Wd) (tn : Nat) (k : ∀ u' : MM, (∀ a, a ≠ 3 → a ≠ 7 → a ≠ 8 → a ≠ 9 → u' a = u0 a) → WdU u' 7 tw → K (nI tn) u') : ∀ (r d fl : Nat) (w : Wd) (u : MM), 8 ≤ r + pc (wT w) → d ≤ pc (wT w) → r ≤ fl → (∀ a, a ≠ 3 → a ≠ 7 → a ≠ 8 → a ≠ 9 → u a = u0 a) → WdOk c w → WdU u 7 w → chO c w x st → wD w + r < 2000 → endW c z r w x st = tw → d + endN c z r w x st = tn → wX7_goOn_b3 N K fl (oi x) (nI st) (oi z) (nI d) u := by
  have hn := hc.1
  intro r
  induction r with
  | zero =>
    intro d fl w u h8
    have := pc_le (wT w)
    omega
  | succ r ih =>
    intro d fl w u h8 hd hfl hR hw wu hx hD ew en
    obtain ⟨g, rfl⟩ : ∃ g, fl = g + 1 := ⟨fl - 1, by omega⟩
    have hh7 : wH w < 128 := lt128 hw.2.1 hn
    have ht7 : wT w < 128 := lt128 hw.2.2.1 hn
    have hp7 := pc_le (wT w)
    rw [endW] at ew
    rw [endN] at en
    refine b_f (show ¬ nI 7 < nI d from nI_nlt (by omega) (by omega)) ?_
    have e0 := ytt_ne hh7 ht7
    show (¬ _ = 0 → _) ∧ (_ = 0 → _)
    rw [wu.2.2.1, wu.2.2.2.1]
    by_cases h0 : ytt w = 0
    · rw [if_pos h0] at ew en
      have en2 : d = tn := en
      subst ew en2
      exact n_f (e0.mpr h0) (k u hR wu)
    · rw [if_neg h0] at ew en
      refine n_t (fun y => h0 (e0.mp y)) ?_
      have hu1 : CxU u c := hu.same (fun a h1 h2 => hR a (by omega) (by omega) (by omega) (by omega))
      refine goDay_c hN hc hu1 hw wu (Or.inl rfl) hx.ok hz (fun u6 hR6 wu6 y7 e7 => ?_)
      rw [i_one] at e7
      subst e7
      have hp := pc_day _ hh7 _ ht7 h0
      have et : wT (dayW c w x st z) = wT w ||| wH w := rfl
      have td := tld_day (z := z) hx
      rw [← endW_told (st := st) hc td] at ew
      rw [← endN_told (st := st) hc td] at en
      exact ih (d + 1) g (dayW c w x st z) u6 (by rw [et]; omega) (by rw [et]; omega) (by omega) (fun a p3 p7 p8 p9 => by rw [hR6 a p3 p7 p8 p9]; exact hR a p3 p7 p8 p9) (dayW_ok hc hw hx.ok hz (by omega)) wu6 hx.day (by show wD w + 1 + r < 2000; omega) ew (by omega)
theorem goOn_c {N x st z : Nat} {c : Cx} {w : Wd} {u : MM} {K : Int32 → MM → Prop} (hN : 200 ≤ N) (hc : CxOk c) (hu : CxU u c) (hw : WdOk c w) (wu : WdU u 7 w) (hx : chO c w x st) (hz : z ≤ 7) (hD : wD w < 1900) (k : ∀ u' : MM, (∀ a, a ≠ 3 → a ≠ 7 → a ≠ 8 → a ≠ 9 → u' a = u a) → WdU u' 7 (endW c z 8 w x st) → K (nI (endN c z 8 w x st)) u') : wX7_goOn N (oi x) (nI st) (oi z) u K :=
  goOn_lp N x st z c u K hN hc hu hz _ _ k 8 0 N w u (by omega) (by omega) (by omega) (fun _ _ _ _ _ => rfl) hw wu hx (by omega) rfl (by omega)
theorem ends_lp (N z : Nat) (c : Cx) (v0 : MM) (K : Int32 → MM → Prop) (hN : 200 ≤ N) (hc : CxOk c) (hv : CxV (v0 1) c) (hz : z ≤ 7) (h16 : v0 0 16 = oi z) (tw : Wd) (tn : Nat) (k : ∀ v' : MM, gR v0 v' → v' 0 17 = -1 → WdV (v' 1) tw → K (nI tn) v') : ∀ (r d fl x st : Nat) (w : Wd) (v : MM), 8 ≤ r + pc (wT w) → r ≤ fl → gR v0 v → WdOk c w → WdV (v 1) w → chOk c w x st → v 0 17 = oi x → (x < 7 → v 0 18 = nI st) → (x = 7 ∨ ytt w ≠ 0) → wD w + r < 2000 → endW c z r w x st = tw → d + endN c z r w x st = tn → wX11_ends_b2 N K fl (nI d) v := by
  have hn := hc.1
  intro r
  induction r with
  | zero =>
    intro d fl x st w v h8
    have := pc_le (wT w)
    omega
  | succ r ih =>
    intro d fl x st w v h8 hfl hR hw wv hx h17 h18 hy hD ew en
    obtain ⟨g, rfl⟩ : ∃ g, fl = g + 1 := ⟨fl - 1, by omega⟩
    have hh7 : wH w < 128 := lt128 hw.2.1 hn
    have ht7 : wT w < 128 := lt128 hw.2.2.1 hn
    have hp7 := pc_le (wT w)
    rw [endW] at ew
    rw [endN] at en
    have e0 := ytt_ne hh7 ht7
    show (_ = 0 → _) ∧ (¬ _ = 0 → _)
    rw [wv.2.2.1, wv.2.2.2.1]
    by_cases h0 : ytt w = 0
    · rw [if_pos h0] at ew en
      have en2 : d = tn := en
      subst ew en2
      have h7 : x = 7 := hy.resolve_right (fun y => y h0)
      exact b_t (e0.mpr h0) (k v hR (by rw [h17, h7]; rfl) wv)
    · rw [if_neg h0] at ew en
      refine b_f (fun y => h0 (e0.mp y)) ?_
      refine goes_m hN hc (hv.same (fun j hj => hR.2.2 j hj)) hw wv hx hz (by rw [hR.2.1 16 (by omega) (by omega) (by omega)]; exact h16) h17 h18 (fun v3 hR3 h3 wv3 y4 e4 => ?_)
      rw [i_one] at e4
      subst e4
      have hp := pc_day _ hh7 _ ht7 h0
      have et : wT (dayW c w x st z) = wT w ||| wH w := rfl
      exact ih (d + 1) g 7 0 (dayW c w x st z) v3 (by rw [et]; omega) (by omega) (hR.tr hR3) (dayW_ok hc hw hx hz (by omega)) wv3 (chO.none c _).ok h3 (fun y => by omega) (Or.inl rfl) (by show wD w + 1 + r < 2000; omega) ew (by omega)
theorem ends_m {N x st z : Nat} {c : Cx} {w : Wd} {v : MM} {K : Int32 → MM → Prop} (hN : 200 ≤ N) (hc : CxOk c) (hv : CxV (v 1) c) (hw : WdOk c w) (wv : WdV (v 1) w) (hx : chO c w x st) (hz : z ≤ 7) (h16 : v 0 16 = oi z) (h17 : v 0 17 = oi x) (h18 : x < 7 → v 0 18 = nI st) (hy : x = 7 ∨ ytt w ≠ 0) (hD : wD w < 1900) (k : ∀ v' : MM, gR v v' → v' 0 17 = -1 → WdV (v' 1) (endW c z 8 w x st) → K (nI (endN c z 8 w x st)) v') : wX11_ends N v K :=
  ends_lp N z c v K hN hc hv hz h16 _ _ k 8 0 N x st w v (by omega) (by omega) (gR.rf v) hw wv hx.ok h17 h18 hy (by omega) rfl (by omega)
/-! what is kept and comes back -/
theorem keeps_lp (N : Nat) (v0 : MM) (K : MM → Prop) (k : ∀ v' : MM, (∀ a, a ≠ 3 → v' a = v0 a) → (∀ j, j < 18 → v' 3 j = v0 1 j) → K v') : ∀ (r j fl : Nat) (v : MM), r + j = 18 → r < fl → (∀ a, a ≠ 3 → v a = v0 a) → (∀ i, i < j → v 3 i = v0 1 i) → wX11_keeps_b2 N K fl (nI j) v := by
  intro r
  induction r with
  | zero =>
    intro j fl v hj hf h1 h2
    obtain ⟨g, rfl⟩ : ∃ g, fl = g + 1 := ⟨fl - 1, by omega⟩
    have e : j = 18 := by omega
    subst e
    exact b_t (show nI 18 ≤ nI 18 from nI_le (by omega) (by omega)) (k v h1 h2)
  | succ r ih =>
    intro j fl v hj hf h1 h2
    obtain ⟨g, rfl⟩ : ∃ g, fl = g + 1 := ⟨fl - 1, by omega⟩
    refine b_f (show ¬ nI 18 ≤ nI j from nI_ge (by omega) (by omega)) ⟨vp_in_nI (by omega) (by omega), vp_in_nI (by omega) (by omega), fun v2 e2 y3 e3 => ?_⟩
    rw [nI_clamp (by omega), h1 1 (by omega)] at e2
    rw [i_one] at e3
    subst e3
    refine ih (j + 1) g v2 (by omega) (by omega) (fun a ha => by rw [upu e2 ha]; exact h1 a ha) (fun i hi => ?_)
    by_cases h : i = j
    · subst h; exact upx e2
    · rw [e2, up_j h]; exact h2 i (by omega)
theorem keeps_m {N : Nat} {v : MM} {K : MM → Prop} (hN : 20 ≤ N) (k : ∀ v' : MM, (∀ a, a ≠ 3 → v' a = v a) → (∀ j, j < 18 → v' 3 j = v 1 j) → K v') : wX11_keeps N v K :=
  keeps_lp N v K k 18 0 N v (by omega) (by omega) (fun _ _ => rfl) (fun i hi => by omega)
theorem back_lp (N : Nat) (v0 : MM) (K : MM → Prop) (k : ∀ v' : MM, (∀ a, a ≠ 1 → v' a = v0 a) → (∀ j, j < 18 → v' 1 j = v0 3 j) → (∀ j, 18 ≤ j → v' 1 j = v0 1 j) → K v') : ∀ (r j fl : Nat) (v : MM), r + j = 18 → r < fl → (∀ a, a ≠ 1 → v a = v0 a) → (∀ i, i < j → v 1 i = v0 3 i) → (∀ i, 18 ≤ i → v 1 i = v0 1 i) → wX11_goesBack_b2 N K fl (nI j) v := by
  intro r
  induction r with
  | zero =>
    intro j fl v hj hf h1 h2 h3
    obtain ⟨g, rfl⟩ : ∃ g, fl = g + 1 := ⟨fl - 1, by omega⟩
    have e : j = 18 := by omega
    subst e
    exact b_t (show nI 18 ≤ nI 18 from nI_le (by omega) (by omega)) (k v h1 h2 h3)
  | succ r ih =>
    intro j fl v hj hf h1 h2 h3
    obtain ⟨g, rfl⟩ : ∃ g, fl = g + 1 := ⟨fl - 1, by omega⟩
    refine b_f (show ¬ nI 18 ≤ nI j from nI_ge (by omega) (by omega)) ⟨vp_in_nI (by omega) (by omega), vp_in_nI (by omega) (by omega), fun v2 e2 y3 e3 => ?_⟩
    rw [nI_clamp (by omega), h1 3 (by omega)] at e2
    rw [i_one] at e3
    subst e3
    refine ih (j + 1) g v2 (by omega) (by omega) (fun a ha => by rw [upu e2 ha]; exact h1 a ha) (fun i hi => ?_) (fun i hi => by rw [upv e2 (by omega)]; exact h3 i hi)
    by_cases h : i = j
    · subst h; exact upx e2
    · rw [upv e2 h]; exact h2 i (by omega)
theorem back_m {N : Nat} {v : MM} {K : MM → Prop} (hN : 20 ≤ N) (k : ∀ v' : MM, (∀ a, a ≠ 1 → v' a = v a) → (∀ j, j < 18 → v' 1 j = v 3 j) → (∀ j, 18 ≤ j → v' 1 j = v 1 j) → K v') : wX11_goesBack N v K :=
  back_lp N v K k 18 0 N v (by omega) (by omega) (fun _ _ => rfl) (fun i hi => by omega) (fun _ _ => rfl)
/-- a state of the reference on trial: the frame holds the first numbers of the state that is -/
def tR (v v' : MM) : Prop := (∀ a, a ≠ 0 → a ≠ 1 → a ≠ 3 → a ≠ 4 → a ≠ 5 → a ≠ 6 → a ≠ 7 → v' a = v a) ∧ (∀ j, j = 4 ∨ j = 16 ∨ j = 23 → v' 0 j = v 0 j) ∧ (∀ j, j < 18 → v' 3 j = v 1 j) ∧ ∀ j, 18 ≤ j → v' 1 j = v 1 j
theorem tR.go {a b d : MM} (h : tR a b) (h2 : gR b d) : tR a d := ⟨fun k p0 p1 p3 p4 p5 p6 p7 => (h2.1 k p0 p1 p4 p5 p6 p7).trans (h.1 k p0 p1 p3 p4 p5 p6 p7), fun j hj => (h2.2.1 j (by omega) (by omega) (by omega)).trans (h.2.1 j hj), fun j hj => by rw [h2.1 3 (by omega) (by omega) (by omega) (by omega) (by omega) (by omega)]; exact h.2.2.1 j hj, fun j hj => (h2.2.2 j hj).trans (h.2.2.2 j hj)⟩
theorem tkeep_m {N : Nat} {v : MM} {K : MM → Prop} (hN : 20 ≤ N) (k : ∀ v' : MM, tR v v' → v' 1 = v 1 → v' 0 = v 0 → K v') : wX11_keeps N v K :=
  keeps_m hN (fun v' h1 h2 => k v' ⟨fun a _ _ h3 _ _ _ _ => h1 a h3, fun j _ => by rw [h1 0 (by omega)], h2, fun j _ => by rw [h1 1 (by omega)]⟩ (h1 1 (by omega)) (h1 0 (by omega)))
theorem tback_m {N : Nat} {v v1 : MM} {K : MM → Prop} (hN : 20 ≤ N) (h : tR v v1) (k : ∀ v' : MM, tR v v' → v' 1 = v 1 → v' 0 = v1 0 → K v') : wX11_goesBack N v1 K :=
  back_m hN (fun v' h1 h2 h3 => k v' ⟨fun a p0 p1 p3 p4 p5 p6 p7 => by rw [h1 a p1]; exact h.1 a p0 p1 p3 p4 p5 p6 p7, fun j hj => by rw [h1 0 (by omega)]; exact h.2.1 j hj, fun j hj => by rw [h1 3 (by omega)]; exact h.2.2.1 j hj, fun j hj => by rw [h3 j hj]; exact h.2.2.2 j hj⟩ (by
    funext j
    by_cases hj : j < 18
    · rw [h2 j hj]; exact h.2.2.1 j hj
    · rw [h3 j (by omega)]; exact h.2.2.2 j (by omega)) (h1 0 (by omega)))
theorem rel_try {u v u' v' : MM} (h : relT u v) (hu : ∀ a, a ≠ 1 → a ≠ 3 → a ≠ 7 → a ≠ 8 → a ≠ 9 → u' a = u a) (hv : tR v v') (h1 : v' 1 = v 1) (h17 : v' 0 17 = -1) : relT u' v' := by
  obtain ⟨⟨n, hd, td, hRS⟩, -, -, h17a, -⟩ := id h
  refine rel_now h ⟨fun k a b => hu k (by omega) (by omega) (by omega) (by omega) (by omega), hu 0 (by omega) (by omega) (by omega) (by omega) (by omega), hu 4 (by omega) (by omega) (by omega) (by omega) (by omega), hu 5 (by omega) (by omega) (by omega) (by omega) (by omega)⟩ ⟨hv.1 2 (by omega) (by omega) (by omega) (by omega) (by omega) (by omega) (by omega), hv.1 8 (by omega) (by omega) (by omega) (by omega) (by omega) (by omega) (by omega), hv.2.1 4 (by omega), hv.2.1 16 (by omega), h17.trans h17a.symm, hv.2.1 23 (by omega)⟩ ⟨n, hd, td, ?_⟩
  rw [h1]
  exact hRS.rows (fun k a b => hu k (by omega) (by omega) (by omega) (by omega) (by omega))
/-! a day -/
theorem RS.word {u u' : MM} {s s' : Nat → Int32} {n hd td : Nat} {c : Cx} {w : Wd} (h : RS u 10 s n hd td) (hc : CxOk c) (ec : cN c = n) (hw : WdOk c w) (wu : WdU u' 27 w) (wv : WdV s' w) (hD : wD w < 1000) (hr : ∀ k, 10 ≤ k → k < 36 → k ≠ 27 → k ≠ 28 → k ≠ 29 → u' k = u k) (hs : ∀ k, 18 ≤ k → s' k = s k) : RS u' 10 s' n (wH w) (wT w) := by
  obtain ⟨h1, h2, h3, h4, h5, h6, h7, h8⟩ := h
  obtain ⟨p1, p2, p3, p4, p5, p6⟩ := h1
  subst ec
  refine ⟨⟨p1, by rw [hs 18 (by omega)]; exact p2, hw.2.1, wv.2.2.1, hw.2.2.1, wv.2.2.2.1⟩, ?_, ⟨?_, by rw [hs 19 (by omega)]; exact h3.2.1, by rw [hs 22 (by omega)]; exact h3.2.2⟩, h4.kp (fun k hk => hs k (by omega)), fun p hp hb => ?_, h6.kp ⟨hr _ (by omega) (by omega) (by omega) (by omega) (by omega), hr _ (by omega) (by omega) (by omega) (by omega) (by omega)⟩ (fun k hk => hs k (by omega)), h7.kp ⟨hr _ (by omega) (by omega) (by omega) (by omega) (by omega), hr _ (by omega) (by omega) (by omega) (by omega) (by omega)⟩ (fun k hk => hs k (by omega)), h8.kp (fun k a b => hr k (by omega) (by omega) (by omega) (by omega) (by omega)) (fun k hk => hs k (by omega))⟩
  · intro i a b hm
    by_cases ha : a = 17
    · have hi : i < 4 ∧ b = i := by unfold mir at hm; omega
      obtain ⟨hi, rfl⟩ := hi
      subst ha
      rcases i4cases hi with rfl | rfl | rfl | rfl
      · exact wu.1.trans wv.1.symm
      · exact wu.2.1.trans wv.2.1.symm
      · exact wu.2.2.1.trans wv.2.2.1.symm
      · exact wu.2.2.2.1.trans wv.2.2.2.1.symm
    · have e : 10 ≤ 10 + a ∧ 10 + a < 34 ∧ 10 + a ≠ 27 ∧ 10 + a ≠ 28 ∧ 10 + a ≠ 29 ∧ 18 ≤ i := by unfold mir at hm; omega
      rw [hr _ e.1 (by omega) e.2.2.1 e.2.2.2.1 e.2.2.2.2.1, hs _ e.2.2.2.2.2]
      exact h2 i a b hm
  · rw [wv.1]; exact ⟨wD w, hD, rfl⟩
  · obtain ⟨a1, a2⟩ := wu.2.2.2.2 p hp hb
    obtain ⟨b1, b2⟩ := wv.2.2.2.2 p hp hb
    exact ⟨a1.trans b1.symm, by rw [b1]; exact ⟨wN w p, hw.2.2.2 p hp hb, rfl⟩, a2.trans b2.symm⟩
theorem rel_day (N : Nat) (hN : 200 ≤ N) : ∀ (u v : MM), relT u v → wX10_day N u (fun r u2 => wX11_day N v (fun r2 v2 => r = r2 ∧ relT u2 v2)) := by
  intro u v h
  obtain ⟨⟨n, hd, td, hRS⟩, -, h16, h17, -⟩ := id h
  obtain ⟨c, w, hc, hu, hv, hw, wu, wv, en, eh, et, hD⟩ := hRS.nums
  unfold wX10_day
  rw [wu.1]
  by_cases h9 : wD w = 999
  · refine b_f (show ¬ nI (wD w) < nI 999 from nI_nlt (by omega) (by omega)) (n_f ?_ ⟨rfl, h⟩)
    rw [wv.1, h9]
    rfl
  · refine b_t (show nI (wD w) < nI 999 from nl_lt (by omega) (by omega)) (goDay_c (x := 7) (st := 0) (z := 7) hN hc hu hw wu (Or.inr rfl) (chO.none c w).ok (Nat.le_refl _) (fun u3 hR wu3 => ?_))
    have e9 : nI (wD w) = nI 999 ↔ wD w = 999 := nI_eq (by omega) (by omega)
    refine n_t (by rw [wv.1]; exact fun y => h9 (e9.mp y)) (goes_m (x := 7) (st := 0) (z := 7) hN hc hv hw wv (chO.none c w).ok (Nat.le_refl _) h16 h17 (fun y => by omega) (fun v3 hg g17 wv3 => ⟨rfl, ?_⟩))
    refine rel_now h ⟨fun k a b => hR k (by omega) (by omega) (by omega) (by omega), hR 0 (by omega) (by omega) (by omega) (by omega), hR 4 (by omega) (by omega) (by omega) (by omega), hR 5 (by omega) (by omega) (by omega) (by omega)⟩ ⟨hg.1 2 (by omega) (by omega) (by omega) (by omega) (by omega) (by omega), hg.1 8 (by omega) (by omega) (by omega) (by omega) (by omega) (by omega), hg.2.1 4 (by omega) (by omega) (by omega), hg.2.1 16 (by omega) (by omega) (by omega), g17.trans h17.symm, hg.2.1 23 (by omega) (by omega) (by omega)⟩ ⟨n, _, _, hRS.word hc en (dayW_ok hc hw (chO.none c w).ok (Nat.le_refl _) (by omega)) wu3 wv3 (by show wD w + 1 < 1000; omega) (fun k a b p q r => hR k (by omega) (by omega) (by omega) (by omega)) hg.2.2⟩
