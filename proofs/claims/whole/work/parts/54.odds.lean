/-! ODDS, MEAN -/
theorem finP_le {c : Cx} {w : Wd} {x st : Nat} (hc : CxOk c) (hw : WdOk c w) : ∀ j, j ≤ 7 → finP c w x st j ≤ j * 9900
  | 0, _ => Nat.le_refl _
  | j + 1, hj => by
    have ih := finP_le (x := x) (st := st) hc hw j (by omega)
    rw [finP]
    split
    · rename_i ht
      have h1 := askF_le hw (show j < 7 by omega) (tll_hd ht)
      have h2 := fineF_le (w := w) (one := j) hc
      have h3 : (askF c w j - pc (chs c w x st j)) * fineF c w j ≤ 10 * 990 := Nat.mul_le_mul (by omega) h2
      omega
    · rw [Nat.add_zero]
      exact Nat.le_trans ih (Nat.mul_le_mul_right _ (by omega))
theorem end_fin {c : Cx} {z : Nat} (hc : CxOk c) (hz : z ≤ 7) : ∀ (r : Nat) (w : Wd) (x st a : Nat), WdOk c w → chOk c w x st → wD w + r < 2000 → wF w = nI a → ∃ b, b ≤ a + r * 69300 ∧ wF (endW c z r w x st) = nI b
  | 0, w, x, st, a, _, _, _, ha => ⟨a, by omega, ha⟩
  | r + 1, w, x, st, a, hw, hx, hD, ha => by
    have hn := hc.1
    rw [endW]
    split
    · exact ⟨a, by omega, ha⟩
    · have h1 := finP_le (x := x) (st := st) hc hw (cN c) hn
      have e : wF (dayW c w x st z) = nI (a + finP c w x st (cN c)) := by
        show wF w + nI (finP c w x st (cN c)) = _
        rw [ha, nI_add]
      obtain ⟨b, hb, eb⟩ := end_fin hc hz r _ 7 0 _ (dayW_ok hc hw hx hz (by omega)) (chO.none c _).ok (by show wD w + 1 + r < 2000; omega) e
      exact ⟨b, by omega, eb⟩
theorem run_fin {c : Cx} {w : Wd} {p num : Nat} (hc : CxOk c) (hw : WdOk c w) (hD : wD w < 1000) (hp : p < cN c) (hn : num < 10) : ∃ b, b ≤ 554400 ∧ wF (runW c w p num) = nI b := by
  obtain ⟨b, hb, eb⟩ := end_fin (z := 7) hc (Nat.le_refl _) 8 _ 7 0 0 (begW_ok hw hp hn) (chO.none c _).ok (by show wD w + 8 < 2000; omega) rfl
  exact ⟨b, by omega, eb⟩
def meaS (c : Cx) (w : Wd) (num : Nat) : Nat → Int64
  | 0 => 0
  | j + 1 => meaS c w num j + Int32.toInt64 (wF (runW c w j num))
theorem meaS_n {c : Cx} {w : Wd} {num : Nat} (hc : CxOk c) (hw : WdOk c w) (hD : wD w < 1000) (hn : num < 10) : ∀ j, j ≤ cN c → ∃ b, b ≤ j * 554400 ∧ meaS c w num j = lN b
  | 0, _ => ⟨0, Nat.le_refl _, rfl⟩
  | j + 1, hj => by
    obtain ⟨b, hb, eb⟩ := meaS_n hc hw hD hn j (by omega)
    obtain ⟨d, hd, ed⟩ := run_fin hc hw hD (show j < cN c by omega) hn
    refine ⟨b + d, by omega, ?_⟩
    rw [meaS, eb, ed, nI_l (by omega), lN_add]
def wayT (c : Cx) (w : Wd) (a num : Nat) : Nat → Nat
  | 0 => 0
  | j + 1 => wayT c w a num j + (if j = a then 0 else if (wH (runW c w j num)).testBit a = true then 1 else 0)
theorem wayT_le (c : Cx) (w : Wd) (a num : Nat) : ∀ j, wayT c w a num j ≤ j
  | 0 => Nat.le_refl _
  | j + 1 => by
    have := wayT_le c w a num j
    rw [wayT]
    split
    · omega
    · split <;> omega
def frac (part A B : Int64) (p : Int32) : Int64 := if p = 0 then A / part else B / part
theorem lc0 {b : Nat} (hb : b < 2 ^ 63) : lg_cmp (lN b) 0 = 0 ↔ b = 0 := by
  rw [lg_cmp_eq]
  exact pk_lEQ (b := 0) hb (by omega)
theorem ln0 {b : Nat} (hb : b < 2 ^ 63) (h : b ≠ 0) : ¬ lN b = 0 := fun z => h ((pk_lEQ (b := 0) hb (by omega)).mp z)
theorem part_lp (N A B : Nat) (p : Int32) (K : Int64 → Prop) (G : Nat) (hG : G ≠ 0) (k : K (frac (lN G) (lN A) (lN B) p)) : ∀ (fl a b s : Nat), b < fl → s + b < 200 → a < 2 ^ 62 → a ≠ 0 → Nat.gcd a b = G → wX10_partOf_b9 N K fl (lN A) (lN B) p (lN a) (lN b) (nI s) := by
  intro fl
  induction fl with
  | zero => intro a b s h; omega
  | succ g ih =>
    intro a b s hf hs ha h0 hg
    refine b_f (show ¬ nI 200 ≤ nI s from nI_ge (by omega) (by omega)) ?_
    by_cases hb : b = 0
    · subst hb
      rw [Nat.gcd_zero_right] at hg
      subst hg
      refine b_t ((lc0 (by omega)).mpr rfl) (n_t (fun y => hG ((lc0 (by omega)).mp y)) ?_)
      unfold frac at k
      by_cases hp : p = 0
      · rw [if_pos hp] at k
        exact n_f hp ⟨ln0 (by omega) hG, k⟩
      · rw [if_neg hp] at k
        exact n_t hp ⟨ln0 (by omega) hG, k⟩
    · refine b_f (fun y => hb ((lc0 (by omega)).mp y)) ⟨ln0 (by omega) hb, fun y3 e3 y4 e4 => ?_⟩
      have hm : a % b < b := Nat.mod_lt a (by omega)
      rw [pk_lRem (by omega) (by omega) (by omega)] at e3
      rw [i_one] at e4
      subst e3 e4
      exact ih b (a % b) (s + 1) (by omega) (by omega) (by omega) hb (by rw [Nat.gcd_comm, ← Nat.gcd_rec, Nat.gcd_comm]; exact hg)
theorem part_c {N A B : Nat} {p : Int32} {K : Int64 → Prop} (hN : 200 ≤ N) (hA : A < 2 ^ 62) (hB : B ≠ 0) (hB2 : B < 100) (k : K (frac (lN (Nat.gcd A B)) (lN A) (lN B) p)) : wX10_partOf N (lN A) (lN B) p K := by
  have hG : Nat.gcd A B ≠ 0 := fun z => hB (Nat.eq_zero_of_gcd_eq_zero_right z)
  obtain ⟨g, rfl⟩ : ∃ g, N = g + 1 := ⟨N - 1, by omega⟩
  refine b_f (show ¬ nI 200 ≤ nI 0 from nI_ge (by omega) (by omega)) ?_
  by_cases ha : A = 0
  · subst ha
    rw [Nat.gcd_zero_left] at k
    refine b_t ((lc0 (by omega)).mpr rfl) (n_t (fun y => hB ((lc0 (by omega)).mp y)) ?_)
    unfold frac at k
    by_cases hp : p = 0
    · rw [if_pos hp] at k
      exact n_f hp ⟨ln0 (by omega) hB, k⟩
    · rw [if_neg hp] at k
      exact n_t hp ⟨ln0 (by omega) hB, k⟩
  · refine b_f (fun y => ha ((lc0 (by omega)).mp y)) ⟨ln0 (by omega) ha, fun y3 e3 y4 e4 => ?_⟩
    have hm : B % A ≤ B := Nat.mod_le B A
    rw [pk_lRem (by omega) (by omega) (by omega)] at e3
    have e4' : y4 = nI 1 := e4
    subst e3 e4'
    exact part_lp (g + 1) A B p K _ hG k g A (B % A) 1 (by omega) (by omega) hA ha (by rw [Nat.gcd_comm, ← Nat.gcd_rec])
theorem low_lp (N A B : Nat) (p : Int32) (K : Int64 → Prop) (G : Nat) (hG : G ≠ 0) (k : K (frac (lN G) (lN A) (lN B) p)) : ∀ (fl a b : Nat), b < fl → a < 2 ^ 62 → b < 2 ^ 62 → Nat.gcd a b = G → wX11_lowest_b6 N K fl (lN A) (lN B) p (lN a) (lN b) := by
  intro fl
  induction fl with
  | zero => intro a b h; omega
  | succ g ih =>
    intro a b hf ha hb2 hg
    by_cases hb : b = 0
    · subst hb
      rw [Nat.gcd_zero_right] at hg
      subst hg
      refine b_t ((lc0 (by omega)).mpr rfl) ?_
      unfold frac at k
      by_cases hp : p = 0
      · rw [if_pos hp] at k
        exact n_f hp ⟨ln0 (by omega) hG, k⟩
      · rw [if_neg hp] at k
        exact n_t hp ⟨ln0 (by omega) hG, k⟩
    · refine b_f (fun y => hb ((lc0 (by omega)).mp y)) ⟨ln0 (by omega) hb, fun y3 e3 => ?_⟩
      have hm : a % b < b := Nat.mod_lt a (by omega)
      rw [pk_lRem (by omega) (by omega) (by omega)] at e3
      subst e3
      exact ih b (a % b) (by omega) (by omega) (by omega) (by rw [Nat.gcd_comm, ← Nat.gcd_rec, Nat.gcd_comm]; exact hg)
theorem low_m {N A B : Nat} {p : Int32} {K : Int64 → Prop} (hN : 200 ≤ N) (hA : A < 2 ^ 62) (hB : B ≠ 0) (hB2 : B < 100) (k : K (frac (lN (Nat.gcd A B)) (lN A) (lN B) p)) : wX11_lowest N (lN A) (lN B) p K :=
  low_lp N A B p K _ (fun z => hB (Nat.eq_zero_of_gcd_eq_zero_right z)) k N A B (by omega) hA (by omega) rfl
theorem ways_lp (N a num : Nat) (c : Cx) (w : Wd) (u0 : MM) (K : Int32 → MM → Prop) (hN : 200 ≤ N) (hc : CxOk c) (hu : CxU u0 c) (hw : WdOk c w) (wu : WdU u0 27 w) (hD : wD w < 1000) (hnum : num < 10) (ha : a < cN c) (k : ∀ u' : MM, (∀ a, a ≠ 1 → a ≠ 3 → a ≠ 7 → a ≠ 8 → a ≠ 9 → u' a = u0 a) → K (nI (wayT c w a num (cN c))) u') : ∀ (r j fl : Nat) (u : MM), r + j = cN c → r < fl → (∀ a, a ≠ 1 → a ≠ 3 → a ≠ 7 → a ≠ 8 → a ≠ 9 → u a = u0 a) → wX1_waysToHear_b5 N K fl (nI a) (nI num) (nI (wayT c w a num j)) (nI j) u := by
  have hn := hc.1
  intro r
  induction r with
  | zero =>
    intro j fl u hj hfl hR
    obtain ⟨g, rfl⟩ : ∃ g, fl = g + 1 := ⟨fl - 1, by omega⟩
    have e : j = cN c := by omega
    subst e
    exact b_t (by rw [hR 21 (by omega) (by omega) (by omega) (by omega) (by omega), hu.1]; exact nI_le (by omega) (by omega)) (k u hR)
  | succ r ih =>
    intro j fl u hj hfl hR
    obtain ⟨g, rfl⟩ : ∃ g, fl = g + 1 := ⟨fl - 1, by omega⟩
    refine b_f (by rw [hR 21 (by omega) (by omega) (by omega) (by omega) (by omega), hu.1]; exact nI_ge (by omega) (by omega)) ?_
    have nxt : ∀ (m : Nat) (u2 : MM), wayT c w a num (j + 1) = m → (∀ a, a ≠ 1 → a ≠ 3 → a ≠ 7 → a ≠ 8 → a ≠ 9 → u2 a = u0 a) → wX1_waysToHear_b89 N K (wX1_waysToHear_b5 N K g) (nI a) (nI num) (nI m) (nI j) u2 := by
      intro m u2 em hR2 y10 e10
      rw [i_one] at e10
      subst e10 em
      exact ih (j + 1) g u2 (by omega) (by omega) hR2
    rw [wayT] at nxt
    have ej : nI j = nI a ↔ j = a := nI_eq (by omega) (by omega)
    by_cases hja : j = a
    · exact b_t (ej.mpr hja) (nxt _ u (by rw [if_pos hja]; rfl) hR)
    refine b_f (fun y => hja (ej.mp y)) ?_
    rw [if_neg hja] at nxt
    have hu1 : CxU u c := hu.same (fun a h1 h2 => hR a (by omega) (by omega) (by omega) (by omega) (by omega))
    have wu1 : WdU u 27 w := wu.same (hR _ (by omega) (by omega) (by omega) (by omega) (by omega)) (hR _ (by omega) (by omega) (by omega) (by omega) (by omega)) (hR _ (by omega) (by omega) (by omega) (by omega) (by omega))
    refine brun_c hN hc hu1 hw wu1 hD (by omega) hnum (fun u6 r6 w6 => ?_)
    have hW := runW_ok hc hw hD (show j < cN c by omega) hnum
    have hH7 : wH (runW c w j num) < 128 := lt128 hW.2.1 hn
    have hR6 : ∀ a, a ≠ 1 → a ≠ 3 → a ≠ 7 → a ≠ 8 → a ≠ 9 → u6 a = u0 a := fun a h1 h3 h7 h8 h9 => (r6 a h3 h7 h8 h9).trans (hR a h1 h3 h7 h8 h9)
    rw [w6.2.2.1]
    cases hb : (wH (runW c w j num)).testBit a
    · refine hb_no hH7 (by omega) hb (b_t rfl (fun y9 e9 => ?_))
      rw [show (0 : Int32) = nI 0 from rfl, nI_add] at e9
      subst e9
      exact nxt _ u6 (by rw [if_neg (by rw [hb]; decide)]) hR6
    · refine hb_yes hH7 (by omega) hb (b_f (by decide) (fun y9 e9 => ?_))
      rw [i_one] at e9
      subst e9
      exact nxt _ u6 (by rw [if_pos hb]) hR6
theorem ways_mlp (N a num : Nat) (c : Cx) (w : Wd) (v0 : MM) (x3 : Int32) (K : Int64 → MM → Prop) (hN : 200 ≤ N) (hc : CxOk c) (hv : CxV (v0 1) c) (hw : WdOk c w) (wv : WdV (v0 1) w) (hD : wD w < 1000) (hnum : num < 10) (ha : a < cN c) (h2 : 2 ≤ cN c) (h16 : v0 0 16 = -1) (k : ∀ v' : MM, tR v0 v' → v' 1 = v0 1 → v' 0 17 = -1 → K (frac (lN (Nat.gcd (wayT c w a num (cN c)) (cN c - 1))) (lN (wayT c w a num (cN c))) (lN (cN c - 1)) x3) v') : ∀ (r j fl : Nat) (v : MM), r + j = cN c → r < fl → tR v0 v → v 1 = v0 1 → v 0 17 = -1 → wX11_odds_b52 N K fl (nI a) (nI num) x3 (lN (wayT c w a num j)) (nI j) v := by
  have hn := hc.1
  intro r
  induction r with
  | zero =>
    intro j fl v hj hfl hR h1 h17
    obtain ⟨g, rfl⟩ : ∃ g, fl = g + 1 := ⟨fl - 1, by omega⟩
    have e : j = cN c := by omega
    subst e
    have hl := wayT_le c w a num (cN c)
    refine b_t (by rw [h1, hv.1]; exact nI_le (by omega) (by omega)) ?_
    rw [h1, hv.1, nI_l (by omega), show (1 : Int64) = lN 1 from rfl, lN_sub (by omega)]
    exact low_m hN (by omega) (by omega) (by omega) (k v hR h1 h17)
  | succ r ih =>
    intro j fl v hj hfl hR h1 h17
    obtain ⟨g, rfl⟩ : ∃ g, fl = g + 1 := ⟨fl - 1, by omega⟩
    refine b_f (by rw [h1, hv.1]; exact nI_ge (by omega) (by omega)) ?_
    have nxt : ∀ (m : Nat) (v2 : MM), wayT c w a num (j + 1) = m → tR v0 v2 → v2 1 = v0 1 → v2 0 17 = -1 → wX11_odds_b104 N K (wX11_odds_b52 N K g) (nI a) (nI num) x3 (lN m) (nI j) v2 := by
      intro m v2 em t2 s2 e2 y24 e24
      rw [i_one] at e24
      subst e24 em
      exact ih (j + 1) g v2 (by omega) (by omega) t2 s2 e2
    rw [wayT] at nxt
    have ej : nI j = nI a ↔ j = a := nI_eq (by omega) (by omega)
    by_cases hja : j = a
    · exact b_t (ej.mpr hja) (nxt _ v (by rw [if_pos hja]; rfl) hR h1 h17)
    refine b_f (fun y => hja (ej.mp y)) ?_
    rw [if_neg hja] at nxt
    refine brun_m (v0 := v0) hN hc (by rw [h1]; exact hv) hw (by rw [h1]; exact wv) hD (by omega) hnum (by rw [hR.2.1 16 (by omega)]; exact h16) h17 hR (fun v6 t6 z6 e6 s6 w6 => ?_)
    have hW := runW_ok hc hw hD (show j < cN c by omega) hnum
    have hH7 : wH (runW c w j num) < 128 := lt128 hW.2.1 hn
    cases hb : (wH (runW c w j num)).testBit a
    · refine hh_no w6.2.2.1 hH7 (by omega) hb (b_t rfl (fun y21 e21 => tback_m (by omega) t6 (fun v7 t7 s7 z7 => ?_)))
      rw [show (0 : Int64) = lN 0 from rfl, lN_add] at e21
      subst e21
      exact nxt _ v7 (by rw [if_neg (by rw [hb]; decide)]) t7 s7 (by rw [z7]; exact e6)
    · refine hh_yes w6.2.2.1 hH7 (by omega) hb (b_f (by decide) (fun y21 e21 => tback_m (by omega) t6 (fun v7 t7 s7 z7 => ?_)))
      rw [lN_1] at e21
      subst e21
      exact nxt _ v7 (by rw [if_pos hb]) t7 s7 (by rw [z7]; exact e6)
theorem rel_odds (N : Nat) (hN : 200 ≤ N) : ∀ (u v : MM) (x1 x2 x3 : Int32), relT u v → wX10_odds N x1 x2 x3 u (fun r u2 => wX11_odds N x1 x2 x3 v (fun r2 v2 => r = r2 ∧ relT u2 v2)) := by
  intro u v x1 x2 x3 h
  obtain ⟨⟨n, hd, td, hRS⟩, -, h16, h17, -⟩ := id h
  obtain ⟨c, w, hc, hu, hv, hw, wu, wv, en, eh, et, hD⟩ := hRS.nums
  have hn := hc.1
  rcases arg3 x1 (n := cN c) (by omega) with hx | ⟨a, ha, rfl⟩
  · exact has_no hu.1 hx (b_t rfl (per_no hv.1 hn hx (b_t rfl ⟨rfl, h⟩)))
  refine has_yes hu.1 hn ha (b_f (by decide) ?_)
  have m1 : ∀ K2 : Int64 → MM → Prop, wX11_in N x2 0 9 (fun r4 => ((r4 = 0 → (K2 (-9223372036854775808) v)) ∧ (¬ r4 = 0 → (wX11_in N x3 0 1 (fun r6 => ((r6 = 0 → (K2 (-9223372036854775808) v)) ∧ (¬ r6 = 0 → ((¬ (v 1 18) = 1 → (wX11_keeps N v (fun u10 => (wX11_odds_b52 N K2 N (nI a) x2 x3 0 0 u10)))) ∧ ((v 1 18) = 1 → (K2 (-9223372036854775808) v)))))))))) → wX11_odds N (nI a) x2 x3 v K2 := fun K2 q => per_yes hv.1 hn ha (b_f (by decide) q)
  rcases arg3 x2 (n := 10) (by omega) with hx | ⟨b, hb, rfl⟩
  · exact num_no hx (b_t rfl (m1 _ (min_no (n := 9) (by omega) hx (b_t rfl ⟨rfl, h⟩))))
  refine num_yes hb (b_f (by decide) ?_)
  rcases arg3 x3 (n := 2) (by omega) with hx | ⟨d, hd2, rfl⟩
  · exact in_no (n := 2) hx (b_t rfl (m1 _ (min_yes (n := 9) (by omega) (by omega) (b_f (by decide) (min_no (n := 1) (by omega) hx (b_t rfl ⟨rfl, h⟩))))))
  refine in_yes (n := 2) hd2 (by omega) (b_f (by decide) ?_)
  have mid : ∀ K2 : Int64 → MM → Prop, ((¬ (v 1 18) = 1 → (wX11_keeps N v (fun u10 => (wX11_odds_b52 N K2 N (nI a) (nI b) (nI d) 0 0 u10)))) ∧ ((v 1 18) = 1 → (K2 (-9223372036854775808) v))) → wX11_odds N (nI a) (nI b) (nI d) v K2 := fun K2 q => m1 K2 (min_yes (n := 9) (by omega) (by omega) (b_f (by decide) (min_yes (n := 1) (by omega) (by omega) (b_f (by decide) q))))
  rw [hv.1] at mid
  rw [hu.1]
  have e1 : nI (cN c) = 1 ↔ cN c = 1 := nI_eq (b := 1) (by omega) (by omega)
  by_cases h1 : cN c = 1
  · exact b_f (show ¬ nI 2 ≤ nI (cN c) from nI_ge (by omega) (by omega)) (mid _ (n_f (e1.mpr h1) ⟨rfl, h⟩))
  refine b_t (show nI 2 ≤ nI (cN c) from nI_le (by omega) (by omega)) ?_
  refine ways_lp N a b c w u _ hN hc hu hw wu hD hb ha (fun u7 r7 => ?_) (cN c) 0 N u (by omega) (by omega) (fun _ _ _ _ _ _ => rfl)
  have hl := wayT_le c w a b (cN c)
  rw [r7 21 (by omega) (by omega) (by omega) (by omega) (by omega), hu.1, show (1 : Int32) = nI 1 from rfl, pk_sub (by omega), nI_l (by omega), nI_l (by omega)]
  refine part_c hN (by omega) (by omega) (by omega) (mid _ (n_t (fun y => h1 (e1.mp y)) (tkeep_m (by omega) (fun v4 t4 s4 z4 => ?_))))
  exact ways_mlp N a b c w v (nI d) _ hN hc hv hw wv hD hb ha (by omega) h16 (fun v7 t7 s7 e7 => ⟨rfl, rel_try h r7 t7 s7 e7⟩) (cN c) 0 N v4 (by omega) (by omega) t4 s4 (by rw [z4]; exact h17)
theorem mean_lp (N num : Nat) (c : Cx) (w : Wd) (u0 : MM) (K : Int64 → MM → Prop) (hN : 200 ≤ N) (hc : CxOk c) (hu : CxU u0 c) (hw : WdOk c w) (wu : WdU u0 27 w) (hD : wD w < 1000) (hnum : num < 10) (k : ∀ u' : MM, (∀ a, a ≠ 1 → a ≠ 3 → a ≠ 7 → a ≠ 8 → a ≠ 9 → u' a = u0 a) → K (meaS c w num (cN c)) u') : ∀ (r j fl : Nat) (u : MM), r + j = cN c → r < fl → (∀ a, a ≠ 1 → a ≠ 3 → a ≠ 7 → a ≠ 8 → a ≠ 9 → u a = u0 a) → wX1_finesOfAll_b5 N K fl (nI num) (meaS c w num j) (nI j) u := by
  have hn := hc.1
  intro r
  induction r with
  | zero =>
    intro j fl u hj hfl hR
    obtain ⟨g, rfl⟩ : ∃ g, fl = g + 1 := ⟨fl - 1, by omega⟩
    have e : j = cN c := by omega
    subst e
    exact b_t (by rw [hR 21 (by omega) (by omega) (by omega) (by omega) (by omega), hu.1]; exact nI_le (by omega) (by omega)) (k u hR)
  | succ r ih =>
    intro j fl u hj hfl hR
    obtain ⟨g, rfl⟩ : ∃ g, fl = g + 1 := ⟨fl - 1, by omega⟩
    refine b_f (by rw [hR 21 (by omega) (by omega) (by omega) (by omega) (by omega), hu.1]; exact nI_ge (by omega) (by omega)) ?_
    have hu1 : CxU u c := hu.same (fun a h1 h2 => hR a (by omega) (by omega) (by omega) (by omega) (by omega))
    have wu1 : WdU u 27 w := wu.same (hR _ (by omega) (by omega) (by omega) (by omega) (by omega)) (hR _ (by omega) (by omega) (by omega) (by omega) (by omega)) (hR _ (by omega) (by omega) (by omega) (by omega) (by omega))
    refine brun_c hN hc hu1 hw wu1 hD (by omega) hnum (fun u6 r6 w6 y6 e6 y7 e7 => ?_)
    rw [w6.2.1] at e6
    rw [i_one] at e7
    subst e6 e7
    exact ih (j + 1) g u6 (by omega) (by omega) (fun a h1 h3 h7 h8 h9 => (r6 a h3 h7 h8 h9).trans (hR a h1 h3 h7 h8 h9))
theorem mean_mlp (N num : Nat) (c : Cx) (w : Wd) (v0 : MM) (x2 : Int32) (K : Int64 → MM → Prop) (hN : 200 ≤ N) (hc : CxOk c) (hv : CxV (v0 1) c) (hw : WdOk c w) (wv : WdV (v0 1) w) (hD : wD w < 1000) (hnum : num < 10) (h16 : v0 0 16 = -1) (k : ∀ v' : MM, tR v0 v' → v' 1 = v0 1 → v' 0 17 = -1 → wX11_lowest N (meaS c w num (cN c)) (lN (cN c)) x2 (fun r => K r v')) : ∀ (r j fl : Nat) (v : MM), r + j = cN c → r < fl → tR v0 v → v 1 = v0 1 → v 0 17 = -1 → wX11_mean_b42 N K fl (nI num) x2 (meaS c w num j) (nI j) v := by
  have hn := hc.1
  intro r
  induction r with
  | zero =>
    intro j fl v hj hfl hR h1 h17
    obtain ⟨g, rfl⟩ : ∃ g, fl = g + 1 := ⟨fl - 1, by omega⟩
    have e : j = cN c := by omega
    subst e
    refine b_t (by rw [h1, hv.1]; exact nI_le (by omega) (by omega)) ?_
    rw [h1, hv.1, nI_l (by omega)]
    exact k v hR h1 h17
  | succ r ih =>
    intro j fl v hj hfl hR h1 h17
    obtain ⟨g, rfl⟩ : ∃ g, fl = g + 1 := ⟨fl - 1, by omega⟩
    refine b_f (by rw [h1, hv.1]; exact nI_ge (by omega) (by omega)) ?_
    refine brun_m (v0 := v0) hN hc (by rw [h1]; exact hv) hw (by rw [h1]; exact wv) hD (by omega) hnum (by rw [hR.2.1 16 (by omega)]; exact h16) h17 hR (fun v6 t6 z6 e6 s6 w6 y14 e14 => tback_m (by omega) t6 (fun v7 t7 s7 z7 y17 e17 => ?_))
    rw [w6.2.1] at e14
    rw [i_one] at e17
    subst e14 e17
    exact ih (j + 1) g v7 (by omega) (by omega) t7 s7 (by rw [z7]; exact e6)
theorem rel_mean (N : Nat) (hN : 200 ≤ N) : ∀ (u v : MM) (x1 x2 : Int32), relT u v → wX10_mean N x1 x2 u (fun r u2 => wX11_mean N x1 x2 v (fun r2 v2 => r = r2 ∧ relT u2 v2)) := by
  intro u v x1 x2 h
  obtain ⟨⟨n, hd, td, hRS⟩, -, h16, h17, -⟩ := id h
  obtain ⟨c, w, hc, hu, hv, hw, wu, wv, en, eh, et, hD⟩ := hRS.nums
  have hn := hc.1
  rcases arg3 x1 (n := 10) (by omega) with hx | ⟨b, hb, rfl⟩
  · exact num_no hx (b_t rfl (min_no (n := 9) (by omega) hx (b_t rfl ⟨rfl, h⟩)))
  refine num_yes hb (b_f (by decide) ?_)
  rcases arg3 x2 (n := 2) (by omega) with hx | ⟨d, hd2, rfl⟩
  · exact in_no (n := 2) hx (b_t rfl (min_yes (n := 9) (by omega) (by omega) (b_f (by decide) (min_no (n := 1) (by omega) hx (b_t rfl ⟨rfl, h⟩)))))
  refine in_yes (n := 2) hd2 (by omega) (b_f (by decide) ?_)
  have mid : ∀ K2 : Int64 → MM → Prop, ((¬ (v 1 18) = 0 → (wX11_keeps N v (fun u7 => (wX11_mean_b42 N K2 N (nI b) (nI d) 0 0 u7)))) ∧ ((v 1 18) = 0 → (K2 (-9223372036854775808) v))) → wX11_mean N (nI b) (nI d) v K2 := fun K2 q => min_yes (n := 9) (by omega) (by omega) (b_f (by decide) (min_yes (n := 1) (by omega) (by omega) (b_f (by decide) q)))
  rw [hv.1] at mid
  rw [hu.1]
  have e0 : nI (cN c) = 0 ↔ cN c = 0 := nI_eq (b := 0) (by omega) (by omega)
  by_cases h0 : cN c = 0
  · exact b_f (show ¬ nI 1 ≤ nI (cN c) from nI_ge (by omega) (by omega)) (mid _ (n_f (e0.mpr h0) ⟨rfl, h⟩))
  refine b_t (show nI 1 ≤ nI (cN c) from nI_le (by omega) (by omega)) ?_
  refine mean_lp N b c w u _ hN hc hu hw wu hD hb (fun u7 r7 => ?_) (cN c) 0 N u (by omega) (by omega) (fun _ _ _ _ _ _ => rfl)
  obtain ⟨S, hS, eS⟩ := meaS_n hc hw hD hb (cN c) (Nat.le_refl _)
  rw [r7 21 (by omega) (by omega) (by omega) (by omega) (by omega), hu.1, nI_l (by omega), eS]
  refine part_c hN (by omega) h0 (by omega) (mid _ (n_t (fun y => h0 (e0.mp y)) (tkeep_m (by omega) (fun v4 t4 s4 z4 => ?_))))
  refine mean_mlp N b c w v (nI d) _ hN hc hv hw wv hD hb h16 (fun v7 t7 s7 e7 => ?_) (cN c) 0 N v4 (by omega) (by omega) t4 s4 (by rw [z4]; exact h17)
  rw [eS]
  exact low_m hN (by omega) h0 (by omega) ⟨rfl, rel_try h r7 t7 s7 e7⟩
