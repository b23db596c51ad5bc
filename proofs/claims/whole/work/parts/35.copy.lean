theorem cpy0 {f g : Nat → Int32} {n j : Nat} (h : j < n) : va_cpy f g 0 0 n j = f j := by
  rw [pk_cpy_in (by omega) (by omega), Nat.sub_zero, Nat.zero_add]
theorem upR_at (u : MM) (k : Nat) (f : Nat → Int32) : upR u k f k = f := by funext b; simp [upR]
theorem upR_k {u : MM} {k a : Nat} {f : Nat → Int32} (h : a ≠ k) : upR u k f a = u a := by funext b; simp [upR, h]
/-- rows outside stay -/
def fr (t n : Nat) (u u' : MM) : Prop := ∀ k, k < t ∨ t + n ≤ k → u' k = u k
theorem fr.tr {t n : Nat} {a b c : MM} (h : fr t n a b) (h2 : fr t n b c) : fr t n a c := fun k hk => (h2 k hk).trans (h k hk)
theorem fr.wide {t n t2 n2 : Nat} {a b : MM} (h : fr t n a b) (h1 : t2 ≤ t) (h2 : t + n ≤ t2 + n2) : fr t2 n2 a b := fun k hk => h k (by omega)
theorem wX6_copyFrom_ok (N t o : Nat) (u : MM) (K : MM → Prop) (h : o + 2 ≤ t ∨ t + 2 ≤ o) (k : ∀ u' : MM, (∀ b, b < 100 → u' (t + 1) b = u (o + 1) b) → u' t 1 = u o 1 → fr t 2 u u' → K u') : wX6_copyFrom N t o u K := by
  intro u1 e1 u2 e2
  exact k u2 (fun b hb => by rw [e2, up_k (by omega), e1, upR_at, cpy0 hb]) (by rw [e2, up_at, e1, upR_k (by omega)]) (fun a ha => by rw [e2, up_k (by omega), e1, upR_k (by omega)])
theorem wX8_copyFrom_ok (N t o : Nat) (u : MM) (K : MM → Prop) (h : o + 8 ≤ t ∨ t + 8 ≤ o) (k : ∀ u' : MM, u' t 0 = u o 0 → u' t 1 = u o 1 → u' t 2 = u o 2 → u' t 3 = u o 3 → (∀ b, b < 10 → u' (t + 1) b = u (o + 1) b) → (∀ b, b < 10 → u' (t + 2) b = u (o + 2) b) → (∀ b, b < 10 → u' (t + 3) b = u (o + 3) b) → (∀ b, b < 10 → u' (t + 4) b = u (o + 4) b) → (∀ b, b < 100 → u' (t + 5) b = u (o + 5) b) → (∀ b, b < 100 → u' (t + 6) b = u (o + 6) b) → (∀ b, b < 100 → u' (t + 7) b = u (o + 7) b) → fr t 8 u u' → K u') : wX8_copyFrom N t o u K := by
  intro u1 e1 u2 e2 u3 e3 u4 e4 u5 e5 u6 e6 u7 e7 u8 e8 u9 e9 u10 e10 u11 e11
  exact k u11 (by rw [e11, upR_k (by omega), e10, upR_k (by omega), e9, upR_k (by omega), e8, upR_k (by omega), e7, upR_k (by omega), e6, upR_k (by omega), e5, upR_k (by omega), e4, up_j (by omega), e3, up_j (by omega), e2, up_j (by omega), e1, up_at]) (by rw [e11, upR_k (by omega), e10, upR_k (by omega), e9, upR_k (by omega), e8, upR_k (by omega), e7, upR_k (by omega), e6, upR_k (by omega), e5, upR_k (by omega), e4, up_j (by omega), e3, up_j (by omega), e2, up_at, e1, up_k (by omega)]) (by rw [e11, upR_k (by omega), e10, upR_k (by omega), e9, upR_k (by omega), e8, upR_k (by omega), e7, upR_k (by omega), e6, upR_k (by omega), e5, upR_k (by omega), e4, up_j (by omega), e3, up_at, e2, up_k (by omega), e1, up_k (by omega)]) (by rw [e11, upR_k (by omega), e10, upR_k (by omega), e9, upR_k (by omega), e8, upR_k (by omega), e7, upR_k (by omega), e6, upR_k (by omega), e5, upR_k (by omega), e4, up_at, e3, up_k (by omega), e2, up_k (by omega), e1, up_k (by omega)]) (fun b hb => by rw [e11, upR_k (by omega), e10, upR_k (by omega), e9, upR_k (by omega), e8, upR_k (by omega), e7, upR_k (by omega), e6, upR_k (by omega), e5, upR_at, cpy0 hb, e4, up_k (by omega), e3, up_k (by omega), e2, up_k (by omega), e1, up_k (by omega)]) (fun b hb => by rw [e11, upR_k (by omega), e10, upR_k (by omega), e9, upR_k (by omega), e8, upR_k (by omega), e7, upR_k (by omega), e6, upR_at, cpy0 hb, e5, upR_k (by omega), e4, up_k (by omega), e3, up_k (by omega), e2, up_k (by omega), e1, up_k (by omega)]) (fun b hb => by rw [e11, upR_k (by omega), e10, upR_k (by omega), e9, upR_k (by omega), e8, upR_k (by omega), e7, upR_at, cpy0 hb, e6, upR_k (by omega), e5, upR_k (by omega), e4, up_k (by omega), e3, up_k (by omega), e2, up_k (by omega), e1, up_k (by omega)]) (fun b hb => by rw [e11, upR_k (by omega), e10, upR_k (by omega), e9, upR_k (by omega), e8, upR_at, cpy0 hb, e7, upR_k (by omega), e6, upR_k (by omega), e5, upR_k (by omega), e4, up_k (by omega), e3, up_k (by omega), e2, up_k (by omega), e1, up_k (by omega)]) (fun b hb => by rw [e11, upR_k (by omega), e10, upR_k (by omega), e9, upR_at, cpy0 hb, e8, upR_k (by omega), e7, upR_k (by omega), e6, upR_k (by omega), e5, upR_k (by omega), e4, up_k (by omega), e3, up_k (by omega), e2, up_k (by omega), e1, up_k (by omega)]) (fun b hb => by rw [e11, upR_k (by omega), e10, upR_at, cpy0 hb, e9, upR_k (by omega), e8, upR_k (by omega), e7, upR_k (by omega), e6, upR_k (by omega), e5, upR_k (by omega), e4, up_k (by omega), e3, up_k (by omega), e2, up_k (by omega), e1, up_k (by omega)]) (fun b hb => by rw [e11, upR_at, cpy0 hb, e10, upR_k (by omega), e9, upR_k (by omega), e8, upR_k (by omega), e7, upR_k (by omega), e6, upR_k (by omega), e5, upR_k (by omega), e4, up_k (by omega), e3, up_k (by omega), e2, up_k (by omega), e1, up_k (by omega)]) (fun a ha => by rw [e11, upR_k (by omega), e10, upR_k (by omega), e9, upR_k (by omega), e8, upR_k (by omega), e7, upR_k (by omega), e6, upR_k (by omega), e5, upR_k (by omega), e4, up_k (by omega), e3, up_k (by omega), e2, up_k (by omega), e1, up_k (by omega)])
theorem wX2_copyFrom_ok (N t o : Nat) (u : MM) (K : MM → Prop) (h : o + 6 ≤ t ∨ t + 6 ≤ o) (k : ∀ u' : MM, u' t 0 = u o 0 → (∀ b, b < 7 → u' (t + 1) b = u (o + 1) b) → (∀ b, b < 7 → u' (t + 2) b = u (o + 2) b) → (∀ b, b < 7 → u' (t + 3) b = u (o + 3) b) → (∀ b, b < 7 → u' (t + 4) b = u (o + 4) b) → (∀ b, b < 49 → u' (t + 5) b = u (o + 5) b) → fr t 6 u u' → K u') : wX2_copyFrom N t o u K := by
  intro u1 e1 u2 e2 u3 e3 u4 e4 u5 e5 u6 e6
  exact k u6 (by rw [e6, upR_k (by omega), e5, upR_k (by omega), e4, upR_k (by omega), e3, upR_k (by omega), e2, upR_k (by omega), e1, up_at]) (fun b hb => by rw [e6, upR_k (by omega), e5, upR_k (by omega), e4, upR_k (by omega), e3, upR_k (by omega), e2, upR_at, cpy0 hb, e1, up_k (by omega)]) (fun b hb => by rw [e6, upR_k (by omega), e5, upR_k (by omega), e4, upR_k (by omega), e3, upR_at, cpy0 hb, e2, upR_k (by omega), e1, up_k (by omega)]) (fun b hb => by rw [e6, upR_k (by omega), e5, upR_k (by omega), e4, upR_at, cpy0 hb, e3, upR_k (by omega), e2, upR_k (by omega), e1, up_k (by omega)]) (fun b hb => by rw [e6, upR_k (by omega), e5, upR_at, cpy0 hb, e4, upR_k (by omega), e3, upR_k (by omega), e2, upR_k (by omega), e1, up_k (by omega)]) (fun b hb => by rw [e6, upR_at, cpy0 hb, e5, upR_k (by omega), e4, upR_k (by omega), e3, upR_k (by omega), e2, upR_k (by omega), e1, up_k (by omega)]) (fun a ha => by rw [e6, upR_k (by omega), e5, upR_k (by omega), e4, upR_k (by omega), e3, upR_k (by omega), e2, upR_k (by omega), e1, up_k (by omega)])
theorem wX9_copyFrom_ok (N t o : Nat) (u : MM) (K : MM → Prop) (h : o + 3 ≤ t ∨ t + 3 ≤ o) (k : ∀ u' : MM, u' t 0 = u o 0 → u' t 1 = u o 1 → u' t 2 = u o 2 → u' t 3 = u o 3 → (∀ b, b < 7 → u' (t + 1) b = u (o + 1) b) → (∀ b, b < 7 → u' (t + 2) b = u (o + 2) b) → fr t 3 u u' → K u') : wX9_copyFrom N t o u K := by
  intro u1 e1 u2 e2 u3 e3 u4 e4 u5 e5 u6 e6
  exact k u6 (by rw [e6, upR_k (by omega), e5, upR_k (by omega), e4, up_j (by omega), e3, up_j (by omega), e2, up_j (by omega), e1, up_at]) (by rw [e6, upR_k (by omega), e5, upR_k (by omega), e4, up_j (by omega), e3, up_j (by omega), e2, up_at, e1, up_k (by omega)]) (by rw [e6, upR_k (by omega), e5, upR_k (by omega), e4, up_j (by omega), e3, up_at, e2, up_k (by omega), e1, up_k (by omega)]) (by rw [e6, upR_k (by omega), e5, upR_k (by omega), e4, up_at, e3, up_k (by omega), e2, up_k (by omega), e1, up_k (by omega)]) (fun b hb => by rw [e6, upR_k (by omega), e5, upR_at, cpy0 hb, e4, up_k (by omega), e3, up_k (by omega), e2, up_k (by omega), e1, up_k (by omega)]) (fun b hb => by rw [e6, upR_at, cpy0 hb, e5, upR_k (by omega), e4, up_k (by omega), e3, up_k (by omega), e2, up_k (by omega), e1, up_k (by omega)]) (fun a ha => by rw [e6, upR_k (by omega), e5, upR_k (by omega), e4, up_k (by omega), e3, up_k (by omega), e2, up_k (by omega), e1, up_k (by omega)])
theorem wX4_copyFrom_lp (N t o : Nat) (u : MM) (K : MM → Prop) (m : Nat) (hm : m ≤ 6) (h : o + 3 ≤ t ∨ t + 3 ≤ o) (hu : u o 0 = nI m) (k : ∀ u' : MM, u' t 0 = nI m → (∀ b, b < m → u' (t + 1) b = u (o + 1) b) → (∀ b, b < m → u' (t + 2) b = u (o + 2) b) → fr t 3 u u' → K u') : ∀ (j i f : Nat) (w : MM), i + j = m → j < f → w t 0 = nI i → (∀ b, b < i → w (t + 1) b = u (o + 1) b) → (∀ b, b < i → w (t + 2) b = u (o + 2) b) → fr t 3 u w → wX4_copyFrom_b7 N K t o f (nI i) w := by
  intro j
  induction j with
  | zero =>
    intro i f w hi hf h0 h1 h2 h3
    obtain ⟨f, rfl⟩ : ∃ g, f = g + 1 := ⟨f - 1, by omega⟩
    have hm2 : i = m := by omega
    subst hm2
    exact b_t (by rw [h3 o (by omega), hu]; exact nI_le (by omega) (by omega)) (k w h0 h1 h2 h3)
  | succ j ih =>
    intro i f w hi hf h0 h1 h2 h3
    obtain ⟨f, rfl⟩ : ∃ g, f = g + 1 := ⟨f - 1, by omega⟩
    refine b_f (by rw [h3 o (by omega), hu]; exact nI_ge (by omega) (by omega)) ⟨vp_in_nI (by omega) (by omega), vp_in_nI (by omega) (by omega), ?_⟩
    unfold wX4_add
    rw [h0, nI_clamp (by omega), h3 (o + 1) (by omega), h3 (o + 2) (by omega)]
    refine b_f (nI_ge (a := i) (b := 6) (by omega) (by omega)) (b_t (nl_lt (a := i) (b := 6) (by omega) (by omega)) ⟨vp_in_nI (by omega) (by omega), fun w2 e2 => ?_⟩)
    have q2 : w2 t 0 = nI i := by rw [upu e2 (by omega)]; exact h0
    rw [q2, nI_clamp (by omega)]
    refine ⟨vp_in_nI (by omega) (by omega), fun w3 e3 w4 e4 => ?_⟩
    have q3 : w3 t 0 = nI i := by rw [upu e3 (by omega)]; exact q2
    rw [q3, i_one] at e4
    intro y5 e5
    rw [i_one] at e5
    subst e5
    refine ih (i + 1) f w4 (by omega) (by omega) (upx e4) (fun b hb => ?_) (fun b hb => ?_) (fun a ha => ?_)
    · rw [upu e4 (by omega), upu e3 (by omega), e2]
      by_cases hbi : b = i
      · subst hbi; rw [up_at]
      · rw [up_j hbi]; exact h1 b (by omega)
    · rw [upu e4 (by omega), e3]
      by_cases hbi : b = i
      · subst hbi; rw [up_at]
      · rw [up_j hbi, upu e2 (by omega)]; exact h2 b (by omega)
    · rw [upu e4 (by omega), upu e3 (by omega), upu e2 (by omega)]; exact h3 a ha
theorem wX4_copyFrom_ok (N t o : Nat) (u : MM) (K : MM → Prop) (m : Nat) (hN : m < N) (hm : m ≤ 6) (h : o + 3 ≤ t ∨ t + 3 ≤ o) (hu : u o 0 = nI m) (k : ∀ u' : MM, u' t 0 = nI m → (∀ b, b < m → u' (t + 1) b = u (o + 1) b) → (∀ b, b < m → u' (t + 2) b = u (o + 2) b) → fr t 3 u u' → K u') : wX4_copyFrom N t o u K := by
  intro u1 e1
  have g : fr t 3 u u1 := fun a ha => upu e1 (by omega)
  have go : u1 o = u o := g o (by omega)
  have go1 : u1 (o + 1) = u (o + 1) := g (o + 1) (by omega)
  have go2 : u1 (o + 2) = u (o + 2) := g (o + 2) (by omega)
  refine wX4_copyFrom_lp N t o u1 K m hm h (by rw [go]; exact hu) (fun u' a b c d => k u' a (fun i hi => by rw [b i hi, go1]) (fun i hi => by rw [c i hi, go2]) (g.tr d)) m 0 N u1 (by omega) hN (upx e1) (fun b hb => by omega) (fun b hb => by omega) (fun a _ => rfl)
theorem wX4_copyFrom8_lp (N t o : Nat) (u : MM) (K : MM → Prop) (m : Nat) (hm : m ≤ 8) (h : o + 3 ≤ t ∨ t + 3 ≤ o) (hu : u o 0 = nI m) (k : ∀ u' : MM, u' t 0 = nI m → (∀ b, b < m → u' (t + 1) b = u (o + 1) b) → (∀ b, b < m → u' (t + 2) b = u (o + 2) b) → fr t 3 u u' → K u') : ∀ (j i f : Nat) (w : MM), i + j = m → j < f → w t 0 = nI i → (∀ b, b < i → w (t + 1) b = u (o + 1) b) → (∀ b, b < i → w (t + 2) b = u (o + 2) b) → fr t 3 u w → wX4_copyFrom8_b7 N K t o f (nI i) w := by
  intro j
  induction j with
  | zero =>
    intro i f w hi hf h0 h1 h2 h3
    obtain ⟨f, rfl⟩ : ∃ g, f = g + 1 := ⟨f - 1, by omega⟩
    have hm2 : i = m := by omega
    subst hm2
    exact b_t (by rw [h3 o (by omega), hu]; exact nI_le (by omega) (by omega)) (k w h0 h1 h2 h3)
  | succ j ih =>
    intro i f w hi hf h0 h1 h2 h3
    obtain ⟨f, rfl⟩ : ∃ g, f = g + 1 := ⟨f - 1, by omega⟩
    refine b_f (by rw [h3 o (by omega), hu]; exact nI_ge (by omega) (by omega)) ⟨vp_in_nI (by omega) (by omega), vp_in_nI (by omega) (by omega), ?_⟩
    unfold wX4_add8
    rw [h0, nI_clamp (by omega), h3 (o + 1) (by omega), h3 (o + 2) (by omega)]
    refine b_f (nI_ge (a := i) (b := 8) (by omega) (by omega)) (b_t (nl_lt (a := i) (b := 8) (by omega) (by omega)) ⟨vp_in_nI (by omega) (by omega), fun w2 e2 => ?_⟩)
    have q2 : w2 t 0 = nI i := by rw [upu e2 (by omega)]; exact h0
    rw [q2, nI_clamp (by omega)]
    refine ⟨vp_in_nI (by omega) (by omega), fun w3 e3 w4 e4 => ?_⟩
    have q3 : w3 t 0 = nI i := by rw [upu e3 (by omega)]; exact q2
    rw [q3, i_one] at e4
    intro y5 e5
    rw [i_one] at e5
    subst e5
    refine ih (i + 1) f w4 (by omega) (by omega) (upx e4) (fun b hb => ?_) (fun b hb => ?_) (fun a ha => ?_)
    · rw [upu e4 (by omega), upu e3 (by omega), e2]
      by_cases hbi : b = i
      · subst hbi; rw [up_at]
      · rw [up_j hbi]; exact h1 b (by omega)
    · rw [upu e4 (by omega), e3]
      by_cases hbi : b = i
      · subst hbi; rw [up_at]
      · rw [up_j hbi, upu e2 (by omega)]; exact h2 b (by omega)
    · rw [upu e4 (by omega), upu e3 (by omega), upu e2 (by omega)]; exact h3 a ha
theorem wX4_copyFrom8_ok (N t o : Nat) (u : MM) (K : MM → Prop) (m : Nat) (hN : m < N) (hm : m ≤ 8) (h : o + 3 ≤ t ∨ t + 3 ≤ o) (hu : u o 0 = nI m) (k : ∀ u' : MM, u' t 0 = nI m → (∀ b, b < m → u' (t + 1) b = u (o + 1) b) → (∀ b, b < m → u' (t + 2) b = u (o + 2) b) → fr t 3 u u' → K u') : wX4_copyFrom8 N t o u K := by
  intro u1 e1
  have g : fr t 3 u u1 := fun a ha => upu e1 (by omega)
  have go : u1 o = u o := g o (by omega)
  have go1 : u1 (o + 1) = u (o + 1) := g (o + 1) (by omega)
  have go2 : u1 (o + 2) = u (o + 2) := g (o + 2) (by omega)
  refine wX4_copyFrom8_lp N t o u1 K m hm h (by rw [go]; exact hu) (fun u' a b c d => k u' a (fun i hi => by rw [b i hi, go1]) (fun i hi => by rw [c i hi, go2]) (g.tr d)) m 0 N u1 (by omega) hN (upx e1) (fun b hb => by omega) (fun b hb => by omega) (fun a _ => rfl)
