/-- what holds in the reference's row for the town -/
def TS (s : Nat → Int32) (fw lw : Nat) (P : List Cl) : Prop := (s 23 = -1 ∧ fw = 1 ∧ lw = 0 ∧ P = []) ∨ ∃ h tw : Nat, h < tw ∧ tw ≤ 5 ∧ s 19 = nI tw ∧ s 23 = nI h ∧ s (229 + h) = nI fw ∧ s (234 + h) = nI lw ∧ MP s h P
theorem tof_few {N fw lw : Nat} {P : List Cl} {v : MM} {K : Int32 → MM → Prop} (h : TS (v 1) fw lw P) (k : K (nI fw) v) : wX11_tellsOf N 229 1 v K := by
  rcases h with ⟨a, b, c, d⟩ | ⟨hh, tw, a, b, c, d, e, f, g⟩
  · exact n_f a (by rw [b] at k; exact k)
  · refine n_t (by rw [d]; exact nI_m1 (by omega)) ?_
    rw [d, i229, nI_clamp (by omega), e]
    exact ⟨vp_in_nI (by omega) (by omega), k⟩
theorem tof_law {N fw lw : Nat} {P : List Cl} {v : MM} {K : Int32 → MM → Prop} (h : TS (v 1) fw lw P) (k : K (nI lw) v) : wX11_tellsOf N 234 0 v K := by
  rcases h with ⟨a, b, c, d⟩ | ⟨hh, tw, a, b, c, d, e, f, g⟩
  · exact n_f a (by rw [c] at k; exact k)
  · refine n_t (by rw [d]; exact nI_m1 (by omega)) ?_
    rw [d, i234, nI_clamp (by omega), f]
    exact ⟨vp_in_nI (by omega) (by omega), k⟩
def cL (fw k : Nat) : Nat → Nat → Int64 → Int64
  | 0, _, t => t
  | r + 1, j, t => cL fw k r (j + 1) (if (k - j) % fw = 0 then Int32.toInt64 (nI j) + Int32.toInt64 (nI j) * t else t)
def mL (fw k : Nat) : Nat → Nat → Int64 → Int64
  | 0, _, t => t
  | r + 1, j, t => if k < j then t else mL fw k r (j + fw) (Int32.toInt64 (nI j) + Int32.toInt64 (nI j) * t)
def sC (fw k : Nat) : Int64 := if fw = 0 then Int32.toInt64 (nI k) else cL fw k k 1 0
theorem sums : ∀ fw, fw < 100 → ∀ k, k < 13 → 0 < fw → mL fw k 14 (k % fw) 0 = cL fw k k 1 0 := by decide +kernel
theorem sum_clp (N fw k : Nat) (u : MM) (K : Int64 → MM → Prop) (hf : 0 < fw) (hf2 : fw < 100) (hk : k < 13) (hu : u 13 0 = nI fw) : ∀ (r j f : Nat) (t : Int64), r + j = k + 1 → r < f → K (cL fw k r j t) u → wX8_sumOf_b15 N K f (nI k) t (nI j) u := by
  intro r
  induction r with
  | zero =>
    intro j f t hj hf hK
    obtain ⟨f, rfl⟩ : ∃ g, f = g + 1 := ⟨f - 1, by omega⟩
    exact b_t (nl_lt (by omega) (by omega)) hK
  | succ r ih =>
    intro j f t hj hf3 hK
    obtain ⟨f, rfl⟩ : ∃ g, f = g + 1 := ⟨f - 1, by omega⟩
    refine b_f (nI_nlt (by omega) (by omega)) ⟨by rw [hu]; exact nI_ne0 hf (by omega), ?_⟩
    rw [hu, pk_sub (by omega), pk_rem (by omega) hf (by omega)]
    have e0 : nI ((k - j) % fw) = 0 ↔ (k - j) % fw = 0 := nI_eq (a := (k - j) % fw) (b := 0) (by have := Nat.mod_lt (k - j) hf; omega) (by omega)
    unfold cL at hK
    by_cases hc : (k - j) % fw = 0
    · rw [if_pos hc] at hK
      refine n_f (e0.mpr hc) (fun y4 e4 y5 e5 => ?_)
      rw [i_one] at e5
      subst e4 e5
      exact ih (j + 1) f _ (by omega) (by omega) hK
    · rw [if_neg hc] at hK
      refine n_t (fun z => hc (e0.mp z)) (fun y5 e5 => ?_)
      rw [i_one] at e5
      subst e5
      exact ih (j + 1) f _ (by omega) (by omega) hK
theorem sum_c {N fw k : Nat} {u : MM} {K : Int64 → MM → Prop} (hN : 20 ≤ N) (hf2 : fw < 100) (hk : k < 13) (hu : u 13 0 = nI fw) (q : K (sC fw k) u) : wX8_sumOf N (nI k) u K := by
  unfold wX8_sumOf
  unfold sC at q
  rw [hu]
  by_cases h0 : fw = 0
  · subst h0
    rw [if_pos rfl] at q
    exact b_f (by decide) q
  · rw [if_neg h0] at q
    exact b_t (nl_lt (a := 0) (b := fw) (by omega) (by omega)) (sum_clp N fw k u K (by omega) hf2 hk hu k 1 N 0 (by omega) (by omega) q)
theorem sum_mlp (N fw k : Nat) (v : MM) (K : Int64 → MM → Prop) (hf : 0 < fw) (hf2 : fw < 100) (hk : k < 13) : ∀ (r j f : Nat) (t : Int64), k < r + j → r < f → j < 200 → K (mL fw k r j t) v → wX11_sumOf_b28 N K f (nI k) (nI fw) t (nI j) v := by
  intro r
  induction r with
  | zero =>
    intro j f t hj hf hj2 hK
    obtain ⟨f, rfl⟩ : ∃ g, f = g + 1 := ⟨f - 1, by omega⟩
    exact b_t (nl_lt (by omega) (by omega)) hK
  | succ r ih =>
    intro j f t hj hf3 hj2 hK
    obtain ⟨f, rfl⟩ : ∃ g, f = g + 1 := ⟨f - 1, by omega⟩
    unfold mL at hK
    by_cases hc : k < j
    · rw [if_pos hc] at hK
      exact b_t (nl_lt hc (by omega)) hK
    · rw [if_neg hc] at hK
      have n0 : ¬ nI fw = 0 := nI_ne0 hf (by omega)
      refine b_f (nI_nlt (by omega) (by omega)) (n_t n0 (n_t n0 (fun y7 e7 => ?_)))
      rw [nI_add] at e7
      subst e7
      exact ih (j + fw) f _ (by omega) (by omega) (by omega) hK
theorem sum_m {N fw lw k : Nat} {P : List Cl} {v : MM} {K : Int64 → MM → Prop} (hN : 20 ≤ N) (hf2 : fw < 100) (hk : k < 13) (hT : TS (v 1) fw lw P) (q : K (sC fw k) v) : wX11_sumOf N (nI k) v K := by
  refine tof_few hT ?_
  unfold sC at q
  by_cases h0 : fw = 0
  · subst h0
    rw [if_pos rfl] at q
    refine n_f rfl ?_
    obtain ⟨M, rfl⟩ : ∃ M, N = M + 2 := ⟨N - 2, by omega⟩
    refine b_f (nI_nlt (by omega) (by omega)) (n_f rfl (n_f rfl (fun y7 e7 => ?_)))
    rw [show (99 : Int32) = nI 99 from rfl, nI_add] at e7
    subst e7
    exact b_t (nl_lt (by omega) (by omega)) q
  · rw [if_neg h0] at q
    have n0 : ¬ nI fw = 0 := nI_ne0 (by omega) (by omega)
    refine n_t n0 ⟨n0, ?_⟩
    rw [pk_rem (by omega) (by omega) (by omega)]
    have hm : k % fw < fw := Nat.mod_lt k (by omega)
    refine sum_mlp N fw k v K (by omega) hf2 hk 14 (k % fw) N 0 (by omega) (by omega) (by omega) ?_
    rw [sums fw hf2 k hk (by omega)]
    exact q
theorem rel_sum (N : Nat) (hN : 20 ≤ N) : ∀ (u v : MM) (x1 : Int32), relT u v → wX10_sum N x1 u (fun r u2 => wX11_sum N x1 v (fun r2 v2 => r = r2 ∧ relT u2 v2)) := by
  intro u v x1 h
  obtain ⟨⟨n, hd, td, h1, h2, h3, h4, h5, h6, h7, fw, lw, P, t1, t2, t3, t4, t5, t6, t7⟩, hr⟩ := id h
  rcases arg3 x1 (n := 13) (by omega) with hx | ⟨k, hk, rfl⟩
  · exact in_no (n := 13) hx (n_f rfl (min_no (n := 12) (by omega) hx (b_t rfl ⟨rfl, h⟩)))
  · exact in_yes (n := 13) hk (by omega) (n_t (by decide) (sum_c hN t1 hk t4 (min_yes (n := 12) (by omega) (by omega) (b_f (by decide) (sum_m hN t1 hk t7 ⟨rfl, h⟩)))))
def enL (m : Int32) (fw : Nat) : Nat → Nat → Int32
  | 0, _ => -5
  | r + 1, j => if lg_cmp (sC fw j) (Int32.toInt64 m) < 0 then enL m fw r (j + 1) else nI j
theorem en_c (N fw : Nat) (hN : 20 ≤ N) (x1 : Int32) (u : MM) (K : Int32 → MM → Prop) (hf2 : fw < 100) (hu : u 13 0 = nI fw) : ∀ (r j f : Nat), r + j = 13 → r < f → K (enL x1 fw r j) u → wX10_enough_b15 N K f x1 (nI j) u := by
  intro r
  induction r with
  | zero =>
    intro j f hj hf hK
    obtain ⟨f, rfl⟩ : ∃ g, f = g + 1 := ⟨f - 1, by omega⟩
    exact b_t (nl_lt (a := 12) (b := j) (by omega) (by omega)) hK
  | succ r ih =>
    intro j f hj hf3 hK
    obtain ⟨f, rfl⟩ : ∃ g, f = g + 1 := ⟨f - 1, by omega⟩
    refine b_f (show ¬ nI 12 < nI j from nI_nlt (by omega) (by omega)) (sum_c hN hf2 (by omega) hu ?_)
    unfold enL at hK
    by_cases hc : lg_cmp (sC fw j) (Int32.toInt64 x1) < 0
    · rw [if_pos hc] at hK
      refine b_t hc (fun y7 e7 => ?_)
      rw [i_one] at e7
      subst e7
      exact ih (j + 1) f (by omega) (by omega) hK
    · rw [if_neg hc] at hK
      exact b_f hc hK
theorem en_m (N fw lw : Nat) (P : List Cl) (hN : 20 ≤ N) (x1 : Int32) (v : MM) (K : Int32 → MM → Prop) (hf2 : fw < 100) (hT : TS (v 1) fw lw P) : ∀ (r j f : Nat), r + j = 13 → r < f → K (enL x1 fw r j) v → wX11_enough_b15 N K f x1 (nI j) v := by
  intro r
  induction r with
  | zero =>
    intro j f hj hf hK
    obtain ⟨f, rfl⟩ : ∃ g, f = g + 1 := ⟨f - 1, by omega⟩
    exact b_t (nl_lt (a := 12) (b := j) (by omega) (by omega)) hK
  | succ r ih =>
    intro j f hj hf3 hK
    obtain ⟨f, rfl⟩ : ∃ g, f = g + 1 := ⟨f - 1, by omega⟩
    refine b_f (show ¬ nI 12 < nI j from nI_nlt (by omega) (by omega)) (sum_m hN hf2 (by omega) hT ?_)
    unfold enL at hK
    by_cases hc : lg_cmp (sC fw j) (Int32.toInt64 x1) < 0
    · rw [if_pos hc] at hK
      refine b_t hc (fun y7 e7 => ?_)
      rw [i_one] at e7
      subst e7
      exact ih (j + 1) f (by omega) (by omega) hK
    · rw [if_neg hc] at hK
      exact b_f hc hK
theorem rel_enough (N : Nat) (hN : 20 ≤ N) : ∀ (u v : MM) (x1 : Int32), relT u v → wX10_enough N x1 u (fun r u2 => wX11_enough N x1 v (fun r2 v2 => r = r2 ∧ relT u2 v2)) := by
  intro u v x1 h
  obtain ⟨⟨n, hd, td, h1, h2, h3, h4, h5, h6, h7, fw, lw, P, t1, t2, t3, t4, t5, t6, t7⟩, hr⟩ := id h
  rcases arg3 x1 (n := 1000000000) (by omega) with hx | ⟨k, hk, rfl⟩
  · have hm : wX11_enough N x1 v (fun r2 v2 => -2 = r2 ∧ relT u v2) := min_no (n := 999999999) (by omega) hx (n_f rfl ⟨rfl, h⟩)
    by_cases h0 : x1 < 0
    · exact b_t h0 hm
    · exact b_f h0 (b_f (out_nle (n := 999999999) (by omega) (hx.resolve_left h0)) hm)
  · refine b_f (nI_pos (by omega)) (b_t (show nI k ≤ nI 999999999 from nI_le (by omega) (by omega)) ?_)
    refine en_c N fw hN (nI k) u _ t1 t4 13 0 N (by omega) (by omega) (min_yes (n := 999999999) (by omega) (by omega) (n_t (by decide) ?_))
    exact en_m N fw lw P hN (nI k) v _ t1 t7 13 0 N (by omega) (by omega) ⟨rfl, h⟩
