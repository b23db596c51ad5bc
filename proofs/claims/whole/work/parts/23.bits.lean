/-! Bits of numbers below 128 -/
theorem bit_val : ∀ h, h < 128 → ∀ p, p < 7 → ((nI h >>> (nI p &&& 31)) &&& 1) = if h.testBit p then 1 else 0 := by decide +kernel
theorem shl_val : ∀ p, p < 7 → ((1 : Int32) <<< (nI p &&& 31)) = nI (2 ^ p) := by decide +kernel
theorem and_val : ∀ a, a < 128 → ∀ b, b < 128 → nI a &&& nI b = nI (a &&& b) := by decide +kernel
theorem or_val : ∀ a, a < 128 → ∀ b, b < 128 → nI a ||| nI b = nI (a ||| b) := by decide +kernel
/-- without the bits of b -/
def wo (a b : Nat) : Nat := a &&& (127 ^^^ b)
theorem wo_val : ∀ a, a < 128 → ∀ b, b < 128 → nI a &&& (nI b ^^^ ((-1) : Int32)) = nI (wo a b) := by decide +kernel
def pc (h : Nat) : Nat := h % 2 + h / 2 % 2 + h / 4 % 2 + h / 8 % 2 + h / 16 % 2 + h / 32 % 2 + h / 64 % 2
theorem and_lt : ∀ a, a < 128 → ∀ b, b < 128 → a &&& b < 128 := fun a ha b _ => Nat.lt_of_le_of_lt Nat.and_le_left ha
theorem or_lt {a b k : Nat} (ha : a < 2 ^ k) (hb : b < 2 ^ k) : a ||| b < 2 ^ k := Nat.or_lt_two_pow ha hb
theorem wo_lt {a b : Nat} (ha : a < 128) : wo a b < 128 := Nat.lt_of_le_of_lt Nat.and_le_left ha
theorem wo_bit : ∀ a, a < 128 → ∀ b, b < 128 → ∀ p, p < 7 → (wo a b).testBit p = (a.testBit p && !b.testBit p) := by
  intro a ha b hb p hp
  rw [wo, Nat.testBit_and, Nat.testBit_xor]
  have : ∀ p, p < 7 → Nat.testBit 127 p = true := by decide
  rw [this p hp, Bool.true_xor]
theorem pow_lt {p : Nat} (hp : p < 7) : 2 ^ p < 128 := by have := Nat.pow_lt_pow_right (a := 2) (by omega) hp; omega
theorem lt128 {h n : Nat} (hh : h < 2 ^ n) (hn : n ≤ 7) : h < 128 := Nat.lt_of_lt_of_le hh (Nat.pow_le_pow_right (n := 2) (by omega) hn)
theorem hb_yes {N h p : Nat} {K : Int32 → Prop} (hh : h < 128) (hp : p < 7) (hb : h.testBit p = true) (k : K 1) : wX10_hasBit N (nI h) (nI p) K := n_f (by rw [bit_val h hh p hp, if_pos hb]) k
theorem hb_no {N h p : Nat} {K : Int32 → Prop} (hh : h < 128) (hp : p < 7) (hb : h.testBit p = false) (k : K 0) : wX10_hasBit N (nI h) (nI p) K := n_t (by rw [bit_val h hh p hp, if_neg (by rw [hb]; decide)]; decide) k
theorem has_yes {N p n : Nat} {u : MM} {K : Int32 → MM → Prop} (hu : u 21 0 = nI n) (hn : n ≤ 7) (hp : p < n) (k : K 1 u) : wX2_has N (nI p) u K := by
  show wX10_isIn N (nI p) (u 21 0) _
  rw [hu]
  exact in_yes hp (by omega) ⟨bz1, k⟩
theorem has_no {N n : Nat} {x : Int32} {u : MM} {K : Int32 → MM → Prop} (hu : u 21 0 = nI n) (hx : x < 0 ∨ nI n ≤ x) (k : K 0 u) : wX2_has N x u K := by
  show wX10_isIn N x (u 21 0) _
  rw [hu]
  exact in_no hx ⟨bz0, k⟩
theorem per_yes {N p n : Nat} {v : MM} {K : Int32 → MM → Prop} (hv : v 1 18 = nI n) (hn : n ≤ 7) (hp : p < n) (k : K 1 v) : wX11_isPerson N (nI p) v K := by
  obtain ⟨m, rfl⟩ : ∃ m, n = m + 1 := ⟨n - 1, by omega⟩
  show wX11_in N (nI p) 0 ((v 1 18) - 1) _
  rw [hv, i_sub1]
  exact min_yes hp (by omega) ⟨bz1, k⟩
theorem per_no {N n : Nat} {x : Int32} {v : MM} {K : Int32 → MM → Prop} (hv : v 1 18 = nI n) (hn : n ≤ 7) (hx : x < 0 ∨ nI n ≤ x) (k : K 0 v) : wX11_isPerson N x v K := by
  show wX11_in N x 0 ((v 1 18) - 1) _
  rw [hv]
  rcases Nat.eq_zero_or_pos n with h | h
  · subst h
    by_cases h0 : x < 0
    · exact b_t h0 ⟨bz0, k⟩
    · refine b_f h0 (b_t ?_ ⟨bz0, k⟩)
      rw [Int32.lt_iff_toInt_lt] at h0 ⊢
      have e1 : (nI 0 - 1).toInt = -1 := by decide
      have e2 : (0 : Int32).toInt = 0 := by decide
      omega
  · obtain ⟨m, rfl⟩ : ∃ m, n = m + 1 := ⟨n - 1, by omega⟩
    rw [i_sub1]
    exact min_no (by omega) hx ⟨bz0, k⟩
theorem hh_yes {N h p : Nat} {v : MM} {K : Int32 → MM → Prop} (hv : v 1 2 = nI h) (hh : h < 128) (hp : p < 7) (hb : h.testBit p = true) (k : K 1 v) : wX11_hasHeard N (nI p) v K := n_f (by rw [hv, bit_val h hh p hp, if_pos hb]) k
theorem hh_no {N h p : Nat} {v : MM} {K : Int32 → MM → Prop} (hv : v 1 2 = nI h) (hh : h < 128) (hp : p < 7) (hb : h.testBit p = false) (k : K 0 v) : wX11_hasHeard N (nI p) v K := n_t (by rw [hv, bit_val h hh p hp, if_neg (by rw [hb]; decide)]; decide) k
theorem ht_yes {N h p : Nat} {v : MM} {K : Int32 → MM → Prop} (hv : v 1 3 = nI h) (hh : h < 128) (hp : p < 7) (hb : h.testBit p = true) (k : K 1 v) : wX11_hasTold N (nI p) v K := n_f (by rw [hv, bit_val h hh p hp, if_pos hb]) k
theorem ht_no {N h p : Nat} {v : MM} {K : Int32 → MM → Prop} (hv : v 1 3 = nI h) (hh : h < 128) (hp : p < 7) (hb : h.testBit p = false) (k : K 0 v) : wX11_hasTold N (nI p) v K := n_t (by rw [hv, bit_val h hh p hp, if_neg (by rw [hb]; decide)]; decide) k
/-! what stays of the relation's parts -/
theorem BP.kp {s s' : Nat → Int32} {n hd td : Nat} (h : BP s n hd td) (h18 : s' 18 = s 18) (h2 : s' 2 = s 2) (h3 : s' 3 = s 3) : BP s' n hd td := by
  obtain ⟨a, b, c, d, e, f⟩ := h
  exact ⟨a, h18.trans b, c, h2.trans d, e, h3.trans f⟩
theorem BN.kp {s s' : Nat → Int32} (h : BN s) (h0 : s' 0 = s 0) (h19 : s' 19 = s 19) (h22 : s' 22 = s 22) : BN s' := by
  unfold BN at h ⊢; rw [h0, h19, h22]; exact h
theorem BA.kp {s s' : Nat → Int32} (h : BA s) (hs : ∀ k, (24 ≤ k ∧ k < 101) ∨ (129 ≤ k ∧ k < 229) → s' k = s k) : BA s' := by
  refine ⟨fun p hp => ?_, fun k hk => ?_, fun k hk => ?_⟩
  · rw [hs (24 + p) (by omega), hs (31 + p) (by omega), hs (38 + p) (by omega), hs (45 + p) (by omega)]; exact h.1 p hp
  · rw [hs _ (by omega)]; exact h.2.1 k hk
  · rw [hs _ (by omega)]; exact h.2.2 k hk
theorem NumS.kp {u u' : MM} {S : Nat} {s s' : Nat → Int32} {hd : Nat} (h : NumS u S s hd) (hu : u' (S + 18) = u (S + 18) ∧ u' (S + 19) = u (S + 19)) (hs : ∀ k, 4 ≤ k → k < 18 → s' k = s k) : NumS u' S s' hd := fun p hp hb => by
  rw [hu.1, hu.2, hs _ (by omega) (by omega), hs _ (by omega) (by omega)]; exact h p hp hb
theorem SeenS.kp {u u' : MM} {S : Nat} {s s' : Nat → Int32} (h : SeenS u S s) (hu : u' (S + 21) = u (S + 21) ∧ u' (S + 22) = u (S + 22)) (hs : ∀ k, k = 20 ∨ (101 ≤ k ∧ k < 113) → s' k = s k) : SeenS u' S s' := by
  obtain ⟨m, a, b, c⟩ := h
  exact ⟨m, a, by rw [hs 20 (by omega)]; exact b, fun k hk => by rw [hu.1, hu.2, hs _ (by omega), hs _ (by omega)]; exact c k hk⟩
theorem BookS.kp {u u' : MM} {S : Nat} {s s' : Nat → Int32} (h : BookS u S s) (hu : u' (S + 24) = u (S + 24) ∧ u' (S + 25) = u (S + 25)) (hs : ∀ k, k = 21 ∨ (113 ≤ k ∧ k < 129) → s' k = s k) : BookS u' S s' := by
  obtain ⟨m, a, b, c⟩ := h
  exact ⟨m, a, by rw [hs 21 (by omega)]; exact b, fun k hk => by rw [hu.1, hu.2, hs _ (by omega), hs _ (by omega)]; exact c k hk⟩
theorem RT.kp {u u' : MM} {S : Nat} {s s' : Nat → Int32} (h : RT u S s) (hu : ∀ k, S + 3 ≤ k → k < S + 11 → u' k = u k) (hs : ∀ j, j = 19 ∨ j = 23 ∨ 229 ≤ j → s' j = s j) : RT u' S s' := (h.rows hu).same hs
