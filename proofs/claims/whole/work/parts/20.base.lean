/-! Pure: small numbers, branches -/
def lt_ (x : Int32) (k : Nat) : Prop := ∃ j, j < k ∧ x = nI j
theorem lt_mono {x : Int32} {a b : Nat} (h : lt_ x a) (hab : a ≤ b) : lt_ x b := by obtain ⟨j, h1, h2⟩ := h; exact ⟨j, by omega, h2⟩
theorem lt_nI {j k : Nat} (h : j < k) : lt_ (nI j) k := ⟨j, h, rfl⟩
theorem b_t {c A B : Prop} (h : c) (a : A) : (c → A) ∧ (¬ c → B) := ⟨fun _ => a, fun n => absurd h n⟩
theorem b_f {c A B : Prop} (h : ¬ c) (b : B) : (c → A) ∧ (¬ c → B) := ⟨fun y => absurd y h, fun _ => b⟩
theorem n_t {c A B : Prop} (h : ¬ c) (a : A) : (¬ c → A) ∧ (c → B) := ⟨fun _ => a, fun y => absurd y h⟩
theorem n_f {c A B : Prop} (h : c) (b : B) : (¬ c → A) ∧ (c → B) := ⟨fun n => absurd h n, fun _ => b⟩
theorem up_at (u : MM) (k j : Nat) (x : Int32) : up u k j x k j = x := by simp [up]
theorem up_k {u : MM} {k j a : Nat} {x : Int32} (h : a ≠ k) : up u k j x a = u a := by funext b; simp [up, h]
theorem up_j {u : MM} {k j b : Nat} {x : Int32} (h : b ≠ j) : up u k j x k b = u k b := by simp [up, h]
theorem up_kj {u : MM} {k j a b : Nat} {x : Int32} (h : a ≠ k ∨ b ≠ j) : up u k j x a b = u a b := by
  simp only [up]
  by_cases h1 : a = k
  · subst h1
    rw [if_pos rfl, if_neg (h.resolve_left (fun z => z rfl))]
  · rw [if_neg h1]
theorem i_lit (c p : Nat) : (OfNat.ofNat c : Int32) + nI p = nI (c + p) := by rw [show (OfNat.ofNat c : Int32) = nI c from rfl, nI_add]
theorem i_one {n : Nat} : nI n + 1 = nI (n + 1) := nI_1 n
theorem nI_inj {a b : Nat} (ha : a < 2 ^ 31) (hb : b < 2 ^ 31) : nI a = nI b ↔ a = b := nI_eq ha hb
theorem i_sub1 {n : Nat} : nI (n + 1) - 1 = nI n := nI_pred n
/-- an argument: below 0, from n on, or one of the numbers -/
theorem arg3 (x : Int32) {n : Nat} (hn : n < 2 ^ 31) : (x < 0 ∨ nI n ≤ x) ∨ ∃ j : Nat, j < n ∧ x = nI j := by
  rcases pk_ix x hn with h | h | h
  · exact Or.inl (Or.inl h)
  · exact Or.inl (Or.inr h)
  · exact Or.inr h
theorem in_yes {N : Nat} {K : Int32 → Prop} {j n : Nat} (hj : j < n) (hn : n < 2 ^ 31) (h : K 1) : wX10_isIn N (nI j) (nI n) K := b_f (nI_pos (by omega)) (b_f (nI_ge hj hn) h)
theorem in_no {N : Nat} {K : Int32 → Prop} {x : Int32} {n : Nat} (hx : x < 0 ∨ nI n ≤ x) (h : K 0) : wX10_isIn N x (nI n) K := by
  by_cases h0 : x < 0
  · exact b_t h0 h
  · exact b_f h0 (b_t (hx.resolve_left h0) h)
theorem i_le_of_lt {x : Int32} {n : Nat} (hn : n + 1 < 2 ^ 31) : nI n < x ↔ nI (n + 1) ≤ x := by
  rw [Int32.lt_iff_toInt_lt, Int32.le_iff_toInt_le, nI_toInt (by omega), nI_toInt (by omega)]; omega
theorem min_yes {N : Nat} {K : Int32 → Prop} {j n : Nat} (hj : j < n + 1) (hn : n < 2 ^ 31) (h : K 1) : wX11_in N (nI j) 0 (nI n) K := b_f (nI_pos (by omega)) (b_f (nI_nlt (by omega) hn) h)
theorem min_no {N : Nat} {K : Int32 → Prop} {x : Int32} {n : Nat} (hn : n + 1 < 2 ^ 31) (hx : x < 0 ∨ nI (n + 1) ≤ x) (h : K 0) : wX11_in N x 0 (nI n) K := by
  by_cases h0 : x < 0
  · exact b_t h0 h
  · exact b_f h0 (b_t ((i_le_of_lt hn).mpr (hx.resolve_left h0)) h)
theorem num_yes {N : Nat} {K : Int32 → Prop} {j : Nat} (hj : j < 10) (h : K 1) : wX10_isNumber N (nI j) K := b_f (nI_pos (by omega)) (b_f (show ¬ nI 9 < nI j from nI_nlt (by omega) (by omega)) h)
theorem num_no {N : Nat} {K : Int32 → Prop} {x : Int32} (hx : x < 0 ∨ nI 10 ≤ x) (h : K 0) : wX10_isNumber N x K := by
  by_cases h0 : x < 0
  · exact b_t h0 h
  · exact b_f h0 (b_t ((i_le_of_lt (n := 9) (by omega)).mpr (hx.resolve_left h0)) h)
/-! The relation of the two memories -/
/-- cell i of the reference's row is slot b of row a of a State -/
def mir (i a b : Nat) : Prop := (i < 4 ∧ a = 17 ∧ b = i) ∨ (i = 18 ∧ a = 11 ∧ b = 0) ∨ (i = 19 ∧ a = 0 ∧ b = 2) ∨ (i = 20 ∧ a = 20 ∧ b = 0) ∨ (i = 21 ∧ a = 23 ∧ b = 0) ∨ (i = 22 ∧ a = 1 ∧ b = 1) ∨ (24 ≤ i ∧ i < 31 ∧ a = 12 ∧ b + 24 = i) ∨ (31 ≤ i ∧ i < 38 ∧ a = 13 ∧ b + 31 = i) ∨ (38 ≤ i ∧ i < 45 ∧ a = 14 ∧ b + 38 = i) ∨ (45 ≤ i ∧ i < 52 ∧ a = 15 ∧ b + 45 = i) ∨ (52 ≤ i ∧ i < 101 ∧ a = 16 ∧ b + 52 = i) ∨ (129 ≤ i ∧ i < 229 ∧ a = 2 ∧ b + 129 = i)
theorem mir_inj {i j a b : Nat} (h1 : mir i a b) (h2 : mir j a b) : i = j := by unfold mir at h1 h2; omega
def EqS (u : MM) (S : Nat) (s : Nat → Int32) : Prop := ∀ i a b, mir i a b → u (S + a) b = s i
theorem EqS.put {u : MM} {S k : Nat} {s s' : Nat → Int32} {i a b : Nat} {x : Int32} (h : EqS u S s) (hm : mir i a b) (hk : k = S + a) (hs : ∀ j, s' j = if j = i then x else s j) : EqS (up u k b x) S s' := by
  intro j c d hj
  subst hk
  rw [hs j]
  by_cases hji : j = i
  · subst hji
    rw [if_pos rfl]
    have : c = a ∧ d = b := by unfold mir at hj hm; omega
    rw [this.1, this.2, up_at]
  · have hne : S + c ≠ S + a ∨ d ≠ b := by
      by_cases h1 : c = a
      · subst h1
        right
        intro h2
        subst h2
        exact hji (mir_inj hj hm)
      · exact Or.inl (by omega)
    rw [up_kj hne, if_neg hji]
    exact h j c d hj
theorem EqS.off {u : MM} {S : Nat} {s : Nat → Int32} {k b : Nat} {x : Int32} (h : EqS u S s) (hk : ∀ i a c, mir i a c → k ≠ S + a) : EqS (up u k b x) S s := by
  intro j c d hj
  rw [up_kj (Or.inl (Ne.symm (hk j c d hj)))]
  exact h j c d hj
theorem EqS.other {u : MM} {S : Nat} {s s' : Nat → Int32} (h : EqS u S s) (hs : ∀ i a c, mir i a c → s' i = s i) : EqS u S s' := by
  intro j c d hj
  rw [hs j c d hj]
  exact h j c d hj
theorem EqS.rows {u u' : MM} {S : Nat} {s : Nat → Int32} (h : EqS u S s) (hu : ∀ k, S ≤ k → k < S + 24 → u' k = u k) : EqS u' S s := by
  intro j c d hj
  rw [hu (S + c) (by omega) (by unfold mir at hj; omega)]
  exact h j c d hj
