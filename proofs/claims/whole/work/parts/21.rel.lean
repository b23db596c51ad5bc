/-! A town as both have it: its clauses (0 shun, 1 fine; the amount; the steps) -/
abbrev Cl : Type := Nat × Nat × List Int
/-- a step: -1 not, -2 and, -3 or, else which + 8 how + 32 number -/
def stOk (x : Int) : Prop := x = -1 ∨ x = -2 ∨ x = -3 ∨ ∃ w h v : Nat, w < 5 ∧ h < 3 ∧ v < 100 ∧ x = w + 8 * h + 32 * v
/-- how deep the stack is behind the steps (none: too shallow, or above 20) -/
def dep : List Int → Nat → Option Nat
  | [], d => some d
  | x :: xs, d => if x = -1 then (if d = 0 then none else dep xs d) else if x < 0 then (if d < 2 then none else dep xs (d - 1)) else if 20 ≤ d then none else dep xs (d + 1)
def WF (P : List Cl) : Prop := ∀ c ∈ P, ((c.1 = 0 ∧ c.2.1 = 1) ∨ c.1 = 1) ∧ c.2.1 < 100 ∧ (∀ x ∈ c.2.2, stOk x) ∧ dep c.2.2 0 = some 1
/-- the class's three rows for a step -/
def stC (u : MM) (S i : Nat) (x : Int) : Prop :=
  if x < 0 then u (S + 8) i = Int32.ofInt x else
  u (S + 8) i = nI (x.toNat % 8) ∧ (if x.toNat / 8 % 4 = 0 then u (S + 9) i = 0 ∧ u (S + 10) i = nI (x.toNat / 32) - 1 else if x.toNat / 8 % 4 = 1 then u (S + 9) i = nI (x.toNat / 32) ∧ u (S + 10) i = nI (x.toNat / 32) else u (S + 9) i = nI (x.toNat / 32) + 1 ∧ u (S + 10) i = 99)
def CP (u : MM) (S : Nat) (P : List Cl) : Prop := u (S + 3) 2 = nI P.length ∧ P.length ≤ 10 ∧ ∃ st : Nat → Nat, ∀ (j : Nat) (c : Cl), P[j]? = some c → u (S + 4) j = nI c.1 ∧ u (S + 5) j = nI c.2.1 ∧ u (S + 6) j = nI (st j) ∧ u (S + 7) j = nI (st j + c.2.2.length) ∧ st j + c.2.2.length ≤ 100 ∧ ∀ (i : Nat) (x : Int), c.2.2[i]? = some x → stC u S (st j + i) x
def flat (P : List Cl) : List Int := P.flatMap (fun c => c.2.2 ++ [if c.1 = 0 then -10 else -200 - (c.2.1 : Int)])
def MP (s : Nat → Int32) (h : Nat) (P : List Cl) : Prop := s (239 + h) = nI (flat P).length ∧ (flat P).length ≤ 140 ∧ ∀ (i : Nat) (x : Int), (flat P)[i]? = some x → s (244 + 140 * h + i) = Int32.ofInt x
/-- the town that holds: fewer, law, clauses -/
def RT (u : MM) (S : Nat) (s : Nat → Int32) : Prop := ∃ (fw lw : Nat) (P : List Cl), fw < 100 ∧ lw < 100 ∧ WF P ∧ u (S + 3) 0 = nI fw ∧ u (S + 3) 1 = nI (lw % 2) ∧ CP u S P ∧
  ((s 23 = -1 ∧ fw = 1 ∧ lw = 0 ∧ P = []) ∨ ∃ h tw : Nat, h < tw ∧ tw ≤ 5 ∧ s 19 = nI tw ∧ s 23 = nI h ∧ s (229 + h) = nI fw ∧ s (234 + h) = nI lw ∧ MP s h P)
def BP (s : Nat → Int32) (n hd td : Nat) : Prop := n ≤ 7 ∧ s 18 = nI n ∧ hd < 2 ^ n ∧ s 2 = nI hd ∧ td < 2 ^ n ∧ s 3 = nI td
def BN (s : Nat → Int32) : Prop := lt_ (s 0) 1000 ∧ lt_ (s 19) 6 ∧ lt_ (s 22) 101
def BA (s : Nat → Int32) : Prop := (∀ p, p < 7 → lt_ (s (24 + p)) 7 ∧ lt_ (s (31 + p)) 10 ∧ lt_ (s (38 + p)) 128 ∧ lt_ (s (45 + p)) 8 ∧ (s (24 + p) ≠ 6 → s (45 + p) = 0)) ∧ (∀ k, k < 49 → lt_ (s (52 + k)) 7) ∧ ∀ k, k < 100 → lt_ (s (129 + k)) 128
def NumS (u : MM) (S : Nat) (s : Nat → Int32) (hd : Nat) : Prop := ∀ p, p < 7 → hd.testBit p = true → u (S + 18) p = s (4 + p) ∧ lt_ (s (4 + p)) 10 ∧ u (S + 19) p = s (11 + p)
def SeenS (u : MM) (S : Nat) (s : Nat → Int32) : Prop := ∃ m, m ≤ 6 ∧ s 20 = nI m ∧ ∀ k, k < m → u (S + 21) k = s (101 + k) ∧ u (S + 22) k = s (107 + k) ∧ lt_ (s (101 + k)) 128 ∧ lt_ (s (107 + k)) 7
def BookS (u : MM) (S : Nat) (s : Nat → Int32) : Prop := ∃ m, m ≤ 8 ∧ s 21 = nI m ∧ ∀ k, k < m → u (S + 24) k = s (113 + k) ∧ u (S + 25) k = s (121 + k) ∧ lt_ (s (113 + k)) 7
def RS (u : MM) (S : Nat) (s : Nat → Int32) (n hd td : Nat) : Prop := BP s n hd td ∧ EqS u S s ∧ BN s ∧ BA s ∧ NumS u S s hd ∧ SeenS u S s ∧ BookS u S s ∧ RT u S s
def AC (u v : MM) : Prop := ∃ r, r < 20 ∧ u 4 3 = nI r ∧ v 0 23 = nI r ∧ ∀ k, k < r → u 5 k = v 8 k
def relT (u v : MM) : Prop := (∃ n hd td, RS u 10 (v 1) n hd td) ∧ ((v 0 4 = 0 ∧ u 0 6 = 0) ∨ (v 0 4 = 1 ∧ u 0 6 = 1 ∧ ∃ n hd td, RS u 36 (v 2) n hd td)) ∧ v 0 16 = -1 ∧ v 0 17 = -1 ∧ AC u v
theorem stC.rows {u u' : MM} {S i : Nat} {x : Int} (h : stC u S i x) (h8 : u' (S + 8) = u (S + 8)) (h9 : u' (S + 9) = u (S + 9)) (h10 : u' (S + 10) = u (S + 10)) : stC u' S i x := by
  unfold stC at h ⊢
  rw [h8, h9, h10]
  exact h
theorem CP.rows {u u' : MM} {S : Nat} {P : List Cl} (h : CP u S P) (hu : ∀ k, S + 3 ≤ k → k < S + 11 → u' k = u k) : CP u' S P := by
  obtain ⟨h1, h2, st, h3⟩ := h
  refine ⟨by rw [hu _ (by omega) (by omega)]; exact h1, h2, st, fun j c hj => ?_⟩
  obtain ⟨a, b, d, e, f, g⟩ := h3 j c hj
  rw [hu (S + 4) (by omega) (by omega), hu (S + 5) (by omega) (by omega), hu (S + 6) (by omega) (by omega), hu (S + 7) (by omega) (by omega)]
  exact ⟨a, b, d, e, f, fun i x hx => (g i x hx).rows (hu _ (by omega) (by omega)) (hu _ (by omega) (by omega)) (hu _ (by omega) (by omega))⟩
theorem RT.rows {u u' : MM} {S : Nat} {s : Nat → Int32} (h : RT u S s) (hu : ∀ k, S + 3 ≤ k → k < S + 11 → u' k = u k) : RT u' S s := by
  obtain ⟨fw, lw, P, a, b, c, d, e, f, g⟩ := h
  exact ⟨fw, lw, P, a, b, c, by rw [hu _ (by omega) (by omega)]; exact d, by rw [hu _ (by omega) (by omega)]; exact e, f.rows hu, g⟩
/-- the town's part of the reference's row -/
theorem RT.same {u : MM} {S : Nat} {s s' : Nat → Int32} (h : RT u S s) (hs : ∀ j, j = 19 ∨ j = 23 ∨ 229 ≤ j → s' j = s j) : RT u S s' := by
  obtain ⟨fw, lw, P, a, b, c, d, e, f, g⟩ := h
  refine ⟨fw, lw, P, a, b, c, d, e, f, ?_⟩
  rcases g with ⟨g1, g2⟩ | ⟨hh, tw, g1, g2, g3, g4, g5, g6, g7, g8, g9⟩
  · exact Or.inl ⟨by rw [hs 23 (by omega)]; exact g1, g2⟩
  · exact Or.inr ⟨hh, tw, g1, g2, by rw [hs 19 (by omega)]; exact g3, by rw [hs 23 (by omega)]; exact g4, by rw [hs _ (by omega)]; exact g5, by rw [hs _ (by omega)]; exact g6, by rw [hs _ (by omega)]; exact g7, g8, fun i x hx => by rw [hs _ (by omega)]; exact g9 i x hx⟩
theorem RS.rows {u u' : MM} {S : Nat} {s : Nat → Int32} {n hd td : Nat} (h : RS u S s n hd td) (hu : ∀ k, S ≤ k → k < S + 26 → u' k = u k) : RS u' S s n hd td := by
  obtain ⟨h1, h2, h3, h4, h5, h6, h7, h8⟩ := h
  refine ⟨h1, h2.rows (fun k a b => hu k a (by omega)), h3, h4, fun p hp hb => ?_, ?_, ?_, h8.rows (fun k a b => hu k (by omega) (by omega))⟩
  · rw [hu (S + 18) (by omega) (by omega), hu (S + 19) (by omega) (by omega)]; exact h5 p hp hb
  · obtain ⟨m, a, b, c⟩ := h6
    exact ⟨m, a, b, fun k hk => by rw [hu (S + 21) (by omega) (by omega), hu (S + 22) (by omega) (by omega)]; exact c k hk⟩
  · obtain ⟨m, a, b, c⟩ := h7
    exact ⟨m, a, b, fun k hk => by rw [hu (S + 24) (by omega) (by omega), hu (S + 25) (by omega) (by omega)]; exact c k hk⟩
/-- what a call leaves alone -/
def kp (u u' : MM) : Prop := (∀ k, 36 ≤ k → k < 62 → u' k = u k) ∧ u' 0 = u 0 ∧ u' 4 = u 4 ∧ u' 5 = u 5
def kq (v v' : MM) : Prop := v' 2 = v 2 ∧ v' 8 = v 8 ∧ v' 0 4 = v 0 4 ∧ v' 0 16 = v 0 16 ∧ v' 0 17 = v 0 17 ∧ v' 0 23 = v 0 23
theorem kp.rf (u : MM) : kp u u := ⟨fun _ _ _ => rfl, rfl, rfl, rfl⟩
theorem kq.rf (v : MM) : kq v v := ⟨rfl, rfl, rfl, rfl, rfl, rfl⟩
theorem kp.tr {a b c : MM} (h : kp a b) (h2 : kp b c) : kp a c := ⟨fun k x y => (h2.1 k x y).trans (h.1 k x y), h2.2.1.trans h.2.1, h2.2.2.1.trans h.2.2.1, h2.2.2.2.trans h.2.2.2⟩
theorem kq.tr {a b c : MM} (h : kq a b) (h2 : kq b c) : kq a c := ⟨h2.1.trans h.1, h2.2.1.trans h.2.1, h2.2.2.1.trans h.2.2.1, h2.2.2.2.1.trans h.2.2.2.1, h2.2.2.2.2.1.trans h.2.2.2.2.1, h2.2.2.2.2.2.trans h.2.2.2.2.2⟩
theorem kp.up {u : MM} {k j : Nat} {x : Int32} (h : k ≠ 0 ∧ k ≠ 4 ∧ k ≠ 5 ∧ (k < 36 ∨ 62 ≤ k)) : kp u (up u k j x) := ⟨fun a b c => up_k (by omega), up_k (by omega), up_k (by omega), up_k (by omega)⟩
theorem kq.up {v : MM} {k j : Nat} {x : Int32} (h : (k ≠ 2 ∧ k ≠ 8 ∧ k ≠ 0) ∨ (k = 0 ∧ j ≠ 4 ∧ j ≠ 16 ∧ j ≠ 17 ∧ j ≠ 23)) : kq v (up v k j x) := by
  rcases h with h | ⟨rfl, h⟩
  · exact ⟨up_k (by omega), up_k (by omega), by rw [up_k (by omega)], by rw [up_k (by omega)], by rw [up_k (by omega)], by rw [up_k (by omega)]⟩
  · exact ⟨up_k (by omega), up_k (by omega), up_j (by omega), up_j (by omega), up_j (by omega), up_j (by omega)⟩
theorem rel_now {u v u' v' : MM} (h : relT u v) (hu : kp u u') (hv : kq v v') (hR : ∃ n hd td, RS u' 10 (v' 1) n hd td) : relT u' v' := by
  obtain ⟨h1, h2, h3, h4, r, h5, h6, h7, h8⟩ := h
  refine ⟨hR, ?_, by rw [hv.2.2.2.1]; exact h3, by rw [hv.2.2.2.2.1]; exact h4, r, h5, by rw [hu.2.2.1]; exact h6, by rw [hv.2.2.2.2.2]; exact h7, fun k hk => by rw [hu.2.2.2, hv.2.1]; exact h8 k hk⟩
  rw [hv.2.2.1, hu.2.1, hv.1]
  rcases h2 with h2 | ⟨a, b, n, hd, td, c⟩
  · exact Or.inl h2
  · exact Or.inr ⟨a, b, n, hd, td, c.rows (fun k x y => hu.1 k (by omega) (by omega))⟩
theorem rel_start : relT uC0 vM0 := by
  refine ⟨⟨0, 0, 0, ⟨by decide, rfl, by decide, rfl, by decide, rfl⟩, ?_, ⟨⟨0, by decide, rfl⟩, ⟨0, by decide, rfl⟩, ⟨0, by decide, rfl⟩⟩, ⟨fun p hp => ?_, fun k hk => ?_, fun k hk => ?_⟩, fun p hp hb => by simp at hb, ⟨0, by decide, rfl, fun k hk => by omega⟩, ⟨0, by decide, rfl, fun k hk => by omega⟩, ?_⟩, Or.inl ⟨rfl, rfl⟩, rfl, rfl, 0, by decide, rfl, rfl, fun k hk => by omega⟩
  · intro i a b h
    have hi : i ≠ 23 := by unfold mir at h; omega
    have e1 : vM0 1 i = 0 := by simp [vM0, upd, hi]
    rw [e1]
    unfold mir at h
    rcases h with h | h | h | h | h | h | h | h | h | h | h | h <;> obtain ⟨_, h⟩ := h
    all_goals first | (obtain ⟨rfl, rfl⟩ := h; rfl) | (obtain ⟨_, rfl, _⟩ := h; rfl)
  · have e : ∀ j, j ≠ 23 → vM0 1 j = 0 := fun j hj => by simp [vM0, upd, hj]
    rw [e _ (by omega), e _ (by omega), e _ (by omega), e _ (by omega)]
    exact ⟨⟨0, by decide, rfl⟩, ⟨0, by decide, rfl⟩, ⟨0, by decide, rfl⟩, ⟨0, by decide, rfl⟩, fun _ => rfl⟩
  · have e : ∀ j, j ≠ 23 → vM0 1 j = 0 := fun j hj => by simp [vM0, upd, hj]
    rw [e _ (by omega)]
    exact ⟨0, by decide, rfl⟩
  · have e : ∀ j, j ≠ 23 → vM0 1 j = 0 := fun j hj => by simp [vM0, upd, hj]
    rw [e _ (by omega)]
    exact ⟨0, by decide, rfl⟩
  · exact ⟨1, 0, [], by decide, by decide, fun c hc => absurd hc List.not_mem_nil, rfl, rfl, ⟨rfl, by decide, fun _ => 0, fun j c hj => by simp at hj⟩, Or.inl ⟨rfl, rfl, rfl, rfl⟩⟩
