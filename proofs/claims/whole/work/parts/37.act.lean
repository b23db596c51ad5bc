/-! the acts: the bodies that ran, as a list -/
def actU (u0 : MM) (k : Nat) (i w : Int32) (L : List Int32) (u : MM) : Prop := u 4 0 = nI k ∧ u 4 1 = i ∧ u 4 2 = w ∧ u 4 3 = nI L.length ∧ (∀ (j : Nat) (x : Int32), L[j]? = some x → u 5 j = x) ∧ ∀ a, a ≠ 4 → a ≠ 5 → u a = u0 a
def actV (v0 : MM) (k : Nat) (i w : Int32) (L : List Int32) (v : MM) : Prop := v 0 24 = nI k ∧ v 0 25 = i ∧ v 0 26 = w ∧ v 0 23 = nI L.length ∧ (∀ (j : Nat) (x : Int32), L[j]? = some x → v 8 j = x) ∧ (∀ a, a ≠ 0 → a ≠ 8 → v a = v0 a) ∧ v 0 4 = v0 0 4 ∧ v 0 16 = v0 0 16 ∧ v 0 17 = v0 0 17
theorem run_u {N k : Nat} {i w b : Int32} {L : List Int32} {u0 u : MM} {K : MM → Prop} (h : actU u0 k i w L u) (hL : L.length < 20) (q : ∀ u' : MM, actU u0 k i w (L ++ [b]) u' → K u') : wX0_run N b u K := by
  obtain ⟨h1, h2, h3, h4, h5, h6⟩ := h
  unfold wX0_run wX0_run_b19
  rw [h4]
  refine b_f (nI_ge (a := L.length) (b := 20) hL (by omega)) ⟨vp_in_nI hL (by omega), fun u2 e2 u3 e3 => q u3 ?_⟩
  rw [nI_clamp (by omega)] at e2
  have k4 : u2 4 = u 4 := upu e2 (by omega)
  rw [k4, h4, i_one] at e3
  refine ⟨by rw [e3, up_j (by omega), k4]; exact h1, by rw [e3, up_j (by omega), k4]; exact h2, by rw [e3, up_j (by omega), k4]; exact h3, by rw [upx e3]; simp, fun j x hx => ?_, fun a n4 n5 => by rw [upu e3 n4, upu e2 n5]; exact h6 a n4 n5⟩
  rw [upu e3 (by omega), e2]
  by_cases hj : j = L.length
  · subst hj
    rw [up_at]
    simpa using hx
  · rw [up_j hj]
    have hl : j < (L ++ [b]).length := (List.getElem?_eq_some_iff.mp hx).1
    rw [List.length_append, List.length_singleton] at hl
    rw [List.getElem?_append_left (by omega)] at hx
    exact h5 j x hx
theorem run_v {N k : Nat} {i w b : Int32} {L : List Int32} {v0 v : MM} {K : MM → Prop} (h : actV v0 k i w L v) (hL : L.length < 20) (q : ∀ v' : MM, actV v0 k i w (L ++ [b]) v' → K v') : wX11_ranBody N b v K := by
  obtain ⟨h1, h2, h3, h4, h5, h6, h7, h8, h9⟩ := h
  unfold wX11_ranBody wX11_ranBody_b19
  rw [h4]
  refine b_f (nI_ge (a := L.length) (b := 20) hL (by omega)) ⟨vp_in_nI hL (by omega), fun u2 e2 u3 e3 => q u3 ?_⟩
  rw [nI_clamp (by omega)] at e2
  have k4 : u2 0 = v 0 := upu e2 (by omega)
  rw [k4, h4, i_one] at e3
  refine ⟨by rw [e3, up_j (by omega), k4]; exact h1, by rw [e3, up_j (by omega), k4]; exact h2, by rw [e3, up_j (by omega), k4]; exact h3, by rw [upx e3]; simp, fun j x hx => ?_, fun a n4 n5 => by rw [upu e3 n4, upu e2 n5]; exact h6 a n4 n5, by rw [e3, up_j (by omega), k4]; exact h7, by rw [e3, up_j (by omega), k4]; exact h8, by rw [e3, up_j (by omega), k4]; exact h9⟩
  rw [upu e3 (by omega), e2]
  by_cases hj : j = L.length
  · subst hj
    rw [up_at]
    simpa using hx
  · rw [up_j hj]
    have hl : j < (L ++ [b]).length := (List.getElem?_eq_some_iff.mp hx).1
    rw [List.length_append, List.length_singleton] at hl
    rw [List.getElem?_append_left (by omega)] at hx
    exact h5 j x hx
def hb (k : Nat) : List Int32 := if k = 1 ∨ k = 4 then [11, 1] else if k = 5 then [51, 1] else [1]
def hv (k : Nat) (i x : Int32) : Int32 := if k = 1 ∨ k = 4 then x * 3 + i else if k = 5 then (x + i) ^^^ i else x + i
def tb (k : Nat) : List Int32 := (if k = 2 ∨ k = 5 then [21, 2] else if k = 6 then [61, 2] else [2]) ++ hb k
def tv (k : Nat) (i w x : Int32) : Int32 := if k = 2 ∨ k = 5 then -(hv k i x - w) else if k = 6 then (hv k i x - w) + w else hv k i x - w
def pb (k : Nat) : List Int32 := if k = 3 ∨ k = 6 then [31, 3] ++ tb k else if k = 4 then [41, 3] ++ tb k ++ hb k else [3] ++ tb k
def pv (k : Nat) (i w x : Int32) : Int32 := if k = 3 ∨ k = 6 then (tv k i w x * 2) ^^^ 7 else if k = 4 then tv k i w (x - 1) * 2 + hv k i 2 else tv k i w x * 2
theorem hb_len (k : Nat) : (hb k).length ≤ 2 := by unfold hb; split <;> (try split) <;> simp
theorem tb_len (k : Nat) : (tb k).length ≤ 4 := by
  unfold tb
  rw [List.length_append]
  have := hb_len k
  split <;> (try split) <;> simp <;> omega
theorem pb_len (k : Nat) : (pb k).length ≤ 8 := by
  unfold pb
  have := hb_len k
  have := tb_len k
  split <;> (try split) <;> simp <;> omega
theorem actU.ap {u0 u : MM} {k : Nat} {i w : Int32} {L M : List Int32} (h : actU u0 k i w L u) (e : L = M) : actU u0 k i w M u := e ▸ h
theorem actV.ap {u0 u : MM} {k : Nat} {i w : Int32} {L M : List Int32} (h : actV u0 k i w L u) (e : L = M) : actV u0 k i w M u := e ▸ h
theorem hears_u {N k : Nat} {i w x : Int32} {L : List Int32} {u0 u : MM} {K : Int32 → MM → Prop} (hN : 8 ≤ N) (hk : k < 7) (h : actU u0 k i w L u) (hL : L.length < 18) (q : ∀ u' : MM, actU u0 k i w (L ++ hb k) u' → K (hv k i x) u') : wX0_hears N x u K := by
  unfold wX0_hears
  rw [h.1]
  refine und_c hN hk (c := 1) (by omega) (fun z => b_f (by decide) ?_) (fun z => ?_)
  · have c : k = 1 ∨ k = 4 := by unfold und at z; omega
    unfold hb hv at q
    rw [if_pos c, if_pos c] at q
    refine run_u h (by omega) (fun u1 h1 => run_u h1 (by simp; omega) (fun u2 h2 => ?_))
    rw [h2.2.1]
    exact q u2 (h2.ap (by simp))
  · have c : ¬ (k = 1 ∨ k = 4) := by unfold und at z; omega
    unfold hb hv at q
    rw [if_neg c, if_neg c] at q
    refine b_t rfl (und_c hN hk (c := 5) (by omega) (fun z => b_f (by decide) ?_) (fun z => b_t rfl ?_))
    · have c : k = 5 := by unfold und at z; omega
      rw [if_pos c, if_pos c] at q
      refine run_u h (by omega) (fun u1 h1 => run_u h1 (by simp; omega) (fun u2 h2 => ?_))
      rw [h2.2.1]
      exact q u2 (h2.ap (by simp))
    · have c : ¬ k = 5 := by unfold und at z; omega
      rw [if_neg c, if_neg c] at q
      refine run_u h (by omega) (fun u1 h1 => ?_)
      rw [h1.2.1]
      exact q u1 h1
theorem hears_v {N k : Nat} {i w x : Int32} {L : List Int32} {v0 v : MM} {K : Int32 → MM → Prop} (hk : k < 7) (h : actV v0 k i w L v) (hL : L.length < 18) (q : ∀ v' : MM, actV v0 k i w (L ++ hb k) v' → K (hv k i x) v') : wX11_hearsActs N x v K := by
  unfold wX11_hearsActs wX11_plainHears
  rw [h.1]
  refine und_m hk (c := 1) (by omega) (fun z => b_f (by decide) ?_) (fun z => ?_)
  · have c : k = 1 ∨ k = 4 := by unfold und at z; omega
    unfold hb hv at q
    rw [if_pos c, if_pos c] at q
    refine run_v h (by omega) (fun u1 h1 => run_v h1 (by simp; omega) (fun u2 h2 => ?_))
    rw [h2.2.1]
    exact q u2 (h2.ap (by simp))
  · have c : ¬ (k = 1 ∨ k = 4) := by unfold und at z; omega
    unfold hb hv at q
    rw [if_neg c, if_neg c] at q
    have e5 : nI k = 5 ↔ k = 5 := nI_eq (a := k) (b := 5) (by omega) (by omega)
    by_cases c : k = 5
    · rw [if_pos c, if_pos c] at q
      refine b_t rfl (n_f (e5.mpr c) (run_v h (by omega) (fun u1 h1 => run_v h1 (by simp; omega) (fun u2 h2 => ?_))))
      rw [h2.2.1]
      show K ((x + i) ^^^ u2 0 25) u2
      rw [h2.2.1]
      exact q u2 (h2.ap (by simp))
    · rw [if_neg c, if_neg c] at q
      refine b_t rfl (n_t (fun y => c (e5.mp y)) (run_v h (by omega) (fun u1 h1 => ?_)))
      rw [h1.2.1]
      exact q u1 h1
theorem tells_u {N k : Nat} {i w x : Int32} {L : List Int32} {u0 u : MM} {K : Int32 → MM → Prop} (hN : 8 ≤ N) (hk : k < 7) (h : actU u0 k i w L u) (hL : L.length < 16) (q : ∀ u' : MM, actU u0 k i w (L ++ tb k) u' → K (tv k i w x) u') : wX0_tells N x u K := by
  unfold wX0_tells
  rw [h.1]
  refine und_c hN hk (c := 2) (by omega) (fun z => b_f (by decide) ?_) (fun z => ?_)
  · have c : k = 2 ∨ k = 5 := by unfold und at z; omega
    unfold tb tv at q
    rw [if_pos c, if_pos c] at q
    refine run_u h (by omega) (fun u1 h1 => run_u h1 (by simp; omega) (fun u2 h2 => hears_u hN hk h2 (by simp; omega) (fun u3 h3 => ?_)))
    rw [h3.2.2.1]
    exact q u3 (h3.ap (by simp))
  · have c : ¬ (k = 2 ∨ k = 5) := by unfold und at z; omega
    unfold tb tv at q
    rw [if_neg c, if_neg c] at q
    refine b_t rfl (und_c hN hk (c := 6) (by omega) (fun z => b_f (by decide) ?_) (fun z => b_t rfl ?_))
    · have c : k = 6 := by unfold und at z; omega
      rw [if_pos c, if_pos c] at q
      refine run_u h (by omega) (fun u1 h1 => run_u h1 (by simp; omega) (fun u2 h2 => hears_u hN hk h2 (by simp; omega) (fun u3 h3 => ?_)))
      rw [h3.2.2.1]
      exact q u3 (h3.ap (by simp))
    · have c : ¬ k = 6 := by unfold und at z; omega
      rw [if_neg c, if_neg c] at q
      refine run_u h (by omega) (fun u1 h1 => hears_u hN hk h1 (by simp; omega) (fun u3 h3 => ?_))
      rw [h3.2.2.1]
      exact q u3 (h3.ap (by simp))
theorem tells_v {N k : Nat} {i w x : Int32} {L : List Int32} {v0 v : MM} {K : Int32 → MM → Prop} (hk : k < 7) (h : actV v0 k i w L v) (hL : L.length < 16) (q : ∀ v' : MM, actV v0 k i w (L ++ tb k) v' → K (tv k i w x) v') : wX11_tellsActs N x v K := by
  unfold wX11_tellsActs wX11_plainTells
  rw [h.1]
  refine und_m hk (c := 2) (by omega) (fun z => b_f (by decide) ?_) (fun z => ?_)
  · have c : k = 2 ∨ k = 5 := by unfold und at z; omega
    unfold tb tv at q
    rw [if_pos c, if_pos c] at q
    refine run_v h (by omega) (fun u1 h1 => run_v h1 (by simp; omega) (fun u2 h2 => hears_v hk h2 (by simp; omega) (fun u3 h3 => ?_)))
    rw [h3.2.2.1]
    exact q u3 (h3.ap (by simp))
  · have c : ¬ (k = 2 ∨ k = 5) := by unfold und at z; omega
    unfold tb tv at q
    rw [if_neg c, if_neg c] at q
    have e6 : nI k = 6 ↔ k = 6 := nI_eq (a := k) (b := 6) (by omega) (by omega)
    by_cases c : k = 6
    · rw [if_pos c, if_pos c] at q
      refine b_t rfl (n_f (e6.mpr c) (run_v h (by omega) (fun u1 h1 => run_v h1 (by simp; omega) (fun u2 h2 => hears_v hk h2 (by simp; omega) (fun u3 h3 => ?_)))))
      rw [h3.2.2.1]
      show K ((hv k i x - w) + u3 0 26) u3
      rw [h3.2.2.1]
      exact q u3 (h3.ap (by simp))
    · rw [if_neg c, if_neg c] at q
      refine b_t rfl (n_t (fun y => c (e6.mp y)) (run_v h (by omega) (fun u1 h1 => hears_v hk h1 (by simp; omega) (fun u3 h3 => ?_))))
      rw [h3.2.2.1]
      exact q u3 (h3.ap (by simp))
theorem pays_u {N k : Nat} {i w x : Int32} {L : List Int32} {u0 u : MM} {K : Int32 → MM → Prop} (hN : 8 ≤ N) (hk : k < 7) (h : actU u0 k i w L u) (hL : L.length < 8) (q : ∀ u' : MM, actU u0 k i w (L ++ pb k) u' → K (pv k i w x) u') : wX0_pays N x u K := by
  have q1 := tb_len k
  unfold wX0_pays
  rw [h.1]
  refine und_c hN hk (c := 3) (by omega) (fun z => b_f (by decide) ?_) (fun z => ?_)
  · have c : k = 3 ∨ k = 6 := by unfold und at z; omega
    unfold pb pv at q
    rw [if_pos c, if_pos c] at q
    exact run_u h (by omega) (fun u1 h1 => run_u h1 (by simp; omega) (fun u2 h2 => tells_u hN hk h2 (by simp; omega) (fun u3 h3 => q u3 (h3.ap (by simp)))))
  · have c : ¬ (k = 3 ∨ k = 6) := by unfold und at z; omega
    unfold pb pv at q
    rw [if_neg c, if_neg c] at q
    refine b_t rfl (und_c hN hk (c := 4) (by omega) (fun z => b_f (by decide) ?_) (fun z => b_t rfl ?_))
    · have c : k = 4 := by unfold und at z; omega
      rw [if_pos c, if_pos c] at q
      exact run_u h (by omega) (fun u1 h1 => run_u h1 (by simp; omega) (fun u2 h2 => tells_u hN hk h2 (by simp; omega) (fun u3 h3 => hears_u hN hk h3 (by simp; omega) (fun u4 h4 => q u4 (h4.ap (by simp))))))
    · have c : ¬ k = 4 := by unfold und at z; omega
      rw [if_neg c, if_neg c] at q
      exact run_u h (by omega) (fun u1 h1 => tells_u hN hk h1 (by simp; omega) (fun u3 h3 => q u3 (h3.ap (by simp))))
theorem pays_v {N k : Nat} {i w x : Int32} {L : List Int32} {v0 v : MM} {K : Int32 → MM → Prop} (hk : k < 7) (h : actV v0 k i w L v) (hL : L.length < 8) (q : ∀ v' : MM, actV v0 k i w (L ++ pb k) v' → K (pv k i w x) v') : wX11_paysActs N x v K := by
  have q1 := tb_len k
  unfold wX11_paysActs wX11_plainPays
  rw [h.1]
  refine und_m hk (c := 3) (by omega) (fun z => b_f (by decide) ?_) (fun z => ?_)
  · have c : k = 3 ∨ k = 6 := by unfold und at z; omega
    unfold pb pv at q
    rw [if_pos c, if_pos c] at q
    exact run_v h (by omega) (fun u1 h1 => run_v h1 (by simp; omega) (fun u2 h2 => tells_v hk h2 (by simp; omega) (fun u3 h3 => q u3 (h3.ap (by simp)))))
  · have c : ¬ (k = 3 ∨ k = 6) := by unfold und at z; omega
    unfold pb pv at q
    rw [if_neg c, if_neg c] at q
    have e4 : nI k = 4 ↔ k = 4 := nI_eq (a := k) (b := 4) (by omega) (by omega)
    by_cases c : k = 4
    · rw [if_pos c, if_pos c] at q
      exact b_t rfl (n_f (e4.mpr c) (run_v h (by omega) (fun u1 h1 => run_v h1 (by simp; omega) (fun u2 h2 => tells_v hk h2 (by simp; omega) (fun u3 h3 => hears_v hk h3 (by simp; omega) (fun u4 h4 => q u4 (h4.ap (by simp))))))))
    · rw [if_neg c, if_neg c] at q
      exact b_t rfl (n_t (fun y => c (e4.mp y)) (run_v h (by omega) (fun u1 h1 => tells_v hk h1 (by simp; omega) (fun u3 h3 => q u3 (h3.ap (by simp))))))
theorem rel_act' {u v u' v' : MM} {k k2 : Nat} {i w i2 w2 : Int32} {L : List Int32} (h : relT u v) (hL : L.length < 20) (hu : actU u k i w L u') (hv : actV v k2 i2 w2 L v') : relT u' v' := by
  obtain ⟨⟨n, hd, td, h1⟩, h2, h3, h4, -⟩ := h
  obtain ⟨-, -, -, a4, a5, a6⟩ := hu
  obtain ⟨-, -, -, b4, b5, b6, b7, b8, b9⟩ := hv
  refine ⟨⟨n, hd, td, ?_⟩, ?_, by rw [b8]; exact h3, by rw [b9]; exact h4, L.length, hL, a4, b4, fun k hk => ?_⟩
  · rw [b6 1 (by omega) (by omega)]
    exact h1.rows (fun k x y => a6 k (by omega) (by omega))
  · rw [b7, a6 0 (by omega) (by omega), b6 2 (by omega) (by omega)]
    rcases h2 with h2 | ⟨a, b, n, hd, td, c⟩
    · exact Or.inl h2
    · exact Or.inr ⟨a, b, n, hd, td, c.rows (fun k x y => a6 k (by omega) (by omega))⟩
  · have e : L[k]? = some L[k] := List.getElem?_eq_getElem hk
    rw [a5 k _ e, b5 k _ e]
theorem rel_act0 {u v u' v' : MM} (h : relT u v) (hu : u' 4 3 = 0) (hu2 : ∀ a, a ≠ 4 → u' a = u a) (f1 : v' = up v 0 23 0) : relT u' v' := by
  obtain ⟨⟨n2, hd2, td2, g1⟩, g2, g3, g4, -⟩ := h
  have z : ∀ j, j ≠ 23 → v' 0 j = v 0 j := fun j hj => by rw [f1, up_j hj]
  refine ⟨⟨n2, hd2, td2, ?_⟩, ?_, by rw [z 16 (by omega)]; exact g3, by rw [z 17 (by omega)]; exact g4, 0, by omega, hu, upx f1, fun k hk => by omega⟩
  · rw [upu f1 (by omega)]
    exact g1.rows (fun k x y => hu2 k (by omega))
  · rw [z 4 (by omega), hu2 0 (by omega), upu f1 (by omega)]
    rcases g2 with g2 | ⟨a, b, n, hd, td, c⟩
    · exact Or.inl g2
    · exact Or.inr ⟨a, b, n, hd, td, c.rows (fun k x y => hu2 k (by omega))⟩
theorem rel_act (N : Nat) (hN : 8 ≤ N) : ∀ (u v : MM) (x1 x2 x3 : Int32), relT u v → wX10_act N x1 x2 x3 u (fun r u2 => wX11_act N x1 x2 x3 v (fun r2 v2 => r = r2 ∧ relT u2 v2)) := by
  intro u v x1 x2 x3 h
  obtain ⟨⟨n, hd, td, hRS⟩, hr⟩ := id h
  obtain ⟨h1, h2, h3, h4, h5, h6, h7, h8⟩ := id hRS
  obtain ⟨p1, p2, p3, p4, p5, p6⟩ := id h1
  have hu : u 21 0 = nI n := (h2 18 11 0 m18).trans p2
  intro u1 e1
  have hu1 : u1 21 0 = nI n := by rw [upu e1 (by omega)]; exact hu
  have fin : ∀ v1 : MM, v1 = up v 0 23 0 → v1 1 18 = nI n := fun v1 f1 => by rw [upu f1 (by omega)]; exact p2
  rcases arg3 x1 (n := n) (by omega) with hx | ⟨a, ha, rfl⟩
  · exact has_no hu1 hx (n_f rfl (fun v1 f1 => per_no (fin v1 f1) p1 hx (b_t rfl ⟨rfl, rel_act0 h (upx e1) (fun a ha => upu e1 ha) f1⟩)))
  have ha7 : a < 7 := by omega
  obtain ⟨⟨k, hk, ek⟩, ⟨z, hz, ez⟩, -⟩ := h4.1 a ha7
  refine has_yes hu1 p1 ha (n_t (by decide) ⟨vp7 ha7, vp7 ha7, ?_⟩)
  rw [cl7 (by omega)]
  intro u2 e2 u3 e3 u4 e4
  have uk : u1 22 a = nI k := by rw [upu e1 (by omega)]; exact (h2 (24 + a) 12 a (m24 ha7)).trans ek
  have uw : u1 23 a = v 1 (31 + a) := by rw [upu e1 (by omega)]; exact h2 (31 + a) 13 a (m31 ha7)
  rw [uk] at e2
  rw [uw] at e4
  have AU : actU u k (nI a) (v 1 (31 + a)) [] u4 := by
    refine ⟨?_, ?_, upx e4, ?_, fun j x hx => by simp at hx, fun b n4 n5 => by rw [upu e4 n4, upu e3 n4, upu e2 n4, upu e1 n4]⟩
    · rw [e4, up_j (by omega), e3, up_j (by omega)]; exact upx e2
    · rw [e4, up_j (by omega)]; exact upx e3
    · rw [e4, up_j (by omega), e3, up_j (by omega), e2, up_j (by omega)]; exact upx e1
  have per : ∀ (K : Int32 → MM → Prop), (∀ v1 : MM, v1 = up v 0 23 0 → wX11_in N x2 0 2 (fun r5 => ((¬ r5 = 0 → (vp_in ((24 + nI a)) 944 ∧ (∀ u7 : MM, u7 = up v1 0 24 (v1 1 (24 + nI a).toNatClampNeg) → (∀ u8 : MM, u8 = up u7 0 25 (nI a) → (vp_in ((31 + nI a)) 944 ∧ (∀ u9 : MM, u9 = up u8 0 26 (u8 1 (31 + nI a).toNatClampNeg) → ((¬ x2 = 0 → ((¬ x2 = 1 → (wX11_paysActs N x3 u9 (fun r12 u13 => (K r12 u13)))) ∧ (x2 = 1 → (wX11_tellsActs N x3 u9 (fun r14 u15 => (K r14 u15)))))) ∧ (x2 = 0 → (wX11_hearsActs N x3 u9 (fun r16 u17 => (K r16 u17))))))))))) ∧ (r5 = 0 → (K 0 v1))))) → wX11_act N (nI a) x2 x3 v K := fun K q v1 f1 => per_yes (fin v1 f1) p1 ha (b_f (by decide) (q v1 f1))
  have AV : ∀ v1 : MM, v1 = up v 0 23 0 → ∀ u7 : MM, u7 = up v1 0 24 (v1 1 (24 + a)) → ∀ u8 : MM, u8 = up u7 0 25 (nI a) → ∀ u9 : MM, u9 = up u8 0 26 (u8 1 (31 + a)) → actV v k (nI a) (v 1 (31 + a)) [] u9 := by
    intro v1 f1 v2 f2 v3 f3 v4 f4
    have g1 : v1 1 = v 1 := upu f1 (by omega)
    have g3 : v3 1 = v 1 := by rw [upu f3 (by omega), upu f2 (by omega)]; exact g1
    rw [g1, ek] at f2
    rw [g3] at f4
    refine ⟨?_, ?_, upx f4, ?_, fun j x hx => by simp at hx, fun b n4 n5 => by rw [upu f4 n4, upu f3 n4, upu f2 n4, upu f1 n4], ?_, ?_, ?_⟩
    · rw [f4, up_j (by omega), f3, up_j (by omega)]; exact upx f2
    · rw [f4, up_j (by omega)]; exact upx f3
    · rw [f4, up_j (by omega), f3, up_j (by omega), f2, up_j (by omega)]; exact upx f1
    · rw [f4, up_j (by omega), f3, up_j (by omega), f2, up_j (by omega), f1, up_j (by omega)]
    · rw [f4, up_j (by omega), f3, up_j (by omega), f2, up_j (by omega), f1, up_j (by omega)]
    · rw [f4, up_j (by omega), f3, up_j (by omega), f2, up_j (by omega), f1, up_j (by omega)]
  have c24 : ((24 : Int32) + nI a).toNatClampNeg = 24 + a := by rw [i24]; exact nI_clamp (by omega)
  have c31 : ((31 : Int32) + nI a).toNatClampNeg = 31 + a := by rw [i31]; exact nI_clamp (by omega)
  have w24 : vp_in ((24 : Int32) + nI a) 944 := by rw [i24]; exact vp_in_nI (by omega) (by omega)
  have w31 : vp_in ((31 : Int32) + nI a) 944 := by rw [i31]; exact vp_in_nI (by omega) (by omega)
  have hp := pb_len k
  have ht := tb_len k
  have hh := hb_len k
  rw [c24, c31] at per
  by_cases c0 : x2 = 0
  · subst c0
    exact b_t rfl (hears_u hN hk AU (by simp) (fun u5 h5 => per _ (fun v1 f1 => min_yes (j := 0) (n := 2) (by omega) (by omega) (n_t (by decide) ⟨w24, fun v2 f2 v3 f3 => ⟨w31, fun v4 f4 => n_f rfl (hears_v hk (AV v1 f1 v2 f2 v3 f3 v4 f4) (by simp) (fun v5 g5 => ⟨rfl, rel_act' h (by simp; omega) h5 g5⟩))⟩⟩))))
  by_cases c1 : x2 = 1
  · subst c1
    exact b_f c0 (b_t rfl (tells_u hN hk AU (by simp) (fun u5 h5 => per _ (fun v1 f1 => min_yes (j := 1) (n := 2) (by omega) (by omega) (n_t (by decide) ⟨w24, fun v2 f2 v3 f3 => ⟨w31, fun v4 f4 => n_t c0 (n_f rfl (tells_v hk (AV v1 f1 v2 f2 v3 f3 v4 f4) (by simp) (fun v5 g5 => ⟨rfl, rel_act' h (by simp; omega) h5 g5⟩)))⟩⟩)))))
  by_cases c2 : x2 = 2
  · subst c2
    exact b_f c0 (b_f c1 (b_t rfl (pays_u hN hk AU (by simp) (fun u5 h5 => per _ (fun v1 f1 => min_yes (j := 2) (n := 2) (by omega) (by omega) (n_t (by decide) ⟨w24, fun v2 f2 v3 f3 => ⟨w31, fun v4 f4 => n_t c0 (n_t c1 (pays_v hk (AV v1 f1 v2 f2 v3 f3 v4 f4) (by simp) (fun v5 g5 => ⟨rfl, rel_act' h (by simp; omega) h5 g5⟩)))⟩⟩))))))
  refine b_f c0 (b_f c1 (b_f c2 (per _ (fun v1 f1 => min_no (n := 2) (by omega) ?_ (n_f rfl ⟨rfl, ?_⟩)))))
  · rcases arg3 x2 (n := 3) (by omega) with hx | ⟨j, hj, rfl⟩
    · exact hx
    · exfalso
      have : j = 0 ∨ j = 1 ∨ j = 2 := by omega
      rcases this with rfl | rfl | rfl
      · exact c0 rfl
      · exact c1 rfl
      · exact c2 rfl
  · exact rel_act0 h AU.2.2.2.1 (fun b nb => by rw [upu e4 nb, upu e3 nb, upu e2 nb, upu e1 nb]) f1
