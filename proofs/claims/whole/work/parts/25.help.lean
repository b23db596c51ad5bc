theorem EqS.put2 {u u' v v' : MM} {S k i a b : Nat} {x : Int32} (h : EqS u S (v 1)) (e : u' = up u k b x) (f : v' = up v 1 i x) (hm : mir i a b) (hk : k = S + a) : EqS u' S (v' 1) := by
  subst e f
  exact EqS.put h hm hk (fun j => by by_cases hj : j = i <;> simp [up, hj])
theorem EqS.offv {u v v' : MM} {S i : Nat} {x : Int32} (h : EqS u S (v 1)) (f : v' = up v 1 i x) (hn : ∀ a b, ¬ mir i a b) : EqS u S (v' 1) := by
  subst f
  exact h.other (fun j a c hm => up_j (fun e => hn a c (e ▸ hm)))
theorem EqS.offu {u u' : MM} {S k b : Nat} {s : Nat → Int32} {x : Int32} (h : EqS u S s) (e : u' = up u k b x) (hk : k < S ∨ S + 24 ≤ k ∨ (∀ i c, ¬ mir i (k - S) c)) : EqS u' S s := by
  subst e
  refine h.off (fun i a c hm e => ?_)
  rcases hk with hk | hk | hk
  · omega
  · unfold mir at hm; omega
  · exact hk i c (by rw [e, Nat.add_sub_cancel_left]; exact hm)
theorem upv {v v' : MM} {i k : Nat} {x : Int32} (f : v' = up v 1 i x) (h : k ≠ i) : v' 1 k = v 1 k := by rw [f, up_j h]
theorem upu {u u' : MM} {k a j : Nat} {x : Int32} (e : u' = up u k j x) (h : a ≠ k) : u' a = u a := by rw [e, up_k h]
theorem upx {v v' : MM} {k i : Nat} {x : Int32} (f : v' = up v k i x) : v' k i = x := by rw [f, up_at]
theorem kpu {u u' : MM} {k j : Nat} {x : Int32} (e : u' = up u k j x) (h : k ≠ 0 ∧ k ≠ 4 ∧ k ≠ 5 ∧ (k < 36 ∨ 62 ≤ k)) : kp u u' := by rw [e]; exact kp.up h
theorem kqu {v v' : MM} {k j : Nat} {x : Int32} (e : v' = up v k j x) (h : (k ≠ 2 ∧ k ≠ 8 ∧ k ≠ 0) ∨ (k = 0 ∧ j ≠ 4 ∧ j ≠ 16 ∧ j ≠ 17 ∧ j ≠ 23)) : kq v v' := by rw [e]; exact kq.up h
theorem vp7 {p : Nat} (h : p < 7) : vp_in (nI p) 7 := vp_in_nI h (by omega)
theorem cl7 {p : Nat} (h : p < 2 ^ 31) : (nI p).toNatClampNeg = p := nI_clamp h
theorem kq1 {v v' : MM} {j : Nat} {x : Int32} (e : v' = up v 1 j x) : kq v v' := kqu e (Or.inl ⟨by decide, by decide, by decide⟩)
theorem nI_m1 {h : Nat} (hh : h < 2 ^ 31) : ¬ nI h = -1 := by
  intro z
  have := congrArg Int32.toInt z
  rw [nI_toInt hh] at this
  simp at this
