def lkC (v : MM) (hd k : Nat) : Bool := hd.testBit (v 1 (113 + k)).toNatClampNeg && decide (v 1 (11 + (v 1 (113 + k)).toNatClampNeg) = v 1 (121 + k))
def lkF (v : MM) (hd : Nat) : Nat → Nat → Int32
  | 0, _ => -5
  | j + 1, k => if lkC v hd k = true then lkF v hd j (k + 1) else nI k
theorem lk_c (N : Nat) (K : Int32 → MM → Prop) (u v : MM) {n hd td m : Nat} (hRS : RS u 10 (v 1) n hd td) (hm : m ≤ 8) (em : v 1 21 = nI m) : ∀ (j k f : Nat), k + j = m → j < f → K (lkF v hd j k) u → wX10_looked_b10 N K f (nI k) u := by
  obtain ⟨h1, h2, h3, h4, h5, h6, ⟨m', hm', em', hbk⟩, h8⟩ := hRS
  obtain ⟨p1, p2, p3, p4, p5, p6⟩ := h1
  have emm : m' = m := (nI_eq (by omega) (by omega)).mp (em'.symm.trans em)
  subst emm
  have um : u 33 0 = nI m' := (h2 21 23 0 m21).trans em
  have uh : u 27 2 = nI hd := (h2 2 17 2 (m17 (by decide))).trans p4
  intro j
  induction j with
  | zero =>
    intro k f hk hf hK
    obtain ⟨f, rfl⟩ : ∃ g, f = g + 1 := ⟨f - 1, by omega⟩
    exact b_t (by rw [um]; exact nI_le (by omega) (by omega)) hK
  | succ j ih =>
    intro k f hk hf hK
    obtain ⟨f, rfl⟩ : ∃ g, f = g + 1 := ⟨f - 1, by omega⟩
    obtain ⟨q1, q2, p, hp, q3⟩ := hbk k (by omega)
    refine b_f (by rw [um]; exact nI_ge (by omega) (by omega)) ⟨vp_in_nI (by omega) (by omega), fun y2 e2 => ?_⟩
    rw [nI_clamp (by omega), show u 34 k = v 1 (113 + k) from q1, q3] at e2
    subst e2
    rw [uh]
    have cp : (v 1 (113 + k)).toNatClampNeg = p := by rw [q3]; exact nI_clamp (by omega)
    have e0 : lkF v hd (j + 1) k = if lkC v hd k = true then lkF v hd j (k + 1) else nI k := rfl
    rw [e0] at hK
    unfold lkC at hK
    rw [cp] at hK
    by_cases hb : hd.testBit p = true
    · refine hb_yes (lt128 p3 p1) hp hb (b_f (by decide) ⟨vp7 hp, vp_in_nI (by omega) (by omega), ?_⟩)
      rw [nI_clamp (by omega), nI_clamp (by omega), show u 35 k = v 1 (121 + k) from q2, show u 29 p = v 1 (11 + p) from (h5 p hp hb).2.2]
      rw [hb, Bool.true_and] at hK
      by_cases hq : v 1 (11 + p) = v 1 (121 + k)
      · rw [if_pos (decide_eq_true hq)] at hK
        refine b_t hq (fun y6 e6 => ?_)
        rw [i_one] at e6
        subst e6
        exact ih (k + 1) f (by omega) (by omega) hK
      · rw [if_neg (by simp [hq])] at hK
        exact b_f hq hK
    · have hb2 : hd.testBit p = false := by simpa using hb
      rw [hb2, Bool.false_and, if_neg (by decide)] at hK
      exact hb_no (lt128 p3 p1) hp hb2 (b_t rfl hK)
theorem lk_m (N : Nat) (K : Int32 → MM → Prop) (u v : MM) {n hd td m : Nat} (hRS : RS u 10 (v 1) n hd td) (hm : m ≤ 8) (em : v 1 21 = nI m) : ∀ (j k f : Nat), k + j = m → j < f → K (lkF v hd j k) v → wX11_looked_b2 N K f (nI k) v := by
  obtain ⟨h1, h2, h3, h4, h5, h6, ⟨m', hm', em', hbk⟩, h8⟩ := hRS
  obtain ⟨p1, p2, p3, p4, p5, p6⟩ := h1
  have emm : m' = m := (nI_eq (by omega) (by omega)).mp (em'.symm.trans em)
  subst emm
  intro j
  induction j with
  | zero =>
    intro k f hk hf hK
    obtain ⟨f, rfl⟩ : ∃ g, f = g + 1 := ⟨f - 1, by omega⟩
    exact b_t (by rw [em]; exact nI_le (by omega) (by omega)) hK
  | succ j ih =>
    intro k f hk hf hK
    obtain ⟨f, rfl⟩ : ∃ g, f = g + 1 := ⟨f - 1, by omega⟩
    obtain ⟨q1, q2, p, hp, q3⟩ := hbk k (by omega)
    refine b_f (by rw [em]; exact nI_ge (by omega) (by omega)) ⟨by rw [i113]; exact vp_in_nI (by omega) (by omega), fun y2 e2 => ?_⟩
    rw [i113, nI_clamp (by omega), q3] at e2
    subst e2
    have cp : (v 1 (113 + k)).toNatClampNeg = p := by rw [q3]; exact nI_clamp (by omega)
    have e0 : lkF v hd (j + 1) k = if lkC v hd k = true then lkF v hd j (k + 1) else nI k := rfl
    rw [e0] at hK
    unfold lkC at hK
    rw [cp] at hK
    by_cases hb : hd.testBit p = true
    · refine hh_yes p4 (lt128 p3 p1) hp hb (b_f (by decide) ?_)
      rw [i11, i121, nI_clamp (by omega), nI_clamp (by omega)]
      refine ⟨vp_in_nI (by omega) (by omega), vp_in_nI (by omega) (by omega), ?_⟩
      rw [hb, Bool.true_and] at hK
      by_cases hq : v 1 (11 + p) = v 1 (121 + k)
      · rw [if_pos (decide_eq_true hq)] at hK
        refine b_t hq (fun y6 e6 => ?_)
        rw [i_one] at e6
        subst e6
        exact ih (k + 1) f (by omega) (by omega) hK
      · rw [if_neg (by simp [hq])] at hK
        exact b_f hq hK
    · have hb2 : hd.testBit p = false := by simpa using hb
      rw [hb2, Bool.false_and, if_neg (by decide)] at hK
      exact hh_no p4 (lt128 p3 p1) hp hb2 (b_t rfl hK)
theorem rel_looked (N : Nat) (hN : 10 ≤ N) : ∀ (u v : MM), relT u v → wX10_looked N u (fun r u2 => wX11_looked N v (fun r2 v2 => r = r2 ∧ relT u2 v2)) := by
  intro u v h
  obtain ⟨⟨n, hd, td, hRS⟩, hr⟩ := id h
  obtain ⟨m, hm, em, -⟩ := hRS.2.2.2.2.2.2.1
  exact lk_c N _ u v hRS hm em m 0 N (by omega) (by omega) (lk_m N _ u v hRS hm em m 0 N (by omega) (by omega) ⟨rfl, h⟩)
