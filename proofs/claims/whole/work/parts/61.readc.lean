/-! the class reads -/
def TC (u : MM) (T : Tp) : Prop := u 62 1 = nI T.2 ∧ ∀ i, i < T.2 → u 63 i = nI (T.1 i)
def CQ (u : MM) (P : List Cl) : Prop := u 64 2 = nI P.length ∧ P.length ≤ 10 ∧ u 64 3 = nI (tot P) ∧ tot P ≤ 100 ∧ ∀ (j : Nat) (c : Cl), P[j]? = some c → u 65 j = nI c.1 ∧ u 66 j = nI c.2.1 ∧ u 67 j = nI (tot (P.take j)) ∧ u 68 j = nI (tot (P.take j) + c.2.2.length) ∧ ∀ (i : Nat) (x : Int), c.2.2[i]? = some x → stC u 61 (tot (P.take j) + i) x
def f6 (u u' : MM) : Prop := (∀ a, a ≠ 6 → u' a = u a) ∧ ∀ j, j ≠ 2 → j ≠ 3 → u' 6 j = u 6 j
def fC (u u' : MM) : Prop := (∀ a, a ≠ 6 → (a < 64 ∨ 72 ≤ a) → u' a = u a) ∧ (∀ j, j ≠ 2 → j ≠ 3 → u' 6 j = u 6 j) ∧ u' 64 0 = u 64 0 ∧ u' 64 1 = u 64 1
theorem f6.rf (u : MM) : f6 u u := ⟨fun _ _ => rfl, fun _ _ _ => rfl⟩
theorem f6.tr {a b c : MM} (h : f6 a b) (h2 : f6 b c) : f6 a c := ⟨fun k x => (h2.1 k x).trans (h.1 k x), fun j x y => (h2.2 j x y).trans (h.2 j x y)⟩
theorem f6.up {u u' : MM} {j : Nat} {x : Int32} (e : u' = up u 6 j x) (hj : j = 2 ∨ j = 3) : f6 u u' := ⟨fun a ha => upu e ha, fun i h2 h3 => by rw [e, up_j (by omega)]⟩
theorem f6.c {u u' : MM} (h : f6 u u') : fC u u' := ⟨fun a h1 _ => h.1 a h1, h.2, by rw [h.1 64 (by omega)], by rw [h.1 64 (by omega)]⟩
theorem fC.rf (u : MM) : fC u u := (f6.rf u).c
theorem fC.tr {a b c : MM} (h : fC a b) (h2 : fC b c) : fC a c := ⟨fun k x y => (h2.1 k x y).trans (h.1 k x y), fun j x y => (h2.2.1 j x y).trans (h.2.1 j x y), h2.2.2.1.trans h.2.2.1, h2.2.2.2.trans h.2.2.2⟩
theorem TC.c {u u' : MM} {T : Tp} (h : TC u T) (g : fC u u') : TC u' T := ⟨by rw [g.1 62 (by omega) (by omega)]; exact h.1, fun i hi => by rw [g.1 63 (by omega) (by omega)]; exact h.2 i hi⟩
theorem CQ.same {u u' : MM} {P : List Cl} (h : CQ u P) (g : ∀ a, 64 ≤ a → a < 72 → u' a = u a) : CQ u' P := by
  obtain ⟨a, b, c, d, e⟩ := h
  refine ⟨by rw [g 64 (by omega) (by omega)]; exact a, b, by rw [g 64 (by omega) (by omega)]; exact c, d, fun j x hj => ?_⟩
  obtain ⟨p, q, r, s, t⟩ := e j x hj
  rw [g 65 (by omega) (by omega), g 66 (by omega) (by omega), g 67 (by omega) (by omega), g 68 (by omega) (by omega)]
  exact ⟨p, q, r, s, fun i y hy => (t i y hy).copy (by rw [g 69 (by omega) (by omega)]) (by rw [g 70 (by omega) (by omega)]) (by rw [g 71 (by omega) (by omega)])⟩
theorem CQ.f6 {u u' : MM} {P : List Cl} (h : CQ u P) (g : f6 u u') : CQ u' P := h.same (fun a h1 _ => g.1 a (by omega))
theorem oz_toInt {x : Nat} (hx : x ≤ 128) : (oz x).toInt = if x = 128 then -1 else (x : Int) := by
  unfold oz
  split
  · decide
  · exact nI_toInt (by omega)
theorem oz_lt {x c : Nat} (hx : x ≤ 128) (hc : c < 128) : oz x < nI c ↔ x = 128 ∨ x < c := by
  rw [Int32.lt_iff_toInt_lt, oz_toInt hx, nI_toInt (by omega)]
  split <;> omega
theorem oz_le {x c : Nat} (hx : x ≤ 128) (hc : c < 128) : oz x ≤ nI c ↔ x = 128 ∨ x ≤ c := by
  rw [Int32.le_iff_toInt_le, oz_toInt hx, nI_toInt (by omega)]
  split <;> omega
theorem oz_gt {x c : Nat} (hx : x ≤ 128) (hc : c < 128) : nI c < oz x ↔ x ≠ 128 ∧ c < x := by
  rw [Int32.lt_iff_toInt_lt, oz_toInt hx, nI_toInt (by omega)]
  split <;> omega
theorem oz_n {x : Nat} (hx : x < 128) : oz x = nI x := by unfold oz; rw [if_neg (by omega)]
theorem at_c {N p : Nat} {T : Tp} {u : MM} {K : Int32 → MM → Prop} (h : TC u T) (hT : TpOk T) (hp : p ≤ 110) (k : K (oz (sg T p)) u) : wX6_at N (nI p) u K := by
  have ht := hT.1
  refine b_f (nI_pos (by omega)) ?_
  rw [h.1]
  by_cases hc : p < T.2
  · refine b_f (nI_ge hc (by omega)) ⟨vp_in_nI (by omega) (by omega), ?_⟩
    rw [nI_clamp (by omega), h.2 p hc]
    have e : oz (sg T p) = nI (T.1 p) := by
      unfold sg
      rw [if_pos hc]
      exact oz_n (hT.2 p (by omega))
    rw [← e]
    exact k
  · have e : oz (sg T p) = -1 := by
      unfold sg oz
      rw [if_neg hc, if_pos rfl]
    rw [e] at k
    exact b_t (nI_le (by omega) (by omega)) k
theorem skip_c {N p x : Nat} {T : Tp} {u : MM} {K : Int32 → MM → Prop} (h : TC u T) (hT : TpOk T) (h2 : u 6 2 = nI p) (hp : p ≤ 110) (hx : x < 128) (k1 : sg T p = x → ∀ u' : MM, f6 u u' → u' 6 2 = nI (p + 1) → K 1 u') (k0 : ¬ sg T p = x → K 0 u) : wX3_skip N (nI x) u K := by
  unfold wX3_skip
  rw [h2]
  refine at_c h hT hp ?_
  have e := oz_eq (sg_le hT p) hx
  by_cases hc : sg T p = x
  · refine b_t (e.mpr hc) (fun u4 e4 => ?_)
    rw [h2, i_one] at e4
    exact k1 hc u4 (f6.up e4 (Or.inl rfl)) (upx e4)
  · exact b_f (fun y => hc (e.mp y)) (k0 hc)
theorem dgt_no {x : Nat} (h : dgt x = false) : x < 48 ∨ 57 < x := by
  unfold dgt at h
  rw [Bool.and_eq_false_iff, decide_eq_false_iff_not, decide_eq_false_iff_not] at h
  omega
theorem num_c {N p : Nat} {T : Tp} {u : MM} {K : Int32 → MM → Prop} (h : TC u T) (hT : TpOk T) (h2 : u 6 2 = nI p) (hp : p ≤ 105) (k : ∀ u' : MM, f6 u u' → u' 6 2 = nI (pN T p).2.1 → ((pN T p).1 = true → u' 6 3 = nI (pN T p).2.2) → K (nI (bn (pN T p).1)) u') : wX3_readNumber N u K := by
  unfold wX3_readNumber
  rw [h2]
  refine at_c h hT (by omega) ?_
  have hs := sg_le hT p
  have hs1 := sg_le hT (p + 1)
  unfold pN at k
  cases hd : dgt (sg T p)
  · rw [hd, if_neg (by decide)] at k
    have k0 := k u (f6.rf u) h2 (fun z => by cases z)
    rcases dgt_no hd with z | z
    · exact b_t ((oz_lt (c := 48) hs (by omega)).mpr (Or.inr z)) k0
    · by_cases z8 : sg T p = 128
      · exact b_t ((oz_lt (c := 48) hs (by omega)).mpr (Or.inl z8)) k0
      · exact b_f (fun y => by have := (oz_lt (c := 48) hs (by omega)).mp y; omega) (b_f (fun y => by have := (oz_le (c := 57) hs (by omega)).mp y; omega) k0)
  · have hd1 := dgt_iff.mp hd
    rw [hd, if_pos rfl] at k
    refine b_f (fun y => by have := (oz_lt (c := 48) hs (by omega)).mp y; omega) (b_t ((oz_le (c := 57) hs (by omega)).mpr (Or.inr hd1.2)) (fun u5 e5 u6 e6 => ?_))
    rw [h2, i_one] at e5
    rw [oz_n (by omega), show (48 : Int32) = nI 48 from rfl, pk_sub (by omega)] at e6
    have g5 := f6.up e5 (Or.inl rfl)
    have g6 := f6.up e6 (Or.inr rfl)
    have g56 := g5.tr g6
    have q2 : u6 6 2 = nI (p + 1) := by rw [e6, up_j (by omega)]; exact upx e5
    have q3 : u6 6 3 = nI (sg T p - 48) := upx e6
    rw [q2]
    refine at_c (h.c g56.c) hT (by omega) ?_
    rw [q3]
    have e0 : nI (sg T p - 48) = 0 ↔ sg T p - 48 = 0 := nI_eq (b := 0) (by omega) (by omega)
    by_cases c48 : sg T p = 48
    · rw [if_pos (Or.inl c48)] at k
      exact b_t (e0.mpr (by omega)) (k u6 g56 q2 (fun _ => q3))
    refine b_f (fun y => by have := e0.mp y; omega) ?_
    cases hd2 : dgt (sg T (p + 1))
    · rw [if_pos (Or.inr hd2)] at k
      have k0 := k u6 g56 q2 (fun _ => q3)
      rcases dgt_no hd2 with z | z
      · exact b_t ((oz_lt (c := 48) hs1 (by omega)).mpr (Or.inr z)) k0
      · by_cases z8 : sg T (p + 1) = 128
        · exact b_t ((oz_lt (c := 48) hs1 (by omega)).mpr (Or.inl z8)) k0
        · exact b_f (fun y => by have := (oz_lt (c := 48) hs1 (by omega)).mp y; omega) (b_t ((oz_gt (c := 57) hs1 (by omega)).mpr ⟨z8, z⟩) k0)
    · have hd3 := dgt_iff.mp hd2
      rw [if_neg (fun y => y.elim c48 (fun z => by rw [hd2] at z; cases z))] at k
      refine b_f (fun y => by have := (oz_lt (c := 48) hs1 (by omega)).mp y; omega) (b_f (fun y => by have := (oz_gt (c := 57) hs1 (by omega)).mp y; omega) (fun u12 e12 u13 e13 => ?_))
      rw [q2, i_one] at e12
      have q12 : u12 6 3 = nI (sg T p - 48) := by rw [e12, up_j (by omega)]; exact q3
      rw [q12, oz_n (by omega), show (10 : Int32) = nI 10 from rfl, pk_mul, nI_add, show (48 : Int32) = nI 48 from rfl, pk_sub (by omega)] at e13
      refine k u13 ((g56.tr (f6.up e12 (Or.inl rfl))).tr (f6.up e13 (Or.inr rfl))) (by rw [e13, up_j (by omega)]; exact upx e12) (fun _ => ?_)
      rw [upx e13]
      congr 1
      show 10 * (sg T p - 48) + sg T (p + 1) - 48 = 10 * (sg T p - 48) + (sg T (p + 1) - 48)
      omega
theorem word_lp (N i : Nat) (T : Tp) (u0 : MM) (K : Int32 → MM → Prop) (hi : i < 8) (h : TC u0 T) (hT : TpOk T) (B : Bool) (E : Nat) (k : ∀ u' : MM, f6 u0 u' → u' 6 2 = nI E → K (nI (bn B)) u') : ∀ (xs : List Nat) (j p fl : Nat) (u : MM), (wrd i).drop j = xs → j ≤ (wrd i).length → xs.length < fl → p + xs.length ≤ 110 → f6 u0 u → u 6 2 = nI p → pW T xs p = (B, E) → wX3_readWord_b2 N K i fl (nI j) u := by
  obtain ⟨w1, w2, w3⟩ := wrd_ok i hi
  intro xs
  induction xs with
  | nil =>
    intro j p fl u hx hj hfl hp g6 h2 eq
    obtain ⟨g, rfl⟩ : ∃ g, fl = g + 1 := ⟨fl - 1, by rw [List.length_nil] at hfl; omega⟩
    have hl : (wrd i).length ≤ j := List.drop_eq_nil_iff.mp hx
    rw [pW] at eq
    obtain ⟨e1, e2⟩ := Prod.mk.inj eq
    subst e1 e2
    exact ⟨hi, b_t (by rw [← w1]; exact nI_le (by omega) (by omega)) (k u g6 h2)⟩
  | cons x xs ih =>
    intro j p fl u hx hj hfl hp g6 h2 eq
    rw [List.length_cons] at hfl hp
    obtain ⟨g, rfl⟩ : ∃ g, fl = g + 1 := ⟨fl - 1, by omega⟩
    have hl : j < (wrd i).length := by
      rcases Nat.lt_or_ge j (wrd i).length with z | z
      · exact z
      · rw [List.drop_eq_nil_iff.mpr z] at hx; cases hx
    have hg : (wrd i)[j]? = some x := by
      have := congrArg (fun l => l[0]?) hx
      simpa using this
    have hgd : (wrd i).getD j 0 = x := by rw [List.getD_eq_getElem?_getD, hg]; rfl
    have hx2 : (wrd i).drop (j + 1) = xs := by
      have := congrArg (List.drop 1) hx
      rw [List.drop_drop] at this
      simpa using this
    obtain ⟨c1, c2⟩ := w3 j (by omega) hl
    rw [hgd] at c1 c2
    refine ⟨hi, b_f (by rw [← w1]; exact nI_ge hl (by omega)) ⟨hi, by rw [← w1]; exact vp_in_nI hl (by omega), ?_⟩⟩
    rw [nI_clamp (by omega), c1]
    rw [pW] at eq
    refine skip_c (h.c g6.c) hT h2 (by omega) c2 (fun hs u5 g5 h5 => ?_) (fun hs => ?_)
    · rw [if_pos hs] at eq
      refine n_t (by decide) (fun y7 e7 => ?_)
      rw [i_one] at e7
      subst e7
      exact ih (j + 1) (p + 1) g u5 hx2 (by omega) (by omega) (by omega) (g6.tr g5) h5 eq
    · rw [if_neg hs] at eq
      obtain ⟨e1, e2⟩ := Prod.mk.inj eq
      subst e1 e2
      exact n_f rfl (k u g6 h2)
theorem word_c {N i p : Nat} {T : Tp} {u : MM} {K : Int32 → MM → Prop} (hN : 20 ≤ N) (hi : i < 8) (h : TC u T) (hT : TpOk T) (h2 : u 6 2 = nI p) (hp : p ≤ 101) (k : ∀ u' : MM, f6 u u' → u' 6 2 = nI (pW T (wrd i) p).2 → K (nI (bn (pW T (wrd i) p).1)) u') : wX3_readWord N i u K := by
  have hl := (wrd_ok i hi).2.1
  exact word_lp N i T u K hi h hT _ _ k (wrd i) 0 p N u rfl (by omega) (by omega) (by omega) (f6.rf u) h2 rfl
theorem getElem_last {P : List Cl} {c : Cl} {j : Nat} {x : Cl} (h : (P ++ [c])[j]? = some x) : (P[j]? = some x ∧ j < P.length) ∨ (j = P.length ∧ x = c) := by
  have hl := (List.getElem?_eq_some_iff.mp h).1
  rw [List.length_append, List.length_singleton] at hl
  by_cases hj : j < P.length
  · rw [List.getElem?_append_left hj] at h
    exact Or.inl ⟨h, hj⟩
  · have e : j = P.length := by omega
    subst e
    rw [List.getElem?_append_right (Nat.le_refl _), Nat.sub_self] at h
    have : c = x := by simpa using h
    exact Or.inr ⟨rfl, this.symm⟩
theorem tot_take : ∀ (P : List Cl) (j : Nat) (c : Cl), P[j]? = some c → tot (P.take j) + c.2.2.length ≤ tot P
  | [], j, c, h => by simp at h
  | d :: r, 0, c, h => by
    have : d = c := by simpa using h
    rw [List.take_zero, tot, tot, this]
    omega
  | d :: r, j + 1, c, h => by
    rw [List.take_succ_cons, tot, tot]
    have := tot_take r j c (by simpa using h)
    omega
theorem take_last {P : List Cl} {c : Cl} {j : Nat} (h : j ≤ P.length) : (P ++ [c]).take j = P.take j := by
  rw [List.take_append_of_le_length h]
theorem tot_last (P : List Cl) (c : Cl) : tot (P ++ [c]) = tot P + c.2.2.length := by rw [tot_app, tot, tot, Nat.add_zero]
theorem step_c {N kd am : Nat} {P : List Cl} {zs : List Int} {x : Int} {code least most : Int32} {u : MM} {K : MM → Prop} (h : CQ u (P ++ [(kd, am, zs)])) (ht : tot (P ++ [(kd, am, zs)]) < 100) (hst : ∀ (w : MM) (i : Nat), w 69 i = code → w 70 i = least → w 71 i = most → stC w 61 i x) (k : ∀ u' : MM, fC u u' → u' 6 = u 6 → CQ u' (P ++ [(kd, am, zs ++ [x])]) → K u') : wX8_addStep N code least most u K := by
  obtain ⟨a1, a2, a3, a4, a5⟩ := id h
  have hl : (P ++ [(kd, am, zs)]).length = P.length + 1 := by rw [List.length_append, List.length_singleton]
  have htt : tot (P ++ [(kd, am, zs)]) = tot P + zs.length := tot_last P _
  rw [hl] at a1 a2
  rw [htt] at a3 ht
  refine b_f (by rw [a3]; exact nI_ge (b := 100) ht (by omega)) (b_f (by rw [a1]; exact nI_nle (by omega) (by omega)) ⟨by rw [a3]; exact vp_in_nI ht (by omega), fun u3 e3 => ?_⟩)
  have q3 : u3 64 = u 64 := upu e3 (by omega)
  rw [a3, nI_clamp (by omega)] at e3
  refine ⟨by rw [q3, a3]; exact vp_in_nI ht (by omega), fun u4 e4 => ?_⟩
  have q4 : u4 64 = u 64 := by rw [upu e4 (by omega)]; exact q3
  rw [q3, a3, nI_clamp (by omega)] at e4
  refine ⟨by rw [q4, a3]; exact vp_in_nI ht (by omega), fun u5 e5 u6 e6 => ?_⟩
  have q5 : u5 64 = u 64 := by rw [upu e5 (by omega)]; exact q4
  rw [q4, a3, nI_clamp (by omega)] at e5
  rw [q5, a3, i_one] at e6
  have q6 : u6 64 2 = nI (P.length + 1) := by rw [e6, up_j (by omega), q5]; exact a1
  rw [q6, i_sub1]
  refine ⟨vp_in_nI (by omega) (by omega), fun u7 e7 => ?_⟩
  rw [nI_clamp (by omega), show u6 64 3 = nI (tot P + zs.length + 1) from upx e6] at e7
  have fr : ∀ a, a ≠ 64 → a ≠ 68 → a ≠ 69 → a ≠ 70 → a ≠ 71 → u7 a = u a := fun a h0 h1 h2 h3 h4 => by rw [upu e7 h1, upu e6 h0, upu e5 h4, upu e4 h3, upu e3 h2]
  have r64 : ∀ j, j ≠ 3 → u7 64 j = u 64 j := fun j hj => by rw [upu e7 (by omega), e6, up_j hj, q5]
  have r68 : ∀ j, j ≠ P.length → u7 68 j = u 68 j := fun j hj => by rw [e7, up_j hj, upu e6 (by omega), upu e5 (by omega), upu e4 (by omega), upu e3 (by omega)]
  have rs : ∀ i, i ≠ tot P + zs.length → u7 69 i = u 69 i ∧ u7 70 i = u 70 i ∧ u7 71 i = u 71 i := fun i hi => by
    refine ⟨?_, ?_, ?_⟩
    · rw [upu e7 (by omega), upu e6 (by omega), upu e5 (by omega), upu e4 (by omega), e3, up_j hi]
    · rw [upu e7 (by omega), upu e6 (by omega), upu e5 (by omega), e4, up_j hi, upu e3 (by omega)]
    · rw [upu e7 (by omega), upu e6 (by omega), e5, up_j hi, upu e4 (by omega), upu e3 (by omega)]
  have keep : ∀ i y, i ≠ tot P + zs.length → stC u 61 i y → stC u7 61 i y := fun i y hi hs => hs.copy (rs i hi).1 (rs i hi).2.1 (rs i hi).2.2
  refine k u7 ⟨fun a h1 h2 => fr a (by omega) (by omega) (by omega) (by omega) (by omega), fun j _ _ => by rw [fr 6 (by omega) (by omega) (by omega) (by omega) (by omega)], r64 0 (by omega), r64 1 (by omega)⟩ (fr 6 (by omega) (by omega) (by omega) (by omega) (by omega)) ⟨?_, ?_, ?_, ?_, fun j c hj => ?_⟩
  · rw [List.length_append, List.length_singleton, r64 2 (by omega)]; exact a1
  · rw [List.length_append, List.length_singleton]; exact a2
  · rw [tot_last, upu e7 (by omega), upx e6]
    show nI (tot P + zs.length + 1) = nI (tot P + (zs ++ [x]).length)
    rw [List.length_append, List.length_singleton, Nat.add_assoc]
  · rw [tot_last]
    show tot P + (zs ++ [x]).length ≤ 100
    rw [List.length_append, List.length_singleton]
    omega
  · rw [fr 65 (by omega) (by omega) (by omega) (by omega) (by omega), fr 66 (by omega) (by omega) (by omega) (by omega) (by omega), fr 67 (by omega) (by omega) (by omega) (by omega) (by omega)]
    rcases getElem_last hj with ⟨h1, h2⟩ | ⟨h1, h2⟩
    · rw [take_last (by omega)]
      obtain ⟨b1, b2, b3, b4, b5⟩ := a5 j c (by rw [List.getElem?_append_left h2]; exact h1)
      rw [take_last (by omega)] at b3 b4 b5
      have ht2 := tot_take P j c h1
      refine ⟨b1, b2, b3, by rw [r68 j (by omega)]; exact b4, fun i y hy => keep _ y ?_ (b5 i y hy)⟩
      have := (List.getElem?_eq_some_iff.mp hy).1
      omega
    · subst h1 h2
      obtain ⟨b1, b2, b3, b4, b5⟩ := a5 P.length (kd, am, zs) (by rw [List.getElem?_append_right (Nat.le_refl _), Nat.sub_self]; rfl)
      rw [take_last (Nat.le_refl _), List.take_length] at b3 b4 b5
      rw [take_last (Nat.le_refl _), List.take_length]
      refine ⟨b1, b2, b3, ?_, fun i y hy => ?_⟩
      · rw [upx e7]
        show nI (tot P + zs.length + 1) = nI (tot P + (zs ++ [x]).length)
        rw [List.length_append, List.length_singleton, Nat.add_assoc]
      · have hil := (List.getElem?_eq_some_iff.mp hy).1
        have hil2 : i < zs.length + 1 := by
          have : i < (zs ++ [x]).length := hil
          rw [List.length_append, List.length_singleton] at this
          exact this
        have hy2 : (zs ++ [x])[i]? = some y := hy
        by_cases hi : i = zs.length
        · subst hi
          rw [List.getElem?_append_right (Nat.le_refl _), Nat.sub_self] at hy2
          have : x = y := by simpa using hy2
          subst this
          refine hst u7 _ ?_ ?_ ?_
          · rw [upu e7 (by omega), upu e6 (by omega), upu e5 (by omega), upu e4 (by omega)]; exact upx e3
          · rw [upu e7 (by omega), upu e6 (by omega), upu e5 (by omega)]; exact upx e4
          · rw [upu e7 (by omega), upu e6 (by omega)]; exact upx e5
        · rw [List.getElem?_append_left (by omega)] at hy2
          exact keep _ y (by omega) (b5 i y hy2)
theorem clause_add {N kd am : Nat} {P : List Cl} {u : MM} {K : MM → Prop} (h : CQ u P) (hl : P.length < 10) (k : ∀ u' : MM, fC u u' → u' 6 = u 6 → CQ u' (P ++ [(kd, am, [])]) → K u') : wX8_addClause N (nI kd) (nI am) u K := by
  obtain ⟨a1, a2, a3, a4, a5⟩ := id h
  refine b_f (by rw [a1]; exact nI_ge (b := 10) hl (by omega)) ⟨by rw [a1]; exact vp_in_nI hl (by omega), fun u2 e2 => ?_⟩
  have q2 : u2 64 = u 64 := upu e2 (by omega)
  rw [a1, nI_clamp (by omega)] at e2
  refine ⟨by rw [q2, a1]; exact vp_in_nI hl (by omega), fun u3 e3 => ?_⟩
  have q3 : u3 64 = u 64 := by rw [upu e3 (by omega)]; exact q2
  rw [q2, a1, nI_clamp (by omega)] at e3
  refine ⟨by rw [q3, a1]; exact vp_in_nI hl (by omega), fun u4 e4 => ?_⟩
  have q4 : u4 64 = u 64 := by rw [upu e4 (by omega)]; exact q3
  rw [q3, a1, a3, nI_clamp (by omega)] at e4
  refine ⟨by rw [q4, a1]; exact vp_in_nI hl (by omega), fun u5 e5 u6 e6 => ?_⟩
  have q5 : u5 64 = u 64 := by rw [upu e5 (by omega)]; exact q4
  rw [q4, a1, a3, nI_clamp (by omega)] at e5
  rw [q5, a1, i_one] at e6
  have fr : ∀ a, a ≠ 64 → a ≠ 65 → a ≠ 66 → a ≠ 67 → a ≠ 68 → u6 a = u a := fun a h0 h1 h2 h3 h4 => by rw [upu e6 h0, upu e5 h4, upu e4 h3, upu e3 h2, upu e2 h1]
  have r64 : ∀ j, j ≠ 2 → u6 64 j = u 64 j := fun j hj => by rw [e6, up_j hj, q5]
  have x65 : ∀ j, u6 65 j = if j = P.length then nI kd else u 65 j := fun j => by
    rw [upu e6 (by omega), upu e5 (by omega), upu e4 (by omega), upu e3 (by omega), e2]
    by_cases hj : j = P.length
    · subst hj; rw [up_at, if_pos rfl]
    · rw [up_j hj, if_neg hj]
  have x66 : ∀ j, u6 66 j = if j = P.length then nI am else u 66 j := fun j => by
    rw [upu e6 (by omega), upu e5 (by omega), upu e4 (by omega), e3]
    by_cases hj : j = P.length
    · subst hj; rw [up_at, if_pos rfl]
    · rw [up_j hj, if_neg hj, upu e2 (by omega)]
  have x67 : ∀ j, u6 67 j = if j = P.length then nI (tot P) else u 67 j := fun j => by
    rw [upu e6 (by omega), upu e5 (by omega), e4]
    by_cases hj : j = P.length
    · subst hj; rw [up_at, if_pos rfl]
    · rw [up_j hj, if_neg hj, upu e3 (by omega), upu e2 (by omega)]
  have x68 : ∀ j, u6 68 j = if j = P.length then nI (tot P) else u 68 j := fun j => by
    rw [upu e6 (by omega), e5]
    by_cases hj : j = P.length
    · subst hj; rw [up_at, if_pos rfl]
    · rw [up_j hj, if_neg hj, upu e4 (by omega), upu e3 (by omega), upu e2 (by omega)]
  refine k u6 ⟨fun a h1 h2 => fr a (by omega) (by omega) (by omega) (by omega) (by omega), fun j _ _ => by rw [fr 6 (by omega) (by omega) (by omega) (by omega) (by omega)], r64 0 (by omega), r64 1 (by omega)⟩ (fr 6 (by omega) (by omega) (by omega) (by omega) (by omega)) ⟨?_, ?_, ?_, ?_, fun j c hj => ?_⟩
  · rw [List.length_append, List.length_singleton]; exact upx e6
  · rw [List.length_append, List.length_singleton]; omega
  · rw [tot_last, r64 3 (by omega)]; exact a3
  · rw [tot_last]; exact a4
  · rw [x65, x66, x67, x68]
    rcases getElem_last hj with ⟨h1, h2⟩ | ⟨h1, h2⟩
    · rw [if_neg (by omega), if_neg (by omega), if_neg (by omega), if_neg (by omega), take_last (by omega)]
      obtain ⟨b1, b2, b3, b4, b5⟩ := a5 j c h1
      exact ⟨b1, b2, b3, b4, fun i y hy => (b5 i y hy).copy (by rw [fr 69 (by omega) (by omega) (by omega) (by omega) (by omega)]) (by rw [fr 70 (by omega) (by omega) (by omega) (by omega) (by omega)]) (by rw [fr 71 (by omega) (by omega) (by omega) (by omega) (by omega)])⟩
    · subst h1 h2
      rw [if_pos rfl, if_pos rfl, if_pos rfl, if_pos rfl, take_last (Nat.le_refl _), List.take_length]
      exact ⟨rfl, rfl, rfl, rfl, fun i y hy => by simp at hy⟩
