/-! the reference reads -/
def TM (v : MM) (T : Tp) : Prop := v 0 7 = nI T.2 ∧ ∀ i, i < T.2 → v 1 (129 + i) = nI (T.1 i)
def MR (A : Nat) (v : MM) (es : List Int) : Prop := v 1 (239 + A) = nI es.length ∧ es.length ≤ 140 ∧ ∀ (i : Nat) (x : Int), es[i]? = some x → v 1 (244 + 140 * A + i) = Int32.ofInt x
def f0 (v v' : MM) : Prop := (∀ a, a ≠ 0 → v' a = v a) ∧ ∀ j, j ≠ 6 → j ≠ 8 → v' 0 j = v 0 j
def fF (A : Nat) (v v' : MM) : Prop := (∀ a, a ≠ 0 → a ≠ 1 → v' a = v a) ∧ (∀ j, j ≠ 6 → j ≠ 8 → v' 0 j = v 0 j) ∧ ∀ j, j ≠ 239 + A → (j < 244 + 140 * A ∨ 384 + 140 * A ≤ j) → v' 1 j = v 1 j
theorem f0.rf (v : MM) : f0 v v := ⟨fun _ _ => rfl, fun _ _ _ => rfl⟩
theorem f0.tr {a b c : MM} (h : f0 a b) (h2 : f0 b c) : f0 a c := ⟨fun k x => (h2.1 k x).trans (h.1 k x), fun j x y => (h2.2 j x y).trans (h.2 j x y)⟩
theorem f0.up {v v' : MM} {j : Nat} {x : Int32} (e : v' = up v 0 j x) (hj : j = 6 ∨ j = 8) : f0 v v' := ⟨fun a ha => upu e ha, fun i h2 h3 => by rw [e, up_j (by omega)]⟩
theorem f0.f {v v' : MM} (A : Nat) (h : f0 v v') : fF A v v' := ⟨fun a h1 _ => h.1 a h1, h.2, fun j _ _ => by rw [h.1 1 (by omega)]⟩
theorem fF.rf (A : Nat) (v : MM) : fF A v v := (f0.rf v).f A
theorem fF.tr {A : Nat} {a b c : MM} (h : fF A a b) (h2 : fF A b c) : fF A a c := ⟨fun k x y => (h2.1 k x y).trans (h.1 k x y), fun j x y => (h2.2.1 j x y).trans (h.2.1 j x y), fun j x y => (h2.2.2 j x y).trans (h.2.2 j x y)⟩
theorem TM.f {A : Nat} {v v' : MM} {T : Tp} (hT : TpOk T) (h : TM v T) (g : fF A v v') : TM v' T := ⟨by rw [g.2.1 7 (by omega) (by omega)]; exact h.1, fun i hi => by have := hT.1; rw [g.2.2 _ (by omega) (by omega)]; exact h.2 i hi⟩
theorem MR.f0 {A : Nat} {v v' : MM} {es : List Int} (h : MR A v es) (g : f0 v v') : MR A v' es := by
  unfold MR at h ⊢
  rw [g.1 1 (by omega)]
  exact h
theorem here_m {N p : Nat} {T : Tp} {v : MM} {K : Int32 → MM → Prop} (h : TM v T) (hT : TpOk T) (h6 : v 0 6 = nI p) (hp : p ≤ 110) (k : K (oz (sg T p)) v) : wX11_here N v K := by
  have ht := hT.1
  unfold wX11_here
  rw [h.1, h6]
  by_cases hc : p < T.2
  · have e : oz (sg T p) = nI (T.1 p) := by
      unfold sg
      rw [if_pos hc]
      exact oz_n (hT.2 p (by omega))
    rw [e] at k
    rw [i129, nI_clamp (by omega), h.2 p hc]
    exact b_f (nI_ge hc (by omega)) ⟨vp_in_nI (by omega) (by omega), k⟩
  · have e : oz (sg T p) = -1 := by
      unfold sg oz
      rw [if_neg hc, if_pos rfl]
    rw [e] at k
    exact b_t (nI_le (by omega) (by omega)) k
theorem must_m {N p x : Nat} {T : Tp} {v : MM} {K : MM → Prop} (b : Bool) (h : TM v T) (hT : TpOk T) (h6 : v 0 6 = nI p) (h8 : v 0 8 = nI (bn (!b))) (hp : p ≤ 110) (hx : x < 128) (k : ∀ v' : MM, f0 v v' → v' 0 8 = nI (bn (!(b && decide (sg T p = x)))) → v' 0 6 = nI (if (b && decide (sg T p = x)) = true then p + 1 else p) → K v') : wX11_must N (nI x) v K := by
  have bad : (b && decide (sg T p = x)) = false → wX11_must_b16 N K v := by
    intro e
    rw [e] at k
    refine ⟨bz1, fun u5 e5 => b_f (by rw [upx e5]; decide) (fun u7 e7 => ?_)⟩
    have g5 := f0.up e5 (Or.inr rfl)
    have x6 : u5 0 6 = nI p := by rw [e5, up_j (by omega)]; exact h6
    rw [x6, show (0 : Int32) = nI 0 from rfl, nI_add, Nat.add_zero] at e7
    exact k u7 (g5.tr (f0.up e7 (Or.inl rfl))) (by rw [e7, up_j (by omega)]; exact upx e5) (by rw [if_neg (by decide)]; exact upx e7)
  cases b
  · exact n_t (by rw [h8]; decide) (bad rfl)
  · refine n_f (by rw [h8]; rfl) (here_m h hT h6 hp ?_)
    have e := oz_eq (sg_le hT p) hx
    by_cases hc : sg T p = x
    · rw [decide_eq_true hc] at k
      refine b_t (e.mpr hc) ⟨bz0, fun u5 e5 => b_t (upx e5) (fun u7 e7 => ?_)⟩
      have g5 := f0.up e5 (Or.inr rfl)
      have x6 : u5 0 6 = nI p := by rw [e5, up_j (by omega)]; exact h6
      rw [x6, i_one] at e7
      exact k u7 (g5.tr (f0.up e7 (Or.inl rfl))) (by rw [e7, up_j (by omega)]; exact upx e5) (by rw [if_pos (by decide)]; exact upx e7)
    · exact b_f (fun y => hc (e.mp y)) (bad (by rw [decide_eq_false hc]; rfl))
def pWb (T : Tp) (b : Bool) (xs : List Nat) (p : Nat) : Bool × Nat := if b = true then pW T xs p else (false, p)
theorem spell_lp (N i : Nat) (T : Tp) (v0 : MM) (K : MM → Prop) (hi : i < 8) (h : TM v0 T) (hT : TpOk T) (q : Bool × Nat) (k : ∀ v' : MM, f0 v0 v' → v' 0 8 = nI (bn (!q.1)) → v' 0 6 = nI q.2 → K v') : ∀ (xs : List Nat) (j p fl : Nat) (b : Bool) (v : MM), (wrd i).drop j = xs → j ≤ (wrd i).length → xs.length < fl → p + xs.length ≤ 110 → f0 v0 v → v 0 6 = nI p → v 0 8 = nI (bn (!b)) → pWb T b xs p = q → wX11_spells_b2 N K i fl (nI j) v := by
  obtain ⟨w1, w2, w3⟩ := wrd_ok i hi
  intro xs
  induction xs with
  | nil =>
    intro j p fl b v hx hj hfl hp g h6 h8 eq
    obtain ⟨fg, rfl⟩ : ∃ g, fl = g + 1 := ⟨fl - 1, by rw [List.length_nil] at hfl; omega⟩
    have hl : (wrd i).length ≤ j := List.drop_eq_nil_iff.mp hx
    have e : q = (b, p) := by rw [← eq]; unfold pWb; cases b <;> rfl
    subst e
    exact ⟨hi, b_t (by rw [← w1]; exact nI_le (by omega) (by omega)) (k v g h8 h6)⟩
  | cons x xs ih =>
    intro j p fl b v hx hj hfl hp g h6 h8 eq
    rw [List.length_cons] at hfl hp
    obtain ⟨fg, rfl⟩ : ∃ g, fl = g + 1 := ⟨fl - 1, by omega⟩
    have hl : j < (wrd i).length := by
      rcases Nat.lt_or_ge j (wrd i).length with z | z
      · exact z
      · rw [List.drop_eq_nil_iff.mpr z] at hx; cases hx
    have hg : (wrd i)[j]? = some x := by
      have := congrArg (fun l => l[0]?) hx
      simpa using this
    have hgd : (wrd i).getD j 0 = x := by rw [List.getD_eq_getElem?_getD, hg]; rfl
    have hx2 : (wrd i).drop (j + 1) = xs := by
      have := congrArg (List.drop 1) hx
      rw [List.drop_drop] at this
      simpa using this
    obtain ⟨c1, c2⟩ := w3 j (by omega) hl
    rw [hgd] at c1 c2
    refine ⟨hi, b_f (by rw [← w1]; exact nI_ge hl (by omega)) ⟨hi, by rw [← w1]; exact vp_in_nI hl (by omega), ?_⟩⟩
    rw [nI_clamp (by omega), c1]
    refine must_m b (h.f hT (g.f 0)) hT h6 h8 (by omega) c2 (fun v5 g5 y8 y6 y6b e6 => ?_)
    rw [i_one] at e6
    subst e6
    refine ih (j + 1) _ fg _ v5 hx2 (by omega) (by omega) ?_ (g.tr g5) y6 y8 ?_
    · split <;> omega
    · rw [← eq]
      unfold pWb
      cases b
      · rfl
      · rw [Bool.true_and, if_pos (show true = true from rfl), pW]
        by_cases hs : sg T p = x
        · rw [decide_eq_true hs, if_pos rfl, if_pos rfl, if_pos hs]
        · rw [decide_eq_false hs, if_neg (by decide), if_neg (by decide), if_neg hs]
theorem spell_m {N i p : Nat} {T : Tp} {v : MM} {K : MM → Prop} (b : Bool) (hN : 20 ≤ N) (hi : i < 8) (h : TM v T) (hT : TpOk T) (h6 : v 0 6 = nI p) (h8 : v 0 8 = nI (bn (!b))) (hp : p ≤ 101) (k : ∀ v' : MM, f0 v v' → v' 0 8 = nI (bn (!(pWb T b (wrd i) p).1)) → v' 0 6 = nI (pWb T b (wrd i) p).2 → K v') : wX11_spells N i v K := by
  have hl := (wrd_ok i hi).2.1
  exact spell_lp N i T v K hi h hT _ k (wrd i) 0 p N b v rfl (by omega) (by omega) (by omega) (f0.rf v) h6 h8 rfl
theorem dig_m {N s : Nat} {K : Int32 → Prop} (hs : s ≤ 128) (k : K (nI (bn (dgt s)))) : wX11_in N (oz s) 48 57 K := by
  cases hd : dgt s
  · rw [hd] at k
    rcases dgt_no hd with z | z
    · exact b_t ((oz_lt (c := 48) hs (by omega)).mpr (Or.inr z)) k
    · by_cases z8 : s = 128
      · exact b_t ((oz_lt (c := 48) hs (by omega)).mpr (Or.inl z8)) k
      · exact b_f (fun y => by have := (oz_lt (c := 48) hs (by omega)).mp y; omega) (b_t ((oz_gt (c := 57) hs (by omega)).mpr ⟨z8, z⟩) k)
  · rw [hd] at k
    have h1 := dgt_iff.mp hd
    exact b_f (fun y => by have := (oz_lt (c := 48) hs (by omega)).mp y; omega) (b_f (fun y => by have := (oz_gt (c := 57) hs (by omega)).mp y; omega) k)
def pNb (T : Tp) (b : Bool) (p : Nat) : Bool × Nat × Nat := if b = true then pN T p else (false, p, 0)
theorem fig_m {N p : Nat} {T : Tp} {v : MM} {K : Int32 → MM → Prop} (b : Bool) (hN : 20 ≤ N) (h : TM v T) (hT : TpOk T) (h6 : v 0 6 = nI p) (h8 : v 0 8 = nI (bn (!b))) (hp : p ≤ 101) (k : ∀ v' : MM, f0 v v' → v' 0 8 = nI (bn (!(pNb T b p).1)) → v' 0 6 = nI (pNb T b p).2.1 → K (nI (pNb T b p).2.2) v') : wX11_figures N v K := by
  have hs := sg_le hT p
  have hs1 := sg_le hT (p + 1)
  obtain ⟨M, rfl⟩ : ∃ M, N = M + 3 := ⟨N - 3, by omega⟩
  have bad : pNb T b p = (false, p, 0) → wX11_figures_b22 (M + 3) K v := by
    intro e
    rw [e] at k
    refine ⟨bz1, fun u6 e6 => b_f (by decide) (n_t (by rw [upx e6]; decide) ?_)⟩
    exact k u6 (f0.up e6 (Or.inr rfl)) (upx e6) (by rw [e6, up_j (by omega)]; exact h6)
  cases b
  · exact n_t (by rw [h8]; decide) (bad rfl)
  refine n_f (by rw [h8]; rfl) (here_m h hT h6 (by omega) (dig_m hs ?_))
  cases hd : dgt (sg T p)
  · refine n_f rfl (bad ?_)
    unfold pNb pN
    rw [if_pos rfl, hd, if_neg (by decide)]
  have hd1 := dgt_iff.mp hd
  unfold pNb pN at k
  rw [if_pos rfl, hd, if_pos rfl] at k
  refine n_t (by decide) ⟨bz0, fun u6 e6 => ?_⟩
  have g6 := f0.up e6 (Or.inr rfl)
  have x6 : u6 0 6 = nI p := by rw [e6, up_j (by omega)]; exact h6
  have x8 : u6 0 8 = 0 := upx e6
  have T6 := h.f hT (g6.f 0)
  refine b_f (by decide) (n_f x8 (here_m T6 hT x6 (by omega) (dig_m hs ?_)))
  rw [hd]
  refine b_f (by decide) (b_t rfl (here_m T6 hT x6 (by omega) (fun y17 e17 u18 e18 y19 e19 => ?_)))
  rw [oz_n (by omega), show (10 : Int32) * 0 = nI 0 from by decide, nI_add, show (48 : Int32) = nI 48 from rfl, pk_sub (by omega), Nat.zero_add] at e17
  rw [x6, i_one] at e18
  have e19' : y19 = nI 1 := e19
  subst e17 e19'
  have g18 := g6.tr (f0.up e18 (Or.inl rfl))
  have z6 : u18 0 6 = nI (p + 1) := upx e18
  have z8 : u18 0 8 = 0 := by rw [e18, up_j (by omega)]; exact x8
  have T18 := h.f hT (g18.f 0)
  refine b_f (show ¬ nI 2 ≤ nI 1 by decide) (n_f z8 (here_m T18 hT z6 (by omega) (dig_m hs1 ?_)))
  have one : ((sg T p = 48 ∨ dgt (sg T (p + 1)) = false)) → K (nI (sg T p - 48)) u18 := by
    intro y
    rw [if_pos y] at k
    exact k u18 g18 z8 z6
  cases hd2 : dgt (sg T (p + 1))
  · exact b_t rfl (one (Or.inr hd2))
  · have hd3 := dgt_iff.mp hd2
    refine b_f (by decide) (b_f (show ¬ nI 1 = 0 by decide) ?_)
    by_cases c48 : sg T p = 48
    · exact b_t (by rw [c48]; decide) (one (Or.inl c48))
    · rw [if_neg (fun y => y.elim c48 (fun z => by rw [hd2] at z; cases z))] at k
      refine b_f (nI_nle (by omega) (by omega)) (here_m T18 hT z6 (by omega) (fun y17 e17 u19 e19 y20 e20 => ?_))
      rw [oz_n (by omega), show (10 : Int32) = nI 10 from rfl, pk_mul, nI_add, show (48 : Int32) = nI 48 from rfl, pk_sub (by omega)] at e17
      rw [z6, i_one] at e19
      have e20' : y20 = nI 2 := e20
      subst e17 e20'
      refine b_t (show nI 2 ≤ nI 2 by decide) ?_
      have := k u19 (g18.tr (f0.up e19 (Or.inl rfl))) (by rw [e19, up_j (by omega)]; exact z8) (upx e19)
      have en : 10 * (sg T p - 48) + sg T (p + 1) - 48 = 10 * (sg T p - 48) + (sg T (p + 1) - 48) := by omega
      rw [en]
      exact this
def fi (s : Nat) : List Nat → Nat → Nat
  | [], _ => 9
  | x :: xs, j => if s = x then j else fi s xs (j + 1)
theorem fi_fac : ∀ s, s < 129 → fi s (wrd 4) 0 = if fac s = 5 then 9 else fac s := by decide +kernel
theorem fi_hw : ∀ s, s < 129 → fi s (wrd 5) 0 = if hw_ s = 3 then 9 else hw_ s := by decide +kernel
theorem among_lp (N i p : Nat) (T : Tp) (v : MM) (K : Int32 → MM → Prop) (hi : i < 8) (h : TM v T) (hT : TpOk T) (h6 : v 0 6 = nI p) (hp : p ≤ 101) (q : Nat) (k9 : q = 9 → K (-1) v) (k1 : q ≠ 9 → ∀ v' : MM, v' = up v 0 6 (nI (p + 1)) → K (nI q) v') : ∀ (xs : List Nat) (j fl : Nat), (wrd i).drop j = xs → j ≤ (wrd i).length → xs.length < fl → fi (sg T p) xs j = q → wX11_among_b2 N K i fl (nI j) v := by
  obtain ⟨w1, w2, w3⟩ := wrd_ok i hi
  intro xs
  induction xs with
  | nil =>
    intro j fl hx hj hfl eq
    obtain ⟨fg, rfl⟩ : ∃ g, fl = g + 1 := ⟨fl - 1, by rw [List.length_nil] at hfl; omega⟩
    have hl : (wrd i).length ≤ j := List.drop_eq_nil_iff.mp hx
    exact ⟨hi, b_t (by rw [← w1]; exact nI_le (by omega) (by omega)) (k9 eq.symm)⟩
  | cons x xs ih =>
    intro j fl hx hj hfl eq
    rw [List.length_cons] at hfl
    obtain ⟨fg, rfl⟩ : ∃ g, fl = g + 1 := ⟨fl - 1, by omega⟩
    have hl : j < (wrd i).length := by
      rcases Nat.lt_or_ge j (wrd i).length with z | z
      · exact z
      · rw [List.drop_eq_nil_iff.mpr z] at hx; cases hx
    have hg : (wrd i)[j]? = some x := by
      have := congrArg (fun l => l[0]?) hx
      simpa using this
    have hgd : (wrd i).getD j 0 = x := by rw [List.getD_eq_getElem?_getD, hg]; rfl
    have hx2 : (wrd i).drop (j + 1) = xs := by
      have := congrArg (List.drop 1) hx
      rw [List.drop_drop] at this
      simpa using this
    obtain ⟨c1, c2⟩ := w3 j (by omega) hl
    rw [hgd] at c1 c2
    refine ⟨hi, b_f (by rw [← w1]; exact nI_ge hl (by omega)) (here_m h hT h6 (by omega) ⟨hi, by rw [← w1]; exact vp_in_nI hl (by omega), ?_⟩)⟩
    rw [nI_clamp (by omega), c1]
    rw [fi] at eq
    have e := oz_eq (sg_le hT p) c2
    by_cases hs : sg T p = x
    · rw [if_pos hs] at eq
      subst eq
      refine n_f (e.mpr hs) (fun u8 e8 => ?_)
      rw [h6, i_one] at e8
      exact k1 (by omega) u8 e8
    · rw [if_neg hs] at eq
      refine n_t (fun y => hs (e.mp y)) (fun y7 e7 => ?_)
      rw [i_one] at e7
      subst e7
      exact ih (j + 1) fg hx2 (by omega) (by omega) eq
theorem among_m {N i p : Nat} {T : Tp} {v : MM} {K : Int32 → MM → Prop} (hN : 20 ≤ N) (hi : i < 8) (h : TM v T) (hT : TpOk T) (h6 : v 0 6 = nI p) (hp : p ≤ 101) (k9 : fi (sg T p) (wrd i) 0 = 9 → K (-1) v) (k1 : fi (sg T p) (wrd i) 0 ≠ 9 → ∀ v' : MM, v' = up v 0 6 (nI (p + 1)) → K (nI (fi (sg T p) (wrd i) 0)) v') : wX11_among N i v K := by
  have hl := (wrd_ok i hi).2.1
  exact among_lp N i p T v K hi h hT h6 hp _ k9 k1 (wrd i) 0 N rfl (by omega) (by omega) rfl
theorem emit_w {N : Nat} {x : Int32} {v : MM} {K : MM → Prop} (h8 : v 0 8 = 1) (k : K v) : wX11_emits N x v K := n_t (by rw [h8]; decide) k
theorem emit_m {N A : Nat} {es : List Int} {x : Int} {y : Int32} {v : MM} {K : MM → Prop} (h8 : v 0 8 = 0) (h5 : v 0 5 = nI A) (hA : A < 5) (h : MR A v es) (hl : es.length < 140) (hy : y = Int32.ofInt x) (k : ∀ v' : MM, fF A v v' → (∀ j, v' 0 j = v 0 j) → MR A v' (es ++ [x]) → K v') : wX11_emits N y v K := by
  obtain ⟨m1, m2, m3⟩ := id h
  refine n_f h8 ?_
  rw [h5, i239, nI_clamp (by omega), m1, show (140 : Int32) = nI 140 from rfl, pk_mul, i244, nI_add, nI_clamp (by omega)]
  refine ⟨vp_in_nI (by omega) (by omega), vp_in_nI (by omega) (by omega), fun u2 e2 => ?_⟩
  have q5 : u2 0 5 = nI A := by rw [upu e2 (by omega)]; exact h5
  rw [q5, i239, nI_clamp (by omega)]
  refine ⟨vp_in_nI (by omega) (by omega), vp_in_nI (by omega) (by omega), fun u3 e3 => ?_⟩
  rw [e2, up_j (by omega), m1, i_one, ← e2] at e3
  refine k u3 ⟨fun a _ h1 => by rw [upu e3 h1, upu e2 h1], fun j _ _ => by rw [upu e3 (by omega), upu e2 (by omega)], fun j h1 h2 => by rw [upv e3 h1, upv e2 (by omega)]⟩ (fun j => by rw [upu e3 (by omega), upu e2 (by omega)]) ⟨?_, ?_, fun i z hz => ?_⟩
  · rw [List.length_append, List.length_singleton]; exact upx e3
  · rw [List.length_append, List.length_singleton]; omega
  · have hil := (List.getElem?_eq_some_iff.mp hz).1
    rw [List.length_append, List.length_singleton] at hil
    rw [upv e3 (by omega)]
    by_cases hi : i = es.length
    · subst hi
      rw [List.getElem?_append_right (Nat.le_refl _), Nat.sub_self] at hz
      have : x = z := by simpa using hz
      rw [← this, ← hy]
      exact upx e2
    · rw [List.getElem?_append_left (by omega)] at hz
      rw [upv e2 (by omega)]
      exact m3 i z hz
