/-! the class reads clauses -/
def CS (u : MM) (S : St) : Prop := u 64 0 = nI S.1 ∧ u 64 1 = nI (S.2.1 % 2) ∧ CQ u S.2.2
def fD (u u' : MM) : Prop := ∀ a, a ≠ 6 → (a < 64 ∨ 72 ≤ a) → u' a = u a
theorem fD.tr {a b c : MM} (h : fD a b) (h2 : fD b c) : fD a c := fun k x y => (h2 k x y).trans (h k x y)
theorem fC.d {u u' : MM} (h : fC u u') : fD u u' := h.1
theorem TC.d {u u' : MM} {T : Tp} (h : TC u T) (g : fD u u') : TC u' T := ⟨by rw [g 62 (by omega) (by omega)]; exact h.1, fun i hi => by rw [g 63 (by omega) (by omega)]; exact h.2 i hi⟩
theorem CQ.same2 {u u' : MM} {P : List Cl} (h : CQ u P) (g2 : u' 64 2 = u 64 2) (g3 : u' 64 3 = u 64 3) (g : ∀ a, 65 ≤ a → a < 72 → u' a = u a) : CQ u' P := by
  obtain ⟨a, b, c, d, e⟩ := h
  refine ⟨by rw [g2]; exact a, b, by rw [g3]; exact c, d, fun j x hj => ?_⟩
  obtain ⟨p, q, r, s, t⟩ := e j x hj
  rw [g 65 (by omega) (by omega), g 66 (by omega) (by omega), g 67 (by omega) (by omega), g 68 (by omega) (by omega)]
  exact ⟨p, q, r, s, fun i y hy => (t i y hy).copy (by rw [g 69 (by omega) (by omega)]) (by rw [g 70 (by omega) (by omega)]) (by rw [g 71 (by omega) (by omega)])⟩
theorem CS.f6 {u u' : MM} {S : St} (h : CS u S) (g : f6 u u') : CS u' S := ⟨by rw [g.1 64 (by omega)]; exact h.1, by rw [g.1 64 (by omega)]; exact h.2.1, h.2.2.f6 g⟩
/-- behind the head of a clause -/
def HK (N : Nat) (K0 KB : MM → Prop) (r7 : Int32) (u8 : MM) : Prop := ((r7 = 0 → K0 u8) ∧ (¬ r7 = 0 → (((u8 6 4) = 0 → KB u8) ∧ (¬ (u8 6 4) = 0 → (wX3_readEither0 N 0 u8 (fun r11 u12 => ((¬ r11 = 0 → KB u12) ∧ (r11 = 0 → K0 u12))))))))
def kK (u : MM) (q : Rc) (K0 KB : MM → Prop) : Prop := ∀ u' : MM, fD u u' → u' 6 2 = nI q.2.1 → (q.1 = true → CS u' q.2.2 → KB u') ∧ (q.1 = false → K0 u')
theorem kK.no {u u' : MM} {q : Rc} {K0 KB : MM → Prop} (h : kK u q K0 KB) (g : fD u u') (h2 : u' 6 2 = nI q.2.1) (hb : q.1 = false) : K0 u' := (h u' g h2).2 hb
theorem cl_c {N kd am p : Nat} {T : Tp} {S : St} {u u2 : MM} {K0 KB : MM → Prop} {Q1 : Rc} (hN : 200 ≤ N) (hT : TpOk T) (hc : TC u2 T) (h2 : u2 6 2 = nI p) (hS : CS u2 S) (hl : S.2.2.length < 10) (htp : tot S.2.2 ≤ p) (hp : p ≤ T.2) (g : fD u u2) (k : kK u (if (pX T p).1 = true then (true, (pX T p).2.1, (S.1, S.2.1, S.2.2 ++ [(kd, am, (pX T p).2.2)])) else (false, (pX T p).2.1, S)) K0 KB) : wX8_addClause N (nI kd) (nI am) u2 (fun u5 => (∀ u6 : MM, u6 = up u5 6 4 1 → (bz 1 ∧ HK N K0 KB 1 u6))) := by
  refine clause_add (kd := kd) (am := am) hS.2.2 hl (fun u5 g5 s5 c5 u6 e6 => ⟨bz1, b_f (by decide) (b_f (by rw [upx e6]; decide) ?_)⟩)
  have k6 : ∀ a, a ≠ 6 → u6 a = u5 a := fun a ha => upu e6 ha
  have y2 : u6 6 2 = nI p := by rw [e6, up_j (by omega), s5]; exact h2
  have g6 : fD u u6 := g.tr (g5.d.tr (fun a ha _ => k6 a ha))
  have c6 : CQ u6 (S.2.2 ++ [(kd, am, [])]) := c5.same (fun a ha hb => k6 a (by omega))
  refine either_c (o := 0) (P := S.2.2) (kd := kd) (am := am) (zs := []) hN hT (pF_ok (T := T) 8 0 (by omega)) (fun p ys u K => rpart_c hN hT 8 0 (by omega) (by omega) p ys u K) ⟨hc.d (g5.d.tr (fun a ha _ => k6 a ha)), y2, c6, by show tot S.2.2 + 0 ≤ p; omega, hp⟩ (fun u12 g12 y12 c12 => ?_)
  have ga : fD u u12 := g6.tr g12.d
  show (¬ nI (bn (pX T p).1) = 0 → _) ∧ (nI (bn (pX T p).1) = 0 → _)
  cases hb : (pX T p).1
  · rw [hb, if_neg (by decide)] at k
    exact n_f rfl (k.no ga y12 rfl)
  · rw [hb, if_pos rfl] at k
    refine n_t (by decide) ((k u12 ga y12).1 rfl ⟨?_, ?_, c12 hb⟩)
    · rw [g12.2.2.1, k6 64 (by omega), g5.2.2.1]; exact hS.1
    · rw [g12.2.2.2, k6 64 (by omega), g5.2.2.2]; exact hS.2.1
theorem skip3_c {N p x : Nat} {T : Tp} {u : MM} {K : Int32 → MM → Prop} (h : TC u T) (hT : TpOk T) (h2 : u 6 2 = nI p) (hp : p ≤ 110) (hx : x < 128) (k1 : sg T p = x → ∀ u' : MM, f6 u u' → u' 6 2 = nI (p + 1) → u' 6 3 = u 6 3 → K 1 u') (k0 : ¬ sg T p = x → K 0 u) : wX3_skip N (nI x) u K := by
  unfold wX3_skip
  rw [h2]
  refine at_c h hT hp ?_
  have e := oz_eq (sg_le hT p) hx
  by_cases hc : sg T p = x
  · refine b_t (e.mpr hc) (fun u4 e4 => ?_)
    rw [h2, i_one] at e4
    exact k1 hc u4 (f6.up e4 (Or.inl rfl)) (upx e4) (by rw [e4, up_j (by omega)])
  · exact b_f (fun y => hc (e.mp y)) (k0 hc)
theorem num_cl {N p i : Nat} {T : Tp} {S : St} {u : MM} {Kz : MM → Prop} {K : Int32 → MM → Prop} (hN : 200 ≤ N) (hT : TpOk T) (hi : i < 8) (hc : TC u T) (h2 : u 6 2 = nI p) (hp : p ≤ T.2) (k0 : (pW T (wrd i) p).1 = false → ∀ u' : MM, f6 u u' → u' 6 2 = nI (pW T (wrd i) p).2 → Kz u') (k1 : (pW T (wrd i) p).1 = true → (pN T (pW T (wrd i) p).2).1 = false → ∀ u' : MM, f6 u u' → u' 6 2 = nI (pN T (pW T (wrd i) p).2).2.1 → K 0 u') (k2 : (pW T (wrd i) p).1 = true → (pN T (pW T (wrd i) p).2).1 = true → ∀ u' : MM, f6 u u' → u' 6 2 = nI (pN T (pW T (wrd i) p).2).2.1 → u' 6 3 = nI (pN T (pW T (wrd i) p).2).2.2 → K 1 u') : wX3_readWord N i u (fun r1 u2 => ((r1 = 0 → (Kz u2)) ∧ (¬ r1 = 0 → (wX3_readNumber N u2 K)))) := by
  have ht := hT.1
  have hW := pW_ok (T := T) (wrd i) p (wrd_lt i hi) hp
  refine word_c (by omega) hi hc hT h2 (by omega) (fun u2 g2 y2 => ?_)
  cases hb : (pW T (wrd i) p).1
  · exact b_t rfl (k0 hb u2 g2 y2)
  · refine b_f (by decide) (num_c (hc.c g2.c) hT y2 (by omega) (fun u3 g3 y3 z3 => ?_))
    cases hb2 : (pN T (pW T (wrd i) p).2).1
    · exact k1 hb hb2 u3 (g2.tr g3) y3
    · exact k2 hb hb2 u3 (g2.tr g3) y3 (z3 hb2)
theorem head_c {N n p : Nat} {T : Tp} {S : St} {u : MM} {K0 KB : MM → Prop} (hN : 200 ≤ N) (hT : TpOk T) (hc : TC u T) (h2 : u 6 2 = nI p) (hS : CS u S) (hO : SOk n p S) (hn : n < 10) (hp : p ≤ T.2) (k : kK u (pK T p S) K0 KB) : wX3_readHead N u (HK N K0 KB) := by
  have ht := hT.1
  have s1 := sg_le hT p
  have s2 := sg_le hT (p + 1)
  have e : ∀ c, c < 128 → (oz (sg T p) = nI c ↔ sg T p = c) := fun c hc => oz_eq s1 hc
  have e2 : ∀ c, c < 128 → (oz (sg T (p + 1)) = nI c ↔ sg T (p + 1) = c) := fun c hc => oz_eq s2 hc
  have hl : S.2.2.length < 10 := by have := hO.2.2.2.1; omega
  have htt := hO.2.2.2.2
  unfold wX3_readHead
  rw [h2]
  refine at_c hc hT (by omega) ?_
  unfold pK at k
  by_cases h102 : sg T p = 102
  · rw [if_pos h102] at k
    refine b_t ((e 102 (by omega)).mpr h102) ?_
    rw [h2, i_one]
    refine at_c hc hT (by omega) ?_
    by_cases h101 : sg T (p + 1) = 101
    · rw [if_pos h101] at k
      refine n_f ((e2 101 (by omega)).mpr h101) ?_
      unfold wX3_readFewer
      unfold kNum at k
      refine num_cl (Kz := fun u2 => (bz 0 ∧ HK N K0 KB 0 u2)) (K := fun r4 u5 => ((¬ r4 = 0 → (∀ u7 : MM, u7 = up u5 64 0 (u5 6 3) → (∀ u8 : MM, u8 = up u7 6 4 0 → (bz 1 ∧ HK N K0 KB 1 u8)))) ∧ (r4 = 0 → (bz 0 ∧ HK N K0 KB 0 u5)))) (S := S) hN hT (show 2 < 8 by omega) hc h2 hp ?_ ?_ ?_
      · intro hb u' g y
        rw [hb, if_neg (by decide)] at k
        exact ⟨bz0, b_t rfl (k.no g.c.d y rfl)⟩
      · intro hb hb2 u' g y
        rw [hb, if_pos rfl, hb2, if_neg (by decide)] at k
        exact n_f rfl ⟨bz0, b_t rfl (k.no g.c.d y rfl)⟩
      · intro hb hb2 u' g y z
        rw [hb, if_pos rfl, hb2, if_pos rfl] at k
        refine n_t (by decide) (fun u7 e7 u8 e8 => ⟨bz1, b_f (by decide) (b_t (upx e8) ?_)⟩)
        rw [z] at e7
        have c' := hS.f6 g
        refine (k u8 (g.c.d.tr (fun a h1 h2 => by rw [upu e8 h1, upu e7 (by omega)])) (by rw [e8, up_j (by omega), upu e7 (by omega)]; exact y)).1 rfl ⟨?_, ?_, c'.2.2.same2 ?_ ?_ (fun a h1 h2 => by rw [upu e8 (by omega), upu e7 (by omega)])⟩
        · rw [upu e8 (by omega)]; exact upx e7
        · rw [upu e8 (by omega), e7, up_j (by omega)]; exact c'.2.1
        · rw [upu e8 (by omega), e7, up_j (by omega)]
        · rw [upu e8 (by omega), e7, up_j (by omega)]
    · rw [if_neg h101] at k
      refine n_t (fun y => h101 ((e2 101 (by omega)).mp y)) ?_
      unfold wX3_readFine
      unfold kFine at k
      refine num_cl (Kz := fun u2 => (bz 0 ∧ HK N K0 KB 0 u2)) (K := fun r4 u5 => ((r4 = 0 → (bz 0 ∧ HK N K0 KB 0 u5)) ∧ (¬ r4 = 0 → (wX3_skip N 32 u5 (fun r7 u8 => ((¬ r7 = 0 → (wX8_addClause N 1 (u8 6 3) u8 (fun u11 => (∀ u12 : MM, u12 = up u11 6 4 1 → (bz 1 ∧ HK N K0 KB 1 u12))))) ∧ (r7 = 0 → (bz 0 ∧ HK N K0 KB 0 u8)))))))) (S := S) hN hT (show 1 < 8 by omega) hc h2 hp ?_ ?_ ?_
      · intro hb u' g y
        rw [hb, if_neg (by decide)] at k
        exact ⟨bz0, b_t rfl (k.no g.c.d y rfl)⟩
      · intro hb hb2 u' g y
        rw [hb, if_pos rfl, hb2, if_neg (by decide)] at k
        exact b_t rfl ⟨bz0, b_t rfl (k.no g.c.d y rfl)⟩
      · intro hb hb2 u' g y z
        rw [hb, if_pos rfl, hb2, if_pos rfl] at k
        have hW := pW_ok (T := T) (wrd 1) p (wrd_lt 1 (by omega)) hp
        have hNn := pN_ok (T := T) hW.2.1
        unfold kFine2 at k
        refine b_f (by decide) (skip3_c (x := 32) (hc.c g.c) hT y (by omega) (by omega) (fun hs u8 g8 y8 t8 => ?_) (fun hs => ?_))
        · rw [if_pos hs] at k
          have i1 := sg_in (show sg T (pN T (pW T (wrd 1) p).2).2.1 < 128 by omega)
          have g08 := g.tr g8
          have z8 : u8 6 3 = nI (pN T (pW T (wrd 1) p).2).2.2 := t8.trans z
          rw [z8]
          exact n_t (by decide) (cl_c (kd := 1) (Q1 := (false, 0, S)) hN hT (hc.c g08.c) y8 (hS.f6 g08) hl (by omega) i1 g08.c.d k)
        · rw [if_neg hs] at k
          exact n_f rfl ⟨bz0, b_t rfl (k.no g.c.d y rfl)⟩
  rw [if_neg h102] at k
  refine b_f (fun y => h102 ((e 102 (by omega)).mp y)) ?_
  by_cases h108 : sg T p = 108
  · rw [if_pos h108] at k
    refine b_t ((e 108 (by omega)).mpr h108) ?_
    unfold wX3_readLaw
    unfold kNum at k
    refine num_cl (Kz := fun u2 => (bz 0 ∧ HK N K0 KB 0 u2)) (K := fun r4 u5 => ((¬ r4 = 0 → (∀ u7 : MM, u7 = up u5 64 1 ((u5 6 3) - (u5 6 3) / 2 * 2) → (∀ u8 : MM, u8 = up u7 6 4 0 → (bz 1 ∧ HK N K0 KB 1 u8)))) ∧ (r4 = 0 → (bz 0 ∧ HK N K0 KB 0 u5)))) (S := S) hN hT (show 3 < 8 by omega) hc h2 hp ?_ ?_ ?_
    · intro hb u' g y
      rw [hb, if_neg (by decide)] at k
      exact ⟨bz0, b_t rfl (k.no g.c.d y rfl)⟩
    · intro hb hb2 u' g y
      rw [hb, if_pos rfl, hb2, if_neg (by decide)] at k
      exact n_f rfl ⟨bz0, b_t rfl (k.no g.c.d y rfl)⟩
    · intro hb hb2 u' g y z
      rw [hb, if_pos rfl, hb2, if_pos rfl] at k
      have hW := pW_ok (T := T) (wrd 3) p (wrd_lt 3 (by omega)) hp
      have hNn := pN_ok (T := T) hW.2.1
      refine n_t (by decide) (fun u7 e7 u8 e8 => ⟨bz1, b_f (by decide) (b_t (upx e8) ?_)⟩)
      rw [z, show (2 : Int32) = nI 2 from rfl, pk_rem (by omega) (by omega) (by omega)] at e7
      have c' := hS.f6 g
      refine (k u8 (g.c.d.tr (fun a h1 h2 => by rw [upu e8 h1, upu e7 (by omega)])) (by rw [e8, up_j (by omega), upu e7 (by omega)]; exact y)).1 rfl ⟨?_, ?_, c'.2.2.same2 ?_ ?_ (fun a h1 h2 => by rw [upu e8 (by omega), upu e7 (by omega)])⟩
      · rw [upu e8 (by omega), e7, up_j (by omega)]; exact c'.1
      · rw [upu e8 (by omega)]; exact upx e7
      · rw [upu e8 (by omega), e7, up_j (by omega)]
      · rw [upu e8 (by omega), e7, up_j (by omega)]
  rw [if_neg h108] at k
  refine b_f (fun y => h108 ((e 108 (by omega)).mp y)) ?_
  by_cases h115 : sg T p = 115
  · rw [if_pos h115] at k
    refine b_t ((e 115 (by omega)).mpr h115) ?_
    unfold wX3_readShun
    unfold kShun at k
    have hW := pW_ok (T := T) (wrd 0) p (wrd_lt 0 (by omega)) hp
    refine word_c (by omega) (by omega) hc hT h2 (by omega) (fun u2 g2 y2 => ?_)
    cases hb : (pW T (wrd 0) p).1
    · rw [hb, if_neg (by decide)] at k
      exact n_f rfl ⟨bz0, b_t rfl (k.no g2.c.d y2 rfl)⟩
    · rw [hb, if_pos rfl] at k
      exact n_t (by decide) (cl_c (kd := 0) (am := 1) (Q1 := (false, 0, S)) hN hT (hc.c g2.c) y2 (hS.f6 g2) hl (by omega) hW.2.1 g2.c.d k)
  · rw [if_neg h115] at k
    exact b_f (fun y => h115 ((e 115 (by omega)).mp y)) (b_t rfl (k.no (fun _ _ _ => rfl) h2 rfl))
theorem read_lp (N : Nat) (T : Tp) (u0 : MM) (K : Int32 → MM → Prop) (hN : 200 ≤ N) (hT : TpOk T) (q : Rc) (k : ∀ u' : MM, fD u0 u' → u' 6 2 = nI q.2.1 → (q.1 = true → CS u' q.2.2) → K (nI (bn q.1)) u') : ∀ (r n p fl : Nat) (S : St) (u : MM), r + n = 11 → 1 ≤ n → r ≤ fl → fD u0 u → TC u T → u 6 2 = nI p → CS u S → SOk (n - 1) p S → p ≤ T.2 → pR T r n p S = q → 0 < r → wX3_read_b22 N K fl (nI n) u := by
  have ht := hT.1
  intro r
  induction r with
  | zero => intro n p fl S u h1 h2 h3 g hc y hS hO hp eq h0; omega
  | succ r ih =>
    intro n p fl S u h1 h2 h3 g hc y hS hO hp eq h0
    obtain ⟨fg, rfl⟩ : ∃ g, fl = g + 1 := ⟨fl - 1, by omega⟩
    have hK := pK_ok hp hO
    rw [pR] at eq
    refine b_f (show ¬ nI 10 < nI n from nI_nlt (by omega) (by omega)) ?_
    refine head_c (K0 := fun u8 => K 0 u8) (KB := fun u8 => wX3_read_b52 N K (wX3_read_b22 N K fg) (nI n) u8) hN hT hc y hS hO (by omega) hp (fun u' g' y' => ⟨fun hb cs => ?_, fun hb => ?_⟩)
    · rw [hb, if_pos rfl] at eq
      obtain ⟨m1, m2⟩ := hK.2 hb
      have mp := hK.1
      have hc' := hc.d g'
      have gg := g.tr g'
      rw [show n - 1 + 1 = n from by omega] at m2
      show ((u' 6 2) < (u' 62 1) → _) ∧ (¬ (u' 6 2) < (u' 62 1) → _)
      rw [y', hc'.1]
      by_cases hlt : T.2 ≤ (pK T p S).2.1
      · rw [if_pos hlt] at eq
        subst eq
        exact b_f (nI_nlt hlt (by omega)) (k u' gg y' (fun _ => cs))
      · rw [if_neg hlt] at eq
        refine b_t (nl_lt (by omega) (by omega)) ?_
        have e10 : nI n = nI 10 ↔ n = 10 := nI_eq (by omega) (by omega)
        by_cases h10 : n = 10
        · rw [if_pos (Or.inl h10)] at eq
          subst eq
          exact b_t (e10.mpr h10) (k u' gg y' (fun z => by cases z))
        · refine b_f (fun z => h10 (e10.mp z)) (skip_c (x := 59) hc' hT y' (by omega) (by omega) (fun hs u17 g17 y17 => ?_) (fun hs => ?_))
          · rw [if_neg (fun z => z.elim h10 (fun z2 => z2 hs))] at eq
            refine n_t (by decide) (fun y19 e19 => ?_)
            rw [i_one] at e19
            subst e19
            refine ih (n + 1) ((pK T p S).2.1 + 1) fg _ u17 (by omega) (by omega) (by omega) (gg.tr g17.c.d) (hc'.c g17.c) y17 (cs.f6 g17) (m2.mono (by omega) (by omega)) (by omega) eq (by omega)
          · rw [if_pos (Or.inr hs)] at eq
            subst eq
            exact n_f rfl (k u' gg y' (fun z => by cases z))
    · rw [hb, if_neg (by decide)] at eq
      subst eq
      exact k u' (g.tr g') y' (fun z => by cases z)
theorem read_c {N : Nat} {T : Tp} {u : MM} {K : Int32 → MM → Prop} (hN : 200 ≤ N) (hT : TpOk T) (h1 : u 11 1 = nI T.2) (h2 : ∀ i, i < T.2 → u 12 i = nI (T.1 i)) (k : ∀ u' : MM, (∀ a, a ≠ 6 → (a < 62 ∨ 72 ≤ a) → u' a = u a) → u' 6 2 = nI (pR T 10 1 0 (1, 0, [])).2.1 → ((pR T 10 1 0 (1, 0, [])).1 = true → CS u' (pR T 10 1 0 (1, 0, [])).2.2) → K (nI (bn (pR T 10 1 0 (1, 0, [])).1)) u') : wX3_read N u K := by
  have ht := hT.1
  refine wX6_copyFrom_ok N 62 11 u _ (by omega) (fun u2 a1 a2 g2 u3 e3 u4 e4 u5 e5 u6 e6 u7 e7 => ?_)
  have k6 : ∀ a, a ≠ 64 → u6 a = u2 a := fun a ha => by rw [upu e6 ha, upu e5 ha, upu e4 ha, upu e3 ha]
  have k7 : ∀ a, a ≠ 6 → u7 a = u6 a := fun a ha => upu e7 ha
  refine read_lp N T u7 K hN hT _ (fun u' g y c => k u' (fun a h0 h1 => by rw [g a h0 (by omega), k7 a h0, k6 a (by omega)]; exact g2 a (by omega)) y c) 10 1 0 N (1, 0, []) u7 (by omega) (by omega) (by omega) (fun _ _ _ => rfl) ⟨?_, fun i hi => ?_⟩ (upx e7) ⟨?_, ?_, ?_, ?_, ?_, ?_, fun j c hj => by simp at hj⟩ ⟨by show 1 < 100; omega, by show 0 < 100; omega, fun c hc => absurd hc List.not_mem_nil, by show 0 ≤ 1 - 1; omega, by show 0 ≤ 0; omega⟩ (by omega) rfl (by omega)
  · rw [k7 62 (by omega), k6 62 (by omega)]; exact a2.trans h1
  · rw [k7 63 (by omega), k6 63 (by omega)]; exact (a1 i (by omega)).trans (h2 i hi)
  · rw [k7 64 (by omega), e6, up_j (by omega), e5, up_j (by omega), e4, up_j (by omega)]; exact upx e3
  · rw [k7 64 (by omega), e6, up_j (by omega), e5, up_j (by omega)]; exact upx e4
  · rw [k7 64 (by omega), e6, up_j (by omega)]; exact upx e5
  · show 0 ≤ 10; omega
  · rw [k7 64 (by omega)]; exact upx e6
  · show 0 ≤ 100; omega
