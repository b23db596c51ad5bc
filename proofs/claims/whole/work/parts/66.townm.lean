/-! the reference reads clauses -/
def RSt (A : Nat) (v : MM) (S : St) : Prop := v 1 (229 + A) = nI S.1 ∧ v 1 (234 + A) = nI S.2.1 ∧ MR A v (flat S.2.2)
def fG (A : Nat) (v v' : MM) : Prop := (∀ a, a ≠ 0 → a ≠ 1 → v' a = v a) ∧ (∀ j, j ≠ 6 → j ≠ 8 → v' 0 j = v 0 j) ∧ ∀ j, j ≠ 229 + A → j ≠ 234 + A → j ≠ 239 + A → (j < 244 + 140 * A ∨ 384 + 140 * A ≤ j) → v' 1 j = v 1 j
theorem fF.g {A : Nat} {v v' : MM} (h : fF A v v') : fG A v v' := ⟨h.1, h.2.1, fun j _ _ h3 h4 => h.2.2 j h3 h4⟩
theorem fG.tr {A : Nat} {a b c : MM} (h : fG A a b) (h2 : fG A b c) : fG A a c := ⟨fun k x y => (h2.1 k x y).trans (h.1 k x y), fun j x y => (h2.2.1 j x y).trans (h.2.1 j x y), fun j x y z t => (h2.2.2 j x y z t).trans (h.2.2 j x y z t)⟩
theorem TM.g {A : Nat} {v v' : MM} {T : Tp} (hT : TpOk T) (h : TM v T) (g : fG A v v') : TM v' T := ⟨by rw [g.2.1 7 (by omega) (by omega)]; exact h.1, fun i hi => by have := hT.1; rw [g.2.2 _ (by omega) (by omega) (by omega) (by omega)]; exact h.2 i hi⟩
theorem RSt.f0 {A : Nat} {v v' : MM} {S : St} (h : RSt A v S) (g : f0 v v') : RSt A v' S := ⟨by rw [g.1 1 (by omega)]; exact h.1, by rw [g.1 1 (by omega)]; exact h.2.1, h.2.2.f0 g⟩
def kR (A : Nat) (v : MM) (q : Rc) (K : MM → Prop) : Prop := ∀ v' : MM, fG A v v' → v' 0 6 = nI q.2.1 → v' 0 8 = nI (bn (!q.1)) → (q.1 = true → RSt A v' q.2.2) → K v'
theorem flat_one (kd am : Nat) (xs : List Int) : flat [(kd, am, xs)] = xs ++ [if kd = 0 then -10 else -200 - (am : Int)] := by
  unfold flat
  simp
theorem cl_w {N : Nat} {code : Int32} {v : MM} {K : MM → Prop} (hN : 1 ≤ N) (h8 : v 0 8 = 1) (k : K v) : wX11_some0 N v (fun u13 => wX11_emits N code u13 (fun u15 => K u15)) :=
  some_w hN (fun v K a b => every_w hN (fun v K a b => gF_w (by omega) a b) a b) h8 (emit_w h8 k)
theorem cl_m {N A n p kd am : Nat} {code : Int32} {T : Tp} {S : St} {v0 v : MM} {K : MM → Prop} (hN : 200 ≤ N) (hA : A < 5) (hT : TpOk T) (hc : TM v T) (h5 : v 0 5 = nI A) (h6 : v 0 6 = nI p) (h8 : v 0 8 = 0) (h9 : v 0 9 = 0) (hR : RSt A v S) (hO : SOk n p S) (hn : n < 10) (hp : p ≤ T.2) (hcode : code = Int32.ofInt (if kd = 0 then -10 else -200 - (am : Int))) (g : fG A v0 v) (k : kR A v0 (if (pX T p).1 = true then (true, (pX T p).2.1, (S.1, S.2.1, S.2.2 ++ [(kd, am, (pX T p).2.2)])) else (false, (pX T p).2.1, S)) K) : wX11_some0 N v (fun u13 => wX11_emits N code u13 (fun u15 => K u15)) := by
  have ht := hT.1
  have hl : (flat S.2.2).length ≤ p + 10 := by
    rw [flat_len]
    have := hO.2.2.2.1
    have := hO.2.2.2.2
    omega
  have hX := pX_ok hp
  refine some_m (A := A) (o := 0) (F := pF T 8 0) (es := flat S.2.2) (p := p) hN hA hT (pF_ok (T := T) 8 0 (by omega)) (fun p ys v K => part_m hN hA hT 8 0 (by omega) (by omega) p ys v K) ⟨hc, h5, h6, h8, h9, hR.2.2, hl, hp⟩ (fun u13 g13 y6 y8 ym => ?_)
  have y6' : u13 0 6 = nI (pX T p).2.1 := y6
  have y8' : u13 0 8 = nI (bn (!(pX T p).1)) := y8
  cases hb : (pX T p).1
  · rw [hb, if_neg (by decide)] at k
    rw [hb] at y8'
    exact emit_w y8' (k u13 (g.tr g13.g) y6' y8' (fun z => by cases z))
  · rw [hb, if_pos rfl] at k
    rw [hb] at y8'
    obtain ⟨m1, m2, m3, m4⟩ := hX.2 hb
    have mp := hX.1
    have m : MR A u13 (flat S.2.2 ++ (pX T p).2.2) := ym hb
    have l1 : (flat S.2.2 ++ (pX T p).2.2).length = (flat S.2.2).length + (pX T p).2.2.length := List.length_append
    refine emit_m y8' (by rw [g13.2.1 5 (by omega) (by omega)]; exact h5) hA m (by rw [l1]; omega) hcode (fun u15 g15 r0 m15 => k u15 (g.tr (g13.tr g15).g) (by rw [r0]; exact y6') (by rw [r0]; exact y8') (fun _ => ⟨?_, ?_, ?_⟩))
    · rw [(g13.tr g15).2.2 _ (by omega) (by omega)]; exact hR.1
    · rw [(g13.tr g15).2.2 _ (by omega) (by omega)]; exact hR.2.1
    · show MR A u15 (flat (S.2.2 ++ [(kd, am, (pX T p).2.2)]))
      rw [flat_app, flat_one, ← List.append_assoc]
      exact m15
theorem tells_m {N A i c p : Nat} {x1 : Int32} {T : Tp} {v : MM} {K : MM → Prop} (hN : 200 ≤ N) (hA : A < 5) (hT : TpOk T) (hi : i < 8) (hcx : c < 300) (hx : x1 + nI A = nI (c + A)) (hc : TM v T) (h5 : v 0 5 = nI A) (h6 : v 0 6 = nI p) (h8 : v 0 8 = 0) (hp : p ≤ T.2) (k0 : (pW T (wrd i) p).1 = false → ∀ v' : MM, f0 v v' → v' 0 8 = 1 → v' 0 6 = nI (pW T (wrd i) p).2 → K v') (k1 : (pW T (wrd i) p).1 = true → (pN T (pW T (wrd i) p).2).1 = false → ∀ v' : MM, f0 v v' → v' 0 8 = 1 → v' 0 6 = nI (pN T (pW T (wrd i) p).2).2.1 → K v') (k2 : (pW T (wrd i) p).1 = true → (pN T (pW T (wrd i) p).2).1 = true → ∀ v1 v' : MM, f0 v v1 → v1 0 8 = 0 → v1 0 6 = nI (pN T (pW T (wrd i) p).2).2.1 → v' = up v1 1 (c + A) (nI (pN T (pW T (wrd i) p).2).2.2) → K v') : wX11_tellsHere N i x1 v K := by
  have ht := hT.1
  have hW := pW_ok (T := T) (wrd i) p (wrd_lt i hi) hp
  refine spell_m true (by omega) hi hc hT h6 h8 (by omega) (fun u2 g2 a2 b2 => ?_)
  unfold pWb at a2 b2
  rw [if_pos rfl] at a2 b2
  refine fig_m (pW T (wrd i) p).1 (by omega) (hc.f hT (g2.f A)) hT b2 a2 (by omega) (fun u4 g4 a4 b4 => ?_)
  have g := g2.tr g4
  cases hb : (pW T (wrd i) p).1
  · rw [hb] at a4 b4
    exact n_t (by rw [show u4 0 8 = 1 from a4]; decide) (k0 hb u4 g a4 b4)
  · rw [hb] at a4 b4
    unfold pNb at a4 b4 ⊢
    rw [if_pos rfl] at a4 b4 ⊢
    cases hb2 : (pN T (pW T (wrd i) p).2).1
    · rw [hb2] at a4
      exact n_t (by rw [a4]; decide) (k1 hb hb2 u4 g a4 b4)
    · rw [hb2] at a4
      refine n_f a4 ?_
      rw [g.2 5 (by omega) (by omega), h5, hx]
      refine ⟨vp_in_nI (by omega) (by omega), fun u6 e6 => ?_⟩
      rw [nI_clamp (by omega)] at e6
      exact k2 hb hb2 u4 u6 g a4 b4 e6
theorem clause_m {N A n p : Nat} {T : Tp} {S : St} {v : MM} {K : MM → Prop} (hN : 200 ≤ N) (hA : A < 5) (hT : TpOk T) (hc : TM v T) (h5 : v 0 5 = nI A) (h6 : v 0 6 = nI p) (h8 : v 0 8 = 0) (h9 : v 0 9 = 0) (hR : RSt A v S) (hO : SOk n p S) (hn : n < 10) (hp : p ≤ T.2) (k : kR A v (pK T p S) K) : wX11_clauseHere N v K := by
  have ht := hT.1
  have s1 := sg_le hT p
  have s2 := sg_le hT (p + 1)
  have e : ∀ c, c < 128 → (oz (sg T p) = nI c ↔ sg T p = c) := fun c hc => oz_eq s1 hc
  have e2 : ∀ c, c < 128 → (oz (sg T (p + 1)) = nI c ↔ sg T (p + 1) = c) := fun c hc => oz_eq s2 hc
  refine here_m hc hT h6 (by omega) ?_
  unfold pK at k
  by_cases h102 : sg T p = 102
  · rw [if_pos h102] at k
    have i1 : p < T.2 := sg_in (by omega)
    refine b_t ((e 102 (by omega)).mpr h102) (must_m (x := 102) true hc hT h6 h8 (by omega) (by omega) (fun u2 g2 a2 b2 => ?_))
    rw [decide_eq_true h102] at a2 b2
    rw [if_pos (by decide)] at b2
    have c2 := hc.f hT (g2.f A)
    have w5 : u2 0 5 = nI A := by rw [g2.2 5 (by omega) (by omega)]; exact h5
    have w1 : pW T (wrd 1) p = pW T (wrd 6) (p + 1) := by
      rw [show wrd 1 = 102 :: wrd 6 from by decide, pW, if_pos h102]
    have w2 : pW T (wrd 2) p = pW T (wrd 7) (p + 1) := by
      rw [show wrd 2 = 102 :: wrd 7 from by decide, pW, if_pos h102]
    refine here_m c2 hT b2 (by omega) ?_
    by_cases h105 : sg T (p + 1) = 105
    · rw [if_neg (by omega)] at k
      unfold kFine at k
      rw [w1] at k
      refine n_f ((e2 105 (by omega)).mpr h105) ?_
      have hW := pW_ok (T := T) (wrd 6) (p + 1) (wrd_lt 6 (by omega)) i1
      refine spell_m true (by omega) (by omega) c2 hT b2 a2 (by omega) (fun u9 g9 a9 b9 => ?_)
      unfold pWb at a9 b9
      rw [if_pos rfl] at a9 b9
      have g29 := g2.tr g9
      refine fig_m (pW T (wrd 6) (p + 1)).1 (by omega) (hc.f hT (g29.f A)) hT b9 a9 (by omega) (fun u11 g11 a11 b11 => ?_)
      have g211 := g29.tr g11
      have c11 := hc.f hT (g211.f A)
      cases hb : (pW T (wrd 6) (p + 1)).1
      · rw [hb, if_neg (by decide)] at k
        rw [hb] at a11 b11
        exact must_w (x := 32) c11 hT b11 a11 (by show (pW T (wrd 6) (p + 1)).2 ≤ 110; omega) (by omega) (fun u13 g13 a13 b13 => cl_w (by omega) a13 (k u13 ((g211.tr g13).f A).g b13 a13 (fun z => by cases z)))
      · rw [hb, if_pos rfl] at k
        rw [hb] at a11 b11
        unfold pNb at a11 b11 ⊢
        rw [if_pos rfl] at a11 b11 ⊢
        have hNn := pN_ok (T := T) hW.2.1
        cases hb2 : (pN T (pW T (wrd 6) (p + 1)).2).1
        · rw [hb2, if_neg (by decide)] at k
          rw [hb2] at a11
          exact must_w (x := 32) c11 hT b11 a11 (by omega) (by omega) (fun u13 g13 a13 b13 => cl_w (by omega) a13 (k u13 ((g211.tr g13).f A).g b13 a13 (fun z => by cases z)))
        · rw [hb2, if_pos rfl] at k
          rw [hb2] at a11
          unfold kFine2 at k
          refine must_m (x := 32) true c11 hT b11 a11 (by omega) (by omega) (fun u13 g13 a13 b13 => ?_)
          have g213 := g211.tr g13
          by_cases hs : sg T (pN T (pW T (wrd 6) (p + 1)).2).2.1 = 32
          · rw [if_pos hs] at k
            rw [decide_eq_true hs] at a13 b13
            rw [if_pos (by decide)] at b13
            have i2 := sg_in (show sg T (pN T (pW T (wrd 6) (p + 1)).2).2.1 < 128 by omega)
            refine cl_m (kd := 1) (am := (pN T (pW T (wrd 6) (p + 1)).2).2.2) (v0 := v) hN hA hT (hc.f hT (g213.f A)) (by rw [g213.2 5 (by omega) (by omega)]; exact h5) b13 a13 (by rw [g213.2 9 (by omega) (by omega)]; exact h9) (hR.f0 g213) (hO.mono (Nat.le_refl _) (by omega)) hn i2 ?_ (g213.f A).g k
            rw [if_neg (by decide)]
            have hv := hNn.2.2.1
            have ha := amts _ hv
            have : ∀ m : Nat, m < 100 → ((-200 : Int32) - nI m) = Int32.ofInt (-200 - (m : Int)) := by decide +kernel
            exact this _ hv
          · rw [if_neg hs] at k
            rw [decide_eq_false hs] at a13 b13
            rw [if_neg (by decide)] at b13
            exact cl_w (by omega) a13 (k u13 (g213.f A).g b13 a13 (fun z => by cases z))
    · refine n_t (fun y => h105 ((e2 105 (by omega)).mp y)) ?_
      by_cases h101 : sg T (p + 1) = 101
      · rw [if_pos h101] at k
        unfold kNum at k
        rw [w2] at k
        refine tells_m (c := 229) hN hA hT (by omega) (by omega) (i229 A) c2 w5 b2 a2 i1 ?_ ?_ ?_
        · intro hb v' g a b
          rw [hb, if_neg (by decide)] at k
          exact k v' ((g2.tr g).f A).g b a (fun z => by cases z)
        · intro hb hb2 v' g a b
          rw [hb, if_pos rfl, hb2, if_neg (by decide)] at k
          exact k v' ((g2.tr g).f A).g b a (fun z => by cases z)
        · intro hb hb2 v1 v' g a b e'
          rw [hb, if_pos rfl, hb2, if_pos rfl] at k
          have r1 := hR.f0 (g2.tr g)
          refine k v' (((g2.tr g).f A).g.tr ⟨fun x h0 h1 => upu e' h1, fun j _ _ => by rw [upu e' (by omega)], fun j y1 y2 y3 y4 => upv e' y1⟩) (by rw [upu e' (by omega)]; exact b) (by rw [upu e' (by omega)]; exact a) (fun _ => ⟨upx e', by rw [upv e' (by omega)]; exact r1.2.1, ?_⟩)
          obtain ⟨m1, m2, m3⟩ := r1.2.2
          exact ⟨by rw [upv e' (by omega)]; exact m1, m2, fun i x hx => by rw [upv e' (by omega)]; exact m3 i x hx⟩
      · rw [if_neg h101] at k
        unfold kFine at k
        rw [w1, show wrd 6 = 105 :: [110, 101, 32] from by decide, pW, if_neg h105] at k
        have k' : kR A v (false, p + 1, S) K := k
        have wf : pW T (wrd 7) (p + 1) = (false, p + 1) := by
          rw [show wrd 7 = 101 :: [119, 101, 114, 32] from by decide, pW, if_neg h101]
        refine tells_m (c := 229) hN hA hT (by omega) (by omega) (i229 A) c2 w5 b2 a2 i1 ?_ ?_ ?_
        · intro hb v' g a b
          rw [wf] at b
          exact k' v' ((g2.tr g).f A).g b a (fun z => by cases z)
        · intro hb
          rw [wf] at hb; cases hb
        · intro hb
          rw [wf] at hb; cases hb
  rw [if_neg h102] at k
  refine b_f (fun y => h102 ((e 102 (by omega)).mp y)) ?_
  by_cases h108 : sg T p = 108
  · rw [if_pos h108] at k
    refine b_t ((e 108 (by omega)).mpr h108) ?_
    unfold kNum at k
    refine tells_m (c := 234) hN hA hT (by omega) (by omega) (i234 A) hc h5 h6 h8 hp ?_ ?_ ?_
    · intro hb v' g a b
      rw [hb, if_neg (by decide)] at k
      exact k v' (g.f A).g b a (fun z => by cases z)
    · intro hb hb2 v' g a b
      rw [hb, if_pos rfl, hb2, if_neg (by decide)] at k
      exact k v' (g.f A).g b a (fun z => by cases z)
    · intro hb hb2 v1 v' g a b e'
      rw [hb, if_pos rfl, hb2, if_pos rfl] at k
      have r1 := hR.f0 g
      refine k v' ((g.f A).g.tr ⟨fun x h0 h1 => upu e' h1, fun j _ _ => by rw [upu e' (by omega)], fun j y1 y2 y3 y4 => upv e' y2⟩) (by rw [upu e' (by omega)]; exact b) (by rw [upu e' (by omega)]; exact a) (fun _ => ⟨by rw [upv e' (by omega)]; exact r1.1, upx e', ?_⟩)
      obtain ⟨m1, m2, m3⟩ := r1.2.2
      exact ⟨by rw [upv e' (by omega)]; exact m1, m2, fun i x hx => by rw [upv e' (by omega)]; exact m3 i x hx⟩
  rw [if_neg h108] at k
  refine b_f (fun y => h108 ((e 108 (by omega)).mp y)) ?_
  by_cases h115 : sg T p = 115
  · rw [if_pos h115] at k
    refine b_t ((e 115 (by omega)).mpr h115) ?_
    unfold kShun at k
    have hW := pW_ok (T := T) (wrd 0) p (wrd_lt 0 (by omega)) hp
    refine spell_m true (by omega) (by omega) hc hT h6 h8 (by omega) (fun u11 g11 a11 b11 => ?_)
    unfold pWb at a11 b11
    rw [if_pos rfl] at a11 b11
    cases hb : (pW T (wrd 0) p).1
    · rw [hb, if_neg (by decide)] at k
      rw [hb] at a11
      exact cl_w (by omega) a11 (k u11 (g11.f A).g b11 a11 (fun z => by cases z))
    · rw [hb, if_pos rfl] at k
      rw [hb] at a11
      exact cl_m (kd := 0) (am := 1) (v0 := v) hN hA hT (hc.f hT (g11.f A)) (by rw [g11.2 5 (by omega) (by omega)]; exact h5) b11 a11 (by rw [g11.2 9 (by omega) (by omega)]; exact h9) (hR.f0 g11) (hO.mono (Nat.le_refl _) (by omega)) hn hW.2.1 rfl (g11.f A).g k
  · rw [if_neg h115] at k
    refine b_f (fun y => h115 ((e 115 (by omega)).mp y)) (fun u16 e16 => ?_)
    exact k u16 ((f0.up e16 (Or.inr rfl)).f A).g (by rw [e16, up_j (by omega)]; exact h6) (upx e16) (fun z => by cases z)
theorem rt_lp (N A : Nat) (T : Tp) (v0 : MM) (K : Int32 → MM → Prop) (hN : 200 ≤ N) (hA : A < 5) (hT : TpOk T) (q : Rc) (k : ∀ v' : MM, fG A v0 v' → v' 0 6 = nI q.2.1 → (q.1 = true → v' 0 8 = 0 ∧ q.2.1 = T.2 ∧ RSt A v' q.2.2) → (q.1 = false → v' 0 8 = 1 ∨ (v' 0 8 = 0 ∧ q.2.1 < T.2)) → wX11_town_b149 N K v') : ∀ (r n p fl : Nat) (S : St) (v : MM), r + n = 11 → 1 ≤ n → r ≤ fl → fG A v0 v → TM v T → v 0 5 = nI A → v 0 6 = nI p → v 0 8 = 0 → v 0 9 = 0 → RSt A v S → SOk (n - 1) p S → p ≤ T.2 → pR T r n p S = q → 0 < r → wX11_clauseHere N v (fun u12 => wX11_town_b107 N K fl (nI n) u12) := by
  have ht := hT.1
  intro r
  induction r with
  | zero => intro n p fl S v h1 h2 h3 g hc h5 h6 h8 h9 hR hO hp eq h0; omega
  | succ r ih =>
    intro n p fl S v h1 h2 h3 g hc h5 h6 h8 h9 hR hO hp eq h0
    obtain ⟨fl, rfl⟩ : ∃ e, fl = e + 1 := ⟨fl - 1, by omega⟩
    have hK := pK_ok hp hO
    rw [pR] at eq
    refine clause_m hN hA hT hc h5 h6 h8 h9 hR hO (by omega) hp (fun v' g' a6 a8 aR => ?_)
    have gg := g.tr g'
    have hc' := hc.g hT g'
    have mp := hK.1
    cases hb : (pK T p S).1
    · rw [hb, if_neg (by decide)] at eq
      rw [hb] at a8
      subst eq
      exact n_t (by rw [a8]; decide) (k v' gg a6 (fun z => by cases z) (fun _ => Or.inl a8))
    · rw [hb, if_pos rfl] at eq
      rw [hb] at a8
      obtain ⟨m1, m2⟩ := hK.2 hb
      rw [show n - 1 + 1 = n from by omega] at m2
      refine n_f a8 ?_
      by_cases hlt : T.2 ≤ (pK T p S).2.1
      · rw [if_pos hlt] at eq
        subst eq
        have fin := k v' gg a6 (fun _ => ⟨a8, by show (pK T p S).2.1 = T.2; omega, aR hb⟩) (fun z => by cases z)
        by_cases h10 : 10 ≤ n
        · exact b_t (show nI 10 ≤ nI n from nI_le h10 (by omega)) fin
        · refine b_f (show ¬ nI 10 ≤ nI n from nI_ge (by omega) (by omega)) (here_m hc' hT a6 (by omega) (n_t (fun y => ?_) fin))
          have := (oz_eq (c := 59) (sg_le hT _) (by omega)).mp y
          have := sg_in (show sg T (pK T p S).2.1 < 128 by omega)
          omega
      · rw [if_neg hlt] at eq
        by_cases h10 : n = 10
        · rw [if_pos (Or.inl h10)] at eq
          subst eq
          exact b_t (show nI 10 ≤ nI n from nI_le (by omega) (by omega)) (k v' gg a6 (fun z => by cases z) (fun _ => Or.inr ⟨a8, by show (pK T p S).2.1 < T.2; omega⟩))
        · refine b_f (show ¬ nI 10 ≤ nI n from nI_ge (by omega) (by omega)) (here_m hc' hT a6 (by omega) ?_)
          have e := oz_eq (c := 59) (sg_le hT (pK T p S).2.1) (by omega)
          by_cases hs : sg T (pK T p S).2.1 = 59
          · rw [if_neg (fun z => z.elim h10 (fun z2 => z2 hs))] at eq
            refine n_f (e.mpr hs) (fun u18 e18 => ?_)
            rw [a6, i_one] at e18
            have g18 := f0.up e18 (Or.inl rfl)
            have R18 := (aR hb).f0 g18
            have z5 : u18 0 5 = nI A := by rw [g18.2 5 (by omega) (by omega), g'.2.1 5 (by omega) (by omega)]; exact h5
            have z9 : u18 0 9 = 0 := by rw [g18.2 9 (by omega) (by omega), g'.2.1 9 (by omega) (by omega)]; exact h9
            have z8 : u18 0 8 = 0 := by rw [e18, up_j (by omega)]; exact a8
            have main := ih (n + 1) ((pK T p S).2.1 + 1) fl _ u18 (by omega) (by omega) (by omega) (gg.tr (g18.f A).g) (hc'.f hT (g18.f A)) z5 (upx e18) z8 z9 R18 (m2.mono (by omega) (by omega)) (by omega) eq (by omega)
            have ex : (fun u20 => ∀ y21 : Int32, y21 = nI n + 1 → wX11_town_b107 N K fl y21 u20) = (fun u20 => wX11_town_b107 N K fl (nI (n + 1)) u20) := by
              funext u20
              rw [i_one]
              exact propext ⟨fun y => y _ rfl, fun y z e => by rw [e]; exact y⟩
            rw [ex]
            exact main
          · rw [if_pos (Or.inr hs)] at eq
            subst eq
            exact n_t (fun y => hs (e.mp y)) (k v' gg a6 (fun z => by cases z) (fun _ => Or.inr ⟨a8, by show (pK T p S).2.1 < T.2; omega⟩))
