/-! the reference reads E -/
def preM (A o : Nat) (v : MM) (T : Tp) (es : List Int) (p : Nat) : Prop := TM v T ∧ v 0 5 = nI A ∧ v 0 6 = nI p ∧ v 0 8 = 0 ∧ v 0 9 = nI o ∧ MR A v es ∧ es.length ≤ p + 10 ∧ p ≤ T.2
def kM (A : Nat) (v : MM) (es : List Int) (q : Rs) (K : MM → Prop) : Prop := ∀ v' : MM, fF A v v' → v' 0 6 = nI q.2.1 → v' 0 8 = nI (bn (!q.1)) → (q.1 = true → MR A v' (es ++ q.2.2)) → K v'
theorem ofI (n : Nat) : nI n = Int32.ofInt (n : Int) := rfl
theorem every_w {N : Nat} {rF : MM → (MM → Prop) → Prop} {v : MM} {K : MM → Prop} (hN : 1 ≤ N) (hFw : ∀ (v : MM) (K : MM → Prop), v 0 8 = 1 → K v → rF v K) (h8 : v 0 8 = 1) (k : K v) : wX11_every N rF v K := by
  obtain ⟨M, rfl⟩ : ∃ M, N = M + 1 := ⟨N - 1, by omega⟩
  exact hFw v _ h8 (n_t (by rw [h8]; decide) k)
theorem some_w {N : Nat} {rV : MM → (MM → Prop) → Prop} {v : MM} {K : MM → Prop} (hN : 1 ≤ N) (hFw : ∀ (v : MM) (K : MM → Prop), v 0 8 = 1 → K v → rV v K) (h8 : v 0 8 = 1) (k : K v) : wX11_some N rV v K := by
  obtain ⟨M, rfl⟩ : ∃ M, N = M + 1 := ⟨N - 1, by omega⟩
  exact hFw v _ h8 (n_t (by rw [h8]; decide) k)
theorem must_w {N p x : Nat} {T : Tp} {v : MM} {K : MM → Prop} (h : TM v T) (hT : TpOk T) (h6 : v 0 6 = nI p) (h8 : v 0 8 = 1) (hp : p ≤ 110) (hx : x < 128) (k : ∀ v' : MM, f0 v v' → v' 0 8 = 1 → v' 0 6 = nI p → K v') : wX11_must N (nI x) v K :=
  must_m false h hT h6 h8 hp hx (fun v' g a b => k v' g a b)
theorem gF_w {N d : Nat} {v : MM} {K : MM → Prop} (hd : 1 ≤ d) (h8 : v 0 8 = 1) (k : K v) : gF N d v K := by
  obtain ⟨e, rfl⟩ : ∃ e, d = e + 1 := ⟨d - 1, by omega⟩
  show wX11_factor N (gF N e) (wX11_some N (wX11_every N (gF N e))) v K
  exact b_f (by rw [h8]; decide) k
theorem test_m {N A o p : Nat} {T : Tp} {es : List Int} {rF rS : MM → (MM → Prop) → Prop} {v : MM} {K : MM → Prop} (hN : 20 ≤ N) (hA : A < 5) (hT : TpOk T) (h : preM A o v T es p) (k : kM A v es (pT T p) K) : wX11_among N 4 v (fun r6 u7 => ((¬ r6 = (-1) → (wX11_factor_b130 N rF rS K r6 0 u7)) ∧ (r6 = (-1) → (wX11_factor_b130 N rF rS K r6 1 u7)))) := by
  obtain ⟨hc, h5, h6, h8, h9, hM, hl, hp⟩ := h
  have ht := hT.1
  have s1 := sg_le hT p
  have s2 := sg_le hT (p + 1)
  have ff := fi_fac (sg T p) (by omega)
  have fl := fac_le (sg T p)
  unfold pT at k
  -- wrong: nothing more is read
  have bad : ∀ (x2 x3 s0 : Int32) (w : MM) (P : Nat), s0 = 1 → f0 v w → w 0 6 = nI P → P ≤ 101 → kM A v es (false, P, []) K → wX11_factor_b169 N rF rS K x2 x3 s0 w := by
    intro x2 x3 s0 w P es0 g y6 hP kk
    subst es0
    refine ⟨bz1, fun u15 e15 => ?_⟩
    have g15 := g.tr (f0.up e15 (Or.inr rfl))
    refine fig_m (p := P) false hN (hc.f hT (g15.f A)) hT (by rw [e15, up_j (by omega)]; exact y6) (upx e15) hP (fun u17 g17 a b => emit_w a (kk u17 ((g15.tr g17).f A) b a (fun z => by cases z)))
  refine among_m hN (by omega) hc hT h6 (by omega) (fun e9 => ?_) (fun e9 v7 e7 => ?_)
  · rw [ff] at e9
    have h5f : fac (sg T p) = 5 := by
      by_cases z : fac (sg T p) = 5
      · exact z
      · rw [if_neg z] at e9; omega
    rw [if_pos h5f] at k
    refine n_f rfl ⟨bz1, fun u9 e9' => b_f (by rw [upx e9']; decide) (n_t (by rw [upx e9']; decide) ?_)⟩
    exact bad _ _ _ u9 p rfl (f0.up e9' (Or.inr rfl)) (by rw [e9', up_j (by omega)]; exact h6) (by omega) k
  · rw [ff] at e9 ⊢
    have h5f : ¬ fac (sg T p) = 5 := fun z => by rw [if_pos z] at e9; exact e9 rfl
    rw [if_neg h5f] at k ⊢
    have i1 : p < T.2 := sg_in (fac_in h5f)
    refine n_t (nI_m1 (by omega)) ⟨bz0, fun u9 e9' => b_t (upx e9') ?_⟩
    have g7 := f0.up e7 (Or.inl rfl)
    have g9 := g7.tr (f0.up e9' (Or.inr rfl))
    have y6 : u9 0 6 = nI (p + 1) := by rw [e9', up_j (by omega)]; exact upx e7
    have y8 : u9 0 8 = 0 := upx e9'
    have hw := fi_hw (sg T (p + 1)) (by omega)
    have hl3 := hw_le (sg T (p + 1))
    refine among_m hN (by omega) (hc.f hT (g9.f A)) hT y6 (by omega) (fun e10 => ?_) (fun e10 v11 e11 => ?_)
    · rw [hw] at e10
      have h3 : hw_ (sg T (p + 1)) = 3 := by
        by_cases z : hw_ (sg T (p + 1)) = 3
        · exact z
        · rw [if_neg z] at e10; omega
      rw [if_pos h3] at k
      exact n_f y8 (n_f rfl (bad _ _ _ u9 (p + 1) rfl g9 y6 (by omega) k))
    · rw [hw] at e10 ⊢
      have h3 : ¬ hw_ (sg T (p + 1)) = 3 := fun z => by rw [if_pos z] at e10; exact e10 rfl
      rw [if_neg h3] at k ⊢
      have i2 : p + 1 < T.2 := sg_in (hw_in h3)
      have g11 := g9.tr (f0.up e11 (Or.inl rfl))
      have z8 : v11 0 8 = 0 := by rw [e11, up_j (by omega)]; exact y8
      refine n_f z8 (n_t (nI_m1 (by omega)) ⟨bz0, fun u15 e15 => ?_⟩)
      have g15 := g11.tr (f0.up e15 (Or.inr rfl))
      have w6 : u15 0 6 = nI (p + 2) := by rw [e15, up_j (by omega)]; exact upx e11
      refine fig_m (p := p + 2) true hN (hc.f hT (g15.f A)) hT w6 (upx e15) (by omega) (fun u17 g17 a b => ?_)
      have g := g15.tr g17
      unfold pNb at a b ⊢
      rw [if_pos rfl] at a b ⊢
      cases hb : (pN T (p + 2)).1
      · rw [hb, if_neg (by decide)] at k
        rw [hb] at a
        exact emit_w a (k u17 (g.f A) b a (fun z => by cases z))
      · rw [hb, if_pos rfl] at k
        rw [hb] at a
        rw [show (8 : Int32) = nI 8 from rfl, pk_mul, nI_add, show (32 : Int32) = nI 32 from rfl, pk_mul, nI_add]
        refine emit_m (x := stpN (fac (sg T p)) (hw_ (sg T (p + 1))) (pN T (p + 2)).2.2) a (by rw [g.2 5 (by omega) (by omega)]; exact h5) hA (hM.f0 g) (by omega) rfl (fun v' g' r0 m => k v' ((g.f A).tr g') (by rw [r0]; exact b) (by rw [r0]; exact a) (fun _ => m))
theorem some_stop {N g : Nat} {rV : MM → (MM → Prop) → Prop} {v : MM} {K : MM → Prop} (hg : 1 ≤ g) (h8 : v 0 8 = 1) (k : K v) : wX11_some_b4 N rV K g v := by
  obtain ⟨g, rfl⟩ : ∃ e, g = e + 1 := ⟨g - 1, by omega⟩
  exact n_t (by rw [h8]; decide) k
/-- what comes behind the F's of a T: the | that waits, and the next T's -/
def aft (N : Nat) (rF : MM → (MM → Prop) → Prop) (K : MM → Prop) (g : Nat) (w : Bool) (u9 : MM) : Prop := if w = true then wX11_emits N (-3) u9 (fun u11 => wX11_some_b4 N (wX11_every N rF) K g u11) else wX11_some_b4 N (wX11_every N rF) K g u9
theorem aft_w {N g : Nat} {rF : MM → (MM → Prop) → Prop} {w : Bool} {v : MM} {K : MM → Prop} (hg : 1 ≤ g) (h8 : v 0 8 = 1) (k : K v) : aft N rF K g w v := by
  unfold aft
  split
  · exact emit_w h8 (some_stop hg h8 k)
  · exact some_stop hg h8 k
theorem fl_m (N A o : Nat) (T : Tp) (es : List Int) (rF : MM → (MM → Prop) → Prop) (F : Nat → Rs) (K : MM → Prop) (hN : 200 ≤ N) (hA : A < 5) (hT : TpOk T) (hFo : ∀ p, p ≤ T.2 → rOk T (o + 1) p (F p)) (hF : ∀ (p : Nat) (ys : List Int) (v : MM) (K : MM → Prop), preM A o v T ys p → kM A v ys (F p) K → rF v K) (v0 : MM) (q : Rs) (k : kM A v0 es q K) : ∀ (r : Nat) (w : Bool) (p : Nat) (xs : List Int) (g fl : Nat) (v : MM), fF A v0 v → preM A o v T (es ++ xs) p → (es ++ xs).length + bn w ≤ p + 10 → T.2 < r + p → r ≤ 150 → r < g → r < fl → pEL T F r w p xs = q → wX11_every_b4 N rF (aft N rF K g w) fl v := by
  have ht := hT.1
  intro r
  induction r with
  | zero =>
    intro w p xs g fl v gg hpre
    have := hpre.2.2.2.2.2.2.2
    omega
  | succ r ih =>
    intro w p xs g fl v gg hpre hlw hr hr2 hg hfl eq
    obtain ⟨fl, rfl⟩ : ∃ e, fl = e + 1 := ⟨fl - 1, by omega⟩
    obtain ⟨g, rfl⟩ : ∃ e, g = e + 1 := ⟨g - 1, by omega⟩
    obtain ⟨hc, h5, h6, h8, h9, hM, hl, hp⟩ := id hpre
    rw [pEL] at eq
    have e := fun c hc => oz_eq (c := c) (sg_le hT p) hc
    refine n_f h8 (here_m hc hT h6 (by omega) ?_)
    by_cases hs : sg T p = 38
    · rw [if_pos hs] at eq
      have i1 : p < T.2 := sg_in (by omega)
      have hFq := hFo (p + 1) (by omega)
      refine n_f ((e 38 (by omega)).mpr hs) (fun u7 e7 => ?_)
      rw [h6, i_one] at e7
      have g7 := f0.up e7 (Or.inl rfl)
      refine hF (p + 1) (es ++ xs) u7 _ ⟨hc.f hT (g7.f A), by rw [e7, up_j (by omega)]; exact h5, upx e7, by rw [e7, up_j (by omega)]; exact h8, by rw [e7, up_j (by omega)]; exact h9, hM.f0 g7, by omega, by omega⟩ (fun u9 g9 y6 y8 ym => ?_)
      have g09 := (gg.tr (g7.f A)).tr g9
      cases hb : (F (p + 1)).1
      · rw [hb, if_neg (by decide)] at eq
        rw [hb] at y8
        subst eq
        refine emit_w y8 ?_
        obtain ⟨fl, rfl⟩ : ∃ e, fl = e + 1 := ⟨fl - 1, by omega⟩
        exact n_t (by rw [y8]; decide) (aft_w (by omega) y8 (k u9 g09 y6 y8 (fun z => by cases z)))
      · rw [hb, if_pos rfl] at eq
        rw [hb] at y8
        obtain ⟨m1, m2, m3, m4⟩ := hFq.2 hb
        have mp := hFq.1
        have ym2 := ym hb
        have el : es ++ (xs ++ (F (p + 1)).2.2 ++ [-2]) = es ++ xs ++ (F (p + 1)).2.2 ++ [-2] := by simp [List.append_assoc]
        have ll : (es ++ xs ++ (F (p + 1)).2.2 ++ [-2]).length = (es ++ xs).length + (F (p + 1)).2.2.length + 1 := by rw [List.length_append, List.length_append, List.length_singleton]
        have l1 : (es ++ xs ++ (F (p + 1)).2.2).length = (es ++ xs).length + (F (p + 1)).2.2.length := List.length_append
        refine emit_m (x := -2) y8 (by rw [g9.2.1 5 (by omega) (by omega), e7, up_j (by omega)]; exact h5) hA ym2 (by rw [l1]; omega) rfl (fun u11 g11 r0 m => ?_)
        refine ih w (F (p + 1)).2.1 _ (g + 1) fl u11 (g09.tr g11) ?_ (by rw [el, ll]; omega) (by omega) (by omega) (by omega) (by omega) eq
        rw [el]
        exact ⟨hc.f hT ((g7.f A).tr (g9.tr g11)), by rw [r0, g9.2.1 5 (by omega) (by omega), e7, up_j (by omega)]; exact h5, by rw [r0]; exact y6, by rw [r0]; exact y8, by rw [r0, g9.2.1 9 (by omega) (by omega), e7, up_j (by omega)]; exact h9, m, by rw [ll]; omega, mp⟩
    · rw [if_neg hs] at eq
      refine n_t (fun y => hs ((e 38 (by omega)).mp y)) ?_
      have nxt : ∀ (u1 : MM) (orr : List Int), fF A v0 u1 → preM A o u1 T (es ++ (xs ++ orr)) p → (if w = true then [-3] else []) = orr → wX11_some_b4 N (wX11_every N rF) K (g + 1) u1 := by
        intro u1 orr g1 pre1 eo
        rw [eo] at eq
        obtain ⟨d1, d5, d6, d8, d9, dM, dl, dp⟩ := id pre1
        refine n_f d8 (here_m d1 hT d6 (by omega) ?_)
        by_cases hs2 : sg T p = 124
        · rw [if_pos hs2] at eq
          have i1 : p < T.2 := sg_in (by omega)
          have hFq := hFo (p + 1) (by omega)
          refine n_f ((e 124 (by omega)).mpr hs2) (fun u7 e7 => ?_)
          rw [d6, i_one] at e7
          have g7 := f0.up e7 (Or.inl rfl)
          refine hF (p + 1) (es ++ (xs ++ orr)) u7 _ ⟨d1.f hT (g7.f A), by rw [e7, up_j (by omega)]; exact d5, upx e7, by rw [e7, up_j (by omega)]; exact d8, by rw [e7, up_j (by omega)]; exact d9, dM.f0 g7, by omega, by omega⟩ (fun u9 g9 y6 y8 ym => ?_)
          have g09 := (g1.tr (g7.f A)).tr g9
          show wX11_every_b4 N rF (aft N rF K g true) N u9
          cases hb : (F (p + 1)).1
          · rw [hb, if_neg (by decide)] at eq
            rw [hb] at y8
            subst eq
            obtain ⟨M, rfl⟩ : ∃ e, N = e + 1 := ⟨N - 1, by omega⟩
            exact n_t (by rw [y8]; decide) (aft_w (by omega) y8 (k u9 g09 y6 y8 (fun z => by cases z)))
          · rw [hb, if_pos rfl] at eq
            rw [hb] at y8
            obtain ⟨m1, m2, m3, m4⟩ := hFq.2 hb
            have mp := hFq.1
            have ym2 := ym hb
            have el : es ++ (xs ++ orr ++ (F (p + 1)).2.2) = es ++ (xs ++ orr) ++ (F (p + 1)).2.2 := by simp [List.append_assoc]
            have ll : (es ++ (xs ++ orr) ++ (F (p + 1)).2.2).length = (es ++ (xs ++ orr)).length + (F (p + 1)).2.2.length := List.length_append
            have b1 : bn true = 1 := rfl
            refine ih true (F (p + 1)).2.1 _ g N u9 g09 ?_ (by rw [el, ll]; omega) (by omega) (by omega) (by omega) (by omega) eq
            rw [el]
            exact ⟨d1.f hT ((g7.f A).tr g9), by rw [g9.2.1 5 (by omega) (by omega), e7, up_j (by omega)]; exact d5, y6, y8, by rw [g9.2.1 9 (by omega) (by omega), e7, up_j (by omega)]; exact d9, ym2, by rw [ll]; omega, mp⟩
        · rw [if_neg hs2] at eq
          subst eq
          exact n_t (fun y => hs2 ((e 124 (by omega)).mp y)) (k u1 g1 d6 d8 (fun _ => dM))
      cases w
      · exact nxt v [] gg (by rw [List.append_nil]; exact hpre) rfl
      · have b1 : bn true = 1 := rfl
        show wX11_emits N (-3) v (fun u11 => wX11_some_b4 N (wX11_every N rF) K (g + 1) u11)
        refine emit_m (x := -3) h8 h5 hA hM (by omega) rfl (fun u11 g11 r0 m => ?_)
        have el : es ++ (xs ++ [-3]) = es ++ xs ++ [-3] := by simp [List.append_assoc]
        refine nxt u11 [-3] (gg.tr g11) ?_ rfl
        rw [el]
        exact ⟨hc.f hT g11, by rw [r0]; exact h5, by rw [r0]; exact h6, by rw [r0]; exact h8, by rw [r0]; exact h9, m, by rw [List.length_append, List.length_singleton]; omega, hp⟩
theorem some_m {N A o p : Nat} {T : Tp} {es : List Int} {rF : MM → (MM → Prop) → Prop} {F : Nat → Rs} {v : MM} {K : MM → Prop} (hN : 200 ≤ N) (hA : A < 5) (hT : TpOk T) (hFo : ∀ p, p ≤ T.2 → rOk T (o + 1) p (F p)) (hF : ∀ (p : Nat) (ys : List Int) (v : MM) (K : MM → Prop), preM A o v T ys p → kM A v ys (F p) K → rF v K) (h : preM A o v T es p) (k : kM A v es (pE T F p) K) : wX11_some N (wX11_every N rF) v K := by
  have ht := hT.1
  obtain ⟨hc, h5, h6, h8, h9, hM, hl, hp⟩ := id h
  have hFq := hFo p hp
  refine hF p es v _ h (fun u2 g2 y6 y8 ym => ?_)
  show wX11_every_b4 N rF (aft N rF K N false) N u2
  unfold pE at k
  cases hb : (F p).1
  · rw [hb, if_neg (by decide)] at k
    rw [hb] at y8
    obtain ⟨M, rfl⟩ : ∃ e, N = e + 1 := ⟨N - 1, by omega⟩
    exact n_t (by rw [y8]; decide) (aft_w (by omega) y8 (k u2 g2 y6 y8 (fun z => by cases z)))
  · rw [hb, if_pos rfl] at k
    rw [hb] at y8
    obtain ⟨m1, m2, m3, m4⟩ := hFq.2 hb
    have mp := hFq.1
    have ll : (es ++ (F p).2.2).length = es.length + (F p).2.2.length := List.length_append
    have b0 : bn false = 0 := rfl
    exact fl_m N A o T es rF F K hN hA hT hFo hF v _ k 101 false (F p).2.1 (F p).2.2 N N u2 g2 ⟨hc.f hT g2, by rw [g2.2.1 5 (by omega) (by omega)]; exact h5, y6, y8, by rw [g2.2.1 9 (by omega) (by omega)]; exact h9, ym hb, by rw [ll]; omega, mp⟩ (by rw [ll]; omega) (by omega) (by omega) (by omega) (by omega) rfl
theorem part_m {N A : Nat} {T : Tp} (hN : 200 ≤ N) (hA : A < 5) (hT : TpOk T) : ∀ (d o : Nat), d + o = 8 → o ≤ 5 → ∀ (p : Nat) (es : List Int) (v : MM) (K : MM → Prop), preM A o v T es p → kM A v es (pF T d o p) K → gF N d v K := by
  have ht := hT.1
  intro d
  induction d with
  | zero => intro o h1 h2; omega
  | succ d ih =>
    intro o hdo ho p es v K h k
    obtain ⟨hc, h5, h6, h8, h9, hM, hl, hp⟩ := id h
    have e : ∀ c, c < 128 → (oz (sg T p) = nI c ↔ sg T p = c) := fun c hc => oz_eq (sg_le hT p) hc
    show wX11_factor N (gF N d) (wX11_some N (wX11_every N (gF N d))) v K
    refine b_t h8 (here_m hc hT h6 (by omega) ?_)
    rw [pF] at k
    have fw : ∀ (v : MM) (K : MM → Prop), v 0 8 = 1 → K v → gF N d v K := fun v K a b => gF_w (by omega) a b
    have ew : ∀ (v : MM) (K : MM → Prop), v 0 8 = 1 → K v → wX11_every N (gF N d) v K := fun v K a b => every_w (by omega) fw a b
    have e5 : nI o = nI 5 ↔ o = 5 := nI_eq (by omega) (by omega)
    -- one more open is too many
    have deep : ∀ x1 : Int32, o = 5 → kM A v es (false, p, []) K → wX11_factor_b25 N (gF N d) (wX11_some N (wX11_every N (gF N d))) K x1 v := by
      intro x1 h5o kk
      refine n_f (by rw [h9]; exact e5.mpr h5o) ⟨bz1, fun u21 e21 u22 e22 => ?_⟩
      rw [e21, up_j (by omega), h9, i_one, ← e21] at e22
      have y8 : u22 0 8 = 1 := by rw [e22, up_j (by omega)]; exact upx e21
      have y6 : u22 0 6 = nI p := by rw [e22, up_j (by omega), e21, up_j (by omega)]; exact h6
      have y9 : u22 0 9 = nI (o + 1) := upx e22
      refine b_f (by rw [y8]; decide) (fun u24 e24 => ?_)
      rw [y6, show (0 : Int32) = nI 0 from rfl, nI_add, Nat.add_zero] at e24
      have z8 : u24 0 8 = 1 := by rw [e24, up_j (by omega)]; exact y8
      have z6 : u24 0 6 = nI p := upx e24
      have z9 : u24 0 9 = nI (o + 1) := by rw [e24, up_j (by omega)]; exact y9
      have zr : ∀ a, a ≠ 0 → u24 a = v a := fun a ha => by rw [upu e24 ha, upu e22 ha, upu e21 ha]
      have z0 : ∀ j, j ≠ 6 → j ≠ 8 → j ≠ 9 → u24 0 j = v 0 j := fun j a b d => by rw [e24, up_j a, e22, up_j d, e21, up_j b]
      have fin : ∀ u29 : MM, f0 u24 u29 → u29 0 8 = 1 → u29 0 6 = nI p → wX11_factor_b101 N (gF N d) (wX11_some N (wX11_every N (gF N d))) K u29 := by
        intro u29 g29 a b u34 e34
        rw [g29.2 9 (by omega) (by omega), z9, i_sub1] at e34
        refine kk u34 ⟨fun a h0 h1 => by rw [upu e34 h0, g29.1 a h0]; exact zr a h0, fun j h6' h8' => ?_, fun j _ _ => by rw [upu e34 (by omega), g29.1 1 (by omega), zr 1 (by omega)]⟩ (by rw [e34, up_j (by omega)]; exact b) (by rw [e34, up_j (by omega)]; exact a) (fun z => by cases z)
        by_cases hj9 : j = 9
        · subst hj9; exact (upx e34).trans h9.symm
        · rw [e34, up_j hj9, g29.2 j h6' h8']; exact z0 j h6' h8' hj9
      have T24 : TM u24 T := ⟨by rw [z0 7 (by omega) (by omega) (by omega)]; exact hc.1, fun i hi => by rw [zr 1 (by omega)]; exact hc.2 i hi⟩
      by_cases h33 : x1 = 33
      · exact n_f h33 (fw u24 _ z8 (emit_w z8 (fin u24 (f0.rf u24) z8 z6)))
      · exact n_t h33 (some_w (by omega) ew z8 (must_w (x := 41) T24 hT z6 z8 (by omega) (by omega) fin))
    -- one more open
    have opn : ∀ x1 : Int32, ¬ o = 5 → p < T.2 → (∀ u24 : MM, preM A (o + 1) u24 T es (p + 1) → (∀ v' : MM, fF A u24 v' → ∀ (P : Nat) (b : Bool), v' 0 6 = nI P → v' 0 8 = nI (bn (!b)) → (∀ w : MM, (∀ j, j ≠ 9 → w 0 j = v' 0 j) → (∀ a, a ≠ 0 → w a = v' a) → fF A v w → K w) → wX11_factor_b101 N (gF N d) (wX11_some N (wX11_every N (gF N d))) K v') → ((¬ x1 = 33 → (wX11_some N (wX11_every N (gF N d)) u24 (fun u27 => (wX11_must N 41 u27 (fun u29 => (wX11_factor_b101 N (gF N d) (wX11_some N (wX11_every N (gF N d))) K u29)))))) ∧ (x1 = 33 → (gF N d u24 (fun u31 => (wX11_emits N (-1) u31 (fun u33 => (wX11_factor_b101 N (gF N d) (wX11_some N (wX11_every N (gF N d))) K u33)))))))) → wX11_factor_b25 N (gF N d) (wX11_some N (wX11_every N (gF N d))) K x1 v := by
      intro x1 h5o i1 kk
      refine n_t (by rw [h9]; exact fun y => h5o (e5.mp y)) ⟨bz0, fun u21 e21 u22 e22 => ?_⟩
      rw [e21, up_j (by omega), h9, i_one, ← e21] at e22
      have y8 : u22 0 8 = 0 := by rw [e22, up_j (by omega)]; exact upx e21
      have y6 : u22 0 6 = nI p := by rw [e22, up_j (by omega), e21, up_j (by omega)]; exact h6
      have y9 : u22 0 9 = nI (o + 1) := upx e22
      refine b_t y8 (fun u24 e24 => ?_)
      rw [y6, i_one] at e24
      have zr : ∀ a, a ≠ 0 → u24 a = v a := fun a ha => by rw [upu e24 ha, upu e22 ha, upu e21 ha]
      have z0 : ∀ j, j ≠ 6 → j ≠ 8 → j ≠ 9 → u24 0 j = v 0 j := fun j a b d => by rw [e24, up_j a, e22, up_j d, e21, up_j b]
      have z9 : u24 0 9 = nI (o + 1) := by rw [e24, up_j (by omega)]; exact y9
      refine kk u24 ⟨⟨by rw [z0 7 (by omega) (by omega) (by omega)]; exact hc.1, fun i hi => by rw [zr 1 (by omega)]; exact hc.2 i hi⟩, by rw [z0 5 (by omega) (by omega) (by omega)]; exact h5, upx e24, by rw [e24, up_j (by omega)]; exact y8, z9, by unfold MR at hM ⊢; rw [zr 1 (by omega)]; exact hM, by omega, by omega⟩ (fun v' g P b a6 a8 kw u34 e34 => ?_)
      rw [g.2.1 9 (by omega) (by omega), z9, i_sub1] at e34
      refine kw u34 (fun j hj => by rw [e34, up_j hj]) (fun a ha => upu e34 ha) ⟨fun a h0 h1 => by rw [upu e34 h0, g.1 a h0 h1]; exact zr a h0, fun j h6' h8' => ?_, fun j h1 h2 => by rw [upu e34 (by omega), g.2.2 j h1 h2, zr 1 (by omega)]⟩
      by_cases hj9 : j = 9
      · subst hj9; exact (upx e34).trans h9.symm
      · rw [e34, up_j hj9, g.2.1 j h6' h8']; exact z0 j h6' h8' hj9
    by_cases h33 : sg T p = 33
    · rw [if_pos h33] at k
      have e33 := (e 33 (by omega)).mpr h33
      refine b_t e33 ?_
      by_cases h5o : o = 5
      · rw [if_pos (by omega)] at k
        exact deep _ h5o k
      rw [if_neg (by omega)] at k
      have i1 : p < T.2 := sg_in (by omega)
      have hFq := pF_ok (T := T) d (o + 1) (by omega) (p + 1) (by omega)
      refine opn _ h5o i1 (fun u24 pre back => n_f e33 (ih (o + 1) (by omega) (by omega) (p + 1) es u24 _ pre (fun u31 g31 y6 y8 ym => ?_)))
      cases hb : (pF T d (o + 1) (p + 1)).1
      · rw [hb, if_neg (by decide)] at k
        rw [hb] at y8
        refine emit_w y8 (back u31 g31 _ false y6 y8 (fun w w0 w1 gw => k w gw (by rw [w0 6 (by omega)]; exact y6) (by rw [w0 8 (by omega)]; exact y8) (fun z => by cases z)))
      · rw [hb, if_pos rfl] at k
        rw [hb] at y8
        obtain ⟨m1, m2, m3, m4⟩ := hFq.2 hb
        have mp := hFq.1
        have l1 : (es ++ (pF T d (o + 1) (p + 1)).2.2).length = es.length + (pF T d (o + 1) (p + 1)).2.2.length := List.length_append
        refine emit_m (x := -1) y8 (by rw [g31.2.1 5 (by omega) (by omega)]; exact pre.2.1) hA (ym hb) (by rw [l1]; omega) rfl (fun u33 g33 r0 m => ?_)
        refine back u33 (g31.tr g33) _ true (by rw [r0]; exact y6) (by rw [r0]; exact y8) (fun w w0 w1 gw => k w gw (by rw [w0 6 (by omega), r0]; exact y6) (by rw [w0 8 (by omega), r0]; exact y8) (fun _ => ?_))
        show MR A w (es ++ ((pF T d (o + 1) (p + 1)).2.2 ++ [-1]))
        rw [← List.append_assoc]
        unfold MR at m ⊢
        rw [w1 1 (by omega)]
        exact m
    rw [if_neg h33] at k
    refine b_f (fun y => h33 ((e 33 (by omega)).mp y)) ?_
    by_cases h40 : sg T p = 40
    · rw [if_pos h40] at k
      have e40 := (e 40 (by omega)).mpr h40
      refine n_f e40 ?_
      by_cases h5o : o = 5
      · rw [if_pos (by omega)] at k
        exact deep _ h5o k
      rw [if_neg (by omega)] at k
      have i1 : p < T.2 := sg_in (by omega)
      have hEq := pE_ok (o := o + 1) (pF_ok (T := T) d (o + 1) (by omega)) (show p + 1 ≤ T.2 by omega)
      refine opn _ h5o i1 (fun u24 pre back => n_t (fun y => h33 ((e 33 (by omega)).mp y)) (some_m hN hA hT (pF_ok (T := T) d (o + 1) (by omega)) (fun p ys v K => ih (o + 1) (by omega) (by omega) p ys v K) pre (fun u27 g27 y6 y8 ym => ?_)))
      have mp := hEq.1
      refine must_m (x := 41) (pE T (pF T d (o + 1)) (p + 1)).1 (pre.1.f hT g27) hT y6 y8 (by omega) (by omega) (fun u29 g29 a8 a6 => ?_)
      refine back u29 (g27.tr (g29.f A)) _ _ a6 a8 (fun w w0 w1 gw => ?_)
      have b8 : w 0 8 = _ := (w0 8 (by omega)).trans a8
      have b6 : w 0 6 = _ := (w0 6 (by omega)).trans a6
      cases hb : (pE T (pF T d (o + 1)) (p + 1)).1
      · rw [hb, if_neg (by decide)] at k
        rw [hb] at b8 b6
        exact k w gw b6 b8 (fun z => by cases z)
      · rw [hb, if_pos rfl] at k
        rw [hb, Bool.true_and] at b8 b6
        by_cases hs : sg T (pE T (pF T d (o + 1)) (p + 1)).2.1 = 41
        · rw [if_pos hs] at k
          rw [decide_eq_true hs] at b8 b6
          rw [if_pos rfl] at b6
          refine k w gw b6 b8 (fun _ => ?_)
          have m := (ym hb).f0 g29
          unfold MR at m ⊢
          rw [w1 1 (by omega)]
          exact m
        · rw [if_neg hs] at k
          rw [decide_eq_false hs] at b8 b6
          rw [if_neg (by decide)] at b6
          exact k w gw b6 b8 (fun z => by cases z)
    · rw [if_neg h40] at k
      exact n_t (fun y => h40 ((e 40 (by omega)).mp y)) (test_m (by omega) hA hT h k)
