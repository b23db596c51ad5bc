/-! what the clauses come to for one who would tell -/
def hld (f : Nat → Nat) (c : Cl) : Bool := hol f c.2.2
def wgh (kd : Nat) (f : Nat → Nat) : List Cl → Nat
  | [] => 0
  | c :: r => (if c.1 = kd ∧ hld f c = true then c.2.1 else 0) + wgh kd f r
def shn (f : Nat → Nat) : List Cl → Bool
  | [] => false
  | c :: r => (decide (c.1 = 0) && hld f c) || shn f r
theorem wgh_le (kd : Nat) (f : Nat → Nat) : ∀ P : List Cl, (∀ c ∈ P, c.2.1 < 100) → wgh kd f P ≤ 99 * P.length
  | [], _ => Nat.zero_le _
  | c :: r, h => by
    have h1 := wgh_le kd f r (fun d hd => h d (List.mem_cons_of_mem _ hd))
    have h2 := h c List.mem_cons_self
    rw [wgh, List.length_cons]
    split <;> omega
theorem shn_iff (f : Nat → Nat) : ∀ P : List Cl, WF P → (shn f P = false ↔ wgh 0 f P = 0)
  | [], _ => by simp [shn, wgh]
  | c :: r, h => by
    have ih := shn_iff f r (fun d hd => h d (List.mem_cons_of_mem _ hd))
    have hc := (h c List.mem_cons_self).1
    rw [shn, wgh, Bool.or_eq_false_iff, ih]
    by_cases h0 : c.1 = 0
    · have h1 : c.2.1 = 1 := by omega
      cases hh : hld f c
      · simp [h0]
      · simp [h0, h1]
    · simp [h0]
theorem holds_c {N : Nat} {u : MM} {f : Nat → Nat} {P : List Cl} {K : Int32 → MM → Prop} {j : Nat} {c : Cl} (hN : 101 ≤ N) (hP : CP u 10 P) (hW : WF P) (hj : P[j]? = some c) (hf : ∀ w, w < 5 → u 3 w = nI (f w) ∧ f w < 10) (k : K (nI (bn (hld f c))) u) : wX8_holds N (nI j) u K := by
  obtain ⟨a1, a2, st, a3⟩ := hP
  have hj10 : j < P.length := (List.getElem?_eq_some_iff.mp hj).1
  obtain ⟨q1, q2, q3, q4, q5, q6⟩ := a3 j c hj
  obtain ⟨w1, w2, w3, w4⟩ := hW c (List.mem_of_getElem? hj)
  refine ⟨vp_in_nI (by omega) (by omega), fun y1 e1 => ?_⟩
  rw [nI_clamp (by omega), show u 16 j = nI (st j) from q3] at e1
  subst e1
  exact hol_lp N u f K j (st j + c.2.2.length) (by omega) q4 q5 hf c.2.2 (st j) [] N rfl (by omega) q6 w3 w4 (by simp) k
theorem weigh_lp (N : Nat) (u : MM) (f : Nat → Nat) (P : List Cl) (kd : Nat) (K : Int32 → MM → Prop) (hN : 101 ≤ N) (hk : kd < 2) (hP : CP u 10 P) (hW : WF P) (hf : ∀ w, w < 5 → u 3 w = nI (f w) ∧ f w < 10) : ∀ (Q : List Cl) (j a fl : Nat), (∀ (m : Nat) (c : Cl), Q[m]? = some c → P[j + m]? = some c) → j + Q.length = P.length → Q.length < fl → K (nI (a + wgh kd f Q)) u → wX8_weigh_b5 N K fl (nI kd) (nI a) (nI j) u := by
  intro Q
  induction Q with
  | nil =>
    intro j a fl hQ hj hfl hK
    obtain ⟨g, rfl⟩ : ∃ g, fl = g + 1 := ⟨fl - 1, by rw [List.length_nil] at hfl; omega⟩
    have e : j = P.length := by simpa using hj
    refine b_t ?_ hK
    have := hP.2.1
    rw [show u 13 2 = nI P.length from hP.1]; exact nI_le (by omega) (by omega)
  | cons c Q ih =>
    intro j a fl hQ hj hfl hK
    rw [List.length_cons] at hj hfl
    obtain ⟨g, rfl⟩ : ∃ g, fl = g + 1 := ⟨fl - 1, by omega⟩
    have hl := hP.2.1
    have hc : P[j]? = some c := hQ 0 c rfl
    obtain ⟨a1, a2, st, a3⟩ := id hP
    obtain ⟨q1, q2, -⟩ := a3 j c hc
    have wc := hW c (List.mem_of_getElem? hc)
    have ckd : c.1 < 2 := by omega
    have ek : nI c.1 = nI kd ↔ c.1 = kd := nI_eq (by omega) (by omega)
    have nxt : ∀ b : Nat, a + (if c.1 = kd ∧ hld f c = true then c.2.1 else 0) = b → wX8_weigh_b45 N K (wX8_weigh_b5 N K g) (nI kd) (nI b) (nI j) u := by
      intro b eb y7 e7
      rw [i_one] at e7
      subst e7
      refine ih (j + 1) b g (fun m d hm => ?_) (by omega) (by omega) ?_
      · have := hQ (m + 1) d (by simpa using hm)
        rw [show j + 1 + m = j + (m + 1) from by omega]; exact this
      · rw [wgh, ← Nat.add_assoc, eb] at hK; exact hK
    refine b_f (by rw [show u 13 2 = nI P.length from a1]; exact nI_ge (by omega) (by omega)) ⟨vp_in_nI (by omega) (by omega), ?_⟩
    rw [nI_clamp (by omega), show u 14 j = nI c.1 from q1]
    by_cases h1 : c.1 = kd
    · refine n_f (ek.mpr h1) (holds_c hN hP hW hc hf ?_)
      cases hh : hld f c
      · exact b_t rfl (nxt a (by rw [if_neg (by rw [hh]; simp)]; omega))
      · refine b_f (by decide) ⟨vp_in_nI (by omega) (by omega), fun y6 e6 => ?_⟩
        rw [show u 15 j = nI c.2.1 from q2, nI_add] at e6
        subst e6
        exact nxt _ (by rw [if_pos ⟨h1, hh⟩])
    · exact n_t (fun z => h1 (ek.mp z)) (nxt a (by rw [if_neg (fun z => h1 z.1)]; omega))
theorem weigh_c {N : Nat} {u : MM} {f : Nat → Nat} {P : List Cl} {kd : Nat} {K : Int32 → MM → Prop} (hN : 101 ≤ N) (hk : kd < 2) (hP : CP u 10 P) (hW : WF P) (hf : ∀ w, w < 5 → u 3 w = nI (f w) ∧ f w < 10) (k : K (nI (wgh kd f P)) u) : wX8_weigh N (nI kd) u K := by
  have := hP.2.1
  exact weigh_lp N u f P kd K hN hk hP hW hf P 0 0 N (fun m c h => by rw [Nat.zero_add]; exact h) (by omega) (by omega) (by rw [Nat.zero_add]; exact k)
/-! the same in the reference -/
def stV (v : MM) : List Bool → Prop
  | [] => True
  | b :: r => v 5 r.length = nI (bn b) ∧ stV v r
theorem stV.up {v v' : MM} {j : Nat} {x : Int32} (e : v' = up v 5 j x) : ∀ st : List Bool, st.length ≤ j → stV v st → stV v' st
  | [], _, _ => trivial
  | b :: r, hj, h => by
    rw [List.length_cons] at hj
    exact ⟨by rw [e, up_j (by omega)]; exact h.1, stV.up e r (by omega) h.2⟩
theorem stV.same {v v' : MM} (e : v' 5 = v 5) : ∀ st : List Bool, stV v st → stV v' st
  | [], _ => trivial
  | b :: r, h => ⟨by rw [e]; exact h.1, stV.same e r h.2⟩
theorem of_pos {x : Int} (h : ¬ x < 0) : Int32.ofInt x = nI x.toNat := by
  obtain ⟨n, rfl⟩ : ∃ n : Nat, x = n := ⟨x.toNat, by omega⟩
  rfl
theorem nar0 : vp_nar .boolean 0 = 0 := by decide
theorem nar1 : vp_nar .boolean 1 = 1 := by decide
theorem amts : ∀ a : Nat, a < 100 → Int32.ofInt (-200 - (a : Int)) < 0 ∧ Int32.ofInt (-200 - (a : Int)) ≠ -1 ∧ Int32.ofInt (-200 - (a : Int)) ≤ -10 ∧ Int32.ofInt (-200 - (a : Int)) ≠ -10 ∧ ¬ (-200 : Int32) < Int32.ofInt (-200 - (a : Int)) ∧ (-200 : Int32) - Int32.ofInt (-200 - (a : Int)) = nI a := by decide +kernel
def fR (v v' : MM) : Prop := (∀ a, a ≠ 0 → a ≠ 5 → v' a = v a) ∧ ∀ j, j ≠ 12 → j ≠ 13 → v' 0 j = v 0 j
theorem fR.rf (v : MM) : fR v v := ⟨fun _ _ _ => rfl, fun _ _ _ => rfl⟩
theorem fR.tr {a b c : MM} (h : fR a b) (h2 : fR b c) : fR a c := ⟨fun k x y => (h2.1 k x y).trans (h.1 k x y), fun j x y => (h2.2 j x y).trans (h.2 j x y)⟩
theorem lk_st (N : Nat) (f : Nat → Nat) (K : MM → Prop) (B L : Nat) (hBL : B + L ≤ 944) : ∀ (xs : List Int) (i : Nat) (st : List Bool) (fl : Nat) (v : MM), (∀ (j : Nat) (x : Int), xs[j]? = some x → v 1 (i + j) = Int32.ofInt x) → (∀ x ∈ xs, stOk x) → i + xs.length < B + L → xs.length < fl → (∀ w, w < 5 → v 4 w = nI (f w) ∧ f w < 10) → dep xs st.length = some 1 → st.length ≤ 20 → stV v st → (∀ (v' : MM) (g : Nat), g + xs.length = fl → v' 5 0 = nI (bn ((ev f xs st).headD false)) → (∀ a, a ≠ 5 → v' a = v a) → wX11_looks_b114 N K g (nI L) (nI B) (nI 1) (nI (i + xs.length)) v') → wX11_looks_b114 N K fl (nI L) (nI B) (nI st.length) (nI i) v := by
  intro xs
  induction xs with
  | nil =>
    intro i st fl v hv hO hi hfl hf hd hl hs k
    have h1 : st.length = 1 := by simpa [dep] using hd
    obtain ⟨b, rfl⟩ : ∃ b, st = [b] := List.length_eq_one_iff.mp h1
    exact k v fl (by simp) hs.1 (fun a _ => rfl)
  | cons x xs ih =>
    intro i st fl v hv hO hi hfl hf hd hl hs k
    rw [List.length_cons] at hi hfl
    obtain ⟨g, rfl⟩ : ∃ g, fl = g + 1 := ⟨fl - 1, by omega⟩
    have hx : stOk x := hO x List.mem_cons_self
    have hvx : v 1 i = Int32.ofInt x := hv 0 x rfl
    have nxt : ∀ (st2 : List Bool) (v2 : MM) (dd : Int32), stp f x st = st2 → dep xs st2.length = some 1 → st2.length ≤ 20 → stV v2 st2 → (∀ a, a ≠ 5 → v2 a = v a) → dd = nI st2.length → ∀ y39 : Int32, y39 = nI i + 1 → wX11_looks_b114 N K g (nI L) (nI B) dd y39 v2 := by
      intro st2 v2 dd e2 d2 l2 s2 fr2 ed y e
      rw [i_one] at e
      subst e ed
      refine ih (i + 1) st2 g v2 (fun j y hj => ?_) (fun y hy => hO y (List.mem_cons_of_mem _ hy)) (by omega) (by omega) (fun w hw => by rw [fr2 4 (by omega)]; exact hf w hw) d2 l2 s2 (fun v' g' hg h5 hfr => ?_)
      · have := hv (j + 1) y (by simpa using hj)
        rw [fr2 1 (by omega), show i + 1 + j = i + (j + 1) from by omega]; exact this
      · have := k v' g' (by rw [List.length_cons]; omega) (by rw [ev, e2]; exact h5) (fun a ha => (hfr a ha).trans (fr2 a ha))
        rw [List.length_cons] at this
        rw [show i + 1 + xs.length = i + (xs.length + 1) from by omega]; exact this
    refine b_f (by rw [nI_add]; exact nI_ge (by omega) (by omega)) ⟨vp_in_nI (by omega) (by omega), ?_⟩
    rw [nI_clamp (by omega), hvx]
    intro y15 e15
    rcases dep_cons f hx hd hl with ⟨c1, b, r, rfl, d2, l2⟩ | ⟨c1, c2, a, b, r, rfl, d2, l2⟩ | ⟨c1, c2, d2, l2⟩
    · have ey : y15 = -1 := e15.trans (by rw [c1]; rfl)
      have es : stp f x (b :: r) = (!b) :: r := by unfold stp; rw [if_pos c1]
      rw [es] at d2 l2
      rw [List.length_cons] at hl
      refine b_t (by rw [ey]; decide) (n_f ey ?_)
      rw [List.length_cons, i_sub1]
      refine ⟨vp_in_nI (by omega) (by omega), ?_⟩
      rw [nI_clamp (by omega), hs.1]
      have fin : ∀ s0 : Int32, vp_nar .boolean s0 = nI (bn (!b)) → wX11_looks_b262 N K (wX11_looks_b114 N K g) (nI L) (nI B) (nI (r.length + 1)) (nI i) s0 (nI r.length) v := by
        intro s0 e0
        refine ⟨vp_in_nI (by omega) (by omega), fun v2 f2 => ?_⟩
        rw [nI_clamp (by omega), e0] at f2
        exact nxt ((!b) :: r) v2 _ es d2 l2 ⟨upx f2, hs.2.up f2 r (Nat.le_refl _)⟩ (fun a ha => upu f2 ha) rfl
      cases b
      · exact n_f rfl (fin 1 nar1)
      · exact n_t (by decide) (fin 0 nar0)
    · have hx2 : x = -2 ∨ x = -3 := by
        rcases hx with h | h | h | ⟨w, hh, vv, -, -, -, h⟩
        · exact absurd h c2
        · exact Or.inl h
        · exact Or.inr h
        · omega
      have es : stp f x (a :: b :: r) = (if x = -2 then b && a else b || a) :: r := by unfold stp; rw [if_neg c2, if_pos c1]
      rw [es] at d2 l2
      rw [List.length_cons, List.length_cons] at hl ⊢
      obtain ⟨s1, s2, s3⟩ := hs
      rw [List.length_cons] at s1
      have fin : ∀ s0 : Int32, vp_nar .boolean s0 = nI (bn (if x = -2 then b && a else b || a)) → wX11_looks_b348 N K (wX11_looks_b114 N K g) (nI L) (nI B) (nI (r.length + 1)) (nI i) s0 (nI r.length) v := by
        intro s0 e0
        refine ⟨vp_in_nI (by omega) (by omega), fun v2 f2 => ?_⟩
        rw [nI_clamp (by omega), e0] at f2
        exact nxt ((if x = -2 then b && a else b || a) :: r) v2 _ es d2 l2 ⟨upx f2, s3.up f2 r (Nat.le_refl _)⟩ (fun a ha => upu f2 ha) rfl
      rcases hx2 with rfl | rfl
      · have ey : y15 = -2 := e15
        rw [if_pos rfl] at fin
        refine b_t (by rw [ey]; decide) (n_t (by rw [ey]; decide) (b_f (by rw [ey]; decide) (fun y22 e22 => n_f ey ?_)))
        rw [pk_m1] at e22
        subst e22
        rw [i_sub1]
        refine ⟨vp_in_nI (by omega) (by omega), ?_⟩
        rw [nI_clamp (by omega), s2]
        cases b
        · exact b_t rfl (fin 0 nar0)
        · refine b_f (by decide) ⟨vp_in_nI (by omega) (by omega), ?_⟩
          rw [nI_clamp (by omega), s1]
          cases a
          · exact b_t rfl (fin 0 nar0)
          · exact b_f (by decide) (fin 1 nar1)
      · have ey : y15 = -3 := e15
        rw [if_neg (by decide)] at fin
        refine b_t (by rw [ey]; decide) (n_t (by rw [ey]; decide) (b_f (by rw [ey]; decide) (fun y22 e22 => n_t (by rw [ey]; decide) ?_)))
        rw [pk_m1] at e22
        subst e22
        rw [i_sub1]
        refine ⟨vp_in_nI (by omega) (by omega), ?_⟩
        rw [nI_clamp (by omega), s2]
        cases b
        · refine n_f rfl ⟨vp_in_nI (by omega) (by omega), ?_⟩
          rw [nI_clamp (by omega), s1]
          cases a
          · exact b_t rfl (fin 0 nar0)
          · exact b_f (by decide) (fin 1 nar1)
        · exact n_t (by decide) (fin 1 nar1)
    · obtain ⟨w, hh, vv, hw, hh3, hv3, hxe⟩ : ∃ w h v : Nat, w < 5 ∧ h < 3 ∧ v < 100 ∧ x = w + 8 * h + 32 * v := by
        rcases hx with h | h | h | h
        · omega
        · omega
        · omega
        · exact h
      have t0 : x.toNat = w + 8 * hh + 32 * vv := by omega
      have tw : x.toNat % 8 = w := by omega
      have th : x.toNat / 8 % 4 = hh := by omega
      have tv : x.toNat / 32 = vv := by omega
      have ey : y15 = nI x.toNat := e15.trans (of_pos c1)
      obtain ⟨fw, fl⟩ := hf w hw
      have es : stp f x st = tst f x :: st := by unfold stp; rw [if_neg (by omega), if_neg c1]
      rw [es] at d2 l2
      have et : tst f x = if hh = 0 then decide (f w < vv) else if hh = 1 then decide (f w = vv) else decide (vv < f w) := by unfold tst; rw [tw, th, tv]
      have fin : ∀ (b : Bool) (s0 : Int32), vp_nar .boolean s0 = nI (bn b) → tst f x = b → wX11_looks_b224 N K (wX11_looks_b114 N K g) (nI L) (nI B) (nI st.length) (nI i) s0 (nI st.length) v := by
        intro b s0 e0 eb
        refine ⟨vp_in_nI (by omega) (by omega), fun v2 f2 y38 e38 => ?_⟩
        rw [nI_clamp (by omega), e0] at f2
        rw [eb] at es d2 l2
        exact nxt (b :: st) v2 _ es d2 l2 ⟨upx f2, hs.up f2 st (Nat.le_refl _)⟩ (fun a ha => upu f2 ha) (by rw [e38, i_one, List.length_cons])
      have no := fin false 0 nar0
      have yes := fin true 1 nar1
      rw [et] at no yes
      subst ey
      have r8 : nI x.toNat - nI x.toNat / 8 * 8 = nI w := by rw [show (8 : Int32) = nI 8 from rfl, pk_rem (by omega) (by omega) (by omega), tw]
      have q8 : nI x.toNat / 8 = nI (x.toNat / 8) := by rw [show (8 : Int32) = nI 8 from rfl, pk_div (by omega) (by omega) (by omega)]
      have r4 : nI (x.toNat / 8) - nI (x.toNat / 8) / 4 * 4 = nI hh := by rw [show (4 : Int32) = nI 4 from rfl, pk_rem (by omega) (by omega) (by omega), th]
      have q32 : nI x.toNat / 32 = nI vv := by rw [show (32 : Int32) = nI 32 from rfl, pk_div (by omega) (by omega) (by omega), tv]
      refine b_f (nI_pos (by omega)) ?_
      rw [r8, q8, r4, q32, nI_clamp (by omega), fw]
      refine ⟨vp_in_nI hw (by omega), ?_⟩
      intro y29 e29 y30 e30 y31 e31
      subst e29 e30 e31
      have h3 : hh = 0 ∨ hh = 1 ∨ hh = 2 := by omega
      rcases h3 with rfl | rfl | rfl
      · rw [if_pos rfl] at no yes
        refine n_f rfl ?_
        by_cases hc : f w < vv
        · exact b_f (nI_ge hc (by omega)) (yes (decide_eq_true hc))
        · exact b_t (nI_le (by omega) (by omega)) (no (decide_eq_false hc))
      · rw [if_neg (by decide), if_pos rfl] at no yes
        refine n_t (by decide) (n_f rfl ?_)
        have e : nI (f w) = nI vv ↔ f w = vv := nI_eq (by omega) (by omega)
        by_cases hc : f w = vv
        · exact n_f (e.mpr hc) (yes (decide_eq_true hc))
        · exact n_t (fun z => hc (e.mp z)) (no (decide_eq_false hc))
      · rw [if_neg (by decide), if_neg (by decide)] at no yes
        refine n_t (by decide) (n_t (by decide) ?_)
        by_cases hc : vv < f w
        · exact b_f (nI_ge hc (by omega)) (yes (decide_eq_true hc))
        · exact b_t (nI_le (by omega) (by omega)) (no (decide_eq_false hc))
