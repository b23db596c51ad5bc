/-! BEGAN -/
def okR (sd sb : Nat → Int32) (d h : Nat) : Nat → Nat → Bool
  | 0, _ => true
  | r + 1, i => (decide (¬ sd i = nI d) || decide (sb i = nI h)) && okR sd sb d h r (i + 1)
def asS (c : Cx) (sd sb : Nat → Int32) (m : Nat) : Nat → Nat → Wd → Bool
  | 0, _, _ => true
  | r + 1, d, w => okR sd sb d (wH w) m 0 && asS c sd sb m r (d + 1) (dayW c w 7 0 7)
theorem inn_c (N m d h : Nat) (sd sb : Nat → Int32) (u : MM) (K : Int32 → MM → Prop) (ro : Int32 → MM → Prop) (hm : m ≤ 6) (u30 : u 30 0 = nI m) (hr : ∀ k, k < m → u 31 k = sb k ∧ u 32 k = sd k) (hh : u 7 2 = nI h) : ∀ (r i fl : Nat), r + i = m → r < fl → (okR sd sb d h r i = true → wX7_goDay N 7 (-1) 0 (-1) u (fun r5 u6 => (∀ y7 : Int32, y7 = nI d + 1 → (ro y7 u6)))) → (okR sd sb d h r i = false → K 0 u) → wX1_isAsSeen_b46 N K ro fl (nI d) (nI i) u := by
  intro r
  induction r with
  | zero =>
    intro i fl hi hf k1 k0
    obtain ⟨g, rfl⟩ : ∃ g, fl = g + 1 := ⟨fl - 1, by omega⟩
    exact b_t (by rw [u30]; exact nI_le (by omega) (by omega)) (k1 rfl)
  | succ r ih =>
    intro i fl hi hf k1 k0
    obtain ⟨g, rfl⟩ : ∃ g, fl = g + 1 := ⟨fl - 1, by omega⟩
    obtain ⟨r1, r2⟩ := hr i (by omega)
    refine b_f (by rw [u30]; exact nI_ge (by omega) (by omega)) ⟨vp_in_nI (by omega) (by omega), ?_⟩
    rw [nI_clamp (by omega), r1, r2, hh]
    rw [okR] at k1 k0
    have nxt : (decide (¬ sd i = nI d) || decide (sb i = nI h)) = true → wX1_isAsSeen_b86 N K ro (wX1_isAsSeen_b46 N K ro g) (nI d) (nI i) u := by
      intro e y10 e10
      rw [i_one] at e10
      subst e10
      rw [e, Bool.true_and] at k1 k0
      exact ih (i + 1) g (by omega) (by omega) k1 k0
    by_cases c1 : sd i = nI d
    · refine n_f c1 ⟨vp_in_nI (by omega) (by omega), ?_⟩
      by_cases c2 : sb i = nI h
      · exact b_t c2 (nxt (by rw [decide_eq_true c2, Bool.or_true]))
      · refine b_f c2 (k0 ?_)
        rw [decide_eq_false (fun z => z c1), decide_eq_false c2]
        rfl
    · exact n_t c1 (nxt (by rw [decide_eq_true c1, Bool.true_or]))
theorem seen_clp (N m : Nat) (c : Cx) (sd sb : Nat → Int32) (u0 : MM) (K : Int32 → MM → Prop) (hN : 200 ≤ N) (hc : CxOk c) (hu : CxU u0 c) (hm : m ≤ 6) (u30 : u0 30 0 = nI m) (hr : ∀ k, k < m → u0 31 k = sb k ∧ u0 32 k = sd k) (T : Bool) (k : ∀ u' : MM, (∀ a, a ≠ 3 → a ≠ 7 → a ≠ 8 → a ≠ 9 → u' a = u0 a) → K (nI (bn T)) u') : ∀ (r d fl : Nat) (w : Wd) (u : MM), r + d = 7 → r < fl → (∀ a, a ≠ 3 → a ≠ 7 → a ≠ 8 → a ≠ 9 → u a = u0 a) → WdOk c w → WdU u 7 w → wD w + r < 2000 → asS c sd sb m r d w = T → wX1_isAsSeen_b36 N K fl (nI d) u := by
  intro r
  induction r with
  | zero =>
    intro d fl w u hd hf hR hw wu hD eT
    obtain ⟨g, rfl⟩ : ∃ g, fl = g + 1 := ⟨fl - 1, by omega⟩
    rw [asS] at eT
    subst eT
    exact b_t (show nI 6 < nI d from nl_lt (by omega) (by omega)) (k u hR)
  | succ r ih =>
    intro d fl w u hd hf hR hw wu hD eT
    obtain ⟨g, rfl⟩ : ∃ g, fl = g + 1 := ⟨fl - 1, by omega⟩
    rw [asS] at eT
    refine b_f (show ¬ nI 6 < nI d from nI_nlt (by omega) (by omega)) ?_
    refine inn_c N m d (wH w) sd sb u K _ hm (by rw [hR 30 (by omega) (by omega) (by omega) (by omega)]; exact u30) (fun j hj => by rw [hR 31 (by omega) (by omega) (by omega) (by omega), hR 32 (by omega) (by omega) (by omega) (by omega)]; exact hr j hj) wu.2.2.1 m 0 N (by omega) (by omega) (fun e => ?_) (fun e => ?_)
    · rw [e, Bool.true_and] at eT
      refine goDay_c (x := 7) (st := 0) (z := 7) hN hc (hu.same (fun a h1 h2 => hR a (by omega) (by omega) (by omega) (by omega))) hw wu (Or.inl rfl) (chO.none c w).ok (Nat.le_refl _) (fun u3 hR3 wu3 y7 e7 => ?_)
      rw [i_one] at e7
      subst e7
      exact ih (d + 1) g _ u3 (by omega) (by omega) (fun a p3 p7 p8 p9 => by rw [hR3 a p3 p7 p8 p9]; exact hR a p3 p7 p8 p9) (dayW_ok hc hw (chO.none c w).ok (Nat.le_refl _) (by omega)) wu3 (by show wD w + 1 + r < 2000; omega) eT
    · rw [e, Bool.false_and] at eT
      subst eT
      exact k u hR
theorem inn_m (N m d h : Nat) (sd sb : Nat → Int32) (v : MM) (K : Int32 → MM → Prop) (ro : Int32 → Int32 → MM → Prop) (hm : m ≤ 6) (v20 : v 1 20 = nI m) (hr : ∀ k, k < m → v 1 (101 + k) = sb k ∧ v 1 (107 + k) = sd k) (hh : v 1 2 = nI h) (T : Bool) (k : wX11_goes N v (fun r3 u4 => (∀ y5 : Int32, y5 = nI d + 1 → (ro (nI (bn T)) y5 u4)))) : ∀ (r i fl : Nat) (b : Bool), r + i = m → r < fl → (b && okR sd sb d h r i) = T → wX11_isAsSeen_b12 N K ro fl (nI (bn b)) (nI d) (nI i) v := by
  intro r
  induction r with
  | zero =>
    intro i fl b hi hf eT
    obtain ⟨g, rfl⟩ : ∃ g, fl = g + 1 := ⟨fl - 1, by omega⟩
    rw [okR, Bool.and_true] at eT
    subst eT
    exact b_t (by rw [v20]; exact nI_le (by omega) (by omega)) k
  | succ r ih =>
    intro i fl b hi hf eT
    obtain ⟨g, rfl⟩ : ∃ g, fl = g + 1 := ⟨fl - 1, by omega⟩
    obtain ⟨r1, r2⟩ := hr i (by omega)
    refine b_f (by rw [v20]; exact nI_ge (by omega) (by omega)) ?_
    rw [i101, i107, nI_clamp (by omega), nI_clamp (by omega), r1, r2, hh]
    rw [okR] at eT
    have nxt : ∀ b2 : Bool, (b && (decide (¬ sd i = nI d) || decide (sb i = nI h))) = b2 → wX11_isAsSeen_b63 N K ro (wX11_isAsSeen_b12 N K ro g) (nI d) (nI i) (nI (bn b2)) v := by
      intro b2 e y9 e9
      rw [i_one] at e9
      subst e9
      rw [← Bool.and_assoc, e] at eT
      exact ih (i + 1) g b2 (by omega) (by omega) eT
    cases b
    · exact b_t rfl (nxt false rfl)
    · refine b_f (by decide) ⟨vp_in_nI (by omega) (by omega), ?_⟩
      by_cases c1 : sd i = nI d
      · refine n_f c1 ⟨vp_in_nI (by omega) (by omega), ?_⟩
        by_cases c2 : sb i = nI h
        · exact n_f c2 (nxt true (by rw [decide_eq_true c2, Bool.or_true, Bool.true_and]))
        · exact n_t c2 (nxt false (by rw [decide_eq_false (fun z => z c1), decide_eq_false c2]; rfl))
      · exact n_t c1 (nxt true (by rw [decide_eq_true c1, Bool.true_or, Bool.true_and]))
theorem bz_bn (b : Bool) : bz (nI (bn b)) := by
  cases b
  · exact bz0
  · exact bz1
theorem seen_mlp (N m : Nat) (c : Cx) (sd sb : Nat → Int32) (v0 : MM) (K : Int32 → MM → Prop) (hN : 200 ≤ N) (hc : CxOk c) (hv : CxV (v0 1) c) (hm : m ≤ 6) (v20 : v0 1 20 = nI m) (hr : ∀ k, k < m → v0 1 (101 + k) = sb k ∧ v0 1 (107 + k) = sd k) (h16 : v0 0 16 = -1) (T : Bool) (k : ∀ v' : MM, gR v0 v' → v' 0 17 = -1 → K (nI (bn T)) v') : ∀ (r d fl : Nat) (b : Bool) (w : Wd) (v : MM), r + d = 7 → r < fl → gR v0 v → v 0 17 = -1 → WdOk c w → WdV (v 1) w → wD w + r < 2000 → (b && asS c sd sb m r d w) = T → wX11_isAsSeen_b4 N K fl (nI (bn b)) (nI d) v := by
  intro r
  induction r with
  | zero =>
    intro d fl b w v hd hf hR h17 hw wv hD eT
    obtain ⟨g, rfl⟩ : ∃ g, fl = g + 1 := ⟨fl - 1, by omega⟩
    rw [asS, Bool.and_true] at eT
    subst eT
    exact b_t (show nI 7 ≤ nI d from nI_le (by omega) (by omega)) ⟨bz_bn b, k v hR h17⟩
  | succ r ih =>
    intro d fl b w v hd hf hR h17 hw wv hD eT
    obtain ⟨g, rfl⟩ : ∃ g, fl = g + 1 := ⟨fl - 1, by omega⟩
    rw [asS, ← Bool.and_assoc] at eT
    refine b_f (show ¬ nI 7 ≤ nI d from nI_ge (by omega) (by omega)) ?_
    refine inn_m N m d (wH w) sd sb v K _ hm (by rw [hR.2.2 20 (by omega)]; exact v20) (fun j hj => by rw [hR.2.2 _ (by omega), hR.2.2 _ (by omega)]; exact hr j hj) wv.2.2.1 (b && okR sd sb d (wH w) m 0) ?_ m 0 N b (by omega) (by omega) rfl
    refine goes_m (x := 7) (st := 0) (z := 7) hN hc (hv.same (fun j hj => hR.2.2 j hj)) hw wv (chO.none c w).ok (Nat.le_refl _) (by rw [hR.2.1 16 (by omega) (by omega) (by omega)]; exact h16) h17 (fun y => by omega) (fun v3 hg g17 wv3 y5 e5 => ?_)
    rw [i_one] at e5
    subst e5
    exact ih (d + 1) g _ _ v3 (by omega) (by omega) (hR.tr hg) g17 (dayW_ok hc hw (chO.none c w).ok (Nat.le_refl _) (by omega)) wv3 (by show wD w + 1 + r < 2000; omega) eT
def bgI (c : Cx) (w : Wd) (sd sb : Nat → Int32) (m p : Nat) : Nat → Nat → Nat → Int32 → Nat × Int32
  | 0, _, cnt, fst => (cnt, fst)
  | r + 1, num, cnt, fst => if asS c sd sb m 7 0 (begW w p num) = true then bgI c w sd sb m p r (num + 1) (cnt + 1) (if cnt = 0 then nI (10 * p + num) else fst) else bgI c w sd sb m p r (num + 1) cnt fst
theorem bgI_le (c : Cx) (w : Wd) (sd sb : Nat → Int32) (m p : Nat) : ∀ r num cnt fst, (bgI c w sd sb m p r num cnt fst).1 ≤ cnt + r
  | 0, _, _, _ => Nat.le_refl _
  | r + 1, num, cnt, fst => by
    rw [bgI]
    split
    · have := bgI_le c w sd sb m p r (num + 1) (cnt + 1) (if cnt = 0 then nI (10 * p + num) else fst)
      omega
    · have := bgI_le c w sd sb m p r (num + 1) cnt fst
      omega
def bgO (c : Cx) (w : Wd) (sd sb : Nat → Int32) (m : Nat) : Nat → Nat → Nat → Int32 → Nat × Int32
  | 0, _, cnt, fst => (cnt, fst)
  | r + 1, p, cnt, fst => bgO c w sd sb m r (p + 1) (bgI c w sd sb m p 7 0 cnt fst).1 (bgI c w sd sb m p 7 0 cnt fst).2
theorem bgi_c (N m p : Nat) (c : Cx) (w : Wd) (sd sb : Nat → Int32) (u0 : MM) (K : MM → Prop) (ro : Int32 → MM → Prop) (hN : 200 ≤ N) (hc : CxOk c) (hu : CxU u0 c) (hw : WdOk c w) (wu : WdU u0 27 w) (hD : wD w < 1000) (hp : p < cN c) (hm : m ≤ 6) (u30 : u0 30 0 = nI m) (hr : ∀ k, k < m → u0 31 k = sb k ∧ u0 32 k = sd k) (T : Nat × Int32) (k : ∀ u' : MM, (∀ a, a ≠ 1 → a ≠ 3 → a ≠ 7 → a ≠ 8 → a ≠ 9 → u' a = u0 a) → u' 1 7 = nI T.1 → u' 1 8 = T.2 → ro (nI (p + 1)) u') : ∀ (r num fl cnt : Nat) (fst : Int32) (u : MM), r + num = 7 → r < fl → (∀ a, a ≠ 1 → a ≠ 3 → a ≠ 7 → a ≠ 8 → a ≠ 9 → u a = u0 a) → u 1 7 = nI cnt → u 1 8 = fst → cnt < 1000 - r → bgI c w sd sb m p r num cnt fst = T → wX1_findBegan_b32 N K ro fl (nI p) (nI num) u := by
  have hn := hc.1
  intro r
  induction r with
  | zero =>
    intro num fl cnt fst u hi hf hR h7 h8 hcn eT
    obtain ⟨g, rfl⟩ : ∃ g, fl = g + 1 := ⟨fl - 1, by omega⟩
    rw [bgI] at eT
    subst eT
    refine b_t (show nI 6 < nI num from nl_lt (by omega) (by omega)) (fun y5 e5 => ?_)
    rw [i_one] at e5
    subst e5
    exact k u hR h7 h8
  | succ r ih =>
    intro num fl cnt fst u hi hf hR h7 h8 hcn eT
    obtain ⟨g, rfl⟩ : ∃ g, fl = g + 1 := ⟨fl - 1, by omega⟩
    rw [bgI] at eT
    refine b_f (show ¬ nI 6 < nI num from nI_nlt (by omega) (by omega)) ?_
    have hu1 : CxU u c := hu.same (fun a h1 h2 => hR a (by omega) (by omega) (by omega) (by omega) (by omega))
    have wu1 : WdU u 27 w := wu.same (hR _ (by omega) (by omega) (by omega) (by omega) (by omega)) (hR _ (by omega) (by omega) (by omega) (by omega) (by omega)) (hR _ (by omega) (by omega) (by omega) (by omega) (by omega))
    refine start_c hc wu1 hp (fun u1 r1 w1 => ?_)
    have q1 : ∀ a, a ≠ 1 → a ≠ 3 → a ≠ 7 → a ≠ 8 → a ≠ 9 → u1 a = u0 a := fun a h1 h3 h7 h8 h9 => (r1 a h7 h8 h9).trans (hR a h1 h3 h7 h8 h9)
    refine seen_clp N m c sd sb u1 _ hN hc (hu.same (fun a h1 h2 => q1 a (by omega) (by omega) (by omega) (by omega) (by omega))) hm (by rw [q1 30 (by omega) (by omega) (by omega) (by omega) (by omega)]; exact u30) (fun j hj => by rw [q1 31 (by omega) (by omega) (by omega) (by omega) (by omega), q1 32 (by omega) (by omega) (by omega) (by omega) (by omega)]; exact hr j hj) (asS c sd sb m 7 0 (begW w p num)) (fun u7 r7 => ?_) 7 0 N _ u1 (by omega) (by omega) (fun _ _ _ _ _ => rfl) (begW_ok hw hp (by omega)) w1 (by show wD w + 7 < 2000; omega) rfl
    have hR7 : ∀ a, a ≠ 1 → a ≠ 3 → a ≠ 7 → a ≠ 8 → a ≠ 9 → u7 a = u0 a := fun a h1 h3 h7 h8 h9 => (r7 a h3 h7 h8 h9).trans (q1 a h1 h3 h7 h8 h9)
    have y1 : u7 1 = u 1 := by rw [r7 1 (by omega) (by omega) (by omega) (by omega), r1 1 (by omega) (by omega) (by omega)]
    cases hb : asS c sd sb m 7 0 (begW w p num)
    · rw [hb, if_neg (by decide)] at eT
      refine b_t rfl (fun y12 e12 => ?_)
      rw [i_one] at e12
      subst e12
      exact ih (num + 1) g cnt fst u7 (by omega) (by omega) hR7 (by rw [y1]; exact h7) (by rw [y1]; exact h8) (by omega) eT
    · rw [hb, if_pos rfl] at eT
      have fin : ∀ s0 : Int32, s0 = (if cnt = 0 then nI (10 * p + num) else fst) → wX1_findBegan_b68 N K ro (wX1_findBegan_b32 N K ro g) (nI p) (nI num) s0 u7 := by
        intro s0 es u10 e10 u11 e11 y12 e12
        subst es
        rw [i_one] at e12
        subst e12
        rw [e10, up_j (by omega), y1, h7, i_one, ← e10] at e11
        refine ih (num + 1) g (cnt + 1) _ u11 (by omega) (by omega) (fun a h1 h3 h7 h8 h9 => by rw [upu e11 h1, upu e10 h1]; exact hR7 a h1 h3 h7 h8 h9) (upx e11) ?_ (by omega) eT
        rw [e11, up_j (by omega)]
        exact upx e10
      refine b_f (by decide) ?_
      rw [y1, h7, h8]
      have e0 : nI cnt = 0 ↔ cnt = 0 := nI_eq (b := 0) (by omega) (by omega)
      by_cases hc0 : cnt = 0
      · refine n_f (e0.mpr hc0) (fin _ ?_)
        rw [if_pos hc0, show (10 : Int32) = nI 10 from rfl, pk_mul, nI_add]
      · exact n_t (fun y => hc0 (e0.mp y)) (fin _ (by rw [if_neg hc0]))
theorem bgo_c (N m : Nat) (c : Cx) (w : Wd) (sd sb : Nat → Int32) (u0 : MM) (K : MM → Prop) (hN : 200 ≤ N) (hc : CxOk c) (hu : CxU u0 c) (hw : WdOk c w) (wu : WdU u0 27 w) (hD : wD w < 1000) (hm : m ≤ 6) (u30 : u0 30 0 = nI m) (hr : ∀ k, k < m → u0 31 k = sb k ∧ u0 32 k = sd k) (T : Nat × Int32) (k : ∀ u' : MM, (∀ a, a ≠ 1 → a ≠ 3 → a ≠ 7 → a ≠ 8 → a ≠ 9 → u' a = u0 a) → u' 1 7 = nI T.1 → u' 1 8 = T.2 → K u') : ∀ (r p fl cnt : Nat) (fst : Int32) (u : MM), r + p = cN c → r < fl → (∀ a, a ≠ 1 → a ≠ 3 → a ≠ 7 → a ≠ 8 → a ≠ 9 → u a = u0 a) → u 1 7 = nI cnt → u 1 8 = fst → cnt ≤ 7 * p → bgO c w sd sb m r p cnt fst = T → wX1_findBegan_b13 N K fl (nI p) u := by
  have hn := hc.1
  intro r
  induction r with
  | zero =>
    intro p fl cnt fst u hi hf hR h7 h8 hcn eT
    obtain ⟨g, rfl⟩ : ∃ g, fl = g + 1 := ⟨fl - 1, by omega⟩
    rw [bgO] at eT
    subst eT
    exact b_t (by rw [hR 21 (by omega) (by omega) (by omega) (by omega) (by omega), hu.1]; exact nI_le (by omega) (by omega)) (k u hR h7 h8)
  | succ r ih =>
    intro p fl cnt fst u hi hf hR h7 h8 hcn eT
    obtain ⟨g, rfl⟩ : ∃ g, fl = g + 1 := ⟨fl - 1, by omega⟩
    rw [bgO] at eT
    have hle := bgI_le c w sd sb m p 7 0 cnt fst
    refine b_f (by rw [hR 21 (by omega) (by omega) (by omega) (by omega) (by omega), hu.1]; exact nI_ge (by omega) (by omega)) ?_
    exact bgi_c N m p c w sd sb u0 K _ hN hc hu hw wu hD (by omega) hm u30 hr (bgI c w sd sb m p 7 0 cnt fst) (fun u' hR' x7 x8 => ih (p + 1) g _ _ u' (by omega) (by omega) hR' x7 x8 (by omega) eT) 7 0 N cnt fst u (by omega) (by omega) hR h7 h8 (by omega) rfl
theorem bgi_m (N m p : Nat) (c : Cx) (w : Wd) (sd sb : Nat → Int32) (v0 : MM) (x1 : Int32) (K : Int32 → MM → Prop) (ro : Int32 → Int32 → Int32 → Int32 → MM → Prop) (hN : 200 ≤ N) (hc : CxOk c) (hv : CxV (v0 1) c) (hw : WdOk c w) (wv : WdV (v0 1) w) (hD : wD w < 1000) (hp : p < cN c) (hm : m ≤ 6) (v20 : v0 1 20 = nI m) (hr : ∀ k, k < m → v0 1 (101 + k) = sb k ∧ v0 1 (107 + k) = sd k) (h16 : v0 0 16 = -1) (T : Nat × Int32) (k : ∀ v' : MM, tR v0 v' → v' 1 = v0 1 → v' 0 17 = -1 → ro x1 (nI T.1) T.2 (nI (p + 1)) v') : ∀ (r num fl cnt : Nat) (fst : Int32) (v : MM), r + num = 7 → r < fl → tR v0 v → v 1 = v0 1 → v 0 17 = -1 → cnt < 1000 - r → bgI c w sd sb m p r num cnt fst = T → wX11_began_b38 N K ro fl x1 (nI cnt) fst (nI p) (nI num) v := by
  have hn := hc.1
  intro r
  induction r with
  | zero =>
    intro num fl cnt fst v hi hf hR h1 h17 hcn eT
    obtain ⟨g, rfl⟩ : ∃ g, fl = g + 1 := ⟨fl - 1, by omega⟩
    rw [bgI] at eT
    subst eT
    refine b_t (show nI 7 ≤ nI num from nI_le (by omega) (by omega)) (fun y8 e8 => ?_)
    rw [i_one] at e8
    subst e8
    exact k v hR h1 h17
  | succ r ih =>
    intro num fl cnt fst v hi hf hR h1 h17 hcn eT
    obtain ⟨g, rfl⟩ : ∃ g, fl = g + 1 := ⟨fl - 1, by omega⟩
    rw [bgI] at eT
    refine b_f (show ¬ nI 7 ≤ nI num from nI_ge (by omega) (by omega)) ?_
    refine begins_m (w := w) hc (by rw [h1]; exact wv) hp (fun v2 r2 s2 w2 => ?_)
    have sr : ∀ j, 18 ≤ j → v2 1 j = v0 1 j := fun j hj => by rw [s2 j hj, h1]
    have t2 : tR v0 v2 := ⟨fun a p0 p1 p3 p4 p5 p6 p7 => by rw [r2 a p1]; exact hR.1 a p0 p1 p3 p4 p5 p6 p7, fun j hj => by rw [r2 0 (by omega)]; exact hR.2.1 j hj, fun j hj => by rw [r2 3 (by omega)]; exact hR.2.2.1 j hj, sr⟩
    refine seen_mlp N m c sd sb v2 _ hN hc (hv.same sr) hm (by rw [sr 20 (by omega)]; exact v20) (fun j hj => by rw [sr _ (by omega), sr _ (by omega)]; exact hr j hj) (by rw [r2 0 (by omega), hR.2.1 16 (by omega)]; exact h16) (asS c sd sb m 7 0 (begW w p num)) (fun v7 g7 e7 => ?_) 7 0 N true (begW w p num) v2 (by omega) (by omega) (gR.rf v2) (by rw [r2 0 (by omega)]; exact h17) (begW_ok hw hp (by omega)) w2 (by show wD w + 7 < 2000; omega) (Bool.true_and _)
    have t7 := t2.go g7
    have fin : ∀ (cnt2 : Nat) (fst2 : Int32), cnt2 < 1000 - r → bgI c w sd sb m p r (num + 1) cnt2 fst2 = T → wX11_began_b80 N K ro (wX11_began_b38 N K ro g) x1 (nI cnt2) fst2 (nI p) (nI num) v7 := by
      intro cnt2 fst2 hc2 eT2
      refine tback_m (by omega) t7 (fun v8 t8 s8 z8 y18 e18 => ?_)
      rw [i_one] at e18
      subst e18
      exact ih (num + 1) g cnt2 fst2 v8 (by omega) (by omega) t8 s8 (by rw [z8]; exact e7) hc2 eT2
    cases hb : asS c sd sb m 7 0 (begW w p num)
    · rw [hb, if_neg (by decide)] at eT
      exact b_t rfl (fin cnt fst (by omega) eT)
    · rw [hb, if_pos rfl] at eT
      refine b_f (by decide) ?_
      have e0 : nI cnt = 0 ↔ cnt = 0 := nI_eq (b := 0) (by omega) (by omega)
      by_cases hc0 : cnt = 0
      · rw [if_pos hc0] at eT
        refine n_f (e0.mpr hc0) (fun y15 e15 => ?_)
        rw [i_one] at e15
        subst e15
        rw [show (10 : Int32) = nI 10 from rfl, pk_mul, nI_add]
        exact fin _ _ (by omega) eT
      · rw [if_neg hc0] at eT
        refine n_t (fun y => hc0 (e0.mp y)) (fun y15 e15 => ?_)
        rw [i_one] at e15
        subst e15
        exact fin _ _ (by omega) eT
theorem bgo_m (N m : Nat) (c : Cx) (w : Wd) (sd sb : Nat → Int32) (v0 : MM) (x1 : Int32) (K : Int32 → MM → Prop) (hN : 200 ≤ N) (hc : CxOk c) (hv : CxV (v0 1) c) (hw : WdOk c w) (wv : WdV (v0 1) w) (hD : wD w < 1000) (hm : m ≤ 6) (v20 : v0 1 20 = nI m) (hr : ∀ k, k < m → v0 1 (101 + k) = sb k ∧ v0 1 (107 + k) = sd k) (h16 : v0 0 16 = -1) (T : Nat × Int32) (k : ∀ v' : MM, tR v0 v' → v' 1 = v0 1 → v' 0 17 = -1 → ((¬ x1 = 0 → (K T.2 v')) ∧ (x1 = 0 → (K (nI T.1) v')))) : ∀ (r p fl cnt : Nat) (fst : Int32) (v : MM), r + p = cN c → r < fl → tR v0 v → v 1 = v0 1 → v 0 17 = -1 → cnt ≤ 7 * p → bgO c w sd sb m r p cnt fst = T → wX11_began_b23 N K fl x1 (nI cnt) fst (nI p) v := by
  have hn := hc.1
  intro r
  induction r with
  | zero =>
    intro p fl cnt fst v hi hf hR h1 h17 hcn eT
    obtain ⟨g, rfl⟩ : ∃ g, fl = g + 1 := ⟨fl - 1, by omega⟩
    rw [bgO] at eT
    subst eT
    exact b_t (by rw [h1, hv.1]; exact nI_le (by omega) (by omega)) (k v hR h1 h17)
  | succ r ih =>
    intro p fl cnt fst v hi hf hR h1 h17 hcn eT
    obtain ⟨g, rfl⟩ : ∃ g, fl = g + 1 := ⟨fl - 1, by omega⟩
    rw [bgO] at eT
    have hle := bgI_le c w sd sb m p 7 0 cnt fst
    refine b_f (by rw [h1, hv.1]; exact nI_ge (by omega) (by omega)) ?_
    exact bgi_m N m p c w sd sb v0 x1 K _ hN hc hv hw wv hD (by omega) hm v20 hr h16 (bgI c w sd sb m p 7 0 cnt fst) (fun v' hR' x1' x17 => ih (p + 1) g _ _ v' (by omega) (by omega) hR' x1' x17 (by omega) eT) 7 0 N cnt fst v (by omega) (by omega) hR h1 h17 (by omega) rfl
theorem rel_began (N : Nat) (hN : 200 ≤ N) : ∀ (u v : MM) (x1 : Int32), relT u v → wX10_began N x1 u (fun r u2 => wX11_began N x1 v (fun r2 v2 => r = r2 ∧ relT u2 v2)) := by
  intro u v x1 h
  obtain ⟨⟨n, hd, td, hRS⟩, -, h16, h17, -⟩ := id h
  obtain ⟨c, w, hc, hu, hv, hw, wu, wv, en, eh, et, hD⟩ := hRS.nums
  obtain ⟨m, hm, em, hs⟩ := hRS.2.2.2.2.2.1
  have hn := hc.1
  have u30 : u 30 0 = nI m := (hRS.2.1 20 20 0 m20).trans em
  rcases arg3 x1 (n := 2) (by omega) with hx | ⟨b, hb2, rfl⟩
  · exact in_no (n := 2) hx (n_f rfl (min_no (n := 1) (by omega) hx (n_f rfl ⟨rfl, h⟩)))
  refine in_yes (n := 2) hb2 (by omega) (n_t (by decide) (fun u1 e1 u2 e2 => ?_))
  refine bgo_c N m c w (fun k => v 1 (107 + k)) (fun k => v 1 (101 + k)) u _ hN hc hu hw wu hD hm u30 (fun k hk => ⟨(hs k hk).1, (hs k hk).2.1⟩) (bgO c w (fun k => v 1 (107 + k)) (fun k => v 1 (101 + k)) m (cN c) 0 0 (-5)) (fun u4 r4 y7 y8 => ?_) (cN c) 0 N 0 (-5) u2 (by omega) (by omega) (fun a h1 _ _ _ _ => by rw [upu e2 h1, upu e1 h1]) (by rw [e2, up_j (by omega)]; exact upx e1) (upx e2) (by omega) rfl
  rw [y7, y8]
  have last : ∀ r : Int32, ((¬ nI b = 0 → r = (bgO c w (fun k => v 1 (107 + k)) (fun k => v 1 (101 + k)) m (cN c) 0 0 (-5)).2) ∧ (nI b = 0 → r = nI (bgO c w (fun k => v 1 (107 + k)) (fun k => v 1 (101 + k)) m (cN c) 0 0 (-5)).1)) → wX11_began N (nI b) v (fun r2 v2 => r = r2 ∧ relT u4 v2) := by
    intro r hr
    refine min_yes (n := 1) (by omega) (by omega) (n_t (by decide) (tkeep_m (by omega) (fun v4 t4 s4 z4 => ?_)))
    refine bgo_m N m c w (fun k => v 1 (107 + k)) (fun k => v 1 (101 + k)) v (nI b) _ hN hc hv hw wv hD hm em (fun k hk => ⟨rfl, rfl⟩) h16 _ (fun v7 t7 s7 e7 => ?_) (cN c) 0 N 0 (-5) v4 (by omega) (by omega) t4 s4 (by rw [z4]; exact h17) (by omega) rfl
    have rr : relT u4 v7 := rel_try h r4 t7 s7 e7
    exact ⟨fun y => ⟨hr.1 y, rr⟩, fun y => ⟨hr.2 y, rr⟩⟩
  obtain rfl | rfl : b = 0 ∨ b = 1 := by omega
  · exact n_f rfl (last _ (n_f rfl rfl))
  · exact n_t (by decide) (last _ (n_t (by decide) rfl))
