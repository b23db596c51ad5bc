/-! the tape, and how a TOWN is read from it -/
abbrev Tp : Type := (Nat → Nat) × Nat
def sg (T : Tp) (p : Nat) : Nat := if p < T.2 then T.1 p else 128
def TpOk (T : Tp) : Prop := T.2 ≤ 100 ∧ ∀ i, i < 100 → T.1 i < 128
def oz (x : Nat) : Int32 := if x = 128 then -1 else nI x
theorem sg_le {T : Tp} (h : TpOk T) (p : Nat) : sg T p ≤ 128 := by
  unfold sg
  split
  · have := h.2 p (by have := h.1; omega)
    omega
  · omega
theorem sg_in {T : Tp} {p : Nat} (hs : sg T p < 128) : p < T.2 := by
  unfold sg at hs
  split at hs
  · assumption
  · omega
theorem oz_eq {x c : Nat} (hx : x ≤ 128) (hc : c < 128) : oz x = nI c ↔ x = c := by
  unfold oz
  by_cases h : x = 128
  · rw [if_pos h]
    exact ⟨fun z => absurd z.symm (nI_m1 (by omega)), fun z => by omega⟩
  · rw [if_neg h]
    exact nI_eq (by omega) (by omega)
abbrev Rs : Type := Bool × Nat × List Int
def dgt (x : Nat) : Bool := decide (48 ≤ x) && decide (x ≤ 57)
theorem dgt_iff {x : Nat} : dgt x = true ↔ 48 ≤ x ∧ x ≤ 57 := by
  unfold dgt
  rw [Bool.and_eq_true, decide_eq_true_iff, decide_eq_true_iff]
def pN (T : Tp) (p : Nat) : Bool × Nat × Nat := if dgt (sg T p) = true then (if sg T p = 48 ∨ dgt (sg T (p + 1)) = false then (true, p + 1, sg T p - 48) else (true, p + 2, 10 * (sg T p - 48) + (sg T (p + 1) - 48))) else (false, p, 0)
theorem pN_ok {T : Tp} {p : Nat} (hp : p ≤ T.2) : p ≤ (pN T p).2.1 ∧ (pN T p).2.1 ≤ T.2 ∧ (pN T p).2.2 < 100 ∧ ((pN T p).1 = true → p < (pN T p).2.1) := by
  unfold pN
  by_cases h : dgt (sg T p) = true
  · rw [if_pos h]
    have h1 := dgt_iff.mp h
    have i1 : p < T.2 := sg_in (by omega)
    by_cases h2 : sg T p = 48 ∨ dgt (sg T (p + 1)) = false
    · rw [if_pos h2]
      exact ⟨by show p ≤ p + 1; omega, i1, by show sg T p - 48 < 100; omega, fun _ => by show p < p + 1; omega⟩
    · rw [if_neg h2]
      have h3 : dgt (sg T (p + 1)) = true := by
        cases hq : dgt (sg T (p + 1))
        · exact absurd (Or.inr hq) h2
        · rfl
      have h4 := dgt_iff.mp h3
      have i2 : p + 1 < T.2 := sg_in (by omega)
      exact ⟨by show p ≤ p + 2; omega, i2, by show 10 * (sg T p - 48) + (sg T (p + 1) - 48) < 100; omega, fun _ => by show p < p + 2; omega⟩
  · rw [if_neg h]
    exact ⟨Nat.le_refl _, hp, by show 0 < 100; omega, fun z => by cases z⟩
def fac (x : Nat) : Nat := if x = 112 then 0 else if x = 111 then 1 else if x = 107 then 2 else if x = 110 then 3 else if x = 100 then 4 else 5
def hw_ (x : Nat) : Nat := if x = 60 then 0 else if x = 61 then 1 else if x = 62 then 2 else 3
theorem fac_le (x : Nat) : fac x ≤ 5 := by unfold fac; repeat' split <;> try omega
theorem hw_le (x : Nat) : hw_ x ≤ 3 := by unfold hw_; repeat' split <;> try omega
theorem fac_in {x : Nat} (h : fac x ≠ 5) : x < 128 := by
  unfold fac at h
  by_cases h1 : x < 128
  · exact h1
  · rw [if_neg (by omega), if_neg (by omega), if_neg (by omega), if_neg (by omega), if_neg (by omega)] at h
    exact absurd rfl h
theorem hw_in {x : Nat} (h : hw_ x ≠ 3) : x < 128 := by
  unfold hw_ at h
  by_cases h1 : x < 128
  · exact h1
  · rw [if_neg (by omega), if_neg (by omega), if_neg (by omega)] at h
    exact absurd rfl h
def stpN (w h v : Nat) : Int := ((w + 8 * h + 32 * v : Nat) : Int)
def pT (T : Tp) (p : Nat) : Rs := if fac (sg T p) = 5 then (false, p, []) else if hw_ (sg T (p + 1)) = 3 then (false, p + 1, []) else if (pN T (p + 2)).1 = true then (true, (pN T (p + 2)).2.1, [stpN (fac (sg T p)) (hw_ (sg T (p + 1))) (pN T (p + 2)).2.2]) else (false, (pN T (p + 2)).2.1, [])
def pEL (T : Tp) (F : Nat → Rs) : Nat → Bool → Nat → List Int → Rs
  | 0, _, p, _ => (false, p, [])
  | r + 1, w, p, xs => if sg T p = 38 then (if (F (p + 1)).1 = true then pEL T F r w (F (p + 1)).2.1 (xs ++ (F (p + 1)).2.2 ++ [-2]) else (false, (F (p + 1)).2.1, [])) else if sg T p = 124 then (if (F (p + 1)).1 = true then pEL T F r true (F (p + 1)).2.1 (xs ++ (if w = true then [-3] else []) ++ (F (p + 1)).2.2) else (false, (F (p + 1)).2.1, [])) else (true, p, xs ++ (if w = true then [-3] else []))
def pE (T : Tp) (F : Nat → Rs) (p : Nat) : Rs := if (F p).1 = true then pEL T F 101 false (F p).2.1 (F p).2.2 else (false, (F p).2.1, [])
def pF (T : Tp) : Nat → Nat → Nat → Rs
  | 0, _, p => (false, p, [])
  | d + 1, o, p => if sg T p = 33 then (if 5 ≤ o then (false, p, []) else if (pF T d (o + 1) (p + 1)).1 = true then (true, (pF T d (o + 1) (p + 1)).2.1, (pF T d (o + 1) (p + 1)).2.2 ++ [-1]) else (false, (pF T d (o + 1) (p + 1)).2.1, [])) else if sg T p = 40 then (if 5 ≤ o then (false, p, []) else if (pE T (pF T d (o + 1)) (p + 1)).1 = true then (if sg T (pE T (pF T d (o + 1)) (p + 1)).2.1 = 41 then (true, (pE T (pF T d (o + 1)) (p + 1)).2.1 + 1, (pE T (pF T d (o + 1)) (p + 1)).2.2) else (false, (pE T (pF T d (o + 1)) (p + 1)).2.1, [])) else (false, (pE T (pF T d (o + 1)) (p + 1)).2.1, [])) else pT T p
/-! what a part that was read is -/
theorem dep_app : ∀ (xs ys : List Int) (d : Nat), dep (xs ++ ys) d = (dep xs d).bind (dep ys)
  | [], ys, d => rfl
  | x :: xs, ys, d => by
    rw [List.cons_append, dep, dep]
    split
    · split
      · rfl
      · exact dep_app xs ys d
    · split
      · split
        · rfl
        · exact dep_app xs ys (d - 1)
      · split
        · rfl
        · exact dep_app xs ys (d + 1)
theorem dep_not (d : Nat) : dep [-1] (d + 1) = some (d + 1) := by
  rw [dep, if_pos rfl, if_neg (by omega)]; rfl
theorem dep_two {x : Int} (hx : x = -2 ∨ x = -3) (d : Nat) : dep [x] (d + 2) = some (d + 1) := by
  rw [dep, if_neg (by omega), if_pos (by omega), if_neg (by omega)]; rfl
theorem dep_tst {x : Int} (hx : 0 ≤ x) {d : Nat} (hd : d < 20) : dep [x] d = some (d + 1) := by
  rw [dep, if_neg (by omega), if_neg (by omega), if_neg (by omega)]; rfl
def rOk (T : Tp) (o p : Nat) (q : Rs) : Prop := q.2.1 ≤ T.2 ∧ (q.1 = true → p + q.2.2.length ≤ q.2.1 ∧ p < q.2.1 ∧ (∀ x ∈ q.2.2, stOk x) ∧ ∀ d, d ≤ 2 * o → dep q.2.2 d = some (d + 1))
theorem pT_ok {T : Tp} {o p : Nat} (ho : o ≤ 6) (hp : p ≤ T.2) : rOk T o p (pT T p) := by
  unfold pT
  by_cases h1 : fac (sg T p) = 5
  · rw [if_pos h1]
    exact ⟨hp, fun z => by cases z⟩
  rw [if_neg h1]
  have i1 : p < T.2 := sg_in (fac_in h1)
  by_cases h2 : hw_ (sg T (p + 1)) = 3
  · rw [if_pos h2]
    exact ⟨i1, fun z => by cases z⟩
  rw [if_neg h2]
  have i2 : p + 1 < T.2 := sg_in (hw_in h2)
  have hN := pN_ok (T := T) (p := p + 2) (by omega)
  by_cases h3 : (pN T (p + 2)).1 = true
  · rw [if_pos h3]
    have := hN.2.2.2 h3
    have f1 := fac_le (sg T p)
    have f2 := hw_le (sg T (p + 1))
    refine ⟨hN.2.1, fun _ => ⟨by show p + 1 ≤ (pN T (p + 2)).2.1; omega, by show p < (pN T (p + 2)).2.1; omega, fun x hx => ?_, fun d hd => dep_tst (by unfold stpN; omega) (by omega)⟩⟩
    have hx2 : x = stpN (fac (sg T p)) (hw_ (sg T (p + 1))) (pN T (p + 2)).2.2 := by simpa using hx
    refine Or.inr (Or.inr (Or.inr ⟨fac (sg T p), hw_ (sg T (p + 1)), (pN T (p + 2)).2.2, by omega, by omega, hN.2.2.1, ?_⟩))
    rw [hx2]
    unfold stpN
    omega
  · rw [if_neg h3]
    exact ⟨hN.2.1, fun z => by cases z⟩
theorem stOk_n : stOk (-1) ∧ stOk (-2) ∧ stOk (-3) := ⟨Or.inl rfl, Or.inr (Or.inl rfl), Or.inr (Or.inr (Or.inl rfl))⟩
theorem pEL_ok {T : Tp} {F : Nat → Rs} {o : Nat} (hF : ∀ p, p ≤ T.2 → rOk T (o + 1) p (F p)) (d : Nat) (hd : d ≤ 2 * o) : ∀ (r : Nat) (w : Bool) (p : Nat) (xs : List Int), p ≤ T.2 → (∀ x ∈ xs, stOk x) → dep xs d = some (d + 1 + bn w) → (pEL T F r w p xs).2.1 ≤ T.2 ∧ ((pEL T F r w p xs).1 = true → p ≤ (pEL T F r w p xs).2.1 ∧ p + (pEL T F r w p xs).2.2.length ≤ xs.length + bn w + (pEL T F r w p xs).2.1 ∧ (∀ x ∈ (pEL T F r w p xs).2.2, stOk x) ∧ dep (pEL T F r w p xs).2.2 d = some (d + 1)) := by
  intro r
  induction r with
  | zero =>
    intro w p xs hp hO hdp
    exact ⟨hp, fun z => by cases z⟩
  | succ r ih =>
    intro w p xs hp hO hdp
    have bw : bn w ≤ 1 := by cases w <;> decide
    rw [pEL]
    have orr : (∀ x ∈ xs ++ (if w = true then [-3] else []), stOk x) ∧ dep (xs ++ (if w = true then [-3] else [])) d = some (d + 1) ∧ (xs ++ (if w = true then [-3] else [])).length = xs.length + bn w := by
      cases w
      · rw [if_neg (by decide), List.append_nil]
        exact ⟨hO, hdp, rfl⟩
      · rw [if_pos rfl]
        refine ⟨fun x hx => ?_, ?_, by rw [List.length_append]; rfl⟩
        · rcases List.mem_append.mp hx with hx | hx
          · exact hO x hx
          · have : x = -3 := by simpa using hx
            rw [this]; exact stOk_n.2.2
        · rw [dep_app, hdp]
          exact dep_two (Or.inr rfl) d
    by_cases h1 : sg T p = 38
    · rw [if_pos h1]
      have i1 : p < T.2 := sg_in (by omega)
      obtain ⟨f1, f2⟩ := hF (p + 1) (by omega)
      by_cases hq : (F (p + 1)).1 = true
      · rw [if_pos hq]
        obtain ⟨g1, g2, g3, g4⟩ := f2 hq
        obtain ⟨e1, e2⟩ := ih w (F (p + 1)).2.1 (xs ++ (F (p + 1)).2.2 ++ [-2]) f1 (fun x hx => by
          rcases List.mem_append.mp hx with hx | hx
          · rcases List.mem_append.mp hx with hx | hx
            · exact hO x hx
            · exact g3 x hx
          · have : x = -2 := by simpa using hx
            rw [this]; exact stOk_n.2.1) (by
          rw [dep_app, dep_app, hdp]
          show (dep (F (p + 1)).2.2 (d + 1 + bn w)).bind _ = _
          rw [g4 (d + 1 + bn w) (by omega)]
          show dep [-2] (d + 1 + bn w + 1) = _
          rw [show d + 1 + bn w + 1 = (d + bn w) + 2 from by omega, dep_two (Or.inl rfl)]
          congr 1
          omega)
        refine ⟨e1, fun z => ?_⟩
        obtain ⟨k1, k2, k3, k4⟩ := e2 z
        rw [List.length_append, List.length_append, List.length_singleton] at k2
        exact ⟨by omega, by omega, k3, k4⟩
      · rw [if_neg hq]
        exact ⟨f1, fun z => by cases z⟩
    rw [if_neg h1]
    by_cases h2 : sg T p = 124
    · rw [if_pos h2]
      have i1 : p < T.2 := sg_in (by omega)
      obtain ⟨f1, f2⟩ := hF (p + 1) (by omega)
      by_cases hq : (F (p + 1)).1 = true
      · rw [if_pos hq]
        obtain ⟨g1, g2, g3, g4⟩ := f2 hq
        obtain ⟨e1, e2⟩ := ih true (F (p + 1)).2.1 (xs ++ (if w = true then [-3] else []) ++ (F (p + 1)).2.2) f1 (fun x hx => by
          rcases List.mem_append.mp hx with hx | hx
          · exact orr.1 x hx
          · exact g3 x hx) (by
          rw [dep_app, orr.2.1]
          show dep (F (p + 1)).2.2 (d + 1) = _
          rw [g4 (d + 1) (by omega)]
          rfl)
        refine ⟨e1, fun z => ?_⟩
        obtain ⟨k1, k2, k3, k4⟩ := e2 z
        rw [List.length_append, orr.2.2] at k2
        have b1 : bn true = 1 := rfl
        exact ⟨by omega, by omega, k3, k4⟩
      · rw [if_neg hq]
        exact ⟨f1, fun z => by cases z⟩
    · rw [if_neg h2]
      exact ⟨hp, fun _ => ⟨Nat.le_refl _, by rw [orr.2.2]; show p + (xs.length + bn w) ≤ xs.length + bn w + p; omega, orr.1, orr.2.1⟩⟩
theorem pE_ok {T : Tp} {F : Nat → Rs} {o p : Nat} (hF : ∀ p, p ≤ T.2 → rOk T (o + 1) p (F p)) (hp : p ≤ T.2) : rOk T o p (pE T F p) := by
  unfold pE
  obtain ⟨f1, f2⟩ := hF p hp
  by_cases hq : (F p).1 = true
  · rw [if_pos hq]
    obtain ⟨g1, g2, g3, g4⟩ := f2 hq
    have E := fun d hd => pEL_ok hF d hd 101 false (F p).2.1 (F p).2.2 f1 g3 (g4 d (by omega))
    refine ⟨(E 0 (by omega)).1, fun z => ?_⟩
    obtain ⟨k1, k2, k3, -⟩ := (E 0 (by omega)).2 z
    have b0 : bn false = 0 := rfl
    exact ⟨by omega, by omega, k3, fun d hd => ((E d hd).2 z).2.2.2⟩
  · rw [if_neg hq]
    exact ⟨f1, fun z => by cases z⟩
theorem pF_ok {T : Tp} : ∀ (d o : Nat), o ≤ 5 → ∀ p, p ≤ T.2 → rOk T (o + 1) p (pF T d o p)
  | 0, o, ho, p, hp => ⟨hp, fun z => by cases z⟩
  | d + 1, o, ho, p, hp => by
    rw [pF]
    by_cases h1 : sg T p = 33
    · rw [if_pos h1]
      by_cases h5 : 5 ≤ o
      · rw [if_pos h5]
        exact ⟨hp, fun z => by cases z⟩
      rw [if_neg h5]
      have i1 : p < T.2 := sg_in (by omega)
      obtain ⟨f1, f2⟩ := pF_ok (T := T) d (o + 1) (by omega) (p + 1) (by omega)
      by_cases hq : (pF T d (o + 1) (p + 1)).1 = true
      · rw [if_pos hq]
        obtain ⟨g1, g2, g3, g4⟩ := f2 hq
        refine ⟨f1, fun _ => ⟨by rw [List.length_append, List.length_singleton]; show p + (_ + 1) ≤ (pF T d (o + 1) (p + 1)).2.1; omega, by show p < (pF T d (o + 1) (p + 1)).2.1; omega, fun x hx => ?_, fun d2 hd2 => ?_⟩⟩
        · rcases List.mem_append.mp hx with hx | hx
          · exact g3 x hx
          · have : x = -1 := by simpa using hx
            rw [this]; exact stOk_n.1
        · rw [dep_app, g4 d2 (by omega)]
          exact dep_not d2
      · rw [if_neg hq]
        exact ⟨f1, fun z => by cases z⟩
    rw [if_neg h1]
    by_cases h2 : sg T p = 40
    · rw [if_pos h2]
      by_cases h5 : 5 ≤ o
      · rw [if_pos h5]
        exact ⟨hp, fun z => by cases z⟩
      rw [if_neg h5]
      have i1 : p < T.2 := sg_in (by omega)
      obtain ⟨f1, f2⟩ := pE_ok (o := o + 1) (pF_ok d (o + 1) (by omega)) (show p + 1 ≤ T.2 by omega)
      by_cases hq : (pE T (pF T d (o + 1)) (p + 1)).1 = true
      · rw [if_pos hq]
        obtain ⟨g1, g2, g3, g4⟩ := f2 hq
        by_cases h3 : sg T (pE T (pF T d (o + 1)) (p + 1)).2.1 = 41
        · rw [if_pos h3]
          have i2 : (pE T (pF T d (o + 1)) (p + 1)).2.1 < T.2 := sg_in (by omega)
          exact ⟨i2, fun _ => ⟨by show p + (pE T (pF T d (o + 1)) (p + 1)).2.2.length ≤ (pE T (pF T d (o + 1)) (p + 1)).2.1 + 1; omega, by show p < (pE T (pF T d (o + 1)) (p + 1)).2.1 + 1; omega, g3, g4⟩⟩
        · rw [if_neg h3]
          exact ⟨f1, fun z => by cases z⟩
      · rw [if_neg hq]
        exact ⟨f1, fun z => by cases z⟩
    · rw [if_neg h2]
      exact pT_ok (by omega) hp
/-! the words, the clauses -/
def wrd (i : Nat) : List Nat := [[115, 104, 117, 110, 32], [102, 105, 110, 101, 32], [102, 101, 119, 101, 114, 32], [108, 97, 119, 32], [112, 111, 107, 110, 100], [60, 61, 62], [105, 110, 101, 32], [101, 119, 101, 114, 32]].getD i []
theorem wrd_ok : ∀ i, i < 8 → (wrd i).length = lenJ.getD i 0 ∧ (wrd i).length < 8 ∧ ∀ k, k < 8 → (k < (wrd i).length → chJ i k = nI ((wrd i).getD k 0) ∧ (wrd i).getD k 0 < 128) := by decide +kernel
def pW (T : Tp) : List Nat → Nat → Bool × Nat
  | [], p => (true, p)
  | x :: xs, p => if sg T p = x then pW T xs (p + 1) else (false, p)
theorem pW_ok {T : Tp} : ∀ (xs : List Nat) (p : Nat), (∀ x ∈ xs, x < 128) → p ≤ T.2 → p ≤ (pW T xs p).2 ∧ (pW T xs p).2 ≤ T.2 ∧ ((pW T xs p).1 = true → (pW T xs p).2 = p + xs.length)
  | [], p, _, hp => ⟨Nat.le_refl _, hp, fun _ => rfl⟩
  | x :: xs, p, hx, hp => by
    rw [pW]
    by_cases h : sg T p = x
    · rw [if_pos h]
      have i1 : p < T.2 := sg_in (by have := hx x List.mem_cons_self; omega)
      obtain ⟨a, b, c⟩ := pW_ok (T := T) xs (p + 1) (fun y hy => hx y (List.mem_cons_of_mem _ hy)) (by omega)
      exact ⟨by omega, b, fun z => by rw [c z, List.length_cons]; omega⟩
    · rw [if_neg h]
      exact ⟨Nat.le_refl _, hp, fun z => by cases z⟩
abbrev St : Type := Nat × Nat × List Cl
abbrev Rc : Type := Bool × Nat × St
def pX (T : Tp) (p : Nat) : Rs := pE T (pF T 8 0) p
def kShun (T : Tp) (p : Nat) (S : St) : Rc := if (pW T (wrd 0) p).1 = true then (if (pX T (pW T (wrd 0) p).2).1 = true then (true, (pX T (pW T (wrd 0) p).2).2.1, (S.1, S.2.1, S.2.2 ++ [(0, 1, (pX T (pW T (wrd 0) p).2).2.2)])) else (false, (pX T (pW T (wrd 0) p).2).2.1, S)) else (false, (pW T (wrd 0) p).2, S)
def kFine2 (T : Tp) (n p : Nat) (S : St) : Rc := if sg T p = 32 then (if (pX T (p + 1)).1 = true then (true, (pX T (p + 1)).2.1, (S.1, S.2.1, S.2.2 ++ [(1, n, (pX T (p + 1)).2.2)])) else (false, (pX T (p + 1)).2.1, S)) else (false, p, S)
def kFine (T : Tp) (p : Nat) (S : St) : Rc := if (pW T (wrd 1) p).1 = true then (if (pN T (pW T (wrd 1) p).2).1 = true then kFine2 T (pN T (pW T (wrd 1) p).2).2.2 (pN T (pW T (wrd 1) p).2).2.1 S else (false, (pN T (pW T (wrd 1) p).2).2.1, S)) else (false, (pW T (wrd 1) p).2, S)
def kNum (T : Tp) (i : Nat) (g : Nat → St) (p : Nat) (S : St) : Rc := if (pW T (wrd i) p).1 = true then (if (pN T (pW T (wrd i) p).2).1 = true then (true, (pN T (pW T (wrd i) p).2).2.1, g (pN T (pW T (wrd i) p).2).2.2) else (false, (pN T (pW T (wrd i) p).2).2.1, S)) else (false, (pW T (wrd i) p).2, S)
def pK (T : Tp) (p : Nat) (S : St) : Rc := if sg T p = 102 then (if sg T (p + 1) = 101 then kNum T 2 (fun n => (n, S.2.1, S.2.2)) p S else kFine T p S) else if sg T p = 108 then kNum T 3 (fun n => (S.1, n, S.2.2)) p S else if sg T p = 115 then kShun T p S else (false, p, S)
def pR (T : Tp) : Nat → Nat → Nat → St → Rc
  | 0, _, p, S => (false, p, S)
  | r + 1, n, p, S => if (pK T p S).1 = true then (if T.2 ≤ (pK T p S).2.1 then (true, (pK T p S).2.1, (pK T p S).2.2) else if n = 10 ∨ ¬ sg T (pK T p S).2.1 = 59 then (false, (pK T p S).2.1, (pK T p S).2.2) else pR T r (n + 1) ((pK T p S).2.1 + 1) (pK T p S).2.2) else (false, (pK T p S).2.1, S)
def tot : List Cl → Nat
  | [] => 0
  | c :: r => c.2.2.length + tot r
theorem tot_app : ∀ (P Q : List Cl), tot (P ++ Q) = tot P + tot Q
  | [], Q => by rw [List.nil_append, tot, Nat.zero_add]
  | c :: r, Q => by rw [List.cons_append, tot, tot, tot_app r Q, Nat.add_assoc]
theorem flat_len : ∀ (P : List Cl), (flat P).length = tot P + P.length
  | [] => rfl
  | c :: r => by rw [flat_cons, List.length_append, List.length_cons, flat_len r, tot, List.length_cons]; omega
theorem flat_app (P Q : List Cl) : flat (P ++ Q) = flat P ++ flat Q := by
  unfold flat
  rw [List.flatMap_append]
/-- what was read of clauses up to a place, n clauses at most -/
def SOk (n p : Nat) (S : St) : Prop := S.1 < 100 ∧ S.2.1 < 100 ∧ WF S.2.2 ∧ S.2.2.length ≤ n ∧ tot S.2.2 ≤ p
theorem SOk.add {n p p2 : Nat} {S : St} {c : Cl} (h : SOk n p S) (h1 : (c.1 = 0 ∧ c.2.1 = 1) ∨ c.1 = 1) (h2 : c.2.1 < 100) (h3 : ∀ x ∈ c.2.2, stOk x) (h4 : dep c.2.2 0 = some 1) (h5 : p + c.2.2.length ≤ p2) : SOk (n + 1) p2 (S.1, S.2.1, S.2.2 ++ [c]) := by
  obtain ⟨a, b, d, e, f⟩ := h
  refine ⟨a, b, fun x hx => ?_, by show (S.2.2 ++ [c]).length ≤ n + 1; rw [List.length_append, List.length_singleton]; omega, by show tot (S.2.2 ++ [c]) ≤ p2; rw [tot_app, tot, tot]; omega⟩
  rcases List.mem_append.mp hx with hx | hx
  · exact d x hx
  · have : x = c := by simpa using hx
    rw [this]
    exact ⟨h1, h2, h3, h4⟩
theorem SOk.mono {n n2 p p2 : Nat} {S : St} (h : SOk n p S) (h1 : n ≤ n2) (h2 : p ≤ p2) : SOk n2 p2 S := ⟨h.1, h.2.1, h.2.2.1, Nat.le_trans h.2.2.2.1 h1, Nat.le_trans h.2.2.2.2 h2⟩
def cOk (T : Tp) (n p : Nat) (q : Rc) : Prop := q.2.1 ≤ T.2 ∧ (q.1 = true → p ≤ q.2.1 ∧ SOk (n + 1) q.2.1 q.2.2)
theorem wrd_lt : ∀ i, i < 8 → ∀ x ∈ wrd i, x < 128 := by decide +kernel
theorem pX_ok {T : Tp} {p : Nat} (hp : p ≤ T.2) : rOk T 0 p (pX T p) := pE_ok (o := 0) (pF_ok 8 0 (by omega)) hp
theorem kShun_ok {T : Tp} {n p : Nat} {S : St} (hp : p ≤ T.2) (hS : SOk n p S) : cOk T n p (kShun T p S) := by
  unfold kShun
  obtain ⟨w1, w2, w3⟩ := pW_ok (wrd 0) p (wrd_lt 0 (by omega)) hp
  by_cases h1 : (pW T (wrd 0) p).1 = true
  · rw [if_pos h1]
    obtain ⟨x1, x2⟩ := pX_ok w2
    by_cases h2 : (pX T (pW T (wrd 0) p).2).1 = true
    · rw [if_pos h2]
      obtain ⟨y1, y2, y3, y4⟩ := x2 h2
      exact ⟨x1, fun _ => ⟨by show p ≤ (pX T (pW T (wrd 0) p).2).2.1; omega, hS.add (Or.inl ⟨rfl, rfl⟩) (by show 1 < 100; omega) y3 (y4 0 (by omega)) (by show p + (pX T (pW T (wrd 0) p).2).2.2.length ≤ (pX T (pW T (wrd 0) p).2).2.1; omega)⟩⟩
    · rw [if_neg h2]
      exact ⟨x1, fun z => by cases z⟩
  · rw [if_neg h1]
    exact ⟨w2, fun z => by cases z⟩
theorem kFine2_ok {T : Tp} {n p m : Nat} {S : St} (hp : p ≤ T.2) (hm : m < 100) (hS : SOk n p S) : cOk T n p (kFine2 T m p S) := by
  unfold kFine2
  by_cases h1 : sg T p = 32
  · rw [if_pos h1]
    have i1 : p < T.2 := sg_in (by omega)
    obtain ⟨x1, x2⟩ := pX_ok (T := T) (p := p + 1) (by omega)
    by_cases h2 : (pX T (p + 1)).1 = true
    · rw [if_pos h2]
      obtain ⟨y1, y2, y3, y4⟩ := x2 h2
      exact ⟨x1, fun _ => ⟨by show p ≤ (pX T (p + 1)).2.1; omega, hS.add (Or.inr rfl) hm y3 (y4 0 (by omega)) (by show p + (pX T (p + 1)).2.2.length ≤ (pX T (p + 1)).2.1; omega)⟩⟩
    · rw [if_neg h2]
      exact ⟨x1, fun z => by cases z⟩
  · rw [if_neg h1]
    exact ⟨hp, fun z => by cases z⟩
theorem kFine_ok {T : Tp} {n p : Nat} {S : St} (hp : p ≤ T.2) (hS : SOk n p S) : cOk T n p (kFine T p S) := by
  unfold kFine
  obtain ⟨w1, w2, w3⟩ := pW_ok (wrd 1) p (wrd_lt 1 (by omega)) hp
  by_cases h1 : (pW T (wrd 1) p).1 = true
  · rw [if_pos h1]
    have hN := pN_ok w2
    by_cases h2 : (pN T (pW T (wrd 1) p).2).1 = true
    · rw [if_pos h2]
      obtain ⟨k1, k2⟩ := kFine2_ok (n := n) (S := S) hN.2.1 hN.2.2.1 (hS.mono (Nat.le_refl _) (by omega))
      exact ⟨k1, fun z => ⟨by have := (k2 z).1; omega, (k2 z).2⟩⟩
    · rw [if_neg h2]
      exact ⟨hN.2.1, fun z => by cases z⟩
  · rw [if_neg h1]
    exact ⟨w2, fun z => by cases z⟩
theorem kNum_ok {T : Tp} {n p i : Nat} {g : Nat → St} {S : St} (hi : i < 8) (hp : p ≤ T.2) (hg : ∀ m p2, m < 100 → p ≤ p2 → SOk (n + 1) p2 (g m)) : cOk T n p (kNum T i g p S) := by
  unfold kNum
  obtain ⟨w1, w2, w3⟩ := pW_ok (wrd i) p (wrd_lt i hi) hp
  by_cases h1 : (pW T (wrd i) p).1 = true
  · rw [if_pos h1]
    have hN := pN_ok w2
    by_cases h2 : (pN T (pW T (wrd i) p).2).1 = true
    · rw [if_pos h2]
      exact ⟨hN.2.1, fun _ => ⟨by show p ≤ (pN T (pW T (wrd i) p).2).2.1; omega, hg _ _ hN.2.2.1 (by show p ≤ (pN T (pW T (wrd i) p).2).2.1; omega)⟩⟩
    · rw [if_neg h2]
      exact ⟨hN.2.1, fun z => by cases z⟩
  · rw [if_neg h1]
    exact ⟨w2, fun z => by cases z⟩
theorem pK_ok {T : Tp} {n p : Nat} {S : St} (hp : p ≤ T.2) (hS : SOk n p S) : cOk T n p (pK T p S) := by
  unfold pK
  split
  · split
    · exact kNum_ok (by omega) hp (fun m p2 hm h2 => ⟨hm, hS.2.1, hS.2.2.1, by have := hS.2.2.2.1; show S.2.2.length ≤ n + 1; omega, by have := hS.2.2.2.2; show tot S.2.2 ≤ p2; omega⟩)
    · exact kFine_ok hp hS
  · split
    · exact kNum_ok (by omega) hp (fun m p2 hm h2 => ⟨hS.1, hm, hS.2.2.1, by have := hS.2.2.2.1; show S.2.2.length ≤ n + 1; omega, by have := hS.2.2.2.2; show tot S.2.2 ≤ p2; omega⟩)
    · split
      · exact kShun_ok hp hS
      · exact ⟨hp, fun z => by cases z⟩
