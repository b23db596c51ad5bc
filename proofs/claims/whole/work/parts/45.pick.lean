/-! whom one chooses -/
theorem pc_le (h : Nat) : pc h ≤ 7 := by unfold pc; omega
theorem pc_wo : ∀ a, a < 128 → ∀ x, x < 7 → a.testBit x = true → pc (wo a (2 ^ x)) + 1 = pc a := by decide +kernel
theorem pc_0 : ∀ a, a < 128 → pc a = 0 → a = 0 := by decide +kernel
theorem or_in : ∀ a, a < 128 → ∀ x, x < 7 → a.testBit x = true → a ||| 2 ^ x = a := by decide +kernel
theorem and_in : ∀ a, a < 128 → ∀ x, x < 7 → a &&& 2 ^ x = if a.testBit x = true then 2 ^ x else 0 := by decide +kernel
theorem pc_or : ∀ a, a < 128 → ∀ x, x < 7 → pc (a ||| 2 ^ x) = if a.testBit x = true then pc a else pc a + 1 := by decide +kernel
theorem pc_sub : ∀ a, a < 128 → ∀ b, b < 128 → b &&& a = b → pc (wo a b) + pc b = pc a := by decide +kernel
theorem wo_or : ∀ a, a < 128 → ∀ b, b < 128 → ∀ x, x < 7 → wo a (b ||| 2 ^ x) = wo (wo a b) (2 ^ x) := by
  intro a ha b _ x _
  apply Nat.eq_of_testBit_eq
  intro i
  unfold wo
  simp only [Nat.testBit_and, Nat.testBit_xor, Nat.testBit_or]
  by_cases hi : i < 7
  · have h7 : ∀ p, p < 7 → Nat.testBit 127 p = true := by decide
    rw [h7 i hi]
    cases a.testBit i <;> cases b.testBit i <;> cases (2 ^ x).testBit i <;> rfl
  · rw [Nat.testBit_lt_two_pow (x := a) (Nat.lt_of_lt_of_le ha (Nat.pow_le_pow_right (n := 2) (i := 7) (by omega) (by omega)))]
    simp
theorem sub_or : ∀ a, a < 128 → ∀ b, b < 128 → ∀ x, x < 7 → b &&& a = b → a.testBit x = true → (b ||| 2 ^ x) &&& a = b ||| 2 ^ x := by
  intro a ha b _ x hx h1 h2
  rw [Nat.and_or_distrib_right, h1, Nat.and_comm (2 ^ x), and_in a ha x hx, if_pos h2]
theorem wo_0 : ∀ a, a < 128 → wo a 0 = a := by decide +kernel
theorem wo_ltn {a b n : Nat} (ha : a < 2 ^ n) : wo a b < 2 ^ n := Nat.lt_of_le_of_lt Nat.and_le_left ha
def ahd (c : Cx) (k later earlier : Nat) : Bool := if k = 1 ∨ k = 4 then decide (pc (cB c earlier) < pc (cB c later)) else decide (k = 3 ∨ k = 6)
def scanL (c : Cx) (k rest : Nat) : Nat → Nat → Nat → Nat
  | 0, _, cur => cur
  | r + 1, j, cur => scanL c k rest r (j + 1) (if rest.testBit j = true ∧ (cur = 7 ∨ ahd c k j cur = true) then j else cur)
def oi (x : Nat) : Int32 := if x = 7 then -1 else nI x
theorem scan_ok (c : Cx) (k rest n : Nat) (hn : n ≤ 7) : ∀ (r j cur : Nat), r + j = n → (cur = 7 ∨ (cur < n ∧ rest.testBit cur = true)) → (scanL c k rest r j cur < n ∧ rest.testBit (scanL c k rest r j cur) = true) ∨ (scanL c k rest r j cur = 7 ∧ cur = 7 ∧ ∀ p, j ≤ p → p < n → rest.testBit p = false)
  | 0, j, cur, hj, h => by
    rw [scanL]
    rcases h with h | h
    · exact Or.inr ⟨h, h, fun p a b => by omega⟩
    · exact Or.inl h
  | r + 1, j, cur, hj, h => by
    rw [scanL]
    by_cases hb : rest.testBit j = true
    · by_cases ha : cur = 7 ∨ ahd c k j cur = true
      · rw [if_pos ⟨hb, ha⟩]
        rcases scan_ok c k rest n hn r (j + 1) j (by omega) (Or.inr ⟨by omega, hb⟩) with g | g
        · exact Or.inl g
        · omega
      · rw [if_neg (fun z => ha z.2)]
        have hc : cur ≠ 7 := fun z => ha (Or.inl z)
        rcases scan_ok c k rest n hn r (j + 1) cur (by omega) h with g | g
        · exact Or.inl g
        · exact absurd g.2.1 hc
    · rw [if_neg (fun z => hb z.1)]
      rcases scan_ok c k rest n hn r (j + 1) cur (by omega) h with g | ⟨g1, g2, g3⟩
      · exact Or.inl g
      · refine Or.inr ⟨g1, g2, fun p a b => ?_⟩
        by_cases hp : p = j
        · subst hp; simpa using hb
        · exact g3 p (by omega) b
theorem bit_ex {rest n : Nat} (h0 : rest ≠ 0) (h : rest < 2 ^ n) : ∃ p, p < n ∧ rest.testBit p = true := by
  obtain ⟨p, hp⟩ := Nat.exists_testBit_of_ne_zero h0
  refine ⟨p, ?_, hp⟩
  apply Decidable.byContradiction
  intro hn
  have : rest.testBit p = false := Nat.testBit_lt_two_pow (Nat.lt_of_lt_of_le h (Nat.pow_le_pow_right (by omega) (by omega)))
  rw [this] at hp
  cases hp
theorem scan_bit {c : Cx} {k rest : Nat} (hn : cN c ≤ 7) (h0 : rest ≠ 0) (h : rest < 2 ^ cN c) : scanL c k rest (cN c) 0 7 < cN c ∧ rest.testBit (scanL c k rest (cN c) 0 7) = true := by
  rcases scan_ok c k rest (cN c) hn (cN c) 0 7 (by omega) (Or.inl rfl) with g | ⟨g1, g2, g3⟩
  · exact g
  · obtain ⟨p, hp, hb⟩ := bit_ex h0 h
    rw [g3 p (by omega) hp] at hb
    cases hb
def rowL (c : Cx) (one rest : Nat) : Nat → Nat → Option Nat
  | 0, _ => none
  | r + 1, j => if rest.testBit (cR c (7 * one + j)) = true then some (cR c (7 * one + j)) else rowL c one rest r (j + 1)
theorem rowL_none (c : Cx) (one rest z : Nat) (h : ∀ k, k < z → rest.testBit (cR c (7 * one + k)) = false) : ∀ (r j : Nat), r + j = z → rowL c one rest r j = none
  | 0, _, _ => rfl
  | r + 1, j, e => by
    rw [rowL, if_neg (by rw [h j (by omega)]; decide)]
    exact rowL_none c one rest z h r (j + 1) (by omega)
theorem rowL_some (c : Cx) (one rest z i : Nat) (hi : i < z) (h : ∀ k, k < i → rest.testBit (cR c (7 * one + k)) = false) (hb : rest.testBit (cR c (7 * one + i)) = true) : ∀ (r j : Nat), r + j = z → j ≤ i → rowL c one rest r j = some (cR c (7 * one + i))
  | 0, j, e, hj => by omega
  | r + 1, j, e, hj => by
    rw [rowL]
    by_cases hji : j = i
    · subst hji
      rw [if_pos hb]
    · rw [if_neg (by rw [h j (by omega)]; decide)]
      exact rowL_some c one rest z i hi h hb r (j + 1) (by omega) (by omega)
theorem rowL_bit (c : Cx) (one rest : Nat) : ∀ (r j x : Nat), rowL c one rest r j = some x → rest.testBit x = true
  | 0, _, _, h => by rw [rowL] at h; cases h
  | r + 1, j, x, h => by
    rw [rowL] at h
    split at h
    · rename_i hb
      rw [← Option.some.inj h]; exact hb
    · exact rowL_bit c one rest r (j + 1) x h
def firF (c : Cx) (one rest : Nat) : Nat := match rowL c one rest (cZ c one) 0 with
  | some x => x
  | none => scanL c (cK c one) rest (cN c) 0 7
theorem fir_bit {c : Cx} {one rest : Nat} (hn : cN c ≤ 7) (h0 : rest ≠ 0) (h : rest < 2 ^ cN c) : firF c one rest < cN c ∧ rest.testBit (firF c one rest) = true := by
  unfold firF
  split
  · rename_i x hx
    have hb := rowL_bit c one rest _ _ _ hx
    refine ⟨?_, hb⟩
    apply Decidable.byContradiction
    intro hl
    rw [Nat.testBit_lt_two_pow (Nat.lt_of_lt_of_le h (Nat.pow_le_pow_right (by omega) (by omega)))] at hb
    cases hb
  · exact scan_bit hn h0 h
def choL (c : Cx) (one asked : Nat) : Nat → Nat → Nat → Nat → Nat
  | 0, _, acc, _ => acc
  | r + 1, rest, acc, i => if asked ≤ i ∨ rest = 0 then acc else choL c one asked r (wo rest (2 ^ firF c one rest)) (acc ||| 2 ^ firF c one rest) (i + 1)
def choF (c : Cx) (w : Wd) (one : Nat) : Nat := choL c one (askF c w one) 8 (mayF c w one) 0 0
theorem cho_bit {c : Cx} {one asked : Nat} (hn : cN c ≤ 7) (p : Nat) (hp : p < 7) : ∀ (r rest acc i : Nat), rest < 2 ^ cN c → acc < 128 → (choL c one asked r rest acc i).testBit p = true → acc.testBit p = true ∨ rest.testBit p = true
  | 0, _, _, _, _, _, h => Or.inl h
  | r + 1, rest, acc, i, hr, ha, h => by
    rw [choL] at h
    split at h
    · exact Or.inl h
    · rename_i hc
      have h0 : rest ≠ 0 := fun z => hc (Or.inr z)
      obtain ⟨f1, f2⟩ := fir_bit (one := one) hn h0 hr
      have hr7 : rest < 128 := lt128 hr hn
      rcases cho_bit hn p hp r _ _ (i + 1) (wo_ltn hr) (Nat.or_lt_two_pow (n := 7) ha (pow_lt (by omega))) h with g | g
      · rw [Nat.testBit_or, Bool.or_eq_true] at g
        rcases g with g | g
        · exact Or.inl g
        · rw [Nat.testBit_two_pow] at g
          have e : firF c one rest = p := of_decide_eq_true g
          rw [e] at f2
          exact Or.inr f2
      · rw [wo_bit rest hr7 _ (pow_lt (by omega)) p hp, Bool.and_eq_true] at g
        exact Or.inr g.1
theorem cho_lt {c : Cx} {one asked : Nat} (hn : cN c ≤ 7) : ∀ (r rest acc i : Nat), rest < 2 ^ cN c → acc < 2 ^ cN c → choL c one asked r rest acc i < 2 ^ cN c
  | 0, _, _, _, _, h => h
  | r + 1, rest, acc, i, hr, ha => by
    rw [choL]
    split
    · exact ha
    · rename_i hc
      have h0 : rest ≠ 0 := fun z => hc (Or.inr z)
      obtain ⟨f1, f2⟩ := fir_bit (one := one) hn h0 hr
      exact cho_lt hn r _ _ (i + 1) (wo_ltn hr) (Nat.or_lt_two_pow ha (Nat.pow_lt_pow_right (by omega) f1))
theorem cho_pc {c : Cx} {one asked : Nat} (hn : cN c ≤ 7) : ∀ (r rest acc i : Nat), rest < 2 ^ cN c → acc < 128 → pc acc ≤ i → i ≤ asked → pc (choL c one asked r rest acc i) ≤ asked
  | 0, _, _, _, _, _, h, h2 => by rw [choL]; omega
  | r + 1, rest, acc, i, hr, ha, h, h2 => by
    rw [choL]
    split
    · omega
    · rename_i hc
      have h0 : rest ≠ 0 := fun z => hc (Or.inr z)
      have h3 : ¬ asked ≤ i := fun z => hc (Or.inl z)
      obtain ⟨f1, f2⟩ := fir_bit (one := one) hn h0 hr
      refine cho_pc hn r _ _ (i + 1) (wo_ltn hr) (Nat.or_lt_two_pow (n := 7) ha (pow_lt (by omega))) ?_ (by omega)
      have := pc_or acc ha (firF c one rest) (by omega)
      split at this <;> omega
theorem ahead_c {N k later earlier : Nat} {c : Cx} {u : MM} {K : Int32 → MM → Prop} (hc : CxOk c) (hu : CxU u c) (hk : k < 7) (h1 : later < 7) (h2 : earlier < 7) (q : K (nI (bn (ahd c k later earlier))) u) : wX2_isAhead N (nI k) (nI later) (nI earlier) u K := by
  have e1 : nI k = 1 ↔ k = 1 := nI_eq (b := 1) (by omega) (by omega)
  have e3 : nI k = 3 ↔ k = 3 := nI_eq (b := 3) (by omega) (by omega)
  have e4 : nI k = 4 ↔ k = 4 := nI_eq (b := 4) (by omega) (by omega)
  have e6 : nI k = 6 ↔ k = 6 := nI_eq (b := 6) (by omega) (by omega)
  have sub : (k = 1 ∨ k = 4) → wX2_isAhead_b10 N K (nI later) (nI earlier) u := by
    intro z
    unfold ahd at q
    rw [if_pos z] at q
    refine ⟨vp7 h1, ?_⟩
    rw [cl7 (by omega), (hu.2.1 later h1).2.2.1]
    refine bc_val (hc.2.1 later h1).2.2.1 ⟨vp7 h2, ?_⟩
    rw [cl7 (by omega), (hu.2.1 earlier h2).2.2.1]
    refine bc_val (hc.2.1 earlier h2).2.2.1 ?_
    have p1 := pc_le (cB c later)
    have p2 := pc_le (cB c earlier)
    by_cases hq : pc (cB c earlier) < pc (cB c later)
    · rw [decide_eq_true hq] at q
      exact b_f (nI_ge hq (by omega)) q
    · rw [decide_eq_false hq] at q
      exact b_t (nI_le (by omega) (by omega)) q
  by_cases c1 : k = 1
  · exact b_t (e1.mpr c1) (sub (Or.inl c1))
  refine b_f (fun z => c1 (e1.mp z)) ?_
  by_cases c4 : k = 4
  · exact n_f (e4.mpr c4) (sub (Or.inr c4))
  refine n_t (fun z => c4 (e4.mp z)) ?_
  unfold ahd at q
  rw [if_neg (by omega)] at q
  by_cases c3 : k = 3
  · rw [decide_eq_true (Or.inl c3)] at q
    exact b_t (e3.mpr c3) q
  refine b_f (fun z => c3 (e3.mp z)) ?_
  by_cases c6 : k = 6
  · rw [decide_eq_true (Or.inr c6)] at q
    exact n_f (e6.mpr c6) q
  · rw [decide_eq_false (by omega)] at q
    exact n_t (fun z => c6 (e6.mp z)) q
theorem next_lp (N k rest : Nat) (c : Cx) (u : MM) (K : Int32 → MM → Prop) (hc : CxOk c) (hu : CxU u c) (hk : k < 7) (hr : rest < 128) (x : Nat) (q : K (if x = 7 then 0 else nI (2 ^ x)) u) : ∀ (r j cur fl : Nat), r + j = cN c → r < fl → cur ≤ 7 → scanL c k rest r j cur = x → wX2_pickNext_b5 N K fl (nI k) (nI rest) (oi cur) (nI j) u := by
  have hn := hc.1
  intro r
  induction r with
  | zero =>
    intro j cur fl hj hf hcu he
    obtain ⟨g, rfl⟩ : ∃ g, fl = g + 1 := ⟨fl - 1, by omega⟩
    have he2 : cur = x := he
    subst he2
    refine b_t (by rw [hu.1]; exact nI_le (by omega) (by omega)) ?_
    by_cases h7 : cur = 7
    · rw [if_pos h7] at q
      exact n_f (by unfold oi; rw [if_pos h7]) q
    · rw [if_neg h7] at q
      have e : oi cur = nI cur := by unfold oi; rw [if_neg h7]
      rw [e]
      exact n_t (nI_m1 (by omega)) (by rw [shl_val cur (by omega)]; exact q)
  | succ r ih =>
    intro j cur fl hj hf hcu he
    obtain ⟨g, rfl⟩ : ∃ g, fl = g + 1 := ⟨fl - 1, by omega⟩
    have hj7 : j < 7 := by omega
    rw [scanL] at he
    have stay : ¬ (rest.testBit j = true ∧ (cur = 7 ∨ ahd c k j cur = true)) → wX2_pickNext_b42 N K (wX2_pickNext_b5 N K g) (nI k) (nI rest) (oi cur) (nI j) u := by
      intro z y9 e9
      rw [i_one] at e9
      subst e9
      rw [if_neg z] at he
      exact ih (j + 1) cur g (by omega) (by omega) hcu he
    have take : (rest.testBit j = true ∧ (cur = 7 ∨ ahd c k j cur = true)) → wX2_pickNext_b39 N K (wX2_pickNext_b5 N K g) (nI k) (nI rest) (nI j) u := by
      intro z y9 e9
      rw [i_one] at e9
      subst e9
      rw [if_pos z] at he
      have := ih (j + 1) j g (by omega) (by omega) (by omega) he
      have e : oi j = nI j := by unfold oi; rw [if_neg (by omega)]
      rw [e] at this
      exact this
    refine b_f (by rw [hu.1]; exact nI_ge (by omega) (by omega)) ?_
    cases hb : rest.testBit j
    · exact hb_no hr hj7 hb (b_t rfl (stay (fun z => by rw [hb] at z; exact absurd z.1 (by decide))))
    · refine hb_yes hr hj7 hb (b_f (by decide) ?_)
      by_cases h7 : cur = 7
      · exact b_t (by unfold oi; rw [if_pos h7]) (take ⟨hb, Or.inl h7⟩)
      · have e : oi cur = nI cur := by unfold oi; rw [if_neg h7]
        rw [e] at stay ⊢
        refine b_f (nI_m1 (by omega)) (ahead_c hc hu hk hj7 (by omega) ?_)
        cases ha : ahd c k j cur
        · exact b_t rfl (stay (fun z => by rcases z.2 with y | y; exact h7 y; rw [ha] at y; cases y))
        · exact b_f (by decide) (take ⟨hb, Or.inr ha⟩)
theorem next_c {N k rest : Nat} {c : Cx} {u : MM} {K : Int32 → MM → Prop} (hN : 10 ≤ N) (hc : CxOk c) (hu : CxU u c) (hk : k < 7) (hr : rest < 128) (q : K (if scanL c k rest (cN c) 0 7 = 7 then 0 else nI (2 ^ scanL c k rest (cN c) 0 7)) u) : wX2_pickNext N (nI k) (nI rest) u K :=
  next_lp N k rest c u K hc hu hk hr _ q (cN c) 0 7 N (by omega) (by have := hc.1; omega) (by omega) rfl
theorem pick_lp (N one may asked L : Nat) (c : Cx) (u : MM) (K : Int32 → MM → Prop) (hN : 10 ≤ N) (hc : CxOk c) (hu : CxU u c) (h1 : one < 7) (hm : may < 2 ^ cN c) (hL : L ≤ 20) : ∀ (d i acc ci r fl : Nat), d + i = L → d ≤ asked - ci → d ≤ pc (wo may acc) → (asked - ci ≤ d ∨ pc (wo may acc) ≤ d) → (0 < d → ∀ k, k < cZ c one → (wo may acc).testBit (cR c (7 * one + k)) = false) → pc (wo may acc) < r → d < fl → acc < 128 → K (nI (choL c one asked r (wo may acc) acc ci)) u → wX2_pick_b47 N K fl (nI one) (nI may) (nI L) (nI acc) (nI i) u := by
  have hn := hc.1
  have hm7 : may < 128 := lt128 hm hn
  intro d
  induction d with
  | zero =>
    intro i acc ci r fl hi h2 h3 h4 h5 h6 hf ha q
    obtain ⟨g, rfl⟩ : ∃ g, fl = g + 1 := ⟨fl - 1, by omega⟩
    obtain ⟨r, rfl⟩ : ∃ g, r = g + 1 := ⟨r - 1, by omega⟩
    refine b_t (nI_le (by omega) (by omega)) ?_
    rw [choL, if_pos ?_] at q
    · exact q
    · rcases h4 with h4 | h4
      · exact Or.inl (by omega)
      · exact Or.inr (pc_0 _ (wo_lt hm7) (by omega))
  | succ d ih =>
    intro i acc ci r fl hi h2 h3 h4 h5 h6 hf ha q
    obtain ⟨g, rfl⟩ : ∃ g, fl = g + 1 := ⟨fl - 1, by omega⟩
    obtain ⟨r, rfl⟩ : ∃ g, r = g + 1 := ⟨r - 1, by omega⟩
    have h0 : wo may acc ≠ 0 := fun z => by rw [z] at h3; simp [pc] at h3
    have hr : wo may acc < 2 ^ cN c := wo_ltn hm
    have hr7 : wo may acc < 128 := wo_lt hm7
    obtain ⟨s1, s2⟩ := scan_bit (k := cK c one) hn h0 hr
    have ef : firF c one (wo may acc) = scanL c (cK c one) (wo may acc) (cN c) 0 7 := by
      unfold firF
      rw [rowL_none c one (wo may acc) (cZ c one) (h5 (by omega)) (cZ c one) 0 (by omega)]
    rw [choL, if_neg (by omega), ef] at q
    refine b_f (nI_ge (by omega) (by omega)) ⟨vp7 h1, ?_⟩
    rw [cl7 (by omega), (hu.2.1 one h1).1, wo_val may hm7 acc ha]
    refine next_c hN hc hu (hc.2.1 one h1).1 hr7 ?_
    rw [if_neg (by omega), nor_]
    intro y11 e11 y12 e12
    rw [i_one] at e12
    subst e11 e12
    have hp := pc_wo (wo may acc) hr7 _ (by omega) s2
    rw [← wo_or may hm7 acc ha _ (by omega)] at hp q
    refine ih (i + 1) _ (ci + 1) r g (by omega) (by omega) (by omega) (by omega) (fun z k hk => ?_) (by omega) (by omega) (Nat.or_lt_two_pow (n := 7) ha (pow_lt (by omega))) q
    have hz := h5 (by omega) k hk
    have hR : cR c (7 * one + k) < 7 := hc.2.2.1 _ (by have := (hc.2.1 one h1).2.2.2.1; omega)
    rw [wo_or may hm7 acc ha _ (by omega), wo_bit (wo may acc) hr7 _ (pow_lt (by omega)) _ hR, hz, Bool.false_and]
theorem row_lp (N one may asked M : Nat) (c : Cx) (u : MM) (K : Int32 → MM → Prop) (hc : CxOk c) (hu : CxU u c) (h1 : one < 7) (hm : may < 2 ^ cN c) (hM : M ≤ asked) (hM2 : M ≤ pc may) (tg : Nat) (q : ∀ acc r : Nat, acc < 128 → acc &&& may = acc → pc acc ≤ M → (M ≤ pc acc ∨ ∀ k, k < cZ c one → (wo may acc).testBit (cR c (7 * one + k)) = false) → pc (wo may acc) < r → choL c one asked r (wo may acc) acc (pc acc) = tg → K (nI acc) u) : ∀ (d j acc r fl : Nat), d + j = cZ c one → acc < 128 → acc &&& may = acc → pc acc ≤ M → (∀ k, k < j → (wo may acc).testBit (cR c (7 * one + k)) = false) → pc (wo may acc) < r → d < fl → choL c one asked r (wo may acc) acc (pc acc) = tg → wX2_pickFromRow_b6 N K fl (nI one) (nI may) (nI M) (nI acc) (nI j) u := by
  have hn := hc.1
  have hm7 : may < 128 := lt128 hm hn
  have hz7 := (hc.2.1 one h1).2.2.2.1
  intro d
  induction d with
  | zero =>
    intro j acc r fl hj ha hs hp hb hr hf he
    obtain ⟨g, rfl⟩ : ∃ g, fl = g + 1 := ⟨fl - 1, by omega⟩
    refine ⟨vp7 h1, ?_⟩
    rw [cl7 (by omega), (hu.2.1 one h1).2.2.2]
    exact b_t (nI_le (by omega) (by omega)) (q acc r ha hs hp (Or.inr (fun k hk => hb k (by omega))) hr he)
  | succ d ih =>
    intro j acc r fl hj ha hs hp hb hr hf he
    obtain ⟨g, rfl⟩ : ∃ g, fl = g + 1 := ⟨fl - 1, by omega⟩
    refine ⟨vp7 h1, ?_⟩
    rw [cl7 (by omega), (hu.2.1 one h1).2.2.2]
    refine b_f (nI_ge (by omega) (by omega)) (bc_val ha ?_)
    have pl := pc_le may
    by_cases hfull : M ≤ pc acc
    · exact b_t (nI_le hfull (by have := pc_le acc; omega)) (q acc r ha hs hp (Or.inl hfull) hr he)
    refine b_f (nI_ge (by omega) (by omega)) ?_
    have hR : cR c (7 * one + j) < 7 := hc.2.2.1 _ (by omega)
    have ix : nI one * 7 + nI j = nI (7 * one + j) := by rw [show (7 : Int32) = nI 7 from rfl, pk_mul, nI_add, Nat.mul_comm]
    rw [ix, nI_clamp (by omega), hu.2.2.1 _ (by omega), shl_val _ hR, nand_, nor_]
    refine ⟨vp_in_nI (by omega) (by omega), fun y4 e4 y5 e5 => ?_⟩
    rw [i_one] at e5
    subst e4 e5
    have hr7 : wo may acc < 128 := wo_lt hm7
    have wb := wo_bit may hm7 acc ha _ hR
    rw [and_in may hm7 _ hR]
    have psub := pc_sub may hm7 acc ha hs
    by_cases hin : (wo may acc).testBit (cR c (7 * one + j)) = true
    · rw [hin] at wb
      have wb2 := wb.symm
      rw [Bool.and_eq_true] at wb2
      have na : acc.testBit (cR c (7 * one + j)) = false := by simpa using wb2.2
      rw [if_pos wb2.1]
      obtain ⟨r, rfl⟩ : ∃ g, r = g + 1 := ⟨r - 1, by omega⟩
      have h0 : wo may acc ≠ 0 := fun z => by rw [z, Nat.zero_testBit] at hin; cases hin
      have ef : firF c one (wo may acc) = cR c (7 * one + j) := by
        unfold firF
        rw [rowL_some c one (wo may acc) (cZ c one) j (by omega) hb hin (cZ c one) 0 (by omega) (by omega)]
      have hp1 := pc_or acc ha _ hR
      rw [if_neg (by rw [na]; decide)] at hp1
      have hpw := pc_wo (wo may acc) hr7 _ hR hin
      rw [← wo_or may hm7 acc ha _ hR] at hpw
      have l2 : acc ||| 2 ^ cR c (7 * one + j) < 128 := Nat.or_lt_two_pow (n := 7) ha (pow_lt hR)
      rw [choL, if_neg (by omega), ef, ← wo_or may hm7 acc ha _ hR, ← hp1] at he
      refine ih (j + 1) _ r g (by omega) l2 (sub_or may hm7 acc ha _ hR hs wb2.1) (by omega) (fun k hk => ?_) (by omega) (by omega) he
      have hRk : cR c (7 * one + k) < 7 := hc.2.2.1 _ (by omega)
      rw [wo_or may hm7 acc ha _ hR, wo_bit (wo may acc) hr7 _ (pow_lt hR) _ hRk]
      by_cases hkj : k = j
      · subst hkj
        rw [Nat.testBit_two_pow, decide_eq_true rfl]
        simp
      · rw [hb k (by omega), Bool.false_and]
    · have hout : (wo may acc).testBit (cR c (7 * one + j)) = false := by simpa using hin
      have same : acc ||| (if may.testBit (cR c (7 * one + j)) = true then 2 ^ cR c (7 * one + j) else 0) = acc := by
        split
        · rename_i hmb
          rw [hout, hmb, Bool.true_and] at wb
          exact or_in acc ha _ hR (by simpa using wb)
        · exact Nat.or_zero acc
      rw [same]
      refine ih (j + 1) acc r g (by omega) ha hs hp (fun k hk => ?_) hr (by omega) he
      by_cases hkj : k = j
      · subst hkj; exact hout
      · exact hb k (by omega)
theorem pick_c {N one may asked : Nat} {c : Cx} {u : MM} {K : Int32 → MM → Prop} (hN : 20 ≤ N) (hc : CxOk c) (hu : CxU u c) (h1 : one < 7) (hm : may < 2 ^ cN c) (ha : asked ≤ 10) (q : K (nI (choL c one asked 8 may 0 0)) u) : wX2_pick N (nI one) (nI may) (nI asked) u K := by
  have hn := hc.1
  have hm7 : may < 128 := lt128 hm hn
  have pl := pc_le may
  refine bc_val hm7 (fun y2 e2 => ⟨vp7 h1, ?_⟩)
  have e2' : ∃ M, y2 = nI M ∧ M ≤ asked ∧ M ≤ pc may ∧ (asked ≤ M ∨ pc may ≤ M) := by
    by_cases hl : pc may < asked
    · rw [if_pos (nl_lt hl (by omega))] at e2
      exact ⟨pc may, e2, by omega, by omega, by omega⟩
    · rw [if_neg (nI_nlt (by omega) (by omega))] at e2
      exact ⟨asked, e2, by omega, by omega, by omega⟩
  obtain ⟨M, rfl, m1, m2, m3⟩ := e2'
  rw [cl7 (by omega), (hu.2.1 one h1).1]
  have e6 : nI (cK c one) = 6 ↔ cK c one = 6 := nI_eq (b := 6) (by have := (hc.2.1 one h1).1; omega) (by omega)
  have w0 := wo_0 may hm7
  by_cases h6 : cK c one = 6
  · refine n_f (e6.mpr h6) ?_
    refine row_lp N one may asked M c u _ hc hu h1 hm m1 m2 (choL c one asked 8 may 0 0) (fun acc r a1 a2 a3 a4 a5 a6 => ?_) (cZ c one) 0 0 8 N (by omega) (by omega) (by simp) (by simp [pc]) (fun k hk => by omega) (by rw [w0]; omega) (by have := (hc.2.1 one h1).2.2.2.1; omega) (by rw [w0]; rfl)
    refine bc_val a1 (fun y7 e7 => ?_)
    rw [pk_sub a3] at e7
    subst e7
    have psub := pc_sub may hm7 acc a1 a2
    rw [← a6] at q
    exact pick_lp N one may asked (M - pc acc) c u K (by omega) hc hu h1 hm (by omega) (M - pc acc) 0 acc (pc acc) r N (by omega) (by omega) (by omega) (by omega) (fun z => by rcases a4 with y | y; omega; exact y) a5 (by omega) a1 q
  · refine n_t (fun z => h6 (e6.mp z)) ?_
    have hz := (hc.2.1 one h1).2.2.2.2 h6
    refine pick_lp N one may asked M c u K (by omega) hc hu h1 hm (by omega) M 0 0 0 8 N (by omega) (by omega) (by rw [w0]; omega) (by rw [w0]; omega) (fun z k hk => by omega) (by rw [w0]; omega) (by omega) (by omega) (by rw [w0]; exact q)
