/-! The frame of all that follows: a world is n cells at addresses q 0 .. q (n-1), what a cell holds is said by 'ent' out of a row of numbers. -/
abbrev MM : Type := Nat → Nat → Int32
def jw (n : Nat) (q : Nat → Nat) (ent : Nat → (Nat → Int32) → va_E) (u : MM) : va_W := (List.range n).map (fun k => (q k, ent k (u k)))
def up (u : MM) (k j : Nat) (x : Int32) : MM := fun a b => if a = k then (if b = j then x else u k b) else u a b
/-- a row of a cell is another one -/
def upR (u : MM) (k : Nat) (f : Nat → Int32) : MM := fun a b => if a = k then f b else u a b
theorem up_R (u : MM) (k j : Nat) (x : Int32) : up u k j x = upR u k (fun b => if b = j then x else u k b) := rfl
theorem jw_at {n : Nat} {q : Nat → Nat} {ent : Nat → (Nat → Int32) → va_E} {u : MM} {k : Nat} (hk : k < n) : (jw n q ent u)[k]? = some (q k, ent k (u k)) := by
  simp [jw, hk]
theorem jw_in {n : Nat} {q : Nat → Nat} {ent : Nat → (Nat → Int32) → va_E} {u : MM} {k : Nat} {x : Nat × va_E} (h : (jw n q ent u)[k]? = some x) : k < n ∧ x = (q k, ent k (u k)) := by
  by_cases hk : k < n
  · rw [jw_at hk] at h; exact ⟨hk, (Option.some.inj h).symm⟩
  · simp [jw, hk] at h
theorem jw_len (n : Nat) (q : Nat → Nat) (ent : Nat → (Nat → Int32) → va_E) (u : MM) : (jw n q ent u).length = n := by simp [jw]
theorem jw_setR {n : Nat} {q : Nat → Nat} {ent : Nat → (Nat → Int32) → va_E} {u : MM} {k : Nat} {f : Nat → Int32} {e : va_E} (he : ent k f = e) : (jw n q ent u).set k (q k, e) = jw n q ent (upR u k f) := by
  apply List.ext_getElem?
  intro i
  rw [List.getElem?_set]
  by_cases hi : i < n
  · by_cases hik : k = i
    · subst hik
      rw [if_pos rfl, jw_len, if_pos hi, jw_at hi, ← he]
      have : upR u k f k = f := by funext b; simp [upR]
      rw [this]
    · rw [if_neg hik, jw_at hi, jw_at hi]
      have : upR u k f i = u i := by funext b; simp [upR, Ne.symm hik]
      rw [this]
  · have h1 : (jw n q ent (upR u k f))[i]? = none := List.getElem?_eq_none (by rw [jw_len]; omega)
    rw [h1]
    by_cases hik : k = i
    · subst hik
      rw [if_pos rfl, jw_len, if_neg hi]
    · rw [if_neg hik]
      exact List.getElem?_eq_none (by rw [jw_len]; omega)
theorem jw_D {A : Nat → Prop} {n : Nat} {q : Nat → Nat} {ent : Nat → (Nat → Int32) → va_E} {u : MM} (u' : MM) (h : va_D A (jw n q ent u)) : va_D A (jw n q ent u') := by
  refine ⟨fun i j x y hx hy hxy => ?_, fun k x hx => ?_⟩
  · obtain ⟨hi, rfl⟩ := jw_in hx
    obtain ⟨hj, rfl⟩ := jw_in hy
    exact h.1 i j _ _ (jw_at hi) (jw_at hj) hxy
  · obtain ⟨hk, rfl⟩ := jw_in hx
    exact h.2 k (q k, ent k (u k)) (jw_at hk)
/-- the cells of a world, and all that is new -/
def AJ (n : Nat) (q : Nat → Nat) (sz : Nat) : Nat → Prop := fun a => (∃ k, k < n ∧ a = q k) ∨ sz ≤ a
theorem jw_AJ {A : Nat → Prop} {n : Nat} {q : Nat → Nat} {ent : Nat → (Nat → Int32) → va_E} {u : MM} (sz : Nat) (h : va_D A (jw n q ent u)) : va_D (AJ n q sz) (jw n q ent u) := by
  refine ⟨h.1, fun k x hx => ?_⟩
  obtain ⟨hk, rfl⟩ := jw_in hx
  exact Or.inl ⟨k, hk, rfl⟩
theorem jw_free {A : Nat → Prop} {n : Nat} {q : Nat → Nat} {ent : Nat → (Nat → Int32) → va_E} {u : MM} {H0 H : Heap} {locs : List Loc} (hD : va_D A (jw n q ent u)) (hS : va_S A H0 H locs) (hA : ∀ q, H0.size ≤ q → A q) : ∀ a, AJ n q H.size a → A a := by
  intro a h
  rcases h with ⟨k, hk, rfl⟩ | h
  · exact hD.2 k _ (jw_at hk)
  · exact hA a (Nat.le_trans hS.1 h)
/-! What holds everywhere: the tables' words, the table of kinds, the texts -/
def gw (w : Cond) : Bool := goodWord w || (match w with | .fieldLinkNest _ _ _ _ _ _ => true | .methodLinkNest _ _ _ _ => true | _ => false)
def EW (U : State) : Prop := ∀ w ∈ lw_tbl, gw w = true → w.before #[] U = true
def kab : Nat → Int32 := fun j => if j = 0 then -1 else if j = 4 then 1 else if j = 5 then 2 else if j = 6 then 3 else 0
def lenJ : List Nat := [5, 5, 6, 4, 5, 3, 4, 5]
def bytJ : List (List Int32) := [[115, 104, 117, 110, 32], [102, 105, 110, 101, 32], [102, 101, 119, 101, 114, 32], [108, 97, 119, 32], [112, 111, 107, 110, 100], [60, 61, 62], [105, 110, 101, 32], [101, 119, 101, 114, 32]]
def siJ : List (String × Nat × String × Nat) := [(RX3, 74, "shun ", 0), (RX3, 89, "fewer ", 2), (RX3, 84, "fine ", 1), (RX3, 94, "law ", 3), (RX11, 119, "shun ", 0), (RX11, 93, "poknd", 4), (RX11, 99, "<=>", 5), (RX11, 111, "ine ", 6), (RX11, 113, "ewer ", 7), (RX11, 124, "law ", 3)]
def EK (ad : Nat → Nat) (A : Nat → Prop) (U : State) : Prop := va_Z "OneFewer" "KIND_ABOVE" "[I" (.ref (ad 0)) A U U.heap ∧ va_T .int (ad 0) 7 (fun j => .int (kab j)) A U U.heap
def EX (ad : Nat → Nat) (A : Nat → Prop) (U : State) : Prop := vk_S 8 lenJ bytJ (fun i => ad (10 + i)) (fun i => ad (30 + i)) A U U.heap ∧ (∀ x ∈ siJ, vk_R x.1 x.2.1 x.2.2.1 (ad (10 + x.2.2.2)) U) ∧ va_Z "java/lang/String" "COMPACT_STRINGS" "Z" (.int 1) A U U.heap ∧ va_Zq "jdk/internal/util/Preconditions" "SIOOBE_FORMATTER" "Ljava/util/function/BiFunction;" A U U.heap
def EV (ad : Nat → Nat) (A : Nat → Prop) (U : State) : Prop := EW U ∧ EK ad A U ∧ EX ad A U
theorem gw_or {w : Cond} (h : gw w = true) : ((w.onTables && w.keeps) = true ∨ ∃ ty, w = .arrayClass ty) ∨ (∃ a i b n d h, w = .fieldLinkNest a i b n d h) ∨ ∃ a i x h, w = .methodLinkNest a i x h := by
  unfold gw at h
  rw [Bool.or_eq_true] at h
  rcases h with h | h
  · exact Or.inl (good_of_word h)
  · cases w <;> first | exact Or.inr (Or.inl ⟨_, _, _, _, _, _, rfl⟩) | exact Or.inr (Or.inr ⟨_, _, _, _, rfl⟩) | exact absurd h Bool.false_ne_true
theorem gw_warm {w : Cond} (h : gw w = true) {s U : State} (hW : s.WarmedH U.vm) {A A' : Array Value} (hb : w.before A s = true) : w.before A' U = true := by
  rcases gw_or h with h | ⟨a, i, b, n, d, z, rfl⟩ | ⟨a, i, x, z, rfl⟩
  · exact word_at hW h hb
  · exact va_Nw.use rfl (va_Nw.warmF hW (va_Nw.of rfl hb))
  · exact va_Nw.use rfl (va_Nw.warmM hW (va_Nw.of rfl hb))
theorem EW.warm {s U : State} (hW : s.WarmedH U.vm) (h : EW s) : EW U := fun w hw hg => gw_warm hg hW (h w hw hg)
theorem warm_self (s : State) : s.WarmedH s.vm := ⟨rfl, rfl, fun d k h => ⟨k, h, rfl, rfl, fun _ => Or.inl rfl, Or.inl ⟨rfl, rfl⟩⟩⟩
theorem EW.use {s : State} (h : EW s) {w : Cond} (hw : w ∈ lw_tbl) (hg : gw w = true) (args : Array Value) : w.before args s = true := gw_warm hg (warm_self s) (h w hw hg)
theorem va_O.keptA {E : String} {t : Nat} {A : Nat → Prop} {U : State} {H H1 : Heap} (h : va_O E t A U H) (hq : ∀ a : Nat, a < H.size → ¬ A a → H1[a]? = H[a]?) : va_O E t A U H1 := h.kept hq
/-- what holds everywhere holds at a call, too -/
theorem EV.call {ad : Nat → Nat} {A B : Nat → Prop} {s U : State} {H : Heap} {locs : List Loc} (h : EV ad A s) (hW : s.WarmedH U.vm) (hH : U.heap = H) (hS : va_S A s.heap H locs) (hAB : ∀ q, B q → A q) : EV ad B U := by
  obtain ⟨h1, ⟨h2, h3⟩, h4, h5, h6, h7⟩ := h
  have hq : ∀ a : Nat, a < s.heap.size → ¬ A a → U.heap[a]? = s.heap[a]? := by rw [hH]; exact hS.2.1
  have hv := hW.alike
  exact ⟨h1.warm hW, ⟨((va_Z.moved hv h2).kept hq).narrow hAB, ((va_T.moved hv h3).kept hq).narrow hAB⟩, ((vk_S.moved hv h4).kept hq).narrow hAB, fun x hx => (h5 x hx).warm hW, ((va_Z.moved hv h6).kept hq).narrow hAB, ((va_Zq.moved hv h7).kept hq).narrow hAB⟩
theorem EV.calling {ad : Nat → Nat} {A : Nat → Prop} {U : State} (h : EV ad A U) (g : JFrame) (mk : MethodId) (a : Array Value) : EV ad A (U.calling g mk a) :=
  EV.call (locs := []) h (warm_self U) rfl va_S.rf (fun _ h => h)
/-! The walk of a method over a world -/
def JX (p : Program) (l : Launch) (e : Env) (R : Room) (s : State) (m : MethodId) (args : Array Value) (below : List Frame) (meth : Method) (c : Code) (D : va_G) (A : Nat → Prop) (nL : Nat) (Q : State → Prop) (n : Nat) (q : Nat → Nat) (ent : Nat → (Nat → Int32) → va_E) (u : MM) (pc : Nat) (lv : List (Nat × Value)) (st : List Value) : Prop :=
  ∀ (H : Heap) (locs : List Loc) (ls : Array Slot), va_P D vwCl (jw n q ent u) H → va_D A (jw n q ent u) → va_S A s.heap H locs → lv_has ls nL lv → W p l e R s m args below meth c H locs 0 0 Q (F0 m pc ls st)
def CX (p : Program) (s : State) (m : MethodId) (args : Array Value) (meth : Method) (c : Code) (cc : ByteArray) (nL : Nat) (own : String) (ret : Option FieldType) (D : va_G) (cI cZ : ClassId) (ad : Nat → Nat) (A : Nat → Prop) : Prop :=
  p.tables.exec = Jvm.exec ∧ c.code = cc ∧ c.maxLocals = nL ∧ s.vm.findClass own = some m.cls ∧ meth.sig.returnType = ret ∧ meth.locks = false ∧ va_K D vwCl [(cI, .int), (cZ, .boolean)] s ∧ EV ad A s ∧ ∀ q, s.heap.size ≤ q → A q
/-- a word of the tables, by its place -/
theorem CX.w {p : Program} {s : State} {m : MethodId} {args : Array Value} {meth : Method} {c : Code} {cc : ByteArray} {nL : Nat} {own : String} {ret : Option FieldType} {D : va_G} {cI cZ : ClassId} {ad : Nat → Nat} {A : Nat → Prop} (C : CX p s m args meth c cc nL own ret D cI cZ ad A) {w : Cond} (hw : w ∈ lw_tbl) (hg : gw w = true := by rfl) : w.before args s = true := C.2.2.2.2.2.2.2.1.1.use hw hg args
