def wX11_in (N : Nat) (x0 : Int32) (x1 : Int32) (x2 : Int32) (K : Int32 → Prop) : Prop := ((x0 < x1 → (K 0)) ∧ (¬ x0 < x1 → ((x2 < x0 → (K 0)) ∧ (¬ x2 < x0 → (K 1)))))
set_option maxRecDepth 100000 in
set_option maxHeartbeats 4000000 in
theorem kX_X11_in (l : Launch) (D : va_G) (cI cZ : ClassId) (ad q : Nat → Nat) (N : Nat) {x0 : Int32} {x1 : Int32} {x2 : Int32} {K : Int32 → Prop} (h : wX11_in N x0 x1 x2 K) : CT l D cI cZ ad 0 q (entM q cI cZ) yX11_in cX11_in 3 (some .boolean) (rr 0 0) [.int x0, .int x1, .int x2] u00 (QI D 0 q (entM q cI cZ) (fun r _ => K r)) := by
    refine ct_of (by decide +kernel) (Nat.le_of_ble_eq_true rfl) (fun p e s m args below meth c C => ?_)
    refine j_sub (lv' := [(0, .int x0), (1, .int x1), (2, .int x2)]) [0, 1, 2] rfl ?_
    refine j_iload_n C 0 dX11_in_0 rfl ?_
    refine j_iload_n C 1 dX11_in_1 rfl ?_
    refine j_icmp_lt C 14 dX11_in_2 (by decide) (fun c1 => ?_) (fun c1 => ?_)
    · have h := h.1 c1
      refine j_iconst (v := 0) C dX11_in_14 (by decide) ?_
      exact j_zret (K := fun r _ => K r) C dX11_in_15 rfl h
    · have h := h.2 c1
      refine j_iload_n C 0 dX11_in_5 rfl ?_
      refine j_iload_n C 2 dX11_in_6 rfl ?_
      refine j_icmp_gt C 14 dX11_in_7 (by decide) (fun c2 => ?_) (fun c2 => ?_)
      · have h := h.1 c2
        refine j_iconst (v := 0) C dX11_in_14 (by decide) ?_
        exact j_zret (K := fun r _ => K r) C dX11_in_15 rfl h
      · have h := h.2 c2
        refine j_iconst (v := 1) C dX11_in_10 (by decide) ?_
        refine j_goto C 15 dX11_in_11 (by decide) ?_
        exact j_zret (K := fun r _ => K r) C dX11_in_15 rfl h

def wX11_isPerson (N : Nat) (x1 : Int32) (u : MM) (K : Int32 → MM → Prop) : Prop := (wX11_in N x1 0 ((u 1 18) - 1) (fun r1 => (bz r1 ∧ K r1 u)))
set_option maxRecDepth 100000 in
set_option maxHeartbeats 4000000 in
theorem kX_X11_isPerson (l : Launch) (D : va_G) (cI cZ : ClassId) (ad q : Nat → Nat) (N : Nat) {x1 : Int32} {u : MM} {K : Int32 → MM → Prop} (h : wX11_isPerson N x1 u K) : CT l D cI cZ ad 9 q (entM q cI cZ) yX11_isPerson cX11_isPerson 2 (some .boolean) (rr 1 22) [.ref (q 0), .int x1] u (QI D 9 q (entM q cI cZ) K) := by
    refine ct_of (by decide +kernel) (Nat.le_of_ble_eq_true rfl) (fun p e s m args below meth c C => ?_)
    refine j_sub (lv' := [(0, .ref (q 0)), (1, .int x1)]) [0, 1] rfl ?_
    refine j_iload_n C 1 dX11_isPerson_0 rfl ?_
    refine j_iconst (v := 0) C dX11_isPerson_1 (by decide) ?_
    refine j_aload_n C 0 dX11_isPerson_2 rfl ?_
    refine j_get C 0 1 (ly_X11 C.2.2.2.2.2.2.2.1.1) q_636 rfl rfl (by decide) rfl rfl (by decide) rfl dX11_isPerson_3 ?_
    refine j_bipush (v := 18) C dX11_isPerson_6 (by decide) ?_
    refine j_ialoadK (N := 944) C 1 18 (by decide) (show ¬ ((18 : Int32) < 0 ∨ 944 ≤ (18 : Int32).toNatClampNeg) by decide) (by decide) rfl rfl dX11_isPerson_8 ?_
    refine j_iconst (v := 1) C dX11_isPerson_9 (by decide) ?_
    refine j_isub C dX11_isPerson_10 ?_
    refine j_ui C (fun H locs ls hP hD => run_S (As := [.int x1, .int 0, .int ((u 1 18) - 1)]) (st := []) C mf_X11_in (kX_X11_in l D cI cZ ad q N h) q_667 rfl rfl ⟨rfl, rfl, by decide, by decide⟩ (Nat.le_of_ble_eq_true rfl) dX11_isPerson_11 hP hD) (fun r1 _ h => ?_)
    exact j_zret C dX11_isPerson_14 h.1.1 h.2

def wX11_keeps_b2 (N : Nat) (K : MM → Prop) : Nat → Int32 → MM → Prop
  | 0, _, _ => False
  | n + 1, x1, u => ((18 ≤ x1 → (K u)) ∧ (¬ 18 ≤ x1 → (vp_in x1 944 ∧ (vp_in x1 18 ∧ ∀ u2 : MM, u2 = up u 3 (x1.toNatClampNeg) (u 1 x1.toNatClampNeg) → (∀ y3 : Int32, y3 = x1 + 1 → (wX11_keeps_b2 N K n y3 u2))))))
def wX11_keeps (N : Nat) (u : MM) (K : MM → Prop) : Prop := (wX11_keeps_b2 N K N 0 u)
set_option maxRecDepth 100000 in
set_option maxHeartbeats 4000000 in
theorem tX11_keeps_b2 (l : Launch) (D : va_G) (cI cZ : ClassId) (ad q : Nat → Nat) (N : Nat) {p : Program} {e : Env} {s : State} {m : MethodId} {args : Array Value} {below : List Frame} {meth : Method} {c : Code} {K : MM → Prop} (C : CX p s m args meth c cX11_keeps 2 RX11 none D cI cZ ad (AJ 9 q s.heap.size)) : ∀ (n : Nat) (x1 : Int32) (u : MM), wX11_keeps_b2 N K n x1 u → JX p l e (rr 0 0) s m args below meth c D (AJ 9 q s.heap.size) 2 (MQ below ((QV D 9 q (entM q cI cZ) K) (AJ 9 q s.heap.size)) args s 0 0 (AJ 9 q s.heap.size)) 9 q (entM q cI cZ) u 2 [(0, .ref (q 0)), (1, .int x1)] [] := by
  intro n
  induction n with
  | zero => intro x1 u h; exact h.elim
  | succ n ih =>
    intro x1 u h
    refine j_iload_n C 1 dX11_keeps_2 rfl ?_
    refine j_bipush (v := 18) C dX11_keeps_3 (by decide) ?_
    refine j_icmp_ge C 26 dX11_keeps_5 (by decide) (fun c1 => ?_) (fun c1 => ?_)
    · have h := h.1 c1
      exact j_vret C dX11_keeps_26 h
    · have h := h.2 c1
      refine j_aload_n C 0 dX11_keeps_8 rfl ?_
      refine j_get C 0 3 (ly_X11 C.2.2.2.2.2.2.2.1.1) q_638 rfl rfl (by decide) rfl rfl (by decide) rfl dX11_keeps_9 ?_
      refine j_iload_n C 1 dX11_keeps_12 rfl ?_
      refine j_aload_n C 0 dX11_keeps_13 rfl ?_
      refine j_get C 0 1 (ly_X11 C.2.2.2.2.2.2.2.1.1) q_636 rfl rfl (by decide) rfl rfl (by decide) rfl dX11_keeps_14 ?_
      refine j_iload_n C 1 dX11_keeps_17 rfl ?_
      obtain ⟨hin, h⟩ := h
      refine j_ialoadK (N := 944) C 1 _ rfl hin (by decide) rfl rfl dX11_keeps_18 ?_
      obtain ⟨hin, h⟩ := h
      refine j_iastoreK (N := 18) C 3 _ rfl hin (by decide) (fun _ => rfl) rfl dX11_keeps_19 (fun u2 eu2 => ?_)
      have h := h u2 eu2
      obtain ⟨y3, ey3⟩ : ∃ z : Int32, z = x1 + 1 := ⟨_, rfl⟩
      have h := h y3 ey3
      refine j_iinc (v := y3) (lv' := [(1, .int y3), (0, .ref (q 0))]) C 1 dX11_keeps_20 rfl (by rw [ey3]; rfl) (by decide) rfl ?_
      refine j_goto C 2 dX11_keeps_23 (by decide) ?_
      refine j_sub (lv' := [(0, .ref (q 0)), (1, .int y3)]) [1, 0] rfl ?_
      exact ih _ _ h
set_option maxRecDepth 100000 in
set_option maxHeartbeats 4000000 in
theorem kX_X11_keeps (l : Launch) (D : va_G) (cI cZ : ClassId) (ad q : Nat → Nat) (N : Nat) {u : MM} {K : MM → Prop} (h : wX11_keeps N u K) : CT l D cI cZ ad 9 q (entM q cI cZ) yX11_keeps cX11_keeps 2 none (rr 0 0) [.ref (q 0)] u (QV D 9 q (entM q cI cZ) K) := by
    refine ct_of (by decide +kernel) (Nat.le_of_ble_eq_true rfl) (fun p e s m args below meth c C => ?_)
    refine j_sub (lv' := [(0, .ref (q 0))]) [0] rfl ?_
    refine j_iconst (v := 0) C dX11_keeps_0 (by decide) ?_
    refine j_istore_n (lv' := [(1, .int 0), (0, .ref (q 0))]) C dX11_keeps_1 (by decide) rfl ?_
    refine j_sub (lv' := [(0, .ref (q 0)), (1, .int 0)]) [1, 0] rfl ?_
    exact tX11_keeps_b2 l D cI cZ ad q N C N _ _ h

def wX11_goesBack_b2 (N : Nat) (K : MM → Prop) : Nat → Int32 → MM → Prop
  | 0, _, _ => False
  | n + 1, x1, u => ((18 ≤ x1 → (K u)) ∧ (¬ 18 ≤ x1 → (vp_in x1 18 ∧ (vp_in x1 944 ∧ ∀ u2 : MM, u2 = up u 1 (x1.toNatClampNeg) (u 3 x1.toNatClampNeg) → (∀ y3 : Int32, y3 = x1 + 1 → (wX11_goesBack_b2 N K n y3 u2))))))
def wX11_goesBack (N : Nat) (u : MM) (K : MM → Prop) : Prop := (wX11_goesBack_b2 N K N 0 u)
set_option maxRecDepth 100000 in
set_option maxHeartbeats 4000000 in
theorem tX11_goesBack_b2 (l : Launch) (D : va_G) (cI cZ : ClassId) (ad q : Nat → Nat) (N : Nat) {p : Program} {e : Env} {s : State} {m : MethodId} {args : Array Value} {below : List Frame} {meth : Method} {c : Code} {K : MM → Prop} (C : CX p s m args meth c cX11_goesBack 2 RX11 none D cI cZ ad (AJ 9 q s.heap.size)) : ∀ (n : Nat) (x1 : Int32) (u : MM), wX11_goesBack_b2 N K n x1 u → JX p l e (rr 0 0) s m args below meth c D (AJ 9 q s.heap.size) 2 (MQ below ((QV D 9 q (entM q cI cZ) K) (AJ 9 q s.heap.size)) args s 0 0 (AJ 9 q s.heap.size)) 9 q (entM q cI cZ) u 2 [(0, .ref (q 0)), (1, .int x1)] [] := by
  intro n
  induction n with
  | zero => intro x1 u h; exact h.elim
  | succ n ih =>
    intro x1 u h
    refine j_iload_n C 1 dX11_goesBack_2 rfl ?_
    refine j_bipush (v := 18) C dX11_goesBack_3 (by decide) ?_
    refine j_icmp_ge C 26 dX11_goesBack_5 (by decide) (fun c1 => ?_) (fun c1 => ?_)
    · have h := h.1 c1
      exact j_vret C dX11_goesBack_26 h
    · have h := h.2 c1
      refine j_aload_n C 0 dX11_goesBack_8 rfl ?_
      refine j_get C 0 1 (ly_X11 C.2.2.2.2.2.2.2.1.1) q_636 rfl rfl (by decide) rfl rfl (by decide) rfl dX11_goesBack_9 ?_
      refine j_iload_n C 1 dX11_goesBack_12 rfl ?_
      refine j_aload_n C 0 dX11_goesBack_13 rfl ?_
      refine j_get C 0 3 (ly_X11 C.2.2.2.2.2.2.2.1.1) q_638 rfl rfl (by decide) rfl rfl (by decide) rfl dX11_goesBack_14 ?_
      refine j_iload_n C 1 dX11_goesBack_17 rfl ?_
      obtain ⟨hin, h⟩ := h
      refine j_ialoadK (N := 18) C 3 _ rfl hin (by decide) rfl rfl dX11_goesBack_18 ?_
      obtain ⟨hin, h⟩ := h
      refine j_iastoreK (N := 944) C 1 _ rfl hin (by decide) (fun _ => rfl) rfl dX11_goesBack_19 (fun u2 eu2 => ?_)
      have h := h u2 eu2
      obtain ⟨y3, ey3⟩ : ∃ z : Int32, z = x1 + 1 := ⟨_, rfl⟩
      have h := h y3 ey3
      refine j_iinc (v := y3) (lv' := [(1, .int y3), (0, .ref (q 0))]) C 1 dX11_goesBack_20 rfl (by rw [ey3]; rfl) (by decide) rfl ?_
      refine j_goto C 2 dX11_goesBack_23 (by decide) ?_
      refine j_sub (lv' := [(0, .ref (q 0)), (1, .int y3)]) [1, 0] rfl ?_
      exact ih _ _ h
set_option maxRecDepth 100000 in
set_option maxHeartbeats 4000000 in
theorem kX_X11_goesBack (l : Launch) (D : va_G) (cI cZ : ClassId) (ad q : Nat → Nat) (N : Nat) {u : MM} {K : MM → Prop} (h : wX11_goesBack N u K) : CT l D cI cZ ad 9 q (entM q cI cZ) yX11_goesBack cX11_goesBack 2 none (rr 0 0) [.ref (q 0)] u (QV D 9 q (entM q cI cZ) K) := by
    refine ct_of (by decide +kernel) (Nat.le_of_ble_eq_true rfl) (fun p e s m args below meth c C => ?_)
    refine j_sub (lv' := [(0, .ref (q 0))]) [0] rfl ?_
    refine j_iconst (v := 0) C dX11_goesBack_0 (by decide) ?_
    refine j_istore_n (lv' := [(1, .int 0), (0, .ref (q 0))]) C dX11_goesBack_1 (by decide) rfl ?_
    refine j_sub (lv' := [(0, .ref (q 0)), (1, .int 0)]) [1, 0] rfl ?_
    exact tX11_goesBack_b2 l D cI cZ ad q N C N _ _ h

def wX11_count1_b4 (N : Nat) (K : Int32 → Prop) : Nat → Int32 → Int32 → Int32 → Prop
  | 0, _, _, _ => False
  | n + 1, x0, x1, x2 => ((7 ≤ x2 → (K x1)) ∧ (¬ 7 ≤ x2 → (∀ y2 : Int32, y2 = (x1 + ((x0 >>> (x2 &&& 31)) &&& 1)) → (∀ y3 : Int32, y3 = x2 + 1 → (wX11_count1_b4 N K n x0 y2 y3)))))
def wX11_count1 (N : Nat) (x0 : Int32) (K : Int32 → Prop) : Prop := (wX11_count1_b4 N K N x0 0 0)
set_option maxRecDepth 100000 in
set_option maxHeartbeats 4000000 in
theorem tX11_count1_b4 (l : Launch) (D : va_G) (cI cZ : ClassId) (ad q : Nat → Nat) (N : Nat) {p : Program} {e : Env} {s : State} {m : MethodId} {args : Array Value} {below : List Frame} {meth : Method} {c : Code} {K : Int32 → Prop} (C : CX p s m args meth c cX11_count1 3 RX11 (some .int) D cI cZ ad (AJ 0 q s.heap.size)) : ∀ (n : Nat) (x0 : Int32) (x1 : Int32) (x2 : Int32), wX11_count1_b4 N K n x0 x1 x2 → JX p l e (rr 0 0) s m args below meth c D (AJ 0 q s.heap.size) 3 (MQ below ((QI D 0 q (entM q cI cZ) (fun r _ => K r)) (AJ 0 q s.heap.size)) args s 0 0 (AJ 0 q s.heap.size)) 0 q (entM q cI cZ) u00 4 [(0, .int x0), (1, .int x1), (2, .int x2)] [] := by
  intro n
  induction n with
  | zero => intro x0 x1 x2 h; exact h.elim
  | succ n ih =>
    intro x0 x1 x2 h
    refine j_iload_n C 2 dX11_count1_4 rfl ?_
    refine j_bipush (v := 7) C dX11_count1_5 (by decide) ?_
    refine j_icmp_ge C 24 dX11_count1_7 (by decide) (fun c1 => ?_) (fun c1 => ?_)
    · have h := h.1 c1
      refine j_iload_n C 1 dX11_count1_24 rfl ?_
      exact j_iret (K := fun r _ => K r) C dX11_count1_25 h
    · have h := h.2 c1
      refine j_iload_n C 1 dX11_count1_10 rfl ?_
      refine j_iload_n C 0 dX11_count1_11 rfl ?_
      refine j_iload_n C 2 dX11_count1_12 rfl ?_
      refine j_ishr C dX11_count1_13 ?_
      refine j_iconst (v := 1) C dX11_count1_14 (by decide) ?_
      refine j_iand C dX11_count1_15 ?_
      refine j_iadd C dX11_count1_16 ?_
      refine j_nmi (fun y2 ey2 => ?_)
      have h := h y2 ey2
      refine j_istore_n (lv' := [(1, .int y2), (0, .int x0), (2, .int x2)]) C dX11_count1_17 (by decide) rfl ?_
      obtain ⟨y3, ey3⟩ : ∃ z : Int32, z = x2 + 1 := ⟨_, rfl⟩
      have h := h y3 ey3
      refine j_iinc (v := y3) (lv' := [(2, .int y3), (1, .int y2), (0, .int x0)]) C 2 dX11_count1_18 rfl (by rw [ey3]; rfl) (by decide) rfl ?_
      refine j_goto C 4 dX11_count1_21 (by decide) ?_
      refine j_sub (lv' := [(0, .int x0), (1, .int y2), (2, .int y3)]) [2, 1, 0] rfl ?_
      exact ih _ _ _ h
set_option maxRecDepth 100000 in
set_option maxHeartbeats 4000000 in
theorem kX_X11_count1 (l : Launch) (D : va_G) (cI cZ : ClassId) (ad q : Nat → Nat) (N : Nat) {x0 : Int32} {K : Int32 → Prop} (h : wX11_count1 N x0 K) : CT l D cI cZ ad 0 q (entM q cI cZ) yX11_count1 cX11_count1 3 (some .int) (rr 0 0) [.int x0] u00 (QI D 0 q (entM q cI cZ) (fun r _ => K r)) := by
    refine ct_of (by decide +kernel) (Nat.le_of_ble_eq_true rfl) (fun p e s m args below meth c C => ?_)
    refine j_sub (lv' := [(0, .int x0)]) [0] rfl ?_
    refine j_iconst (v := 0) C dX11_count1_0 (by decide) ?_
    refine j_istore_n (lv' := [(1, .int 0), (0, .int x0)]) C dX11_count1_1 (by decide) rfl ?_
    refine j_iconst (v := 0) C dX11_count1_2 (by decide) ?_
    refine j_istore_n (lv' := [(2, .int 0), (1, .int 0), (0, .int x0)]) C dX11_count1_3 (by decide) rfl ?_
    refine j_sub (lv' := [(0, .int x0), (1, .int 0), (2, .int 0)]) [2, 1, 0] rfl ?_
    exact tX11_count1_b4 l D cI cZ ad q N C N _ _ _ h

def wX11_feed (N : Nat) (x1 : Int32) (u : MM) (K : Int32 → MM → Prop) : Prop := (wX11_in N x1 0 127 (fun r1 => ((¬ r1 = 0 → ((¬ (u 1 22) = 100 → (vp_in ((129 + (u 1 22))) 944 ∧ ∀ u4 : MM, u4 = up u 1 ((129 + (u 1 22)).toNatClampNeg) x1 → (∀ u5 : MM, u5 = up u4 1 22 ((u4 1 22) + 1) → (K (u5 1 22) u5)))) ∧ ((u 1 22) = 100 → (K (-4) u)))) ∧ (r1 = 0 → (K (-2) u)))))
set_option maxRecDepth 100000 in
set_option maxHeartbeats 4000000 in
theorem kX_X11_feed (l : Launch) (D : va_G) (cI cZ : ClassId) (ad q : Nat → Nat) (N : Nat) {x1 : Int32} {u : MM} {K : Int32 → MM → Prop} (h : wX11_feed N x1 u K) : CT l D cI cZ ad 9 q (entM q cI cZ) yX11_feed cX11_feed 2 (some .int) (rr 1 22) [.ref (q 0), .int x1] u (QI D 9 q (entM q cI cZ) K) := by
    refine ct_of (by decide +kernel) (Nat.le_of_ble_eq_true rfl) (fun p e s m args below meth c C => ?_)
    refine j_sub (lv' := [(0, .ref (q 0)), (1, .int x1)]) [0, 1] rfl ?_
    refine j_iload_n C 1 dX11_feed_0 rfl ?_
    refine j_iconst (v := 0) C dX11_feed_1 (by decide) ?_
    refine j_bipush (v := 127) C dX11_feed_2 (by decide) ?_
    refine j_ui C (fun H locs ls hP hD => run_S (As := [.int x1, .int 0, .int 127]) (st := []) C mf_X11_in (kX_X11_in l D cI cZ ad q N h) q_667 rfl rfl ⟨rfl, rfl, by decide, by decide⟩ (Nat.le_of_ble_eq_true rfl) dX11_feed_4 hP hD) (fun r1 _ h => ?_)
    refine j_if_ne C 13 dX11_feed_7 (by decide) (fun c2 => ?_) (fun c2 => ?_)
    · have h := h.1 c2
      refine j_aload_n C 0 dX11_feed_13 rfl ?_
      refine j_get C 0 1 (ly_X11 C.2.2.2.2.2.2.2.1.1) q_636 rfl rfl (by decide) rfl rfl (by decide) rfl dX11_feed_14 ?_
      refine j_bipush (v := 22) C dX11_feed_17 (by decide) ?_
      refine j_ialoadK (N := 944) C 1 22 (by decide) (show ¬ ((22 : Int32) < 0 ∨ 944 ≤ (22 : Int32).toNatClampNeg) by decide) (by decide) rfl rfl dX11_feed_19 ?_
      refine j_bipush (v := 100) C dX11_feed_20 (by decide) ?_
      refine j_icmp_ne C 28 dX11_feed_22 (by decide) (fun c3 => ?_) (fun c3 => ?_)
      · have h := h.1 c3
        refine j_aload_n C 0 dX11_feed_28 rfl ?_
        refine j_get C 0 1 (ly_X11 C.2.2.2.2.2.2.2.1.1) q_636 rfl rfl (by decide) rfl rfl (by decide) rfl dX11_feed_29 ?_
        refine j_sipush (v := 129) C dX11_feed_32 (by decide) ?_
        refine j_aload_n C 0 dX11_feed_35 rfl ?_
        refine j_get C 0 1 (ly_X11 C.2.2.2.2.2.2.2.1.1) q_636 rfl rfl (by decide) rfl rfl (by decide) rfl dX11_feed_36 ?_
        refine j_bipush (v := 22) C dX11_feed_39 (by decide) ?_
        refine j_ialoadK (N := 944) C 1 22 (by decide) (show ¬ ((22 : Int32) < 0 ∨ 944 ≤ (22 : Int32).toNatClampNeg) by decide) (by decide) rfl rfl dX11_feed_41 ?_
        refine j_iadd C dX11_feed_42 ?_
        refine j_iload_n C 1 dX11_feed_43 rfl ?_
        obtain ⟨hin, h⟩ := h
        refine j_iastoreK (N := 944) C 1 _ rfl hin (by decide) (fun _ => rfl) rfl dX11_feed_44 (fun u4 eu4 => ?_)
        have h := h u4 eu4
        refine j_aload_n C 0 dX11_feed_45 rfl ?_
        refine j_get C 0 1 (ly_X11 C.2.2.2.2.2.2.2.1.1) q_636 rfl rfl (by decide) rfl rfl (by decide) rfl dX11_feed_46 ?_
        refine j_bipush (v := 22) C dX11_feed_49 (by decide) ?_
        refine j_dup2 C dX11_feed_51 rfl rfl ?_
        refine j_ialoadK (N := 944) C 1 22 (by decide) (show ¬ ((22 : Int32) < 0 ∨ 944 ≤ (22 : Int32).toNatClampNeg) by decide) (by decide) rfl rfl dX11_feed_52 ?_
        refine j_iconst (v := 1) C dX11_feed_53 (by decide) ?_
        refine j_iadd C dX11_feed_54 ?_
        refine j_iastoreK (N := 944) C 1 22 (by decide) (show ¬ ((22 : Int32) < 0 ∨ 944 ≤ (22 : Int32).toNatClampNeg) by decide) (by decide) (fun _ => rfl) rfl dX11_feed_55 (fun u5 eu5 => ?_)
        have h := h u5 eu5
        refine j_aload_n C 0 dX11_feed_56 rfl ?_
        refine j_get C 0 1 (ly_X11 C.2.2.2.2.2.2.2.1.1) q_636 rfl rfl (by decide) rfl rfl (by decide) rfl dX11_feed_57 ?_
        refine j_bipush (v := 22) C dX11_feed_60 (by decide) ?_
        refine j_ialoadK (N := 944) C 1 22 (by decide) (show ¬ ((22 : Int32) < 0 ∨ 944 ≤ (22 : Int32).toNatClampNeg) by decide) (by decide) rfl rfl dX11_feed_62 ?_
        exact j_iret C dX11_feed_63 h
      · have h := h.2 c3
        refine j_bipush (v := (-4)) C dX11_feed_25 (by decide) ?_
        exact j_iret C dX11_feed_27 h
    · have h := h.2 c2
      refine j_bipush (v := (-2)) C dX11_feed_10 (by decide) ?_
      exact j_iret C dX11_feed_12 h

def wX11_here (N : Nat) (u : MM) (K : Int32 → MM → Prop) : Prop := (((u 0 7) ≤ (u 0 6) → (K (-1) u)) ∧ (¬ (u 0 7) ≤ (u 0 6) → (vp_in ((129 + (u 0 6))) 944 ∧ (K (u 1 (129 + (u 0 6)).toNatClampNeg) u))))
set_option maxRecDepth 100000 in
set_option maxHeartbeats 4000000 in
theorem kX_X11_here (l : Launch) (D : va_G) (cI cZ : ClassId) (ad q : Nat → Nat) (N : Nat) {u : MM} {K : Int32 → MM → Prop} (h : wX11_here N u K) : CT l D cI cZ ad 9 q (entM q cI cZ) yX11_here cX11_here 1 (some .int) (rr 0 0) [.ref (q 0)] u (QI D 9 q (entM q cI cZ) K) := by
    refine ct_of (by decide +kernel) (Nat.le_of_ble_eq_true rfl) (fun p e s m args below meth c C => ?_)
    refine j_sub (lv' := [(0, .ref (q 0))]) [0] rfl ?_
    refine j_aload_n C 0 dX11_here_0 rfl ?_
    refine j_get C 0 6 (ly_X11 C.2.2.2.2.2.2.2.1.1) q_641 rfl rfl (by decide) rfl rfl (by decide) rfl dX11_here_1 ?_
    refine j_aload_n C 0 dX11_here_4 rfl ?_
    refine j_get C 0 7 (ly_X11 C.2.2.2.2.2.2.2.1.1) q_642 rfl rfl (by decide) rfl rfl (by decide) rfl dX11_here_5 ?_
    refine j_icmp_ge C 27 dX11_here_8 (by decide) (fun c1 => ?_) (fun c1 => ?_)
    · have h := h.1 c1
      refine j_iconst (v := (-1)) C dX11_here_27 (by decide) ?_
      exact j_iret C dX11_here_28 h
    · have h := h.2 c1
      refine j_aload_n C 0 dX11_here_11 rfl ?_
      refine j_get C 0 1 (ly_X11 C.2.2.2.2.2.2.2.1.1) q_636 rfl rfl (by decide) rfl rfl (by decide) rfl dX11_here_12 ?_
      refine j_sipush (v := 129) C dX11_here_15 (by decide) ?_
      refine j_aload_n C 0 dX11_here_18 rfl ?_
      refine j_get C 0 6 (ly_X11 C.2.2.2.2.2.2.2.1.1) q_641 rfl rfl (by decide) rfl rfl (by decide) rfl dX11_here_19 ?_
      refine j_iadd C dX11_here_22 ?_
      obtain ⟨hin, h⟩ := h
      refine j_ialoadK (N := 944) C 1 _ rfl hin (by decide) rfl rfl dX11_here_23 ?_
      refine j_goto C 28 dX11_here_24 (by decide) ?_
      exact j_iret C dX11_here_28 h

def wX11_must_b41 (N : Nat) (K : MM → Prop) (s0 : Int32) (s1 : Int32) (u : MM) : Prop := (∀ u7 : MM, u7 = up u 0 6 (s1 + s0) → (K u7))
def wX11_must_b21 (N : Nat) (K : MM → Prop) (s0 : Int32) (u : MM) : Prop := (bz s0 ∧ ∀ u5 : MM, u5 = up u 0 8 s0 → (((u5 0 8) = 0 → (wX11_must_b41 N K 1 (u5 0 6) u5)) ∧ (¬ (u5 0 8) = 0 → (wX11_must_b41 N K 0 (u5 0 6) u5))))
def wX11_must_b16 (N : Nat) (K : MM → Prop) (u : MM) : Prop := (wX11_must_b21 N K 1 u)
def wX11_must (N : Nat) (x1 : Int32) (u : MM) (K : MM → Prop) : Prop := ((¬ (u 0 8) = 0 → (wX11_must_b16 N K u)) ∧ ((u 0 8) = 0 → (wX11_here N u (fun r2 u3 => ((r2 = x1 → (wX11_must_b21 N K 0 u3)) ∧ (¬ r2 = x1 → (wX11_must_b16 N K u3)))))))
set_option maxRecDepth 100000 in
set_option maxHeartbeats 4000000 in
theorem tX11_must_b41 (l : Launch) (D : va_G) (cI cZ : ClassId) (ad q : Nat → Nat) (N : Nat) {p : Program} {e : Env} {s : State} {m : MethodId} {args : Array Value} {below : List Frame} {meth : Method} {c : Code} {K : MM → Prop} (C : CX p s m args meth c cX11_must 2 RX11 none D cI cZ ad (AJ 9 q s.heap.size)) : ∀ (s0 : Int32) (s1 : Int32) (u : MM), wX11_must_b41 N K s0 s1 u → JX p l e (rr 1 20) s m args below meth c D (AJ 9 q s.heap.size) 2 (MQ below ((QV D 9 q (entM q cI cZ) K) (AJ 9 q s.heap.size)) args s 0 0 (AJ 9 q s.heap.size)) 9 q (entM q cI cZ) u 41 [] [.int s0, .int s1, .ref (q 0)] := by
    intro s0 s1 u h
    refine j_iadd C dX11_must_41 ?_
    refine j_put C 0 6 (ly_X11 C.2.2.2.2.2.2.2.1.1) q_641 rfl rfl (by decide) rfl rfl (by decide) tyX11_ok nmX11 rfl rfl ⟨rfl, rfl⟩ (Nat.le_of_ble_eq_true rfl) rfl dX11_must_42 ?_
    refine j_nmu (fun u7 eu7 => ?_)
    have h := h u7 eu7
    exact j_vret C dX11_must_45 h
set_option maxRecDepth 100000 in
set_option maxHeartbeats 4000000 in
theorem tX11_must_b21 (l : Launch) (D : va_G) (cI cZ : ClassId) (ad q : Nat → Nat) (N : Nat) {p : Program} {e : Env} {s : State} {m : MethodId} {args : Array Value} {below : List Frame} {meth : Method} {c : Code} {K : MM → Prop} (C : CX p s m args meth c cX11_must 2 RX11 none D cI cZ ad (AJ 9 q s.heap.size)) : ∀ (s0 : Int32) (u : MM), wX11_must_b21 N K s0 u → JX p l e (rr 1 20) s m args below meth c D (AJ 9 q s.heap.size) 2 (MQ below ((QV D 9 q (entM q cI cZ) K) (AJ 9 q s.heap.size)) args s 0 0 (AJ 9 q s.heap.size)) 9 q (entM q cI cZ) u 21 [(0, .ref (q 0))] [.int s0, .ref (q 0)] := by
    intro s0 u h
    obtain ⟨hbz, h⟩ := h
    refine j_put C 0 8 (ly_X11 C.2.2.2.2.2.2.2.1.1) q_643 rfl rfl (by decide) rfl rfl (by decide) tyX11_ok nmX11 rfl rfl hbz (Nat.le_of_ble_eq_true rfl) rfl dX11_must_21 ?_
    refine j_nmu (fun u5 eu5 => ?_)
    have h := h u5 eu5
    refine j_aload_n C 0 dX11_must_24 rfl ?_
    refine j_dup C dX11_must_25 rfl ?_
    refine j_get C 0 6 (ly_X11 C.2.2.2.2.2.2.2.1.1) q_641 rfl rfl (by decide) rfl rfl (by decide) rfl dX11_must_26 ?_
    refine j_aload_n C 0 dX11_must_29 rfl ?_
    refine j_get C 0 8 (ly_X11 C.2.2.2.2.2.2.2.1.1) q_643 rfl rfl (by decide) rfl rfl (by decide) rfl dX11_must_30 ?_
    refine j_if_eq C 40 dX11_must_33 (by decide) (fun c6 => ?_) (fun c6 => ?_)
    · have h := h.1 c6
      refine j_iconst (v := 1) C dX11_must_40 (by decide) ?_
      refine j_sub (lv' := []) [] rfl ?_
      exact tX11_must_b41 l D cI cZ ad q N C _ _ _ h
    · have h := h.2 c6
      refine j_iconst (v := 0) C dX11_must_36 (by decide) ?_
      refine j_goto C 41 dX11_must_37 (by decide) ?_
      refine j_sub (lv' := []) [] rfl ?_
      exact tX11_must_b41 l D cI cZ ad q N C _ _ _ h
set_option maxRecDepth 100000 in
set_option maxHeartbeats 4000000 in
theorem tX11_must_b16 (l : Launch) (D : va_G) (cI cZ : ClassId) (ad q : Nat → Nat) (N : Nat) {p : Program} {e : Env} {s : State} {m : MethodId} {args : Array Value} {below : List Frame} {meth : Method} {c : Code} {K : MM → Prop} (C : CX p s m args meth c cX11_must 2 RX11 none D cI cZ ad (AJ 9 q s.heap.size)) : ∀ (u : MM), wX11_must_b16 N K u → JX p l e (rr 1 20) s m args below meth c D (AJ 9 q s.heap.size) 2 (MQ below ((QV D 9 q (entM q cI cZ) K) (AJ 9 q s.heap.size)) args s 0 0 (AJ 9 q s.heap.size)) 9 q (entM q cI cZ) u 16 [(0, .ref (q 0))] [.ref (q 0)] := by
    intro u h
    refine j_iconst (v := 1) C dX11_must_16 (by decide) ?_
    refine j_goto C 21 dX11_must_17 (by decide) ?_
    exact tX11_must_b21 l D cI cZ ad q N C _ _ h
set_option maxRecDepth 100000 in
set_option maxHeartbeats 4000000 in
theorem kX_X11_must (l : Launch) (D : va_G) (cI cZ : ClassId) (ad q : Nat → Nat) (N : Nat) {x1 : Int32} {u : MM} {K : MM → Prop} (h : wX11_must N x1 u K) : CT l D cI cZ ad 9 q (entM q cI cZ) yX11_must cX11_must 2 none (rr 1 20) [.ref (q 0), .int x1] u (QV D 9 q (entM q cI cZ) K) := by
    refine ct_of (by decide +kernel) (Nat.le_of_ble_eq_true rfl) (fun p e s m args below meth c C => ?_)
    refine j_sub (lv' := [(0, .ref (q 0)), (1, .int x1)]) [0, 1] rfl ?_
    refine j_aload_n C 0 dX11_must_0 rfl ?_
    refine j_aload_n C 0 dX11_must_1 rfl ?_
    refine j_get C 0 8 (ly_X11 C.2.2.2.2.2.2.2.1.1) q_643 rfl rfl (by decide) rfl rfl (by decide) rfl dX11_must_2 ?_
    refine j_if_ne C 16 dX11_must_5 (by decide) (fun c1 => ?_) (fun c1 => ?_)
    · have h := h.1 c1
      refine j_sub (lv' := [(0, .ref (q 0))]) [0] rfl ?_
      exact tX11_must_b16 l D cI cZ ad q N C _ h
    · have h := h.2 c1
      refine j_aload_n C 0 dX11_must_8 rfl ?_
      refine j_wi C (fun H locs ls hP hD hS hl => run_V (Cn := "") (As := []) (st := [.ref (q 0)]) C mf_X11_here 0 (kX_X11_here l D cI cZ ad q N h) q_677 (by decide) rfl rfl rfl rfl ⟨rfl, rfl, by decide, by decide⟩ (Nat.le_of_ble_eq_true rfl) dX11_must_9 hP hD hS hl) (fun r2 u3 h => ?_)
      refine j_iload_n C 1 dX11_must_12 rfl ?_
      refine j_icmp_eq C 20 dX11_must_13 (by decide) (fun c4 => ?_) (fun c4 => ?_)
      · have h := h.1 c4
        refine j_iconst (v := 0) C dX11_must_20 (by decide) ?_
        refine j_sub (lv' := [(0, .ref (q 0))]) [0] rfl ?_
        exact tX11_must_b21 l D cI cZ ad q N C _ _ h
      · have h := h.2 c4
        refine j_sub (lv' := [(0, .ref (q 0))]) [0] rfl ?_
        exact tX11_must_b16 l D cI cZ ad q N C _ h

def wX11_spells_b2 (N : Nat) (K : MM → Prop) (i : Nat) : Nat → Int32 → MM → Prop
  | 0, _, _ => False
  | n + 1, x2, u => (i < 8 ∧ (((nI (lenJ.getD i 0)) ≤ x2 → (K u)) ∧ (¬ (nI (lenJ.getD i 0)) ≤ x2 → (i < 8 ∧ vp_in x2 (lenJ.getD i 0) ∧ (wX11_must N (chJ i x2.toNatClampNeg) u (fun u5 => (∀ y6 : Int32, y6 = x2 + 1 → (wX11_spells_b2 N K i n y6 u5))))))))
def wX11_spells (N : Nat) (i : Nat) (u : MM) (K : MM → Prop) : Prop := (wX11_spells_b2 N K i N 0 u)
set_option maxRecDepth 100000 in
set_option maxHeartbeats 4000000 in
theorem tX11_spells_b2 (l : Launch) (D : va_G) (cI cZ : ClassId) (ad q : Nat → Nat) (N : Nat) {p : Program} {e : Env} {s : State} {m : MethodId} {args : Array Value} {below : List Frame} {meth : Method} {c : Code} {K : MM → Prop} (C : CX p s m args meth c cX11_spells 3 RX11 none D cI cZ ad (AJ 9 q s.heap.size)) {i : Nat} : ∀ (n : Nat) (x2 : Int32) (u : MM), wX11_spells_b2 N K i n x2 u → JX p l e (rr 4 111) s m args below meth c D (AJ 9 q s.heap.size) 3 (MQ below ((QV D 9 q (entM q cI cZ) K) (AJ 9 q s.heap.size)) args s 0 0 (AJ 9 q s.heap.size)) 9 q (entM q cI cZ) u 2 [(0, .ref (q 0)), (1, .ref (ad (10 + i))), (2, .int x2)] [] := by
  intro n
  induction n with
  | zero => intro x2 u h; exact h.elim
  | succ n ih =>
    intro x2 u h
    refine j_iload_n C 2 dX11_spells_2 rfl ?_
    refine j_aload_n C 1 dX11_spells_3 rfl ?_
    obtain ⟨hi, h⟩ := h
    refine j_ui C (fun H locs ls hS hl => run_VS (As := []) (st := [.int x2]) C mf_J0_length_8abf5 i hi rfl (kX_J0_length l D cI cZ ad q (K := fun r => r = (nI (lenJ.getD i 0))) hi rfl) q_683 rfl rfl ⟨rfl, rfl, by decide, by decide⟩ (Nat.le_of_ble_eq_true rfl) dX11_spells_4 hS hl) (fun r1 _ hr => ?_)
    subst hr
    refine j_icmp_ge C 25 dX11_spells_7 (by decide) (fun c2 => ?_) (fun c2 => ?_)
    · have h := h.1 c2
      exact j_vret C dX11_spells_25 h
    · have h := h.2 c2
      refine j_aload_n C 0 dX11_spells_10 rfl ?_
      refine j_aload_n C 1 dX11_spells_11 rfl ?_
      refine j_iload_n C 2 dX11_spells_12 rfl ?_
      obtain ⟨hi, hin, h⟩ := h
      refine j_ui C (fun H locs ls hS hl => run_VS (As := [.int x2]) (st := [.ref (q 0)]) C mf_J0_charAt_5068e i hi rfl (kX_J0_charAt l D cI cZ ad q (K := fun r => r = (chJ i x2.toNatClampNeg)) hi hin rfl) q_684 rfl rfl ⟨rfl, rfl, by decide, by decide⟩ (Nat.le_of_ble_eq_true rfl) dX11_spells_13 hS hl) (fun r3 _ hr => ?_)
      subst hr
      refine j_wv C (fun H locs ls hP hD hS hl => run_V (Cn := "") (As := [.int (chJ i x2.toNatClampNeg)]) (st := []) C mf_X11_must 0 (kX_X11_must l D cI cZ ad q N h) q_685 (by decide) rfl rfl rfl rfl ⟨rfl, rfl, by decide, by decide⟩ (Nat.le_of_ble_eq_true rfl) dX11_spells_16 hP hD hS hl) (fun u5 h => ?_)
      obtain ⟨y6, ey6⟩ : ∃ z : Int32, z = x2 + 1 := ⟨_, rfl⟩
      have h := h y6 ey6
      refine j_iinc (v := y6) (lv' := [(2, .int y6), (0, .ref (q 0)), (1, .ref (ad (10 + i)))]) C 2 dX11_spells_19 rfl (by rw [ey6]; rfl) (by decide) rfl ?_
      refine j_goto C 2 dX11_spells_22 (by decide) ?_
      refine j_sub (lv' := [(0, .ref (q 0)), (1, .ref (ad (10 + i))), (2, .int y6)]) [1, 2, 0] rfl ?_
      exact ih _ _ h
set_option maxRecDepth 100000 in
set_option maxHeartbeats 4000000 in
theorem kX_X11_spells (l : Launch) (D : va_G) (cI cZ : ClassId) (ad q : Nat → Nat) (N : Nat) {i : Nat} {u : MM} {K : MM → Prop} (h : wX11_spells N i u K) : CT l D cI cZ ad 9 q (entM q cI cZ) yX11_spells cX11_spells 3 none (rr 4 111) [.ref (q 0), .ref (ad (10 + i))] u (QV D 9 q (entM q cI cZ) K) := by
    refine ct_of (by decide +kernel) (Nat.le_of_ble_eq_true rfl) (fun p e s m args below meth c C => ?_)
    refine j_sub (lv' := [(0, .ref (q 0)), (1, .ref (ad (10 + i)))]) [0, 1] rfl ?_
    refine j_iconst (v := 0) C dX11_spells_0 (by decide) ?_
    refine j_istore_n (lv' := [(2, .int 0), (0, .ref (q 0)), (1, .ref (ad (10 + i)))]) C dX11_spells_1 (by decide) rfl ?_
    refine j_sub (lv' := [(0, .ref (q 0)), (1, .ref (ad (10 + i))), (2, .int 0)]) [1, 2, 0] rfl ?_
    exact tX11_spells_b2 l D cI cZ ad q N C N _ _ h

def wX11_figures_b68 (N : Nat) (K : Int32 → MM → Prop) (ro34 : Int32 → Int32 → MM → Prop) (x1 : Int32) (x2 : Int32) (u : MM) : Prop := (wX11_here N u (fun r15 u16 => (∀ y17 : Int32, y17 = (((10 * x1) + r15) - 48) → (∀ u18 : MM, u18 = up u16 0 6 ((u16 0 6) + 1) → (∀ y19 : Int32, y19 = x2 + 1 → (ro34 y17 y19 u18))))))
def wX11_figures_b34 (N : Nat) (K : Int32 → MM → Prop) : Nat → Int32 → Int32 → MM → Prop
  | 0, _, _, _ => False
  | n + 1, x1, x2, u => ((2 ≤ x2 → (K x1 u)) ∧ (¬ 2 ≤ x2 → ((¬ (u 0 8) = 0 → (K x1 u)) ∧ ((u 0 8) = 0 → (wX11_here N u (fun r9 u10 => (wX11_in N r9 48 57 (fun r11 => ((r11 = 0 → (K x1 u10)) ∧ (¬ r11 = 0 → ((x2 = 0 → (wX11_figures_b68 N K (wX11_figures_b34 N K n) x1 x2 u10)) ∧ (¬ x2 = 0 → ((x1 ≤ 0 → (K x1 u10)) ∧ (¬ x1 ≤ 0 → (wX11_figures_b68 N K (wX11_figures_b34 N K n) x1 x2 u10)))))))))))))))
def wX11_figures_b27 (N : Nat) (K : Int32 → MM → Prop) (s0 : Int32) (u : MM) : Prop := (bz s0 ∧ ∀ u6 : MM, u6 = up u 0 8 s0 → (wX11_figures_b34 N K N 0 0 u6))
def wX11_figures_b22 (N : Nat) (K : Int32 → MM → Prop) (u : MM) : Prop := (wX11_figures_b27 N K 1 u)
def wX11_figures (N : Nat) (u : MM) (K : Int32 → MM → Prop) : Prop := ((¬ (u 0 8) = 0 → (wX11_figures_b22 N K u)) ∧ ((u 0 8) = 0 → (wX11_here N u (fun r2 u3 => (wX11_in N r2 48 57 (fun r4 => ((¬ r4 = 0 → (wX11_figures_b27 N K 0 u3)) ∧ (r4 = 0 → (wX11_figures_b22 N K u3)))))))))
set_option maxRecDepth 100000 in
set_option maxHeartbeats 4000000 in
theorem tX11_figures_b68 (l : Launch) (D : va_G) (cI cZ : ClassId) (ad q : Nat → Nat) (N : Nat) {p : Program} {e : Env} {s : State} {m : MethodId} {args : Array Value} {below : List Frame} {meth : Method} {c : Code} {K : Int32 → MM → Prop} (C : CX p s m args meth c cX11_figures 3 RX11 (some .int) D cI cZ ad (AJ 9 q s.heap.size)) {ro34 : Int32 → Int32 → MM → Prop} (hro34 : ∀ (x1 : Int32) (x2 : Int32) (u : MM), ro34 x1 x2 u → JX p l e (rr 1 22) s m args below meth c D (AJ 9 q s.heap.size) 3 (MQ below ((QI D 9 q (entM q cI cZ) K) (AJ 9 q s.heap.size)) args s 0 0 (AJ 9 q s.heap.size)) 9 q (entM q cI cZ) u 34 [(0, .ref (q 0)), (1, .int x1), (2, .int x2)] []) : ∀ (x1 : Int32) (x2 : Int32) (u : MM), wX11_figures_b68 N K ro34 x1 x2 u → JX p l e (rr 1 22) s m args below meth c D (AJ 9 q s.heap.size) 3 (MQ below ((QI D 9 q (entM q cI cZ) K) (AJ 9 q s.heap.size)) args s 0 0 (AJ 9 q s.heap.size)) 9 q (entM q cI cZ) u 68 [(0, .ref (q 0)), (1, .int x1), (2, .int x2)] [] := by
    intro x1 x2 u h
    refine j_bipush (v := 10) C dX11_figures_68 (by decide) ?_
    refine j_iload_n C 1 dX11_figures_70 rfl ?_
    refine j_imul C dX11_figures_71 ?_
    refine j_aload_n C 0 dX11_figures_72 rfl ?_
    refine j_wi C (fun H locs ls hP hD hS hl => run_V (Cn := "") (As := []) (st := [.int (10 * x1)]) C mf_X11_here 0 (kX_X11_here l D cI cZ ad q N h) q_677 (by decide) rfl rfl rfl rfl ⟨rfl, rfl, by decide, by decide⟩ (Nat.le_of_ble_eq_true rfl) dX11_figures_73 hP hD hS hl) (fun r15 u16 h => ?_)
    refine j_iadd C dX11_figures_76 ?_
    refine j_bipush (v := 48) C dX11_figures_77 (by decide) ?_
    refine j_isub C dX11_figures_79 ?_
    refine j_nmi (fun y17 ey17 => ?_)
    have h := h y17 ey17
    refine j_istore_n (lv' := [(1, .int y17), (0, .ref (q 0)), (2, .int x2)]) C dX11_figures_80 (by decide) rfl ?_
    refine j_aload_n C 1 dX11_figures_81 rfl ?_
    refine j_dup C dX11_figures_82 rfl ?_
    refine j_get C 0 6 (ly_X11 C.2.2.2.2.2.2.2.1.1) q_641 rfl rfl (by decide) rfl rfl (by decide) rfl dX11_figures_83 ?_
    refine j_iconst (v := 1) C dX11_figures_86 (by decide) ?_
    refine j_iadd C dX11_figures_87 ?_
    refine j_put C 0 6 (ly_X11 C.2.2.2.2.2.2.2.1.1) q_641 rfl rfl (by decide) rfl rfl (by decide) tyX11_ok nmX11 rfl rfl ⟨rfl, rfl⟩ (Nat.le_of_ble_eq_true rfl) rfl dX11_figures_88 ?_
    refine j_nmu (fun u18 eu18 => ?_)
    have h := h u18 eu18
    obtain ⟨y19, ey19⟩ : ∃ z : Int32, z = x2 + 1 := ⟨_, rfl⟩
    have h := h y19 ey19
    refine j_iinc (v := y19) (lv' := [(2, .int y19), (1, .int y17), (0, .ref (q 0))]) C 2 dX11_figures_91 rfl (by rw [ey19]; rfl) (by decide) rfl ?_
    refine j_goto C 34 dX11_figures_94 (by decide) ?_
    refine j_sub (lv' := [(0, .ref (q 0)), (1, .int y17), (2, .int y19)]) [2, 1, 0] rfl ?_
    exact hro34 _ _ _ h
set_option maxRecDepth 100000 in
set_option maxHeartbeats 4000000 in
theorem tX11_figures_b34 (l : Launch) (D : va_G) (cI cZ : ClassId) (ad q : Nat → Nat) (N : Nat) {p : Program} {e : Env} {s : State} {m : MethodId} {args : Array Value} {below : List Frame} {meth : Method} {c : Code} {K : Int32 → MM → Prop} (C : CX p s m args meth c cX11_figures 3 RX11 (some .int) D cI cZ ad (AJ 9 q s.heap.size)) : ∀ (n : Nat) (x1 : Int32) (x2 : Int32) (u : MM), wX11_figures_b34 N K n x1 x2 u → JX p l e (rr 1 22) s m args below meth c D (AJ 9 q s.heap.size) 3 (MQ below ((QI D 9 q (entM q cI cZ) K) (AJ 9 q s.heap.size)) args s 0 0 (AJ 9 q s.heap.size)) 9 q (entM q cI cZ) u 34 [(0, .ref (q 0)), (1, .int x1), (2, .int x2)] [] := by
  intro n
  induction n with
  | zero => intro x1 x2 u h; exact h.elim
  | succ n ih =>
    intro x1 x2 u h
    refine j_iload_n C 2 dX11_figures_34 rfl ?_
    refine j_iconst (v := 2) C dX11_figures_35 (by decide) ?_
    refine j_icmp_ge C 97 dX11_figures_36 (by decide) (fun c7 => ?_) (fun c7 => ?_)
    · have h := h.1 c7
      refine j_iload_n C 1 dX11_figures_97 rfl ?_
      exact j_iret C dX11_figures_98 h
    · have h := h.2 c7
      refine j_aload_n C 0 dX11_figures_39 rfl ?_
      refine j_get C 0 8 (ly_X11 C.2.2.2.2.2.2.2.1.1) q_643 rfl rfl (by decide) rfl rfl (by decide) rfl dX11_figures_40 ?_
      refine j_if_ne C 97 dX11_figures_43 (by decide) (fun c8 => ?_) (fun c8 => ?_)
      · have h := h.1 c8
        refine j_iload_n C 1 dX11_figures_97 rfl ?_
        exact j_iret C dX11_figures_98 h
      · have h := h.2 c8
        refine j_aload_n C 0 dX11_figures_46 rfl ?_
        refine j_wi C (fun H locs ls hP hD hS hl => run_V (Cn := "") (As := []) (st := []) C mf_X11_here 0 (kX_X11_here l D cI cZ ad q N h) q_677 (by decide) rfl rfl rfl rfl ⟨rfl, rfl, by decide, by decide⟩ (Nat.le_of_ble_eq_true rfl) dX11_figures_47 hP hD hS hl) (fun r9 u10 h => ?_)
        refine j_bipush (v := 48) C dX11_figures_50 (by decide) ?_
        refine j_bipush (v := 57) C dX11_figures_52 (by decide) ?_
        refine j_ui C (fun H locs ls hP hD => run_S (As := [.int r9, .int 48, .int 57]) (st := []) C mf_X11_in (kX_X11_in l D cI cZ ad q N h) q_667 rfl rfl ⟨rfl, rfl, by decide, by decide⟩ (Nat.le_of_ble_eq_true rfl) dX11_figures_54 hP hD) (fun r11 _ h => ?_)
        refine j_if_eq C 97 dX11_figures_57 (by decide) (fun c12 => ?_) (fun c12 => ?_)
        · have h := h.1 c12
          refine j_iload_n C 1 dX11_figures_97 rfl ?_
          exact j_iret C dX11_figures_98 h
        · have h := h.2 c12
          refine j_iload_n C 2 dX11_figures_60 rfl ?_
          refine j_if_eq C 68 dX11_figures_61 (by decide) (fun c13 => ?_) (fun c13 => ?_)
          · have h := h.1 c13
            exact tX11_figures_b68 l D cI cZ ad q N C ih _ _ _ h
          · have h := h.2 c13
            refine j_iload_n C 1 dX11_figures_64 rfl ?_
            refine j_if_le C 97 dX11_figures_65 (by decide) (fun c14 => ?_) (fun c14 => ?_)
            · have h := h.1 c14
              refine j_iload_n C 1 dX11_figures_97 rfl ?_
              exact j_iret C dX11_figures_98 h
            · have h := h.2 c14
              exact tX11_figures_b68 l D cI cZ ad q N C ih _ _ _ h
set_option maxRecDepth 100000 in
set_option maxHeartbeats 4000000 in
theorem tX11_figures_b27 (l : Launch) (D : va_G) (cI cZ : ClassId) (ad q : Nat → Nat) (N : Nat) {p : Program} {e : Env} {s : State} {m : MethodId} {args : Array Value} {below : List Frame} {meth : Method} {c : Code} {K : Int32 → MM → Prop} (C : CX p s m args meth c cX11_figures 3 RX11 (some .int) D cI cZ ad (AJ 9 q s.heap.size)) : ∀ (s0 : Int32) (u : MM), wX11_figures_b27 N K s0 u → JX p l e (rr 1 22) s m args below meth c D (AJ 9 q s.heap.size) 3 (MQ below ((QI D 9 q (entM q cI cZ) K) (AJ 9 q s.heap.size)) args s 0 0 (AJ 9 q s.heap.size)) 9 q (entM q cI cZ) u 27 [(0, .ref (q 0))] [.int s0, .ref (q 0)] := by
    intro s0 u h
    obtain ⟨hbz, h⟩ := h
    refine j_put C 0 8 (ly_X11 C.2.2.2.2.2.2.2.1.1) q_643 rfl rfl (by decide) rfl rfl (by decide) tyX11_ok nmX11 rfl rfl hbz (Nat.le_of_ble_eq_true rfl) rfl dX11_figures_27 ?_
    refine j_nmu (fun u6 eu6 => ?_)
    have h := h u6 eu6
    refine j_iconst (v := 0) C dX11_figures_30 (by decide) ?_
    refine j_istore_n (lv' := [(1, .int 0), (0, .ref (q 0))]) C dX11_figures_31 (by decide) rfl ?_
    refine j_iconst (v := 0) C dX11_figures_32 (by decide) ?_
    refine j_istore_n (lv' := [(2, .int 0), (1, .int 0), (0, .ref (q 0))]) C dX11_figures_33 (by decide) rfl ?_
    refine j_sub (lv' := [(0, .ref (q 0)), (1, .int 0), (2, .int 0)]) [2, 1, 0] rfl ?_
    exact tX11_figures_b34 l D cI cZ ad q N C N _ _ _ h
set_option maxRecDepth 100000 in
set_option maxHeartbeats 4000000 in
theorem tX11_figures_b22 (l : Launch) (D : va_G) (cI cZ : ClassId) (ad q : Nat → Nat) (N : Nat) {p : Program} {e : Env} {s : State} {m : MethodId} {args : Array Value} {below : List Frame} {meth : Method} {c : Code} {K : Int32 → MM → Prop} (C : CX p s m args meth c cX11_figures 3 RX11 (some .int) D cI cZ ad (AJ 9 q s.heap.size)) : ∀ (u : MM), wX11_figures_b22 N K u → JX p l e (rr 1 22) s m args below meth c D (AJ 9 q s.heap.size) 3 (MQ below ((QI D 9 q (entM q cI cZ) K) (AJ 9 q s.heap.size)) args s 0 0 (AJ 9 q s.heap.size)) 9 q (entM q cI cZ) u 22 [(0, .ref (q 0))] [.ref (q 0)] := by
    intro u h
    refine j_iconst (v := 1) C dX11_figures_22 (by decide) ?_
    refine j_goto C 27 dX11_figures_23 (by decide) ?_
    exact tX11_figures_b27 l D cI cZ ad q N C _ _ h
set_option maxRecDepth 100000 in
set_option maxHeartbeats 4000000 in
theorem kX_X11_figures (l : Launch) (D : va_G) (cI cZ : ClassId) (ad q : Nat → Nat) (N : Nat) {u : MM} {K : Int32 → MM → Prop} (h : wX11_figures N u K) : CT l D cI cZ ad 9 q (entM q cI cZ) yX11_figures cX11_figures 3 (some .int) (rr 1 22) [.ref (q 0)] u (QI D 9 q (entM q cI cZ) K) := by
    refine ct_of (by decide +kernel) (Nat.le_of_ble_eq_true rfl) (fun p e s m args below meth c C => ?_)
    refine j_sub (lv' := [(0, .ref (q 0))]) [0] rfl ?_
    refine j_aload_n C 0 dX11_figures_0 rfl ?_
    refine j_aload_n C 0 dX11_figures_1 rfl ?_
    refine j_get C 0 8 (ly_X11 C.2.2.2.2.2.2.2.1.1) q_643 rfl rfl (by decide) rfl rfl (by decide) rfl dX11_figures_2 ?_
    refine j_if_ne C 22 dX11_figures_5 (by decide) (fun c1 => ?_) (fun c1 => ?_)
    · have h := h.1 c1
      exact tX11_figures_b22 l D cI cZ ad q N C _ h
    · have h := h.2 c1
      refine j_aload_n C 0 dX11_figures_8 rfl ?_
      refine j_wi C (fun H locs ls hP hD hS hl => run_V (Cn := "") (As := []) (st := [.ref (q 0)]) C mf_X11_here 0 (kX_X11_here l D cI cZ ad q N h) q_677 (by decide) rfl rfl rfl rfl ⟨rfl, rfl, by decide, by decide⟩ (Nat.le_of_ble_eq_true rfl) dX11_figures_9 hP hD hS hl) (fun r2 u3 h => ?_)
      refine j_bipush (v := 48) C dX11_figures_12 (by decide) ?_
      refine j_bipush (v := 57) C dX11_figures_14 (by decide) ?_
      refine j_ui C (fun H locs ls hP hD => run_S (As := [.int r2, .int 48, .int 57]) (st := [.ref (q 0)]) C mf_X11_in (kX_X11_in l D cI cZ ad q N h) q_667 rfl rfl ⟨rfl, rfl, by decide, by decide⟩ (Nat.le_of_ble_eq_true rfl) dX11_figures_16 hP hD) (fun r4 _ h => ?_)
      refine j_if_ne C 26 dX11_figures_19 (by decide) (fun c5 => ?_) (fun c5 => ?_)
      · have h := h.1 c5
        refine j_iconst (v := 0) C dX11_figures_26 (by decide) ?_
        exact tX11_figures_b27 l D cI cZ ad q N C _ _ h
      · have h := h.2 c5
        exact tX11_figures_b22 l D cI cZ ad q N C _ h

def wX11_among_b2 (N : Nat) (K : Int32 → MM → Prop) (i : Nat) : Nat → Int32 → MM → Prop
  | 0, _, _ => False
  | n + 1, x2, u => (i < 8 ∧ (((nI (lenJ.getD i 0)) ≤ x2 → (K (-1) u)) ∧ (¬ (nI (lenJ.getD i 0)) ≤ x2 → (wX11_here N u (fun r3 u4 => (i < 8 ∧ vp_in x2 (lenJ.getD i 0) ∧ ((¬ r3 = (chJ i x2.toNatClampNeg) → (∀ y7 : Int32, y7 = x2 + 1 → (wX11_among_b2 N K i n y7 u4))) ∧ (r3 = (chJ i x2.toNatClampNeg) → (∀ u8 : MM, u8 = up u4 0 6 ((u4 0 6) + 1) → (K x2 u8))))))))))
def wX11_among (N : Nat) (i : Nat) (u : MM) (K : Int32 → MM → Prop) : Prop := (wX11_among_b2 N K i N 0 u)
set_option maxRecDepth 100000 in
set_option maxHeartbeats 4000000 in
theorem tX11_among_b2 (l : Launch) (D : va_G) (cI cZ : ClassId) (ad q : Nat → Nat) (N : Nat) {p : Program} {e : Env} {s : State} {m : MethodId} {args : Array Value} {below : List Frame} {meth : Method} {c : Code} {K : Int32 → MM → Prop} (C : CX p s m args meth c cX11_among 3 RX11 (some .int) D cI cZ ad (AJ 9 q s.heap.size)) {i : Nat} : ∀ (n : Nat) (x2 : Int32) (u : MM), wX11_among_b2 N K i n x2 u → JX p l e (rr 4 111) s m args below meth c D (AJ 9 q s.heap.size) 3 (MQ below ((QI D 9 q (entM q cI cZ) K) (AJ 9 q s.heap.size)) args s 0 0 (AJ 9 q s.heap.size)) 9 q (entM q cI cZ) u 2 [(0, .ref (q 0)), (1, .ref (ad (10 + i))), (2, .int x2)] [] := by
  intro n
  induction n with
  | zero => intro x2 u h; exact h.elim
  | succ n ih =>
    intro x2 u h
    refine j_iload_n C 2 dX11_among_2 rfl ?_
    refine j_aload_n C 1 dX11_among_3 rfl ?_
    obtain ⟨hi, h⟩ := h
    refine j_ui C (fun H locs ls hS hl => run_VS (As := []) (st := [.int x2]) C mf_J0_length_8abf5 i hi rfl (kX_J0_length l D cI cZ ad q (K := fun r => r = (nI (lenJ.getD i 0))) hi rfl) q_683 rfl rfl ⟨rfl, rfl, by decide, by decide⟩ (Nat.le_of_ble_eq_true rfl) dX11_among_4 hS hl) (fun r1 _ hr => ?_)
    subst hr
    refine j_icmp_ge C 40 dX11_among_7 (by decide) (fun c2 => ?_) (fun c2 => ?_)
    · have h := h.1 c2
      refine j_iconst (v := (-1)) C dX11_among_40 (by decide) ?_
      exact j_iret C dX11_among_41 h
    · have h := h.2 c2
      refine j_aload_n C 0 dX11_among_10 rfl ?_
      refine j_wi C (fun H locs ls hP hD hS hl => run_V (Cn := "") (As := []) (st := []) C mf_X11_here 0 (kX_X11_here l D cI cZ ad q N h) q_677 (by decide) rfl rfl rfl rfl ⟨rfl, rfl, by decide, by decide⟩ (Nat.le_of_ble_eq_true rfl) dX11_among_11 hP hD hS hl) (fun r3 u4 h => ?_)
      refine j_aload_n C 1 dX11_among_14 rfl ?_
      refine j_iload_n C 2 dX11_among_15 rfl ?_
      obtain ⟨hi, hin, h⟩ := h
      refine j_ui C (fun H locs ls hS hl => run_VS (As := [.int x2]) (st := [.int r3]) C mf_J0_charAt_5068e i hi rfl (kX_J0_charAt l D cI cZ ad q (K := fun r => r = (chJ i x2.toNatClampNeg)) hi hin rfl) q_684 rfl rfl ⟨rfl, rfl, by decide, by decide⟩ (Nat.le_of_ble_eq_true rfl) dX11_among_16 hS hl) (fun r5 _ hr => ?_)
      subst hr
      refine j_icmp_ne C 34 dX11_among_19 (by decide) (fun c6 => ?_) (fun c6 => ?_)
      · have h := h.1 c6
        obtain ⟨y7, ey7⟩ : ∃ z : Int32, z = x2 + 1 := ⟨_, rfl⟩
        have h := h y7 ey7
        refine j_iinc (v := y7) (lv' := [(2, .int y7), (0, .ref (q 0)), (1, .ref (ad (10 + i)))]) C 2 dX11_among_34 rfl (by rw [ey7]; rfl) (by decide) rfl ?_
        refine j_goto C 2 dX11_among_37 (by decide) ?_
        refine j_sub (lv' := [(0, .ref (q 0)), (1, .ref (ad (10 + i))), (2, .int y7)]) [1, 2, 0] rfl ?_
        exact ih _ _ h
      · have h := h.2 c6
        refine j_aload_n C 0 dX11_among_22 rfl ?_
        refine j_dup C dX11_among_23 rfl ?_
        refine j_get C 0 6 (ly_X11 C.2.2.2.2.2.2.2.1.1) q_641 rfl rfl (by decide) rfl rfl (by decide) rfl dX11_among_24 ?_
        refine j_iconst (v := 1) C dX11_among_27 (by decide) ?_
        refine j_iadd C dX11_among_28 ?_
        refine j_put C 0 6 (ly_X11 C.2.2.2.2.2.2.2.1.1) q_641 rfl rfl (by decide) rfl rfl (by decide) tyX11_ok nmX11 rfl rfl ⟨rfl, rfl⟩ (Nat.le_of_ble_eq_true rfl) rfl dX11_among_29 ?_
        refine j_nmu (fun u8 eu8 => ?_)
        have h := h u8 eu8
        refine j_iload_n C 2 dX11_among_32 rfl ?_
        exact j_iret C dX11_among_33 h
set_option maxRecDepth 100000 in
set_option maxHeartbeats 4000000 in
theorem kX_X11_among (l : Launch) (D : va_G) (cI cZ : ClassId) (ad q : Nat → Nat) (N : Nat) {i : Nat} {u : MM} {K : Int32 → MM → Prop} (h : wX11_among N i u K) : CT l D cI cZ ad 9 q (entM q cI cZ) yX11_among cX11_among 3 (some .int) (rr 4 111) [.ref (q 0), .ref (ad (10 + i))] u (QI D 9 q (entM q cI cZ) K) := by
    refine ct_of (by decide +kernel) (Nat.le_of_ble_eq_true rfl) (fun p e s m args below meth c C => ?_)
    refine j_sub (lv' := [(0, .ref (q 0)), (1, .ref (ad (10 + i)))]) [0, 1] rfl ?_
    refine j_iconst (v := 0) C dX11_among_0 (by decide) ?_
    refine j_istore_n (lv' := [(2, .int 0), (0, .ref (q 0)), (1, .ref (ad (10 + i)))]) C dX11_among_1 (by decide) rfl ?_
    refine j_sub (lv' := [(0, .ref (q 0)), (1, .ref (ad (10 + i))), (2, .int 0)]) [1, 2, 0] rfl ?_
    exact tX11_among_b2 l D cI cZ ad q N C N _ _ h

def wX11_emits (N : Nat) (x1 : Int32) (u : MM) (K : MM → Prop) : Prop := ((¬ (u 0 8) = 0 → (K u)) ∧ ((u 0 8) = 0 → (vp_in ((239 + (u 0 5))) 944 ∧ (vp_in (((244 + (140 * (u 0 5))) + (u 1 (239 + (u 0 5)).toNatClampNeg))) 944 ∧ ∀ u2 : MM, u2 = up u 1 (((244 + (140 * (u 0 5))) + (u 1 (239 + (u 0 5)).toNatClampNeg)).toNatClampNeg) x1 → (vp_in ((239 + (u2 0 5))) 944 ∧ (vp_in ((239 + (u2 0 5))) 944 ∧ ∀ u3 : MM, u3 = up u2 1 ((239 + (u2 0 5)).toNatClampNeg) ((u2 1 (239 + (u2 0 5)).toNatClampNeg) + 1) → (K u3)))))))
set_option maxRecDepth 100000 in
set_option maxHeartbeats 4000000 in
theorem kX_X11_emits (l : Launch) (D : va_G) (cI cZ : ClassId) (ad q : Nat → Nat) (N : Nat) {x1 : Int32} {u : MM} {K : MM → Prop} (h : wX11_emits N x1 u K) : CT l D cI cZ ad 9 q (entM q cI cZ) yX11_emits cX11_emits 2 none (rr 0 0) [.ref (q 0), .int x1] u (QV D 9 q (entM q cI cZ) K) := by
    refine ct_of (by decide +kernel) (Nat.le_of_ble_eq_true rfl) (fun p e s m args below meth c C => ?_)
    refine j_sub (lv' := [(0, .ref (q 0)), (1, .int x1)]) [0, 1] rfl ?_
    refine j_aload_n C 0 dX11_emits_0 rfl ?_
    refine j_get C 0 8 (ly_X11 C.2.2.2.2.2.2.2.1.1) q_643 rfl rfl (by decide) rfl rfl (by decide) rfl dX11_emits_1 ?_
    refine j_if_ne C 56 dX11_emits_4 (by decide) (fun c1 => ?_) (fun c1 => ?_)
    · have h := h.1 c1
      exact j_vret C dX11_emits_56 h
    · have h := h.2 c1
      refine j_aload_n C 0 dX11_emits_7 rfl ?_
      refine j_get C 0 1 (ly_X11 C.2.2.2.2.2.2.2.1.1) q_636 rfl rfl (by decide) rfl rfl (by decide) rfl dX11_emits_8 ?_
      refine j_sipush (v := 244) C dX11_emits_11 (by decide) ?_
      refine j_sipush (v := 140) C dX11_emits_14 (by decide) ?_
      refine j_aload_n C 0 dX11_emits_17 rfl ?_
      refine j_get C 0 5 (ly_X11 C.2.2.2.2.2.2.2.1.1) q_640 rfl rfl (by decide) rfl rfl (by decide) rfl dX11_emits_18 ?_
      refine j_imul C dX11_emits_21 ?_
      refine j_iadd C dX11_emits_22 ?_
      refine j_aload_n C 0 dX11_emits_23 rfl ?_
      refine j_get C 0 1 (ly_X11 C.2.2.2.2.2.2.2.1.1) q_636 rfl rfl (by decide) rfl rfl (by decide) rfl dX11_emits_24 ?_
      refine j_sipush (v := 239) C dX11_emits_27 (by decide) ?_
      refine j_aload_n C 0 dX11_emits_30 rfl ?_
      refine j_get C 0 5 (ly_X11 C.2.2.2.2.2.2.2.1.1) q_640 rfl rfl (by decide) rfl rfl (by decide) rfl dX11_emits_31 ?_
      refine j_iadd C dX11_emits_34 ?_
      obtain ⟨hin, h⟩ := h
      refine j_ialoadK (N := 944) C 1 _ rfl hin (by decide) rfl rfl dX11_emits_35 ?_
      refine j_iadd C dX11_emits_36 ?_
      refine j_iload_n C 1 dX11_emits_37 rfl ?_
      obtain ⟨hin, h⟩ := h
      refine j_iastoreK (N := 944) C 1 _ rfl hin (by decide) (fun _ => rfl) rfl dX11_emits_38 (fun u2 eu2 => ?_)
      have h := h u2 eu2
      refine j_aload_n C 0 dX11_emits_39 rfl ?_
      refine j_get C 0 1 (ly_X11 C.2.2.2.2.2.2.2.1.1) q_636 rfl rfl (by decide) rfl rfl (by decide) rfl dX11_emits_40 ?_
      refine j_sipush (v := 239) C dX11_emits_43 (by decide) ?_
      refine j_aload_n C 0 dX11_emits_46 rfl ?_
      refine j_get C 0 5 (ly_X11 C.2.2.2.2.2.2.2.1.1) q_640 rfl rfl (by decide) rfl rfl (by decide) rfl dX11_emits_47 ?_
      refine j_iadd C dX11_emits_50 ?_
      refine j_dup2 C dX11_emits_51 rfl rfl ?_
      obtain ⟨hin, h⟩ := h
      refine j_ialoadK (N := 944) C 1 _ rfl hin (by decide) rfl rfl dX11_emits_52 ?_
      refine j_iconst (v := 1) C dX11_emits_53 (by decide) ?_
      refine j_iadd C dX11_emits_54 ?_
      obtain ⟨hin, h⟩ := h
      refine j_iastoreK (N := 944) C 1 _ rfl hin (by decide) (fun _ => rfl) rfl dX11_emits_55 (fun u3 eu3 => ?_)
      have h := h u3 eu3
      exact j_vret C dX11_emits_56 h

def wX11_some_b4 (N : Nat) (rV : MM → (MM → Prop) → Prop) (K : MM → Prop) : Nat → MM → Prop
  | 0, _ => False
  | n + 1, u => ((¬ (u 0 8) = 0 → (K u)) ∧ ((u 0 8) = 0 → (wX11_here N u (fun r4 u5 => ((¬ r4 = 124 → (K u5)) ∧ (r4 = 124 → (∀ u7 : MM, u7 = up u5 0 6 ((u5 0 6) + 1) → (rV u7 (fun u9 => (wX11_emits N (-3) u9 (fun u11 => (wX11_some_b4 N rV K n u11))))))))))))
def wX11_some (N : Nat) (rV : MM → (MM → Prop) → Prop) (u : MM) (K : MM → Prop) : Prop := (rV u (fun u2 => (wX11_some_b4 N rV K N u2)))
set_option maxRecDepth 100000 in
set_option maxHeartbeats 4000000 in
theorem tX11_some_b4 (l : Launch) (D : va_G) (cI cZ : ClassId) (ad q : Nat → Nat) (N : Nat) (d : Nat) {rV : MM → (MM → Prop) → Prop} (hrV : ∀ (u : MM) (K : MM → Prop), rV u K → CT l D cI cZ ad 9 q (entM q cI cZ) yX11_every cX11_every 1 none (rr (7 + 3 * d) (300 + 150 * d)) [.ref (q 0)] u (QV D 9 q (entM q cI cZ) K)) {p : Program} {e : Env} {s : State} {m : MethodId} {args : Array Value} {below : List Frame} {meth : Method} {c : Code} {K : MM → Prop} (C : CX p s m args meth c cX11_some 1 RX11 none D cI cZ ad (AJ 9 q s.heap.size)) : ∀ (n : Nat) (u : MM), wX11_some_b4 N rV K n u → JX p l e (rr (8 + 3 * d) (350 + 150 * d)) s m args below meth c D (AJ 9 q s.heap.size) 1 (MQ below ((QV D 9 q (entM q cI cZ) K) (AJ 9 q s.heap.size)) args s 0 0 (AJ 9 q s.heap.size)) 9 q (entM q cI cZ) u 4 [(0, .ref (q 0))] [] := by
  intro n
  induction n with
  | zero => intro u h; exact h.elim
  | succ n ih =>
    intro u h
    refine j_aload_n C 0 dX11_some_4 rfl ?_
    refine j_get C 0 8 (ly_X11 C.2.2.2.2.2.2.2.1.1) q_643 rfl rfl (by decide) rfl rfl (by decide) rfl dX11_some_5 ?_
    refine j_if_ne C 43 dX11_some_8 (by decide) (fun c3 => ?_) (fun c3 => ?_)
    · have h := h.1 c3
      exact j_vret C dX11_some_43 h
    · have h := h.2 c3
      refine j_aload_n C 0 dX11_some_11 rfl ?_
      refine j_wi C (fun H locs ls hP hD hS hl => run_V (Cn := "") (As := []) (st := []) C mf_X11_here 0 (kX_X11_here l D cI cZ ad q N h) q_677 (by decide) rfl rfl rfl rfl ⟨rfl, rfl, by simp only [rr]; omega, by simp only [rr]; omega⟩ (Nat.le_of_ble_eq_true rfl) dX11_some_12 hP hD hS hl) (fun r4 u5 h => ?_)
      refine j_bipush (v := 124) C dX11_some_15 (by decide) ?_
      refine j_icmp_ne C 43 dX11_some_17 (by decide) (fun c6 => ?_) (fun c6 => ?_)
      · have h := h.1 c6
        exact j_vret C dX11_some_43 h
      · have h := h.2 c6
        refine j_aload_n C 0 dX11_some_20 rfl ?_
        refine j_dup C dX11_some_21 rfl ?_
        refine j_get C 0 6 (ly_X11 C.2.2.2.2.2.2.2.1.1) q_641 rfl rfl (by decide) rfl rfl (by decide) rfl dX11_some_22 ?_
        refine j_iconst (v := 1) C dX11_some_25 (by decide) ?_
        refine j_iadd C dX11_some_26 ?_
        refine j_put C 0 6 (ly_X11 C.2.2.2.2.2.2.2.1.1) q_641 rfl rfl (by decide) rfl rfl (by decide) tyX11_ok nmX11 rfl rfl ⟨rfl, rfl⟩ (Nat.le_of_ble_eq_true rfl) rfl dX11_some_27 ?_
        refine j_nmu (fun u7 eu7 => ?_)
        have h := h u7 eu7
        refine j_aload_n C 0 dX11_some_30 rfl ?_
        refine j_wv C (fun H locs ls hP hD hS hl => run_V (Cn := "") (As := []) (st := []) C mf_X11_every 0 (hrV _ _ h) q_691 (by decide) rfl rfl rfl rfl ⟨rfl, rfl, by simp only [rr]; omega, by simp only [rr]; omega⟩ (Nat.le_of_ble_eq_true rfl) dX11_some_31 hP hD hS hl) (fun u9 h => ?_)
        refine j_aload_n C 0 dX11_some_34 rfl ?_
        refine j_bipush (v := (-3)) C dX11_some_35 (by decide) ?_
        refine j_wv C (fun H locs ls hP hD hS hl => run_V (Cn := "") (As := [.int (-3)]) (st := []) C mf_X11_emits 0 (kX_X11_emits l D cI cZ ad q N h) q_697 (by decide) rfl rfl rfl rfl ⟨rfl, rfl, by simp only [rr]; omega, by simp only [rr]; omega⟩ (Nat.le_of_ble_eq_true rfl) dX11_some_37 hP hD hS hl) (fun u11 h => ?_)
        refine j_goto C 4 dX11_some_40 (by decide) ?_
        exact ih _ h
set_option maxRecDepth 100000 in
set_option maxHeartbeats 4000000 in
theorem kX_X11_some_o (l : Launch) (D : va_G) (cI cZ : ClassId) (ad q : Nat → Nat) (N : Nat) (d : Nat) {rV : MM → (MM → Prop) → Prop} (hrV : ∀ (u : MM) (K : MM → Prop), rV u K → CT l D cI cZ ad 9 q (entM q cI cZ) yX11_every cX11_every 1 none (rr (7 + 3 * d) (300 + 150 * d)) [.ref (q 0)] u (QV D 9 q (entM q cI cZ) K)) {u : MM} {K : MM → Prop} (h : wX11_some N rV u K) : CT l D cI cZ ad 9 q (entM q cI cZ) yX11_some cX11_some 1 none (rr (8 + 3 * d) (350 + 150 * d)) [.ref (q 0)] u (QV D 9 q (entM q cI cZ) K) := by
    refine ct_of (by decide +kernel) (Nat.le_of_ble_eq_true rfl) (fun p e s m args below meth c C => ?_)
    refine j_sub (lv' := [(0, .ref (q 0))]) [0] rfl ?_
    refine j_aload_n C 0 dX11_some_0 rfl ?_
    refine j_wv C (fun H locs ls hP hD hS hl => run_V (Cn := "") (As := []) (st := []) C mf_X11_every 0 (hrV _ _ h) q_691 (by decide) rfl rfl rfl rfl ⟨rfl, rfl, by simp only [rr]; omega, by simp only [rr]; omega⟩ (Nat.le_of_ble_eq_true rfl) dX11_some_1 hP hD hS hl) (fun u2 h => ?_)
    exact tX11_some_b4 l D cI cZ ad q N d hrV C N _ h

def wX11_every_b4 (N : Nat) (rF : MM → (MM → Prop) → Prop) (K : MM → Prop) : Nat → MM → Prop
  | 0, _ => False
  | n + 1, u => ((¬ (u 0 8) = 0 → (K u)) ∧ ((u 0 8) = 0 → (wX11_here N u (fun r4 u5 => ((¬ r4 = 38 → (K u5)) ∧ (r4 = 38 → (∀ u7 : MM, u7 = up u5 0 6 ((u5 0 6) + 1) → (rF u7 (fun u9 => (wX11_emits N (-2) u9 (fun u11 => (wX11_every_b4 N rF K n u11))))))))))))
def wX11_every (N : Nat) (rF : MM → (MM → Prop) → Prop) (u : MM) (K : MM → Prop) : Prop := (rF u (fun u2 => (wX11_every_b4 N rF K N u2)))
set_option maxRecDepth 100000 in
set_option maxHeartbeats 4000000 in
theorem tX11_every_b4 (l : Launch) (D : va_G) (cI cZ : ClassId) (ad q : Nat → Nat) (N : Nat) (d : Nat) {rF : MM → (MM → Prop) → Prop} (hrF : ∀ (u : MM) (K : MM → Prop), rF u K → CT l D cI cZ ad 9 q (entM q cI cZ) yX11_factor cX11_factor 5 none (rr (6 + 3 * d) (250 + 150 * d)) [.ref (q 0)] u (QV D 9 q (entM q cI cZ) K)) {p : Program} {e : Env} {s : State} {m : MethodId} {args : Array Value} {below : List Frame} {meth : Method} {c : Code} {K : MM → Prop} (C : CX p s m args meth c cX11_every 1 RX11 none D cI cZ ad (AJ 9 q s.heap.size)) : ∀ (n : Nat) (u : MM), wX11_every_b4 N rF K n u → JX p l e (rr (7 + 3 * d) (300 + 150 * d)) s m args below meth c D (AJ 9 q s.heap.size) 1 (MQ below ((QV D 9 q (entM q cI cZ) K) (AJ 9 q s.heap.size)) args s 0 0 (AJ 9 q s.heap.size)) 9 q (entM q cI cZ) u 4 [(0, .ref (q 0))] [] := by
  intro n
  induction n with
  | zero => intro u h; exact h.elim
  | succ n ih =>
    intro u h
    refine j_aload_n C 0 dX11_every_4 rfl ?_
    refine j_get C 0 8 (ly_X11 C.2.2.2.2.2.2.2.1.1) q_643 rfl rfl (by decide) rfl rfl (by decide) rfl dX11_every_5 ?_
    refine j_if_ne C 43 dX11_every_8 (by decide) (fun c3 => ?_) (fun c3 => ?_)
    · have h := h.1 c3
      exact j_vret C dX11_every_43 h
    · have h := h.2 c3
      refine j_aload_n C 0 dX11_every_11 rfl ?_
      refine j_wi C (fun H locs ls hP hD hS hl => run_V (Cn := "") (As := []) (st := []) C mf_X11_here 0 (kX_X11_here l D cI cZ ad q N h) q_677 (by decide) rfl rfl rfl rfl ⟨rfl, rfl, by simp only [rr]; omega, by simp only [rr]; omega⟩ (Nat.le_of_ble_eq_true rfl) dX11_every_12 hP hD hS hl) (fun r4 u5 h => ?_)
      refine j_bipush (v := 38) C dX11_every_15 (by decide) ?_
      refine j_icmp_ne C 43 dX11_every_17 (by decide) (fun c6 => ?_) (fun c6 => ?_)
      · have h := h.1 c6
        exact j_vret C dX11_every_43 h
      · have h := h.2 c6
        refine j_aload_n C 0 dX11_every_20 rfl ?_
        refine j_dup C dX11_every_21 rfl ?_
        refine j_get C 0 6 (ly_X11 C.2.2.2.2.2.2.2.1.1) q_641 rfl rfl (by decide) rfl rfl (by decide) rfl dX11_every_22 ?_
        refine j_iconst (v := 1) C dX11_every_25 (by decide) ?_
        refine j_iadd C dX11_every_26 ?_
        refine j_put C 0 6 (ly_X11 C.2.2.2.2.2.2.2.1.1) q_641 rfl rfl (by decide) rfl rfl (by decide) tyX11_ok nmX11 rfl rfl ⟨rfl, rfl⟩ (Nat.le_of_ble_eq_true rfl) rfl dX11_every_27 ?_
        refine j_nmu (fun u7 eu7 => ?_)
        have h := h u7 eu7
        refine j_aload_n C 0 dX11_every_30 rfl ?_
        refine j_wv C (fun H locs ls hP hD hS hl => run_V (Cn := "") (As := []) (st := []) C mf_X11_factor 0 (hrF _ _ h) q_694 (by decide) rfl rfl rfl rfl ⟨rfl, rfl, by simp only [rr]; omega, by simp only [rr]; omega⟩ (Nat.le_of_ble_eq_true rfl) dX11_every_31 hP hD hS hl) (fun u9 h => ?_)
        refine j_aload_n C 0 dX11_every_34 rfl ?_
        refine j_bipush (v := (-2)) C dX11_every_35 (by decide) ?_
        refine j_wv C (fun H locs ls hP hD hS hl => run_V (Cn := "") (As := [.int (-2)]) (st := []) C mf_X11_emits 0 (kX_X11_emits l D cI cZ ad q N h) q_697 (by decide) rfl rfl rfl rfl ⟨rfl, rfl, by simp only [rr]; omega, by simp only [rr]; omega⟩ (Nat.le_of_ble_eq_true rfl) dX11_every_37 hP hD hS hl) (fun u11 h => ?_)
        refine j_goto C 4 dX11_every_40 (by decide) ?_
        exact ih _ h
set_option maxRecDepth 100000 in
set_option maxHeartbeats 4000000 in
theorem kX_X11_every_o (l : Launch) (D : va_G) (cI cZ : ClassId) (ad q : Nat → Nat) (N : Nat) (d : Nat) {rF : MM → (MM → Prop) → Prop} (hrF : ∀ (u : MM) (K : MM → Prop), rF u K → CT l D cI cZ ad 9 q (entM q cI cZ) yX11_factor cX11_factor 5 none (rr (6 + 3 * d) (250 + 150 * d)) [.ref (q 0)] u (QV D 9 q (entM q cI cZ) K)) {u : MM} {K : MM → Prop} (h : wX11_every N rF u K) : CT l D cI cZ ad 9 q (entM q cI cZ) yX11_every cX11_every 1 none (rr (7 + 3 * d) (300 + 150 * d)) [.ref (q 0)] u (QV D 9 q (entM q cI cZ) K) := by
    refine ct_of (by decide +kernel) (Nat.le_of_ble_eq_true rfl) (fun p e s m args below meth c C => ?_)
    refine j_sub (lv' := [(0, .ref (q 0))]) [0] rfl ?_
    refine j_aload_n C 0 dX11_every_0 rfl ?_
    refine j_wv C (fun H locs ls hP hD hS hl => run_V (Cn := "") (As := []) (st := []) C mf_X11_factor 0 (hrF _ _ h) q_694 (by decide) rfl rfl rfl rfl ⟨rfl, rfl, by simp only [rr]; omega, by simp only [rr]; omega⟩ (Nat.le_of_ble_eq_true rfl) dX11_every_1 hP hD hS hl) (fun u2 h => ?_)
    exact tX11_every_b4 l D cI cZ ad q N d hrF C N _ h

def wX11_factor_b169 (N : Nat) (rF : MM → (MM → Prop) → Prop) (rS : MM → (MM → Prop) → Prop) (K : MM → Prop) (x2 : Int32) (x3 : Int32) (s0 : Int32) (u : MM) : Prop := (bz s0 ∧ ∀ u15 : MM, u15 = up u 0 8 s0 → (wX11_figures N u15 (fun r16 u17 => (wX11_emits N ((x2 + (8 * x3)) + (32 * r16)) u17 (fun u19 => (K u19))))))
def wX11_factor_b164 (N : Nat) (rF : MM → (MM → Prop) → Prop) (rS : MM → (MM → Prop) → Prop) (K : MM → Prop) (x2 : Int32) (x3 : Int32) (u : MM) : Prop := (wX11_factor_b169 N rF rS K x2 x3 1 u)
def wX11_factor_b150 (N : Nat) (rF : MM → (MM → Prop) → Prop) (rS : MM → (MM → Prop) → Prop) (K : MM → Prop) (x2 : Int32) (s0 : Int32) (u : MM) : Prop := ((¬ (u 0 8) = 0 → (wX11_factor_b164 N rF rS K x2 s0 u)) ∧ ((u 0 8) = 0 → ((¬ s0 = (-1) → (wX11_factor_b169 N rF rS K x2 s0 0 u)) ∧ (s0 = (-1) → (wX11_factor_b164 N rF rS K x2 s0 u)))))
def wX11_factor_b130 (N : Nat) (rF : MM → (MM → Prop) → Prop) (rS : MM → (MM → Prop) → Prop) (K : MM → Prop) (x2 : Int32) (s0 : Int32) (u : MM) : Prop := (bz s0 ∧ ∀ u9 : MM, u9 = up u 0 8 s0 → (((u9 0 8) = 0 → (wX11_among N 5 u9 (fun r11 u12 => (wX11_factor_b150 N rF rS K x2 r11 u12)))) ∧ (¬ (u9 0 8) = 0 → (wX11_factor_b150 N rF rS K x2 0 u9))))
def wX11_factor_b101 (N : Nat) (rF : MM → (MM → Prop) → Prop) (rS : MM → (MM → Prop) → Prop) (K : MM → Prop) (u : MM) : Prop := (∀ u34 : MM, u34 = up u 0 9 ((u 0 9) - 1) → (K u34))
def wX11_factor_b69 (N : Nat) (rF : MM → (MM → Prop) → Prop) (rS : MM → (MM → Prop) → Prop) (K : MM → Prop) (x1 : Int32) (s0 : Int32) (s1 : Int32) (u : MM) : Prop := (∀ u24 : MM, u24 = up u 0 6 (s1 + s0) → ((¬ x1 = 33 → (rS u24 (fun u27 => (wX11_must N 41 u27 (fun u29 => (wX11_factor_b101 N rF rS K u29)))))) ∧ (x1 = 33 → (rF u24 (fun u31 => (wX11_emits N (-1) u31 (fun u33 => (wX11_factor_b101 N rF rS K u33))))))))
def wX11_factor_b39 (N : Nat) (rF : MM → (MM → Prop) → Prop) (rS : MM → (MM → Prop) → Prop) (K : MM → Prop) (x1 : Int32) (s0 : Int32) (u : MM) : Prop := (bz s0 ∧ ∀ u21 : MM, u21 = up u 0 8 s0 → (∀ u22 : MM, u22 = up u21 0 9 ((u21 0 9) + 1) → (((u22 0 8) = 0 → (wX11_factor_b69 N rF rS K x1 1 (u22 0 6) u22)) ∧ (¬ (u22 0 8) = 0 → (wX11_factor_b69 N rF rS K x1 0 (u22 0 6) u22)))))
def wX11_factor_b25 (N : Nat) (rF : MM → (MM → Prop) → Prop) (rS : MM → (MM → Prop) → Prop) (K : MM → Prop) (x1 : Int32) (u : MM) : Prop := ((¬ (u 0 9) = 5 → (wX11_factor_b39 N rF rS K x1 0 u)) ∧ ((u 0 9) = 5 → (wX11_factor_b39 N rF rS K x1 1 u)))
def wX11_factor (N : Nat) (rF : MM → (MM → Prop) → Prop) (rS : MM → (MM → Prop) → Prop) (u : MM) (K : MM → Prop) : Prop := (((u 0 8) = 0 → (wX11_here N u (fun r2 u3 => ((r2 = 33 → (wX11_factor_b25 N rF rS K r2 u3)) ∧ (¬ r2 = 33 → ((¬ r2 = 40 → (wX11_among N 4 u3 (fun r6 u7 => ((¬ r6 = (-1) → (wX11_factor_b130 N rF rS K r6 0 u7)) ∧ (r6 = (-1) → (wX11_factor_b130 N rF rS K r6 1 u7)))))) ∧ (r2 = 40 → (wX11_factor_b25 N rF rS K r2 u3)))))))) ∧ (¬ (u 0 8) = 0 → (K u)))
set_option maxRecDepth 100000 in
set_option maxHeartbeats 4000000 in
theorem tX11_factor_b169 (l : Launch) (D : va_G) (cI cZ : ClassId) (ad q : Nat → Nat) (N : Nat) (d : Nat) {rF : MM → (MM → Prop) → Prop} (hrF : ∀ (u : MM) (K : MM → Prop), rF u K → CT l D cI cZ ad 9 q (entM q cI cZ) yX11_factor cX11_factor 5 none (rr (6 + 3 * d) (250 + 150 * d)) [.ref (q 0)] u (QV D 9 q (entM q cI cZ) K)) {rS : MM → (MM → Prop) → Prop} (hrS : ∀ (u : MM) (K : MM → Prop), rS u K → CT l D cI cZ ad 9 q (entM q cI cZ) yX11_some cX11_some 1 none (rr (8 + 3 * d) (350 + 150 * d)) [.ref (q 0)] u (QV D 9 q (entM q cI cZ) K)) {p : Program} {e : Env} {s : State} {m : MethodId} {args : Array Value} {below : List Frame} {meth : Method} {c : Code} {K : MM → Prop} (C : CX p s m args meth c cX11_factor 5 RX11 none D cI cZ ad (AJ 9 q s.heap.size)) : ∀ (x2 : Int32) (x3 : Int32) (s0 : Int32) (u : MM), wX11_factor_b169 N rF rS K x2 x3 s0 u → JX p l e (rr (6 + 3 * (d + 1)) (250 + 150 * (d + 1))) s m args below meth c D (AJ 9 q s.heap.size) 5 (MQ below ((QV D 9 q (entM q cI cZ) K) (AJ 9 q s.heap.size)) args s 0 0 (AJ 9 q s.heap.size)) 9 q (entM q cI cZ) u 169 [(0, .ref (q 0)), (2, .int x2), (3, .int x3)] [.int s0, .ref (q 0)] := by
    intro x2 x3 s0 u h
    obtain ⟨hbz, h⟩ := h
    refine j_put C 0 8 (ly_X11 C.2.2.2.2.2.2.2.1.1) q_643 rfl rfl (by decide) rfl rfl (by decide) tyX11_ok nmX11 rfl rfl hbz (Nat.le_of_ble_eq_true rfl) rfl dX11_factor_169 ?_
    refine j_nmu (fun u15 eu15 => ?_)
    have h := h u15 eu15
    refine j_aload_n C 0 dX11_factor_172 rfl ?_
    refine j_wi C (fun H locs ls hP hD hS hl => run_V (Cn := "") (As := []) (st := []) C mf_X11_figures 0 (kX_X11_figures l D cI cZ ad q N h) q_703 (by decide) rfl rfl rfl rfl ⟨rfl, rfl, by simp only [rr]; omega, by simp only [rr]; omega⟩ (Nat.le_of_ble_eq_true rfl) dX11_factor_173 hP hD hS hl) (fun r16 u17 h => ?_)
    refine j_istore (lv' := [(4, .int r16), (0, .ref (q 0)), (2, .int x2), (3, .int x3)]) C dX11_factor_176 (by decide) rfl ?_
    refine j_aload_n C 1 dX11_factor_178 rfl ?_
    refine j_iload_n C 2 dX11_factor_179 rfl ?_
    refine j_bipush (v := 8) C dX11_factor_180 (by decide) ?_
    refine j_iload_n C 3 dX11_factor_182 rfl ?_
    refine j_imul C dX11_factor_183 ?_
    refine j_iadd C dX11_factor_184 ?_
    refine j_bipush (v := 32) C dX11_factor_185 (by decide) ?_
    refine j_iload C 0 dX11_factor_187 rfl ?_
    refine j_imul C dX11_factor_189 ?_
    refine j_iadd C dX11_factor_190 ?_
    refine j_wv C (fun H locs ls hP hD hS hl => run_V (Cn := "") (As := [.int ((x2 + (8 * x3)) + (32 * r16))]) (st := []) C mf_X11_emits 0 (kX_X11_emits l D cI cZ ad q N h) q_697 (by decide) rfl rfl rfl rfl ⟨rfl, rfl, by simp only [rr]; omega, by simp only [rr]; omega⟩ (Nat.le_of_ble_eq_true rfl) dX11_factor_191 hP hD hS hl) (fun u19 h => ?_)
    exact j_vret C dX11_factor_194 h
set_option maxRecDepth 100000 in
set_option maxHeartbeats 4000000 in
theorem tX11_factor_b164 (l : Launch) (D : va_G) (cI cZ : ClassId) (ad q : Nat → Nat) (N : Nat) (d : Nat) {rF : MM → (MM → Prop) → Prop} (hrF : ∀ (u : MM) (K : MM → Prop), rF u K → CT l D cI cZ ad 9 q (entM q cI cZ) yX11_factor cX11_factor 5 none (rr (6 + 3 * d) (250 + 150 * d)) [.ref (q 0)] u (QV D 9 q (entM q cI cZ) K)) {rS : MM → (MM → Prop) → Prop} (hrS : ∀ (u : MM) (K : MM → Prop), rS u K → CT l D cI cZ ad 9 q (entM q cI cZ) yX11_some cX11_some 1 none (rr (8 + 3 * d) (350 + 150 * d)) [.ref (q 0)] u (QV D 9 q (entM q cI cZ) K)) {p : Program} {e : Env} {s : State} {m : MethodId} {args : Array Value} {below : List Frame} {meth : Method} {c : Code} {K : MM → Prop} (C : CX p s m args meth c cX11_factor 5 RX11 none D cI cZ ad (AJ 9 q s.heap.size)) : ∀ (x2 : Int32) (x3 : Int32) (u : MM), wX11_factor_b164 N rF rS K x2 x3 u → JX p l e (rr (6 + 3 * (d + 1)) (250 + 150 * (d + 1))) s m args below meth c D (AJ 9 q s.heap.size) 5 (MQ below ((QV D 9 q (entM q cI cZ) K) (AJ 9 q s.heap.size)) args s 0 0 (AJ 9 q s.heap.size)) 9 q (entM q cI cZ) u 164 [(0, .ref (q 0)), (2, .int x2), (3, .int x3)] [.ref (q 0)] := by
    intro x2 x3 u h
    refine j_iconst (v := 1) C dX11_factor_164 (by decide) ?_
    refine j_goto C 169 dX11_factor_165 (by decide) ?_
    exact tX11_factor_b169 l D cI cZ ad q N d hrF hrS C _ _ _ _ h
set_option maxRecDepth 100000 in
set_option maxHeartbeats 4000000 in
theorem tX11_factor_b150 (l : Launch) (D : va_G) (cI cZ : ClassId) (ad q : Nat → Nat) (N : Nat) (d : Nat) {rF : MM → (MM → Prop) → Prop} (hrF : ∀ (u : MM) (K : MM → Prop), rF u K → CT l D cI cZ ad 9 q (entM q cI cZ) yX11_factor cX11_factor 5 none (rr (6 + 3 * d) (250 + 150 * d)) [.ref (q 0)] u (QV D 9 q (entM q cI cZ) K)) {rS : MM → (MM → Prop) → Prop} (hrS : ∀ (u : MM) (K : MM → Prop), rS u K → CT l D cI cZ ad 9 q (entM q cI cZ) yX11_some cX11_some 1 none (rr (8 + 3 * d) (350 + 150 * d)) [.ref (q 0)] u (QV D 9 q (entM q cI cZ) K)) {p : Program} {e : Env} {s : State} {m : MethodId} {args : Array Value} {below : List Frame} {meth : Method} {c : Code} {K : MM → Prop} (C : CX p s m args meth c cX11_factor 5 RX11 none D cI cZ ad (AJ 9 q s.heap.size)) : ∀ (x2 : Int32) (s0 : Int32) (u : MM), wX11_factor_b150 N rF rS K x2 s0 u → JX p l e (rr (6 + 3 * (d + 1)) (250 + 150 * (d + 1))) s m args below meth c D (AJ 9 q s.heap.size) 5 (MQ below ((QV D 9 q (entM q cI cZ) K) (AJ 9 q s.heap.size)) args s 0 0 (AJ 9 q s.heap.size)) 9 q (entM q cI cZ) u 150 [(0, .ref (q 0)), (2, .int x2)] [.int s0] := by
    intro x2 s0 u h
    refine j_istore_n (lv' := [(3, .int s0), (0, .ref (q 0)), (2, .int x2)]) C dX11_factor_150 (by decide) rfl ?_
    refine j_aload_n C 1 dX11_factor_151 rfl ?_
    refine j_aload_n C 1 dX11_factor_152 rfl ?_
    refine j_get C 0 8 (ly_X11 C.2.2.2.2.2.2.2.1.1) q_643 rfl rfl (by decide) rfl rfl (by decide) rfl dX11_factor_153 ?_
    refine j_if_ne C 164 dX11_factor_156 (by decide) (fun c13 => ?_) (fun c13 => ?_)
    · have h := h.1 c13
      refine j_sub (lv' := [(0, .ref (q 0)), (2, .int x2), (3, .int s0)]) [1, 2, 0] rfl ?_
      exact tX11_factor_b164 l D cI cZ ad q N d hrF hrS C _ _ _ h
    · have h := h.2 c13
      refine j_iload_n C 0 dX11_factor_159 rfl ?_
      refine j_iconst (v := (-1)) C dX11_factor_160 (by decide) ?_
      refine j_icmp_ne C 168 dX11_factor_161 (by decide) (fun c14 => ?_) (fun c14 => ?_)
      · have h := h.1 c14
        refine j_iconst (v := 0) C dX11_factor_168 (by decide) ?_
        refine j_sub (lv' := [(0, .ref (q 0)), (2, .int x2), (3, .int s0)]) [1, 2, 0] rfl ?_
        exact tX11_factor_b169 l D cI cZ ad q N d hrF hrS C _ _ _ _ h
      · have h := h.2 c14
        refine j_sub (lv' := [(0, .ref (q 0)), (2, .int x2), (3, .int s0)]) [1, 2, 0] rfl ?_
        exact tX11_factor_b164 l D cI cZ ad q N d hrF hrS C _ _ _ h
set_option maxRecDepth 100000 in
set_option maxHeartbeats 4000000 in
theorem tX11_factor_b130 (l : Launch) (D : va_G) (cI cZ : ClassId) (ad q : Nat → Nat) (N : Nat) (d : Nat) {rF : MM → (MM → Prop) → Prop} (hrF : ∀ (u : MM) (K : MM → Prop), rF u K → CT l D cI cZ ad 9 q (entM q cI cZ) yX11_factor cX11_factor 5 none (rr (6 + 3 * d) (250 + 150 * d)) [.ref (q 0)] u (QV D 9 q (entM q cI cZ) K)) {rS : MM → (MM → Prop) → Prop} (hrS : ∀ (u : MM) (K : MM → Prop), rS u K → CT l D cI cZ ad 9 q (entM q cI cZ) yX11_some cX11_some 1 none (rr (8 + 3 * d) (350 + 150 * d)) [.ref (q 0)] u (QV D 9 q (entM q cI cZ) K)) {p : Program} {e : Env} {s : State} {m : MethodId} {args : Array Value} {below : List Frame} {meth : Method} {c : Code} {K : MM → Prop} (C : CX p s m args meth c cX11_factor 5 RX11 none D cI cZ ad (AJ 9 q s.heap.size)) : ∀ (x2 : Int32) (s0 : Int32) (u : MM), wX11_factor_b130 N rF rS K x2 s0 u → JX p l e (rr (6 + 3 * (d + 1)) (250 + 150 * (d + 1))) s m args below meth c D (AJ 9 q s.heap.size) 5 (MQ below ((QV D 9 q (entM q cI cZ) K) (AJ 9 q s.heap.size)) args s 0 0 (AJ 9 q s.heap.size)) 9 q (entM q cI cZ) u 130 [(0, .ref (q 0)), (2, .int x2)] [.int s0, .ref (q 0)] := by
    intro x2 s0 u h
    obtain ⟨hbz, h⟩ := h
    refine j_put C 0 8 (ly_X11 C.2.2.2.2.2.2.2.1.1) q_643 rfl rfl (by decide) rfl rfl (by decide) tyX11_ok nmX11 rfl rfl hbz (Nat.le_of_ble_eq_true rfl) rfl dX11_factor_130 ?_
    refine j_nmu (fun u9 eu9 => ?_)
    have h := h u9 eu9
    refine j_aload_n C 0 dX11_factor_133 rfl ?_
    refine j_get C 0 8 (ly_X11 C.2.2.2.2.2.2.2.1.1) q_643 rfl rfl (by decide) rfl rfl (by decide) rfl dX11_factor_134 ?_
    refine j_if_eq C 144 dX11_factor_137 (by decide) (fun c10 => ?_) (fun c10 => ?_)
    · have h := h.1 c10
      refine j_aload_n C 0 dX11_factor_144 rfl ?_
      refine j_ldcS (k := 5) C (List.mem_of_getElem? (i := 6) rfl) dX11_factor_145 ?_
      refine j_wi C (fun H locs ls hP hD hS hl => run_V (Cn := "") (As := [.ref (ad (10 + 5))]) (st := []) C mf_X11_among 0 (kX_X11_among l D cI cZ ad q N h) q_700 (by decide) rfl rfl rfl rfl ⟨rfl, rfl, by simp only [rr]; omega, by simp only [rr]; omega⟩ (Nat.le_of_ble_eq_true rfl) dX11_factor_147 hP hD hS hl) (fun r11 u12 h => ?_)
      exact tX11_factor_b150 l D cI cZ ad q N d hrF hrS C _ _ _ h
    · have h := h.2 c10
      refine j_iconst (v := 0) C dX11_factor_140 (by decide) ?_
      refine j_goto C 150 dX11_factor_141 (by decide) ?_
      exact tX11_factor_b150 l D cI cZ ad q N d hrF hrS C _ _ _ h
set_option maxRecDepth 100000 in
set_option maxHeartbeats 4000000 in
theorem tX11_factor_b101 (l : Launch) (D : va_G) (cI cZ : ClassId) (ad q : Nat → Nat) (N : Nat) (d : Nat) {rF : MM → (MM → Prop) → Prop} (hrF : ∀ (u : MM) (K : MM → Prop), rF u K → CT l D cI cZ ad 9 q (entM q cI cZ) yX11_factor cX11_factor 5 none (rr (6 + 3 * d) (250 + 150 * d)) [.ref (q 0)] u (QV D 9 q (entM q cI cZ) K)) {rS : MM → (MM → Prop) → Prop} (hrS : ∀ (u : MM) (K : MM → Prop), rS u K → CT l D cI cZ ad 9 q (entM q cI cZ) yX11_some cX11_some 1 none (rr (8 + 3 * d) (350 + 150 * d)) [.ref (q 0)] u (QV D 9 q (entM q cI cZ) K)) {p : Program} {e : Env} {s : State} {m : MethodId} {args : Array Value} {below : List Frame} {meth : Method} {c : Code} {K : MM → Prop} (C : CX p s m args meth c cX11_factor 5 RX11 none D cI cZ ad (AJ 9 q s.heap.size)) : ∀ (u : MM), wX11_factor_b101 N rF rS K u → JX p l e (rr (6 + 3 * (d + 1)) (250 + 150 * (d + 1))) s m args below meth c D (AJ 9 q s.heap.size) 5 (MQ below ((QV D 9 q (entM q cI cZ) K) (AJ 9 q s.heap.size)) args s 0 0 (AJ 9 q s.heap.size)) 9 q (entM q cI cZ) u 101 [(0, .ref (q 0))] [] := by
    intro u h
    refine j_aload_n C 0 dX11_factor_101 rfl ?_
    refine j_dup C dX11_factor_102 rfl ?_
    refine j_get C 0 9 (ly_X11 C.2.2.2.2.2.2.2.1.1) q_644 rfl rfl (by decide) rfl rfl (by decide) rfl dX11_factor_103 ?_
    refine j_iconst (v := 1) C dX11_factor_106 (by decide) ?_
    refine j_isub C dX11_factor_107 ?_
    refine j_put C 0 9 (ly_X11 C.2.2.2.2.2.2.2.1.1) q_644 rfl rfl (by decide) rfl rfl (by decide) tyX11_ok nmX11 rfl rfl ⟨rfl, rfl⟩ (Nat.le_of_ble_eq_true rfl) rfl dX11_factor_108 ?_
    refine j_nmu (fun u34 eu34 => ?_)
    have h := h u34 eu34
    exact j_vret C dX11_factor_111 h
set_option maxRecDepth 100000 in
set_option maxHeartbeats 4000000 in
theorem tX11_factor_b69 (l : Launch) (D : va_G) (cI cZ : ClassId) (ad q : Nat → Nat) (N : Nat) (d : Nat) {rF : MM → (MM → Prop) → Prop} (hrF : ∀ (u : MM) (K : MM → Prop), rF u K → CT l D cI cZ ad 9 q (entM q cI cZ) yX11_factor cX11_factor 5 none (rr (6 + 3 * d) (250 + 150 * d)) [.ref (q 0)] u (QV D 9 q (entM q cI cZ) K)) {rS : MM → (MM → Prop) → Prop} (hrS : ∀ (u : MM) (K : MM → Prop), rS u K → CT l D cI cZ ad 9 q (entM q cI cZ) yX11_some cX11_some 1 none (rr (8 + 3 * d) (350 + 150 * d)) [.ref (q 0)] u (QV D 9 q (entM q cI cZ) K)) {p : Program} {e : Env} {s : State} {m : MethodId} {args : Array Value} {below : List Frame} {meth : Method} {c : Code} {K : MM → Prop} (C : CX p s m args meth c cX11_factor 5 RX11 none D cI cZ ad (AJ 9 q s.heap.size)) : ∀ (x1 : Int32) (s0 : Int32) (s1 : Int32) (u : MM), wX11_factor_b69 N rF rS K x1 s0 s1 u → JX p l e (rr (6 + 3 * (d + 1)) (250 + 150 * (d + 1))) s m args below meth c D (AJ 9 q s.heap.size) 5 (MQ below ((QV D 9 q (entM q cI cZ) K) (AJ 9 q s.heap.size)) args s 0 0 (AJ 9 q s.heap.size)) 9 q (entM q cI cZ) u 69 [(0, .ref (q 0)), (1, .int x1)] [.int s0, .int s1, .ref (q 0)] := by
    intro x1 s0 s1 u h
    refine j_iadd C dX11_factor_69 ?_
    refine j_put C 0 6 (ly_X11 C.2.2.2.2.2.2.2.1.1) q_641 rfl rfl (by decide) rfl rfl (by decide) tyX11_ok nmX11 rfl rfl ⟨rfl, rfl⟩ (Nat.le_of_ble_eq_true rfl) rfl dX11_factor_70 ?_
    refine j_nmu (fun u24 eu24 => ?_)
    have h := h u24 eu24
    refine j_iload_n C 1 dX11_factor_73 rfl ?_
    refine j_bipush (v := 33) C dX11_factor_74 (by decide) ?_
    refine j_icmp_ne C 91 dX11_factor_76 (by decide) (fun c25 => ?_) (fun c25 => ?_)
    · have h := h.1 c25
      refine j_aload_n C 0 dX11_factor_91 rfl ?_
      refine j_wv C (fun H locs ls hP hD hS hl => run_V (Cn := "") (As := []) (st := []) C mf_X11_some 0 (hrS _ _ h) q_688 (by decide) rfl rfl rfl rfl ⟨rfl, rfl, by simp only [rr]; omega, by simp only [rr]; omega⟩ (Nat.le_of_ble_eq_true rfl) dX11_factor_92 hP hD hS hl) (fun u27 h => ?_)
      refine j_aload_n C 0 dX11_factor_95 rfl ?_
      refine j_bipush (v := 41) C dX11_factor_96 (by decide) ?_
      refine j_wv C (fun H locs ls hP hD hS hl => run_V (Cn := "") (As := [.int 41]) (st := []) C mf_X11_must 0 (kX_X11_must l D cI cZ ad q N h) q_685 (by decide) rfl rfl rfl rfl ⟨rfl, rfl, by simp only [rr]; omega, by simp only [rr]; omega⟩ (Nat.le_of_ble_eq_true rfl) dX11_factor_98 hP hD hS hl) (fun u29 h => ?_)
      refine j_sub (lv' := [(0, .ref (q 0))]) [0] rfl ?_
      exact tX11_factor_b101 l D cI cZ ad q N d hrF hrS C _ h
    · have h := h.2 c25
      refine j_aload_n C 0 dX11_factor_79 rfl ?_
      refine j_wv C (fun H locs ls hP hD hS hl => run_V (Cn := "") (As := []) (st := []) C mf_X11_factor 0 (hrF _ _ h) q_694 (by decide) rfl rfl rfl rfl ⟨rfl, rfl, by simp only [rr]; omega, by simp only [rr]; omega⟩ (Nat.le_of_ble_eq_true rfl) dX11_factor_80 hP hD hS hl) (fun u31 h => ?_)
      refine j_aload_n C 0 dX11_factor_83 rfl ?_
      refine j_iconst (v := (-1)) C dX11_factor_84 (by decide) ?_
      refine j_wv C (fun H locs ls hP hD hS hl => run_V (Cn := "") (As := [.int (-1)]) (st := []) C mf_X11_emits 0 (kX_X11_emits l D cI cZ ad q N h) q_697 (by decide) rfl rfl rfl rfl ⟨rfl, rfl, by simp only [rr]; omega, by simp only [rr]; omega⟩ (Nat.le_of_ble_eq_true rfl) dX11_factor_85 hP hD hS hl) (fun u33 h => ?_)
      refine j_goto C 101 dX11_factor_88 (by decide) ?_
      refine j_sub (lv' := [(0, .ref (q 0))]) [0] rfl ?_
      exact tX11_factor_b101 l D cI cZ ad q N d hrF hrS C _ h
set_option maxRecDepth 100000 in
set_option maxHeartbeats 4000000 in
theorem tX11_factor_b39 (l : Launch) (D : va_G) (cI cZ : ClassId) (ad q : Nat → Nat) (N : Nat) (d : Nat) {rF : MM → (MM → Prop) → Prop} (hrF : ∀ (u : MM) (K : MM → Prop), rF u K → CT l D cI cZ ad 9 q (entM q cI cZ) yX11_factor cX11_factor 5 none (rr (6 + 3 * d) (250 + 150 * d)) [.ref (q 0)] u (QV D 9 q (entM q cI cZ) K)) {rS : MM → (MM → Prop) → Prop} (hrS : ∀ (u : MM) (K : MM → Prop), rS u K → CT l D cI cZ ad 9 q (entM q cI cZ) yX11_some cX11_some 1 none (rr (8 + 3 * d) (350 + 150 * d)) [.ref (q 0)] u (QV D 9 q (entM q cI cZ) K)) {p : Program} {e : Env} {s : State} {m : MethodId} {args : Array Value} {below : List Frame} {meth : Method} {c : Code} {K : MM → Prop} (C : CX p s m args meth c cX11_factor 5 RX11 none D cI cZ ad (AJ 9 q s.heap.size)) : ∀ (x1 : Int32) (s0 : Int32) (u : MM), wX11_factor_b39 N rF rS K x1 s0 u → JX p l e (rr (6 + 3 * (d + 1)) (250 + 150 * (d + 1))) s m args below meth c D (AJ 9 q s.heap.size) 5 (MQ below ((QV D 9 q (entM q cI cZ) K) (AJ 9 q s.heap.size)) args s 0 0 (AJ 9 q s.heap.size)) 9 q (entM q cI cZ) u 39 [(0, .ref (q 0)), (1, .int x1)] [.int s0, .ref (q 0)] := by
    intro x1 s0 u h
    obtain ⟨hbz, h⟩ := h
    refine j_put C 0 8 (ly_X11 C.2.2.2.2.2.2.2.1.1) q_643 rfl rfl (by decide) rfl rfl (by decide) tyX11_ok nmX11 rfl rfl hbz (Nat.le_of_ble_eq_true rfl) rfl dX11_factor_39 ?_
    refine j_nmu (fun u21 eu21 => ?_)
    have h := h u21 eu21
    refine j_aload_n C 0 dX11_factor_42 rfl ?_
    refine j_dup C dX11_factor_43 rfl ?_
    refine j_get C 0 9 (ly_X11 C.2.2.2.2.2.2.2.1.1) q_644 rfl rfl (by decide) rfl rfl (by decide) rfl dX11_factor_44 ?_
    refine j_iconst (v := 1) C dX11_factor_47 (by decide) ?_
    refine j_iadd C dX11_factor_48 ?_
    refine j_put C 0 9 (ly_X11 C.2.2.2.2.2.2.2.1.1) q_644 rfl rfl (by decide) rfl rfl (by decide) tyX11_ok nmX11 rfl rfl ⟨rfl, rfl⟩ (Nat.le_of_ble_eq_true rfl) rfl dX11_factor_49 ?_
    refine j_nmu (fun u22 eu22 => ?_)
    have h := h u22 eu22
    refine j_aload_n C 0 dX11_factor_52 rfl ?_
    refine j_dup C dX11_factor_53 rfl ?_
    refine j_get C 0 6 (ly_X11 C.2.2.2.2.2.2.2.1.1) q_641 rfl rfl (by decide) rfl rfl (by decide) rfl dX11_factor_54 ?_
    refine j_aload_n C 0 dX11_factor_57 rfl ?_
    refine j_get C 0 8 (ly_X11 C.2.2.2.2.2.2.2.1.1) q_643 rfl rfl (by decide) rfl rfl (by decide) rfl dX11_factor_58 ?_
    refine j_if_eq C 68 dX11_factor_61 (by decide) (fun c23 => ?_) (fun c23 => ?_)
    · have h := h.1 c23
      refine j_iconst (v := 1) C dX11_factor_68 (by decide) ?_
      exact tX11_factor_b69 l D cI cZ ad q N d hrF hrS C _ _ _ _ h
    · have h := h.2 c23
      refine j_iconst (v := 0) C dX11_factor_64 (by decide) ?_
      refine j_goto C 69 dX11_factor_65 (by decide) ?_
      exact tX11_factor_b69 l D cI cZ ad q N d hrF hrS C _ _ _ _ h
set_option maxRecDepth 100000 in
set_option maxHeartbeats 4000000 in
theorem tX11_factor_b25 (l : Launch) (D : va_G) (cI cZ : ClassId) (ad q : Nat → Nat) (N : Nat) (d : Nat) {rF : MM → (MM → Prop) → Prop} (hrF : ∀ (u : MM) (K : MM → Prop), rF u K → CT l D cI cZ ad 9 q (entM q cI cZ) yX11_factor cX11_factor 5 none (rr (6 + 3 * d) (250 + 150 * d)) [.ref (q 0)] u (QV D 9 q (entM q cI cZ) K)) {rS : MM → (MM → Prop) → Prop} (hrS : ∀ (u : MM) (K : MM → Prop), rS u K → CT l D cI cZ ad 9 q (entM q cI cZ) yX11_some cX11_some 1 none (rr (8 + 3 * d) (350 + 150 * d)) [.ref (q 0)] u (QV D 9 q (entM q cI cZ) K)) {p : Program} {e : Env} {s : State} {m : MethodId} {args : Array Value} {below : List Frame} {meth : Method} {c : Code} {K : MM → Prop} (C : CX p s m args meth c cX11_factor 5 RX11 none D cI cZ ad (AJ 9 q s.heap.size)) : ∀ (x1 : Int32) (u : MM), wX11_factor_b25 N rF rS K x1 u → JX p l e (rr (6 + 3 * (d + 1)) (250 + 150 * (d + 1))) s m args below meth c D (AJ 9 q s.heap.size) 5 (MQ below ((QV D 9 q (entM q cI cZ) K) (AJ 9 q s.heap.size)) args s 0 0 (AJ 9 q s.heap.size)) 9 q (entM q cI cZ) u 25 [(0, .ref (q 0)), (1, .int x1)] [] := by
    intro x1 u h
    refine j_aload_n C 0 dX11_factor_25 rfl ?_
    refine j_aload_n C 0 dX11_factor_26 rfl ?_
    refine j_get C 0 9 (ly_X11 C.2.2.2.2.2.2.2.1.1) q_644 rfl rfl (by decide) rfl rfl (by decide) rfl dX11_factor_27 ?_
    refine j_iconst (v := 5) C dX11_factor_30 (by decide) ?_
    refine j_icmp_ne C 38 dX11_factor_31 (by decide) (fun c20 => ?_) (fun c20 => ?_)
    · have h := h.1 c20
      refine j_iconst (v := 0) C dX11_factor_38 (by decide) ?_
      exact tX11_factor_b39 l D cI cZ ad q N d hrF hrS C _ _ _ h
    · have h := h.2 c20
      refine j_iconst (v := 1) C dX11_factor_34 (by decide) ?_
      refine j_goto C 39 dX11_factor_35 (by decide) ?_
      exact tX11_factor_b39 l D cI cZ ad q N d hrF hrS C _ _ _ h
set_option maxRecDepth 100000 in
set_option maxHeartbeats 4000000 in
theorem kX_X11_factor_o (l : Launch) (D : va_G) (cI cZ : ClassId) (ad q : Nat → Nat) (N : Nat) (d : Nat) {rF : MM → (MM → Prop) → Prop} (hrF : ∀ (u : MM) (K : MM → Prop), rF u K → CT l D cI cZ ad 9 q (entM q cI cZ) yX11_factor cX11_factor 5 none (rr (6 + 3 * d) (250 + 150 * d)) [.ref (q 0)] u (QV D 9 q (entM q cI cZ) K)) {rS : MM → (MM → Prop) → Prop} (hrS : ∀ (u : MM) (K : MM → Prop), rS u K → CT l D cI cZ ad 9 q (entM q cI cZ) yX11_some cX11_some 1 none (rr (8 + 3 * d) (350 + 150 * d)) [.ref (q 0)] u (QV D 9 q (entM q cI cZ) K)) {u : MM} {K : MM → Prop} (h : wX11_factor N rF rS u K) : CT l D cI cZ ad 9 q (entM q cI cZ) yX11_factor cX11_factor 5 none (rr (6 + 3 * (d + 1)) (250 + 150 * (d + 1))) [.ref (q 0)] u (QV D 9 q (entM q cI cZ) K) := by
    refine ct_of (by decide +kernel) (Nat.le_of_ble_eq_true rfl) (fun p e s m args below meth c C => ?_)
    refine j_sub (lv' := [(0, .ref (q 0))]) [0] rfl ?_
    refine j_aload_n C 0 dX11_factor_0 rfl ?_
    refine j_get C 0 8 (ly_X11 C.2.2.2.2.2.2.2.1.1) q_643 rfl rfl (by decide) rfl rfl (by decide) rfl dX11_factor_1 ?_
    refine j_if_eq C 8 dX11_factor_4 (by decide) (fun c1 => ?_) (fun c1 => ?_)
    · have h := h.1 c1
      refine j_aload_n C 0 dX11_factor_8 rfl ?_
      refine j_wi C (fun H locs ls hP hD hS hl => run_V (Cn := "") (As := []) (st := []) C mf_X11_here 0 (kX_X11_here l D cI cZ ad q N h) q_677 (by decide) rfl rfl rfl rfl ⟨rfl, rfl, by simp only [rr]; omega, by simp only [rr]; omega⟩ (Nat.le_of_ble_eq_true rfl) dX11_factor_9 hP hD hS hl) (fun r2 u3 h => ?_)
      refine j_istore_n (lv' := [(1, .int r2), (0, .ref (q 0))]) C dX11_factor_12 (by decide) rfl ?_
      refine j_iload_n C 0 dX11_factor_13 rfl ?_
      refine j_bipush (v := 33) C dX11_factor_14 (by decide) ?_
      refine j_icmp_eq C 25 dX11_factor_16 (by decide) (fun c4 => ?_) (fun c4 => ?_)
      · have h := h.1 c4
        refine j_sub (lv' := [(0, .ref (q 0)), (1, .int r2)]) [1, 0] rfl ?_
        exact tX11_factor_b25 l D cI cZ ad q N d hrF hrS C _ _ h
      · have h := h.2 c4
        refine j_iload_n C 0 dX11_factor_19 rfl ?_
        refine j_bipush (v := 40) C dX11_factor_20 (by decide) ?_
        refine j_icmp_ne C 112 dX11_factor_22 (by decide) (fun c5 => ?_) (fun c5 => ?_)
        · have h := h.1 c5
          refine j_aload_n C 1 dX11_factor_112 rfl ?_
          refine j_ldcS (k := 4) C (List.mem_of_getElem? (i := 5) rfl) dX11_factor_113 ?_
          refine j_wi C (fun H locs ls hP hD hS hl => run_V (Cn := "") (As := [.ref (ad (10 + 4))]) (st := []) C mf_X11_among 0 (kX_X11_among l D cI cZ ad q N h) q_700 (by decide) rfl rfl rfl rfl ⟨rfl, rfl, by simp only [rr]; omega, by simp only [rr]; omega⟩ (Nat.le_of_ble_eq_true rfl) dX11_factor_115 hP hD hS hl) (fun r6 u7 h => ?_)
          refine j_istore_n (lv' := [(2, .int r6), (1, .int r2), (0, .ref (q 0))]) C dX11_factor_118 (by decide) rfl ?_
          refine j_aload_n C 2 dX11_factor_119 rfl ?_
          refine j_iload_n C 0 dX11_factor_120 rfl ?_
          refine j_iconst (v := (-1)) C dX11_factor_121 (by decide) ?_
          refine j_icmp_ne C 129 dX11_factor_122 (by decide) (fun c8 => ?_) (fun c8 => ?_)
          · have h := h.1 c8
            refine j_iconst (v := 0) C dX11_factor_129 (by decide) ?_
            refine j_sub (lv' := [(0, .ref (q 0)), (2, .int r6)]) [2, 0] rfl ?_
            exact tX11_factor_b130 l D cI cZ ad q N d hrF hrS C _ _ _ h
          · have h := h.2 c8
            refine j_iconst (v := 1) C dX11_factor_125 (by decide) ?_
            refine j_goto C 130 dX11_factor_126 (by decide) ?_
            refine j_sub (lv' := [(0, .ref (q 0)), (2, .int r6)]) [2, 0] rfl ?_
            exact tX11_factor_b130 l D cI cZ ad q N d hrF hrS C _ _ _ h
        · have h := h.2 c5
          refine j_sub (lv' := [(0, .ref (q 0)), (1, .int r2)]) [1, 0] rfl ?_
          exact tX11_factor_b25 l D cI cZ ad q N d hrF hrS C _ _ h
    · have h := h.2 c1
      exact j_vret C dX11_factor_7 h
def gF (N : Nat) : Nat → MM → (MM → Prop) → Prop
  | 0, _, _ => False
  | d + 1, u, K => wX11_factor N (gF N d) (wX11_some N (wX11_every N (gF N d))) u K
theorem kX_gF (l : Launch) (D : va_G) (cI cZ : ClassId) (ad q : Nat → Nat) (N : Nat) : ∀ (d : Nat) (u : MM) (K : MM → Prop), gF N d u K → CT l D cI cZ ad 9 q (entM q cI cZ) yX11_factor cX11_factor 5 none (rr (6 + 3 * d) (250 + 150 * d)) [.ref (q 0)] u (QV D 9 q (entM q cI cZ) K) := by
  intro d
  induction d with
  | zero => intro u K h; exact h.elim
  | succ d ih => intro u K h; exact kX_X11_factor_o l D cI cZ ad q N d ih (fun u K h => kX_X11_some_o l D cI cZ ad q N d (fun u K h => kX_X11_every_o l D cI cZ ad q N d ih h) h) h
def wX11_some0 (N : Nat) (u : MM) (K : MM → Prop) : Prop := wX11_some N (wX11_every N (gF N 8)) u K
theorem kX_X11_some (l : Launch) (D : va_G) (cI cZ : ClassId) (ad q : Nat → Nat) (N : Nat) {u : MM} {K : MM → Prop} (h : wX11_some0 N u K) : CT l D cI cZ ad 9 q (entM q cI cZ) yX11_some cX11_some 1 none (rr 32 1550) [.ref (q 0)] u (QV D 9 q (entM q cI cZ) K) :=
  kX_X11_some_o l D cI cZ ad q N 8 (fun u K h => kX_X11_every_o l D cI cZ ad q N 8 (kX_gF l D cI cZ ad q N 8) h) h

def wX11_tellsHere (N : Nat) (i : Nat) (x1 : Int32) (u : MM) (K : MM → Prop) : Prop := (wX11_spells N i u (fun u2 => (wX11_figures N u2 (fun r3 u4 => ((¬ (u4 0 8) = 0 → (K u4)) ∧ ((u4 0 8) = 0 → (vp_in ((x1 + (u4 0 5))) 944 ∧ ∀ u6 : MM, u6 = up u4 1 ((x1 + (u4 0 5)).toNatClampNeg) r3 → (K u6))))))))
set_option maxRecDepth 100000 in
set_option maxHeartbeats 4000000 in
theorem kX_X11_tellsHere (l : Launch) (D : va_G) (cI cZ : ClassId) (ad q : Nat → Nat) (N : Nat) {i : Nat} {x1 : Int32} {u : MM} {K : MM → Prop} (h : wX11_tellsHere N i x1 u K) : CT l D cI cZ ad 9 q (entM q cI cZ) yX11_tellsHere cX11_tellsHere 4 none (rr 5 133) [.ref (q 0), .int x1, .ref (ad (10 + i))] u (QV D 9 q (entM q cI cZ) K) := by
    refine ct_of (by decide +kernel) (Nat.le_of_ble_eq_true rfl) (fun p e s m args below meth c C => ?_)
    refine j_sub (lv' := [(0, .ref (q 0)), (1, .int x1), (2, .ref (ad (10 + i)))]) [0, 1, 2] rfl ?_
    refine j_aload_n C 0 dX11_tellsHere_0 rfl ?_
    refine j_aload_n C 2 dX11_tellsHere_1 rfl ?_
    refine j_wv C (fun H locs ls hP hD hS hl => run_V (Cn := "") (As := [.ref (ad (10 + i))]) (st := []) C mf_X11_spells 0 (kX_X11_spells l D cI cZ ad q N h) q_680 (by decide) rfl rfl rfl rfl ⟨rfl, rfl, by decide, by decide⟩ (Nat.le_of_ble_eq_true rfl) dX11_tellsHere_2 hP hD hS hl) (fun u2 h => ?_)
    refine j_aload_n C 0 dX11_tellsHere_5 rfl ?_
    refine j_wi C (fun H locs ls hP hD hS hl => run_V (Cn := "") (As := []) (st := []) C mf_X11_figures 0 (kX_X11_figures l D cI cZ ad q N h) q_703 (by decide) rfl rfl rfl rfl ⟨rfl, rfl, by decide, by decide⟩ (Nat.le_of_ble_eq_true rfl) dX11_tellsHere_6 hP hD hS hl) (fun r3 u4 h => ?_)
    refine j_istore_n (lv' := [(3, .int r3), (0, .ref (q 0)), (1, .int x1), (2, .ref (ad (10 + i)))]) C dX11_tellsHere_9 (by decide) rfl ?_
    refine j_aload_n C 1 dX11_tellsHere_10 rfl ?_
    refine j_get C 0 8 (ly_X11 C.2.2.2.2.2.2.2.1.1) q_643 rfl rfl (by decide) rfl rfl (by decide) rfl dX11_tellsHere_11 ?_
    refine j_if_ne C 29 dX11_tellsHere_14 (by decide) (fun c5 => ?_) (fun c5 => ?_)
    · have h := h.1 c5
      exact j_vret C dX11_tellsHere_29 h
    · have h := h.2 c5
      refine j_aload_n C 1 dX11_tellsHere_17 rfl ?_
      refine j_get C 0 1 (ly_X11 C.2.2.2.2.2.2.2.1.1) q_636 rfl rfl (by decide) rfl rfl (by decide) rfl dX11_tellsHere_18 ?_
      refine j_iload_n C 2 dX11_tellsHere_21 rfl ?_
      refine j_aload_n C 1 dX11_tellsHere_22 rfl ?_
      refine j_get C 0 5 (ly_X11 C.2.2.2.2.2.2.2.1.1) q_640 rfl rfl (by decide) rfl rfl (by decide) rfl dX11_tellsHere_23 ?_
      refine j_iadd C dX11_tellsHere_26 ?_
      refine j_iload_n C 0 dX11_tellsHere_27 rfl ?_
      obtain ⟨hin, h⟩ := h
      refine j_iastoreK (N := 944) C 1 _ rfl hin (by decide) (fun _ => rfl) rfl dX11_tellsHere_28 (fun u6 eu6 => ?_)
      have h := h u6 eu6
      exact j_vret C dX11_tellsHere_29 h

def wX11_tellsOf (N : Nat) (x1 : Int32) (x2 : Int32) (u : MM) (K : Int32 → MM → Prop) : Prop := ((¬ (u 1 23) = (-1) → (vp_in ((x1 + (u 1 23))) 944 ∧ (K (u 1 (x1 + (u 1 23)).toNatClampNeg) u))) ∧ ((u 1 23) = (-1) → (K x2 u)))
set_option maxRecDepth 100000 in
set_option maxHeartbeats 4000000 in
theorem kX_X11_tellsOf (l : Launch) (D : va_G) (cI cZ : ClassId) (ad q : Nat → Nat) (N : Nat) {x1 : Int32} {x2 : Int32} {u : MM} {K : Int32 → MM → Prop} (h : wX11_tellsOf N x1 x2 u K) : CT l D cI cZ ad 9 q (entM q cI cZ) yX11_tellsOf cX11_tellsOf 3 (some .int) (rr 0 0) [.ref (q 0), .int x1, .int x2] u (QI D 9 q (entM q cI cZ) K) := by
    refine ct_of (by decide +kernel) (Nat.le_of_ble_eq_true rfl) (fun p e s m args below meth c C => ?_)
    refine j_sub (lv' := [(0, .ref (q 0)), (1, .int x1), (2, .int x2)]) [0, 1, 2] rfl ?_
    refine j_aload_n C 0 dX11_tellsOf_0 rfl ?_
    refine j_get C 0 1 (ly_X11 C.2.2.2.2.2.2.2.1.1) q_636 rfl rfl (by decide) rfl rfl (by decide) rfl dX11_tellsOf_1 ?_
    refine j_bipush (v := 23) C dX11_tellsOf_4 (by decide) ?_
    refine j_ialoadK (N := 944) C 1 23 (by decide) (show ¬ ((23 : Int32) < 0 ∨ 944 ≤ (23 : Int32).toNatClampNeg) by decide) (by decide) rfl rfl dX11_tellsOf_6 ?_
    refine j_iconst (v := (-1)) C dX11_tellsOf_7 (by decide) ?_
    refine j_icmp_ne C 15 dX11_tellsOf_8 (by decide) (fun c1 => ?_) (fun c1 => ?_)
    · have h := h.1 c1
      refine j_aload_n C 0 dX11_tellsOf_15 rfl ?_
      refine j_get C 0 1 (ly_X11 C.2.2.2.2.2.2.2.1.1) q_636 rfl rfl (by decide) rfl rfl (by decide) rfl dX11_tellsOf_16 ?_
      refine j_iload_n C 1 dX11_tellsOf_19 rfl ?_
      refine j_aload_n C 0 dX11_tellsOf_20 rfl ?_
      refine j_get C 0 1 (ly_X11 C.2.2.2.2.2.2.2.1.1) q_636 rfl rfl (by decide) rfl rfl (by decide) rfl dX11_tellsOf_21 ?_
      refine j_bipush (v := 23) C dX11_tellsOf_24 (by decide) ?_
      refine j_ialoadK (N := 944) C 1 23 (by decide) (show ¬ ((23 : Int32) < 0 ∨ 944 ≤ (23 : Int32).toNatClampNeg) by decide) (by decide) rfl rfl dX11_tellsOf_26 ?_
      refine j_iadd C dX11_tellsOf_27 ?_
      obtain ⟨hin, h⟩ := h
      refine j_ialoadK (N := 944) C 1 _ rfl hin (by decide) rfl rfl dX11_tellsOf_28 ?_
      exact j_iret C dX11_tellsOf_29 h
    · have h := h.2 c1
      refine j_iload_n C 2 dX11_tellsOf_11 rfl ?_
      refine j_goto C 29 dX11_tellsOf_12 (by decide) ?_
      exact j_iret C dX11_tellsOf_29 h

def wX11_hasHeard (N : Nat) (x1 : Int32) (u : MM) (K : Int32 → MM → Prop) : Prop := ((¬ (((u 1 2) >>> (x1 &&& 31)) &&& 1) = 1 → (K 0 u)) ∧ ((((u 1 2) >>> (x1 &&& 31)) &&& 1) = 1 → (K 1 u)))
set_option maxRecDepth 100000 in
set_option maxHeartbeats 4000000 in
theorem kX_X11_hasHeard (l : Launch) (D : va_G) (cI cZ : ClassId) (ad q : Nat → Nat) (N : Nat) {x1 : Int32} {u : MM} {K : Int32 → MM → Prop} (h : wX11_hasHeard N x1 u K) : CT l D cI cZ ad 9 q (entM q cI cZ) yX11_hasHeard cX11_hasHeard 2 (some .boolean) (rr 0 0) [.ref (q 0), .int x1] u (QI D 9 q (entM q cI cZ) K) := by
    refine ct_of (by decide +kernel) (Nat.le_of_ble_eq_true rfl) (fun p e s m args below meth c C => ?_)
    refine j_sub (lv' := [(0, .ref (q 0)), (1, .int x1)]) [0, 1] rfl ?_
    refine j_aload_n C 0 dX11_hasHeard_0 rfl ?_
    refine j_get C 0 1 (ly_X11 C.2.2.2.2.2.2.2.1.1) q_636 rfl rfl (by decide) rfl rfl (by decide) rfl dX11_hasHeard_1 ?_
    refine j_iconst (v := 2) C dX11_hasHeard_4 (by decide) ?_
    refine j_ialoadK (N := 944) C 1 2 (by decide) (show ¬ ((2 : Int32) < 0 ∨ 944 ≤ (2 : Int32).toNatClampNeg) by decide) (by decide) rfl rfl dX11_hasHeard_5 ?_
    refine j_iload_n C 1 dX11_hasHeard_6 rfl ?_
    refine j_ishr C dX11_hasHeard_7 ?_
    refine j_iconst (v := 1) C dX11_hasHeard_8 (by decide) ?_
    refine j_iand C dX11_hasHeard_9 ?_
    refine j_iconst (v := 1) C dX11_hasHeard_10 (by decide) ?_
    refine j_icmp_ne C 18 dX11_hasHeard_11 (by decide) (fun c1 => ?_) (fun c1 => ?_)
    · have h := h.1 c1
      refine j_iconst (v := 0) C dX11_hasHeard_18 (by decide) ?_
      exact j_zret C dX11_hasHeard_19 rfl h
    · have h := h.2 c1
      refine j_iconst (v := 1) C dX11_hasHeard_14 (by decide) ?_
      refine j_goto C 19 dX11_hasHeard_15 (by decide) ?_
      exact j_zret C dX11_hasHeard_19 rfl h

def wX11_looks_b423 (N : Nat) (K : MM → Prop) (ro114 : Int32 → Int32 → Int32 → Int32 → MM → Prop) (x3 : Int32) (x4 : Int32) (x5 : Int32) (x6 : Int32) (u : MM) : Prop := (∀ y39 : Int32, y39 = x6 + 1 → (ro114 x3 x4 x5 y39 u))
def wX11_looks_b419 (N : Nat) (K : MM → Prop) (ro114 : Int32 → Int32 → Int32 → Int32 → MM → Prop) (x3 : Int32) (x4 : Int32) (x5 : Int32) (x6 : Int32) (s0 : Int32) (s1 : Int32) (u : MM) : Prop := (∀ u45 : MM, u45 = up u 0 13 (s1 + s0) → (wX11_looks_b423 N K ro114 x3 x4 x5 x6 u45))
def wX11_looks_b418 (N : Nat) (K : MM → Prop) (ro114 : Int32 → Int32 → Int32 → Int32 → MM → Prop) (x3 : Int32) (x4 : Int32) (x5 : Int32) (x6 : Int32) (s0 : Int32) (u : MM) : Prop := (wX11_looks_b419 N K ro114 x3 x4 x5 x6 0 s0 u)
def wX11_looks_b384 (N : Nat) (K : MM → Prop) (ro114 : Int32 → Int32 → Int32 → Int32 → MM → Prop) (x3 : Int32) (x4 : Int32) (x5 : Int32) (x6 : Int32) (x7 : Int32) (s0 : Int32) (u : MM) : Prop := (bz s0 ∧ ∀ u42 : MM, u42 = up u 0 12 s0 → (((u42 5 0) = 0 → (wX11_looks_b418 N K ro114 x3 x4 x5 x6 (u42 0 13) u42)) ∧ (¬ (u42 5 0) = 0 → (((-200) < x7 → (wX11_looks_b418 N K ro114 x3 x4 x5 x6 (u42 0 13) u42)) ∧ (¬ (-200) < x7 → (wX11_looks_b419 N K ro114 x3 x4 x5 x6 (((-200) : Int32) - x7) (u42 0 13) u42))))))
def wX11_looks_b383 (N : Nat) (K : MM → Prop) (ro114 : Int32 → Int32 → Int32 → Int32 → MM → Prop) (x3 : Int32) (x4 : Int32) (x5 : Int32) (x6 : Int32) (x7 : Int32) (u : MM) : Prop := (wX11_looks_b384 N K ro114 x3 x4 x5 x6 x7 0 u)
def wX11_looks_b379 (N : Nat) (K : MM → Prop) (ro114 : Int32 → Int32 → Int32 → Int32 → MM → Prop) (x3 : Int32) (x4 : Int32) (x5 : Int32) (x6 : Int32) (x7 : Int32) (u : MM) : Prop := (wX11_looks_b384 N K ro114 x3 x4 x5 x6 x7 1 u)
def wX11_looks_b348 (N : Nat) (K : MM → Prop) (ro114 : Int32 → Int32 → Int32 → Int32 → MM → Prop) (x3 : Int32) (x4 : Int32) (x5 : Int32) (x6 : Int32) (s0 : Int32) (s1 : Int32) (u : MM) : Prop := (vp_in s1 64 ∧ ∀ u41 : MM, u41 = up u 5 (s1.toNatClampNeg) (vp_nar .boolean s0) → (wX11_looks_b423 N K ro114 x3 x4 x5 x6 u41))
def wX11_looks_b343 (N : Nat) (K : MM → Prop) (ro114 : Int32 → Int32 → Int32 → Int32 → MM → Prop) (x3 : Int32) (x4 : Int32) (x5 : Int32) (x6 : Int32) (s0 : Int32) (u : MM) : Prop := (wX11_looks_b348 N K ro114 x3 x4 x5 x6 1 s0 u)
def wX11_looks_b317 (N : Nat) (K : MM → Prop) (ro114 : Int32 → Int32 → Int32 → Int32 → MM → Prop) (x3 : Int32) (x4 : Int32) (x5 : Int32) (x6 : Int32) (s0 : Int32) (u : MM) : Prop := (wX11_looks_b348 N K ro114 x3 x4 x5 x6 0 s0 u)
def wX11_looks_b262 (N : Nat) (K : MM → Prop) (ro114 : Int32 → Int32 → Int32 → Int32 → MM → Prop) (x3 : Int32) (x4 : Int32) (x5 : Int32) (x6 : Int32) (s0 : Int32) (s1 : Int32) (u : MM) : Prop := (vp_in s1 64 ∧ ∀ u40 : MM, u40 = up u 5 (s1.toNatClampNeg) (vp_nar .boolean s0) → (wX11_looks_b423 N K ro114 x3 x4 x5 x6 u40))
def wX11_looks_b224 (N : Nat) (K : MM → Prop) (ro114 : Int32 → Int32 → Int32 → Int32 → MM → Prop) (x3 : Int32) (x4 : Int32) (x5 : Int32) (x6 : Int32) (s0 : Int32) (s1 : Int32) (u : MM) : Prop := (vp_in s1 64 ∧ ∀ u37 : MM, u37 = up u 5 (s1.toNatClampNeg) (vp_nar .boolean s0) → (∀ y38 : Int32, y38 = x5 + 1 → (wX11_looks_b423 N K ro114 x3 x4 y38 x6 u37)))
def wX11_looks_b114 (N : Nat) (K : MM → Prop) : Nat → Int32 → Int32 → Int32 → Int32 → MM → Prop
  | 0, _, _, _, _, _ => False
  | n + 1, x3, x4, x5, x6, u => (((x4 + x3) ≤ x6 → (K u)) ∧ (¬ (x4 + x3) ≤ x6 → (vp_in x6 944 ∧ (∀ y15 : Int32, y15 = (u 1 x6.toNatClampNeg) → ((y15 < 0 → ((¬ y15 = (-1) → ((y15 ≤ (-10) → ((¬ (u 0 12) = 0 → (wX11_looks_b379 N K (wX11_looks_b114 N K n) x3 x4 0 x6 y15 u)) ∧ ((u 0 12) = 0 → (((u 5 0) = 0 → (wX11_looks_b383 N K (wX11_looks_b114 N K n) x3 x4 0 x6 y15 u)) ∧ (¬ (u 5 0) = 0 → ((¬ y15 = (-10) → (wX11_looks_b383 N K (wX11_looks_b114 N K n) x3 x4 0 x6 y15 u)) ∧ (y15 = (-10) → (wX11_looks_b379 N K (wX11_looks_b114 N K n) x3 x4 0 x6 y15 u)))))))) ∧ (¬ y15 ≤ (-10) → (∀ y22 : Int32, y22 = x5 + (-1) → ((¬ y15 = (-2) → (vp_in ((y22 - 1)) 64 ∧ ((¬ (u 5 (y22 - 1).toNatClampNeg) = 0 → (wX11_looks_b343 N K (wX11_looks_b114 N K n) x3 x4 y22 x6 (y22 - 1) u)) ∧ ((u 5 (y22 - 1).toNatClampNeg) = 0 → (vp_in y22 64 ∧ (((u 5 y22.toNatClampNeg) = 0 → (wX11_looks_b348 N K (wX11_looks_b114 N K n) x3 x4 y22 x6 0 (y22 - 1) u)) ∧ (¬ (u 5 y22.toNatClampNeg) = 0 → (wX11_looks_b343 N K (wX11_looks_b114 N K n) x3 x4 y22 x6 (y22 - 1) u)))))))) ∧ (y15 = (-2) → (vp_in ((y22 - 1)) 64 ∧ (((u 5 (y22 - 1).toNatClampNeg) = 0 → (wX11_looks_b317 N K (wX11_looks_b114 N K n) x3 x4 y22 x6 (y22 - 1) u)) ∧ (¬ (u 5 (y22 - 1).toNatClampNeg) = 0 → (vp_in y22 64 ∧ (((u 5 y22.toNatClampNeg) = 0 → (wX11_looks_b317 N K (wX11_looks_b114 N K n) x3 x4 y22 x6 (y22 - 1) u)) ∧ (¬ (u 5 y22.toNatClampNeg) = 0 → (wX11_looks_b348 N K (wX11_looks_b114 N K n) x3 x4 y22 x6 1 (y22 - 1) u))))))))))))) ∧ (y15 = (-1) → (vp_in ((x5 - 1)) 64 ∧ ((¬ (u 5 (x5 - 1).toNatClampNeg) = 0 → (wX11_looks_b262 N K (wX11_looks_b114 N K n) x3 x4 x5 x6 0 (x5 - 1) u)) ∧ ((u 5 (x5 - 1).toNatClampNeg) = 0 → (wX11_looks_b262 N K (wX11_looks_b114 N K n) x3 x4 x5 x6 1 (x5 - 1) u))))))) ∧ (¬ y15 < 0 → (vp_in ((y15 - y15 / 8 * 8)) 5 ∧ (∀ y29 : Int32, y29 = (u 4 (y15 - y15 / 8 * 8).toNatClampNeg) → (∀ y30 : Int32, y30 = ((y15 / 8) - (y15 / 8) / 4 * 4) → (∀ y31 : Int32, y31 = (y15 / 32) → ((¬ y30 = 0 → ((¬ y30 = 1 → ((y29 ≤ y31 → (wX11_looks_b224 N K (wX11_looks_b114 N K n) x3 x4 x5 x6 0 x5 u)) ∧ (¬ y29 ≤ y31 → (wX11_looks_b224 N K (wX11_looks_b114 N K n) x3 x4 x5 x6 1 x5 u)))) ∧ (y30 = 1 → ((¬ y29 = y31 → (wX11_looks_b224 N K (wX11_looks_b114 N K n) x3 x4 x5 x6 0 x5 u)) ∧ (y29 = y31 → (wX11_looks_b224 N K (wX11_looks_b114 N K n) x3 x4 x5 x6 1 x5 u)))))) ∧ (y30 = 0 → ((y31 ≤ y29 → (wX11_looks_b224 N K (wX11_looks_b114 N K n) x3 x4 x5 x6 0 x5 u)) ∧ (¬ y31 ≤ y29 → (wX11_looks_b224 N K (wX11_looks_b114 N K n) x3 x4 x5 x6 1 x5 u)))))))))))))))
def wX11_looks_b55 (N : Nat) (K : MM → Prop) (s0 : Int32) (s1 : Int32) (u : MM) : Prop := (vp_in s1 5 ∧ ∀ u7 : MM, u7 = up u 4 (s1.toNatClampNeg) s0 → (∀ u8 : MM, u8 = up u7 4 4 ((u7 1 0) - (u7 1 0) / 7 * 7) → (∀ u9 : MM, u9 = up u8 0 12 0 → (∀ u10 : MM, u10 = up u9 0 13 0 → (wX11_tellsOf N 239 0 u10 (fun r11 u12 => (∀ y13 : Int32, y13 = (244 + (140 * (u12 1 23))) → (wX11_looks_b114 N K N r11 y13 0 y13 u12))))))))
def wX11_looks (N : Nat) (x1 : Int32) (x2 : Int32) (u : MM) (K : MM → Prop) : Prop := (∀ u1 : MM, u1 = up u 4 0 x1 → (∀ u2 : MM, u2 = up u1 4 1 x2 → (vp_in ((24 + x1)) 944 ∧ (∀ u3 : MM, u3 = up u2 4 2 (u2 1 (24 + x1).toNatClampNeg) → (wX11_hasHeard N x1 u3 (fun r4 u5 => ((r4 = 0 → (wX11_looks_b55 N K 9 3 u5)) ∧ (¬ r4 = 0 → (vp_in ((4 + x1)) 944 ∧ (wX11_looks_b55 N K (u5 1 (4 + x1).toNatClampNeg) 3 u5))))))))))
set_option maxRecDepth 100000 in
set_option maxHeartbeats 4000000 in
theorem tX11_looks_b423 (l : Launch) (D : va_G) (cI cZ : ClassId) (ad q : Nat → Nat) (N : Nat) {p : Program} {e : Env} {s : State} {m : MethodId} {args : Array Value} {below : List Frame} {meth : Method} {c : Code} {K : MM → Prop} (C : CX p s m args meth c cX11_looks 11 RX11 none D cI cZ ad (AJ 9 q s.heap.size)) {ro114 : Int32 → Int32 → Int32 → Int32 → MM → Prop} (hro114 : ∀ (x3 : Int32) (x4 : Int32) (x5 : Int32) (x6 : Int32) (u : MM), ro114 x3 x4 x5 x6 u → JX p l e (rr 1 22) s m args below meth c D (AJ 9 q s.heap.size) 11 (MQ below ((QV D 9 q (entM q cI cZ) K) (AJ 9 q s.heap.size)) args s 0 0 (AJ 9 q s.heap.size)) 9 q (entM q cI cZ) u 114 [(0, .ref (q 0)), (3, .int x3), (4, .int x4), (5, .int x5), (6, .int x6)] []) : ∀ (x3 : Int32) (x4 : Int32) (x5 : Int32) (x6 : Int32) (u : MM), wX11_looks_b423 N K ro114 x3 x4 x5 x6 u → JX p l e (rr 1 22) s m args below meth c D (AJ 9 q s.heap.size) 11 (MQ below ((QV D 9 q (entM q cI cZ) K) (AJ 9 q s.heap.size)) args s 0 0 (AJ 9 q s.heap.size)) 9 q (entM q cI cZ) u 423 [(0, .ref (q 0)), (3, .int x3), (4, .int x4), (5, .int x5), (6, .int x6)] [] := by
    intro x3 x4 x5 x6 u h
    obtain ⟨y39, ey39⟩ : ∃ z : Int32, z = x6 + 1 := ⟨_, rfl⟩
    have h := h y39 ey39
    refine j_iinc (v := y39) (lv' := [(6, .int y39), (0, .ref (q 0)), (3, .int x3), (4, .int x4), (5, .int x5)]) C 4 dX11_looks_423 rfl (by rw [ey39]; rfl) (by decide) rfl ?_
    refine j_goto C 114 dX11_looks_426 (by decide) ?_
    refine j_sub (lv' := [(0, .ref (q 0)), (3, .int x3), (4, .int x4), (5, .int x5), (6, .int y39)]) [1, 2, 3, 4, 0] rfl ?_
    exact hro114 _ _ _ _ _ h
set_option maxRecDepth 100000 in
set_option maxHeartbeats 4000000 in
theorem tX11_looks_b419 (l : Launch) (D : va_G) (cI cZ : ClassId) (ad q : Nat → Nat) (N : Nat) {p : Program} {e : Env} {s : State} {m : MethodId} {args : Array Value} {below : List Frame} {meth : Method} {c : Code} {K : MM → Prop} (C : CX p s m args meth c cX11_looks 11 RX11 none D cI cZ ad (AJ 9 q s.heap.size)) {ro114 : Int32 → Int32 → Int32 → Int32 → MM → Prop} (hro114 : ∀ (x3 : Int32) (x4 : Int32) (x5 : Int32) (x6 : Int32) (u : MM), ro114 x3 x4 x5 x6 u → JX p l e (rr 1 22) s m args below meth c D (AJ 9 q s.heap.size) 11 (MQ below ((QV D 9 q (entM q cI cZ) K) (AJ 9 q s.heap.size)) args s 0 0 (AJ 9 q s.heap.size)) 9 q (entM q cI cZ) u 114 [(0, .ref (q 0)), (3, .int x3), (4, .int x4), (5, .int x5), (6, .int x6)] []) : ∀ (x3 : Int32) (x4 : Int32) (x5 : Int32) (x6 : Int32) (s0 : Int32) (s1 : Int32) (u : MM), wX11_looks_b419 N K ro114 x3 x4 x5 x6 s0 s1 u → JX p l e (rr 1 22) s m args below meth c D (AJ 9 q s.heap.size) 11 (MQ below ((QV D 9 q (entM q cI cZ) K) (AJ 9 q s.heap.size)) args s 0 0 (AJ 9 q s.heap.size)) 9 q (entM q cI cZ) u 419 [(0, .ref (q 0)), (3, .int x3), (4, .int x4), (5, .int x5), (6, .int x6)] [.int s0, .int s1, .ref (q 0)] := by
    intro x3 x4 x5 x6 s0 s1 u h
    refine j_iadd C dX11_looks_419 ?_
    refine j_put C 0 13 (ly_X11 C.2.2.2.2.2.2.2.1.1) q_648 rfl rfl (by decide) rfl rfl (by decide) tyX11_ok nmX11 rfl rfl ⟨rfl, rfl⟩ (Nat.le_of_ble_eq_true rfl) rfl dX11_looks_420 ?_
    refine j_nmu (fun u45 eu45 => ?_)
    have h := h u45 eu45
    exact tX11_looks_b423 l D cI cZ ad q N C (hro114) _ _ _ _ _ h
set_option maxRecDepth 100000 in
set_option maxHeartbeats 4000000 in
theorem tX11_looks_b418 (l : Launch) (D : va_G) (cI cZ : ClassId) (ad q : Nat → Nat) (N : Nat) {p : Program} {e : Env} {s : State} {m : MethodId} {args : Array Value} {below : List Frame} {meth : Method} {c : Code} {K : MM → Prop} (C : CX p s m args meth c cX11_looks 11 RX11 none D cI cZ ad (AJ 9 q s.heap.size)) {ro114 : Int32 → Int32 → Int32 → Int32 → MM → Prop} (hro114 : ∀ (x3 : Int32) (x4 : Int32) (x5 : Int32) (x6 : Int32) (u : MM), ro114 x3 x4 x5 x6 u → JX p l e (rr 1 22) s m args below meth c D (AJ 9 q s.heap.size) 11 (MQ below ((QV D 9 q (entM q cI cZ) K) (AJ 9 q s.heap.size)) args s 0 0 (AJ 9 q s.heap.size)) 9 q (entM q cI cZ) u 114 [(0, .ref (q 0)), (3, .int x3), (4, .int x4), (5, .int x5), (6, .int x6)] []) : ∀ (x3 : Int32) (x4 : Int32) (x5 : Int32) (x6 : Int32) (s0 : Int32) (u : MM), wX11_looks_b418 N K ro114 x3 x4 x5 x6 s0 u → JX p l e (rr 1 22) s m args below meth c D (AJ 9 q s.heap.size) 11 (MQ below ((QV D 9 q (entM q cI cZ) K) (AJ 9 q s.heap.size)) args s 0 0 (AJ 9 q s.heap.size)) 9 q (entM q cI cZ) u 418 [(0, .ref (q 0)), (3, .int x3), (4, .int x4), (5, .int x5), (6, .int x6)] [.int s0, .ref (q 0)] := by
    intro x3 x4 x5 x6 s0 u h
    refine j_iconst (v := 0) C dX11_looks_418 (by decide) ?_
    exact tX11_looks_b419 l D cI cZ ad q N C (hro114) _ _ _ _ _ _ _ h
set_option maxRecDepth 100000 in
set_option maxHeartbeats 4000000 in
theorem tX11_looks_b384 (l : Launch) (D : va_G) (cI cZ : ClassId) (ad q : Nat → Nat) (N : Nat) {p : Program} {e : Env} {s : State} {m : MethodId} {args : Array Value} {below : List Frame} {meth : Method} {c : Code} {K : MM → Prop} (C : CX p s m args meth c cX11_looks 11 RX11 none D cI cZ ad (AJ 9 q s.heap.size)) {ro114 : Int32 → Int32 → Int32 → Int32 → MM → Prop} (hro114 : ∀ (x3 : Int32) (x4 : Int32) (x5 : Int32) (x6 : Int32) (u : MM), ro114 x3 x4 x5 x6 u → JX p l e (rr 1 22) s m args below meth c D (AJ 9 q s.heap.size) 11 (MQ below ((QV D 9 q (entM q cI cZ) K) (AJ 9 q s.heap.size)) args s 0 0 (AJ 9 q s.heap.size)) 9 q (entM q cI cZ) u 114 [(0, .ref (q 0)), (3, .int x3), (4, .int x4), (5, .int x5), (6, .int x6)] []) : ∀ (x3 : Int32) (x4 : Int32) (x5 : Int32) (x6 : Int32) (x7 : Int32) (s0 : Int32) (u : MM), wX11_looks_b384 N K ro114 x3 x4 x5 x6 x7 s0 u → JX p l e (rr 1 22) s m args below meth c D (AJ 9 q s.heap.size) 11 (MQ below ((QV D 9 q (entM q cI cZ) K) (AJ 9 q s.heap.size)) args s 0 0 (AJ 9 q s.heap.size)) 9 q (entM q cI cZ) u 384 [(0, .ref (q 0)), (3, .int x3), (4, .int x4), (5, .int x5), (6, .int x6), (7, .int x7)] [.int s0, .ref (q 0)] := by
    intro x3 x4 x5 x6 x7 s0 u h
    obtain ⟨hbz, h⟩ := h
    refine j_put C 0 12 (ly_X11 C.2.2.2.2.2.2.2.1.1) q_647 rfl rfl (by decide) rfl rfl (by decide) tyX11_ok nmX11 rfl rfl hbz (Nat.le_of_ble_eq_true rfl) rfl dX11_looks_384 ?_
    refine j_nmu (fun u42 eu42 => ?_)
    have h := h u42 eu42
    refine j_aload_n C 0 dX11_looks_387 rfl ?_
    refine j_dup C dX11_looks_388 rfl ?_
    refine j_get C 0 13 (ly_X11 C.2.2.2.2.2.2.2.1.1) q_648 rfl rfl (by decide) rfl rfl (by decide) rfl dX11_looks_389 ?_
    refine j_aload_n C 0 dX11_looks_392 rfl ?_
    refine j_get C 0 11 (ly_X11 C.2.2.2.2.2.2.2.1.1) q_646 rfl rfl (by decide) rfl rfl (by decide) rfl dX11_looks_393 ?_
    refine j_iconst (v := 0) C dX11_looks_396 (by decide) ?_
    refine j_zaloadK (N := 64) C 5 0 (by decide) (show ¬ ((0 : Int32) < 0 ∨ 64 ≤ (0 : Int32).toNatClampNeg) by decide) (by decide) rfl rfl dX11_looks_397 ?_
    refine j_if_eq C 418 dX11_looks_398 (by decide) (fun c43 => ?_) (fun c43 => ?_)
    · have h := h.1 c43
      refine j_sub (lv' := [(0, .ref (q 0)), (3, .int x3), (4, .int x4), (5, .int x5), (6, .int x6)]) [0, 1, 2, 3, 4] rfl ?_
      exact tX11_looks_b418 l D cI cZ ad q N C (hro114) _ _ _ _ _ _ h
    · have h := h.2 c43
      refine j_iload C 5 dX11_looks_401 rfl ?_
      refine j_sipush (v := (-200)) C dX11_looks_403 (by decide) ?_
      refine j_icmp_gt C 418 dX11_looks_406 (by decide) (fun c44 => ?_) (fun c44 => ?_)
      · have h := h.1 c44
        refine j_sub (lv' := [(0, .ref (q 0)), (3, .int x3), (4, .int x4), (5, .int x5), (6, .int x6)]) [0, 1, 2, 3, 4] rfl ?_
        exact tX11_looks_b418 l D cI cZ ad q N C (hro114) _ _ _ _ _ _ h
      · have h := h.2 c44
        refine j_sipush (v := (-200)) C dX11_looks_409 (by decide) ?_
        refine j_iload C 5 dX11_looks_412 rfl ?_
        refine j_isub C dX11_looks_414 ?_
        refine j_goto C 419 dX11_looks_415 (by decide) ?_
        refine j_sub (lv' := [(0, .ref (q 0)), (3, .int x3), (4, .int x4), (5, .int x5), (6, .int x6)]) [0, 1, 2, 3, 4] rfl ?_
        exact tX11_looks_b419 l D cI cZ ad q N C (hro114) _ _ _ _ _ _ _ h
set_option maxRecDepth 100000 in
set_option maxHeartbeats 4000000 in
theorem tX11_looks_b383 (l : Launch) (D : va_G) (cI cZ : ClassId) (ad q : Nat → Nat) (N : Nat) {p : Program} {e : Env} {s : State} {m : MethodId} {args : Array Value} {below : List Frame} {meth : Method} {c : Code} {K : MM → Prop} (C : CX p s m args meth c cX11_looks 11 RX11 none D cI cZ ad (AJ 9 q s.heap.size)) {ro114 : Int32 → Int32 → Int32 → Int32 → MM → Prop} (hro114 : ∀ (x3 : Int32) (x4 : Int32) (x5 : Int32) (x6 : Int32) (u : MM), ro114 x3 x4 x5 x6 u → JX p l e (rr 1 22) s m args below meth c D (AJ 9 q s.heap.size) 11 (MQ below ((QV D 9 q (entM q cI cZ) K) (AJ 9 q s.heap.size)) args s 0 0 (AJ 9 q s.heap.size)) 9 q (entM q cI cZ) u 114 [(0, .ref (q 0)), (3, .int x3), (4, .int x4), (5, .int x5), (6, .int x6)] []) : ∀ (x3 : Int32) (x4 : Int32) (x5 : Int32) (x6 : Int32) (x7 : Int32) (u : MM), wX11_looks_b383 N K ro114 x3 x4 x5 x6 x7 u → JX p l e (rr 1 22) s m args below meth c D (AJ 9 q s.heap.size) 11 (MQ below ((QV D 9 q (entM q cI cZ) K) (AJ 9 q s.heap.size)) args s 0 0 (AJ 9 q s.heap.size)) 9 q (entM q cI cZ) u 383 [(0, .ref (q 0)), (3, .int x3), (4, .int x4), (5, .int x5), (6, .int x6), (7, .int x7)] [.ref (q 0)] := by
    intro x3 x4 x5 x6 x7 u h
    refine j_iconst (v := 0) C dX11_looks_383 (by decide) ?_
    exact tX11_looks_b384 l D cI cZ ad q N C (hro114) _ _ _ _ _ _ _ h
set_option maxRecDepth 100000 in
set_option maxHeartbeats 4000000 in
theorem tX11_looks_b379 (l : Launch) (D : va_G) (cI cZ : ClassId) (ad q : Nat → Nat) (N : Nat) {p : Program} {e : Env} {s : State} {m : MethodId} {args : Array Value} {below : List Frame} {meth : Method} {c : Code} {K : MM → Prop} (C : CX p s m args meth c cX11_looks 11 RX11 none D cI cZ ad (AJ 9 q s.heap.size)) {ro114 : Int32 → Int32 → Int32 → Int32 → MM → Prop} (hro114 : ∀ (x3 : Int32) (x4 : Int32) (x5 : Int32) (x6 : Int32) (u : MM), ro114 x3 x4 x5 x6 u → JX p l e (rr 1 22) s m args below meth c D (AJ 9 q s.heap.size) 11 (MQ below ((QV D 9 q (entM q cI cZ) K) (AJ 9 q s.heap.size)) args s 0 0 (AJ 9 q s.heap.size)) 9 q (entM q cI cZ) u 114 [(0, .ref (q 0)), (3, .int x3), (4, .int x4), (5, .int x5), (6, .int x6)] []) : ∀ (x3 : Int32) (x4 : Int32) (x5 : Int32) (x6 : Int32) (x7 : Int32) (u : MM), wX11_looks_b379 N K ro114 x3 x4 x5 x6 x7 u → JX p l e (rr 1 22) s m args below meth c D (AJ 9 q s.heap.size) 11 (MQ below ((QV D 9 q (entM q cI cZ) K) (AJ 9 q s.heap.size)) args s 0 0 (AJ 9 q s.heap.size)) 9 q (entM q cI cZ) u 379 [(0, .ref (q 0)), (3, .int x3), (4, .int x4), (5, .int x5), (6, .int x6), (7, .int x7)] [.ref (q 0)] := by
    intro x3 x4 x5 x6 x7 u h
    refine j_iconst (v := 1) C dX11_looks_379 (by decide) ?_
    refine j_goto C 384 dX11_looks_380 (by decide) ?_
    exact tX11_looks_b384 l D cI cZ ad q N C (hro114) _ _ _ _ _ _ _ h
set_option maxRecDepth 100000 in
set_option maxHeartbeats 4000000 in
theorem tX11_looks_b348 (l : Launch) (D : va_G) (cI cZ : ClassId) (ad q : Nat → Nat) (N : Nat) {p : Program} {e : Env} {s : State} {m : MethodId} {args : Array Value} {below : List Frame} {meth : Method} {c : Code} {K : MM → Prop} (C : CX p s m args meth c cX11_looks 11 RX11 none D cI cZ ad (AJ 9 q s.heap.size)) {ro114 : Int32 → Int32 → Int32 → Int32 → MM → Prop} (hro114 : ∀ (x3 : Int32) (x4 : Int32) (x5 : Int32) (x6 : Int32) (u : MM), ro114 x3 x4 x5 x6 u → JX p l e (rr 1 22) s m args below meth c D (AJ 9 q s.heap.size) 11 (MQ below ((QV D 9 q (entM q cI cZ) K) (AJ 9 q s.heap.size)) args s 0 0 (AJ 9 q s.heap.size)) 9 q (entM q cI cZ) u 114 [(0, .ref (q 0)), (3, .int x3), (4, .int x4), (5, .int x5), (6, .int x6)] []) : ∀ (x3 : Int32) (x4 : Int32) (x5 : Int32) (x6 : Int32) (s0 : Int32) (s1 : Int32) (u : MM), wX11_looks_b348 N K ro114 x3 x4 x5 x6 s0 s1 u → JX p l e (rr 1 22) s m args below meth c D (AJ 9 q s.heap.size) 11 (MQ below ((QV D 9 q (entM q cI cZ) K) (AJ 9 q s.heap.size)) args s 0 0 (AJ 9 q s.heap.size)) 9 q (entM q cI cZ) u 348 [(0, .ref (q 0)), (3, .int x3), (4, .int x4), (5, .int x5), (6, .int x6)] [.int s0, .int s1, .ref (q 5)] := by
    intro x3 x4 x5 x6 s0 s1 u h
    obtain ⟨hin, h⟩ := h
    refine j_zastoreK (N := 64) C 5 _ rfl hin (by decide) (fun _ => rfl) rfl dX11_looks_348 (fun u41 eu41 => ?_)
    have h := h u41 eu41
    refine j_goto C 423 dX11_looks_349 (by decide) ?_
    exact tX11_looks_b423 l D cI cZ ad q N C (hro114) _ _ _ _ _ h
set_option maxRecDepth 100000 in
set_option maxHeartbeats 4000000 in
theorem tX11_looks_b343 (l : Launch) (D : va_G) (cI cZ : ClassId) (ad q : Nat → Nat) (N : Nat) {p : Program} {e : Env} {s : State} {m : MethodId} {args : Array Value} {below : List Frame} {meth : Method} {c : Code} {K : MM → Prop} (C : CX p s m args meth c cX11_looks 11 RX11 none D cI cZ ad (AJ 9 q s.heap.size)) {ro114 : Int32 → Int32 → Int32 → Int32 → MM → Prop} (hro114 : ∀ (x3 : Int32) (x4 : Int32) (x5 : Int32) (x6 : Int32) (u : MM), ro114 x3 x4 x5 x6 u → JX p l e (rr 1 22) s m args below meth c D (AJ 9 q s.heap.size) 11 (MQ below ((QV D 9 q (entM q cI cZ) K) (AJ 9 q s.heap.size)) args s 0 0 (AJ 9 q s.heap.size)) 9 q (entM q cI cZ) u 114 [(0, .ref (q 0)), (3, .int x3), (4, .int x4), (5, .int x5), (6, .int x6)] []) : ∀ (x3 : Int32) (x4 : Int32) (x5 : Int32) (x6 : Int32) (s0 : Int32) (u : MM), wX11_looks_b343 N K ro114 x3 x4 x5 x6 s0 u → JX p l e (rr 1 22) s m args below meth c D (AJ 9 q s.heap.size) 11 (MQ below ((QV D 9 q (entM q cI cZ) K) (AJ 9 q s.heap.size)) args s 0 0 (AJ 9 q s.heap.size)) 9 q (entM q cI cZ) u 343 [(0, .ref (q 0)), (3, .int x3), (4, .int x4), (5, .int x5), (6, .int x6)] [.int s0, .ref (q 5)] := by
    intro x3 x4 x5 x6 s0 u h
    refine j_iconst (v := 1) C dX11_looks_343 (by decide) ?_
    refine j_goto C 348 dX11_looks_344 (by decide) ?_
    exact tX11_looks_b348 l D cI cZ ad q N C (hro114) _ _ _ _ _ _ _ h
set_option maxRecDepth 100000 in
set_option maxHeartbeats 4000000 in
theorem tX11_looks_b317 (l : Launch) (D : va_G) (cI cZ : ClassId) (ad q : Nat → Nat) (N : Nat) {p : Program} {e : Env} {s : State} {m : MethodId} {args : Array Value} {below : List Frame} {meth : Method} {c : Code} {K : MM → Prop} (C : CX p s m args meth c cX11_looks 11 RX11 none D cI cZ ad (AJ 9 q s.heap.size)) {ro114 : Int32 → Int32 → Int32 → Int32 → MM → Prop} (hro114 : ∀ (x3 : Int32) (x4 : Int32) (x5 : Int32) (x6 : Int32) (u : MM), ro114 x3 x4 x5 x6 u → JX p l e (rr 1 22) s m args below meth c D (AJ 9 q s.heap.size) 11 (MQ below ((QV D 9 q (entM q cI cZ) K) (AJ 9 q s.heap.size)) args s 0 0 (AJ 9 q s.heap.size)) 9 q (entM q cI cZ) u 114 [(0, .ref (q 0)), (3, .int x3), (4, .int x4), (5, .int x5), (6, .int x6)] []) : ∀ (x3 : Int32) (x4 : Int32) (x5 : Int32) (x6 : Int32) (s0 : Int32) (u : MM), wX11_looks_b317 N K ro114 x3 x4 x5 x6 s0 u → JX p l e (rr 1 22) s m args below meth c D (AJ 9 q s.heap.size) 11 (MQ below ((QV D 9 q (entM q cI cZ) K) (AJ 9 q s.heap.size)) args s 0 0 (AJ 9 q s.heap.size)) 9 q (entM q cI cZ) u 317 [(0, .ref (q 0)), (3, .int x3), (4, .int x4), (5, .int x5), (6, .int x6)] [.int s0, .ref (q 5)] := by
    intro x3 x4 x5 x6 s0 u h
    refine j_iconst (v := 0) C dX11_looks_317 (by decide) ?_
    refine j_goto C 348 dX11_looks_318 (by decide) ?_
    exact tX11_looks_b348 l D cI cZ ad q N C (hro114) _ _ _ _ _ _ _ h
set_option maxRecDepth 100000 in
set_option maxHeartbeats 4000000 in
theorem tX11_looks_b262 (l : Launch) (D : va_G) (cI cZ : ClassId) (ad q : Nat → Nat) (N : Nat) {p : Program} {e : Env} {s : State} {m : MethodId} {args : Array Value} {below : List Frame} {meth : Method} {c : Code} {K : MM → Prop} (C : CX p s m args meth c cX11_looks 11 RX11 none D cI cZ ad (AJ 9 q s.heap.size)) {ro114 : Int32 → Int32 → Int32 → Int32 → MM → Prop} (hro114 : ∀ (x3 : Int32) (x4 : Int32) (x5 : Int32) (x6 : Int32) (u : MM), ro114 x3 x4 x5 x6 u → JX p l e (rr 1 22) s m args below meth c D (AJ 9 q s.heap.size) 11 (MQ below ((QV D 9 q (entM q cI cZ) K) (AJ 9 q s.heap.size)) args s 0 0 (AJ 9 q s.heap.size)) 9 q (entM q cI cZ) u 114 [(0, .ref (q 0)), (3, .int x3), (4, .int x4), (5, .int x5), (6, .int x6)] []) : ∀ (x3 : Int32) (x4 : Int32) (x5 : Int32) (x6 : Int32) (s0 : Int32) (s1 : Int32) (u : MM), wX11_looks_b262 N K ro114 x3 x4 x5 x6 s0 s1 u → JX p l e (rr 1 22) s m args below meth c D (AJ 9 q s.heap.size) 11 (MQ below ((QV D 9 q (entM q cI cZ) K) (AJ 9 q s.heap.size)) args s 0 0 (AJ 9 q s.heap.size)) 9 q (entM q cI cZ) u 262 [(0, .ref (q 0)), (3, .int x3), (4, .int x4), (5, .int x5), (6, .int x6)] [.int s0, .int s1, .ref (q 5)] := by
    intro x3 x4 x5 x6 s0 s1 u h
    obtain ⟨hin, h⟩ := h
    refine j_zastoreK (N := 64) C 5 _ rfl hin (by decide) (fun _ => rfl) rfl dX11_looks_262 (fun u40 eu40 => ?_)
    have h := h u40 eu40
    refine j_goto C 423 dX11_looks_263 (by decide) ?_
    exact tX11_looks_b423 l D cI cZ ad q N C (hro114) _ _ _ _ _ h
set_option maxRecDepth 100000 in
set_option maxHeartbeats 4000000 in
theorem tX11_looks_b224 (l : Launch) (D : va_G) (cI cZ : ClassId) (ad q : Nat → Nat) (N : Nat) {p : Program} {e : Env} {s : State} {m : MethodId} {args : Array Value} {below : List Frame} {meth : Method} {c : Code} {K : MM → Prop} (C : CX p s m args meth c cX11_looks 11 RX11 none D cI cZ ad (AJ 9 q s.heap.size)) {ro114 : Int32 → Int32 → Int32 → Int32 → MM → Prop} (hro114 : ∀ (x3 : Int32) (x4 : Int32) (x5 : Int32) (x6 : Int32) (u : MM), ro114 x3 x4 x5 x6 u → JX p l e (rr 1 22) s m args below meth c D (AJ 9 q s.heap.size) 11 (MQ below ((QV D 9 q (entM q cI cZ) K) (AJ 9 q s.heap.size)) args s 0 0 (AJ 9 q s.heap.size)) 9 q (entM q cI cZ) u 114 [(0, .ref (q 0)), (3, .int x3), (4, .int x4), (5, .int x5), (6, .int x6)] []) : ∀ (x3 : Int32) (x4 : Int32) (x5 : Int32) (x6 : Int32) (s0 : Int32) (s1 : Int32) (u : MM), wX11_looks_b224 N K ro114 x3 x4 x5 x6 s0 s1 u → JX p l e (rr 1 22) s m args below meth c D (AJ 9 q s.heap.size) 11 (MQ below ((QV D 9 q (entM q cI cZ) K) (AJ 9 q s.heap.size)) args s 0 0 (AJ 9 q s.heap.size)) 9 q (entM q cI cZ) u 224 [(0, .ref (q 0)), (3, .int x3), (4, .int x4), (5, .int x5), (6, .int x6)] [.int s0, .int s1, .ref (q 5)] := by
    intro x3 x4 x5 x6 s0 s1 u h
    obtain ⟨hin, h⟩ := h
    refine j_zastoreK (N := 64) C 5 _ rfl hin (by decide) (fun _ => rfl) rfl dX11_looks_224 (fun u37 eu37 => ?_)
    have h := h u37 eu37
    obtain ⟨y38, ey38⟩ : ∃ z : Int32, z = x5 + 1 := ⟨_, rfl⟩
    have h := h y38 ey38
    refine j_iinc (v := y38) (lv' := [(5, .int y38), (0, .ref (q 0)), (3, .int x3), (4, .int x4), (6, .int x6)]) C 3 dX11_looks_225 rfl (by rw [ey38]; rfl) (by decide) rfl ?_
    refine j_goto C 423 dX11_looks_228 (by decide) ?_
    refine j_sub (lv' := [(0, .ref (q 0)), (3, .int x3), (4, .int x4), (5, .int y38), (6, .int x6)]) [1, 2, 3, 0, 4] rfl ?_
    exact tX11_looks_b423 l D cI cZ ad q N C (hro114) _ _ _ _ _ h
set_option maxRecDepth 100000 in
set_option maxHeartbeats 4000000 in
theorem tX11_looks_b114 (l : Launch) (D : va_G) (cI cZ : ClassId) (ad q : Nat → Nat) (N : Nat) {p : Program} {e : Env} {s : State} {m : MethodId} {args : Array Value} {below : List Frame} {meth : Method} {c : Code} {K : MM → Prop} (C : CX p s m args meth c cX11_looks 11 RX11 none D cI cZ ad (AJ 9 q s.heap.size)) : ∀ (n : Nat) (x3 : Int32) (x4 : Int32) (x5 : Int32) (x6 : Int32) (u : MM), wX11_looks_b114 N K n x3 x4 x5 x6 u → JX p l e (rr 1 22) s m args below meth c D (AJ 9 q s.heap.size) 11 (MQ below ((QV D 9 q (entM q cI cZ) K) (AJ 9 q s.heap.size)) args s 0 0 (AJ 9 q s.heap.size)) 9 q (entM q cI cZ) u 114 [(0, .ref (q 0)), (3, .int x3), (4, .int x4), (5, .int x5), (6, .int x6)] [] := by
  intro n
  induction n with
  | zero => intro x3 x4 x5 x6 u h; exact h.elim
  | succ n ih =>
    intro x3 x4 x5 x6 u h
    refine j_iload C 4 dX11_looks_114 rfl ?_
    refine j_iload C 2 dX11_looks_116 rfl ?_
    refine j_iload_n C 1 dX11_looks_118 rfl ?_
    refine j_iadd C dX11_looks_119 ?_
    refine j_icmp_ge C 429 dX11_looks_120 (by decide) (fun c14 => ?_) (fun c14 => ?_)
    · have h := h.1 c14
      exact j_vret C dX11_looks_429 h
    · have h := h.2 c14
      refine j_aload_n C 0 dX11_looks_123 rfl ?_
      refine j_get C 0 1 (ly_X11 C.2.2.2.2.2.2.2.1.1) q_636 rfl rfl (by decide) rfl rfl (by decide) rfl dX11_looks_124 ?_
      refine j_iload C 4 dX11_looks_127 rfl ?_
      obtain ⟨hin, h⟩ := h
      refine j_ialoadK (N := 944) C 1 _ rfl hin (by decide) rfl rfl dX11_looks_129 ?_
      refine j_nmi (fun y15 ey15 => ?_)
      have h := h y15 ey15
      refine j_istore (lv' := [(7, .int y15), (0, .ref (q 0)), (3, .int x3), (4, .int x4), (5, .int x5), (6, .int x6)]) C dX11_looks_130 (by decide) rfl ?_
      refine j_iload C 0 dX11_looks_132 rfl ?_
      refine j_if_lt C 231 dX11_looks_134 (by decide) (fun c16 => ?_) (fun c16 => ?_)
      · have h := h.1 c16
        refine j_iload C 0 dX11_looks_231 rfl ?_
        refine j_iconst (v := (-1)) C dX11_looks_233 (by decide) ?_
        refine j_icmp_ne C 266 dX11_looks_234 (by decide) (fun c17 => ?_) (fun c17 => ?_)
        · have h := h.1 c17
          refine j_iload C 0 dX11_looks_266 rfl ?_
          refine j_bipush (v := (-10)) C dX11_looks_268 (by decide) ?_
          refine j_icmp_le C 352 dX11_looks_270 (by decide) (fun c18 => ?_) (fun c18 => ?_)
          · have h := h.1 c18
            refine j_iconst (v := 0) C dX11_looks_352 (by decide) ?_
            refine j_istore (lv' := [(5, .int 0), (7, .int y15), (0, .ref (q 0)), (3, .int x3), (4, .int x4), (6, .int x6)]) C dX11_looks_353 (by decide) rfl ?_
            refine j_aload_n C 2 dX11_looks_355 rfl ?_
            refine j_aload_n C 2 dX11_looks_356 rfl ?_
            refine j_get C 0 12 (ly_X11 C.2.2.2.2.2.2.2.1.1) q_647 rfl rfl (by decide) rfl rfl (by decide) rfl dX11_looks_357 ?_
            refine j_if_ne C 379 dX11_looks_360 (by decide) (fun c19 => ?_) (fun c19 => ?_)
            · have h := h.1 c19
              refine j_sub (lv' := [(0, .ref (q 0)), (3, .int x3), (4, .int x4), (5, .int 0), (6, .int x6), (7, .int y15)]) [2, 3, 4, 0, 5, 1] rfl ?_
              exact tX11_looks_b379 l D cI cZ ad q N C ih _ _ _ _ _ _ h
            · have h := h.2 c19
              refine j_aload_n C 2 dX11_looks_363 rfl ?_
              refine j_get C 0 11 (ly_X11 C.2.2.2.2.2.2.2.1.1) q_646 rfl rfl (by decide) rfl rfl (by decide) rfl dX11_looks_364 ?_
              refine j_iconst (v := 0) C dX11_looks_367 (by decide) ?_
              refine j_zaloadK (N := 64) C 5 0 (by decide) (show ¬ ((0 : Int32) < 0 ∨ 64 ≤ (0 : Int32).toNatClampNeg) by decide) (by decide) rfl rfl dX11_looks_368 ?_
              refine j_if_eq C 383 dX11_looks_369 (by decide) (fun c20 => ?_) (fun c20 => ?_)
              · have h := h.1 c20
                refine j_sub (lv' := [(0, .ref (q 0)), (3, .int x3), (4, .int x4), (5, .int 0), (6, .int x6), (7, .int y15)]) [2, 3, 4, 0, 5, 1] rfl ?_
                exact tX11_looks_b383 l D cI cZ ad q N C ih _ _ _ _ _ _ h
              · have h := h.2 c20
                refine j_iload C 1 dX11_looks_372 rfl ?_
                refine j_bipush (v := (-10)) C dX11_looks_374 (by decide) ?_
                refine j_icmp_ne C 383 dX11_looks_376 (by decide) (fun c21 => ?_) (fun c21 => ?_)
                · have h := h.1 c21
                  refine j_sub (lv' := [(0, .ref (q 0)), (3, .int x3), (4, .int x4), (5, .int 0), (6, .int x6), (7, .int y15)]) [2, 3, 4, 0, 5, 1] rfl ?_
                  exact tX11_looks_b383 l D cI cZ ad q N C ih _ _ _ _ _ _ h
                · have h := h.2 c21
                  refine j_sub (lv' := [(0, .ref (q 0)), (3, .int x3), (4, .int x4), (5, .int 0), (6, .int x6), (7, .int y15)]) [2, 3, 4, 0, 5, 1] rfl ?_
                  exact tX11_looks_b379 l D cI cZ ad q N C ih _ _ _ _ _ _ h
          · have h := h.2 c18
            obtain ⟨y22, ey22⟩ : ∃ z : Int32, z = x5 + (-1) := ⟨_, rfl⟩
            have h := h y22 ey22
            refine j_iinc (v := y22) (lv' := [(5, .int y22), (7, .int y15), (0, .ref (q 0)), (3, .int x3), (4, .int x4), (6, .int x6)]) C 4 dX11_looks_273 rfl (by rw [ey22]; rfl) (by decide) rfl ?_
            refine j_aload_n C 2 dX11_looks_276 rfl ?_
            refine j_get C 0 11 (ly_X11 C.2.2.2.2.2.2.2.1.1) q_646 rfl rfl (by decide) rfl rfl (by decide) rfl dX11_looks_277 ?_
            refine j_iload C 0 dX11_looks_280 rfl ?_
            refine j_iconst (v := 1) C dX11_looks_282 (by decide) ?_
            refine j_isub C dX11_looks_283 ?_
            refine j_iload C 1 dX11_looks_284 rfl ?_
            refine j_bipush (v := (-2)) C dX11_looks_286 (by decide) ?_
            refine j_icmp_ne C 321 dX11_looks_288 (by decide) (fun c23 => ?_) (fun c23 => ?_)
            · have h := h.1 c23
              refine j_aload_n C 2 dX11_looks_321 rfl ?_
              refine j_get C 0 11 (ly_X11 C.2.2.2.2.2.2.2.1.1) q_646 rfl rfl (by decide) rfl rfl (by decide) rfl dX11_looks_322 ?_
              refine j_iload C 0 dX11_looks_325 rfl ?_
              refine j_iconst (v := 1) C dX11_looks_327 (by decide) ?_
              refine j_isub C dX11_looks_328 ?_
              obtain ⟨hin, h⟩ := h
              refine j_zaloadK (N := 64) C 5 _ rfl hin (by decide) rfl rfl dX11_looks_329 ?_
              refine j_if_ne C 343 dX11_looks_330 (by decide) (fun c24 => ?_) (fun c24 => ?_)
              · have h := h.1 c24
                refine j_sub (lv' := [(0, .ref (q 0)), (3, .int x3), (4, .int x4), (5, .int y22), (6, .int x6)]) [2, 3, 4, 0, 5] rfl ?_
                exact tX11_looks_b343 l D cI cZ ad q N C ih _ _ _ _ _ _ h
              · have h := h.2 c24
                refine j_aload_n C 2 dX11_looks_333 rfl ?_
                refine j_get C 0 11 (ly_X11 C.2.2.2.2.2.2.2.1.1) q_646 rfl rfl (by decide) rfl rfl (by decide) rfl dX11_looks_334 ?_
                refine j_iload C 0 dX11_looks_337 rfl ?_
                obtain ⟨hin, h⟩ := h
                refine j_zaloadK (N := 64) C 5 _ rfl hin (by decide) rfl rfl dX11_looks_339 ?_
                refine j_if_eq C 347 dX11_looks_340 (by decide) (fun c25 => ?_) (fun c25 => ?_)
                · have h := h.1 c25
                  refine j_iconst (v := 0) C dX11_looks_347 (by decide) ?_
                  refine j_sub (lv' := [(0, .ref (q 0)), (3, .int x3), (4, .int x4), (5, .int y22), (6, .int x6)]) [2, 3, 4, 0, 5] rfl ?_
                  exact tX11_looks_b348 l D cI cZ ad q N C ih _ _ _ _ _ _ _ h
                · have h := h.2 c25
                  refine j_sub (lv' := [(0, .ref (q 0)), (3, .int x3), (4, .int x4), (5, .int y22), (6, .int x6)]) [2, 3, 4, 0, 5] rfl ?_
                  exact tX11_looks_b343 l D cI cZ ad q N C ih _ _ _ _ _ _ h
            · have h := h.2 c23
              refine j_aload_n C 2 dX11_looks_291 rfl ?_
              refine j_get C 0 11 (ly_X11 C.2.2.2.2.2.2.2.1.1) q_646 rfl rfl (by decide) rfl rfl (by decide) rfl dX11_looks_292 ?_
              refine j_iload C 0 dX11_looks_295 rfl ?_
              refine j_iconst (v := 1) C dX11_looks_297 (by decide) ?_
              refine j_isub C dX11_looks_298 ?_
              obtain ⟨hin, h⟩ := h
              refine j_zaloadK (N := 64) C 5 _ rfl hin (by decide) rfl rfl dX11_looks_299 ?_
              refine j_if_eq C 317 dX11_looks_300 (by decide) (fun c26 => ?_) (fun c26 => ?_)
              · have h := h.1 c26
                refine j_sub (lv' := [(0, .ref (q 0)), (3, .int x3), (4, .int x4), (5, .int y22), (6, .int x6)]) [2, 3, 4, 0, 5] rfl ?_
                exact tX11_looks_b317 l D cI cZ ad q N C ih _ _ _ _ _ _ h
              · have h := h.2 c26
                refine j_aload_n C 2 dX11_looks_303 rfl ?_
                refine j_get C 0 11 (ly_X11 C.2.2.2.2.2.2.2.1.1) q_646 rfl rfl (by decide) rfl rfl (by decide) rfl dX11_looks_304 ?_
                refine j_iload C 0 dX11_looks_307 rfl ?_
                obtain ⟨hin, h⟩ := h
                refine j_zaloadK (N := 64) C 5 _ rfl hin (by decide) rfl rfl dX11_looks_309 ?_
                refine j_if_eq C 317 dX11_looks_310 (by decide) (fun c27 => ?_) (fun c27 => ?_)
                · have h := h.1 c27
                  refine j_sub (lv' := [(0, .ref (q 0)), (3, .int x3), (4, .int x4), (5, .int y22), (6, .int x6)]) [2, 3, 4, 0, 5] rfl ?_
                  exact tX11_looks_b317 l D cI cZ ad q N C ih _ _ _ _ _ _ h
                · have h := h.2 c27
                  refine j_iconst (v := 1) C dX11_looks_313 (by decide) ?_
                  refine j_goto C 348 dX11_looks_314 (by decide) ?_
                  refine j_sub (lv' := [(0, .ref (q 0)), (3, .int x3), (4, .int x4), (5, .int y22), (6, .int x6)]) [2, 3, 4, 0, 5] rfl ?_
                  exact tX11_looks_b348 l D cI cZ ad q N C ih _ _ _ _ _ _ _ h
        · have h := h.2 c17
          refine j_aload_n C 1 dX11_looks_237 rfl ?_
          refine j_get C 0 11 (ly_X11 C.2.2.2.2.2.2.2.1.1) q_646 rfl rfl (by decide) rfl rfl (by decide) rfl dX11_looks_238 ?_
          refine j_iload C 4 dX11_looks_241 rfl ?_
          refine j_iconst (v := 1) C dX11_looks_243 (by decide) ?_
          refine j_isub C dX11_looks_244 ?_
          refine j_aload_n C 1 dX11_looks_245 rfl ?_
          refine j_get C 0 11 (ly_X11 C.2.2.2.2.2.2.2.1.1) q_646 rfl rfl (by decide) rfl rfl (by decide) rfl dX11_looks_246 ?_
          refine j_iload C 4 dX11_looks_249 rfl ?_
          refine j_iconst (v := 1) C dX11_looks_251 (by decide) ?_
          refine j_isub C dX11_looks_252 ?_
          obtain ⟨hin, h⟩ := h
          refine j_zaloadK (N := 64) C 5 _ rfl hin (by decide) rfl rfl dX11_looks_253 ?_
          refine j_if_ne C 261 dX11_looks_254 (by decide) (fun c28 => ?_) (fun c28 => ?_)
          · have h := h.1 c28
            refine j_iconst (v := 0) C dX11_looks_261 (by decide) ?_
            refine j_sub (lv' := [(0, .ref (q 0)), (3, .int x3), (4, .int x4), (5, .int x5), (6, .int x6)]) [1, 2, 3, 4, 5] rfl ?_
            exact tX11_looks_b262 l D cI cZ ad q N C ih _ _ _ _ _ _ _ h
          · have h := h.2 c28
            refine j_iconst (v := 1) C dX11_looks_257 (by decide) ?_
            refine j_goto C 262 dX11_looks_258 (by decide) ?_
            refine j_sub (lv' := [(0, .ref (q 0)), (3, .int x3), (4, .int x4), (5, .int x5), (6, .int x6)]) [1, 2, 3, 4, 5] rfl ?_
            exact tX11_looks_b262 l D cI cZ ad q N C ih _ _ _ _ _ _ _ h
      · have h := h.2 c16
        refine j_aload_n C 1 dX11_looks_137 rfl ?_
        refine j_get C 0 10 (ly_X11 C.2.2.2.2.2.2.2.1.1) q_645 rfl rfl (by decide) rfl rfl (by decide) rfl dX11_looks_138 ?_
        refine j_iload C 0 dX11_looks_141 rfl ?_
        refine j_bipush (v := 8) C dX11_looks_143 (by decide) ?_
        refine j_irem C dX11_looks_145 (by decide) ?_
        obtain ⟨hin, h⟩ := h
        refine j_ialoadK (N := 5) C 4 _ rfl hin (by decide) rfl rfl dX11_looks_146 ?_
        refine j_nmi (fun y29 ey29 => ?_)
        have h := h y29 ey29
        refine j_istore (lv' := [(8, .int y29), (7, .int y15), (0, .ref (q 0)), (3, .int x3), (4, .int x4), (5, .int x5), (6, .int x6)]) C dX11_looks_147 (by decide) rfl ?_
        refine j_iload C 1 dX11_looks_149 rfl ?_
        refine j_bipush (v := 8) C dX11_looks_151 (by decide) ?_
        refine j_idiv C dX11_looks_153 (by decide) ?_
        refine j_iconst (v := 4) C dX11_looks_154 (by decide) ?_
        refine j_irem C dX11_looks_155 (by decide) ?_
        refine j_nmi (fun y30 ey30 => ?_)
        have h := h y30 ey30
        refine j_istore (lv' := [(9, .int y30), (8, .int y29), (7, .int y15), (0, .ref (q 0)), (3, .int x3), (4, .int x4), (5, .int x5), (6, .int x6)]) C dX11_looks_156 (by decide) rfl ?_
        refine j_iload C 2 dX11_looks_158 rfl ?_
        refine j_bipush (v := 32) C dX11_looks_160 (by decide) ?_
        refine j_idiv C dX11_looks_162 (by decide) ?_
        refine j_nmi (fun y31 ey31 => ?_)
        have h := h y31 ey31
        refine j_istore (lv' := [(10, .int y31), (9, .int y30), (8, .int y29), (7, .int y15), (0, .ref (q 0)), (3, .int x3), (4, .int x4), (5, .int x5), (6, .int x6)]) C dX11_looks_163 (by decide) rfl ?_
        refine j_aload_n C 4 dX11_looks_165 rfl ?_
        refine j_get C 0 11 (ly_X11 C.2.2.2.2.2.2.2.1.1) q_646 rfl rfl (by decide) rfl rfl (by decide) rfl dX11_looks_166 ?_
        refine j_iload C 7 dX11_looks_169 rfl ?_
        refine j_iload C 1 dX11_looks_171 rfl ?_
        refine j_if_ne C 191 dX11_looks_173 (by decide) (fun c32 => ?_) (fun c32 => ?_)
        · have h := h.1 c32
          refine j_iload C 1 dX11_looks_191 rfl ?_
          refine j_iconst (v := 1) C dX11_looks_193 (by decide) ?_
          refine j_icmp_ne C 212 dX11_looks_194 (by decide) (fun c33 => ?_) (fun c33 => ?_)
          · have h := h.1 c33
            refine j_iload C 2 dX11_looks_212 rfl ?_
            refine j_iload C 0 dX11_looks_214 rfl ?_
            refine j_icmp_le C 223 dX11_looks_216 (by decide) (fun c34 => ?_) (fun c34 => ?_)
            · have h := h.1 c34
              refine j_iconst (v := 0) C dX11_looks_223 (by decide) ?_
              refine j_sub (lv' := [(0, .ref (q 0)), (3, .int x3), (4, .int x4), (5, .int x5), (6, .int x6)]) [4, 5, 6, 7, 8] rfl ?_
              exact tX11_looks_b224 l D cI cZ ad q N C ih _ _ _ _ _ _ _ h
            · have h := h.2 c34
              refine j_iconst (v := 1) C dX11_looks_219 (by decide) ?_
              refine j_goto C 224 dX11_looks_220 (by decide) ?_
              refine j_sub (lv' := [(0, .ref (q 0)), (3, .int x3), (4, .int x4), (5, .int x5), (6, .int x6)]) [4, 5, 6, 7, 8] rfl ?_
              exact tX11_looks_b224 l D cI cZ ad q N C ih _ _ _ _ _ _ _ h
          · have h := h.2 c33
            refine j_iload C 2 dX11_looks_197 rfl ?_
            refine j_iload C 0 dX11_looks_199 rfl ?_
            refine j_icmp_ne C 208 dX11_looks_201 (by decide) (fun c35 => ?_) (fun c35 => ?_)
            · have h := h.1 c35
              refine j_iconst (v := 0) C dX11_looks_208 (by decide) ?_
              refine j_goto C 224 dX11_looks_209 (by decide) ?_
              refine j_sub (lv' := [(0, .ref (q 0)), (3, .int x3), (4, .int x4), (5, .int x5), (6, .int x6)]) [4, 5, 6, 7, 8] rfl ?_
              exact tX11_looks_b224 l D cI cZ ad q N C ih _ _ _ _ _ _ _ h
            · have h := h.2 c35
              refine j_iconst (v := 1) C dX11_looks_204 (by decide) ?_
              refine j_goto C 224 dX11_looks_205 (by decide) ?_
              refine j_sub (lv' := [(0, .ref (q 0)), (3, .int x3), (4, .int x4), (5, .int x5), (6, .int x6)]) [4, 5, 6, 7, 8] rfl ?_
              exact tX11_looks_b224 l D cI cZ ad q N C ih _ _ _ _ _ _ _ h
        · have h := h.2 c32
          refine j_iload C 2 dX11_looks_176 rfl ?_
          refine j_iload C 0 dX11_looks_178 rfl ?_
          refine j_icmp_ge C 187 dX11_looks_180 (by decide) (fun c36 => ?_) (fun c36 => ?_)
          · have h := h.1 c36
            refine j_iconst (v := 0) C dX11_looks_187 (by decide) ?_
            refine j_goto C 224 dX11_looks_188 (by decide) ?_
            refine j_sub (lv' := [(0, .ref (q 0)), (3, .int x3), (4, .int x4), (5, .int x5), (6, .int x6)]) [4, 5, 6, 7, 8] rfl ?_
            exact tX11_looks_b224 l D cI cZ ad q N C ih _ _ _ _ _ _ _ h
          · have h := h.2 c36
            refine j_iconst (v := 1) C dX11_looks_183 (by decide) ?_
            refine j_goto C 224 dX11_looks_184 (by decide) ?_
            refine j_sub (lv' := [(0, .ref (q 0)), (3, .int x3), (4, .int x4), (5, .int x5), (6, .int x6)]) [4, 5, 6, 7, 8] rfl ?_
            exact tX11_looks_b224 l D cI cZ ad q N C ih _ _ _ _ _ _ _ h
set_option maxRecDepth 100000 in
set_option maxHeartbeats 4000000 in
theorem tX11_looks_b55 (l : Launch) (D : va_G) (cI cZ : ClassId) (ad q : Nat → Nat) (N : Nat) {p : Program} {e : Env} {s : State} {m : MethodId} {args : Array Value} {below : List Frame} {meth : Method} {c : Code} {K : MM → Prop} (C : CX p s m args meth c cX11_looks 11 RX11 none D cI cZ ad (AJ 9 q s.heap.size)) : ∀ (s0 : Int32) (s1 : Int32) (u : MM), wX11_looks_b55 N K s0 s1 u → JX p l e (rr 1 22) s m args below meth c D (AJ 9 q s.heap.size) 11 (MQ below ((QV D 9 q (entM q cI cZ) K) (AJ 9 q s.heap.size)) args s 0 0 (AJ 9 q s.heap.size)) 9 q (entM q cI cZ) u 55 [(0, .ref (q 0))] [.int s0, .int s1, .ref (q 4)] := by
    intro s0 s1 u h
    obtain ⟨hin, h⟩ := h
    refine j_iastoreK (N := 5) C 4 _ rfl hin (by decide) (fun _ => rfl) rfl dX11_looks_55 (fun u7 eu7 => ?_)
    have h := h u7 eu7
    refine j_aload_n C 0 dX11_looks_56 rfl ?_
    refine j_get C 0 10 (ly_X11 C.2.2.2.2.2.2.2.1.1) q_645 rfl rfl (by decide) rfl rfl (by decide) rfl dX11_looks_57 ?_
    refine j_iconst (v := 4) C dX11_looks_60 (by decide) ?_
    refine j_aload_n C 0 dX11_looks_61 rfl ?_
    refine j_get C 0 1 (ly_X11 C.2.2.2.2.2.2.2.1.1) q_636 rfl rfl (by decide) rfl rfl (by decide) rfl dX11_looks_62 ?_
    refine j_iconst (v := 0) C dX11_looks_65 (by decide) ?_
    refine j_ialoadK (N := 944) C 1 0 (by decide) (show ¬ ((0 : Int32) < 0 ∨ 944 ≤ (0 : Int32).toNatClampNeg) by decide) (by decide) rfl rfl dX11_looks_66 ?_
    refine j_bipush (v := 7) C dX11_looks_67 (by decide) ?_
    refine j_irem C dX11_looks_69 (by decide) ?_
    refine j_iastoreK (N := 5) C 4 4 (by decide) (show ¬ ((4 : Int32) < 0 ∨ 5 ≤ (4 : Int32).toNatClampNeg) by decide) (by decide) (fun _ => rfl) rfl dX11_looks_70 (fun u8 eu8 => ?_)
    have h := h u8 eu8
    refine j_aload_n C 0 dX11_looks_71 rfl ?_
    refine j_iconst (v := 0) C dX11_looks_72 (by decide) ?_
    refine j_put C 0 12 (ly_X11 C.2.2.2.2.2.2.2.1.1) q_647 rfl rfl (by decide) rfl rfl (by decide) tyX11_ok nmX11 rfl rfl ⟨rfl, rfl⟩ (Nat.le_of_ble_eq_true rfl) rfl dX11_looks_73 ?_
    refine j_nmu (fun u9 eu9 => ?_)
    have h := h u9 eu9
    refine j_aload_n C 0 dX11_looks_76 rfl ?_
    refine j_iconst (v := 0) C dX11_looks_77 (by decide) ?_
    refine j_put C 0 13 (ly_X11 C.2.2.2.2.2.2.2.1.1) q_648 rfl rfl (by decide) rfl rfl (by decide) tyX11_ok nmX11 rfl rfl ⟨rfl, rfl⟩ (Nat.le_of_ble_eq_true rfl) rfl dX11_looks_78 ?_
    refine j_nmu (fun u10 eu10 => ?_)
    have h := h u10 eu10
    refine j_aload_n C 0 dX11_looks_81 rfl ?_
    refine j_sipush (v := 239) C dX11_looks_82 (by decide) ?_
    refine j_iconst (v := 0) C dX11_looks_85 (by decide) ?_
    refine j_wi C (fun H locs ls hP hD hS hl => run_V (Cn := "") (As := [.int 239, .int 0]) (st := []) C mf_X11_tellsOf 0 (kX_X11_tellsOf l D cI cZ ad q N h) q_735 (by decide) rfl rfl rfl rfl ⟨rfl, rfl, by decide, by decide⟩ (Nat.le_of_ble_eq_true rfl) dX11_looks_86 hP hD hS hl) (fun r11 u12 h => ?_)
    refine j_istore_n (lv' := [(3, .int r11), (0, .ref (q 0))]) C dX11_looks_89 (by decide) rfl ?_
    refine j_sipush (v := 244) C dX11_looks_90 (by decide) ?_
    refine j_sipush (v := 140) C dX11_looks_93 (by decide) ?_
    refine j_aload_n C 1 dX11_looks_96 rfl ?_
    refine j_get C 0 1 (ly_X11 C.2.2.2.2.2.2.2.1.1) q_636 rfl rfl (by decide) rfl rfl (by decide) rfl dX11_looks_97 ?_
    refine j_bipush (v := 23) C dX11_looks_100 (by decide) ?_
    refine j_ialoadK (N := 944) C 1 23 (by decide) (show ¬ ((23 : Int32) < 0 ∨ 944 ≤ (23 : Int32).toNatClampNeg) by decide) (by decide) rfl rfl dX11_looks_102 ?_
    refine j_imul C dX11_looks_103 ?_
    refine j_iadd C dX11_looks_104 ?_
    refine j_nmi (fun y13 ey13 => ?_)
    have h := h y13 ey13
    refine j_istore (lv' := [(4, .int y13), (3, .int r11), (0, .ref (q 0))]) C dX11_looks_105 (by decide) rfl ?_
    refine j_iconst (v := 0) C dX11_looks_107 (by decide) ?_
    refine j_istore (lv' := [(5, .int 0), (4, .int y13), (3, .int r11), (0, .ref (q 0))]) C dX11_looks_108 (by decide) rfl ?_
    refine j_iload C 1 dX11_looks_110 rfl ?_
    refine j_istore (lv' := [(6, .int y13), (5, .int 0), (4, .int y13), (3, .int r11), (0, .ref (q 0))]) C dX11_looks_112 (by decide) rfl ?_
    refine j_sub (lv' := [(0, .ref (q 0)), (3, .int r11), (4, .int y13), (5, .int 0), (6, .int y13)]) [4, 3, 2, 1, 0] rfl ?_
    exact tX11_looks_b114 l D cI cZ ad q N C N _ _ _ _ _ h
set_option maxRecDepth 100000 in
set_option maxHeartbeats 4000000 in
theorem kX_X11_looks (l : Launch) (D : va_G) (cI cZ : ClassId) (ad q : Nat → Nat) (N : Nat) {x1 : Int32} {x2 : Int32} {u : MM} {K : MM → Prop} (h : wX11_looks N x1 x2 u K) : CT l D cI cZ ad 9 q (entM q cI cZ) yX11_looks cX11_looks 11 none (rr 1 22) [.ref (q 0), .int x1, .int x2] u (QV D 9 q (entM q cI cZ) K) := by
    refine ct_of (by decide +kernel) (Nat.le_of_ble_eq_true rfl) (fun p e s m args below meth c C => ?_)
    refine j_sub (lv' := [(0, .ref (q 0)), (1, .int x1), (2, .int x2)]) [0, 1, 2] rfl ?_
    refine j_aload_n C 0 dX11_looks_0 rfl ?_
    refine j_get C 0 10 (ly_X11 C.2.2.2.2.2.2.2.1.1) q_645 rfl rfl (by decide) rfl rfl (by decide) rfl dX11_looks_1 ?_
    refine j_iconst (v := 0) C dX11_looks_4 (by decide) ?_
    refine j_iload_n C 1 dX11_looks_5 rfl ?_
    refine j_iastoreK (N := 5) C 4 0 (by decide) (show ¬ ((0 : Int32) < 0 ∨ 5 ≤ (0 : Int32).toNatClampNeg) by decide) (by decide) (fun _ => rfl) rfl dX11_looks_6 (fun u1 eu1 => ?_)
    have h := h u1 eu1
    refine j_aload_n C 0 dX11_looks_7 rfl ?_
    refine j_get C 0 10 (ly_X11 C.2.2.2.2.2.2.2.1.1) q_645 rfl rfl (by decide) rfl rfl (by decide) rfl dX11_looks_8 ?_
    refine j_iconst (v := 1) C dX11_looks_11 (by decide) ?_
    refine j_iload_n C 2 dX11_looks_12 rfl ?_
    refine j_iastoreK (N := 5) C 4 1 (by decide) (show ¬ ((1 : Int32) < 0 ∨ 5 ≤ (1 : Int32).toNatClampNeg) by decide) (by decide) (fun _ => rfl) rfl dX11_looks_13 (fun u2 eu2 => ?_)
    have h := h u2 eu2
    refine j_aload_n C 0 dX11_looks_14 rfl ?_
    refine j_get C 0 10 (ly_X11 C.2.2.2.2.2.2.2.1.1) q_645 rfl rfl (by decide) rfl rfl (by decide) rfl dX11_looks_15 ?_
    refine j_iconst (v := 2) C dX11_looks_18 (by decide) ?_
    refine j_aload_n C 0 dX11_looks_19 rfl ?_
    refine j_get C 0 1 (ly_X11 C.2.2.2.2.2.2.2.1.1) q_636 rfl rfl (by decide) rfl rfl (by decide) rfl dX11_looks_20 ?_
    refine j_bipush (v := 24) C dX11_looks_23 (by decide) ?_
    refine j_iload_n C 1 dX11_looks_25 rfl ?_
    refine j_iadd C dX11_looks_26 ?_
    obtain ⟨hin, h⟩ := h
    refine j_ialoadK (N := 944) C 1 _ rfl hin (by decide) rfl rfl dX11_looks_27 ?_
    refine j_iastoreK (N := 5) C 4 2 (by decide) (show ¬ ((2 : Int32) < 0 ∨ 5 ≤ (2 : Int32).toNatClampNeg) by decide) (by decide) (fun _ => rfl) rfl dX11_looks_28 (fun u3 eu3 => ?_)
    have h := h u3 eu3
    refine j_aload_n C 0 dX11_looks_29 rfl ?_
    refine j_get C 0 10 (ly_X11 C.2.2.2.2.2.2.2.1.1) q_645 rfl rfl (by decide) rfl rfl (by decide) rfl dX11_looks_30 ?_
    refine j_iconst (v := 3) C dX11_looks_33 (by decide) ?_
    refine j_aload_n C 0 dX11_looks_34 rfl ?_
    refine j_iload_n C 1 dX11_looks_35 rfl ?_
    refine j_wi C (fun H locs ls hP hD hS hl => run_V (Cn := "") (As := [.int x1]) (st := [.int 3, .ref (q 4)]) C mf_X11_hasHeard 0 (kX_X11_hasHeard l D cI cZ ad q N h) q_723 (by decide) rfl rfl rfl rfl ⟨rfl, rfl, by decide, by decide⟩ (Nat.le_of_ble_eq_true rfl) dX11_looks_36 hP hD hS hl) (fun r4 u5 h => ?_)
    refine j_if_eq C 53 dX11_looks_39 (by decide) (fun c6 => ?_) (fun c6 => ?_)
    · have h := h.1 c6
      refine j_bipush (v := 9) C dX11_looks_53 (by decide) ?_
      refine j_sub (lv' := [(0, .ref (q 0))]) [0] rfl ?_
      exact tX11_looks_b55 l D cI cZ ad q N C _ _ _ h
    · have h := h.2 c6
      refine j_aload_n C 0 dX11_looks_42 rfl ?_
      refine j_get C 0 1 (ly_X11 C.2.2.2.2.2.2.2.1.1) q_636 rfl rfl (by decide) rfl rfl (by decide) rfl dX11_looks_43 ?_
      refine j_iconst (v := 4) C dX11_looks_46 (by decide) ?_
      refine j_iload_n C 1 dX11_looks_47 rfl ?_
      refine j_iadd C dX11_looks_48 ?_
      obtain ⟨hin, h⟩ := h
      refine j_ialoadK (N := 944) C 1 _ rfl hin (by decide) rfl rfl dX11_looks_49 ?_
      refine j_goto C 55 dX11_looks_50 (by decide) ?_
      refine j_sub (lv' := [(0, .ref (q 0))]) [0] rfl ?_
      exact tX11_looks_b55 l D cI cZ ad q N C _ _ _ h

def wX11_fineOf (N : Nat) (x1 : Int32) (u : MM) (K : Int32 → MM → Prop) : Prop := (wX11_looks N x1 9 u (fun u2 => (K (u2 0 13) u2)))
set_option maxRecDepth 100000 in
set_option maxHeartbeats 4000000 in
theorem kX_X11_fineOf (l : Launch) (D : va_G) (cI cZ : ClassId) (ad q : Nat → Nat) (N : Nat) {x1 : Int32} {u : MM} {K : Int32 → MM → Prop} (h : wX11_fineOf N x1 u K) : CT l D cI cZ ad 9 q (entM q cI cZ) yX11_fineOf cX11_fineOf 2 (some .int) (rr 2 52) [.ref (q 0), .int x1] u (QI D 9 q (entM q cI cZ) K) := by
    refine ct_of (by decide +kernel) (Nat.le_of_ble_eq_true rfl) (fun p e s m args below meth c C => ?_)
    refine j_sub (lv' := [(0, .ref (q 0)), (1, .int x1)]) [0, 1] rfl ?_
    refine j_aload_n C 0 dX11_fineOf_0 rfl ?_
    refine j_iload_n C 1 dX11_fineOf_1 rfl ?_
    refine j_bipush (v := 9) C dX11_fineOf_2 (by decide) ?_
    refine j_wv C (fun H locs ls hP hD hS hl => run_V (Cn := "") (As := [.int x1, .int 9]) (st := []) C mf_X11_looks 0 (kX_X11_looks l D cI cZ ad q N h) q_732 (by decide) rfl rfl rfl rfl ⟨rfl, rfl, by decide, by decide⟩ (Nat.le_of_ble_eq_true rfl) dX11_fineOf_4 hP hD hS hl) (fun u2 h => ?_)
    refine j_aload_n C 0 dX11_fineOf_7 rfl ?_
    refine j_get C 0 13 (ly_X11 C.2.2.2.2.2.2.2.1.1) q_648 rfl rfl (by decide) rfl rfl (by decide) rfl dX11_fineOf_8 ?_
    exact j_iret C dX11_fineOf_11 h

def wX11_person (N : Nat) (x1 : Int32) (x2 : Int32) (u : MM) (K : Int32 → MM → Prop) : Prop := (wX11_in N x1 0 6 (fun r1 => ((¬ r1 = 0 → (wX11_in N x2 0 9 (fun r3 => ((¬ r3 = 0 → ((¬ (u 1 18) = 7 → (∀ y6 : Int32, y6 = (u 1 18) → (vp_in ((24 + y6)) 944 ∧ ∀ u7 : MM, u7 = up u 1 ((24 + y6).toNatClampNeg) x1 → (vp_in ((31 + y6)) 944 ∧ ∀ u8 : MM, u8 = up u7 1 ((31 + y6).toNatClampNeg) x2 → (vp_in ((38 + y6)) 944 ∧ ∀ u9 : MM, u9 = up u8 1 ((38 + y6).toNatClampNeg) 0 → (vp_in ((45 + y6)) 944 ∧ ∀ u10 : MM, u10 = up u9 1 ((45 + y6).toNatClampNeg) 0 → (vp_in ((4 + y6)) 944 ∧ ∀ u11 : MM, u11 = up u10 1 ((4 + y6).toNatClampNeg) 0 → (vp_in ((11 + y6)) 944 ∧ ∀ u12 : MM, u12 = up u11 1 ((11 + y6).toNatClampNeg) 0 → (∀ u13 : MM, u13 = up u12 1 18 ((u12 1 18) + 1) → (K y6 u13)))))))))) ∧ ((u 1 18) = 7 → (K (-4) u)))) ∧ (r3 = 0 → (K (-2) u)))))) ∧ (r1 = 0 → (K (-1) u)))))
set_option maxRecDepth 100000 in
set_option maxHeartbeats 4000000 in
theorem kX_X11_person (l : Launch) (D : va_G) (cI cZ : ClassId) (ad q : Nat → Nat) (N : Nat) {x1 : Int32} {x2 : Int32} {u : MM} {K : Int32 → MM → Prop} (h : wX11_person N x1 x2 u K) : CT l D cI cZ ad 9 q (entM q cI cZ) yX11_person cX11_person 4 (some .int) (rr 1 22) [.ref (q 0), .int x1, .int x2] u (QI D 9 q (entM q cI cZ) K) := by
    refine ct_of (by decide +kernel) (Nat.le_of_ble_eq_true rfl) (fun p e s m args below meth c C => ?_)
    refine j_sub (lv' := [(0, .ref (q 0)), (1, .int x1), (2, .int x2)]) [0, 1, 2] rfl ?_
    refine j_iload_n C 1 dX11_person_0 rfl ?_
    refine j_iconst (v := 0) C dX11_person_1 (by decide) ?_
    refine j_bipush (v := 6) C dX11_person_2 (by decide) ?_
    refine j_ui C (fun H locs ls hP hD => run_S (As := [.int x1, .int 0, .int 6]) (st := []) C mf_X11_in (kX_X11_in l D cI cZ ad q N h) q_667 rfl rfl ⟨rfl, rfl, by decide, by decide⟩ (Nat.le_of_ble_eq_true rfl) dX11_person_4 hP hD) (fun r1 _ h => ?_)
    refine j_if_ne C 12 dX11_person_7 (by decide) (fun c2 => ?_) (fun c2 => ?_)
    · have h := h.1 c2
      refine j_iload_n C 2 dX11_person_12 rfl ?_
      refine j_iconst (v := 0) C dX11_person_13 (by decide) ?_
      refine j_bipush (v := 9) C dX11_person_14 (by decide) ?_
      refine j_ui C (fun H locs ls hP hD => run_S (As := [.int x2, .int 0, .int 9]) (st := []) C mf_X11_in (kX_X11_in l D cI cZ ad q N h) q_667 rfl rfl ⟨rfl, rfl, by decide, by decide⟩ (Nat.le_of_ble_eq_true rfl) dX11_person_16 hP hD) (fun r3 _ h => ?_)
      refine j_if_ne C 25 dX11_person_19 (by decide) (fun c4 => ?_) (fun c4 => ?_)
      · have h := h.1 c4
        refine j_aload_n C 0 dX11_person_25 rfl ?_
        refine j_get C 0 1 (ly_X11 C.2.2.2.2.2.2.2.1.1) q_636 rfl rfl (by decide) rfl rfl (by decide) rfl dX11_person_26 ?_
        refine j_bipush (v := 18) C dX11_person_29 (by decide) ?_
        refine j_ialoadK (N := 944) C 1 18 (by decide) (show ¬ ((18 : Int32) < 0 ∨ 944 ≤ (18 : Int32).toNatClampNeg) by decide) (by decide) rfl rfl dX11_person_31 ?_
        refine j_bipush (v := 7) C dX11_person_32 (by decide) ?_
        refine j_icmp_ne C 40 dX11_person_34 (by decide) (fun c5 => ?_) (fun c5 => ?_)
        · have h := h.1 c5
          refine j_aload_n C 0 dX11_person_40 rfl ?_
          refine j_get C 0 1 (ly_X11 C.2.2.2.2.2.2.2.1.1) q_636 rfl rfl (by decide) rfl rfl (by decide) rfl dX11_person_41 ?_
          refine j_bipush (v := 18) C dX11_person_44 (by decide) ?_
          refine j_ialoadK (N := 944) C 1 18 (by decide) (show ¬ ((18 : Int32) < 0 ∨ 944 ≤ (18 : Int32).toNatClampNeg) by decide) (by decide) rfl rfl dX11_person_46 ?_
          refine j_nmi (fun y6 ey6 => ?_)
          have h := h y6 ey6
          refine j_istore_n (lv' := [(3, .int y6), (0, .ref (q 0)), (1, .int x1), (2, .int x2)]) C dX11_person_47 (by decide) rfl ?_
          refine j_aload_n C 1 dX11_person_48 rfl ?_
          refine j_get C 0 1 (ly_X11 C.2.2.2.2.2.2.2.1.1) q_636 rfl rfl (by decide) rfl rfl (by decide) rfl dX11_person_49 ?_
          refine j_bipush (v := 24) C dX11_person_52 (by decide) ?_
          refine j_iload_n C 0 dX11_person_54 rfl ?_
          refine j_iadd C dX11_person_55 ?_
          refine j_iload_n C 2 dX11_person_56 rfl ?_
          obtain ⟨hin, h⟩ := h
          refine j_iastoreK (N := 944) C 1 _ rfl hin (by decide) (fun _ => rfl) rfl dX11_person_57 (fun u7 eu7 => ?_)
          have h := h u7 eu7
          refine j_aload_n C 1 dX11_person_58 rfl ?_
          refine j_get C 0 1 (ly_X11 C.2.2.2.2.2.2.2.1.1) q_636 rfl rfl (by decide) rfl rfl (by decide) rfl dX11_person_59 ?_
          refine j_bipush (v := 31) C dX11_person_62 (by decide) ?_
          refine j_iload_n C 0 dX11_person_64 rfl ?_
          refine j_iadd C dX11_person_65 ?_
          refine j_iload_n C 3 dX11_person_66 rfl ?_
          obtain ⟨hin, h⟩ := h
          refine j_iastoreK (N := 944) C 1 _ rfl hin (by decide) (fun _ => rfl) rfl dX11_person_67 (fun u8 eu8 => ?_)
          have h := h u8 eu8
          refine j_aload_n C 1 dX11_person_68 rfl ?_
          refine j_get C 0 1 (ly_X11 C.2.2.2.2.2.2.2.1.1) q_636 rfl rfl (by decide) rfl rfl (by decide) rfl dX11_person_69 ?_
          refine j_bipush (v := 38) C dX11_person_72 (by decide) ?_
          refine j_iload_n C 0 dX11_person_74 rfl ?_
          refine j_iadd C dX11_person_75 ?_
          refine j_iconst (v := 0) C dX11_person_76 (by decide) ?_
          obtain ⟨hin, h⟩ := h
          refine j_iastoreK (N := 944) C 1 _ rfl hin (by decide) (fun _ => rfl) rfl dX11_person_77 (fun u9 eu9 => ?_)
          have h := h u9 eu9
          refine j_aload_n C 1 dX11_person_78 rfl ?_
          refine j_get C 0 1 (ly_X11 C.2.2.2.2.2.2.2.1.1) q_636 rfl rfl (by decide) rfl rfl (by decide) rfl dX11_person_79 ?_
          refine j_bipush (v := 45) C dX11_person_82 (by decide) ?_
          refine j_iload_n C 0 dX11_person_84 rfl ?_
          refine j_iadd C dX11_person_85 ?_
          refine j_iconst (v := 0) C dX11_person_86 (by decide) ?_
          obtain ⟨hin, h⟩ := h
          refine j_iastoreK (N := 944) C 1 _ rfl hin (by decide) (fun _ => rfl) rfl dX11_person_87 (fun u10 eu10 => ?_)
          have h := h u10 eu10
          refine j_aload_n C 1 dX11_person_88 rfl ?_
          refine j_get C 0 1 (ly_X11 C.2.2.2.2.2.2.2.1.1) q_636 rfl rfl (by decide) rfl rfl (by decide) rfl dX11_person_89 ?_
          refine j_iconst (v := 4) C dX11_person_92 (by decide) ?_
          refine j_iload_n C 0 dX11_person_93 rfl ?_
          refine j_iadd C dX11_person_94 ?_
          refine j_iconst (v := 0) C dX11_person_95 (by decide) ?_
          obtain ⟨hin, h⟩ := h
          refine j_iastoreK (N := 944) C 1 _ rfl hin (by decide) (fun _ => rfl) rfl dX11_person_96 (fun u11 eu11 => ?_)
          have h := h u11 eu11
          refine j_aload_n C 1 dX11_person_97 rfl ?_
          refine j_get C 0 1 (ly_X11 C.2.2.2.2.2.2.2.1.1) q_636 rfl rfl (by decide) rfl rfl (by decide) rfl dX11_person_98 ?_
          refine j_bipush (v := 11) C dX11_person_101 (by decide) ?_
          refine j_iload_n C 0 dX11_person_103 rfl ?_
          refine j_iadd C dX11_person_104 ?_
          refine j_iconst (v := 0) C dX11_person_105 (by decide) ?_
          obtain ⟨hin, h⟩ := h
          refine j_iastoreK (N := 944) C 1 _ rfl hin (by decide) (fun _ => rfl) rfl dX11_person_106 (fun u12 eu12 => ?_)
          have h := h u12 eu12
          refine j_aload_n C 1 dX11_person_107 rfl ?_
          refine j_get C 0 1 (ly_X11 C.2.2.2.2.2.2.2.1.1) q_636 rfl rfl (by decide) rfl rfl (by decide) rfl dX11_person_108 ?_
          refine j_bipush (v := 18) C dX11_person_111 (by decide) ?_
          refine j_dup2 C dX11_person_113 rfl rfl ?_
          refine j_ialoadK (N := 944) C 1 18 (by decide) (show ¬ ((18 : Int32) < 0 ∨ 944 ≤ (18 : Int32).toNatClampNeg) by decide) (by decide) rfl rfl dX11_person_114 ?_
          refine j_iconst (v := 1) C dX11_person_115 (by decide) ?_
          refine j_iadd C dX11_person_116 ?_
          refine j_iastoreK (N := 944) C 1 18 (by decide) (show ¬ ((18 : Int32) < 0 ∨ 944 ≤ (18 : Int32).toNatClampNeg) by decide) (by decide) (fun _ => rfl) rfl dX11_person_117 (fun u13 eu13 => ?_)
          have h := h u13 eu13
          refine j_iload_n C 0 dX11_person_118 rfl ?_
          exact j_iret C dX11_person_119 h
        · have h := h.2 c5
          refine j_bipush (v := (-4)) C dX11_person_37 (by decide) ?_
          exact j_iret C dX11_person_39 h
      · have h := h.2 c4
        refine j_bipush (v := (-2)) C dX11_person_22 (by decide) ?_
        exact j_iret C dX11_person_24 h
    · have h := h.2 c2
      refine j_iconst (v := (-1)) C dX11_person_10 (by decide) ?_
      exact j_iret C dX11_person_11 h

def wX11_hasTold (N : Nat) (x1 : Int32) (u : MM) (K : Int32 → MM → Prop) : Prop := ((¬ (((u 1 3) >>> (x1 &&& 31)) &&& 1) = 1 → (K 0 u)) ∧ ((((u 1 3) >>> (x1 &&& 31)) &&& 1) = 1 → (K 1 u)))
set_option maxRecDepth 100000 in
set_option maxHeartbeats 4000000 in
theorem kX_X11_hasTold (l : Launch) (D : va_G) (cI cZ : ClassId) (ad q : Nat → Nat) (N : Nat) {x1 : Int32} {u : MM} {K : Int32 → MM → Prop} (h : wX11_hasTold N x1 u K) : CT l D cI cZ ad 9 q (entM q cI cZ) yX11_hasTold cX11_hasTold 2 (some .boolean) (rr 0 0) [.ref (q 0), .int x1] u (QI D 9 q (entM q cI cZ) K) := by
    refine ct_of (by decide +kernel) (Nat.le_of_ble_eq_true rfl) (fun p e s m args below meth c C => ?_)
    refine j_sub (lv' := [(0, .ref (q 0)), (1, .int x1)]) [0, 1] rfl ?_
    refine j_aload_n C 0 dX11_hasTold_0 rfl ?_
    refine j_get C 0 1 (ly_X11 C.2.2.2.2.2.2.2.1.1) q_636 rfl rfl (by decide) rfl rfl (by decide) rfl dX11_hasTold_1 ?_
    refine j_iconst (v := 3) C dX11_hasTold_4 (by decide) ?_
    refine j_ialoadK (N := 944) C 1 3 (by decide) (show ¬ ((3 : Int32) < 0 ∨ 944 ≤ (3 : Int32).toNatClampNeg) by decide) (by decide) rfl rfl dX11_hasTold_5 ?_
    refine j_iload_n C 1 dX11_hasTold_6 rfl ?_
    refine j_ishr C dX11_hasTold_7 ?_
    refine j_iconst (v := 1) C dX11_hasTold_8 (by decide) ?_
    refine j_iand C dX11_hasTold_9 ?_
    refine j_iconst (v := 1) C dX11_hasTold_10 (by decide) ?_
    refine j_icmp_ne C 18 dX11_hasTold_11 (by decide) (fun c1 => ?_) (fun c1 => ?_)
    · have h := h.1 c1
      refine j_iconst (v := 0) C dX11_hasTold_18 (by decide) ?_
      exact j_zret C dX11_hasTold_19 rfl h
    · have h := h.2 c1
      refine j_iconst (v := 1) C dX11_hasTold_14 (by decide) ?_
      refine j_goto C 19 dX11_hasTold_15 (by decide) ?_
      exact j_zret C dX11_hasTold_19 rfl h

def wX11_mayOf_b63 (N : Nat) (K : Int32 → MM → Prop) (ro4 : Int32 → Int32 → Int32 → MM → Prop) (x1 : Int32) (x2 : Int32) (x3 : Int32) (u : MM) : Prop := (∀ y10 : Int32, y10 = x3 + 1 → (ro4 x1 x2 y10 u))
def wX11_mayOf_b61 (N : Nat) (K : Int32 → MM → Prop) (ro4 : Int32 → Int32 → Int32 → MM → Prop) (x1 : Int32) (x3 : Int32) (s0 : Int32) (s1 : Int32) (u : MM) : Prop := (∀ y9 : Int32, y9 = (s1 ||| s0) → (wX11_mayOf_b63 N K ro4 x1 y9 x3 u))
def wX11_mayOf_b4 (N : Nat) (K : Int32 → MM → Prop) : Nat → Int32 → Int32 → Int32 → MM → Prop
  | 0, _, _, _, _ => False
  | n + 1, x1, x2, x3, u => (((u 1 18) ≤ x3 → (K x2 u)) ∧ (¬ (u 1 18) ≤ x3 → (vp_in ((38 + x1)) 944 ∧ ((¬ (((u 1 (38 + x1).toNatClampNeg) >>> (x3 &&& 31)) &&& 1) = 1 → (wX11_mayOf_b63 N K (wX11_mayOf_b4 N K n) x1 x2 x3 u)) ∧ ((((u 1 (38 + x1).toNatClampNeg) >>> (x3 &&& 31)) &&& 1) = 1 → (wX11_hasHeard N x3 u (fun r3 u4 => ((¬ r3 = 0 → (wX11_mayOf_b63 N K (wX11_mayOf_b4 N K n) x1 x2 x3 u4)) ∧ (r3 = 0 → (wX11_looks N x1 x3 u4 (fun u7 => (((u7 0 12) = 0 → (wX11_mayOf_b61 N K (wX11_mayOf_b4 N K n) x1 x3 ((1 : Int32) <<< (x3 &&& 31)) x2 u7)) ∧ (¬ (u7 0 12) = 0 → (wX11_mayOf_b61 N K (wX11_mayOf_b4 N K n) x1 x3 0 x2 u7))))))))))))))
def wX11_mayOf (N : Nat) (x1 : Int32) (u : MM) (K : Int32 → MM → Prop) : Prop := (wX11_mayOf_b4 N K N x1 0 0 u)
set_option maxRecDepth 100000 in
set_option maxHeartbeats 4000000 in
theorem tX11_mayOf_b63 (l : Launch) (D : va_G) (cI cZ : ClassId) (ad q : Nat → Nat) (N : Nat) {p : Program} {e : Env} {s : State} {m : MethodId} {args : Array Value} {below : List Frame} {meth : Method} {c : Code} {K : Int32 → MM → Prop} (C : CX p s m args meth c cX11_mayOf 4 RX11 (some .int) D cI cZ ad (AJ 9 q s.heap.size)) {ro4 : Int32 → Int32 → Int32 → MM → Prop} (hro4 : ∀ (x1 : Int32) (x2 : Int32) (x3 : Int32) (u : MM), ro4 x1 x2 x3 u → JX p l e (rr 2 52) s m args below meth c D (AJ 9 q s.heap.size) 4 (MQ below ((QI D 9 q (entM q cI cZ) K) (AJ 9 q s.heap.size)) args s 0 0 (AJ 9 q s.heap.size)) 9 q (entM q cI cZ) u 4 [(0, .ref (q 0)), (1, .int x1), (2, .int x2), (3, .int x3)] []) : ∀ (x1 : Int32) (x2 : Int32) (x3 : Int32) (u : MM), wX11_mayOf_b63 N K ro4 x1 x2 x3 u → JX p l e (rr 2 52) s m args below meth c D (AJ 9 q s.heap.size) 4 (MQ below ((QI D 9 q (entM q cI cZ) K) (AJ 9 q s.heap.size)) args s 0 0 (AJ 9 q s.heap.size)) 9 q (entM q cI cZ) u 63 [(0, .ref (q 0)), (1, .int x1), (2, .int x2), (3, .int x3)] [] := by
    intro x1 x2 x3 u h
    obtain ⟨y10, ey10⟩ : ∃ z : Int32, z = x3 + 1 := ⟨_, rfl⟩
    have h := h y10 ey10
    refine j_iinc (v := y10) (lv' := [(3, .int y10), (0, .ref (q 0)), (1, .int x1), (2, .int x2)]) C 3 dX11_mayOf_63 rfl (by rw [ey10]; rfl) (by decide) rfl ?_
    refine j_goto C 4 dX11_mayOf_66 (by decide) ?_
    refine j_sub (lv' := [(0, .ref (q 0)), (1, .int x1), (2, .int x2), (3, .int y10)]) [1, 2, 3, 0] rfl ?_
    exact hro4 _ _ _ _ h
set_option maxRecDepth 100000 in
set_option maxHeartbeats 4000000 in
theorem tX11_mayOf_b61 (l : Launch) (D : va_G) (cI cZ : ClassId) (ad q : Nat → Nat) (N : Nat) {p : Program} {e : Env} {s : State} {m : MethodId} {args : Array Value} {below : List Frame} {meth : Method} {c : Code} {K : Int32 → MM → Prop} (C : CX p s m args meth c cX11_mayOf 4 RX11 (some .int) D cI cZ ad (AJ 9 q s.heap.size)) {ro4 : Int32 → Int32 → Int32 → MM → Prop} (hro4 : ∀ (x1 : Int32) (x2 : Int32) (x3 : Int32) (u : MM), ro4 x1 x2 x3 u → JX p l e (rr 2 52) s m args below meth c D (AJ 9 q s.heap.size) 4 (MQ below ((QI D 9 q (entM q cI cZ) K) (AJ 9 q s.heap.size)) args s 0 0 (AJ 9 q s.heap.size)) 9 q (entM q cI cZ) u 4 [(0, .ref (q 0)), (1, .int x1), (2, .int x2), (3, .int x3)] []) : ∀ (x1 : Int32) (x3 : Int32) (s0 : Int32) (s1 : Int32) (u : MM), wX11_mayOf_b61 N K ro4 x1 x3 s0 s1 u → JX p l e (rr 2 52) s m args below meth c D (AJ 9 q s.heap.size) 4 (MQ below ((QI D 9 q (entM q cI cZ) K) (AJ 9 q s.heap.size)) args s 0 0 (AJ 9 q s.heap.size)) 9 q (entM q cI cZ) u 61 [(0, .ref (q 0)), (1, .int x1), (3, .int x3)] [.int s0, .int s1] := by
    intro x1 x3 s0 s1 u h
    refine j_ior C dX11_mayOf_61 ?_
    refine j_nmi (fun y9 ey9 => ?_)
    have h := h y9 ey9
    refine j_istore_n (lv' := [(2, .int y9), (0, .ref (q 0)), (1, .int x1), (3, .int x3)]) C dX11_mayOf_62 (by decide) rfl ?_
    refine j_sub (lv' := [(0, .ref (q 0)), (1, .int x1), (2, .int y9), (3, .int x3)]) [1, 2, 0, 3] rfl ?_
    exact tX11_mayOf_b63 l D cI cZ ad q N C (hro4) _ _ _ _ h
set_option maxRecDepth 100000 in
set_option maxHeartbeats 4000000 in
theorem tX11_mayOf_b4 (l : Launch) (D : va_G) (cI cZ : ClassId) (ad q : Nat → Nat) (N : Nat) {p : Program} {e : Env} {s : State} {m : MethodId} {args : Array Value} {below : List Frame} {meth : Method} {c : Code} {K : Int32 → MM → Prop} (C : CX p s m args meth c cX11_mayOf 4 RX11 (some .int) D cI cZ ad (AJ 9 q s.heap.size)) : ∀ (n : Nat) (x1 : Int32) (x2 : Int32) (x3 : Int32) (u : MM), wX11_mayOf_b4 N K n x1 x2 x3 u → JX p l e (rr 2 52) s m args below meth c D (AJ 9 q s.heap.size) 4 (MQ below ((QI D 9 q (entM q cI cZ) K) (AJ 9 q s.heap.size)) args s 0 0 (AJ 9 q s.heap.size)) 9 q (entM q cI cZ) u 4 [(0, .ref (q 0)), (1, .int x1), (2, .int x2), (3, .int x3)] [] := by
  intro n
  induction n with
  | zero => intro x1 x2 x3 u h; exact h.elim
  | succ n ih =>
    intro x1 x2 x3 u h
    refine j_iload_n C 3 dX11_mayOf_4 rfl ?_
    refine j_aload_n C 0 dX11_mayOf_5 rfl ?_
    refine j_get C 0 1 (ly_X11 C.2.2.2.2.2.2.2.1.1) q_636 rfl rfl (by decide) rfl rfl (by decide) rfl dX11_mayOf_6 ?_
    refine j_bipush (v := 18) C dX11_mayOf_9 (by decide) ?_
    refine j_ialoadK (N := 944) C 1 18 (by decide) (show ¬ ((18 : Int32) < 0 ∨ 944 ≤ (18 : Int32).toNatClampNeg) by decide) (by decide) rfl rfl dX11_mayOf_11 ?_
    refine j_icmp_ge C 69 dX11_mayOf_12 (by decide) (fun c1 => ?_) (fun c1 => ?_)
    · have h := h.1 c1
      refine j_iload_n C 2 dX11_mayOf_69 rfl ?_
      exact j_iret C dX11_mayOf_70 h
    · have h := h.2 c1
      refine j_aload_n C 0 dX11_mayOf_15 rfl ?_
      refine j_get C 0 1 (ly_X11 C.2.2.2.2.2.2.2.1.1) q_636 rfl rfl (by decide) rfl rfl (by decide) rfl dX11_mayOf_16 ?_
      refine j_bipush (v := 38) C dX11_mayOf_19 (by decide) ?_
      refine j_iload_n C 1 dX11_mayOf_21 rfl ?_
      refine j_iadd C dX11_mayOf_22 ?_
      obtain ⟨hin, h⟩ := h
      refine j_ialoadK (N := 944) C 1 _ rfl hin (by decide) rfl rfl dX11_mayOf_23 ?_
      refine j_iload_n C 3 dX11_mayOf_24 rfl ?_
      refine j_ishr C dX11_mayOf_25 ?_
      refine j_iconst (v := 1) C dX11_mayOf_26 (by decide) ?_
      refine j_iand C dX11_mayOf_27 ?_
      refine j_iconst (v := 1) C dX11_mayOf_28 (by decide) ?_
      refine j_icmp_ne C 63 dX11_mayOf_29 (by decide) (fun c2 => ?_) (fun c2 => ?_)
      · have h := h.1 c2
        exact tX11_mayOf_b63 l D cI cZ ad q N C ih _ _ _ _ h
      · have h := h.2 c2
        refine j_aload_n C 0 dX11_mayOf_32 rfl ?_
        refine j_iload_n C 3 dX11_mayOf_33 rfl ?_
        refine j_wi C (fun H locs ls hP hD hS hl => run_V (Cn := "") (As := [.int x3]) (st := []) C mf_X11_hasHeard 0 (kX_X11_hasHeard l D cI cZ ad q N h) q_723 (by decide) rfl rfl rfl rfl ⟨rfl, rfl, by decide, by decide⟩ (Nat.le_of_ble_eq_true rfl) dX11_mayOf_34 hP hD hS hl) (fun r3 u4 h => ?_)
        refine j_if_ne C 63 dX11_mayOf_37 (by decide) (fun c5 => ?_) (fun c5 => ?_)
        · have h := h.1 c5
          exact tX11_mayOf_b63 l D cI cZ ad q N C ih _ _ _ _ h
        · have h := h.2 c5
          refine j_aload_n C 0 dX11_mayOf_40 rfl ?_
          refine j_iload_n C 1 dX11_mayOf_41 rfl ?_
          refine j_iload_n C 3 dX11_mayOf_42 rfl ?_
          refine j_wv C (fun H locs ls hP hD hS hl => run_V (Cn := "") (As := [.int x1, .int x3]) (st := []) C mf_X11_looks 0 (kX_X11_looks l D cI cZ ad q N h) q_732 (by decide) rfl rfl rfl rfl ⟨rfl, rfl, by decide, by decide⟩ (Nat.le_of_ble_eq_true rfl) dX11_mayOf_43 hP hD hS hl) (fun u7 h => ?_)
          refine j_iload_n C 2 dX11_mayOf_46 rfl ?_
          refine j_aload_n C 0 dX11_mayOf_47 rfl ?_
          refine j_get C 0 12 (ly_X11 C.2.2.2.2.2.2.2.1.1) q_647 rfl rfl (by decide) rfl rfl (by decide) rfl dX11_mayOf_48 ?_
          refine j_if_eq C 58 dX11_mayOf_51 (by decide) (fun c8 => ?_) (fun c8 => ?_)
          · have h := h.1 c8
            refine j_iconst (v := 1) C dX11_mayOf_58 (by decide) ?_
            refine j_iload_n C 3 dX11_mayOf_59 rfl ?_
            refine j_ishl C dX11_mayOf_60 ?_
            refine j_sub (lv' := [(0, .ref (q 0)), (1, .int x1), (3, .int x3)]) [0, 1, 3] rfl ?_
            exact tX11_mayOf_b61 l D cI cZ ad q N C ih _ _ _ _ _ h
          · have h := h.2 c8
            refine j_iconst (v := 0) C dX11_mayOf_54 (by decide) ?_
            refine j_goto C 61 dX11_mayOf_55 (by decide) ?_
            refine j_sub (lv' := [(0, .ref (q 0)), (1, .int x1), (3, .int x3)]) [0, 1, 3] rfl ?_
            exact tX11_mayOf_b61 l D cI cZ ad q N C ih _ _ _ _ _ h
set_option maxRecDepth 100000 in
set_option maxHeartbeats 4000000 in
theorem kX_X11_mayOf (l : Launch) (D : va_G) (cI cZ : ClassId) (ad q : Nat → Nat) (N : Nat) {x1 : Int32} {u : MM} {K : Int32 → MM → Prop} (h : wX11_mayOf N x1 u K) : CT l D cI cZ ad 9 q (entM q cI cZ) yX11_mayOf cX11_mayOf 4 (some .int) (rr 2 52) [.ref (q 0), .int x1] u (QI D 9 q (entM q cI cZ) K) := by
    refine ct_of (by decide +kernel) (Nat.le_of_ble_eq_true rfl) (fun p e s m args below meth c C => ?_)
    refine j_sub (lv' := [(0, .ref (q 0)), (1, .int x1)]) [0, 1] rfl ?_
    refine j_iconst (v := 0) C dX11_mayOf_0 (by decide) ?_
    refine j_istore_n (lv' := [(2, .int 0), (0, .ref (q 0)), (1, .int x1)]) C dX11_mayOf_1 (by decide) rfl ?_
    refine j_iconst (v := 0) C dX11_mayOf_2 (by decide) ?_
    refine j_istore_n (lv' := [(3, .int 0), (2, .int 0), (0, .ref (q 0)), (1, .int x1)]) C dX11_mayOf_3 (by decide) rfl ?_
    refine j_sub (lv' := [(0, .ref (q 0)), (1, .int x1), (2, .int 0), (3, .int 0)]) [2, 3, 1, 0] rfl ?_
    exact tX11_mayOf_b4 l D cI cZ ad q N C N _ _ _ _ h

def wX11_askedOf_b49 (N : Nat) (K : Int32 → MM → Prop) (x2 : Int32) (x3 : Int32) (s0 : Int32) (u : MM) : Prop := ((s0 = 0 → ((¬ x3 = 4 → (K (x2 + 0) u)) ∧ (x3 = 4 → (K (x2 + 1) u)))) ∧ (¬ s0 = 0 → (K 0 u)))
def wX11_askedOf_b48 (N : Nat) (K : Int32 → MM → Prop) (x2 : Int32) (x3 : Int32) (u : MM) : Prop := (wX11_askedOf_b49 N K x2 x3 0 u)
def wX11_askedOf_b29 (N : Nat) (K : Int32 → MM → Prop) (x1 : Int32) (x2 : Int32) (x3 : Int32) (u : MM) : Prop := (vp_in ((31 + x1)) 944 ∧ ((((u 1 (31 + x1).toNatClampNeg) - (u 1 (31 + x1).toNatClampNeg) / 3 * 3) < x2 → (wX11_askedOf_b48 N K x2 x3 u)) ∧ (¬ ((u 1 (31 + x1).toNatClampNeg) - (u 1 (31 + x1).toNatClampNeg) / 3 * 3) < x2 → (wX11_askedOf_b49 N K x2 x3 1 u))))
def wX11_askedOf (N : Nat) (x1 : Int32) (u : MM) (K : Int32 → MM → Prop) : Prop := (vp_in ((4 + x1)) 944 ∧ (∀ y1 : Int32, y1 = (u 1 (4 + x1).toNatClampNeg) → (vp_in ((24 + x1)) 944 ∧ (∀ y2 : Int32, y2 = (u 1 (24 + x1).toNatClampNeg) → ((y2 = 2 → (wX11_askedOf_b29 N K x1 y1 y2 u)) ∧ (¬ y2 = 2 → ((¬ y2 = 5 → (wX11_askedOf_b48 N K y1 y2 u)) ∧ (y2 = 5 → (wX11_askedOf_b29 N K x1 y1 y2 u)))))))))
set_option maxRecDepth 100000 in
set_option maxHeartbeats 4000000 in
theorem tX11_askedOf_b49 (l : Launch) (D : va_G) (cI cZ : ClassId) (ad q : Nat → Nat) (N : Nat) {p : Program} {e : Env} {s : State} {m : MethodId} {args : Array Value} {below : List Frame} {meth : Method} {c : Code} {K : Int32 → MM → Prop} (C : CX p s m args meth c cX11_askedOf 5 RX11 (some .int) D cI cZ ad (AJ 9 q s.heap.size)) : ∀ (x2 : Int32) (x3 : Int32) (s0 : Int32) (u : MM), wX11_askedOf_b49 N K x2 x3 s0 u → JX p l e (rr 0 0) s m args below meth c D (AJ 9 q s.heap.size) 5 (MQ below ((QI D 9 q (entM q cI cZ) K) (AJ 9 q s.heap.size)) args s 0 0 (AJ 9 q s.heap.size)) 9 q (entM q cI cZ) u 49 [(2, .int x2), (3, .int x3)] [.int s0] := by
    intro x2 x3 s0 u h
    refine j_istore (lv' := [(4, .int s0), (2, .int x2), (3, .int x3)]) C dX11_askedOf_49 (by decide) rfl ?_
    refine j_iload C 0 dX11_askedOf_51 rfl ?_
    refine j_if_eq C 60 dX11_askedOf_53 (by decide) (fun c5 => ?_) (fun c5 => ?_)
    · have h := h.1 c5
      refine j_iload_n C 1 dX11_askedOf_60 rfl ?_
      refine j_iload_n C 2 dX11_askedOf_61 rfl ?_
      refine j_iconst (v := 4) C dX11_askedOf_62 (by decide) ?_
      refine j_icmp_ne C 70 dX11_askedOf_63 (by decide) (fun c6 => ?_) (fun c6 => ?_)
      · have h := h.1 c6
        refine j_iconst (v := 0) C dX11_askedOf_70 (by decide) ?_
        refine j_iadd C dX11_askedOf_71 ?_
        exact j_iret C dX11_askedOf_72 h
      · have h := h.2 c6
        refine j_iconst (v := 1) C dX11_askedOf_66 (by decide) ?_
        refine j_goto C 71 dX11_askedOf_67 (by decide) ?_
        refine j_iadd C dX11_askedOf_71 ?_
        exact j_iret C dX11_askedOf_72 h
    · have h := h.2 c5
      refine j_iconst (v := 0) C dX11_askedOf_56 (by decide) ?_
      refine j_goto C 72 dX11_askedOf_57 (by decide) ?_
      exact j_iret C dX11_askedOf_72 h
set_option maxRecDepth 100000 in
set_option maxHeartbeats 4000000 in
theorem tX11_askedOf_b48 (l : Launch) (D : va_G) (cI cZ : ClassId) (ad q : Nat → Nat) (N : Nat) {p : Program} {e : Env} {s : State} {m : MethodId} {args : Array Value} {below : List Frame} {meth : Method} {c : Code} {K : Int32 → MM → Prop} (C : CX p s m args meth c cX11_askedOf 5 RX11 (some .int) D cI cZ ad (AJ 9 q s.heap.size)) : ∀ (x2 : Int32) (x3 : Int32) (u : MM), wX11_askedOf_b48 N K x2 x3 u → JX p l e (rr 0 0) s m args below meth c D (AJ 9 q s.heap.size) 5 (MQ below ((QI D 9 q (entM q cI cZ) K) (AJ 9 q s.heap.size)) args s 0 0 (AJ 9 q s.heap.size)) 9 q (entM q cI cZ) u 48 [(2, .int x2), (3, .int x3)] [] := by
    intro x2 x3 u h
    refine j_iconst (v := 0) C dX11_askedOf_48 (by decide) ?_
    exact tX11_askedOf_b49 l D cI cZ ad q N C _ _ _ _ h
set_option maxRecDepth 100000 in
set_option maxHeartbeats 4000000 in
theorem tX11_askedOf_b29 (l : Launch) (D : va_G) (cI cZ : ClassId) (ad q : Nat → Nat) (N : Nat) {p : Program} {e : Env} {s : State} {m : MethodId} {args : Array Value} {below : List Frame} {meth : Method} {c : Code} {K : Int32 → MM → Prop} (C : CX p s m args meth c cX11_askedOf 5 RX11 (some .int) D cI cZ ad (AJ 9 q s.heap.size)) : ∀ (x1 : Int32) (x2 : Int32) (x3 : Int32) (u : MM), wX11_askedOf_b29 N K x1 x2 x3 u → JX p l e (rr 0 0) s m args below meth c D (AJ 9 q s.heap.size) 5 (MQ below ((QI D 9 q (entM q cI cZ) K) (AJ 9 q s.heap.size)) args s 0 0 (AJ 9 q s.heap.size)) 9 q (entM q cI cZ) u 29 [(0, .ref (q 0)), (1, .int x1), (2, .int x2), (3, .int x3)] [] := by
    intro x1 x2 x3 u h
    refine j_iload_n C 2 dX11_askedOf_29 rfl ?_
    refine j_aload_n C 0 dX11_askedOf_30 rfl ?_
    refine j_get C 0 1 (ly_X11 C.2.2.2.2.2.2.2.1.1) q_636 rfl rfl (by decide) rfl rfl (by decide) rfl dX11_askedOf_31 ?_
    refine j_bipush (v := 31) C dX11_askedOf_34 (by decide) ?_
    refine j_iload_n C 1 dX11_askedOf_36 rfl ?_
    refine j_iadd C dX11_askedOf_37 ?_
    obtain ⟨hin, h⟩ := h
    refine j_ialoadK (N := 944) C 1 _ rfl hin (by decide) rfl rfl dX11_askedOf_38 ?_
    refine j_iconst (v := 3) C dX11_askedOf_39 (by decide) ?_
    refine j_irem C dX11_askedOf_40 (by decide) ?_
    refine j_icmp_gt C 48 dX11_askedOf_41 (by decide) (fun c7 => ?_) (fun c7 => ?_)
    · have h := h.1 c7
      refine j_sub (lv' := [(2, .int x2), (3, .int x3)]) [2, 3] rfl ?_
      exact tX11_askedOf_b48 l D cI cZ ad q N C _ _ _ h
    · have h := h.2 c7
      refine j_iconst (v := 1) C dX11_askedOf_44 (by decide) ?_
      refine j_goto C 49 dX11_askedOf_45 (by decide) ?_
      refine j_sub (lv' := [(2, .int x2), (3, .int x3)]) [2, 3] rfl ?_
      exact tX11_askedOf_b49 l D cI cZ ad q N C _ _ _ _ h
set_option maxRecDepth 100000 in
set_option maxHeartbeats 4000000 in
theorem kX_X11_askedOf (l : Launch) (D : va_G) (cI cZ : ClassId) (ad q : Nat → Nat) (N : Nat) {x1 : Int32} {u : MM} {K : Int32 → MM → Prop} (h : wX11_askedOf N x1 u K) : CT l D cI cZ ad 9 q (entM q cI cZ) yX11_askedOf cX11_askedOf 5 (some .int) (rr 0 0) [.ref (q 0), .int x1] u (QI D 9 q (entM q cI cZ) K) := by
    refine ct_of (by decide +kernel) (Nat.le_of_ble_eq_true rfl) (fun p e s m args below meth c C => ?_)
    refine j_sub (lv' := [(0, .ref (q 0)), (1, .int x1)]) [0, 1] rfl ?_
    refine j_aload_n C 0 dX11_askedOf_0 rfl ?_
    refine j_get C 0 1 (ly_X11 C.2.2.2.2.2.2.2.1.1) q_636 rfl rfl (by decide) rfl rfl (by decide) rfl dX11_askedOf_1 ?_
    refine j_iconst (v := 4) C dX11_askedOf_4 (by decide) ?_
    refine j_iload_n C 1 dX11_askedOf_5 rfl ?_
    refine j_iadd C dX11_askedOf_6 ?_
    obtain ⟨hin, h⟩ := h
    refine j_ialoadK (N := 944) C 1 _ rfl hin (by decide) rfl rfl dX11_askedOf_7 ?_
    refine j_nmi (fun y1 ey1 => ?_)
    have h := h y1 ey1
    refine j_istore_n (lv' := [(2, .int y1), (0, .ref (q 0)), (1, .int x1)]) C dX11_askedOf_8 (by decide) rfl ?_
    refine j_aload_n C 1 dX11_askedOf_9 rfl ?_
    refine j_get C 0 1 (ly_X11 C.2.2.2.2.2.2.2.1.1) q_636 rfl rfl (by decide) rfl rfl (by decide) rfl dX11_askedOf_10 ?_
    refine j_bipush (v := 24) C dX11_askedOf_13 (by decide) ?_
    refine j_iload_n C 2 dX11_askedOf_15 rfl ?_
    refine j_iadd C dX11_askedOf_16 ?_
    obtain ⟨hin, h⟩ := h
    refine j_ialoadK (N := 944) C 1 _ rfl hin (by decide) rfl rfl dX11_askedOf_17 ?_
    refine j_nmi (fun y2 ey2 => ?_)
    have h := h y2 ey2
    refine j_istore_n (lv' := [(3, .int y2), (2, .int y1), (0, .ref (q 0)), (1, .int x1)]) C dX11_askedOf_18 (by decide) rfl ?_
    refine j_iload_n C 0 dX11_askedOf_19 rfl ?_
    refine j_iconst (v := 2) C dX11_askedOf_20 (by decide) ?_
    refine j_icmp_eq C 29 dX11_askedOf_21 (by decide) (fun c3 => ?_) (fun c3 => ?_)
    · have h := h.1 c3
      refine j_sub (lv' := [(0, .ref (q 0)), (1, .int x1), (2, .int y1), (3, .int y2)]) [2, 3, 1, 0] rfl ?_
      exact tX11_askedOf_b29 l D cI cZ ad q N C _ _ _ _ h
    · have h := h.2 c3
      refine j_iload_n C 0 dX11_askedOf_24 rfl ?_
      refine j_iconst (v := 5) C dX11_askedOf_25 (by decide) ?_
      refine j_icmp_ne C 48 dX11_askedOf_26 (by decide) (fun c4 => ?_) (fun c4 => ?_)
      · have h := h.1 c4
        refine j_sub (lv' := [(2, .int y1), (3, .int y2)]) [1, 0] rfl ?_
        exact tX11_askedOf_b48 l D cI cZ ad q N C _ _ _ h
      · have h := h.2 c4
        refine j_sub (lv' := [(0, .ref (q 0)), (1, .int x1), (2, .int y1), (3, .int y2)]) [2, 3, 1, 0] rfl ?_
        exact tX11_askedOf_b29 l D cI cZ ad q N C _ _ _ _ h

def wX11_firstOf_b181 (N : Nat) (K : Int32 → MM → Prop) (ro78 : Int32 → Int32 → Int32 → Int32 → MM → Prop) (x2 : Int32) (x3 : Int32) (x5 : Int32) (s0 : Int32) (u : MM) : Prop := (∀ y13 : Int32, y13 = x5 + 1 → (ro78 x2 x3 s0 y13 u))
def wX11_firstOf_b179 (N : Nat) (K : Int32 → MM → Prop) (ro78 : Int32 → Int32 → Int32 → Int32 → MM → Prop) (x2 : Int32) (x3 : Int32) (x4 : Int32) (x5 : Int32) (u : MM) : Prop := (wX11_firstOf_b181 N K ro78 x2 x3 x5 x4 u)
def wX11_firstOf_b174 (N : Nat) (K : Int32 → MM → Prop) (ro78 : Int32 → Int32 → Int32 → Int32 → MM → Prop) (x2 : Int32) (x3 : Int32) (x5 : Int32) (u : MM) : Prop := (wX11_firstOf_b181 N K ro78 x2 x3 x5 x5 u)
def wX11_firstOf_b151 (N : Nat) (K : Int32 → MM → Prop) (ro78 : Int32 → Int32 → Int32 → Int32 → MM → Prop) (x2 : Int32) (x3 : Int32) (x4 : Int32) (x5 : Int32) (s0 : Int32) (u : MM) : Prop := ((¬ ((x2 >>> (x5 &&& 31)) &&& 1) = 1 → (wX11_firstOf_b179 N K ro78 x2 x3 x4 x5 u)) ∧ (((x2 >>> (x5 &&& 31)) &&& 1) = 1 → ((x4 = (-1) → (wX11_firstOf_b174 N K ro78 x2 x3 x5 u)) ∧ (¬ x4 = (-1) → ((s0 = 0 → (wX11_firstOf_b179 N K ro78 x2 x3 x4 x5 u)) ∧ (¬ s0 = 0 → (wX11_firstOf_b174 N K ro78 x2 x3 x5 u)))))))
def wX11_firstOf_b150 (N : Nat) (K : Int32 → MM → Prop) (ro78 : Int32 → Int32 → Int32 → Int32 → MM → Prop) (x2 : Int32) (x3 : Int32) (x4 : Int32) (x5 : Int32) (u : MM) : Prop := (wX11_firstOf_b151 N K ro78 x2 x3 x4 x5 0 u)
def wX11_firstOf_b146 (N : Nat) (K : Int32 → MM → Prop) (ro78 : Int32 → Int32 → Int32 → Int32 → MM → Prop) (x2 : Int32) (x3 : Int32) (x4 : Int32) (x5 : Int32) (u : MM) : Prop := (wX11_firstOf_b151 N K ro78 x2 x3 x4 x5 1 u)
def wX11_firstOf_b111 (N : Nat) (K : Int32 → MM → Prop) (ro78 : Int32 → Int32 → Int32 → Int32 → MM → Prop) (x2 : Int32) (x3 : Int32) (x4 : Int32) (x5 : Int32) (u : MM) : Prop := ((x4 = (-1) → (wX11_firstOf_b150 N K ro78 x2 x3 x4 x5 u)) ∧ (¬ x4 = (-1) → (vp_in ((38 + x5)) 944 ∧ (wX11_count1 N (u 1 (38 + x5).toNatClampNeg) (fun r15 => (vp_in ((38 + x4)) 944 ∧ (wX11_count1 N (u 1 (38 + x4).toNatClampNeg) (fun r16 => ((r15 ≤ r16 → (wX11_firstOf_b150 N K ro78 x2 x3 x4 x5 u)) ∧ (¬ r15 ≤ r16 → (wX11_firstOf_b146 N K ro78 x2 x3 x4 x5 u)))))))))))
def wX11_firstOf_b78 (N : Nat) (K : Int32 → MM → Prop) : Nat → Int32 → Int32 → Int32 → Int32 → MM → Prop
  | 0, _, _, _, _, _ => False
  | n + 1, x2, x3, x4, x5, u => (((u 1 18) ≤ x5 → (K x4 u)) ∧ (¬ (u 1 18) ≤ x5 → ((x3 = 3 → (wX11_firstOf_b146 N K (wX11_firstOf_b78 N K n) x2 x3 x4 x5 u)) ∧ (¬ x3 = 3 → ((x3 = 6 → (wX11_firstOf_b146 N K (wX11_firstOf_b78 N K n) x2 x3 x4 x5 u)) ∧ (¬ x3 = 6 → ((x3 = 1 → (wX11_firstOf_b111 N K (wX11_firstOf_b78 N K n) x2 x3 x4 x5 u)) ∧ (¬ x3 = 1 → ((¬ x3 = 4 → (wX11_firstOf_b150 N K (wX11_firstOf_b78 N K n) x2 x3 x4 x5 u)) ∧ (x3 = 4 → (wX11_firstOf_b111 N K (wX11_firstOf_b78 N K n) x2 x3 x4 x5 u)))))))))))
def wX11_firstOf_b13 (N : Nat) (K : Int32 → MM → Prop) : Nat → Int32 → Int32 → Int32 → Int32 → MM → Prop
  | 0, _, _, _, _, _ => False
  | n + 1, x1, x2, x3, x4, u => (vp_in ((45 + x1)) 944 ∧ (((u 1 (45 + x1).toNatClampNeg) ≤ x4 → (wX11_firstOf_b78 N K N x2 x3 (-1) 0 u)) ∧ (¬ (u 1 (45 + x1).toNatClampNeg) ≤ x4 → (vp_in (((52 + (7 * x1)) + x4)) 944 ∧ ((¬ ((x2 >>> ((u 1 ((52 + (7 * x1)) + x4).toNatClampNeg) &&& 31)) &&& 1) = 1 → (∀ y4 : Int32, y4 = x4 + 1 → (wX11_firstOf_b13 N K n x1 x2 x3 y4 u))) ∧ (((x2 >>> ((u 1 ((52 + (7 * x1)) + x4).toNatClampNeg) &&& 31)) &&& 1) = 1 → (vp_in (((52 + (7 * x1)) + x4)) 944 ∧ (K (u 1 ((52 + (7 * x1)) + x4).toNatClampNeg) u))))))))
def wX11_firstOf (N : Nat) (x1 : Int32) (x2 : Int32) (u : MM) (K : Int32 → MM → Prop) : Prop := (vp_in ((24 + x1)) 944 ∧ (∀ y1 : Int32, y1 = (u 1 (24 + x1).toNatClampNeg) → (wX11_firstOf_b13 N K N x1 x2 y1 0 u)))
set_option maxRecDepth 100000 in
set_option maxHeartbeats 4000000 in
theorem tX11_firstOf_b181 (l : Launch) (D : va_G) (cI cZ : ClassId) (ad q : Nat → Nat) (N : Nat) {p : Program} {e : Env} {s : State} {m : MethodId} {args : Array Value} {below : List Frame} {meth : Method} {c : Code} {K : Int32 → MM → Prop} (C : CX p s m args meth c cX11_firstOf 7 RX11 (some .int) D cI cZ ad (AJ 9 q s.heap.size)) {ro78 : Int32 → Int32 → Int32 → Int32 → MM → Prop} (hro78 : ∀ (x2 : Int32) (x3 : Int32) (x4 : Int32) (x5 : Int32) (u : MM), ro78 x2 x3 x4 x5 u → JX p l e (rr 1 22) s m args below meth c D (AJ 9 q s.heap.size) 7 (MQ below ((QI D 9 q (entM q cI cZ) K) (AJ 9 q s.heap.size)) args s 0 0 (AJ 9 q s.heap.size)) 9 q (entM q cI cZ) u 78 [(0, .ref (q 0)), (2, .int x2), (3, .int x3), (4, .int x4), (5, .int x5)] []) : ∀ (x2 : Int32) (x3 : Int32) (x5 : Int32) (s0 : Int32) (u : MM), wX11_firstOf_b181 N K ro78 x2 x3 x5 s0 u → JX p l e (rr 1 22) s m args below meth c D (AJ 9 q s.heap.size) 7 (MQ below ((QI D 9 q (entM q cI cZ) K) (AJ 9 q s.heap.size)) args s 0 0 (AJ 9 q s.heap.size)) 9 q (entM q cI cZ) u 181 [(0, .ref (q 0)), (2, .int x2), (3, .int x3), (5, .int x5)] [.int s0] := by
    intro x2 x3 x5 s0 u h
    refine j_istore (lv' := [(4, .int s0), (0, .ref (q 0)), (2, .int x2), (3, .int x3), (5, .int x5)]) C dX11_firstOf_181 (by decide) rfl ?_
    obtain ⟨y13, ey13⟩ : ∃ z : Int32, z = x5 + 1 := ⟨_, rfl⟩
    have h := h y13 ey13
    refine j_iinc (v := y13) (lv' := [(5, .int y13), (4, .int s0), (0, .ref (q 0)), (2, .int x2), (3, .int x3)]) C 4 dX11_firstOf_183 rfl (by rw [ey13]; rfl) (by decide) rfl ?_
    refine j_goto C 78 dX11_firstOf_186 (by decide) ?_
    refine j_sub (lv' := [(0, .ref (q 0)), (2, .int x2), (3, .int x3), (4, .int s0), (5, .int y13)]) [2, 3, 4, 1, 0] rfl ?_
    exact hro78 _ _ _ _ _ h
set_option maxRecDepth 100000 in
set_option maxHeartbeats 4000000 in
theorem tX11_firstOf_b179 (l : Launch) (D : va_G) (cI cZ : ClassId) (ad q : Nat → Nat) (N : Nat) {p : Program} {e : Env} {s : State} {m : MethodId} {args : Array Value} {below : List Frame} {meth : Method} {c : Code} {K : Int32 → MM → Prop} (C : CX p s m args meth c cX11_firstOf 7 RX11 (some .int) D cI cZ ad (AJ 9 q s.heap.size)) {ro78 : Int32 → Int32 → Int32 → Int32 → MM → Prop} (hro78 : ∀ (x2 : Int32) (x3 : Int32) (x4 : Int32) (x5 : Int32) (u : MM), ro78 x2 x3 x4 x5 u → JX p l e (rr 1 22) s m args below meth c D (AJ 9 q s.heap.size) 7 (MQ below ((QI D 9 q (entM q cI cZ) K) (AJ 9 q s.heap.size)) args s 0 0 (AJ 9 q s.heap.size)) 9 q (entM q cI cZ) u 78 [(0, .ref (q 0)), (2, .int x2), (3, .int x3), (4, .int x4), (5, .int x5)] []) : ∀ (x2 : Int32) (x3 : Int32) (x4 : Int32) (x5 : Int32) (u : MM), wX11_firstOf_b179 N K ro78 x2 x3 x4 x5 u → JX p l e (rr 1 22) s m args below meth c D (AJ 9 q s.heap.size) 7 (MQ below ((QI D 9 q (entM q cI cZ) K) (AJ 9 q s.heap.size)) args s 0 0 (AJ 9 q s.heap.size)) 9 q (entM q cI cZ) u 179 [(0, .ref (q 0)), (2, .int x2), (3, .int x3), (4, .int x4), (5, .int x5)] [] := by
    intro x2 x3 x4 x5 u h
    refine j_iload C 3 dX11_firstOf_179 rfl ?_
    refine j_sub (lv' := [(0, .ref (q 0)), (2, .int x2), (3, .int x3), (5, .int x5)]) [0, 1, 2, 4] rfl ?_
    exact tX11_firstOf_b181 l D cI cZ ad q N C (hro78) _ _ _ _ _ h
set_option maxRecDepth 100000 in
set_option maxHeartbeats 4000000 in
theorem tX11_firstOf_b174 (l : Launch) (D : va_G) (cI cZ : ClassId) (ad q : Nat → Nat) (N : Nat) {p : Program} {e : Env} {s : State} {m : MethodId} {args : Array Value} {below : List Frame} {meth : Method} {c : Code} {K : Int32 → MM → Prop} (C : CX p s m args meth c cX11_firstOf 7 RX11 (some .int) D cI cZ ad (AJ 9 q s.heap.size)) {ro78 : Int32 → Int32 → Int32 → Int32 → MM → Prop} (hro78 : ∀ (x2 : Int32) (x3 : Int32) (x4 : Int32) (x5 : Int32) (u : MM), ro78 x2 x3 x4 x5 u → JX p l e (rr 1 22) s m args below meth c D (AJ 9 q s.heap.size) 7 (MQ below ((QI D 9 q (entM q cI cZ) K) (AJ 9 q s.heap.size)) args s 0 0 (AJ 9 q s.heap.size)) 9 q (entM q cI cZ) u 78 [(0, .ref (q 0)), (2, .int x2), (3, .int x3), (4, .int x4), (5, .int x5)] []) : ∀ (x2 : Int32) (x3 : Int32) (x5 : Int32) (u : MM), wX11_firstOf_b174 N K ro78 x2 x3 x5 u → JX p l e (rr 1 22) s m args below meth c D (AJ 9 q s.heap.size) 7 (MQ below ((QI D 9 q (entM q cI cZ) K) (AJ 9 q s.heap.size)) args s 0 0 (AJ 9 q s.heap.size)) 9 q (entM q cI cZ) u 174 [(0, .ref (q 0)), (2, .int x2), (3, .int x3), (5, .int x5)] [] := by
    intro x2 x3 x5 u h
    refine j_iload C 3 dX11_firstOf_174 rfl ?_
    refine j_goto C 181 dX11_firstOf_176 (by decide) ?_
    exact tX11_firstOf_b181 l D cI cZ ad q N C (hro78) _ _ _ _ _ h
set_option maxRecDepth 100000 in
set_option maxHeartbeats 4000000 in
theorem tX11_firstOf_b151 (l : Launch) (D : va_G) (cI cZ : ClassId) (ad q : Nat → Nat) (N : Nat) {p : Program} {e : Env} {s : State} {m : MethodId} {args : Array Value} {below : List Frame} {meth : Method} {c : Code} {K : Int32 → MM → Prop} (C : CX p s m args meth c cX11_firstOf 7 RX11 (some .int) D cI cZ ad (AJ 9 q s.heap.size)) {ro78 : Int32 → Int32 → Int32 → Int32 → MM → Prop} (hro78 : ∀ (x2 : Int32) (x3 : Int32) (x4 : Int32) (x5 : Int32) (u : MM), ro78 x2 x3 x4 x5 u → JX p l e (rr 1 22) s m args below meth c D (AJ 9 q s.heap.size) 7 (MQ below ((QI D 9 q (entM q cI cZ) K) (AJ 9 q s.heap.size)) args s 0 0 (AJ 9 q s.heap.size)) 9 q (entM q cI cZ) u 78 [(0, .ref (q 0)), (2, .int x2), (3, .int x3), (4, .int x4), (5, .int x5)] []) : ∀ (x2 : Int32) (x3 : Int32) (x4 : Int32) (x5 : Int32) (s0 : Int32) (u : MM), wX11_firstOf_b151 N K ro78 x2 x3 x4 x5 s0 u → JX p l e (rr 1 22) s m args below meth c D (AJ 9 q s.heap.size) 7 (MQ below ((QI D 9 q (entM q cI cZ) K) (AJ 9 q s.heap.size)) args s 0 0 (AJ 9 q s.heap.size)) 9 q (entM q cI cZ) u 151 [(0, .ref (q 0)), (2, .int x2), (3, .int x3), (4, .int x4), (5, .int x5)] [.int s0] := by
    intro x2 x3 x4 x5 s0 u h
    refine j_istore (lv' := [(6, .int s0), (0, .ref (q 0)), (2, .int x2), (3, .int x3), (4, .int x4), (5, .int x5)]) C dX11_firstOf_151 (by decide) rfl ?_
    refine j_iload_n C 2 dX11_firstOf_153 rfl ?_
    refine j_iload C 5 dX11_firstOf_154 rfl ?_
    refine j_ishr C dX11_firstOf_156 ?_
    refine j_iconst (v := 1) C dX11_firstOf_157 (by decide) ?_
    refine j_iand C dX11_firstOf_158 ?_
    refine j_iconst (v := 1) C dX11_firstOf_159 (by decide) ?_
    refine j_icmp_ne C 179 dX11_firstOf_160 (by decide) (fun c10 => ?_) (fun c10 => ?_)
    · have h := h.1 c10
      refine j_sub (lv' := [(0, .ref (q 0)), (2, .int x2), (3, .int x3), (4, .int x4), (5, .int x5)]) [1, 2, 3, 4, 5] rfl ?_
      exact tX11_firstOf_b179 l D cI cZ ad q N C (hro78) _ _ _ _ _ h
    · have h := h.2 c10
      refine j_iload C 4 dX11_firstOf_163 rfl ?_
      refine j_iconst (v := (-1)) C dX11_firstOf_165 (by decide) ?_
      refine j_icmp_eq C 174 dX11_firstOf_166 (by decide) (fun c11 => ?_) (fun c11 => ?_)
      · have h := h.1 c11
        refine j_sub (lv' := [(0, .ref (q 0)), (2, .int x2), (3, .int x3), (5, .int x5)]) [1, 2, 3, 5] rfl ?_
        exact tX11_firstOf_b174 l D cI cZ ad q N C (hro78) _ _ _ _ h
      · have h := h.2 c11
        refine j_iload C 0 dX11_firstOf_169 rfl ?_
        refine j_if_eq C 179 dX11_firstOf_171 (by decide) (fun c12 => ?_) (fun c12 => ?_)
        · have h := h.1 c12
          refine j_sub (lv' := [(0, .ref (q 0)), (2, .int x2), (3, .int x3), (4, .int x4), (5, .int x5)]) [1, 2, 3, 4, 5] rfl ?_
          exact tX11_firstOf_b179 l D cI cZ ad q N C (hro78) _ _ _ _ _ h
        · have h := h.2 c12
          refine j_sub (lv' := [(0, .ref (q 0)), (2, .int x2), (3, .int x3), (5, .int x5)]) [1, 2, 3, 5] rfl ?_
          exact tX11_firstOf_b174 l D cI cZ ad q N C (hro78) _ _ _ _ h
set_option maxRecDepth 100000 in
set_option maxHeartbeats 4000000 in
theorem tX11_firstOf_b150 (l : Launch) (D : va_G) (cI cZ : ClassId) (ad q : Nat → Nat) (N : Nat) {p : Program} {e : Env} {s : State} {m : MethodId} {args : Array Value} {below : List Frame} {meth : Method} {c : Code} {K : Int32 → MM → Prop} (C : CX p s m args meth c cX11_firstOf 7 RX11 (some .int) D cI cZ ad (AJ 9 q s.heap.size)) {ro78 : Int32 → Int32 → Int32 → Int32 → MM → Prop} (hro78 : ∀ (x2 : Int32) (x3 : Int32) (x4 : Int32) (x5 : Int32) (u : MM), ro78 x2 x3 x4 x5 u → JX p l e (rr 1 22) s m args below meth c D (AJ 9 q s.heap.size) 7 (MQ below ((QI D 9 q (entM q cI cZ) K) (AJ 9 q s.heap.size)) args s 0 0 (AJ 9 q s.heap.size)) 9 q (entM q cI cZ) u 78 [(0, .ref (q 0)), (2, .int x2), (3, .int x3), (4, .int x4), (5, .int x5)] []) : ∀ (x2 : Int32) (x3 : Int32) (x4 : Int32) (x5 : Int32) (u : MM), wX11_firstOf_b150 N K ro78 x2 x3 x4 x5 u → JX p l e (rr 1 22) s m args below meth c D (AJ 9 q s.heap.size) 7 (MQ below ((QI D 9 q (entM q cI cZ) K) (AJ 9 q s.heap.size)) args s 0 0 (AJ 9 q s.heap.size)) 9 q (entM q cI cZ) u 150 [(0, .ref (q 0)), (2, .int x2), (3, .int x3), (4, .int x4), (5, .int x5)] [] := by
    intro x2 x3 x4 x5 u h
    refine j_iconst (v := 0) C dX11_firstOf_150 (by decide) ?_
    exact tX11_firstOf_b151 l D cI cZ ad q N C (hro78) _ _ _ _ _ _ h
set_option maxRecDepth 100000 in
set_option maxHeartbeats 4000000 in
theorem tX11_firstOf_b146 (l : Launch) (D : va_G) (cI cZ : ClassId) (ad q : Nat → Nat) (N : Nat) {p : Program} {e : Env} {s : State} {m : MethodId} {args : Array Value} {below : List Frame} {meth : Method} {c : Code} {K : Int32 → MM → Prop} (C : CX p s m args meth c cX11_firstOf 7 RX11 (some .int) D cI cZ ad (AJ 9 q s.heap.size)) {ro78 : Int32 → Int32 → Int32 → Int32 → MM → Prop} (hro78 : ∀ (x2 : Int32) (x3 : Int32) (x4 : Int32) (x5 : Int32) (u : MM), ro78 x2 x3 x4 x5 u → JX p l e (rr 1 22) s m args below meth c D (AJ 9 q s.heap.size) 7 (MQ below ((QI D 9 q (entM q cI cZ) K) (AJ 9 q s.heap.size)) args s 0 0 (AJ 9 q s.heap.size)) 9 q (entM q cI cZ) u 78 [(0, .ref (q 0)), (2, .int x2), (3, .int x3), (4, .int x4), (5, .int x5)] []) : ∀ (x2 : Int32) (x3 : Int32) (x4 : Int32) (x5 : Int32) (u : MM), wX11_firstOf_b146 N K ro78 x2 x3 x4 x5 u → JX p l e (rr 1 22) s m args below meth c D (AJ 9 q s.heap.size) 7 (MQ below ((QI D 9 q (entM q cI cZ) K) (AJ 9 q s.heap.size)) args s 0 0 (AJ 9 q s.heap.size)) 9 q (entM q cI cZ) u 146 [(0, .ref (q 0)), (2, .int x2), (3, .int x3), (4, .int x4), (5, .int x5)] [] := by
    intro x2 x3 x4 x5 u h
    refine j_iconst (v := 1) C dX11_firstOf_146 (by decide) ?_
    refine j_goto C 151 dX11_firstOf_147 (by decide) ?_
    exact tX11_firstOf_b151 l D cI cZ ad q N C (hro78) _ _ _ _ _ _ h
set_option maxRecDepth 100000 in
set_option maxHeartbeats 4000000 in
theorem tX11_firstOf_b111 (l : Launch) (D : va_G) (cI cZ : ClassId) (ad q : Nat → Nat) (N : Nat) {p : Program} {e : Env} {s : State} {m : MethodId} {args : Array Value} {below : List Frame} {meth : Method} {c : Code} {K : Int32 → MM → Prop} (C : CX p s m args meth c cX11_firstOf 7 RX11 (some .int) D cI cZ ad (AJ 9 q s.heap.size)) {ro78 : Int32 → Int32 → Int32 → Int32 → MM → Prop} (hro78 : ∀ (x2 : Int32) (x3 : Int32) (x4 : Int32) (x5 : Int32) (u : MM), ro78 x2 x3 x4 x5 u → JX p l e (rr 1 22) s m args below meth c D (AJ 9 q s.heap.size) 7 (MQ below ((QI D 9 q (entM q cI cZ) K) (AJ 9 q s.heap.size)) args s 0 0 (AJ 9 q s.heap.size)) 9 q (entM q cI cZ) u 78 [(0, .ref (q 0)), (2, .int x2), (3, .int x3), (4, .int x4), (5, .int x5)] []) : ∀ (x2 : Int32) (x3 : Int32) (x4 : Int32) (x5 : Int32) (u : MM), wX11_firstOf_b111 N K ro78 x2 x3 x4 x5 u → JX p l e (rr 1 22) s m args below meth c D (AJ 9 q s.heap.size) 7 (MQ below ((QI D 9 q (entM q cI cZ) K) (AJ 9 q s.heap.size)) args s 0 0 (AJ 9 q s.heap.size)) 9 q (entM q cI cZ) u 111 [(0, .ref (q 0)), (2, .int x2), (3, .int x3), (4, .int x4), (5, .int x5)] [] := by
    intro x2 x3 x4 x5 u h
    refine j_iload C 3 dX11_firstOf_111 rfl ?_
    refine j_iconst (v := (-1)) C dX11_firstOf_113 (by decide) ?_
    refine j_icmp_eq C 150 dX11_firstOf_114 (by decide) (fun c14 => ?_) (fun c14 => ?_)
    · have h := h.1 c14
      exact tX11_firstOf_b150 l D cI cZ ad q N C (hro78) _ _ _ _ _ h
    · have h := h.2 c14
      refine j_aload_n C 0 dX11_firstOf_117 rfl ?_
      refine j_get C 0 1 (ly_X11 C.2.2.2.2.2.2.2.1.1) q_636 rfl rfl (by decide) rfl rfl (by decide) rfl dX11_firstOf_118 ?_
      refine j_bipush (v := 38) C dX11_firstOf_121 (by decide) ?_
      refine j_iload C 4 dX11_firstOf_123 rfl ?_
      refine j_iadd C dX11_firstOf_125 ?_
      obtain ⟨hin, h⟩ := h
      refine j_ialoadK (N := 944) C 1 _ rfl hin (by decide) rfl rfl dX11_firstOf_126 ?_
      refine j_ui C (fun H locs ls hP hD => run_S (As := [.int (u 1 (38 + x5).toNatClampNeg)]) (st := []) C mf_X11_count1 (kX_X11_count1 l D cI cZ ad q N h) q_747 rfl rfl ⟨rfl, rfl, by decide, by decide⟩ (Nat.le_of_ble_eq_true rfl) dX11_firstOf_127 hP hD) (fun r15 _ h => ?_)
      refine j_aload_n C 0 dX11_firstOf_130 rfl ?_
      refine j_get C 0 1 (ly_X11 C.2.2.2.2.2.2.2.1.1) q_636 rfl rfl (by decide) rfl rfl (by decide) rfl dX11_firstOf_131 ?_
      refine j_bipush (v := 38) C dX11_firstOf_134 (by decide) ?_
      refine j_iload C 3 dX11_firstOf_136 rfl ?_
      refine j_iadd C dX11_firstOf_138 ?_
      obtain ⟨hin, h⟩ := h
      refine j_ialoadK (N := 944) C 1 _ rfl hin (by decide) rfl rfl dX11_firstOf_139 ?_
      refine j_ui C (fun H locs ls hP hD => run_S (As := [.int (u 1 (38 + x4).toNatClampNeg)]) (st := [.int r15]) C mf_X11_count1 (kX_X11_count1 l D cI cZ ad q N h) q_747 rfl rfl ⟨rfl, rfl, by decide, by decide⟩ (Nat.le_of_ble_eq_true rfl) dX11_firstOf_140 hP hD) (fun r16 _ h => ?_)
      refine j_icmp_le C 150 dX11_firstOf_143 (by decide) (fun c17 => ?_) (fun c17 => ?_)
      · have h := h.1 c17
        exact tX11_firstOf_b150 l D cI cZ ad q N C (hro78) _ _ _ _ _ h
      · have h := h.2 c17
        exact tX11_firstOf_b146 l D cI cZ ad q N C (hro78) _ _ _ _ _ h
set_option maxRecDepth 100000 in
set_option maxHeartbeats 4000000 in
theorem tX11_firstOf_b78 (l : Launch) (D : va_G) (cI cZ : ClassId) (ad q : Nat → Nat) (N : Nat) {p : Program} {e : Env} {s : State} {m : MethodId} {args : Array Value} {below : List Frame} {meth : Method} {c : Code} {K : Int32 → MM → Prop} (C : CX p s m args meth c cX11_firstOf 7 RX11 (some .int) D cI cZ ad (AJ 9 q s.heap.size)) : ∀ (n : Nat) (x2 : Int32) (x3 : Int32) (x4 : Int32) (x5 : Int32) (u : MM), wX11_firstOf_b78 N K n x2 x3 x4 x5 u → JX p l e (rr 1 22) s m args below meth c D (AJ 9 q s.heap.size) 7 (MQ below ((QI D 9 q (entM q cI cZ) K) (AJ 9 q s.heap.size)) args s 0 0 (AJ 9 q s.heap.size)) 9 q (entM q cI cZ) u 78 [(0, .ref (q 0)), (2, .int x2), (3, .int x3), (4, .int x4), (5, .int x5)] [] := by
  intro n
  induction n with
  | zero => intro x2 x3 x4 x5 u h; exact h.elim
  | succ n ih =>
    intro x2 x3 x4 x5 u h
    refine j_iload C 4 dX11_firstOf_78 rfl ?_
    refine j_aload_n C 0 dX11_firstOf_80 rfl ?_
    refine j_get C 0 1 (ly_X11 C.2.2.2.2.2.2.2.1.1) q_636 rfl rfl (by decide) rfl rfl (by decide) rfl dX11_firstOf_81 ?_
    refine j_bipush (v := 18) C dX11_firstOf_84 (by decide) ?_
    refine j_ialoadK (N := 944) C 1 18 (by decide) (show ¬ ((18 : Int32) < 0 ∨ 944 ≤ (18 : Int32).toNatClampNeg) by decide) (by decide) rfl rfl dX11_firstOf_86 ?_
    refine j_icmp_ge C 189 dX11_firstOf_87 (by decide) (fun c5 => ?_) (fun c5 => ?_)
    · have h := h.1 c5
      refine j_iload C 3 dX11_firstOf_189 rfl ?_
      exact j_iret C dX11_firstOf_191 h
    · have h := h.2 c5
      refine j_iload_n C 2 dX11_firstOf_90 rfl ?_
      refine j_iconst (v := 3) C dX11_firstOf_91 (by decide) ?_
      refine j_icmp_eq C 146 dX11_firstOf_92 (by decide) (fun c6 => ?_) (fun c6 => ?_)
      · have h := h.1 c6
        exact tX11_firstOf_b146 l D cI cZ ad q N C ih _ _ _ _ _ h
      · have h := h.2 c6
        refine j_iload_n C 2 dX11_firstOf_95 rfl ?_
        refine j_bipush (v := 6) C dX11_firstOf_96 (by decide) ?_
        refine j_icmp_eq C 146 dX11_firstOf_98 (by decide) (fun c7 => ?_) (fun c7 => ?_)
        · have h := h.1 c7
          exact tX11_firstOf_b146 l D cI cZ ad q N C ih _ _ _ _ _ h
        · have h := h.2 c7
          refine j_iload_n C 2 dX11_firstOf_101 rfl ?_
          refine j_iconst (v := 1) C dX11_firstOf_102 (by decide) ?_
          refine j_icmp_eq C 111 dX11_firstOf_103 (by decide) (fun c8 => ?_) (fun c8 => ?_)
          · have h := h.1 c8
            exact tX11_firstOf_b111 l D cI cZ ad q N C ih _ _ _ _ _ h
          · have h := h.2 c8
            refine j_iload_n C 2 dX11_firstOf_106 rfl ?_
            refine j_iconst (v := 4) C dX11_firstOf_107 (by decide) ?_
            refine j_icmp_ne C 150 dX11_firstOf_108 (by decide) (fun c9 => ?_) (fun c9 => ?_)
            · have h := h.1 c9
              exact tX11_firstOf_b150 l D cI cZ ad q N C ih _ _ _ _ _ h
            · have h := h.2 c9
              exact tX11_firstOf_b111 l D cI cZ ad q N C ih _ _ _ _ _ h
set_option maxRecDepth 100000 in
set_option maxHeartbeats 4000000 in
theorem tX11_firstOf_b13 (l : Launch) (D : va_G) (cI cZ : ClassId) (ad q : Nat → Nat) (N : Nat) {p : Program} {e : Env} {s : State} {m : MethodId} {args : Array Value} {below : List Frame} {meth : Method} {c : Code} {K : Int32 → MM → Prop} (C : CX p s m args meth c cX11_firstOf 7 RX11 (some .int) D cI cZ ad (AJ 9 q s.heap.size)) : ∀ (n : Nat) (x1 : Int32) (x2 : Int32) (x3 : Int32) (x4 : Int32) (u : MM), wX11_firstOf_b13 N K n x1 x2 x3 x4 u → JX p l e (rr 1 22) s m args below meth c D (AJ 9 q s.heap.size) 7 (MQ below ((QI D 9 q (entM q cI cZ) K) (AJ 9 q s.heap.size)) args s 0 0 (AJ 9 q s.heap.size)) 9 q (entM q cI cZ) u 13 [(0, .ref (q 0)), (1, .int x1), (2, .int x2), (3, .int x3), (4, .int x4)] [] := by
  intro n
  induction n with
  | zero => intro x1 x2 x3 x4 u h; exact h.elim
  | succ n ih =>
    intro x1 x2 x3 x4 u h
    refine j_iload C 4 dX11_firstOf_13 rfl ?_
    refine j_aload_n C 0 dX11_firstOf_15 rfl ?_
    refine j_get C 0 1 (ly_X11 C.2.2.2.2.2.2.2.1.1) q_636 rfl rfl (by decide) rfl rfl (by decide) rfl dX11_firstOf_16 ?_
    refine j_bipush (v := 45) C dX11_firstOf_19 (by decide) ?_
    refine j_iload_n C 1 dX11_firstOf_21 rfl ?_
    refine j_iadd C dX11_firstOf_22 ?_
    obtain ⟨hin, h⟩ := h
    refine j_ialoadK (N := 944) C 1 _ rfl hin (by decide) rfl rfl dX11_firstOf_23 ?_
    refine j_icmp_ge C 72 dX11_firstOf_24 (by decide) (fun c2 => ?_) (fun c2 => ?_)
    · have h := h.1 c2
      refine j_iconst (v := (-1)) C dX11_firstOf_72 (by decide) ?_
      refine j_istore (lv' := [(4, .int (-1)), (0, .ref (q 0)), (1, .int x1), (2, .int x2), (3, .int x3)]) C dX11_firstOf_73 (by decide) rfl ?_
      refine j_iconst (v := 0) C dX11_firstOf_75 (by decide) ?_
      refine j_istore (lv' := [(5, .int 0), (4, .int (-1)), (0, .ref (q 0)), (1, .int x1), (2, .int x2), (3, .int x3)]) C dX11_firstOf_76 (by decide) rfl ?_
      refine j_sub (lv' := [(0, .ref (q 0)), (2, .int x2), (3, .int x3), (4, .int (-1)), (5, .int 0)]) [2, 4, 5, 1, 0] rfl ?_
      exact tX11_firstOf_b78 l D cI cZ ad q N C N _ _ _ _ _ h
    · have h := h.2 c2
      refine j_iload_n C 2 dX11_firstOf_27 rfl ?_
      refine j_aload_n C 0 dX11_firstOf_28 rfl ?_
      refine j_get C 0 1 (ly_X11 C.2.2.2.2.2.2.2.1.1) q_636 rfl rfl (by decide) rfl rfl (by decide) rfl dX11_firstOf_29 ?_
      refine j_bipush (v := 52) C dX11_firstOf_32 (by decide) ?_
      refine j_bipush (v := 7) C dX11_firstOf_34 (by decide) ?_
      refine j_iload_n C 1 dX11_firstOf_36 rfl ?_
      refine j_imul C dX11_firstOf_37 ?_
      refine j_iadd C dX11_firstOf_38 ?_
      refine j_iload C 4 dX11_firstOf_39 rfl ?_
      refine j_iadd C dX11_firstOf_41 ?_
      obtain ⟨hin, h⟩ := h
      refine j_ialoadK (N := 944) C 1 _ rfl hin (by decide) rfl rfl dX11_firstOf_42 ?_
      refine j_ishr C dX11_firstOf_43 ?_
      refine j_iconst (v := 1) C dX11_firstOf_44 (by decide) ?_
      refine j_iand C dX11_firstOf_45 ?_
      refine j_iconst (v := 1) C dX11_firstOf_46 (by decide) ?_
      refine j_icmp_ne C 66 dX11_firstOf_47 (by decide) (fun c3 => ?_) (fun c3 => ?_)
      · have h := h.1 c3
        obtain ⟨y4, ey4⟩ : ∃ z : Int32, z = x4 + 1 := ⟨_, rfl⟩
        have h := h y4 ey4
        refine j_iinc (v := y4) (lv' := [(4, .int y4), (0, .ref (q 0)), (1, .int x1), (2, .int x2), (3, .int x3)]) C 4 dX11_firstOf_66 rfl (by rw [ey4]; rfl) (by decide) rfl ?_
        refine j_goto C 13 dX11_firstOf_69 (by decide) ?_
        refine j_sub (lv' := [(0, .ref (q 0)), (1, .int x1), (2, .int x2), (3, .int x3), (4, .int y4)]) [1, 2, 3, 4, 0] rfl ?_
        exact ih _ _ _ _ _ h
      · have h := h.2 c3
        refine j_aload_n C 0 dX11_firstOf_50 rfl ?_
        refine j_get C 0 1 (ly_X11 C.2.2.2.2.2.2.2.1.1) q_636 rfl rfl (by decide) rfl rfl (by decide) rfl dX11_firstOf_51 ?_
        refine j_bipush (v := 52) C dX11_firstOf_54 (by decide) ?_
        refine j_bipush (v := 7) C dX11_firstOf_56 (by decide) ?_
        refine j_iload_n C 1 dX11_firstOf_58 rfl ?_
        refine j_imul C dX11_firstOf_59 ?_
        refine j_iadd C dX11_firstOf_60 ?_
        refine j_iload C 4 dX11_firstOf_61 rfl ?_
        refine j_iadd C dX11_firstOf_63 ?_
        obtain ⟨hin, h⟩ := h
        refine j_ialoadK (N := 944) C 1 _ rfl hin (by decide) rfl rfl dX11_firstOf_64 ?_
        exact j_iret C dX11_firstOf_65 h
set_option maxRecDepth 100000 in
set_option maxHeartbeats 4000000 in
theorem kX_X11_firstOf (l : Launch) (D : va_G) (cI cZ : ClassId) (ad q : Nat → Nat) (N : Nat) {x1 : Int32} {x2 : Int32} {u : MM} {K : Int32 → MM → Prop} (h : wX11_firstOf N x1 x2 u K) : CT l D cI cZ ad 9 q (entM q cI cZ) yX11_firstOf cX11_firstOf 7 (some .int) (rr 1 22) [.ref (q 0), .int x1, .int x2] u (QI D 9 q (entM q cI cZ) K) := by
    refine ct_of (by decide +kernel) (Nat.le_of_ble_eq_true rfl) (fun p e s m args below meth c C => ?_)
    refine j_sub (lv' := [(0, .ref (q 0)), (1, .int x1), (2, .int x2)]) [0, 1, 2] rfl ?_
    refine j_aload_n C 0 dX11_firstOf_0 rfl ?_
    refine j_get C 0 1 (ly_X11 C.2.2.2.2.2.2.2.1.1) q_636 rfl rfl (by decide) rfl rfl (by decide) rfl dX11_firstOf_1 ?_
    refine j_bipush (v := 24) C dX11_firstOf_4 (by decide) ?_
    refine j_iload_n C 1 dX11_firstOf_6 rfl ?_
    refine j_iadd C dX11_firstOf_7 ?_
    obtain ⟨hin, h⟩ := h
    refine j_ialoadK (N := 944) C 1 _ rfl hin (by decide) rfl rfl dX11_firstOf_8 ?_
    refine j_nmi (fun y1 ey1 => ?_)
    have h := h y1 ey1
    refine j_istore_n (lv' := [(3, .int y1), (0, .ref (q 0)), (1, .int x1), (2, .int x2)]) C dX11_firstOf_9 (by decide) rfl ?_
    refine j_iconst (v := 0) C dX11_firstOf_10 (by decide) ?_
    refine j_istore (lv' := [(4, .int 0), (3, .int y1), (0, .ref (q 0)), (1, .int x1), (2, .int x2)]) C dX11_firstOf_11 (by decide) rfl ?_
    refine j_sub (lv' := [(0, .ref (q 0)), (1, .int x1), (2, .int x2), (3, .int y1), (4, .int 0)]) [2, 3, 4, 1, 0] rfl ?_
    exact tX11_firstOf_b13 l D cI cZ ad q N C N _ _ _ _ _ h

def wX11_choiceOf_b11 (N : Nat) (K : Int32 → MM → Prop) : Nat → Int32 → Int32 → Int32 → Int32 → MM → Prop
  | 0, _, _, _, _, _ => False
  | n + 1, x1, x2, x3, x4, u => (wX11_askedOf N x1 u (fun r3 u4 => ((r3 ≤ x4 → (K x3 u4)) ∧ (¬ r3 ≤ x4 → ((x2 = 0 → (K x3 u4)) ∧ (¬ x2 = 0 → (wX11_firstOf N x1 x2 u4 (fun r7 u8 => (∀ y9 : Int32, y9 = (x3 ||| ((1 : Int32) <<< (r7 &&& 31))) → (∀ y10 : Int32, y10 = (x2 &&& (((1 : Int32) <<< (r7 &&& 31)) ^^^ ((-1) : Int32))) → (∀ y11 : Int32, y11 = x4 + 1 → (wX11_choiceOf_b11 N K n x1 y10 y9 y11 u8))))))))))))
def wX11_choiceOf (N : Nat) (x1 : Int32) (u : MM) (K : Int32 → MM → Prop) : Prop := (wX11_mayOf N x1 u (fun r1 u2 => (wX11_choiceOf_b11 N K N x1 r1 0 0 u2)))
set_option maxRecDepth 100000 in
set_option maxHeartbeats 4000000 in
theorem tX11_choiceOf_b11 (l : Launch) (D : va_G) (cI cZ : ClassId) (ad q : Nat → Nat) (N : Nat) {p : Program} {e : Env} {s : State} {m : MethodId} {args : Array Value} {below : List Frame} {meth : Method} {c : Code} {K : Int32 → MM → Prop} (C : CX p s m args meth c cX11_choiceOf 6 RX11 (some .int) D cI cZ ad (AJ 9 q s.heap.size)) : ∀ (n : Nat) (x1 : Int32) (x2 : Int32) (x3 : Int32) (x4 : Int32) (u : MM), wX11_choiceOf_b11 N K n x1 x2 x3 x4 u → JX p l e (rr 3 75) s m args below meth c D (AJ 9 q s.heap.size) 6 (MQ below ((QI D 9 q (entM q cI cZ) K) (AJ 9 q s.heap.size)) args s 0 0 (AJ 9 q s.heap.size)) 9 q (entM q cI cZ) u 11 [(0, .ref (q 0)), (1, .int x1), (2, .int x2), (3, .int x3), (4, .int x4)] [] := by
  intro n
  induction n with
  | zero => intro x1 x2 x3 x4 u h; exact h.elim
  | succ n ih =>
    intro x1 x2 x3 x4 u h
    refine j_iload C 4 dX11_choiceOf_11 rfl ?_
    refine j_aload_n C 0 dX11_choiceOf_13 rfl ?_
    refine j_iload_n C 1 dX11_choiceOf_14 rfl ?_
    refine j_wi C (fun H locs ls hP hD hS hl => run_V (Cn := "") (As := [.int x1]) (st := [.int x4]) C mf_X11_askedOf 0 (kX_X11_askedOf l D cI cZ ad q N h) q_738 (by decide) rfl rfl rfl rfl ⟨rfl, rfl, by decide, by decide⟩ (Nat.le_of_ble_eq_true rfl) dX11_choiceOf_15 hP hD hS hl) (fun r3 u4 h => ?_)
    refine j_icmp_ge C 55 dX11_choiceOf_18 (by decide) (fun c5 => ?_) (fun c5 => ?_)
    · have h := h.1 c5
      refine j_iload_n C 3 dX11_choiceOf_55 rfl ?_
      exact j_iret C dX11_choiceOf_56 h
    · have h := h.2 c5
      refine j_iload_n C 2 dX11_choiceOf_21 rfl ?_
      refine j_if_eq C 55 dX11_choiceOf_22 (by decide) (fun c6 => ?_) (fun c6 => ?_)
      · have h := h.1 c6
        refine j_iload_n C 3 dX11_choiceOf_55 rfl ?_
        exact j_iret C dX11_choiceOf_56 h
      · have h := h.2 c6
        refine j_aload_n C 0 dX11_choiceOf_25 rfl ?_
        refine j_iload_n C 1 dX11_choiceOf_26 rfl ?_
        refine j_iload_n C 2 dX11_choiceOf_27 rfl ?_
        refine j_wi C (fun H locs ls hP hD hS hl => run_V (Cn := "") (As := [.int x1, .int x2]) (st := []) C mf_X11_firstOf 0 (kX_X11_firstOf l D cI cZ ad q N h) q_744 (by decide) rfl rfl rfl rfl ⟨rfl, rfl, by decide, by decide⟩ (Nat.le_of_ble_eq_true rfl) dX11_choiceOf_28 hP hD hS hl) (fun r7 u8 h => ?_)
        refine j_istore (lv' := [(5, .int r7), (0, .ref (q 0)), (1, .int x1), (2, .int x2), (3, .int x3), (4, .int x4)]) C dX11_choiceOf_31 (by decide) rfl ?_
        refine j_iload_n C 4 dX11_choiceOf_33 rfl ?_
        refine j_iconst (v := 1) C dX11_choiceOf_34 (by decide) ?_
        refine j_iload C 0 dX11_choiceOf_35 rfl ?_
        refine j_ishl C dX11_choiceOf_37 ?_
        refine j_ior C dX11_choiceOf_38 ?_
        refine j_nmi (fun y9 ey9 => ?_)
        have h := h y9 ey9
        refine j_istore_n (lv' := [(3, .int y9), (5, .int r7), (0, .ref (q 0)), (1, .int x1), (2, .int x2), (4, .int x4)]) C dX11_choiceOf_39 (by decide) rfl ?_
        refine j_iload_n C 4 dX11_choiceOf_40 rfl ?_
        refine j_iconst (v := 1) C dX11_choiceOf_41 (by decide) ?_
        refine j_iload C 1 dX11_choiceOf_42 rfl ?_
        refine j_ishl C dX11_choiceOf_44 ?_
        refine j_iconst (v := (-1)) C dX11_choiceOf_45 (by decide) ?_
        refine j_ixor C dX11_choiceOf_46 ?_
        refine j_iand C dX11_choiceOf_47 ?_
        refine j_nmi (fun y10 ey10 => ?_)
        have h := h y10 ey10
        refine j_istore_n (lv' := [(2, .int y10), (3, .int y9), (5, .int r7), (0, .ref (q 0)), (1, .int x1), (4, .int x4)]) C dX11_choiceOf_48 (by decide) rfl ?_
        obtain ⟨y11, ey11⟩ : ∃ z : Int32, z = x4 + 1 := ⟨_, rfl⟩
        have h := h y11 ey11
        refine j_iinc (v := y11) (lv' := [(4, .int y11), (2, .int y10), (3, .int y9), (5, .int r7), (0, .ref (q 0)), (1, .int x1)]) C 5 dX11_choiceOf_49 rfl (by rw [ey11]; rfl) (by decide) rfl ?_
        refine j_goto C 11 dX11_choiceOf_52 (by decide) ?_
        refine j_sub (lv' := [(0, .ref (q 0)), (1, .int x1), (2, .int y10), (3, .int y9), (4, .int y11)]) [4, 5, 1, 2, 0] rfl ?_
        exact ih _ _ _ _ _ h
set_option maxRecDepth 100000 in
set_option maxHeartbeats 4000000 in
theorem kX_X11_choiceOf (l : Launch) (D : va_G) (cI cZ : ClassId) (ad q : Nat → Nat) (N : Nat) {x1 : Int32} {u : MM} {K : Int32 → MM → Prop} (h : wX11_choiceOf N x1 u K) : CT l D cI cZ ad 9 q (entM q cI cZ) yX11_choiceOf cX11_choiceOf 6 (some .int) (rr 3 75) [.ref (q 0), .int x1] u (QI D 9 q (entM q cI cZ) K) := by
    refine ct_of (by decide +kernel) (Nat.le_of_ble_eq_true rfl) (fun p e s m args below meth c C => ?_)
    refine j_sub (lv' := [(0, .ref (q 0)), (1, .int x1)]) [0, 1] rfl ?_
    refine j_aload_n C 0 dX11_choiceOf_0 rfl ?_
    refine j_iload_n C 1 dX11_choiceOf_1 rfl ?_
    refine j_wi C (fun H locs ls hP hD hS hl => run_V (Cn := "") (As := [.int x1]) (st := []) C mf_X11_mayOf 0 (kX_X11_mayOf l D cI cZ ad q N h) q_729 (by decide) rfl rfl rfl rfl ⟨rfl, rfl, by decide, by decide⟩ (Nat.le_of_ble_eq_true rfl) dX11_choiceOf_2 hP hD hS hl) (fun r1 u2 h => ?_)
    refine j_istore_n (lv' := [(2, .int r1), (0, .ref (q 0)), (1, .int x1)]) C dX11_choiceOf_5 (by decide) rfl ?_
    refine j_iconst (v := 0) C dX11_choiceOf_6 (by decide) ?_
    refine j_istore_n (lv' := [(3, .int 0), (2, .int r1), (0, .ref (q 0)), (1, .int x1)]) C dX11_choiceOf_7 (by decide) rfl ?_
    refine j_iconst (v := 0) C dX11_choiceOf_8 (by decide) ?_
    refine j_istore (lv' := [(4, .int 0), (3, .int 0), (2, .int r1), (0, .ref (q 0)), (1, .int x1)]) C dX11_choiceOf_9 (by decide) rfl ?_
    refine j_sub (lv' := [(0, .ref (q 0)), (1, .int x1), (2, .int r1), (3, .int 0), (4, .int 0)]) [3, 4, 2, 1, 0] rfl ?_
    exact tX11_choiceOf_b11 l D cI cZ ad q N C N _ _ _ _ _ h

def wX11_of (N : Nat) (x1 : Int32) (x2 : Int32) (u : MM) (K : Int32 → MM → Prop) : Prop := (wX11_isPerson N x1 u (fun r1 u2 => ((¬ r1 = 0 → (wX11_hasHeard N x1 u2 (fun r4 u5 => ((x2 = 0 → (vp_in ((24 + x1)) 944 ∧ (K (u5 1 (24 + x1).toNatClampNeg) u5))) ∧ (¬ x2 = 0 → ((x2 = 1 → (vp_in ((31 + x1)) 944 ∧ (K (u5 1 (31 + x1).toNatClampNeg) u5))) ∧ (¬ x2 = 1 → ((x2 = 2 → ((r4 = 0 → (K 0 u5)) ∧ (¬ r4 = 0 → (K 1 u5)))) ∧ (¬ x2 = 2 → ((x2 = 3 → ((r4 = 0 → (K (-5) u5)) ∧ (¬ r4 = 0 → (vp_in ((4 + x1)) 944 ∧ (K (u5 1 (4 + x1).toNatClampNeg) u5))))) ∧ (¬ x2 = 3 → ((x2 = 4 → (wX11_hasTold N x1 u5 (fun r13 u14 => ((r13 = 0 → (K 0 u14)) ∧ (¬ r13 = 0 → (K 1 u14)))))) ∧ (¬ x2 = 4 → ((x2 = 5 → ((r4 = 0 → (K (-5) u5)) ∧ (¬ r4 = 0 → (vp_in ((11 + x1)) 944 ∧ (K (u5 1 (11 + x1).toNatClampNeg) u5))))) ∧ (¬ x2 = 5 → ((x2 = 6 → (vp_in ((38 + x1)) 944 ∧ (K (u5 1 (38 + x1).toNatClampNeg) u5))) ∧ (¬ x2 = 6 → ((x2 = 7 → ((r4 = 0 → (K (-5) u5)) ∧ (¬ r4 = 0 → (wX11_mayOf N x1 u5 (fun r21 u22 => (K r21 u22)))))) ∧ (¬ x2 = 7 → ((x2 = 8 → ((r4 = 0 → (K (-5) u5)) ∧ (¬ r4 = 0 → (wX11_askedOf N x1 u5 (fun r25 u26 => (K r25 u26)))))) ∧ (¬ x2 = 8 → ((x2 = 9 → ((r4 = 0 → (K (-5) u5)) ∧ (¬ r4 = 0 → (wX11_choiceOf N x1 u5 (fun r29 u30 => (K r29 u30)))))) ∧ (¬ x2 = 9 → ((x2 = 10 → (wX11_fineOf N x1 u5 (fun r32 u33 => (K r32 u33)))) ∧ (¬ x2 = 10 → ((x2 = 11 → (vp_in ((45 + x1)) 944 ∧ (K (u5 1 (45 + x1).toNatClampNeg) u5))) ∧ (¬ x2 = 11 → (K (-1) u5)))))))))))))))))))))))))))) ∧ (r1 = 0 → (K (-1) u2)))))
set_option maxRecDepth 100000 in
set_option maxHeartbeats 4000000 in
theorem kX_X11_of (l : Launch) (D : va_G) (cI cZ : ClassId) (ad q : Nat → Nat) (N : Nat) {x1 : Int32} {x2 : Int32} {u : MM} {K : Int32 → MM → Prop} (h : wX11_of N x1 x2 u K) : CT l D cI cZ ad 9 q (entM q cI cZ) yX11_of cX11_of 4 (some .int) (rr 4 100) [.ref (q 0), .int x1, .int x2] u (QI D 9 q (entM q cI cZ) K) := by
    refine ct_of (by decide +kernel) (Nat.le_of_ble_eq_true rfl) (fun p e s m args below meth c C => ?_)
    refine j_sub (lv' := [(0, .ref (q 0)), (1, .int x1), (2, .int x2)]) [0, 1, 2] rfl ?_
    refine j_aload_n C 0 dX11_of_0 rfl ?_
    refine j_iload_n C 1 dX11_of_1 rfl ?_
    refine j_wi C (fun H locs ls hP hD hS hl => run_V (Cn := "") (As := [.int x1]) (st := []) C mf_X11_isPerson 0 (kX_X11_isPerson l D cI cZ ad q N h) q_720 (by decide) rfl rfl rfl rfl ⟨rfl, rfl, by decide, by decide⟩ (Nat.le_of_ble_eq_true rfl) dX11_of_2 hP hD hS hl) (fun r1 u2 h => ?_)
    refine j_if_ne C 10 dX11_of_5 (by decide) (fun c3 => ?_) (fun c3 => ?_)
    · have h := h.1 c3
      refine j_aload_n C 0 dX11_of_10 rfl ?_
      refine j_iload_n C 1 dX11_of_11 rfl ?_
      refine j_wi C (fun H locs ls hP hD hS hl => run_V (Cn := "") (As := [.int x1]) (st := []) C mf_X11_hasHeard 0 (kX_X11_hasHeard l D cI cZ ad q N h) q_723 (by decide) rfl rfl rfl rfl ⟨rfl, rfl, by decide, by decide⟩ (Nat.le_of_ble_eq_true rfl) dX11_of_12 hP hD hS hl) (fun r4 u5 h => ?_)
      refine j_istore_n (lv' := [(3, .int r4), (0, .ref (q 0)), (1, .int x1), (2, .int x2)]) C dX11_of_15 (by decide) rfl ?_
      refine j_iload_n C 3 dX11_of_16 rfl ?_
      by_cases c6 : x2 = 0
      · have h := h.1 c6
        refine j_tabIn C (v := 0) c6 (off := 63) 80 dX11_of_17 (by decide) (by decide) (by decide) (by decide) ?_
        refine j_aload_n C 1 dX11_of_80 rfl ?_
        refine j_get C 0 1 (ly_X11 C.2.2.2.2.2.2.2.1.1) q_636 rfl rfl (by decide) rfl rfl (by decide) rfl dX11_of_81 ?_
        refine j_bipush (v := 24) C dX11_of_84 (by decide) ?_
        refine j_iload_n C 2 dX11_of_86 rfl ?_
        refine j_iadd C dX11_of_87 ?_
        obtain ⟨hin, h⟩ := h
        refine j_ialoadK (N := 944) C 1 _ rfl hin (by decide) rfl rfl dX11_of_88 ?_
        exact j_iret C dX11_of_89 h
      · have h := h.2 c6
        by_cases c7 : x2 = 1
        · have h := h.1 c7
          refine j_tabIn C (v := 1) c7 (off := 73) 90 dX11_of_17 (by decide) (by decide) (by decide) (by decide) ?_
          refine j_aload_n C 1 dX11_of_90 rfl ?_
          refine j_get C 0 1 (ly_X11 C.2.2.2.2.2.2.2.1.1) q_636 rfl rfl (by decide) rfl rfl (by decide) rfl dX11_of_91 ?_
          refine j_bipush (v := 31) C dX11_of_94 (by decide) ?_
          refine j_iload_n C 2 dX11_of_96 rfl ?_
          refine j_iadd C dX11_of_97 ?_
          obtain ⟨hin, h⟩ := h
          refine j_ialoadK (N := 944) C 1 _ rfl hin (by decide) rfl rfl dX11_of_98 ?_
          exact j_iret C dX11_of_99 h
        · have h := h.2 c7
          by_cases c8 : x2 = 2
          · have h := h.1 c8
            refine j_tabIn C (v := 2) c8 (off := 83) 100 dX11_of_17 (by decide) (by decide) (by decide) (by decide) ?_
            refine j_iload_n C 0 dX11_of_100 rfl ?_
            refine j_if_eq C 108 dX11_of_101 (by decide) (fun c9 => ?_) (fun c9 => ?_)
            · have h := h.1 c9
              refine j_iconst (v := 0) C dX11_of_108 (by decide) ?_
              exact j_iret C dX11_of_109 h
            · have h := h.2 c9
              refine j_iconst (v := 1) C dX11_of_104 (by decide) ?_
              refine j_goto C 109 dX11_of_105 (by decide) ?_
              exact j_iret C dX11_of_109 h
          · have h := h.2 c8
            by_cases c10 : x2 = 3
            · have h := h.1 c10
              refine j_tabIn C (v := 3) c10 (off := 93) 110 dX11_of_17 (by decide) (by decide) (by decide) (by decide) ?_
              refine j_iload_n C 0 dX11_of_110 rfl ?_
              refine j_if_eq C 125 dX11_of_111 (by decide) (fun c11 => ?_) (fun c11 => ?_)
              · have h := h.1 c11
                refine j_bipush (v := (-5)) C dX11_of_125 (by decide) ?_
                exact j_iret C dX11_of_127 h
              · have h := h.2 c11
                refine j_aload_n C 1 dX11_of_114 rfl ?_
                refine j_get C 0 1 (ly_X11 C.2.2.2.2.2.2.2.1.1) q_636 rfl rfl (by decide) rfl rfl (by decide) rfl dX11_of_115 ?_
                refine j_iconst (v := 4) C dX11_of_118 (by decide) ?_
                refine j_iload_n C 2 dX11_of_119 rfl ?_
                refine j_iadd C dX11_of_120 ?_
                obtain ⟨hin, h⟩ := h
                refine j_ialoadK (N := 944) C 1 _ rfl hin (by decide) rfl rfl dX11_of_121 ?_
                refine j_goto C 127 dX11_of_122 (by decide) ?_
                exact j_iret C dX11_of_127 h
            · have h := h.2 c10
              by_cases c12 : x2 = 4
              · have h := h.1 c12
                refine j_tabIn C (v := 4) c12 (off := 111) 128 dX11_of_17 (by decide) (by decide) (by decide) (by decide) ?_
                refine j_aload_n C 1 dX11_of_128 rfl ?_
                refine j_iload_n C 2 dX11_of_129 rfl ?_
                refine j_wi C (fun H locs ls hP hD hS hl => run_V (Cn := "") (As := [.int x1]) (st := []) C mf_X11_hasTold 0 (kX_X11_hasTold l D cI cZ ad q N h) q_726 (by decide) rfl rfl rfl rfl ⟨rfl, rfl, by decide, by decide⟩ (Nat.le_of_ble_eq_true rfl) dX11_of_130 hP hD hS hl) (fun r13 u14 h => ?_)
                refine j_if_eq C 140 dX11_of_133 (by decide) (fun c15 => ?_) (fun c15 => ?_)
                · have h := h.1 c15
                  refine j_iconst (v := 0) C dX11_of_140 (by decide) ?_
                  exact j_iret C dX11_of_141 h
                · have h := h.2 c15
                  refine j_iconst (v := 1) C dX11_of_136 (by decide) ?_
                  refine j_goto C 141 dX11_of_137 (by decide) ?_
                  exact j_iret C dX11_of_141 h
              · have h := h.2 c12
                by_cases c16 : x2 = 5
                · have h := h.1 c16
                  refine j_tabIn C (v := 5) c16 (off := 125) 142 dX11_of_17 (by decide) (by decide) (by decide) (by decide) ?_
                  refine j_iload_n C 0 dX11_of_142 rfl ?_
                  refine j_if_eq C 158 dX11_of_143 (by decide) (fun c17 => ?_) (fun c17 => ?_)
                  · have h := h.1 c17
                    refine j_bipush (v := (-5)) C dX11_of_158 (by decide) ?_
                    exact j_iret C dX11_of_160 h
                  · have h := h.2 c17
                    refine j_aload_n C 1 dX11_of_146 rfl ?_
                    refine j_get C 0 1 (ly_X11 C.2.2.2.2.2.2.2.1.1) q_636 rfl rfl (by decide) rfl rfl (by decide) rfl dX11_of_147 ?_
                    refine j_bipush (v := 11) C dX11_of_150 (by decide) ?_
                    refine j_iload_n C 2 dX11_of_152 rfl ?_
                    refine j_iadd C dX11_of_153 ?_
                    obtain ⟨hin, h⟩ := h
                    refine j_ialoadK (N := 944) C 1 _ rfl hin (by decide) rfl rfl dX11_of_154 ?_
                    refine j_goto C 160 dX11_of_155 (by decide) ?_
                    exact j_iret C dX11_of_160 h
                · have h := h.2 c16
                  by_cases c18 : x2 = 6
                  · have h := h.1 c18
                    refine j_tabIn C (v := 6) c18 (off := 144) 161 dX11_of_17 (by decide) (by decide) (by decide) (by decide) ?_
                    refine j_aload_n C 1 dX11_of_161 rfl ?_
                    refine j_get C 0 1 (ly_X11 C.2.2.2.2.2.2.2.1.1) q_636 rfl rfl (by decide) rfl rfl (by decide) rfl dX11_of_162 ?_
                    refine j_bipush (v := 38) C dX11_of_165 (by decide) ?_
                    refine j_iload_n C 2 dX11_of_167 rfl ?_
                    refine j_iadd C dX11_of_168 ?_
                    obtain ⟨hin, h⟩ := h
                    refine j_ialoadK (N := 944) C 1 _ rfl hin (by decide) rfl rfl dX11_of_169 ?_
                    exact j_iret C dX11_of_170 h
                  · have h := h.2 c18
                    by_cases c19 : x2 = 7
                    · have h := h.1 c19
                      refine j_tabIn C (v := 7) c19 (off := 154) 171 dX11_of_17 (by decide) (by decide) (by decide) (by decide) ?_
                      refine j_iload_n C 0 dX11_of_171 rfl ?_
                      refine j_if_eq C 183 dX11_of_172 (by decide) (fun c20 => ?_) (fun c20 => ?_)
                      · have h := h.1 c20
                        refine j_bipush (v := (-5)) C dX11_of_183 (by decide) ?_
                        exact j_iret C dX11_of_185 h
                      · have h := h.2 c20
                        refine j_aload_n C 1 dX11_of_175 rfl ?_
                        refine j_iload_n C 2 dX11_of_176 rfl ?_
                        refine j_wi C (fun H locs ls hP hD hS hl => run_V (Cn := "") (As := [.int x1]) (st := []) C mf_X11_mayOf 0 (kX_X11_mayOf l D cI cZ ad q N h) q_729 (by decide) rfl rfl rfl rfl ⟨rfl, rfl, by decide, by decide⟩ (Nat.le_of_ble_eq_true rfl) dX11_of_177 hP hD hS hl) (fun r21 u22 h => ?_)
                        refine j_goto C 185 dX11_of_180 (by decide) ?_
                        exact j_iret C dX11_of_185 h
                    · have h := h.2 c19
                      by_cases c23 : x2 = 8
                      · have h := h.1 c23
                        refine j_tabIn C (v := 8) c23 (off := 169) 186 dX11_of_17 (by decide) (by decide) (by decide) (by decide) ?_
                        refine j_iload_n C 0 dX11_of_186 rfl ?_
                        refine j_if_eq C 198 dX11_of_187 (by decide) (fun c24 => ?_) (fun c24 => ?_)
                        · have h := h.1 c24
                          refine j_bipush (v := (-5)) C dX11_of_198 (by decide) ?_
                          exact j_iret C dX11_of_200 h
                        · have h := h.2 c24
                          refine j_aload_n C 1 dX11_of_190 rfl ?_
                          refine j_iload_n C 2 dX11_of_191 rfl ?_
                          refine j_wi C (fun H locs ls hP hD hS hl => run_V (Cn := "") (As := [.int x1]) (st := []) C mf_X11_askedOf 0 (kX_X11_askedOf l D cI cZ ad q N h) q_738 (by decide) rfl rfl rfl rfl ⟨rfl, rfl, by decide, by decide⟩ (Nat.le_of_ble_eq_true rfl) dX11_of_192 hP hD hS hl) (fun r25 u26 h => ?_)
                          refine j_goto C 200 dX11_of_195 (by decide) ?_
                          exact j_iret C dX11_of_200 h
                      · have h := h.2 c23
                        by_cases c27 : x2 = 9
                        · have h := h.1 c27
                          refine j_tabIn C (v := 9) c27 (off := 184) 201 dX11_of_17 (by decide) (by decide) (by decide) (by decide) ?_
                          refine j_iload_n C 0 dX11_of_201 rfl ?_
                          refine j_if_eq C 213 dX11_of_202 (by decide) (fun c28 => ?_) (fun c28 => ?_)
                          · have h := h.1 c28
                            refine j_bipush (v := (-5)) C dX11_of_213 (by decide) ?_
                            exact j_iret C dX11_of_215 h
                          · have h := h.2 c28
                            refine j_aload_n C 1 dX11_of_205 rfl ?_
                            refine j_iload_n C 2 dX11_of_206 rfl ?_
                            refine j_wi C (fun H locs ls hP hD hS hl => run_V (Cn := "") (As := [.int x1]) (st := []) C mf_X11_choiceOf 0 (kX_X11_choiceOf l D cI cZ ad q N h) q_741 (by decide) rfl rfl rfl rfl ⟨rfl, rfl, by decide, by decide⟩ (Nat.le_of_ble_eq_true rfl) dX11_of_207 hP hD hS hl) (fun r29 u30 h => ?_)
                            refine j_goto C 215 dX11_of_210 (by decide) ?_
                            exact j_iret C dX11_of_215 h
                        · have h := h.2 c27
                          by_cases c31 : x2 = 10
                          · have h := h.1 c31
                            refine j_tabIn C (v := 10) c31 (off := 199) 216 dX11_of_17 (by decide) (by decide) (by decide) (by decide) ?_
                            refine j_aload_n C 1 dX11_of_216 rfl ?_
                            refine j_iload_n C 2 dX11_of_217 rfl ?_
                            refine j_wi C (fun H locs ls hP hD hS hl => run_V (Cn := "") (As := [.int x1]) (st := []) C mf_X11_fineOf 0 (kX_X11_fineOf l D cI cZ ad q N h) q_750 (by decide) rfl rfl rfl rfl ⟨rfl, rfl, by decide, by decide⟩ (Nat.le_of_ble_eq_true rfl) dX11_of_218 hP hD hS hl) (fun r32 u33 h => ?_)
                            exact j_iret C dX11_of_221 h
                          · have h := h.2 c31
                            by_cases c34 : x2 = 11
                            · have h := h.1 c34
                              refine j_tabIn C (v := 11) c34 (off := 205) 222 dX11_of_17 (by decide) (by decide) (by decide) (by decide) ?_
                              refine j_aload_n C 1 dX11_of_222 rfl ?_
                              refine j_get C 0 1 (ly_X11 C.2.2.2.2.2.2.2.1.1) q_636 rfl rfl (by decide) rfl rfl (by decide) rfl dX11_of_223 ?_
                              refine j_bipush (v := 45) C dX11_of_226 (by decide) ?_
                              refine j_iload_n C 2 dX11_of_228 rfl ?_
                              refine j_iadd C dX11_of_229 ?_
                              obtain ⟨hin, h⟩ := h
                              refine j_ialoadK (N := 944) C 1 _ rfl hin (by decide) rfl rfl dX11_of_230 ?_
                              exact j_iret C dX11_of_231 h
                            · have h := h.2 c34
                              refine j_tabOut C 232 dX11_of_17 (by have z0 : x2.toInt ≠ 0 := sw_ne c6; have z1 : x2.toInt ≠ 1 := sw_ne c7; have z2 : x2.toInt ≠ 2 := sw_ne c8; have z3 : x2.toInt ≠ 3 := sw_ne c10; have z4 : x2.toInt ≠ 4 := sw_ne c12; have z5 : x2.toInt ≠ 5 := sw_ne c16; have z6 : x2.toInt ≠ 6 := sw_ne c18; have z7 : x2.toInt ≠ 7 := sw_ne c19; have z8 : x2.toInt ≠ 8 := sw_ne c23; have z9 : x2.toInt ≠ 9 := sw_ne c27; have z10 : x2.toInt ≠ 10 := sw_ne c31; have z11 : x2.toInt ≠ 11 := sw_ne c34; omega) (by decide) ?_
                              refine j_iconst (v := (-1)) C dX11_of_232 (by decide) ?_
                              exact j_iret C dX11_of_233 h
    · have h := h.2 c3
      refine j_iconst (v := (-1)) C dX11_of_8 (by decide) ?_
      exact j_iret C dX11_of_9 h

def wX11_know_b128 (N : Nat) (K : Int32 → MM → Prop) (x4 : Int32) (s0 : Int32) (s1 : Int32) (u : MM) : Prop := (vp_in s1 944 ∧ ∀ u12 : MM, u12 = up u 1 (s1.toNatClampNeg) s0 → (K x4 u12))
def wX11_know_b84 (N : Nat) (K : Int32 → MM → Prop) (x1 : Int32) (x2 : Int32) (x3 : Int32) (x4 : Int32) (s0 : Int32) (s1 : Int32) (u : MM) : Prop := (vp_in s1 944 ∧ ∀ u10 : MM, u10 = up u 1 (s1.toNatClampNeg) s0 → ((x3 = 0 → (vp_in ((38 + x2)) 944 ∧ (wX11_know_b128 N K x4 ((u10 1 (38 + x2).toNatClampNeg) &&& (((1 : Int32) <<< (x1 &&& 31)) ^^^ ((-1) : Int32))) (38 + x2) u10))) ∧ (¬ x3 = 0 → (vp_in ((38 + x2)) 944 ∧ (wX11_know_b128 N K x4 ((u10 1 (38 + x2).toNatClampNeg) ||| ((1 : Int32) <<< (x1 &&& 31))) (38 + x2) u10)))))
def wX11_know (N : Nat) (x1 : Int32) (x2 : Int32) (x3 : Int32) (u : MM) (K : Int32 → MM → Prop) : Prop := (wX11_isPerson N x1 u (fun r1 u2 => ((r1 = 0 → (K (-1) u2)) ∧ (¬ r1 = 0 → (wX11_isPerson N x2 u2 (fun r4 u5 => ((¬ r4 = 0 → ((¬ x1 = x2 → (vp_in ((38 + x1)) 944 ∧ (∀ y8 : Int32, y8 = (((u5 1 (38 + x1).toNatClampNeg) >>> (x2 &&& 31)) &&& 1) → ((x3 = 0 → (vp_in ((38 + x1)) 944 ∧ (wX11_know_b84 N K x1 x2 x3 y8 ((u5 1 (38 + x1).toNatClampNeg) &&& (((1 : Int32) <<< (x2 &&& 31)) ^^^ ((-1) : Int32))) (38 + x1) u5))) ∧ (¬ x3 = 0 → (vp_in ((38 + x1)) 944 ∧ (wX11_know_b84 N K x1 x2 x3 y8 ((u5 1 (38 + x1).toNatClampNeg) ||| ((1 : Int32) <<< (x2 &&& 31))) (38 + x1) u5))))))) ∧ (x1 = x2 → (K (-2) u5)))) ∧ (r4 = 0 → (K (-1) u5)))))))))
set_option maxRecDepth 100000 in
set_option maxHeartbeats 4000000 in
theorem tX11_know_b128 (l : Launch) (D : va_G) (cI cZ : ClassId) (ad q : Nat → Nat) (N : Nat) {p : Program} {e : Env} {s : State} {m : MethodId} {args : Array Value} {below : List Frame} {meth : Method} {c : Code} {K : Int32 → MM → Prop} (C : CX p s m args meth c cX11_know 5 RX11 (some .int) D cI cZ ad (AJ 9 q s.heap.size)) : ∀ (x4 : Int32) (s0 : Int32) (s1 : Int32) (u : MM), wX11_know_b128 N K x4 s0 s1 u → JX p l e (rr 2 43) s m args below meth c D (AJ 9 q s.heap.size) 5 (MQ below ((QI D 9 q (entM q cI cZ) K) (AJ 9 q s.heap.size)) args s 0 0 (AJ 9 q s.heap.size)) 9 q (entM q cI cZ) u 128 [(4, .int x4)] [.int s0, .int s1, .ref (q 1)] := by
    intro x4 s0 s1 u h
    obtain ⟨hin, h⟩ := h
    refine j_iastoreK (N := 944) C 1 _ rfl hin (by decide) (fun _ => rfl) rfl dX11_know_128 (fun u12 eu12 => ?_)
    have h := h u12 eu12
    refine j_iload C 0 dX11_know_129 rfl ?_
    exact j_iret C dX11_know_131 h
set_option maxRecDepth 100000 in
set_option maxHeartbeats 4000000 in
theorem tX11_know_b84 (l : Launch) (D : va_G) (cI cZ : ClassId) (ad q : Nat → Nat) (N : Nat) {p : Program} {e : Env} {s : State} {m : MethodId} {args : Array Value} {below : List Frame} {meth : Method} {c : Code} {K : Int32 → MM → Prop} (C : CX p s m args meth c cX11_know 5 RX11 (some .int) D cI cZ ad (AJ 9 q s.heap.size)) : ∀ (x1 : Int32) (x2 : Int32) (x3 : Int32) (x4 : Int32) (s0 : Int32) (s1 : Int32) (u : MM), wX11_know_b84 N K x1 x2 x3 x4 s0 s1 u → JX p l e (rr 2 43) s m args below meth c D (AJ 9 q s.heap.size) 5 (MQ below ((QI D 9 q (entM q cI cZ) K) (AJ 9 q s.heap.size)) args s 0 0 (AJ 9 q s.heap.size)) 9 q (entM q cI cZ) u 84 [(0, .ref (q 0)), (1, .int x1), (2, .int x2), (3, .int x3), (4, .int x4)] [.int s0, .int s1, .ref (q 1)] := by
    intro x1 x2 x3 x4 s0 s1 u h
    obtain ⟨hin, h⟩ := h
    refine j_iastoreK (N := 944) C 1 _ rfl hin (by decide) (fun _ => rfl) rfl dX11_know_84 (fun u10 eu10 => ?_)
    have h := h u10 eu10
    refine j_aload_n C 0 dX11_know_85 rfl ?_
    refine j_get C 0 1 (ly_X11 C.2.2.2.2.2.2.2.1.1) q_636 rfl rfl (by decide) rfl rfl (by decide) rfl dX11_know_86 ?_
    refine j_bipush (v := 38) C dX11_know_89 (by decide) ?_
    refine j_iload_n C 2 dX11_know_91 rfl ?_
    refine j_iadd C dX11_know_92 ?_
    refine j_iload_n C 3 dX11_know_93 rfl ?_
    refine j_if_eq C 113 dX11_know_94 (by decide) (fun c11 => ?_) (fun c11 => ?_)
    · have h := h.1 c11
      refine j_aload_n C 0 dX11_know_113 rfl ?_
      refine j_get C 0 1 (ly_X11 C.2.2.2.2.2.2.2.1.1) q_636 rfl rfl (by decide) rfl rfl (by decide) rfl dX11_know_114 ?_
      refine j_bipush (v := 38) C dX11_know_117 (by decide) ?_
      refine j_iload_n C 2 dX11_know_119 rfl ?_
      refine j_iadd C dX11_know_120 ?_
      obtain ⟨hin, h⟩ := h
      refine j_ialoadK (N := 944) C 1 _ rfl hin (by decide) rfl rfl dX11_know_121 ?_
      refine j_iconst (v := 1) C dX11_know_122 (by decide) ?_
      refine j_iload_n C 1 dX11_know_123 rfl ?_
      refine j_ishl C dX11_know_124 ?_
      refine j_iconst (v := (-1)) C dX11_know_125 (by decide) ?_
      refine j_ixor C dX11_know_126 ?_
      refine j_iand C dX11_know_127 ?_
      refine j_sub (lv' := [(4, .int x4)]) [4] rfl ?_
      exact tX11_know_b128 l D cI cZ ad q N C _ _ _ _ h
    · have h := h.2 c11
      refine j_aload_n C 0 dX11_know_97 rfl ?_
      refine j_get C 0 1 (ly_X11 C.2.2.2.2.2.2.2.1.1) q_636 rfl rfl (by decide) rfl rfl (by decide) rfl dX11_know_98 ?_
      refine j_bipush (v := 38) C dX11_know_101 (by decide) ?_
      refine j_iload_n C 2 dX11_know_103 rfl ?_
      refine j_iadd C dX11_know_104 ?_
      obtain ⟨hin, h⟩ := h
      refine j_ialoadK (N := 944) C 1 _ rfl hin (by decide) rfl rfl dX11_know_105 ?_
      refine j_iconst (v := 1) C dX11_know_106 (by decide) ?_
      refine j_iload_n C 1 dX11_know_107 rfl ?_
      refine j_ishl C dX11_know_108 ?_
      refine j_ior C dX11_know_109 ?_
      refine j_goto C 128 dX11_know_110 (by decide) ?_
      refine j_sub (lv' := [(4, .int x4)]) [4] rfl ?_
      exact tX11_know_b128 l D cI cZ ad q N C _ _ _ _ h
set_option maxRecDepth 100000 in
set_option maxHeartbeats 4000000 in
theorem kX_X11_know (l : Launch) (D : va_G) (cI cZ : ClassId) (ad q : Nat → Nat) (N : Nat) {x1 : Int32} {x2 : Int32} {x3 : Int32} {u : MM} {K : Int32 → MM → Prop} (h : wX11_know N x1 x2 x3 u K) : CT l D cI cZ ad 9 q (entM q cI cZ) yX11_know cX11_know 5 (some .int) (rr 2 43) [.ref (q 0), .int x1, .int x2, .int x3] u (QI D 9 q (entM q cI cZ) K) := by
    refine ct_of (by decide +kernel) (Nat.le_of_ble_eq_true rfl) (fun p e s m args below meth c C => ?_)
    refine j_sub (lv' := [(0, .ref (q 0)), (1, .int x1), (2, .int x2), (3, .int x3)]) [0, 1, 2, 3] rfl ?_
    refine j_aload_n C 0 dX11_know_0 rfl ?_
    refine j_iload_n C 1 dX11_know_1 rfl ?_
    refine j_wi C (fun H locs ls hP hD hS hl => run_V (Cn := "") (As := [.int x1]) (st := []) C mf_X11_isPerson 0 (kX_X11_isPerson l D cI cZ ad q N h) q_720 (by decide) rfl rfl rfl rfl ⟨rfl, rfl, by decide, by decide⟩ (Nat.le_of_ble_eq_true rfl) dX11_know_2 hP hD hS hl) (fun r1 u2 h => ?_)
    refine j_if_eq C 16 dX11_know_5 (by decide) (fun c3 => ?_) (fun c3 => ?_)
    · have h := h.1 c3
      refine j_iconst (v := (-1)) C dX11_know_16 (by decide) ?_
      exact j_iret C dX11_know_17 h
    · have h := h.2 c3
      refine j_aload_n C 0 dX11_know_8 rfl ?_
      refine j_iload_n C 2 dX11_know_9 rfl ?_
      refine j_wi C (fun H locs ls hP hD hS hl => run_V (Cn := "") (As := [.int x2]) (st := []) C mf_X11_isPerson 0 (kX_X11_isPerson l D cI cZ ad q N h) q_720 (by decide) rfl rfl rfl rfl ⟨rfl, rfl, by decide, by decide⟩ (Nat.le_of_ble_eq_true rfl) dX11_know_10 hP hD hS hl) (fun r4 u5 h => ?_)
      refine j_if_ne C 18 dX11_know_13 (by decide) (fun c6 => ?_) (fun c6 => ?_)
      · have h := h.1 c6
        refine j_iload_n C 1 dX11_know_18 rfl ?_
        refine j_iload_n C 2 dX11_know_19 rfl ?_
        refine j_icmp_ne C 26 dX11_know_20 (by decide) (fun c7 => ?_) (fun c7 => ?_)
        · have h := h.1 c7
          refine j_aload_n C 0 dX11_know_26 rfl ?_
          refine j_get C 0 1 (ly_X11 C.2.2.2.2.2.2.2.1.1) q_636 rfl rfl (by decide) rfl rfl (by decide) rfl dX11_know_27 ?_
          refine j_bipush (v := 38) C dX11_know_30 (by decide) ?_
          refine j_iload_n C 1 dX11_know_32 rfl ?_
          refine j_iadd C dX11_know_33 ?_
          obtain ⟨hin, h⟩ := h
          refine j_ialoadK (N := 944) C 1 _ rfl hin (by decide) rfl rfl dX11_know_34 ?_
          refine j_iload_n C 2 dX11_know_35 rfl ?_
          refine j_ishr C dX11_know_36 ?_
          refine j_iconst (v := 1) C dX11_know_37 (by decide) ?_
          refine j_iand C dX11_know_38 ?_
          refine j_nmi (fun y8 ey8 => ?_)
          have h := h y8 ey8
          refine j_istore (lv' := [(4, .int y8), (0, .ref (q 0)), (1, .int x1), (2, .int x2), (3, .int x3)]) C dX11_know_39 (by decide) rfl ?_
          refine j_aload_n C 1 dX11_know_41 rfl ?_
          refine j_get C 0 1 (ly_X11 C.2.2.2.2.2.2.2.1.1) q_636 rfl rfl (by decide) rfl rfl (by decide) rfl dX11_know_42 ?_
          refine j_bipush (v := 38) C dX11_know_45 (by decide) ?_
          refine j_iload_n C 2 dX11_know_47 rfl ?_
          refine j_iadd C dX11_know_48 ?_
          refine j_iload_n C 4 dX11_know_49 rfl ?_
          refine j_if_eq C 69 dX11_know_50 (by decide) (fun c9 => ?_) (fun c9 => ?_)
          · have h := h.1 c9
            refine j_aload_n C 1 dX11_know_69 rfl ?_
            refine j_get C 0 1 (ly_X11 C.2.2.2.2.2.2.2.1.1) q_636 rfl rfl (by decide) rfl rfl (by decide) rfl dX11_know_70 ?_
            refine j_bipush (v := 38) C dX11_know_73 (by decide) ?_
            refine j_iload_n C 2 dX11_know_75 rfl ?_
            refine j_iadd C dX11_know_76 ?_
            obtain ⟨hin, h⟩ := h
            refine j_ialoadK (N := 944) C 1 _ rfl hin (by decide) rfl rfl dX11_know_77 ?_
            refine j_iconst (v := 1) C dX11_know_78 (by decide) ?_
            refine j_iload_n C 3 dX11_know_79 rfl ?_
            refine j_ishl C dX11_know_80 ?_
            refine j_iconst (v := (-1)) C dX11_know_81 (by decide) ?_
            refine j_ixor C dX11_know_82 ?_
            refine j_iand C dX11_know_83 ?_
            refine j_sub (lv' := [(0, .ref (q 0)), (1, .int x1), (2, .int x2), (3, .int x3), (4, .int y8)]) [1, 2, 3, 4, 0] rfl ?_
            exact tX11_know_b84 l D cI cZ ad q N C _ _ _ _ _ _ _ h
          · have h := h.2 c9
            refine j_aload_n C 1 dX11_know_53 rfl ?_
            refine j_get C 0 1 (ly_X11 C.2.2.2.2.2.2.2.1.1) q_636 rfl rfl (by decide) rfl rfl (by decide) rfl dX11_know_54 ?_
            refine j_bipush (v := 38) C dX11_know_57 (by decide) ?_
            refine j_iload_n C 2 dX11_know_59 rfl ?_
            refine j_iadd C dX11_know_60 ?_
            obtain ⟨hin, h⟩ := h
            refine j_ialoadK (N := 944) C 1 _ rfl hin (by decide) rfl rfl dX11_know_61 ?_
            refine j_iconst (v := 1) C dX11_know_62 (by decide) ?_
            refine j_iload_n C 3 dX11_know_63 rfl ?_
            refine j_ishl C dX11_know_64 ?_
            refine j_ior C dX11_know_65 ?_
            refine j_goto C 84 dX11_know_66 (by decide) ?_
            refine j_sub (lv' := [(0, .ref (q 0)), (1, .int x1), (2, .int x2), (3, .int x3), (4, .int y8)]) [1, 2, 3, 4, 0] rfl ?_
            exact tX11_know_b84 l D cI cZ ad q N C _ _ _ _ _ _ _ h
        · have h := h.2 c7
          refine j_bipush (v := (-2)) C dX11_know_23 (by decide) ?_
          exact j_iret C dX11_know_25 h
      · have h := h.2 c6
        refine j_iconst (v := (-1)) C dX11_know_16 (by decide) ?_
        exact j_iret C dX11_know_17 h

def wX11_row_b23 (N : Nat) (K : Int32 → MM → Prop) (x1 : Int32) (x2 : Int32) (u : MM) : Prop := (vp_in ((24 + x1)) 944 ∧ (((u 1 (24 + x1).toNatClampNeg) = 6 → ((¬ x2 = (-1) → (vp_in ((45 + x1)) 944 ∧ ((¬ (u 1 (45 + x1).toNatClampNeg) = 7 → (vp_in ((45 + x1)) 944 ∧ (vp_in (((52 + (7 * x1)) + (u 1 (45 + x1).toNatClampNeg))) 944 ∧ ∀ u11 : MM, u11 = up u 1 (((52 + (7 * x1)) + (u 1 (45 + x1).toNatClampNeg)).toNatClampNeg) x2 → (vp_in ((45 + x1)) 944 ∧ (vp_in ((45 + x1)) 944 ∧ ∀ u12 : MM, u12 = up u11 1 ((45 + x1).toNatClampNeg) ((u11 1 (45 + x1).toNatClampNeg) + 1) → (vp_in ((45 + x1)) 944 ∧ (K (u12 1 (45 + x1).toNatClampNeg) u12))))))) ∧ ((u 1 (45 + x1).toNatClampNeg) = 7 → (K (-4) u))))) ∧ (x2 = (-1) → (vp_in ((45 + x1)) 944 ∧ ∀ u13 : MM, u13 = up u 1 ((45 + x1).toNatClampNeg) 0 → (K 0 u13))))) ∧ (¬ (u 1 (24 + x1).toNatClampNeg) = 6 → (K (-3) u))))
def wX11_row (N : Nat) (x1 : Int32) (x2 : Int32) (u : MM) (K : Int32 → MM → Prop) : Prop := (wX11_isPerson N x1 u (fun r1 u2 => ((r1 = 0 → (K (-1) u2)) ∧ (¬ r1 = 0 → ((x2 = (-1) → (wX11_row_b23 N K x1 x2 u2)) ∧ (¬ x2 = (-1) → (wX11_isPerson N x2 u2 (fun r5 u6 => ((¬ r5 = 0 → (wX11_row_b23 N K x1 x2 u6)) ∧ (r5 = 0 → (K (-1) u6)))))))))))
set_option maxRecDepth 100000 in
set_option maxHeartbeats 4000000 in
theorem tX11_row_b23 (l : Launch) (D : va_G) (cI cZ : ClassId) (ad q : Nat → Nat) (N : Nat) {p : Program} {e : Env} {s : State} {m : MethodId} {args : Array Value} {below : List Frame} {meth : Method} {c : Code} {K : Int32 → MM → Prop} (C : CX p s m args meth c cX11_row 3 RX11 (some .int) D cI cZ ad (AJ 9 q s.heap.size)) : ∀ (x1 : Int32) (x2 : Int32) (u : MM), wX11_row_b23 N K x1 x2 u → JX p l e (rr 2 43) s m args below meth c D (AJ 9 q s.heap.size) 3 (MQ below ((QI D 9 q (entM q cI cZ) K) (AJ 9 q s.heap.size)) args s 0 0 (AJ 9 q s.heap.size)) 9 q (entM q cI cZ) u 23 [(0, .ref (q 0)), (1, .int x1), (2, .int x2)] [] := by
    intro x1 x2 u h
    refine j_aload_n C 0 dX11_row_23 rfl ?_
    refine j_get C 0 1 (ly_X11 C.2.2.2.2.2.2.2.1.1) q_636 rfl rfl (by decide) rfl rfl (by decide) rfl dX11_row_24 ?_
    refine j_bipush (v := 24) C dX11_row_27 (by decide) ?_
    refine j_iload_n C 1 dX11_row_29 rfl ?_
    refine j_iadd C dX11_row_30 ?_
    obtain ⟨hin, h⟩ := h
    refine j_ialoadK (N := 944) C 1 _ rfl hin (by decide) rfl rfl dX11_row_31 ?_
    refine j_bipush (v := 6) C dX11_row_32 (by decide) ?_
    refine j_icmp_eq C 40 dX11_row_34 (by decide) (fun c8 => ?_) (fun c8 => ?_)
    · have h := h.1 c8
      refine j_iload_n C 2 dX11_row_40 rfl ?_
      refine j_iconst (v := (-1)) C dX11_row_41 (by decide) ?_
      refine j_icmp_ne C 57 dX11_row_42 (by decide) (fun c9 => ?_) (fun c9 => ?_)
      · have h := h.1 c9
        refine j_aload_n C 0 dX11_row_57 rfl ?_
        refine j_get C 0 1 (ly_X11 C.2.2.2.2.2.2.2.1.1) q_636 rfl rfl (by decide) rfl rfl (by decide) rfl dX11_row_58 ?_
        refine j_bipush (v := 45) C dX11_row_61 (by decide) ?_
        refine j_iload_n C 1 dX11_row_63 rfl ?_
        refine j_iadd C dX11_row_64 ?_
        obtain ⟨hin, h⟩ := h
        refine j_ialoadK (N := 944) C 1 _ rfl hin (by decide) rfl rfl dX11_row_65 ?_
        refine j_bipush (v := 7) C dX11_row_66 (by decide) ?_
        refine j_icmp_ne C 74 dX11_row_68 (by decide) (fun c10 => ?_) (fun c10 => ?_)
        · have h := h.1 c10
          refine j_aload_n C 0 dX11_row_74 rfl ?_
          refine j_get C 0 1 (ly_X11 C.2.2.2.2.2.2.2.1.1) q_636 rfl rfl (by decide) rfl rfl (by decide) rfl dX11_row_75 ?_
          refine j_bipush (v := 52) C dX11_row_78 (by decide) ?_
          refine j_bipush (v := 7) C dX11_row_80 (by decide) ?_
          refine j_iload_n C 1 dX11_row_82 rfl ?_
          refine j_imul C dX11_row_83 ?_
          refine j_iadd C dX11_row_84 ?_
          refine j_aload_n C 0 dX11_row_85 rfl ?_
          refine j_get C 0 1 (ly_X11 C.2.2.2.2.2.2.2.1.1) q_636 rfl rfl (by decide) rfl rfl (by decide) rfl dX11_row_86 ?_
          refine j_bipush (v := 45) C dX11_row_89 (by decide) ?_
          refine j_iload_n C 1 dX11_row_91 rfl ?_
          refine j_iadd C dX11_row_92 ?_
          obtain ⟨hin, h⟩ := h
          refine j_ialoadK (N := 944) C 1 _ rfl hin (by decide) rfl rfl dX11_row_93 ?_
          refine j_iadd C dX11_row_94 ?_
          refine j_iload_n C 2 dX11_row_95 rfl ?_
          obtain ⟨hin, h⟩ := h
          refine j_iastoreK (N := 944) C 1 _ rfl hin (by decide) (fun _ => rfl) rfl dX11_row_96 (fun u11 eu11 => ?_)
          have h := h u11 eu11
          refine j_aload_n C 0 dX11_row_97 rfl ?_
          refine j_get C 0 1 (ly_X11 C.2.2.2.2.2.2.2.1.1) q_636 rfl rfl (by decide) rfl rfl (by decide) rfl dX11_row_98 ?_
          refine j_bipush (v := 45) C dX11_row_101 (by decide) ?_
          refine j_iload_n C 1 dX11_row_103 rfl ?_
          refine j_iadd C dX11_row_104 ?_
          refine j_dup2 C dX11_row_105 rfl rfl ?_
          obtain ⟨hin, h⟩ := h
          refine j_ialoadK (N := 944) C 1 _ rfl hin (by decide) rfl rfl dX11_row_106 ?_
          refine j_iconst (v := 1) C dX11_row_107 (by decide) ?_
          refine j_iadd C dX11_row_108 ?_
          obtain ⟨hin, h⟩ := h
          refine j_iastoreK (N := 944) C 1 _ rfl hin (by decide) (fun _ => rfl) rfl dX11_row_109 (fun u12 eu12 => ?_)
          have h := h u12 eu12
          refine j_aload_n C 0 dX11_row_110 rfl ?_
          refine j_get C 0 1 (ly_X11 C.2.2.2.2.2.2.2.1.1) q_636 rfl rfl (by decide) rfl rfl (by decide) rfl dX11_row_111 ?_
          refine j_bipush (v := 45) C dX11_row_114 (by decide) ?_
          refine j_iload_n C 1 dX11_row_116 rfl ?_
          refine j_iadd C dX11_row_117 ?_
          obtain ⟨hin, h⟩ := h
          refine j_ialoadK (N := 944) C 1 _ rfl hin (by decide) rfl rfl dX11_row_118 ?_
          exact j_iret C dX11_row_119 h
        · have h := h.2 c10
          refine j_bipush (v := (-4)) C dX11_row_71 (by decide) ?_
          exact j_iret C dX11_row_73 h
      · have h := h.2 c9
        refine j_aload_n C 0 dX11_row_45 rfl ?_
        refine j_get C 0 1 (ly_X11 C.2.2.2.2.2.2.2.1.1) q_636 rfl rfl (by decide) rfl rfl (by decide) rfl dX11_row_46 ?_
        refine j_bipush (v := 45) C dX11_row_49 (by decide) ?_
        refine j_iload_n C 1 dX11_row_51 rfl ?_
        refine j_iadd C dX11_row_52 ?_
        refine j_iconst (v := 0) C dX11_row_53 (by decide) ?_
        obtain ⟨hin, h⟩ := h
        refine j_iastoreK (N := 944) C 1 _ rfl hin (by decide) (fun _ => rfl) rfl dX11_row_54 (fun u13 eu13 => ?_)
        have h := h u13 eu13
        refine j_iconst (v := 0) C dX11_row_55 (by decide) ?_
        exact j_iret C dX11_row_56 h
    · have h := h.2 c8
      refine j_bipush (v := (-3)) C dX11_row_37 (by decide) ?_
      exact j_iret C dX11_row_39 h
set_option maxRecDepth 100000 in
set_option maxHeartbeats 4000000 in
theorem kX_X11_row (l : Launch) (D : va_G) (cI cZ : ClassId) (ad q : Nat → Nat) (N : Nat) {x1 : Int32} {x2 : Int32} {u : MM} {K : Int32 → MM → Prop} (h : wX11_row N x1 x2 u K) : CT l D cI cZ ad 9 q (entM q cI cZ) yX11_row cX11_row 3 (some .int) (rr 2 43) [.ref (q 0), .int x1, .int x2] u (QI D 9 q (entM q cI cZ) K) := by
    refine ct_of (by decide +kernel) (Nat.le_of_ble_eq_true rfl) (fun p e s m args below meth c C => ?_)
    refine j_sub (lv' := [(0, .ref (q 0)), (1, .int x1), (2, .int x2)]) [0, 1, 2] rfl ?_
    refine j_aload_n C 0 dX11_row_0 rfl ?_
    refine j_iload_n C 1 dX11_row_1 rfl ?_
    refine j_wi C (fun H locs ls hP hD hS hl => run_V (Cn := "") (As := [.int x1]) (st := []) C mf_X11_isPerson 0 (kX_X11_isPerson l D cI cZ ad q N h) q_720 (by decide) rfl rfl rfl rfl ⟨rfl, rfl, by decide, by decide⟩ (Nat.le_of_ble_eq_true rfl) dX11_row_2 hP hD hS hl) (fun r1 u2 h => ?_)
    refine j_if_eq C 21 dX11_row_5 (by decide) (fun c3 => ?_) (fun c3 => ?_)
    · have h := h.1 c3
      refine j_iconst (v := (-1)) C dX11_row_21 (by decide) ?_
      exact j_iret C dX11_row_22 h
    · have h := h.2 c3
      refine j_iload_n C 2 dX11_row_8 rfl ?_
      refine j_iconst (v := (-1)) C dX11_row_9 (by decide) ?_
      refine j_icmp_eq C 23 dX11_row_10 (by decide) (fun c4 => ?_) (fun c4 => ?_)
      · have h := h.1 c4
        exact tX11_row_b23 l D cI cZ ad q N C _ _ _ h
      · have h := h.2 c4
        refine j_aload_n C 0 dX11_row_13 rfl ?_
        refine j_iload_n C 2 dX11_row_14 rfl ?_
        refine j_wi C (fun H locs ls hP hD hS hl => run_V (Cn := "") (As := [.int x2]) (st := []) C mf_X11_isPerson 0 (kX_X11_isPerson l D cI cZ ad q N h) q_720 (by decide) rfl rfl rfl rfl ⟨rfl, rfl, by decide, by decide⟩ (Nat.le_of_ble_eq_true rfl) dX11_row_15 hP hD hS hl) (fun r5 u6 h => ?_)
        refine j_if_ne C 23 dX11_row_18 (by decide) (fun c7 => ?_) (fun c7 => ?_)
        · have h := h.1 c7
          exact tX11_row_b23 l D cI cZ ad q N C _ _ _ h
        · have h := h.2 c7
          refine j_iconst (v := (-1)) C dX11_row_21 (by decide) ?_
          exact j_iret C dX11_row_22 h

def wX11_told (N : Nat) (x1 : Int32) (u : MM) (K : Int32 → MM → Prop) : Prop := ((x1 = 0 → (K (u 1 0) u)) ∧ (¬ x1 = 0 → ((x1 = 1 → (K (u 1 1) u)) ∧ (¬ x1 = 1 → ((x1 = 2 → (wX11_tellsOf N 229 1 u (fun r4 u5 => (K r4 u5)))) ∧ (¬ x1 = 2 → ((x1 = 3 → (wX11_tellsOf N 234 0 u (fun r7 u8 => (K (r7 - r7 / 2 * 2) u8)))) ∧ (¬ x1 = 3 → ((x1 = 4 → (K (u 1 2) u)) ∧ (¬ x1 = 4 → (K (-1) u)))))))))))
set_option maxRecDepth 100000 in
set_option maxHeartbeats 4000000 in
theorem kX_X11_told (l : Launch) (D : va_G) (cI cZ : ClassId) (ad q : Nat → Nat) (N : Nat) {x1 : Int32} {u : MM} {K : Int32 → MM → Prop} (h : wX11_told N x1 u K) : CT l D cI cZ ad 9 q (entM q cI cZ) yX11_told cX11_told 2 (some .int) (rr 1 22) [.ref (q 0), .int x1] u (QI D 9 q (entM q cI cZ) K) := by
    refine ct_of (by decide +kernel) (Nat.le_of_ble_eq_true rfl) (fun p e s m args below meth c C => ?_)
    refine j_sub (lv' := [(0, .ref (q 0)), (1, .int x1)]) [0, 1] rfl ?_
    refine j_iload_n C 1 dX11_told_0 rfl ?_
    by_cases c1 : x1 = 0
    · have h := h.1 c1
      refine j_tabIn C (v := 0) c1 (off := 35) 36 dX11_told_1 (by decide) (by decide) (by decide) (by decide) ?_
      refine j_aload_n C 0 dX11_told_36 rfl ?_
      refine j_get C 0 1 (ly_X11 C.2.2.2.2.2.2.2.1.1) q_636 rfl rfl (by decide) rfl rfl (by decide) rfl dX11_told_37 ?_
      refine j_iconst (v := 0) C dX11_told_40 (by decide) ?_
      refine j_ialoadK (N := 944) C 1 0 (by decide) (show ¬ ((0 : Int32) < 0 ∨ 944 ≤ (0 : Int32).toNatClampNeg) by decide) (by decide) rfl rfl dX11_told_41 ?_
      exact j_iret C dX11_told_42 h
    · have h := h.2 c1
      by_cases c2 : x1 = 1
      · have h := h.1 c2
        refine j_tabIn C (v := 1) c2 (off := 42) 43 dX11_told_1 (by decide) (by decide) (by decide) (by decide) ?_
        refine j_aload_n C 0 dX11_told_43 rfl ?_
        refine j_get C 0 1 (ly_X11 C.2.2.2.2.2.2.2.1.1) q_636 rfl rfl (by decide) rfl rfl (by decide) rfl dX11_told_44 ?_
        refine j_iconst (v := 1) C dX11_told_47 (by decide) ?_
        refine j_ialoadK (N := 944) C 1 1 (by decide) (show ¬ ((1 : Int32) < 0 ∨ 944 ≤ (1 : Int32).toNatClampNeg) by decide) (by decide) rfl rfl dX11_told_48 ?_
        exact j_iret C dX11_told_49 h
      · have h := h.2 c2
        by_cases c3 : x1 = 2
        · have h := h.1 c3
          refine j_tabIn C (v := 2) c3 (off := 49) 50 dX11_told_1 (by decide) (by decide) (by decide) (by decide) ?_
          refine j_aload_n C 0 dX11_told_50 rfl ?_
          refine j_sipush (v := 229) C dX11_told_51 (by decide) ?_
          refine j_iconst (v := 1) C dX11_told_54 (by decide) ?_
          refine j_wi C (fun H locs ls hP hD hS hl => run_V (Cn := "") (As := [.int 229, .int 1]) (st := []) C mf_X11_tellsOf 0 (kX_X11_tellsOf l D cI cZ ad q N h) q_735 (by decide) rfl rfl rfl rfl ⟨rfl, rfl, by decide, by decide⟩ (Nat.le_of_ble_eq_true rfl) dX11_told_55 hP hD hS hl) (fun r4 u5 h => ?_)
          exact j_iret C dX11_told_58 h
        · have h := h.2 c3
          by_cases c6 : x1 = 3
          · have h := h.1 c6
            refine j_tabIn C (v := 3) c6 (off := 58) 59 dX11_told_1 (by decide) (by decide) (by decide) (by decide) ?_
            refine j_aload_n C 0 dX11_told_59 rfl ?_
            refine j_sipush (v := 234) C dX11_told_60 (by decide) ?_
            refine j_iconst (v := 0) C dX11_told_63 (by decide) ?_
            refine j_wi C (fun H locs ls hP hD hS hl => run_V (Cn := "") (As := [.int 234, .int 0]) (st := []) C mf_X11_tellsOf 0 (kX_X11_tellsOf l D cI cZ ad q N h) q_735 (by decide) rfl rfl rfl rfl ⟨rfl, rfl, by decide, by decide⟩ (Nat.le_of_ble_eq_true rfl) dX11_told_64 hP hD hS hl) (fun r7 u8 h => ?_)
            refine j_iconst (v := 2) C dX11_told_67 (by decide) ?_
            refine j_irem C dX11_told_68 (by decide) ?_
            exact j_iret C dX11_told_69 h
          · have h := h.2 c6
            by_cases c9 : x1 = 4
            · have h := h.1 c9
              refine j_tabIn C (v := 4) c9 (off := 69) 70 dX11_told_1 (by decide) (by decide) (by decide) (by decide) ?_
              refine j_aload_n C 0 dX11_told_70 rfl ?_
              refine j_get C 0 1 (ly_X11 C.2.2.2.2.2.2.2.1.1) q_636 rfl rfl (by decide) rfl rfl (by decide) rfl dX11_told_71 ?_
              refine j_iconst (v := 2) C dX11_told_74 (by decide) ?_
              refine j_ialoadK (N := 944) C 1 2 (by decide) (show ¬ ((2 : Int32) < 0 ∨ 944 ≤ (2 : Int32).toNatClampNeg) by decide) (by decide) rfl rfl dX11_told_75 ?_
              exact j_iret C dX11_told_76 h
            · have h := h.2 c9
              refine j_tabOut C 77 dX11_told_1 (by have z0 : x1.toInt ≠ 0 := sw_ne c1; have z1 : x1.toInt ≠ 1 := sw_ne c2; have z2 : x1.toInt ≠ 2 := sw_ne c3; have z3 : x1.toInt ≠ 3 := sw_ne c6; have z4 : x1.toInt ≠ 4 := sw_ne c9; omega) (by decide) ?_
              refine j_iconst (v := (-1)) C dX11_told_77 (by decide) ?_
              exact j_iret C dX11_told_78 h

def wX11_begins (N : Nat) (x1 : Int32) (x2 : Int32) (u : MM) (K : MM → Prop) : Prop := (∀ u1 : MM, u1 = up u 1 2 ((1 : Int32) <<< (x1 &&& 31)) → (∀ u2 : MM, u2 = up u1 1 3 0 → (vp_in ((4 + x1)) 944 ∧ ∀ u3 : MM, u3 = up u2 1 ((4 + x1).toNatClampNeg) x2 → (vp_in ((11 + x1)) 944 ∧ ∀ u4 : MM, u4 = up u3 1 ((11 + x1).toNatClampNeg) (u3 1 0) → (∀ u5 : MM, u5 = up u4 1 1 0 → (K u5))))))
set_option maxRecDepth 100000 in
set_option maxHeartbeats 4000000 in
theorem kX_X11_begins (l : Launch) (D : va_G) (cI cZ : ClassId) (ad q : Nat → Nat) (N : Nat) {x1 : Int32} {x2 : Int32} {u : MM} {K : MM → Prop} (h : wX11_begins N x1 x2 u K) : CT l D cI cZ ad 9 q (entM q cI cZ) yX11_begins cX11_begins 3 none (rr 0 0) [.ref (q 0), .int x1, .int x2] u (QV D 9 q (entM q cI cZ) K) := by
    refine ct_of (by decide +kernel) (Nat.le_of_ble_eq_true rfl) (fun p e s m args below meth c C => ?_)
    refine j_sub (lv' := [(0, .ref (q 0)), (1, .int x1), (2, .int x2)]) [0, 1, 2] rfl ?_
    refine j_aload_n C 0 dX11_begins_0 rfl ?_
    refine j_get C 0 1 (ly_X11 C.2.2.2.2.2.2.2.1.1) q_636 rfl rfl (by decide) rfl rfl (by decide) rfl dX11_begins_1 ?_
    refine j_iconst (v := 2) C dX11_begins_4 (by decide) ?_
    refine j_iconst (v := 1) C dX11_begins_5 (by decide) ?_
    refine j_iload_n C 1 dX11_begins_6 rfl ?_
    refine j_ishl C dX11_begins_7 ?_
    refine j_iastoreK (N := 944) C 1 2 (by decide) (show ¬ ((2 : Int32) < 0 ∨ 944 ≤ (2 : Int32).toNatClampNeg) by decide) (by decide) (fun _ => rfl) rfl dX11_begins_8 (fun u1 eu1 => ?_)
    have h := h u1 eu1
    refine j_aload_n C 0 dX11_begins_9 rfl ?_
    refine j_get C 0 1 (ly_X11 C.2.2.2.2.2.2.2.1.1) q_636 rfl rfl (by decide) rfl rfl (by decide) rfl dX11_begins_10 ?_
    refine j_iconst (v := 3) C dX11_begins_13 (by decide) ?_
    refine j_iconst (v := 0) C dX11_begins_14 (by decide) ?_
    refine j_iastoreK (N := 944) C 1 3 (by decide) (show ¬ ((3 : Int32) < 0 ∨ 944 ≤ (3 : Int32).toNatClampNeg) by decide) (by decide) (fun _ => rfl) rfl dX11_begins_15 (fun u2 eu2 => ?_)
    have h := h u2 eu2
    refine j_aload_n C 0 dX11_begins_16 rfl ?_
    refine j_get C 0 1 (ly_X11 C.2.2.2.2.2.2.2.1.1) q_636 rfl rfl (by decide) rfl rfl (by decide) rfl dX11_begins_17 ?_
    refine j_iconst (v := 4) C dX11_begins_20 (by decide) ?_
    refine j_iload_n C 1 dX11_begins_21 rfl ?_
    refine j_iadd C dX11_begins_22 ?_
    refine j_iload_n C 2 dX11_begins_23 rfl ?_
    obtain ⟨hin, h⟩ := h
    refine j_iastoreK (N := 944) C 1 _ rfl hin (by decide) (fun _ => rfl) rfl dX11_begins_24 (fun u3 eu3 => ?_)
    have h := h u3 eu3
    refine j_aload_n C 0 dX11_begins_25 rfl ?_
    refine j_get C 0 1 (ly_X11 C.2.2.2.2.2.2.2.1.1) q_636 rfl rfl (by decide) rfl rfl (by decide) rfl dX11_begins_26 ?_
    refine j_bipush (v := 11) C dX11_begins_29 (by decide) ?_
    refine j_iload_n C 1 dX11_begins_31 rfl ?_
    refine j_iadd C dX11_begins_32 ?_
    refine j_aload_n C 0 dX11_begins_33 rfl ?_
    refine j_get C 0 1 (ly_X11 C.2.2.2.2.2.2.2.1.1) q_636 rfl rfl (by decide) rfl rfl (by decide) rfl dX11_begins_34 ?_
    refine j_iconst (v := 0) C dX11_begins_37 (by decide) ?_
    refine j_ialoadK (N := 944) C 1 0 (by decide) (show ¬ ((0 : Int32) < 0 ∨ 944 ≤ (0 : Int32).toNatClampNeg) by decide) (by decide) rfl rfl dX11_begins_38 ?_
    obtain ⟨hin, h⟩ := h
    refine j_iastoreK (N := 944) C 1 _ rfl hin (by decide) (fun _ => rfl) rfl dX11_begins_39 (fun u4 eu4 => ?_)
    have h := h u4 eu4
    refine j_aload_n C 0 dX11_begins_40 rfl ?_
    refine j_get C 0 1 (ly_X11 C.2.2.2.2.2.2.2.1.1) q_636 rfl rfl (by decide) rfl rfl (by decide) rfl dX11_begins_41 ?_
    refine j_iconst (v := 1) C dX11_begins_44 (by decide) ?_
    refine j_iconst (v := 0) C dX11_begins_45 (by decide) ?_
    refine j_iastoreK (N := 944) C 1 1 (by decide) (show ¬ ((1 : Int32) < 0 ∨ 944 ≤ (1 : Int32).toNatClampNeg) by decide) (by decide) (fun _ => rfl) rfl dX11_begins_46 (fun u5 eu5 => ?_)
    have h := h u5 eu5
    exact j_vret C dX11_begins_47 h

def wX11_begin (N : Nat) (x1 : Int32) (x2 : Int32) (u : MM) (K : Int32 → MM → Prop) : Prop := (wX11_isPerson N x1 u (fun r1 u2 => ((¬ r1 = 0 → (wX11_in N x2 0 9 (fun r4 => ((¬ r4 = 0 → (wX11_begins N x1 x2 u2 (fun u7 => (K 1 u7)))) ∧ (r4 = 0 → (K (-2) u2)))))) ∧ (r1 = 0 → (K (-1) u2)))))
set_option maxRecDepth 100000 in
set_option maxHeartbeats 4000000 in
theorem kX_X11_begin (l : Launch) (D : va_G) (cI cZ : ClassId) (ad q : Nat → Nat) (N : Nat) {x1 : Int32} {x2 : Int32} {u : MM} {K : Int32 → MM → Prop} (h : wX11_begin N x1 x2 u K) : CT l D cI cZ ad 9 q (entM q cI cZ) yX11_begin cX11_begin 3 (some .int) (rr 2 43) [.ref (q 0), .int x1, .int x2] u (QI D 9 q (entM q cI cZ) K) := by
    refine ct_of (by decide +kernel) (Nat.le_of_ble_eq_true rfl) (fun p e s m args below meth c C => ?_)
    refine j_sub (lv' := [(0, .ref (q 0)), (1, .int x1), (2, .int x2)]) [0, 1, 2] rfl ?_
    refine j_aload_n C 0 dX11_begin_0 rfl ?_
    refine j_iload_n C 1 dX11_begin_1 rfl ?_
    refine j_wi C (fun H locs ls hP hD hS hl => run_V (Cn := "") (As := [.int x1]) (st := []) C mf_X11_isPerson 0 (kX_X11_isPerson l D cI cZ ad q N h) q_720 (by decide) rfl rfl rfl rfl ⟨rfl, rfl, by decide, by decide⟩ (Nat.le_of_ble_eq_true rfl) dX11_begin_2 hP hD hS hl) (fun r1 u2 h => ?_)
    refine j_if_ne C 10 dX11_begin_5 (by decide) (fun c3 => ?_) (fun c3 => ?_)
    · have h := h.1 c3
      refine j_iload_n C 2 dX11_begin_10 rfl ?_
      refine j_iconst (v := 0) C dX11_begin_11 (by decide) ?_
      refine j_bipush (v := 9) C dX11_begin_12 (by decide) ?_
      refine j_ui C (fun H locs ls hP hD => run_S (As := [.int x2, .int 0, .int 9]) (st := []) C mf_X11_in (kX_X11_in l D cI cZ ad q N h) q_667 rfl rfl ⟨rfl, rfl, by decide, by decide⟩ (Nat.le_of_ble_eq_true rfl) dX11_begin_14 hP hD) (fun r4 _ h => ?_)
      refine j_if_ne C 23 dX11_begin_17 (by decide) (fun c5 => ?_) (fun c5 => ?_)
      · have h := h.1 c5
        refine j_aload_n C 0 dX11_begin_23 rfl ?_
        refine j_iload_n C 1 dX11_begin_24 rfl ?_
        refine j_iload_n C 2 dX11_begin_25 rfl ?_
        refine j_wv C (fun H locs ls hP hD hS hl => run_V (Cn := "") (As := [.int x1, .int x2]) (st := []) C mf_X11_begins 0 (kX_X11_begins l D cI cZ ad q N h) q_769 (by decide) rfl rfl rfl rfl ⟨rfl, rfl, by decide, by decide⟩ (Nat.le_of_ble_eq_true rfl) dX11_begin_26 hP hD hS hl) (fun u7 h => ?_)
        refine j_iconst (v := 1) C dX11_begin_29 (by decide) ?_
        exact j_iret C dX11_begin_30 h
      · have h := h.2 c5
        refine j_bipush (v := (-2)) C dX11_begin_20 (by decide) ?_
        exact j_iret C dX11_begin_22 h
    · have h := h.2 c3
      refine j_iconst (v := (-1)) C dX11_begin_8 (by decide) ?_
      exact j_iret C dX11_begin_9 h

def wX11_isToTell (N : Nat) (x1 : Int32) (u : MM) (K : Int32 → MM → Prop) : Prop := (wX11_hasHeard N x1 u (fun r1 u2 => ((r1 = 0 → (K 0 u2)) ∧ (¬ r1 = 0 → (wX11_hasTold N x1 u2 (fun r4 u5 => ((¬ r4 = 0 → (K 0 u5)) ∧ (r4 = 0 → (K 1 u5)))))))))
set_option maxRecDepth 100000 in
set_option maxHeartbeats 4000000 in
theorem kX_X11_isToTell (l : Launch) (D : va_G) (cI cZ : ClassId) (ad q : Nat → Nat) (N : Nat) {x1 : Int32} {u : MM} {K : Int32 → MM → Prop} (h : wX11_isToTell N x1 u K) : CT l D cI cZ ad 9 q (entM q cI cZ) yX11_isToTell cX11_isToTell 2 (some .boolean) (rr 1 21) [.ref (q 0), .int x1] u (QI D 9 q (entM q cI cZ) K) := by
    refine ct_of (by decide +kernel) (Nat.le_of_ble_eq_true rfl) (fun p e s m args below meth c C => ?_)
    refine j_sub (lv' := [(0, .ref (q 0)), (1, .int x1)]) [0, 1] rfl ?_
    refine j_aload_n C 0 dX11_isToTell_0 rfl ?_
    refine j_iload_n C 1 dX11_isToTell_1 rfl ?_
    refine j_wi C (fun H locs ls hP hD hS hl => run_V (Cn := "") (As := [.int x1]) (st := []) C mf_X11_hasHeard 0 (kX_X11_hasHeard l D cI cZ ad q N h) q_723 (by decide) rfl rfl rfl rfl ⟨rfl, rfl, by decide, by decide⟩ (Nat.le_of_ble_eq_true rfl) dX11_isToTell_2 hP hD hS hl) (fun r1 u2 h => ?_)
    refine j_if_eq C 20 dX11_isToTell_5 (by decide) (fun c3 => ?_) (fun c3 => ?_)
    · have h := h.1 c3
      refine j_iconst (v := 0) C dX11_isToTell_20 (by decide) ?_
      exact j_zret C dX11_isToTell_21 rfl h
    · have h := h.2 c3
      refine j_aload_n C 0 dX11_isToTell_8 rfl ?_
      refine j_iload_n C 1 dX11_isToTell_9 rfl ?_
      refine j_wi C (fun H locs ls hP hD hS hl => run_V (Cn := "") (As := [.int x1]) (st := []) C mf_X11_hasTold 0 (kX_X11_hasTold l D cI cZ ad q N h) q_726 (by decide) rfl rfl rfl rfl ⟨rfl, rfl, by decide, by decide⟩ (Nat.le_of_ble_eq_true rfl) dX11_isToTell_10 hP hD hS hl) (fun r4 u5 h => ?_)
      refine j_if_ne C 20 dX11_isToTell_13 (by decide) (fun c6 => ?_) (fun c6 => ?_)
      · have h := h.1 c6
        refine j_iconst (v := 0) C dX11_isToTell_20 (by decide) ?_
        exact j_zret C dX11_isToTell_21 rfl h
      · have h := h.2 c6
        refine j_iconst (v := 1) C dX11_isToTell_16 (by decide) ?_
        refine j_goto C 21 dX11_isToTell_17 (by decide) ?_
        exact j_zret C dX11_isToTell_21 rfl h

def wX11_isDeaf (N : Nat) (x1 : Int32) (u : MM) (K : Int32 → MM → Prop) : Prop := ((x1 = (u 0 16) → (K 1 u)) ∧ (¬ x1 = (u 0 16) → (vp_in ((24 + x1)) 944 ∧ ((¬ (u 1 (24 + x1).toNatClampNeg) = 5 → (K 0 u)) ∧ ((u 1 (24 + x1).toNatClampNeg) = 5 → (vp_in ((31 + x1)) 944 ∧ (¬ ((u 1 (31 + x1).toNatClampNeg) + 2) = 0 ∧ ((¬ ((u 1 0) - (u 1 0) / ((u 1 (31 + x1).toNatClampNeg) + 2) * ((u 1 (31 + x1).toNatClampNeg) + 2)) = 0 → (K 0 u)) ∧ (((u 1 0) - (u 1 0) / ((u 1 (31 + x1).toNatClampNeg) + 2) * ((u 1 (31 + x1).toNatClampNeg) + 2)) = 0 → (K 1 u))))))))))
set_option maxRecDepth 100000 in
set_option maxHeartbeats 4000000 in
theorem kX_X11_isDeaf (l : Launch) (D : va_G) (cI cZ : ClassId) (ad q : Nat → Nat) (N : Nat) {x1 : Int32} {u : MM} {K : Int32 → MM → Prop} (h : wX11_isDeaf N x1 u K) : CT l D cI cZ ad 9 q (entM q cI cZ) yX11_isDeaf cX11_isDeaf 2 (some .boolean) (rr 0 0) [.ref (q 0), .int x1] u (QI D 9 q (entM q cI cZ) K) := by
    refine ct_of (by decide +kernel) (Nat.le_of_ble_eq_true rfl) (fun p e s m args below meth c C => ?_)
    refine j_sub (lv' := [(0, .ref (q 0)), (1, .int x1)]) [0, 1] rfl ?_
    refine j_iload_n C 1 dX11_isDeaf_0 rfl ?_
    refine j_aload_n C 0 dX11_isDeaf_1 rfl ?_
    refine j_get C 0 16 (ly_X11 C.2.2.2.2.2.2.2.1.1) q_651 rfl rfl (by decide) rfl rfl (by decide) rfl dX11_isDeaf_2 ?_
    refine j_icmp_eq C 42 dX11_isDeaf_5 (by decide) (fun c1 => ?_) (fun c1 => ?_)
    · have h := h.1 c1
      refine j_iconst (v := 1) C dX11_isDeaf_42 (by decide) ?_
      refine j_goto C 47 dX11_isDeaf_43 (by decide) ?_
      exact j_zret C dX11_isDeaf_47 rfl h
    · have h := h.2 c1
      refine j_aload_n C 0 dX11_isDeaf_8 rfl ?_
      refine j_get C 0 1 (ly_X11 C.2.2.2.2.2.2.2.1.1) q_636 rfl rfl (by decide) rfl rfl (by decide) rfl dX11_isDeaf_9 ?_
      refine j_bipush (v := 24) C dX11_isDeaf_12 (by decide) ?_
      refine j_iload_n C 1 dX11_isDeaf_14 rfl ?_
      refine j_iadd C dX11_isDeaf_15 ?_
      obtain ⟨hin, h⟩ := h
      refine j_ialoadK (N := 944) C 1 _ rfl hin (by decide) rfl rfl dX11_isDeaf_16 ?_
      refine j_iconst (v := 5) C dX11_isDeaf_17 (by decide) ?_
      refine j_icmp_ne C 46 dX11_isDeaf_18 (by decide) (fun c2 => ?_) (fun c2 => ?_)
      · have h := h.1 c2
        refine j_iconst (v := 0) C dX11_isDeaf_46 (by decide) ?_
        exact j_zret C dX11_isDeaf_47 rfl h
      · have h := h.2 c2
        refine j_aload_n C 0 dX11_isDeaf_21 rfl ?_
        refine j_get C 0 1 (ly_X11 C.2.2.2.2.2.2.2.1.1) q_636 rfl rfl (by decide) rfl rfl (by decide) rfl dX11_isDeaf_22 ?_
        refine j_iconst (v := 0) C dX11_isDeaf_25 (by decide) ?_
        refine j_ialoadK (N := 944) C 1 0 (by decide) (show ¬ ((0 : Int32) < 0 ∨ 944 ≤ (0 : Int32).toNatClampNeg) by decide) (by decide) rfl rfl dX11_isDeaf_26 ?_
        refine j_aload_n C 0 dX11_isDeaf_27 rfl ?_
        refine j_get C 0 1 (ly_X11 C.2.2.2.2.2.2.2.1.1) q_636 rfl rfl (by decide) rfl rfl (by decide) rfl dX11_isDeaf_28 ?_
        refine j_bipush (v := 31) C dX11_isDeaf_31 (by decide) ?_
        refine j_iload_n C 1 dX11_isDeaf_33 rfl ?_
        refine j_iadd C dX11_isDeaf_34 ?_
        obtain ⟨hin, h⟩ := h
        refine j_ialoadK (N := 944) C 1 _ rfl hin (by decide) rfl rfl dX11_isDeaf_35 ?_
        refine j_iconst (v := 2) C dX11_isDeaf_36 (by decide) ?_
        refine j_iadd C dX11_isDeaf_37 ?_
        obtain ⟨hne, h⟩ := h
        refine j_irem C dX11_isDeaf_38 hne ?_
        refine j_if_ne C 46 dX11_isDeaf_39 (by decide) (fun c3 => ?_) (fun c3 => ?_)
        · have h := h.1 c3
          refine j_iconst (v := 0) C dX11_isDeaf_46 (by decide) ?_
          exact j_zret C dX11_isDeaf_47 rfl h
        · have h := h.2 c3
          refine j_iconst (v := 1) C dX11_isDeaf_42 (by decide) ?_
          refine j_goto C 47 dX11_isDeaf_43 (by decide) ?_
          exact j_zret C dX11_isDeaf_47 rfl h

def wX11_chooses_b80 (N : Nat) (K : MM → Prop) (ro4 : Int32 → Int32 → MM → Prop) (x1 : Int32) (x2 : Int32) (u : MM) : Prop := (∀ y18 : Int32, y18 = x2 + 1 → (ro4 x1 y18 u))
def wX11_chooses_b55 (N : Nat) (K : MM → Prop) (ro4 : Int32 → Int32 → MM → Prop) (x1 : Int32) (x2 : Int32) (s0 : Int32) (s1 : Int32) (u : MM) : Prop := (vp_in s1 7 ∧ ∀ u11 : MM, u11 = up u 6 (s1.toNatClampNeg) s0 → (wX11_fineOf N x2 u11 (fun r12 u13 => (wX11_askedOf N x2 u13 (fun r14 u15 => (vp_in x2 7 ∧ (wX11_count1 N (u15 6 x2.toNatClampNeg) (fun r16 => (∀ y17 : Int32, y17 = (x1 + (r12 * (r14 - r16))) → (wX11_chooses_b80 N K ro4 y17 x2 u15))))))))))
def wX11_chooses_b4 (N : Nat) (K : MM → Prop) : Nat → Int32 → Int32 → MM → Prop
  | 0, _, _, _ => False
  | n + 1, x1, x2, u => (((u 1 18) ≤ x2 → (∀ u2 : MM, u2 = up u 0 17 (-1) → (∀ u3 : MM, u3 = up u2 1 1 ((u2 1 1) + x1) → (K u3)))) ∧ (¬ (u 1 18) ≤ x2 → (vp_in x2 7 ∧ ∀ u4 : MM, u4 = up u 6 (x2.toNatClampNeg) 0 → (wX11_isToTell N x2 u4 (fun r5 u6 => ((r5 = 0 → (wX11_chooses_b80 N K (wX11_chooses_b4 N K n) x1 x2 u6)) ∧ (¬ r5 = 0 → ((¬ x2 = (u6 0 17) → (wX11_choiceOf N x2 u6 (fun r9 u10 => (wX11_chooses_b55 N K (wX11_chooses_b4 N K n) x1 x2 r9 x2 u10)))) ∧ (x2 = (u6 0 17) → (wX11_chooses_b55 N K (wX11_chooses_b4 N K n) x1 x2 (u6 0 18) x2 u6))))))))))
def wX11_chooses (N : Nat) (u : MM) (K : MM → Prop) : Prop := (wX11_chooses_b4 N K N 0 0 u)
set_option maxRecDepth 100000 in
set_option maxHeartbeats 4000000 in
theorem tX11_chooses_b80 (l : Launch) (D : va_G) (cI cZ : ClassId) (ad q : Nat → Nat) (N : Nat) {p : Program} {e : Env} {s : State} {m : MethodId} {args : Array Value} {below : List Frame} {meth : Method} {c : Code} {K : MM → Prop} (C : CX p s m args meth c cX11_chooses 3 RX11 none D cI cZ ad (AJ 9 q s.heap.size)) {ro4 : Int32 → Int32 → MM → Prop} (hro4 : ∀ (x1 : Int32) (x2 : Int32) (u : MM), ro4 x1 x2 u → JX p l e (rr 4 100) s m args below meth c D (AJ 9 q s.heap.size) 3 (MQ below ((QV D 9 q (entM q cI cZ) K) (AJ 9 q s.heap.size)) args s 0 0 (AJ 9 q s.heap.size)) 9 q (entM q cI cZ) u 4 [(0, .ref (q 0)), (1, .int x1), (2, .int x2)] []) : ∀ (x1 : Int32) (x2 : Int32) (u : MM), wX11_chooses_b80 N K ro4 x1 x2 u → JX p l e (rr 4 100) s m args below meth c D (AJ 9 q s.heap.size) 3 (MQ below ((QV D 9 q (entM q cI cZ) K) (AJ 9 q s.heap.size)) args s 0 0 (AJ 9 q s.heap.size)) 9 q (entM q cI cZ) u 80 [(0, .ref (q 0)), (1, .int x1), (2, .int x2)] [] := by
    intro x1 x2 u h
    obtain ⟨y18, ey18⟩ : ∃ z : Int32, z = x2 + 1 := ⟨_, rfl⟩
    have h := h y18 ey18
    refine j_iinc (v := y18) (lv' := [(2, .int y18), (0, .ref (q 0)), (1, .int x1)]) C 2 dX11_chooses_80 rfl (by rw [ey18]; rfl) (by decide) rfl ?_
    refine j_goto C 4 dX11_chooses_83 (by decide) ?_
    refine j_sub (lv' := [(0, .ref (q 0)), (1, .int x1), (2, .int y18)]) [1, 2, 0] rfl ?_
    exact hro4 _ _ _ h
set_option maxRecDepth 100000 in
set_option maxHeartbeats 4000000 in
theorem tX11_chooses_b55 (l : Launch) (D : va_G) (cI cZ : ClassId) (ad q : Nat → Nat) (N : Nat) {p : Program} {e : Env} {s : State} {m : MethodId} {args : Array Value} {below : List Frame} {meth : Method} {c : Code} {K : MM → Prop} (C : CX p s m args meth c cX11_chooses 3 RX11 none D cI cZ ad (AJ 9 q s.heap.size)) {ro4 : Int32 → Int32 → MM → Prop} (hro4 : ∀ (x1 : Int32) (x2 : Int32) (u : MM), ro4 x1 x2 u → JX p l e (rr 4 100) s m args below meth c D (AJ 9 q s.heap.size) 3 (MQ below ((QV D 9 q (entM q cI cZ) K) (AJ 9 q s.heap.size)) args s 0 0 (AJ 9 q s.heap.size)) 9 q (entM q cI cZ) u 4 [(0, .ref (q 0)), (1, .int x1), (2, .int x2)] []) : ∀ (x1 : Int32) (x2 : Int32) (s0 : Int32) (s1 : Int32) (u : MM), wX11_chooses_b55 N K ro4 x1 x2 s0 s1 u → JX p l e (rr 4 100) s m args below meth c D (AJ 9 q s.heap.size) 3 (MQ below ((QV D 9 q (entM q cI cZ) K) (AJ 9 q s.heap.size)) args s 0 0 (AJ 9 q s.heap.size)) 9 q (entM q cI cZ) u 55 [(0, .ref (q 0)), (1, .int x1), (2, .int x2)] [.int s0, .int s1, .ref (q 6)] := by
    intro x1 x2 s0 s1 u h
    obtain ⟨hin, h⟩ := h
    refine j_iastoreK (N := 7) C 6 _ rfl hin (by decide) (fun _ => rfl) rfl dX11_chooses_55 (fun u11 eu11 => ?_)
    have h := h u11 eu11
    refine j_iload_n C 1 dX11_chooses_56 rfl ?_
    refine j_aload_n C 0 dX11_chooses_57 rfl ?_
    refine j_iload_n C 2 dX11_chooses_58 rfl ?_
    refine j_wi C (fun H locs ls hP hD hS hl => run_V (Cn := "") (As := [.int x2]) (st := [.int x1]) C mf_X11_fineOf 0 (kX_X11_fineOf l D cI cZ ad q N h) q_750 (by decide) rfl rfl rfl rfl ⟨rfl, rfl, by decide, by decide⟩ (Nat.le_of_ble_eq_true rfl) dX11_chooses_59 hP hD hS hl) (fun r12 u13 h => ?_)
    refine j_aload_n C 0 dX11_chooses_62 rfl ?_
    refine j_iload_n C 2 dX11_chooses_63 rfl ?_
    refine j_wi C (fun H locs ls hP hD hS hl => run_V (Cn := "") (As := [.int x2]) (st := [.int r12, .int x1]) C mf_X11_askedOf 0 (kX_X11_askedOf l D cI cZ ad q N h) q_738 (by decide) rfl rfl rfl rfl ⟨rfl, rfl, by decide, by decide⟩ (Nat.le_of_ble_eq_true rfl) dX11_chooses_64 hP hD hS hl) (fun r14 u15 h => ?_)
    refine j_aload_n C 0 dX11_chooses_67 rfl ?_
    refine j_get C 0 14 (ly_X11 C.2.2.2.2.2.2.2.1.1) q_649 rfl rfl (by decide) rfl rfl (by decide) rfl dX11_chooses_68 ?_
    refine j_iload_n C 2 dX11_chooses_71 rfl ?_
    obtain ⟨hin, h⟩ := h
    refine j_ialoadK (N := 7) C 6 _ rfl hin (by decide) rfl rfl dX11_chooses_72 ?_
    refine j_ui C (fun H locs ls hP hD => run_S (As := [.int (u15 6 x2.toNatClampNeg)]) (st := [.int r14, .int r12, .int x1]) C mf_X11_count1 (kX_X11_count1 l D cI cZ ad q N h) q_747 rfl rfl ⟨rfl, rfl, by decide, by decide⟩ (Nat.le_of_ble_eq_true rfl) dX11_chooses_73 hP hD) (fun r16 _ h => ?_)
    refine j_isub C dX11_chooses_76 ?_
    refine j_imul C dX11_chooses_77 ?_
    refine j_iadd C dX11_chooses_78 ?_
    refine j_nmi (fun y17 ey17 => ?_)
    have h := h y17 ey17
    refine j_istore_n (lv' := [(1, .int y17), (0, .ref (q 0)), (2, .int x2)]) C dX11_chooses_79 (by decide) rfl ?_
    refine j_sub (lv' := [(0, .ref (q 0)), (1, .int y17), (2, .int x2)]) [1, 0, 2] rfl ?_
    exact tX11_chooses_b80 l D cI cZ ad q N C (hro4) _ _ _ h
set_option maxRecDepth 100000 in
set_option maxHeartbeats 4000000 in
theorem tX11_chooses_b4 (l : Launch) (D : va_G) (cI cZ : ClassId) (ad q : Nat → Nat) (N : Nat) {p : Program} {e : Env} {s : State} {m : MethodId} {args : Array Value} {below : List Frame} {meth : Method} {c : Code} {K : MM → Prop} (C : CX p s m args meth c cX11_chooses 3 RX11 none D cI cZ ad (AJ 9 q s.heap.size)) : ∀ (n : Nat) (x1 : Int32) (x2 : Int32) (u : MM), wX11_chooses_b4 N K n x1 x2 u → JX p l e (rr 4 100) s m args below meth c D (AJ 9 q s.heap.size) 3 (MQ below ((QV D 9 q (entM q cI cZ) K) (AJ 9 q s.heap.size)) args s 0 0 (AJ 9 q s.heap.size)) 9 q (entM q cI cZ) u 4 [(0, .ref (q 0)), (1, .int x1), (2, .int x2)] [] := by
  intro n
  induction n with
  | zero => intro x1 x2 u h; exact h.elim
  | succ n ih =>
    intro x1 x2 u h
    refine j_iload_n C 2 dX11_chooses_4 rfl ?_
    refine j_aload_n C 0 dX11_chooses_5 rfl ?_
    refine j_get C 0 1 (ly_X11 C.2.2.2.2.2.2.2.1.1) q_636 rfl rfl (by decide) rfl rfl (by decide) rfl dX11_chooses_6 ?_
    refine j_bipush (v := 18) C dX11_chooses_9 (by decide) ?_
    refine j_ialoadK (N := 944) C 1 18 (by decide) (show ¬ ((18 : Int32) < 0 ∨ 944 ≤ (18 : Int32).toNatClampNeg) by decide) (by decide) rfl rfl dX11_chooses_11 ?_
    refine j_icmp_ge C 86 dX11_chooses_12 (by decide) (fun c1 => ?_) (fun c1 => ?_)
    · have h := h.1 c1
      refine j_aload_n C 0 dX11_chooses_86 rfl ?_
      refine j_iconst (v := (-1)) C dX11_chooses_87 (by decide) ?_
      refine j_put C 0 17 (ly_X11 C.2.2.2.2.2.2.2.1.1) q_652 rfl rfl (by decide) rfl rfl (by decide) tyX11_ok nmX11 rfl rfl ⟨rfl, rfl⟩ (Nat.le_of_ble_eq_true rfl) rfl dX11_chooses_88 ?_
      refine j_nmu (fun u2 eu2 => ?_)
      have h := h u2 eu2
      refine j_aload_n C 0 dX11_chooses_91 rfl ?_
      refine j_get C 0 1 (ly_X11 C.2.2.2.2.2.2.2.1.1) q_636 rfl rfl (by decide) rfl rfl (by decide) rfl dX11_chooses_92 ?_
      refine j_iconst (v := 1) C dX11_chooses_95 (by decide) ?_
      refine j_dup2 C dX11_chooses_96 rfl rfl ?_
      refine j_ialoadK (N := 944) C 1 1 (by decide) (show ¬ ((1 : Int32) < 0 ∨ 944 ≤ (1 : Int32).toNatClampNeg) by decide) (by decide) rfl rfl dX11_chooses_97 ?_
      refine j_iload_n C 1 dX11_chooses_98 rfl ?_
      refine j_iadd C dX11_chooses_99 ?_
      refine j_iastoreK (N := 944) C 1 1 (by decide) (show ¬ ((1 : Int32) < 0 ∨ 944 ≤ (1 : Int32).toNatClampNeg) by decide) (by decide) (fun _ => rfl) rfl dX11_chooses_100 (fun u3 eu3 => ?_)
      have h := h u3 eu3
      exact j_vret C dX11_chooses_101 h
    · have h := h.2 c1
      refine j_aload_n C 0 dX11_chooses_15 rfl ?_
      refine j_get C 0 14 (ly_X11 C.2.2.2.2.2.2.2.1.1) q_649 rfl rfl (by decide) rfl rfl (by decide) rfl dX11_chooses_16 ?_
      refine j_iload_n C 2 dX11_chooses_19 rfl ?_
      refine j_iconst (v := 0) C dX11_chooses_20 (by decide) ?_
      obtain ⟨hin, h⟩ := h
      refine j_iastoreK (N := 7) C 6 _ rfl hin (by decide) (fun _ => rfl) rfl dX11_chooses_21 (fun u4 eu4 => ?_)
      have h := h u4 eu4
      refine j_aload_n C 0 dX11_chooses_22 rfl ?_
      refine j_iload_n C 2 dX11_chooses_23 rfl ?_
      refine j_wi C (fun H locs ls hP hD hS hl => run_V (Cn := "") (As := [.int x2]) (st := []) C mf_X11_isToTell 0 (kX_X11_isToTell l D cI cZ ad q N h) q_782 (by decide) rfl rfl rfl rfl ⟨rfl, rfl, by decide, by decide⟩ (Nat.le_of_ble_eq_true rfl) dX11_chooses_24 hP hD hS hl) (fun r5 u6 h => ?_)
      refine j_if_eq C 80 dX11_chooses_27 (by decide) (fun c7 => ?_) (fun c7 => ?_)
      · have h := h.1 c7
        exact tX11_chooses_b80 l D cI cZ ad q N C ih _ _ _ h
      · have h := h.2 c7
        refine j_aload_n C 0 dX11_chooses_30 rfl ?_
        refine j_get C 0 14 (ly_X11 C.2.2.2.2.2.2.2.1.1) q_649 rfl rfl (by decide) rfl rfl (by decide) rfl dX11_chooses_31 ?_
        refine j_iload_n C 2 dX11_chooses_34 rfl ?_
        refine j_iload_n C 2 dX11_chooses_35 rfl ?_
        refine j_aload_n C 0 dX11_chooses_36 rfl ?_
        refine j_get C 0 17 (ly_X11 C.2.2.2.2.2.2.2.1.1) q_652 rfl rfl (by decide) rfl rfl (by decide) rfl dX11_chooses_37 ?_
        refine j_icmp_ne C 50 dX11_chooses_40 (by decide) (fun c8 => ?_) (fun c8 => ?_)
        · have h := h.1 c8
          refine j_aload_n C 0 dX11_chooses_50 rfl ?_
          refine j_iload_n C 2 dX11_chooses_51 rfl ?_
          refine j_wi C (fun H locs ls hP hD hS hl => run_V (Cn := "") (As := [.int x2]) (st := [.int x2, .ref (q 6)]) C mf_X11_choiceOf 0 (kX_X11_choiceOf l D cI cZ ad q N h) q_741 (by decide) rfl rfl rfl rfl ⟨rfl, rfl, by decide, by decide⟩ (Nat.le_of_ble_eq_true rfl) dX11_chooses_52 hP hD hS hl) (fun r9 u10 h => ?_)
          exact tX11_chooses_b55 l D cI cZ ad q N C ih _ _ _ _ _ h
        · have h := h.2 c8
          refine j_aload_n C 0 dX11_chooses_43 rfl ?_
          refine j_get C 0 18 (ly_X11 C.2.2.2.2.2.2.2.1.1) q_653 rfl rfl (by decide) rfl rfl (by decide) rfl dX11_chooses_44 ?_
          refine j_goto C 55 dX11_chooses_47 (by decide) ?_
          exact tX11_chooses_b55 l D cI cZ ad q N C ih _ _ _ _ _ h
set_option maxRecDepth 100000 in
set_option maxHeartbeats 4000000 in
theorem kX_X11_chooses (l : Launch) (D : va_G) (cI cZ : ClassId) (ad q : Nat → Nat) (N : Nat) {u : MM} {K : MM → Prop} (h : wX11_chooses N u K) : CT l D cI cZ ad 9 q (entM q cI cZ) yX11_chooses cX11_chooses 3 none (rr 4 100) [.ref (q 0)] u (QV D 9 q (entM q cI cZ) K) := by
    refine ct_of (by decide +kernel) (Nat.le_of_ble_eq_true rfl) (fun p e s m args below meth c C => ?_)
    refine j_sub (lv' := [(0, .ref (q 0))]) [0] rfl ?_
    refine j_iconst (v := 0) C dX11_chooses_0 (by decide) ?_
    refine j_istore_n (lv' := [(1, .int 0), (0, .ref (q 0))]) C dX11_chooses_1 (by decide) rfl ?_
    refine j_iconst (v := 0) C dX11_chooses_2 (by decide) ?_
    refine j_istore_n (lv' := [(2, .int 0), (1, .int 0), (0, .ref (q 0))]) C dX11_chooses_3 (by decide) rfl ?_
    refine j_sub (lv' := [(0, .ref (q 0)), (1, .int 0), (2, .int 0)]) [2, 1, 0] rfl ?_
    exact tX11_chooses_b4 l D cI cZ ad q N C N _ _ _ h

def wX11_lessOne (N : Nat) (x1 : Int32) (u : MM) (K : Int32 → MM → Prop) : Prop := (wX11_tellsOf N 229 1 u (fun r1 u2 => (∀ y3 : Int32, y3 = (x1 - r1) → ((0 ≤ y3 → (K y3 u2)) ∧ (¬ 0 ≤ y3 → (K 0 u2))))))
set_option maxRecDepth 100000 in
set_option maxHeartbeats 4000000 in
theorem kX_X11_lessOne (l : Launch) (D : va_G) (cI cZ : ClassId) (ad q : Nat → Nat) (N : Nat) {x1 : Int32} {u : MM} {K : Int32 → MM → Prop} (h : wX11_lessOne N x1 u K) : CT l D cI cZ ad 9 q (entM q cI cZ) yX11_lessOne cX11_lessOne 3 (some .int) (rr 1 22) [.ref (q 0), .int x1] u (QI D 9 q (entM q cI cZ) K) := by
    refine ct_of (by decide +kernel) (Nat.le_of_ble_eq_true rfl) (fun p e s m args below meth c C => ?_)
    refine j_sub (lv' := [(0, .ref (q 0)), (1, .int x1)]) [0, 1] rfl ?_
    refine j_iload_n C 1 dX11_lessOne_0 rfl ?_
    refine j_aload_n C 0 dX11_lessOne_1 rfl ?_
    refine j_sipush (v := 229) C dX11_lessOne_2 (by decide) ?_
    refine j_iconst (v := 1) C dX11_lessOne_5 (by decide) ?_
    refine j_wi C (fun H locs ls hP hD hS hl => run_V (Cn := "") (As := [.int 229, .int 1]) (st := [.int x1]) C mf_X11_tellsOf 0 (kX_X11_tellsOf l D cI cZ ad q N h) q_735 (by decide) rfl rfl rfl rfl ⟨rfl, rfl, by decide, by decide⟩ (Nat.le_of_ble_eq_true rfl) dX11_lessOne_6 hP hD hS hl) (fun r1 u2 h => ?_)
    refine j_isub C dX11_lessOne_9 ?_
    refine j_nmi (fun y3 ey3 => ?_)
    have h := h y3 ey3
    refine j_istore_n (lv' := [(2, .int y3), (0, .ref (q 0)), (1, .int x1)]) C dX11_lessOne_10 (by decide) rfl ?_
    refine j_iload_n C 0 dX11_lessOne_11 rfl ?_
    refine j_if_ge C 19 dX11_lessOne_12 (by decide) (fun c4 => ?_) (fun c4 => ?_)
    · have h := h.1 c4
      refine j_iload_n C 0 dX11_lessOne_19 rfl ?_
      exact j_iret C dX11_lessOne_20 h
    · have h := h.2 c4
      refine j_iconst (v := 0) C dX11_lessOne_15 (by decide) ?_
      refine j_goto C 20 dX11_lessOne_16 (by decide) ?_
      exact j_iret C dX11_lessOne_20 h

def wX11_numberFor_b98 (N : Nat) (K : Int32 → MM → Prop) (ro25 : Int32 → Int32 → Int32 → Int32 → MM → Prop) (x1 : Int32) (x2 : Int32) (x3 : Int32) (x4 : Int32) (u : MM) : Prop := (∀ y12 : Int32, y12 = x4 + 1 → (ro25 x1 x2 x3 y12 u))
def wX11_numberFor_b97 (N : Nat) (K : Int32 → MM → Prop) (ro25 : Int32 → Int32 → Int32 → Int32 → MM → Prop) (x1 : Int32) (x2 : Int32) (x4 : Int32) (s0 : Int32) (u : MM) : Prop := (wX11_numberFor_b98 N K ro25 x1 x2 s0 x4 u)
def wX11_numberFor_b96 (N : Nat) (K : Int32 → MM → Prop) (ro25 : Int32 → Int32 → Int32 → Int32 → MM → Prop) (x1 : Int32) (x2 : Int32) (x3 : Int32) (x4 : Int32) (u : MM) : Prop := (wX11_numberFor_b97 N K ro25 x1 x2 x4 x3 u)
def wX11_numberFor_b91 (N : Nat) (K : Int32 → MM → Prop) (ro25 : Int32 → Int32 → Int32 → Int32 → MM → Prop) (x1 : Int32) (x2 : Int32) (x4 : Int32) (x5 : Int32) (u : MM) : Prop := (wX11_numberFor_b97 N K ro25 x1 x2 x4 x5 u)
def wX11_numberFor_b25 (N : Nat) (K : Int32 → MM → Prop) : Nat → Int32 → Int32 → Int32 → Int32 → MM → Prop
  | 0, _, _, _, _, _ => False
  | n + 1, x1, x2, x3, x4, u => (((u 1 18) ≤ x4 → (K x3 u)) ∧ (¬ (u 1 18) ≤ x4 → (vp_in x4 7 ∧ ((¬ (((u 6 x4.toNatClampNeg) >>> (x1 &&& 31)) &&& 1) = 1 → (wX11_numberFor_b98 N K (wX11_numberFor_b25 N K n) x1 x2 x3 x4 u)) ∧ ((((u 6 x4.toNatClampNeg) >>> (x1 &&& 31)) &&& 1) = 1 → (vp_in ((4 + x4)) 944 ∧ (wX11_lessOne N (u 1 (4 + x4).toNatClampNeg) u (fun r6 u7 => ((x3 = (-1) → (wX11_numberFor_b91 N K (wX11_numberFor_b25 N K n) x1 x2 x4 r6 u7)) ∧ (¬ x3 = (-1) → ((x2 = 0 → ((x3 ≤ r6 → (wX11_numberFor_b96 N K (wX11_numberFor_b25 N K n) x1 x2 x3 x4 u7)) ∧ (¬ x3 ≤ r6 → (wX11_numberFor_b91 N K (wX11_numberFor_b25 N K n) x1 x2 x4 r6 u7)))) ∧ (¬ x2 = 0 → ((r6 ≤ x3 → (wX11_numberFor_b96 N K (wX11_numberFor_b25 N K n) x1 x2 x3 x4 u7)) ∧ (¬ r6 ≤ x3 → (wX11_numberFor_b91 N K (wX11_numberFor_b25 N K n) x1 x2 x4 r6 u7)))))))))))))))
def wX11_numberFor_b19 (N : Nat) (K : Int32 → MM → Prop) (x1 : Int32) (s0 : Int32) (u : MM) : Prop := (wX11_numberFor_b25 N K N x1 s0 (-1) 0 u)
def wX11_numberFor (N : Nat) (x1 : Int32) (u : MM) (K : Int32 → MM → Prop) : Prop := (wX11_tellsOf N 234 0 u (fun r1 u2 => ((¬ (r1 - r1 / 2 * 2) = 1 → (wX11_numberFor_b19 N K x1 0 u2)) ∧ ((r1 - r1 / 2 * 2) = 1 → (wX11_numberFor_b19 N K x1 1 u2)))))
set_option maxRecDepth 100000 in
set_option maxHeartbeats 4000000 in
theorem tX11_numberFor_b98 (l : Launch) (D : va_G) (cI cZ : ClassId) (ad q : Nat → Nat) (N : Nat) {p : Program} {e : Env} {s : State} {m : MethodId} {args : Array Value} {below : List Frame} {meth : Method} {c : Code} {K : Int32 → MM → Prop} (C : CX p s m args meth c cX11_numberFor 6 RX11 (some .int) D cI cZ ad (AJ 9 q s.heap.size)) {ro25 : Int32 → Int32 → Int32 → Int32 → MM → Prop} (hro25 : ∀ (x1 : Int32) (x2 : Int32) (x3 : Int32) (x4 : Int32) (u : MM), ro25 x1 x2 x3 x4 u → JX p l e (rr 2 44) s m args below meth c D (AJ 9 q s.heap.size) 6 (MQ below ((QI D 9 q (entM q cI cZ) K) (AJ 9 q s.heap.size)) args s 0 0 (AJ 9 q s.heap.size)) 9 q (entM q cI cZ) u 25 [(0, .ref (q 0)), (1, .int x1), (2, .int x2), (3, .int x3), (4, .int x4)] []) : ∀ (x1 : Int32) (x2 : Int32) (x3 : Int32) (x4 : Int32) (u : MM), wX11_numberFor_b98 N K ro25 x1 x2 x3 x4 u → JX p l e (rr 2 44) s m args below meth c D (AJ 9 q s.heap.size) 6 (MQ below ((QI D 9 q (entM q cI cZ) K) (AJ 9 q s.heap.size)) args s 0 0 (AJ 9 q s.heap.size)) 9 q (entM q cI cZ) u 98 [(0, .ref (q 0)), (1, .int x1), (2, .int x2), (3, .int x3), (4, .int x4)] [] := by
    intro x1 x2 x3 x4 u h
    obtain ⟨y12, ey12⟩ : ∃ z : Int32, z = x4 + 1 := ⟨_, rfl⟩
    have h := h y12 ey12
    refine j_iinc (v := y12) (lv' := [(4, .int y12), (0, .ref (q 0)), (1, .int x1), (2, .int x2), (3, .int x3)]) C 4 dX11_numberFor_98 rfl (by rw [ey12]; rfl) (by decide) rfl ?_
    refine j_goto C 25 dX11_numberFor_101 (by decide) ?_
    refine j_sub (lv' := [(0, .ref (q 0)), (1, .int x1), (2, .int x2), (3, .int x3), (4, .int y12)]) [1, 2, 3, 4, 0] rfl ?_
    exact hro25 _ _ _ _ _ h
set_option maxRecDepth 100000 in
set_option maxHeartbeats 4000000 in
theorem tX11_numberFor_b97 (l : Launch) (D : va_G) (cI cZ : ClassId) (ad q : Nat → Nat) (N : Nat) {p : Program} {e : Env} {s : State} {m : MethodId} {args : Array Value} {below : List Frame} {meth : Method} {c : Code} {K : Int32 → MM → Prop} (C : CX p s m args meth c cX11_numberFor 6 RX11 (some .int) D cI cZ ad (AJ 9 q s.heap.size)) {ro25 : Int32 → Int32 → Int32 → Int32 → MM → Prop} (hro25 : ∀ (x1 : Int32) (x2 : Int32) (x3 : Int32) (x4 : Int32) (u : MM), ro25 x1 x2 x3 x4 u → JX p l e (rr 2 44) s m args below meth c D (AJ 9 q s.heap.size) 6 (MQ below ((QI D 9 q (entM q cI cZ) K) (AJ 9 q s.heap.size)) args s 0 0 (AJ 9 q s.heap.size)) 9 q (entM q cI cZ) u 25 [(0, .ref (q 0)), (1, .int x1), (2, .int x2), (3, .int x3), (4, .int x4)] []) : ∀ (x1 : Int32) (x2 : Int32) (x4 : Int32) (s0 : Int32) (u : MM), wX11_numberFor_b97 N K ro25 x1 x2 x4 s0 u → JX p l e (rr 2 44) s m args below meth c D (AJ 9 q s.heap.size) 6 (MQ below ((QI D 9 q (entM q cI cZ) K) (AJ 9 q s.heap.size)) args s 0 0 (AJ 9 q s.heap.size)) 9 q (entM q cI cZ) u 97 [(0, .ref (q 0)), (1, .int x1), (2, .int x2), (4, .int x4)] [.int s0] := by
    intro x1 x2 x4 s0 u h
    refine j_istore_n (lv' := [(3, .int s0), (0, .ref (q 0)), (1, .int x1), (2, .int x2), (4, .int x4)]) C dX11_numberFor_97 (by decide) rfl ?_
    refine j_sub (lv' := [(0, .ref (q 0)), (1, .int x1), (2, .int x2), (3, .int s0), (4, .int x4)]) [1, 2, 3, 0, 4] rfl ?_
    exact tX11_numberFor_b98 l D cI cZ ad q N C (hro25) _ _ _ _ _ h
set_option maxRecDepth 100000 in
set_option maxHeartbeats 4000000 in
theorem tX11_numberFor_b96 (l : Launch) (D : va_G) (cI cZ : ClassId) (ad q : Nat → Nat) (N : Nat) {p : Program} {e : Env} {s : State} {m : MethodId} {args : Array Value} {below : List Frame} {meth : Method} {c : Code} {K : Int32 → MM → Prop} (C : CX p s m args meth c cX11_numberFor 6 RX11 (some .int) D cI cZ ad (AJ 9 q s.heap.size)) {ro25 : Int32 → Int32 → Int32 → Int32 → MM → Prop} (hro25 : ∀ (x1 : Int32) (x2 : Int32) (x3 : Int32) (x4 : Int32) (u : MM), ro25 x1 x2 x3 x4 u → JX p l e (rr 2 44) s m args below meth c D (AJ 9 q s.heap.size) 6 (MQ below ((QI D 9 q (entM q cI cZ) K) (AJ 9 q s.heap.size)) args s 0 0 (AJ 9 q s.heap.size)) 9 q (entM q cI cZ) u 25 [(0, .ref (q 0)), (1, .int x1), (2, .int x2), (3, .int x3), (4, .int x4)] []) : ∀ (x1 : Int32) (x2 : Int32) (x3 : Int32) (x4 : Int32) (u : MM), wX11_numberFor_b96 N K ro25 x1 x2 x3 x4 u → JX p l e (rr 2 44) s m args below meth c D (AJ 9 q s.heap.size) 6 (MQ below ((QI D 9 q (entM q cI cZ) K) (AJ 9 q s.heap.size)) args s 0 0 (AJ 9 q s.heap.size)) 9 q (entM q cI cZ) u 96 [(0, .ref (q 0)), (1, .int x1), (2, .int x2), (3, .int x3), (4, .int x4)] [] := by
    intro x1 x2 x3 x4 u h
    refine j_iload_n C 3 dX11_numberFor_96 rfl ?_
    refine j_sub (lv' := [(0, .ref (q 0)), (1, .int x1), (2, .int x2), (4, .int x4)]) [0, 1, 2, 4] rfl ?_
    exact tX11_numberFor_b97 l D cI cZ ad q N C (hro25) _ _ _ _ _ h
set_option maxRecDepth 100000 in
set_option maxHeartbeats 4000000 in
theorem tX11_numberFor_b91 (l : Launch) (D : va_G) (cI cZ : ClassId) (ad q : Nat → Nat) (N : Nat) {p : Program} {e : Env} {s : State} {m : MethodId} {args : Array Value} {below : List Frame} {meth : Method} {c : Code} {K : Int32 → MM → Prop} (C : CX p s m args meth c cX11_numberFor 6 RX11 (some .int) D cI cZ ad (AJ 9 q s.heap.size)) {ro25 : Int32 → Int32 → Int32 → Int32 → MM → Prop} (hro25 : ∀ (x1 : Int32) (x2 : Int32) (x3 : Int32) (x4 : Int32) (u : MM), ro25 x1 x2 x3 x4 u → JX p l e (rr 2 44) s m args below meth c D (AJ 9 q s.heap.size) 6 (MQ below ((QI D 9 q (entM q cI cZ) K) (AJ 9 q s.heap.size)) args s 0 0 (AJ 9 q s.heap.size)) 9 q (entM q cI cZ) u 25 [(0, .ref (q 0)), (1, .int x1), (2, .int x2), (3, .int x3), (4, .int x4)] []) : ∀ (x1 : Int32) (x2 : Int32) (x4 : Int32) (x5 : Int32) (u : MM), wX11_numberFor_b91 N K ro25 x1 x2 x4 x5 u → JX p l e (rr 2 44) s m args below meth c D (AJ 9 q s.heap.size) 6 (MQ below ((QI D 9 q (entM q cI cZ) K) (AJ 9 q s.heap.size)) args s 0 0 (AJ 9 q s.heap.size)) 9 q (entM q cI cZ) u 91 [(0, .ref (q 0)), (1, .int x1), (2, .int x2), (4, .int x4), (5, .int x5)] [] := by
    intro x1 x2 x4 x5 u h
    refine j_iload C 4 dX11_numberFor_91 rfl ?_
    refine j_goto C 97 dX11_numberFor_93 (by decide) ?_
    refine j_sub (lv' := [(0, .ref (q 0)), (1, .int x1), (2, .int x2), (4, .int x4)]) [0, 1, 2, 3] rfl ?_
    exact tX11_numberFor_b97 l D cI cZ ad q N C (hro25) _ _ _ _ _ h
set_option maxRecDepth 100000 in
set_option maxHeartbeats 4000000 in
theorem tX11_numberFor_b25 (l : Launch) (D : va_G) (cI cZ : ClassId) (ad q : Nat → Nat) (N : Nat) {p : Program} {e : Env} {s : State} {m : MethodId} {args : Array Value} {below : List Frame} {meth : Method} {c : Code} {K : Int32 → MM → Prop} (C : CX p s m args meth c cX11_numberFor 6 RX11 (some .int) D cI cZ ad (AJ 9 q s.heap.size)) : ∀ (n : Nat) (x1 : Int32) (x2 : Int32) (x3 : Int32) (x4 : Int32) (u : MM), wX11_numberFor_b25 N K n x1 x2 x3 x4 u → JX p l e (rr 2 44) s m args below meth c D (AJ 9 q s.heap.size) 6 (MQ below ((QI D 9 q (entM q cI cZ) K) (AJ 9 q s.heap.size)) args s 0 0 (AJ 9 q s.heap.size)) 9 q (entM q cI cZ) u 25 [(0, .ref (q 0)), (1, .int x1), (2, .int x2), (3, .int x3), (4, .int x4)] [] := by
  intro n
  induction n with
  | zero => intro x1 x2 x3 x4 u h; exact h.elim
  | succ n ih =>
    intro x1 x2 x3 x4 u h
    refine j_iload C 4 dX11_numberFor_25 rfl ?_
    refine j_aload_n C 0 dX11_numberFor_27 rfl ?_
    refine j_get C 0 1 (ly_X11 C.2.2.2.2.2.2.2.1.1) q_636 rfl rfl (by decide) rfl rfl (by decide) rfl dX11_numberFor_28 ?_
    refine j_bipush (v := 18) C dX11_numberFor_31 (by decide) ?_
    refine j_ialoadK (N := 944) C 1 18 (by decide) (show ¬ ((18 : Int32) < 0 ∨ 944 ≤ (18 : Int32).toNatClampNeg) by decide) (by decide) rfl rfl dX11_numberFor_33 ?_
    refine j_icmp_ge C 104 dX11_numberFor_34 (by decide) (fun c4 => ?_) (fun c4 => ?_)
    · have h := h.1 c4
      refine j_iload_n C 3 dX11_numberFor_104 rfl ?_
      exact j_iret C dX11_numberFor_105 h
    · have h := h.2 c4
      refine j_aload_n C 0 dX11_numberFor_37 rfl ?_
      refine j_get C 0 14 (ly_X11 C.2.2.2.2.2.2.2.1.1) q_649 rfl rfl (by decide) rfl rfl (by decide) rfl dX11_numberFor_38 ?_
      refine j_iload C 4 dX11_numberFor_41 rfl ?_
      obtain ⟨hin, h⟩ := h
      refine j_ialoadK (N := 7) C 6 _ rfl hin (by decide) rfl rfl dX11_numberFor_43 ?_
      refine j_iload_n C 1 dX11_numberFor_44 rfl ?_
      refine j_ishr C dX11_numberFor_45 ?_
      refine j_iconst (v := 1) C dX11_numberFor_46 (by decide) ?_
      refine j_iand C dX11_numberFor_47 ?_
      refine j_iconst (v := 1) C dX11_numberFor_48 (by decide) ?_
      refine j_icmp_ne C 98 dX11_numberFor_49 (by decide) (fun c5 => ?_) (fun c5 => ?_)
      · have h := h.1 c5
        exact tX11_numberFor_b98 l D cI cZ ad q N C ih _ _ _ _ _ h
      · have h := h.2 c5
        refine j_aload_n C 0 dX11_numberFor_52 rfl ?_
        refine j_aload_n C 0 dX11_numberFor_53 rfl ?_
        refine j_get C 0 1 (ly_X11 C.2.2.2.2.2.2.2.1.1) q_636 rfl rfl (by decide) rfl rfl (by decide) rfl dX11_numberFor_54 ?_
        refine j_iconst (v := 4) C dX11_numberFor_57 (by decide) ?_
        refine j_iload C 4 dX11_numberFor_58 rfl ?_
        refine j_iadd C dX11_numberFor_60 ?_
        obtain ⟨hin, h⟩ := h
        refine j_ialoadK (N := 944) C 1 _ rfl hin (by decide) rfl rfl dX11_numberFor_61 ?_
        refine j_wi C (fun H locs ls hP hD hS hl => run_V (Cn := "") (As := [.int (u 1 (4 + x4).toNatClampNeg)]) (st := []) C mf_X11_lessOne 0 (kX_X11_lessOne l D cI cZ ad q N h) q_791 (by decide) rfl rfl rfl rfl ⟨rfl, rfl, by decide, by decide⟩ (Nat.le_of_ble_eq_true rfl) dX11_numberFor_62 hP hD hS hl) (fun r6 u7 h => ?_)
        refine j_istore (lv' := [(5, .int r6), (0, .ref (q 0)), (1, .int x1), (2, .int x2), (3, .int x3), (4, .int x4)]) C dX11_numberFor_65 (by decide) rfl ?_
        refine j_iload_n C 4 dX11_numberFor_67 rfl ?_
        refine j_iconst (v := (-1)) C dX11_numberFor_68 (by decide) ?_
        refine j_icmp_eq C 91 dX11_numberFor_69 (by decide) (fun c8 => ?_) (fun c8 => ?_)
        · have h := h.1 c8
          refine j_sub (lv' := [(0, .ref (q 0)), (1, .int x1), (2, .int x2), (4, .int x4), (5, .int r6)]) [1, 2, 3, 5, 0] rfl ?_
          exact tX11_numberFor_b91 l D cI cZ ad q N C ih _ _ _ _ _ h
        · have h := h.2 c8
          refine j_iload_n C 3 dX11_numberFor_72 rfl ?_
          refine j_if_eq C 85 dX11_numberFor_73 (by decide) (fun c9 => ?_) (fun c9 => ?_)
          · have h := h.1 c9
            refine j_iload C 0 dX11_numberFor_85 rfl ?_
            refine j_iload_n C 4 dX11_numberFor_87 rfl ?_
            refine j_icmp_ge C 96 dX11_numberFor_88 (by decide) (fun c10 => ?_) (fun c10 => ?_)
            · have h := h.1 c10
              refine j_sub (lv' := [(0, .ref (q 0)), (1, .int x1), (2, .int x2), (3, .int x3), (4, .int x4)]) [1, 2, 3, 4, 5] rfl ?_
              exact tX11_numberFor_b96 l D cI cZ ad q N C ih _ _ _ _ _ h
            · have h := h.2 c10
              refine j_sub (lv' := [(0, .ref (q 0)), (1, .int x1), (2, .int x2), (4, .int x4), (5, .int r6)]) [1, 2, 3, 5, 0] rfl ?_
              exact tX11_numberFor_b91 l D cI cZ ad q N C ih _ _ _ _ _ h
          · have h := h.2 c9
            refine j_iload C 0 dX11_numberFor_76 rfl ?_
            refine j_iload_n C 4 dX11_numberFor_78 rfl ?_
            refine j_icmp_le C 96 dX11_numberFor_79 (by decide) (fun c11 => ?_) (fun c11 => ?_)
            · have h := h.1 c11
              refine j_sub (lv' := [(0, .ref (q 0)), (1, .int x1), (2, .int x2), (3, .int x3), (4, .int x4)]) [1, 2, 3, 4, 5] rfl ?_
              exact tX11_numberFor_b96 l D cI cZ ad q N C ih _ _ _ _ _ h
            · have h := h.2 c11
              refine j_goto C 91 dX11_numberFor_82 (by decide) ?_
              refine j_sub (lv' := [(0, .ref (q 0)), (1, .int x1), (2, .int x2), (4, .int x4), (5, .int r6)]) [1, 2, 3, 5, 0] rfl ?_
              exact tX11_numberFor_b91 l D cI cZ ad q N C ih _ _ _ _ _ h
set_option maxRecDepth 100000 in
set_option maxHeartbeats 4000000 in
theorem tX11_numberFor_b19 (l : Launch) (D : va_G) (cI cZ : ClassId) (ad q : Nat → Nat) (N : Nat) {p : Program} {e : Env} {s : State} {m : MethodId} {args : Array Value} {below : List Frame} {meth : Method} {c : Code} {K : Int32 → MM → Prop} (C : CX p s m args meth c cX11_numberFor 6 RX11 (some .int) D cI cZ ad (AJ 9 q s.heap.size)) : ∀ (x1 : Int32) (s0 : Int32) (u : MM), wX11_numberFor_b19 N K x1 s0 u → JX p l e (rr 2 44) s m args below meth c D (AJ 9 q s.heap.size) 6 (MQ below ((QI D 9 q (entM q cI cZ) K) (AJ 9 q s.heap.size)) args s 0 0 (AJ 9 q s.heap.size)) 9 q (entM q cI cZ) u 19 [(0, .ref (q 0)), (1, .int x1)] [.int s0] := by
    intro x1 s0 u h
    refine j_istore_n (lv' := [(2, .int s0), (0, .ref (q 0)), (1, .int x1)]) C dX11_numberFor_19 (by decide) rfl ?_
    refine j_iconst (v := (-1)) C dX11_numberFor_20 (by decide) ?_
    refine j_istore_n (lv' := [(3, .int (-1)), (2, .int s0), (0, .ref (q 0)), (1, .int x1)]) C dX11_numberFor_21 (by decide) rfl ?_
    refine j_iconst (v := 0) C dX11_numberFor_22 (by decide) ?_
    refine j_istore (lv' := [(4, .int 0), (3, .int (-1)), (2, .int s0), (0, .ref (q 0)), (1, .int x1)]) C dX11_numberFor_23 (by decide) rfl ?_
    refine j_sub (lv' := [(0, .ref (q 0)), (1, .int x1), (2, .int s0), (3, .int (-1)), (4, .int 0)]) [3, 4, 2, 1, 0] rfl ?_
    exact tX11_numberFor_b25 l D cI cZ ad q N C N _ _ _ _ _ h
set_option maxRecDepth 100000 in
set_option maxHeartbeats 4000000 in
theorem kX_X11_numberFor (l : Launch) (D : va_G) (cI cZ : ClassId) (ad q : Nat → Nat) (N : Nat) {x1 : Int32} {u : MM} {K : Int32 → MM → Prop} (h : wX11_numberFor N x1 u K) : CT l D cI cZ ad 9 q (entM q cI cZ) yX11_numberFor cX11_numberFor 6 (some .int) (rr 2 44) [.ref (q 0), .int x1] u (QI D 9 q (entM q cI cZ) K) := by
    refine ct_of (by decide +kernel) (Nat.le_of_ble_eq_true rfl) (fun p e s m args below meth c C => ?_)
    refine j_sub (lv' := [(0, .ref (q 0)), (1, .int x1)]) [0, 1] rfl ?_
    refine j_aload_n C 0 dX11_numberFor_0 rfl ?_
    refine j_sipush (v := 234) C dX11_numberFor_1 (by decide) ?_
    refine j_iconst (v := 0) C dX11_numberFor_4 (by decide) ?_
    refine j_wi C (fun H locs ls hP hD hS hl => run_V (Cn := "") (As := [.int 234, .int 0]) (st := []) C mf_X11_tellsOf 0 (kX_X11_tellsOf l D cI cZ ad q N h) q_735 (by decide) rfl rfl rfl rfl ⟨rfl, rfl, by decide, by decide⟩ (Nat.le_of_ble_eq_true rfl) dX11_numberFor_5 hP hD hS hl) (fun r1 u2 h => ?_)
    refine j_iconst (v := 2) C dX11_numberFor_8 (by decide) ?_
    refine j_irem C dX11_numberFor_9 (by decide) ?_
    refine j_iconst (v := 1) C dX11_numberFor_10 (by decide) ?_
    refine j_icmp_ne C 18 dX11_numberFor_11 (by decide) (fun c3 => ?_) (fun c3 => ?_)
    · have h := h.1 c3
      refine j_iconst (v := 0) C dX11_numberFor_18 (by decide) ?_
      exact tX11_numberFor_b19 l D cI cZ ad q N C _ _ _ h
    · have h := h.2 c3
      refine j_iconst (v := 1) C dX11_numberFor_14 (by decide) ?_
      refine j_goto C 19 dX11_numberFor_15 (by decide) ?_
      exact tX11_numberFor_b19 l D cI cZ ad q N C _ _ _ h

def wX11_goes_b130 (N : Nat) (K : Int32 → MM → Prop) (ro65 : Int32 → Int32 → MM → Prop) (x1 : Int32) (x2 : Int32) (u : MM) : Prop := (∀ y19 : Int32, y19 = x2 + 1 → (ro65 x1 y19 u))
def wX11_goes_b65 (N : Nat) (K : Int32 → MM → Prop) : Nat → Int32 → Int32 → MM → Prop
  | 0, _, _, _ => False
  | n + 1, x1, x2, u => (((u 1 18) ≤ x2 → (∀ u13 : MM, u13 = up u 1 0 ((u 1 0) + 1) → (K x1 u13))) ∧ (¬ (u 1 18) ≤ x2 → (vp_in x2 7 ∧ (((u 7 x2.toNatClampNeg) = (-1) → (wX11_goes_b130 N K (wX11_goes_b65 N K n) x1 x2 u)) ∧ (¬ (u 7 x2.toNatClampNeg) = (-1) → (∀ u15 : MM, u15 = up u 1 2 ((u 1 2) ||| ((1 : Int32) <<< (x2 &&& 31))) → (vp_in x2 7 ∧ (vp_in ((4 + x2)) 944 ∧ ∀ u16 : MM, u16 = up u15 1 ((4 + x2).toNatClampNeg) (u15 7 x2.toNatClampNeg) → (vp_in ((11 + x2)) 944 ∧ ∀ u17 : MM, u17 = up u16 1 ((11 + x2).toNatClampNeg) (u16 1 0) → (∀ y18 : Int32, y18 = x1 + 1 → (wX11_goes_b130 N K (wX11_goes_b65 N K n) y18 x2 u17)))))))))))
def wX11_goes_b39 (N : Nat) (K : Int32 → MM → Prop) (ro6 : Int32 → MM → Prop) (x1 : Int32) (s0 : Int32) (s1 : Int32) (u : MM) : Prop := (vp_in s1 7 ∧ ∀ u10 : MM, u10 = up u 7 (s1.toNatClampNeg) s0 → (∀ y11 : Int32, y11 = x1 + 1 → (ro6 y11 u10)))
def wX11_goes_b6 (N : Nat) (K : Int32 → MM → Prop) : Nat → Int32 → MM → Prop
  | 0, _, _ => False
  | n + 1, x1, u => (((u 1 18) ≤ x1 → (∀ u4 : MM, u4 = up u 1 3 ((u 1 3) ||| (u 1 2)) → (wX11_goes_b65 N K N 0 0 u4))) ∧ (¬ (u 1 18) ≤ x1 → (wX11_isDeaf N x1 u (fun r5 u6 => ((r5 = 0 → (wX11_numberFor N x1 u6 (fun r8 u9 => (wX11_goes_b39 N K (wX11_goes_b6 N K n) x1 r8 x1 u9)))) ∧ (¬ r5 = 0 → (wX11_goes_b39 N K (wX11_goes_b6 N K n) x1 (-1) x1 u6)))))))
def wX11_goes (N : Nat) (u : MM) (K : Int32 → MM → Prop) : Prop := (wX11_chooses N u (fun u2 => (wX11_goes_b6 N K N 0 u2)))
set_option maxRecDepth 100000 in
set_option maxHeartbeats 4000000 in
theorem tX11_goes_b130 (l : Launch) (D : va_G) (cI cZ : ClassId) (ad q : Nat → Nat) (N : Nat) {p : Program} {e : Env} {s : State} {m : MethodId} {args : Array Value} {below : List Frame} {meth : Method} {c : Code} {K : Int32 → MM → Prop} (C : CX p s m args meth c cX11_goes 3 RX11 (some .int) D cI cZ ad (AJ 9 q s.heap.size)) {ro65 : Int32 → Int32 → MM → Prop} (hro65 : ∀ (x1 : Int32) (x2 : Int32) (u : MM), ro65 x1 x2 u → JX p l e (rr 5 122) s m args below meth c D (AJ 9 q s.heap.size) 3 (MQ below ((QI D 9 q (entM q cI cZ) K) (AJ 9 q s.heap.size)) args s 0 0 (AJ 9 q s.heap.size)) 9 q (entM q cI cZ) u 65 [(0, .ref (q 0)), (1, .int x1), (2, .int x2)] []) : ∀ (x1 : Int32) (x2 : Int32) (u : MM), wX11_goes_b130 N K ro65 x1 x2 u → JX p l e (rr 5 122) s m args below meth c D (AJ 9 q s.heap.size) 3 (MQ below ((QI D 9 q (entM q cI cZ) K) (AJ 9 q s.heap.size)) args s 0 0 (AJ 9 q s.heap.size)) 9 q (entM q cI cZ) u 130 [(0, .ref (q 0)), (1, .int x1), (2, .int x2)] [] := by
    intro x1 x2 u h
    obtain ⟨y19, ey19⟩ : ∃ z : Int32, z = x2 + 1 := ⟨_, rfl⟩
    have h := h y19 ey19
    refine j_iinc (v := y19) (lv' := [(2, .int y19), (0, .ref (q 0)), (1, .int x1)]) C 2 dX11_goes_130 rfl (by rw [ey19]; rfl) (by decide) rfl ?_
    refine j_goto C 65 dX11_goes_133 (by decide) ?_
    refine j_sub (lv' := [(0, .ref (q 0)), (1, .int x1), (2, .int y19)]) [1, 2, 0] rfl ?_
    exact hro65 _ _ _ h
set_option maxRecDepth 100000 in
set_option maxHeartbeats 4000000 in
theorem tX11_goes_b65 (l : Launch) (D : va_G) (cI cZ : ClassId) (ad q : Nat → Nat) (N : Nat) {p : Program} {e : Env} {s : State} {m : MethodId} {args : Array Value} {below : List Frame} {meth : Method} {c : Code} {K : Int32 → MM → Prop} (C : CX p s m args meth c cX11_goes 3 RX11 (some .int) D cI cZ ad (AJ 9 q s.heap.size)) : ∀ (n : Nat) (x1 : Int32) (x2 : Int32) (u : MM), wX11_goes_b65 N K n x1 x2 u → JX p l e (rr 5 122) s m args below meth c D (AJ 9 q s.heap.size) 3 (MQ below ((QI D 9 q (entM q cI cZ) K) (AJ 9 q s.heap.size)) args s 0 0 (AJ 9 q s.heap.size)) 9 q (entM q cI cZ) u 65 [(0, .ref (q 0)), (1, .int x1), (2, .int x2)] [] := by
  intro n
  induction n with
  | zero => intro x1 x2 u h; exact h.elim
  | succ n ih =>
    intro x1 x2 u h
    refine j_iload_n C 2 dX11_goes_65 rfl ?_
    refine j_aload_n C 0 dX11_goes_66 rfl ?_
    refine j_get C 0 1 (ly_X11 C.2.2.2.2.2.2.2.1.1) q_636 rfl rfl (by decide) rfl rfl (by decide) rfl dX11_goes_67 ?_
    refine j_bipush (v := 18) C dX11_goes_70 (by decide) ?_
    refine j_ialoadK (N := 944) C 1 18 (by decide) (show ¬ ((18 : Int32) < 0 ∨ 944 ≤ (18 : Int32).toNatClampNeg) by decide) (by decide) rfl rfl dX11_goes_72 ?_
    refine j_icmp_ge C 136 dX11_goes_73 (by decide) (fun c12 => ?_) (fun c12 => ?_)
    · have h := h.1 c12
      refine j_aload_n C 0 dX11_goes_136 rfl ?_
      refine j_get C 0 1 (ly_X11 C.2.2.2.2.2.2.2.1.1) q_636 rfl rfl (by decide) rfl rfl (by decide) rfl dX11_goes_137 ?_
      refine j_iconst (v := 0) C dX11_goes_140 (by decide) ?_
      refine j_dup2 C dX11_goes_141 rfl rfl ?_
      refine j_ialoadK (N := 944) C 1 0 (by decide) (show ¬ ((0 : Int32) < 0 ∨ 944 ≤ (0 : Int32).toNatClampNeg) by decide) (by decide) rfl rfl dX11_goes_142 ?_
      refine j_iconst (v := 1) C dX11_goes_143 (by decide) ?_
      refine j_iadd C dX11_goes_144 ?_
      refine j_iastoreK (N := 944) C 1 0 (by decide) (show ¬ ((0 : Int32) < 0 ∨ 944 ≤ (0 : Int32).toNatClampNeg) by decide) (by decide) (fun _ => rfl) rfl dX11_goes_145 (fun u13 eu13 => ?_)
      have h := h u13 eu13
      refine j_iload_n C 1 dX11_goes_146 rfl ?_
      exact j_iret C dX11_goes_147 h
    · have h := h.2 c12
      refine j_aload_n C 0 dX11_goes_76 rfl ?_
      refine j_get C 0 15 (ly_X11 C.2.2.2.2.2.2.2.1.1) q_650 rfl rfl (by decide) rfl rfl (by decide) rfl dX11_goes_77 ?_
      refine j_iload_n C 2 dX11_goes_80 rfl ?_
      obtain ⟨hin, h⟩ := h
      refine j_ialoadK (N := 7) C 7 _ rfl hin (by decide) rfl rfl dX11_goes_81 ?_
      refine j_iconst (v := (-1)) C dX11_goes_82 (by decide) ?_
      refine j_icmp_eq C 130 dX11_goes_83 (by decide) (fun c14 => ?_) (fun c14 => ?_)
      · have h := h.1 c14
        exact tX11_goes_b130 l D cI cZ ad q N C ih _ _ _ h
      · have h := h.2 c14
        refine j_aload_n C 0 dX11_goes_86 rfl ?_
        refine j_get C 0 1 (ly_X11 C.2.2.2.2.2.2.2.1.1) q_636 rfl rfl (by decide) rfl rfl (by decide) rfl dX11_goes_87 ?_
        refine j_iconst (v := 2) C dX11_goes_90 (by decide) ?_
        refine j_dup2 C dX11_goes_91 rfl rfl ?_
        refine j_ialoadK (N := 944) C 1 2 (by decide) (show ¬ ((2 : Int32) < 0 ∨ 944 ≤ (2 : Int32).toNatClampNeg) by decide) (by decide) rfl rfl dX11_goes_92 ?_
        refine j_iconst (v := 1) C dX11_goes_93 (by decide) ?_
        refine j_iload_n C 2 dX11_goes_94 rfl ?_
        refine j_ishl C dX11_goes_95 ?_
        refine j_ior C dX11_goes_96 ?_
        refine j_iastoreK (N := 944) C 1 2 (by decide) (show ¬ ((2 : Int32) < 0 ∨ 944 ≤ (2 : Int32).toNatClampNeg) by decide) (by decide) (fun _ => rfl) rfl dX11_goes_97 (fun u15 eu15 => ?_)
        have h := h u15 eu15
        refine j_aload_n C 0 dX11_goes_98 rfl ?_
        refine j_get C 0 1 (ly_X11 C.2.2.2.2.2.2.2.1.1) q_636 rfl rfl (by decide) rfl rfl (by decide) rfl dX11_goes_99 ?_
        refine j_iconst (v := 4) C dX11_goes_102 (by decide) ?_
        refine j_iload_n C 2 dX11_goes_103 rfl ?_
        refine j_iadd C dX11_goes_104 ?_
        refine j_aload_n C 0 dX11_goes_105 rfl ?_
        refine j_get C 0 15 (ly_X11 C.2.2.2.2.2.2.2.1.1) q_650 rfl rfl (by decide) rfl rfl (by decide) rfl dX11_goes_106 ?_
        refine j_iload_n C 2 dX11_goes_109 rfl ?_
        obtain ⟨hin, h⟩ := h
        refine j_ialoadK (N := 7) C 7 _ rfl hin (by decide) rfl rfl dX11_goes_110 ?_
        obtain ⟨hin, h⟩ := h
        refine j_iastoreK (N := 944) C 1 _ rfl hin (by decide) (fun _ => rfl) rfl dX11_goes_111 (fun u16 eu16 => ?_)
        have h := h u16 eu16
        refine j_aload_n C 0 dX11_goes_112 rfl ?_
        refine j_get C 0 1 (ly_X11 C.2.2.2.2.2.2.2.1.1) q_636 rfl rfl (by decide) rfl rfl (by decide) rfl dX11_goes_113 ?_
        refine j_bipush (v := 11) C dX11_goes_116 (by decide) ?_
        refine j_iload_n C 2 dX11_goes_118 rfl ?_
        refine j_iadd C dX11_goes_119 ?_
        refine j_aload_n C 0 dX11_goes_120 rfl ?_
        refine j_get C 0 1 (ly_X11 C.2.2.2.2.2.2.2.1.1) q_636 rfl rfl (by decide) rfl rfl (by decide) rfl dX11_goes_121 ?_
        refine j_iconst (v := 0) C dX11_goes_124 (by decide) ?_
        refine j_ialoadK (N := 944) C 1 0 (by decide) (show ¬ ((0 : Int32) < 0 ∨ 944 ≤ (0 : Int32).toNatClampNeg) by decide) (by decide) rfl rfl dX11_goes_125 ?_
        obtain ⟨hin, h⟩ := h
        refine j_iastoreK (N := 944) C 1 _ rfl hin (by decide) (fun _ => rfl) rfl dX11_goes_126 (fun u17 eu17 => ?_)
        have h := h u17 eu17
        obtain ⟨y18, ey18⟩ : ∃ z : Int32, z = x1 + 1 := ⟨_, rfl⟩
        have h := h y18 ey18
        refine j_iinc (v := y18) (lv' := [(1, .int y18), (0, .ref (q 0)), (2, .int x2)]) C 1 dX11_goes_127 rfl (by rw [ey18]; rfl) (by decide) rfl ?_
        refine j_sub (lv' := [(0, .ref (q 0)), (1, .int y18), (2, .int x2)]) [1, 0, 2] rfl ?_
        exact tX11_goes_b130 l D cI cZ ad q N C ih _ _ _ h
set_option maxRecDepth 100000 in
set_option maxHeartbeats 4000000 in
theorem tX11_goes_b39 (l : Launch) (D : va_G) (cI cZ : ClassId) (ad q : Nat → Nat) (N : Nat) {p : Program} {e : Env} {s : State} {m : MethodId} {args : Array Value} {below : List Frame} {meth : Method} {c : Code} {K : Int32 → MM → Prop} (C : CX p s m args meth c cX11_goes 3 RX11 (some .int) D cI cZ ad (AJ 9 q s.heap.size)) {ro6 : Int32 → MM → Prop} (hro6 : ∀ (x1 : Int32) (u : MM), ro6 x1 u → JX p l e (rr 5 122) s m args below meth c D (AJ 9 q s.heap.size) 3 (MQ below ((QI D 9 q (entM q cI cZ) K) (AJ 9 q s.heap.size)) args s 0 0 (AJ 9 q s.heap.size)) 9 q (entM q cI cZ) u 6 [(0, .ref (q 0)), (1, .int x1)] []) : ∀ (x1 : Int32) (s0 : Int32) (s1 : Int32) (u : MM), wX11_goes_b39 N K ro6 x1 s0 s1 u → JX p l e (rr 5 122) s m args below meth c D (AJ 9 q s.heap.size) 3 (MQ below ((QI D 9 q (entM q cI cZ) K) (AJ 9 q s.heap.size)) args s 0 0 (AJ 9 q s.heap.size)) 9 q (entM q cI cZ) u 39 [(0, .ref (q 0)), (1, .int x1)] [.int s0, .int s1, .ref (q 7)] := by
    intro x1 s0 s1 u h
    obtain ⟨hin, h⟩ := h
    refine j_iastoreK (N := 7) C 7 _ rfl hin (by decide) (fun _ => rfl) rfl dX11_goes_39 (fun u10 eu10 => ?_)
    have h := h u10 eu10
    obtain ⟨y11, ey11⟩ : ∃ z : Int32, z = x1 + 1 := ⟨_, rfl⟩
    have h := h y11 ey11
    refine j_iinc (v := y11) (lv' := [(1, .int y11), (0, .ref (q 0))]) C 1 dX11_goes_40 rfl (by rw [ey11]; rfl) (by decide) rfl ?_
    refine j_goto C 6 dX11_goes_43 (by decide) ?_
    refine j_sub (lv' := [(0, .ref (q 0)), (1, .int y11)]) [1, 0] rfl ?_
    exact hro6 _ _ h
set_option maxRecDepth 100000 in
set_option maxHeartbeats 4000000 in
theorem tX11_goes_b6 (l : Launch) (D : va_G) (cI cZ : ClassId) (ad q : Nat → Nat) (N : Nat) {p : Program} {e : Env} {s : State} {m : MethodId} {args : Array Value} {below : List Frame} {meth : Method} {c : Code} {K : Int32 → MM → Prop} (C : CX p s m args meth c cX11_goes 3 RX11 (some .int) D cI cZ ad (AJ 9 q s.heap.size)) : ∀ (n : Nat) (x1 : Int32) (u : MM), wX11_goes_b6 N K n x1 u → JX p l e (rr 5 122) s m args below meth c D (AJ 9 q s.heap.size) 3 (MQ below ((QI D 9 q (entM q cI cZ) K) (AJ 9 q s.heap.size)) args s 0 0 (AJ 9 q s.heap.size)) 9 q (entM q cI cZ) u 6 [(0, .ref (q 0)), (1, .int x1)] [] := by
  intro n
  induction n with
  | zero => intro x1 u h; exact h.elim
  | succ n ih =>
    intro x1 u h
    refine j_iload_n C 1 dX11_goes_6 rfl ?_
    refine j_aload_n C 0 dX11_goes_7 rfl ?_
    refine j_get C 0 1 (ly_X11 C.2.2.2.2.2.2.2.1.1) q_636 rfl rfl (by decide) rfl rfl (by decide) rfl dX11_goes_8 ?_
    refine j_bipush (v := 18) C dX11_goes_11 (by decide) ?_
    refine j_ialoadK (N := 944) C 1 18 (by decide) (show ¬ ((18 : Int32) < 0 ∨ 944 ≤ (18 : Int32).toNatClampNeg) by decide) (by decide) rfl rfl dX11_goes_13 ?_
    refine j_icmp_ge C 46 dX11_goes_14 (by decide) (fun c3 => ?_) (fun c3 => ?_)
    · have h := h.1 c3
      refine j_iconst (v := 0) C dX11_goes_46 (by decide) ?_
      refine j_istore_n (lv' := [(1, .int 0), (0, .ref (q 0))]) C dX11_goes_47 (by decide) rfl ?_
      refine j_aload_n C 1 dX11_goes_48 rfl ?_
      refine j_get C 0 1 (ly_X11 C.2.2.2.2.2.2.2.1.1) q_636 rfl rfl (by decide) rfl rfl (by decide) rfl dX11_goes_49 ?_
      refine j_iconst (v := 3) C dX11_goes_52 (by decide) ?_
      refine j_dup2 C dX11_goes_53 rfl rfl ?_
      refine j_ialoadK (N := 944) C 1 3 (by decide) (show ¬ ((3 : Int32) < 0 ∨ 944 ≤ (3 : Int32).toNatClampNeg) by decide) (by decide) rfl rfl dX11_goes_54 ?_
      refine j_aload_n C 1 dX11_goes_55 rfl ?_
      refine j_get C 0 1 (ly_X11 C.2.2.2.2.2.2.2.1.1) q_636 rfl rfl (by decide) rfl rfl (by decide) rfl dX11_goes_56 ?_
      refine j_iconst (v := 2) C dX11_goes_59 (by decide) ?_
      refine j_ialoadK (N := 944) C 1 2 (by decide) (show ¬ ((2 : Int32) < 0 ∨ 944 ≤ (2 : Int32).toNatClampNeg) by decide) (by decide) rfl rfl dX11_goes_60 ?_
      refine j_ior C dX11_goes_61 ?_
      refine j_iastoreK (N := 944) C 1 3 (by decide) (show ¬ ((3 : Int32) < 0 ∨ 944 ≤ (3 : Int32).toNatClampNeg) by decide) (by decide) (fun _ => rfl) rfl dX11_goes_62 (fun u4 eu4 => ?_)
      have h := h u4 eu4
      refine j_iconst (v := 0) C dX11_goes_63 (by decide) ?_
      refine j_istore_n (lv' := [(2, .int 0), (1, .int 0), (0, .ref (q 0))]) C dX11_goes_64 (by decide) rfl ?_
      refine j_sub (lv' := [(0, .ref (q 0)), (1, .int 0), (2, .int 0)]) [2, 1, 0] rfl ?_
      exact tX11_goes_b65 l D cI cZ ad q N C N _ _ _ h
    · have h := h.2 c3
      refine j_aload_n C 0 dX11_goes_17 rfl ?_
      refine j_get C 0 15 (ly_X11 C.2.2.2.2.2.2.2.1.1) q_650 rfl rfl (by decide) rfl rfl (by decide) rfl dX11_goes_18 ?_
      refine j_iload_n C 1 dX11_goes_21 rfl ?_
      refine j_aload_n C 0 dX11_goes_22 rfl ?_
      refine j_iload_n C 1 dX11_goes_23 rfl ?_
      refine j_wi C (fun H locs ls hP hD hS hl => run_V (Cn := "") (As := [.int x1]) (st := [.int x1, .ref (q 7)]) C mf_X11_isDeaf 0 (kX_X11_isDeaf l D cI cZ ad q N h) q_785 (by decide) rfl rfl rfl rfl ⟨rfl, rfl, by decide, by decide⟩ (Nat.le_of_ble_eq_true rfl) dX11_goes_24 hP hD hS hl) (fun r5 u6 h => ?_)
      refine j_if_eq C 34 dX11_goes_27 (by decide) (fun c7 => ?_) (fun c7 => ?_)
      · have h := h.1 c7
        refine j_aload_n C 0 dX11_goes_34 rfl ?_
        refine j_iload_n C 1 dX11_goes_35 rfl ?_
        refine j_wi C (fun H locs ls hP hD hS hl => run_V (Cn := "") (As := [.int x1]) (st := [.int x1, .ref (q 7)]) C mf_X11_numberFor 0 (kX_X11_numberFor l D cI cZ ad q N h) q_788 (by decide) rfl rfl rfl rfl ⟨rfl, rfl, by decide, by decide⟩ (Nat.le_of_ble_eq_true rfl) dX11_goes_36 hP hD hS hl) (fun r8 u9 h => ?_)
        exact tX11_goes_b39 l D cI cZ ad q N C ih _ _ _ _ h
      · have h := h.2 c7
        refine j_iconst (v := (-1)) C dX11_goes_30 (by decide) ?_
        refine j_goto C 39 dX11_goes_31 (by decide) ?_
        exact tX11_goes_b39 l D cI cZ ad q N C ih _ _ _ _ h
set_option maxRecDepth 100000 in
set_option maxHeartbeats 4000000 in
theorem kX_X11_goes (l : Launch) (D : va_G) (cI cZ : ClassId) (ad q : Nat → Nat) (N : Nat) {u : MM} {K : Int32 → MM → Prop} (h : wX11_goes N u K) : CT l D cI cZ ad 9 q (entM q cI cZ) yX11_goes cX11_goes 3 (some .int) (rr 5 122) [.ref (q 0)] u (QI D 9 q (entM q cI cZ) K) := by
    refine ct_of (by decide +kernel) (Nat.le_of_ble_eq_true rfl) (fun p e s m args below meth c C => ?_)
    refine j_sub (lv' := [(0, .ref (q 0))]) [0] rfl ?_
    refine j_aload_n C 0 dX11_goes_0 rfl ?_
    refine j_wv C (fun H locs ls hP hD hS hl => run_V (Cn := "") (As := []) (st := []) C mf_X11_chooses 0 (kX_X11_chooses l D cI cZ ad q N h) q_779 (by decide) rfl rfl rfl rfl ⟨rfl, rfl, by decide, by decide⟩ (Nat.le_of_ble_eq_true rfl) dX11_goes_1 hP hD hS hl) (fun u2 h => ?_)
    refine j_iconst (v := 0) C dX11_goes_4 (by decide) ?_
    refine j_istore_n (lv' := [(1, .int 0), (0, .ref (q 0))]) C dX11_goes_5 (by decide) rfl ?_
    refine j_sub (lv' := [(0, .ref (q 0)), (1, .int 0)]) [1, 0] rfl ?_
    exact tX11_goes_b6 l D cI cZ ad q N C N _ _ h

def wX11_day (N : Nat) (u : MM) (K : Int32 → MM → Prop) : Prop := ((¬ (u 1 0) = 999 → (wX11_goes N u (fun r2 u3 => (K r2 u3)))) ∧ ((u 1 0) = 999 → (K (-3) u)))
set_option maxRecDepth 100000 in
set_option maxHeartbeats 4000000 in
theorem kX_X11_day (l : Launch) (D : va_G) (cI cZ : ClassId) (ad q : Nat → Nat) (N : Nat) {u : MM} {K : Int32 → MM → Prop} (h : wX11_day N u K) : CT l D cI cZ ad 9 q (entM q cI cZ) yX11_day cX11_day 1 (some .int) (rr 6 144) [.ref (q 0)] u (QI D 9 q (entM q cI cZ) K) := by
    refine ct_of (by decide +kernel) (Nat.le_of_ble_eq_true rfl) (fun p e s m args below meth c C => ?_)
    refine j_sub (lv' := [(0, .ref (q 0))]) [0] rfl ?_
    refine j_aload_n C 0 dX11_day_0 rfl ?_
    refine j_get C 0 1 (ly_X11 C.2.2.2.2.2.2.2.1.1) q_636 rfl rfl (by decide) rfl rfl (by decide) rfl dX11_day_1 ?_
    refine j_iconst (v := 0) C dX11_day_4 (by decide) ?_
    refine j_ialoadK (N := 944) C 1 0 (by decide) (show ¬ ((0 : Int32) < 0 ∨ 944 ≤ (0 : Int32).toNatClampNeg) by decide) (by decide) rfl rfl dX11_day_5 ?_
    refine j_sipush (v := 999) C dX11_day_6 (by decide) ?_
    refine j_icmp_ne C 17 dX11_day_9 (by decide) (fun c1 => ?_) (fun c1 => ?_)
    · have h := h.1 c1
      refine j_aload_n C 0 dX11_day_17 rfl ?_
      refine j_wi C (fun H locs ls hP hD hS hl => run_V (Cn := "") (As := []) (st := []) C mf_X11_goes 0 (kX_X11_goes l D cI cZ ad q N h) q_776 (by decide) rfl rfl rfl rfl ⟨rfl, rfl, by decide, by decide⟩ (Nat.le_of_ble_eq_true rfl) dX11_day_18 hP hD hS hl) (fun r2 u3 h => ?_)
      exact j_iret C dX11_day_21 h
    · have h := h.2 c1
      refine j_bipush (v := (-3)) C dX11_day_12 (by decide) ?_
      refine j_goto C 21 dX11_day_14 (by decide) ?_
      exact j_iret C dX11_day_21 h

def wX11_sumOf_b66 (N : Nat) (K : Int64 → MM → Prop) (ro28 : Int32 → Int32 → Int64 → Int32 → MM → Prop) (x1 : Int32) (x2 : Int32) (x3 : Int64) (s0 : Int32) (s1 : Int32) (u : MM) : Prop := (∀ y7 : Int32, y7 = (s1 + s0) → (ro28 x1 x2 x3 y7 u))
def wX11_sumOf_b53 (N : Nat) (K : Int64 → MM → Prop) (ro28 : Int32 → Int32 → Int64 → Int32 → MM → Prop) (x1 : Int32) (x2 : Int32) (x6 : Int32) (s0 : Int64) (u : MM) : Prop := ((¬ x2 = 0 → (wX11_sumOf_b66 N K ro28 x1 x2 s0 x2 x6 u)) ∧ (x2 = 0 → (wX11_sumOf_b66 N K ro28 x1 x2 s0 99 x6 u)))
def wX11_sumOf_b28 (N : Nat) (K : Int64 → MM → Prop) : Nat → Int32 → Int32 → Int64 → Int32 → MM → Prop
  | 0, _, _, _, _, _ => False
  | n + 1, x1, x2, x3, x6, u => ((x1 < x6 → (K x3 u)) ∧ (¬ x1 < x6 → ((¬ x2 = 0 → (wX11_sumOf_b53 N K (wX11_sumOf_b28 N K n) x1 x2 x6 ((Int32.toInt64 x6) + ((Int32.toInt64 x6) * x3)) u)) ∧ (x2 = 0 → (wX11_sumOf_b53 N K (wX11_sumOf_b28 N K n) x1 x2 x6 (Int32.toInt64 x6) u)))))
def wX11_sumOf_b22 (N : Nat) (K : Int64 → MM → Prop) (x1 : Int32) (x2 : Int32) (x3 : Int64) (s0 : Int32) (u : MM) : Prop := (wX11_sumOf_b28 N K N x1 x2 x3 s0 u)
def wX11_sumOf (N : Nat) (x1 : Int32) (u : MM) (K : Int64 → MM → Prop) : Prop := (wX11_tellsOf N 229 1 u (fun r1 u2 => ((¬ r1 = 0 → (¬ r1 = 0 ∧ (wX11_sumOf_b22 N K x1 r1 0 (x1 - x1 / r1 * r1) u2))) ∧ (r1 = 0 → (wX11_sumOf_b22 N K x1 r1 0 x1 u2)))))
set_option maxRecDepth 100000 in
set_option maxHeartbeats 4000000 in
theorem tX11_sumOf_b66 (l : Launch) (D : va_G) (cI cZ : ClassId) (ad q : Nat → Nat) (N : Nat) {p : Program} {e : Env} {s : State} {m : MethodId} {args : Array Value} {below : List Frame} {meth : Method} {c : Code} {K : Int64 → MM → Prop} (C : CX p s m args meth c cX11_sumOf 7 RX11 (some .long) D cI cZ ad (AJ 9 q s.heap.size)) {ro28 : Int32 → Int32 → Int64 → Int32 → MM → Prop} (hro28 : ∀ (x1 : Int32) (x2 : Int32) (x3 : Int64) (x6 : Int32) (u : MM), ro28 x1 x2 x3 x6 u → JX p l e (rr 1 22) s m args below meth c D (AJ 9 q s.heap.size) 7 (MQ below ((QL D 9 q (entM q cI cZ) K) (AJ 9 q s.heap.size)) args s 0 0 (AJ 9 q s.heap.size)) 9 q (entM q cI cZ) u 28 [(1, .int x1), (2, .int x2), (3, .long x3), (6, .int x6)] []) : ∀ (x1 : Int32) (x2 : Int32) (x3 : Int64) (s0 : Int32) (s1 : Int32) (u : MM), wX11_sumOf_b66 N K ro28 x1 x2 x3 s0 s1 u → JX p l e (rr 1 22) s m args below meth c D (AJ 9 q s.heap.size) 7 (MQ below ((QL D 9 q (entM q cI cZ) K) (AJ 9 q s.heap.size)) args s 0 0 (AJ 9 q s.heap.size)) 9 q (entM q cI cZ) u 66 [(1, .int x1), (2, .int x2), (3, .long x3)] [.int s0, .int s1] := by
    intro x1 x2 x3 s0 s1 u h
    refine j_iadd C dX11_sumOf_66 ?_
    refine j_nmi (fun y7 ey7 => ?_)
    have h := h y7 ey7
    refine j_istore (lv' := [(6, .int y7), (1, .int x1), (2, .int x2), (3, .long x3)]) C dX11_sumOf_67 (by decide) rfl ?_
    refine j_goto C 28 dX11_sumOf_69 (by decide) ?_
    refine j_sub (lv' := [(1, .int x1), (2, .int x2), (3, .long x3), (6, .int y7)]) [1, 2, 3, 0] rfl ?_
    exact hro28 _ _ _ _ _ h
set_option maxRecDepth 100000 in
set_option maxHeartbeats 4000000 in
theorem tX11_sumOf_b53 (l : Launch) (D : va_G) (cI cZ : ClassId) (ad q : Nat → Nat) (N : Nat) {p : Program} {e : Env} {s : State} {m : MethodId} {args : Array Value} {below : List Frame} {meth : Method} {c : Code} {K : Int64 → MM → Prop} (C : CX p s m args meth c cX11_sumOf 7 RX11 (some .long) D cI cZ ad (AJ 9 q s.heap.size)) {ro28 : Int32 → Int32 → Int64 → Int32 → MM → Prop} (hro28 : ∀ (x1 : Int32) (x2 : Int32) (x3 : Int64) (x6 : Int32) (u : MM), ro28 x1 x2 x3 x6 u → JX p l e (rr 1 22) s m args below meth c D (AJ 9 q s.heap.size) 7 (MQ below ((QL D 9 q (entM q cI cZ) K) (AJ 9 q s.heap.size)) args s 0 0 (AJ 9 q s.heap.size)) 9 q (entM q cI cZ) u 28 [(1, .int x1), (2, .int x2), (3, .long x3), (6, .int x6)] []) : ∀ (x1 : Int32) (x2 : Int32) (x6 : Int32) (s0 : Int64) (u : MM), wX11_sumOf_b53 N K ro28 x1 x2 x6 s0 u → JX p l e (rr 1 22) s m args below meth c D (AJ 9 q s.heap.size) 7 (MQ below ((QL D 9 q (entM q cI cZ) K) (AJ 9 q s.heap.size)) args s 0 0 (AJ 9 q s.heap.size)) 9 q (entM q cI cZ) u 53 [(1, .int x1), (2, .int x2), (6, .int x6)] [.long s0] := by
    intro x1 x2 x6 s0 u h
    refine j_lstore_n (lv' := [(3, .long s0), (1, .int x1), (2, .int x2), (6, .int x6)]) C dX11_sumOf_53 (by decide) rfl ?_
    refine j_iload C 3 dX11_sumOf_54 rfl ?_
    refine j_iload_n C 2 dX11_sumOf_56 rfl ?_
    refine j_if_ne C 65 dX11_sumOf_57 (by decide) (fun c6 => ?_) (fun c6 => ?_)
    · have h := h.1 c6
      refine j_iload_n C 2 dX11_sumOf_65 rfl ?_
      refine j_sub (lv' := [(1, .int x1), (2, .int x2), (3, .long s0)]) [1, 2, 0] rfl ?_
      exact tX11_sumOf_b66 l D cI cZ ad q N C (hro28) _ _ _ _ _ _ h
    · have h := h.2 c6
      refine j_bipush (v := 99) C dX11_sumOf_60 (by decide) ?_
      refine j_goto C 66 dX11_sumOf_62 (by decide) ?_
      refine j_sub (lv' := [(1, .int x1), (2, .int x2), (3, .long s0)]) [1, 2, 0] rfl ?_
      exact tX11_sumOf_b66 l D cI cZ ad q N C (hro28) _ _ _ _ _ _ h
set_option maxRecDepth 100000 in
set_option maxHeartbeats 4000000 in
theorem tX11_sumOf_b28 (l : Launch) (D : va_G) (cI cZ : ClassId) (ad q : Nat → Nat) (N : Nat) {p : Program} {e : Env} {s : State} {m : MethodId} {args : Array Value} {below : List Frame} {meth : Method} {c : Code} {K : Int64 → MM → Prop} (C : CX p s m args meth c cX11_sumOf 7 RX11 (some .long) D cI cZ ad (AJ 9 q s.heap.size)) : ∀ (n : Nat) (x1 : Int32) (x2 : Int32) (x3 : Int64) (x6 : Int32) (u : MM), wX11_sumOf_b28 N K n x1 x2 x3 x6 u → JX p l e (rr 1 22) s m args below meth c D (AJ 9 q s.heap.size) 7 (MQ below ((QL D 9 q (entM q cI cZ) K) (AJ 9 q s.heap.size)) args s 0 0 (AJ 9 q s.heap.size)) 9 q (entM q cI cZ) u 28 [(1, .int x1), (2, .int x2), (3, .long x3), (6, .int x6)] [] := by
  intro n
  induction n with
  | zero => intro x1 x2 x3 x6 u h; exact h.elim
  | succ n ih =>
    intro x1 x2 x3 x6 u h
    refine j_iload C 3 dX11_sumOf_28 rfl ?_
    refine j_iload_n C 0 dX11_sumOf_30 rfl ?_
    refine j_icmp_gt C 72 dX11_sumOf_31 (by decide) (fun c4 => ?_) (fun c4 => ?_)
    · have h := h.1 c4
      refine j_lload_n C 2 dX11_sumOf_72 rfl ?_
      exact j_lret C dX11_sumOf_73 h
    · have h := h.2 c4
      refine j_iload_n C 1 dX11_sumOf_34 rfl ?_
      refine j_if_ne C 44 dX11_sumOf_35 (by decide) (fun c5 => ?_) (fun c5 => ?_)
      · have h := h.1 c5
        refine j_iload C 3 dX11_sumOf_44 rfl ?_
        refine j_i2l C dX11_sumOf_46 ?_
        refine j_iload C 3 dX11_sumOf_47 rfl ?_
        refine j_i2l C dX11_sumOf_49 ?_
        refine j_lload_n C 2 dX11_sumOf_50 rfl ?_
        refine j_lmul C dX11_sumOf_51 ?_
        refine j_ladd C dX11_sumOf_52 ?_
        refine j_sub (lv' := [(1, .int x1), (2, .int x2), (6, .int x6)]) [0, 1, 3] rfl ?_
        exact tX11_sumOf_b53 l D cI cZ ad q N C ih _ _ _ _ _ h
      · have h := h.2 c5
        refine j_iload C 3 dX11_sumOf_38 rfl ?_
        refine j_i2l C dX11_sumOf_40 ?_
        refine j_goto C 53 dX11_sumOf_41 (by decide) ?_
        refine j_sub (lv' := [(1, .int x1), (2, .int x2), (6, .int x6)]) [0, 1, 3] rfl ?_
        exact tX11_sumOf_b53 l D cI cZ ad q N C ih _ _ _ _ _ h
set_option maxRecDepth 100000 in
set_option maxHeartbeats 4000000 in
theorem tX11_sumOf_b22 (l : Launch) (D : va_G) (cI cZ : ClassId) (ad q : Nat → Nat) (N : Nat) {p : Program} {e : Env} {s : State} {m : MethodId} {args : Array Value} {below : List Frame} {meth : Method} {c : Code} {K : Int64 → MM → Prop} (C : CX p s m args meth c cX11_sumOf 7 RX11 (some .long) D cI cZ ad (AJ 9 q s.heap.size)) : ∀ (x1 : Int32) (x2 : Int32) (x3 : Int64) (s0 : Int32) (u : MM), wX11_sumOf_b22 N K x1 x2 x3 s0 u → JX p l e (rr 1 22) s m args below meth c D (AJ 9 q s.heap.size) 7 (MQ below ((QL D 9 q (entM q cI cZ) K) (AJ 9 q s.heap.size)) args s 0 0 (AJ 9 q s.heap.size)) 9 q (entM q cI cZ) u 22 [(1, .int x1), (2, .int x2), (3, .long x3)] [.int s0] := by
    intro x1 x2 x3 s0 u h
    refine j_istore (lv' := [(5, .int s0), (1, .int x1), (2, .int x2), (3, .long x3)]) C dX11_sumOf_22 (by decide) rfl ?_
    refine j_iload C 0 dX11_sumOf_24 rfl ?_
    refine j_istore (lv' := [(6, .int s0), (5, .int s0), (1, .int x1), (2, .int x2), (3, .long x3)]) C dX11_sumOf_26 (by decide) rfl ?_
    refine j_sub (lv' := [(1, .int x1), (2, .int x2), (3, .long x3), (6, .int s0)]) [2, 3, 4, 0] rfl ?_
    exact tX11_sumOf_b28 l D cI cZ ad q N C N _ _ _ _ _ h
set_option maxRecDepth 100000 in
set_option maxHeartbeats 4000000 in
theorem kX_X11_sumOf (l : Launch) (D : va_G) (cI cZ : ClassId) (ad q : Nat → Nat) (N : Nat) {x1 : Int32} {u : MM} {K : Int64 → MM → Prop} (h : wX11_sumOf N x1 u K) : CT l D cI cZ ad 9 q (entM q cI cZ) yX11_sumOf cX11_sumOf 7 (some .long) (rr 1 22) [.ref (q 0), .int x1] u (QL D 9 q (entM q cI cZ) K) := by
    refine ct_of (by decide +kernel) (Nat.le_of_ble_eq_true rfl) (fun p e s m args below meth c C => ?_)
    refine j_sub (lv' := [(0, .ref (q 0)), (1, .int x1)]) [0, 1] rfl ?_
    refine j_aload_n C 0 dX11_sumOf_0 rfl ?_
    refine j_sipush (v := 229) C dX11_sumOf_1 (by decide) ?_
    refine j_iconst (v := 1) C dX11_sumOf_4 (by decide) ?_
    refine j_wi C (fun H locs ls hP hD hS hl => run_V (Cn := "") (As := [.int 229, .int 1]) (st := []) C mf_X11_tellsOf 0 (kX_X11_tellsOf l D cI cZ ad q N h) q_735 (by decide) rfl rfl rfl rfl ⟨rfl, rfl, by decide, by decide⟩ (Nat.le_of_ble_eq_true rfl) dX11_sumOf_5 hP hD hS hl) (fun r1 u2 h => ?_)
    refine j_istore_n (lv' := [(2, .int r1), (0, .ref (q 0)), (1, .int x1)]) C dX11_sumOf_8 (by decide) rfl ?_
    refine j_lconst (v := 0) C dX11_sumOf_9 (by decide) ?_
    refine j_lstore_n (lv' := [(3, .long 0), (2, .int r1), (0, .ref (q 0)), (1, .int x1)]) C dX11_sumOf_10 (by decide) rfl ?_
    refine j_iload_n C 1 dX11_sumOf_11 rfl ?_
    refine j_if_ne C 19 dX11_sumOf_12 (by decide) (fun c3 => ?_) (fun c3 => ?_)
    · have h := h.1 c3
      refine j_iload_n C 3 dX11_sumOf_19 rfl ?_
      refine j_iload_n C 1 dX11_sumOf_20 rfl ?_
      obtain ⟨hne, h⟩ := h
      refine j_irem C dX11_sumOf_21 hne ?_
      refine j_sub (lv' := [(1, .int x1), (2, .int r1), (3, .long 0)]) [3, 1, 0] rfl ?_
      exact tX11_sumOf_b22 l D cI cZ ad q N C _ _ _ _ _ h
    · have h := h.2 c3
      refine j_iload_n C 3 dX11_sumOf_15 rfl ?_
      refine j_goto C 22 dX11_sumOf_16 (by decide) ?_
      refine j_sub (lv' := [(1, .int x1), (2, .int r1), (3, .long 0)]) [3, 1, 0] rfl ?_
      exact tX11_sumOf_b22 l D cI cZ ad q N C _ _ _ _ _ h

def wX11_sum (N : Nat) (x1 : Int32) (u : MM) (K : Int64 → MM → Prop) : Prop := (wX11_in N x1 0 12 (fun r1 => ((r1 = 0 → (K (-9223372036854775808) u)) ∧ (¬ r1 = 0 → (wX11_sumOf N x1 u (fun r3 u4 => (K r3 u4)))))))
set_option maxRecDepth 100000 in
set_option maxHeartbeats 4000000 in
theorem kX_X11_sum (l : Launch) (D : va_G) (cI cZ : ClassId) (ad q : Nat → Nat) (N : Nat) {x1 : Int32} {u : MM} {K : Int64 → MM → Prop} (h : wX11_sum N x1 u K) : CT l D cI cZ ad 9 q (entM q cI cZ) yX11_sum cX11_sum 2 (some .long) (rr 2 48) [.ref (q 0), .int x1] u (QL D 9 q (entM q cI cZ) K) := by
    refine ct_of (by decide +kernel) (Nat.le_of_ble_eq_true rfl) (fun p e s m args below meth c C => ?_)
    refine j_sub (lv' := [(0, .ref (q 0)), (1, .int x1)]) [0, 1] rfl ?_
    refine j_iload_n C 1 dX11_sum_0 rfl ?_
    refine j_iconst (v := 0) C dX11_sum_1 (by decide) ?_
    refine j_bipush (v := 12) C dX11_sum_2 (by decide) ?_
    refine j_ui C (fun H locs ls hP hD => run_S (As := [.int x1, .int 0, .int 12]) (st := []) C mf_X11_in (kX_X11_in l D cI cZ ad q N h) q_667 rfl rfl ⟨rfl, rfl, by decide, by decide⟩ (Nat.le_of_ble_eq_true rfl) dX11_sum_4 hP hD) (fun r1 _ h => ?_)
    refine j_if_eq C 18 dX11_sum_7 (by decide) (fun c2 => ?_) (fun c2 => ?_)
    · have h := h.1 c2
      refine j_ldc2 C (-9223372036854775808) q_801 dX11_sum_18 ?_
      exact j_lret C dX11_sum_21 h
    · have h := h.2 c2
      refine j_aload_n C 0 dX11_sum_10 rfl ?_
      refine j_iload_n C 1 dX11_sum_11 rfl ?_
      refine j_wl C (fun H locs ls hP hD hS hl => run_V (Cn := "") (As := [.int x1]) (st := []) C mf_X11_sumOf 0 (kX_X11_sumOf l D cI cZ ad q N h) q_798 (by decide) rfl rfl rfl rfl ⟨rfl, rfl, by decide, by decide⟩ (Nat.le_of_ble_eq_true rfl) dX11_sum_12 hP hD hS hl) (fun r3 u4 h => ?_)
      refine j_goto C 21 dX11_sum_15 (by decide) ?_
      exact j_lret C dX11_sum_21 h

def wX11_enough_b15 (N : Nat) (K : Int32 → MM → Prop) : Nat → Int32 → Int32 → MM → Prop
  | 0, _, _, _ => False
  | n + 1, x1, x2, u => ((12 < x2 → (K (-5) u)) ∧ (¬ 12 < x2 → (wX11_sumOf N x2 u (fun r4 u5 => (((lg_cmp r4 (Int32.toInt64 x1)) < 0 → (∀ y7 : Int32, y7 = x2 + 1 → (wX11_enough_b15 N K n x1 y7 u5))) ∧ (¬ (lg_cmp r4 (Int32.toInt64 x1)) < 0 → (K x2 u5)))))))
def wX11_enough (N : Nat) (x1 : Int32) (u : MM) (K : Int32 → MM → Prop) : Prop := (wX11_in N x1 0 999999999 (fun r1 => ((¬ r1 = 0 → (wX11_enough_b15 N K N x1 0 u)) ∧ (r1 = 0 → (K (-2) u)))))
set_option maxRecDepth 100000 in
set_option maxHeartbeats 4000000 in
theorem tX11_enough_b15 (l : Launch) (D : va_G) (cI cZ : ClassId) (ad q : Nat → Nat) (N : Nat) {p : Program} {e : Env} {s : State} {m : MethodId} {args : Array Value} {below : List Frame} {meth : Method} {c : Code} {K : Int32 → MM → Prop} (C : CX p s m args meth c cX11_enough 3 RX11 (some .int) D cI cZ ad (AJ 9 q s.heap.size)) : ∀ (n : Nat) (x1 : Int32) (x2 : Int32) (u : MM), wX11_enough_b15 N K n x1 x2 u → JX p l e (rr 2 48) s m args below meth c D (AJ 9 q s.heap.size) 3 (MQ below ((QI D 9 q (entM q cI cZ) K) (AJ 9 q s.heap.size)) args s 0 0 (AJ 9 q s.heap.size)) 9 q (entM q cI cZ) u 15 [(0, .ref (q 0)), (1, .int x1), (2, .int x2)] [] := by
  intro n
  induction n with
  | zero => intro x1 x2 u h; exact h.elim
  | succ n ih =>
    intro x1 x2 u h
    refine j_iload_n C 2 dX11_enough_15 rfl ?_
    refine j_bipush (v := 12) C dX11_enough_16 (by decide) ?_
    refine j_icmp_gt C 40 dX11_enough_18 (by decide) (fun c3 => ?_) (fun c3 => ?_)
    · have h := h.1 c3
      refine j_bipush (v := (-5)) C dX11_enough_40 (by decide) ?_
      exact j_iret C dX11_enough_42 h
    · have h := h.2 c3
      refine j_aload_n C 0 dX11_enough_21 rfl ?_
      refine j_iload_n C 2 dX11_enough_22 rfl ?_
      refine j_wl C (fun H locs ls hP hD hS hl => run_V (Cn := "") (As := [.int x2]) (st := []) C mf_X11_sumOf 0 (kX_X11_sumOf l D cI cZ ad q N h) q_798 (by decide) rfl rfl rfl rfl ⟨rfl, rfl, by decide, by decide⟩ (Nat.le_of_ble_eq_true rfl) dX11_enough_23 hP hD hS hl) (fun r4 u5 h => ?_)
      refine j_iload_n C 1 dX11_enough_26 rfl ?_
      refine j_i2l C dX11_enough_27 ?_
      refine j_lcmp C dX11_enough_28 ?_
      refine j_if_lt C 34 dX11_enough_29 (by decide) (fun c6 => ?_) (fun c6 => ?_)
      · have h := h.1 c6
        obtain ⟨y7, ey7⟩ : ∃ z : Int32, z = x2 + 1 := ⟨_, rfl⟩
        have h := h y7 ey7
        refine j_iinc (v := y7) (lv' := [(2, .int y7), (0, .ref (q 0)), (1, .int x1)]) C 2 dX11_enough_34 rfl (by rw [ey7]; rfl) (by decide) rfl ?_
        refine j_goto C 15 dX11_enough_37 (by decide) ?_
        refine j_sub (lv' := [(0, .ref (q 0)), (1, .int x1), (2, .int y7)]) [1, 2, 0] rfl ?_
        exact ih _ _ _ h
      · have h := h.2 c6
        refine j_iload_n C 2 dX11_enough_32 rfl ?_
        exact j_iret C dX11_enough_33 h
set_option maxRecDepth 100000 in
set_option maxHeartbeats 4000000 in
theorem kX_X11_enough (l : Launch) (D : va_G) (cI cZ : ClassId) (ad q : Nat → Nat) (N : Nat) {x1 : Int32} {u : MM} {K : Int32 → MM → Prop} (h : wX11_enough N x1 u K) : CT l D cI cZ ad 9 q (entM q cI cZ) yX11_enough cX11_enough 3 (some .int) (rr 2 48) [.ref (q 0), .int x1] u (QI D 9 q (entM q cI cZ) K) := by
    refine ct_of (by decide +kernel) (Nat.le_of_ble_eq_true rfl) (fun p e s m args below meth c C => ?_)
    refine j_sub (lv' := [(0, .ref (q 0)), (1, .int x1)]) [0, 1] rfl ?_
    refine j_iload_n C 1 dX11_enough_0 rfl ?_
    refine j_iconst (v := 0) C dX11_enough_1 (by decide) ?_
    refine j_ldc C 999999999 q_806 dX11_enough_2 ?_
    refine j_ui C (fun H locs ls hP hD => run_S (As := [.int x1, .int 0, .int 999999999]) (st := []) C mf_X11_in (kX_X11_in l D cI cZ ad q N h) q_667 rfl rfl ⟨rfl, rfl, by decide, by decide⟩ (Nat.le_of_ble_eq_true rfl) dX11_enough_4 hP hD) (fun r1 _ h => ?_)
    refine j_if_ne C 13 dX11_enough_7 (by decide) (fun c2 => ?_) (fun c2 => ?_)
    · have h := h.1 c2
      refine j_iconst (v := 0) C dX11_enough_13 (by decide) ?_
      refine j_istore_n (lv' := [(2, .int 0), (0, .ref (q 0)), (1, .int x1)]) C dX11_enough_14 (by decide) rfl ?_
      refine j_sub (lv' := [(0, .ref (q 0)), (1, .int x1), (2, .int 0)]) [1, 2, 0] rfl ?_
      exact tX11_enough_b15 l D cI cZ ad q N C N _ _ _ h
    · have h := h.2 c2
      refine j_bipush (v := (-2)) C dX11_enough_10 (by decide) ?_
      exact j_iret C dX11_enough_12 h

def wX11_ends_b2 (N : Nat) (K : Int32 → MM → Prop) : Nat → Int32 → MM → Prop
  | 0, _, _ => False
  | n + 1, x1, u => ((((u 1 2) &&& ((u 1 3) ^^^ ((-1) : Int32))) = 0 → (K x1 u)) ∧ (¬ ((u 1 2) &&& ((u 1 3) ^^^ ((-1) : Int32))) = 0 → (wX11_goes N u (fun r2 u3 => (∀ y4 : Int32, y4 = x1 + 1 → (wX11_ends_b2 N K n y4 u3))))))
def wX11_ends (N : Nat) (u : MM) (K : Int32 → MM → Prop) : Prop := (wX11_ends_b2 N K N 0 u)
set_option maxRecDepth 100000 in
set_option maxHeartbeats 4000000 in
theorem tX11_ends_b2 (l : Launch) (D : va_G) (cI cZ : ClassId) (ad q : Nat → Nat) (N : Nat) {p : Program} {e : Env} {s : State} {m : MethodId} {args : Array Value} {below : List Frame} {meth : Method} {c : Code} {K : Int32 → MM → Prop} (C : CX p s m args meth c cX11_ends 2 RX11 (some .int) D cI cZ ad (AJ 9 q s.heap.size)) : ∀ (n : Nat) (x1 : Int32) (u : MM), wX11_ends_b2 N K n x1 u → JX p l e (rr 6 144) s m args below meth c D (AJ 9 q s.heap.size) 2 (MQ below ((QI D 9 q (entM q cI cZ) K) (AJ 9 q s.heap.size)) args s 0 0 (AJ 9 q s.heap.size)) 9 q (entM q cI cZ) u 2 [(0, .ref (q 0)), (1, .int x1)] [] := by
  intro n
  induction n with
  | zero => intro x1 u h; exact h.elim
  | succ n ih =>
    intro x1 u h
    refine j_aload_n C 0 dX11_ends_2 rfl ?_
    refine j_get C 0 1 (ly_X11 C.2.2.2.2.2.2.2.1.1) q_636 rfl rfl (by decide) rfl rfl (by decide) rfl dX11_ends_3 ?_
    refine j_iconst (v := 2) C dX11_ends_6 (by decide) ?_
    refine j_ialoadK (N := 944) C 1 2 (by decide) (show ¬ ((2 : Int32) < 0 ∨ 944 ≤ (2 : Int32).toNatClampNeg) by decide) (by decide) rfl rfl dX11_ends_7 ?_
    refine j_aload_n C 0 dX11_ends_8 rfl ?_
    refine j_get C 0 1 (ly_X11 C.2.2.2.2.2.2.2.1.1) q_636 rfl rfl (by decide) rfl rfl (by decide) rfl dX11_ends_9 ?_
    refine j_iconst (v := 3) C dX11_ends_12 (by decide) ?_
    refine j_ialoadK (N := 944) C 1 3 (by decide) (show ¬ ((3 : Int32) < 0 ∨ 944 ≤ (3 : Int32).toNatClampNeg) by decide) (by decide) rfl rfl dX11_ends_13 ?_
    refine j_iconst (v := (-1)) C dX11_ends_14 (by decide) ?_
    refine j_ixor C dX11_ends_15 ?_
    refine j_iand C dX11_ends_16 ?_
    refine j_if_eq C 31 dX11_ends_17 (by decide) (fun c1 => ?_) (fun c1 => ?_)
    · have h := h.1 c1
      refine j_iload_n C 1 dX11_ends_31 rfl ?_
      exact j_iret C dX11_ends_32 h
    · have h := h.2 c1
      refine j_aload_n C 0 dX11_ends_20 rfl ?_
      refine j_wi C (fun H locs ls hP hD hS hl => run_V (Cn := "") (As := []) (st := []) C mf_X11_goes 0 (kX_X11_goes l D cI cZ ad q N h) q_776 (by decide) rfl rfl rfl rfl ⟨rfl, rfl, by decide, by decide⟩ (Nat.le_of_ble_eq_true rfl) dX11_ends_21 hP hD hS hl) (fun r2 u3 h => ?_)
      refine j_pop C dX11_ends_24 rfl ?_
      obtain ⟨y4, ey4⟩ : ∃ z : Int32, z = x1 + 1 := ⟨_, rfl⟩
      have h := h y4 ey4
      refine j_iinc (v := y4) (lv' := [(1, .int y4), (0, .ref (q 0))]) C 1 dX11_ends_25 rfl (by rw [ey4]; rfl) (by decide) rfl ?_
      refine j_goto C 2 dX11_ends_28 (by decide) ?_
      refine j_sub (lv' := [(0, .ref (q 0)), (1, .int y4)]) [1, 0] rfl ?_
      exact ih _ _ h
set_option maxRecDepth 100000 in
set_option maxHeartbeats 4000000 in
theorem kX_X11_ends (l : Launch) (D : va_G) (cI cZ : ClassId) (ad q : Nat → Nat) (N : Nat) {u : MM} {K : Int32 → MM → Prop} (h : wX11_ends N u K) : CT l D cI cZ ad 9 q (entM q cI cZ) yX11_ends cX11_ends 2 (some .int) (rr 6 144) [.ref (q 0)] u (QI D 9 q (entM q cI cZ) K) := by
    refine ct_of (by decide +kernel) (Nat.le_of_ble_eq_true rfl) (fun p e s m args below meth c C => ?_)
    refine j_sub (lv' := [(0, .ref (q 0))]) [0] rfl ?_
    refine j_iconst (v := 0) C dX11_ends_0 (by decide) ?_
    refine j_istore_n (lv' := [(1, .int 0), (0, .ref (q 0))]) C dX11_ends_1 (by decide) rfl ?_
    refine j_sub (lv' := [(0, .ref (q 0)), (1, .int 0)]) [1, 0] rfl ?_
    exact tX11_ends_b2 l D cI cZ ad q N C N _ _ h

def wX11_end_b81 (N : Nat) (K : Int32 → MM → Prop) (s0 : Int32) (u : MM) : Prop := (wX11_goesBack N u (fun u13 => (K s0 u13)))
def wX11_end (N : Nat) (x1 : Int32) (u : MM) (K : Int32 → MM → Prop) : Prop := (wX11_in N x1 0 3 (fun r1 => ((¬ r1 = 0 → (wX11_keeps N u (fun u4 => (wX11_ends N u4 (fun r5 u6 => (∀ y7 : Int32, y7 = (((u6 1 2) ^^^ ((-1) : Int32)) &&& (((1 : Int32) <<< ((u6 1 18) &&& 31)) - 1)) → ((¬ x1 = 0 → ((¬ x1 = 1 → ((¬ x1 = 2 → (wX11_end_b81 N K y7 u6)) ∧ (x1 = 2 → (wX11_end_b81 N K (u6 1 1) u6)))) ∧ (x1 = 1 → (wX11_count1 N (u6 1 2) (fun r11 => (wX11_end_b81 N K r11 u6)))))) ∧ (x1 = 0 → (wX11_end_b81 N K r5 u6))))))))) ∧ (r1 = 0 → (K (-1) u)))))
set_option maxRecDepth 100000 in
set_option maxHeartbeats 4000000 in
theorem tX11_end_b81 (l : Launch) (D : va_G) (cI cZ : ClassId) (ad q : Nat → Nat) (N : Nat) {p : Program} {e : Env} {s : State} {m : MethodId} {args : Array Value} {below : List Frame} {meth : Method} {c : Code} {K : Int32 → MM → Prop} (C : CX p s m args meth c cX11_end 5 RX11 (some .int) D cI cZ ad (AJ 9 q s.heap.size)) : ∀ (s0 : Int32) (u : MM), wX11_end_b81 N K s0 u → JX p l e (rr 7 165) s m args below meth c D (AJ 9 q s.heap.size) 5 (MQ below ((QI D 9 q (entM q cI cZ) K) (AJ 9 q s.heap.size)) args s 0 0 (AJ 9 q s.heap.size)) 9 q (entM q cI cZ) u 81 [(0, .ref (q 0))] [.int s0] := by
    intro s0 u h
    refine j_istore (lv' := [(4, .int s0), (0, .ref (q 0))]) C dX11_end_81 (by decide) rfl ?_
    refine j_aload_n C 1 dX11_end_83 rfl ?_
    refine j_wv C (fun H locs ls hP hD hS hl => run_V (Cn := "") (As := []) (st := []) C mf_X11_goesBack 0 (kX_X11_goesBack l D cI cZ ad q N h) q_817 (by decide) rfl rfl rfl rfl ⟨rfl, rfl, by decide, by decide⟩ (Nat.le_of_ble_eq_true rfl) dX11_end_84 hP hD hS hl) (fun u13 h => ?_)
    refine j_iload C 0 dX11_end_87 rfl ?_
    exact j_iret C dX11_end_89 h
set_option maxRecDepth 100000 in
set_option maxHeartbeats 4000000 in
theorem kX_X11_end (l : Launch) (D : va_G) (cI cZ : ClassId) (ad q : Nat → Nat) (N : Nat) {x1 : Int32} {u : MM} {K : Int32 → MM → Prop} (h : wX11_end N x1 u K) : CT l D cI cZ ad 9 q (entM q cI cZ) yX11_end cX11_end 5 (some .int) (rr 7 165) [.ref (q 0), .int x1] u (QI D 9 q (entM q cI cZ) K) := by
    refine ct_of (by decide +kernel) (Nat.le_of_ble_eq_true rfl) (fun p e s m args below meth c C => ?_)
    refine j_sub (lv' := [(0, .ref (q 0)), (1, .int x1)]) [0, 1] rfl ?_
    refine j_iload_n C 1 dX11_end_0 rfl ?_
    refine j_iconst (v := 0) C dX11_end_1 (by decide) ?_
    refine j_iconst (v := 3) C dX11_end_2 (by decide) ?_
    refine j_ui C (fun H locs ls hP hD => run_S (As := [.int x1, .int 0, .int 3]) (st := []) C mf_X11_in (kX_X11_in l D cI cZ ad q N h) q_667 rfl rfl ⟨rfl, rfl, by decide, by decide⟩ (Nat.le_of_ble_eq_true rfl) dX11_end_3 hP hD) (fun r1 _ h => ?_)
    refine j_if_ne C 11 dX11_end_6 (by decide) (fun c2 => ?_) (fun c2 => ?_)
    · have h := h.1 c2
      refine j_aload_n C 0 dX11_end_11 rfl ?_
      refine j_wv C (fun H locs ls hP hD hS hl => run_V (Cn := "") (As := []) (st := []) C mf_X11_keeps 0 (kX_X11_keeps l D cI cZ ad q N h) q_811 (by decide) rfl rfl rfl rfl ⟨rfl, rfl, by decide, by decide⟩ (Nat.le_of_ble_eq_true rfl) dX11_end_12 hP hD hS hl) (fun u4 h => ?_)
      refine j_aload_n C 0 dX11_end_15 rfl ?_
      refine j_wi C (fun H locs ls hP hD hS hl => run_V (Cn := "") (As := []) (st := []) C mf_X11_ends 0 (kX_X11_ends l D cI cZ ad q N h) q_814 (by decide) rfl rfl rfl rfl ⟨rfl, rfl, by decide, by decide⟩ (Nat.le_of_ble_eq_true rfl) dX11_end_16 hP hD hS hl) (fun r5 u6 h => ?_)
      refine j_istore_n (lv' := [(2, .int r5), (0, .ref (q 0)), (1, .int x1)]) C dX11_end_19 (by decide) rfl ?_
      refine j_aload_n C 1 dX11_end_20 rfl ?_
      refine j_get C 0 1 (ly_X11 C.2.2.2.2.2.2.2.1.1) q_636 rfl rfl (by decide) rfl rfl (by decide) rfl dX11_end_21 ?_
      refine j_iconst (v := 2) C dX11_end_24 (by decide) ?_
      refine j_ialoadK (N := 944) C 1 2 (by decide) (show ¬ ((2 : Int32) < 0 ∨ 944 ≤ (2 : Int32).toNatClampNeg) by decide) (by decide) rfl rfl dX11_end_25 ?_
      refine j_iconst (v := (-1)) C dX11_end_26 (by decide) ?_
      refine j_ixor C dX11_end_27 ?_
      refine j_iconst (v := 1) C dX11_end_28 (by decide) ?_
      refine j_aload_n C 1 dX11_end_29 rfl ?_
      refine j_get C 0 1 (ly_X11 C.2.2.2.2.2.2.2.1.1) q_636 rfl rfl (by decide) rfl rfl (by decide) rfl dX11_end_30 ?_
      refine j_bipush (v := 18) C dX11_end_33 (by decide) ?_
      refine j_ialoadK (N := 944) C 1 18 (by decide) (show ¬ ((18 : Int32) < 0 ∨ 944 ≤ (18 : Int32).toNatClampNeg) by decide) (by decide) rfl rfl dX11_end_35 ?_
      refine j_ishl C dX11_end_36 ?_
      refine j_iconst (v := 1) C dX11_end_37 (by decide) ?_
      refine j_isub C dX11_end_38 ?_
      refine j_iand C dX11_end_39 ?_
      refine j_nmi (fun y7 ey7 => ?_)
      have h := h y7 ey7
      refine j_istore_n (lv' := [(3, .int y7), (2, .int r5), (0, .ref (q 0)), (1, .int x1)]) C dX11_end_40 (by decide) rfl ?_
      refine j_iload_n C 3 dX11_end_41 rfl ?_
      refine j_if_ne C 49 dX11_end_42 (by decide) (fun c8 => ?_) (fun c8 => ?_)
      · have h := h.1 c8
        refine j_iload_n C 3 dX11_end_49 rfl ?_
        refine j_iconst (v := 1) C dX11_end_50 (by decide) ?_
        refine j_icmp_ne C 66 dX11_end_51 (by decide) (fun c9 => ?_) (fun c9 => ?_)
        · have h := h.1 c9
          refine j_iload_n C 3 dX11_end_66 rfl ?_
          refine j_iconst (v := 2) C dX11_end_67 (by decide) ?_
          refine j_icmp_ne C 80 dX11_end_68 (by decide) (fun c10 => ?_) (fun c10 => ?_)
          · have h := h.1 c10
            refine j_iload_n C 0 dX11_end_80 rfl ?_
            refine j_sub (lv' := [(0, .ref (q 0))]) [2] rfl ?_
            exact tX11_end_b81 l D cI cZ ad q N C _ _ h
          · have h := h.2 c10
            refine j_aload_n C 2 dX11_end_71 rfl ?_
            refine j_get C 0 1 (ly_X11 C.2.2.2.2.2.2.2.1.1) q_636 rfl rfl (by decide) rfl rfl (by decide) rfl dX11_end_72 ?_
            refine j_iconst (v := 1) C dX11_end_75 (by decide) ?_
            refine j_ialoadK (N := 944) C 1 1 (by decide) (show ¬ ((1 : Int32) < 0 ∨ 944 ≤ (1 : Int32).toNatClampNeg) by decide) (by decide) rfl rfl dX11_end_76 ?_
            refine j_goto C 81 dX11_end_77 (by decide) ?_
            refine j_sub (lv' := [(0, .ref (q 0))]) [2] rfl ?_
            exact tX11_end_b81 l D cI cZ ad q N C _ _ h
        · have h := h.2 c9
          refine j_aload_n C 2 dX11_end_54 rfl ?_
          refine j_get C 0 1 (ly_X11 C.2.2.2.2.2.2.2.1.1) q_636 rfl rfl (by decide) rfl rfl (by decide) rfl dX11_end_55 ?_
          refine j_iconst (v := 2) C dX11_end_58 (by decide) ?_
          refine j_ialoadK (N := 944) C 1 2 (by decide) (show ¬ ((2 : Int32) < 0 ∨ 944 ≤ (2 : Int32).toNatClampNeg) by decide) (by decide) rfl rfl dX11_end_59 ?_
          refine j_ui C (fun H locs ls hP hD => run_S (As := [.int (u6 1 2)]) (st := []) C mf_X11_count1 (kX_X11_count1 l D cI cZ ad q N h) q_747 rfl rfl ⟨rfl, rfl, by decide, by decide⟩ (Nat.le_of_ble_eq_true rfl) dX11_end_60 hP hD) (fun r11 _ h => ?_)
          refine j_goto C 81 dX11_end_63 (by decide) ?_
          refine j_sub (lv' := [(0, .ref (q 0))]) [2] rfl ?_
          exact tX11_end_b81 l D cI cZ ad q N C _ _ h
      · have h := h.2 c8
        refine j_iload_n C 1 dX11_end_45 rfl ?_
        refine j_goto C 81 dX11_end_46 (by decide) ?_
        refine j_sub (lv' := [(0, .ref (q 0))]) [2] rfl ?_
        exact tX11_end_b81 l D cI cZ ad q N C _ _ h
    · have h := h.2 c2
      refine j_iconst (v := (-1)) C dX11_end_9 (by decide) ?_
      exact j_iret C dX11_end_10 h

def wX11_best_b161 (N : Nat) (K : Int32 → MM → Prop) (ro52 : Int32 → Int32 → Int32 → Int32 → Int32 → Int32 → MM → Prop) (x1 : Int32) (x2 : Int32) (x3 : Int32) (x4 : Int32) (x6 : Int32) (s0 : Int32) (u : MM) : Prop := (wX11_goesBack N u (fun u23 => (∀ y24 : Int32, y24 = x6 + 1 → (ro52 x1 x2 x3 x4 s0 y24 u23))))
def wX11_best_b143 (N : Nat) (K : Int32 → MM → Prop) (ro52 : Int32 → Int32 → Int32 → Int32 → Int32 → Int32 → MM → Prop) (x1 : Int32) (x2 : Int32) (x3 : Int32) (x5 : Int32) (x6 : Int32) (x8 : Int32) (s0 : Int32) (u : MM) : Prop := ((x8 = 0 → (wX11_best_b161 N K ro52 x1 x2 x3 s0 x6 x5 u)) ∧ (¬ x8 = 0 → (wX11_best_b161 N K ro52 x1 x2 x3 s0 x6 (u 1 1) u)))
def wX11_best_b130 (N : Nat) (K : Int32 → MM → Prop) (ro52 : Int32 → Int32 → Int32 → Int32 → Int32 → Int32 → MM → Prop) (x1 : Int32) (x2 : Int32) (x4 : Int32) (x5 : Int32) (x6 : Int32) (x7 : Int32) (x8 : Int32) (s0 : Int32) (u : MM) : Prop := ((x8 = 0 → (wX11_best_b143 N K ro52 x1 x2 s0 x5 x6 x8 x4 u)) ∧ (¬ x8 = 0 → (wX11_best_b143 N K ro52 x1 x2 s0 x5 x6 x8 x7 u)))
def wX11_best_b117 (N : Nat) (K : Int32 → MM → Prop) (ro52 : Int32 → Int32 → Int32 → Int32 → Int32 → Int32 → MM → Prop) (x1 : Int32) (x2 : Int32) (x3 : Int32) (x4 : Int32) (x5 : Int32) (x6 : Int32) (x7 : Int32) (s0 : Int32) (u : MM) : Prop := ((s0 = 0 → (wX11_best_b130 N K ro52 x1 x2 x4 x5 x6 x7 s0 x3 u)) ∧ (¬ s0 = 0 → (wX11_best_b130 N K ro52 x1 x2 x4 x5 x6 x7 s0 x6 u)))
def wX11_best_b116 (N : Nat) (K : Int32 → MM → Prop) (ro52 : Int32 → Int32 → Int32 → Int32 → Int32 → Int32 → MM → Prop) (x1 : Int32) (x2 : Int32) (x3 : Int32) (x4 : Int32) (x5 : Int32) (x6 : Int32) (x7 : Int32) (u : MM) : Prop := (wX11_best_b117 N K ro52 x1 x2 x3 x4 x5 x6 x7 0 u)
def wX11_best_b112 (N : Nat) (K : Int32 → MM → Prop) (ro52 : Int32 → Int32 → Int32 → Int32 → Int32 → Int32 → MM → Prop) (x1 : Int32) (x2 : Int32) (x3 : Int32) (x4 : Int32) (x5 : Int32) (x6 : Int32) (x7 : Int32) (u : MM) : Prop := (wX11_best_b117 N K ro52 x1 x2 x3 x4 x5 x6 x7 1 u)
def wX11_best_b52 (N : Nat) (K : Int32 → MM → Prop) : Nat → Int32 → Int32 → Int32 → Int32 → Int32 → Int32 → MM → Prop
  | 0, _, _, _, _, _, _, _ => False
  | n + 1, x1, x2, x3, x4, x5, x6, u => (((u 1 18) ≤ x6 → ((¬ x2 = 0 → ((¬ x2 = 1 → (K x5 u)) ∧ (x2 = 1 → (K x4 u)))) ∧ (x2 = 0 → (K x3 u)))) ∧ (¬ (u 1 18) ≤ x6 → (wX11_begins N x6 x1 u (fun u12 => (wX11_ends N u12 (fun r13 u14 => (wX11_count1 N (u14 1 2) (fun r15 => ((x4 < r15 → (wX11_best_b112 N K (wX11_best_b52 N K n) x1 x2 x3 x4 x5 x6 r15 u14)) ∧ (¬ x4 < r15 → ((¬ r15 = x4 → (wX11_best_b116 N K (wX11_best_b52 N K n) x1 x2 x3 x4 x5 x6 r15 u14)) ∧ (r15 = x4 → ((x5 ≤ (u14 1 1) → (wX11_best_b116 N K (wX11_best_b52 N K n) x1 x2 x3 x4 x5 x6 r15 u14)) ∧ (¬ x5 ≤ (u14 1 1) → (wX11_best_b112 N K (wX11_best_b52 N K n) x1 x2 x3 x4 x5 x6 r15 u14)))))))))))))))
def wX11_best (N : Nat) (x1 : Int32) (x2 : Int32) (u : MM) (K : Int32 → MM → Prop) : Prop := (wX11_in N x2 0 2 (fun r1 => ((¬ r1 = 0 → (wX11_in N x1 0 9 (fun r3 => ((¬ r3 = 0 → ((¬ (u 1 18) = 0 → (wX11_keeps N u (fun u7 => (wX11_best_b52 N K N x1 x2 0 (-1) 0 0 u7)))) ∧ ((u 1 18) = 0 → (K (-3) u)))) ∧ (r3 = 0 → (K (-2) u)))))) ∧ (r1 = 0 → (K (-1) u)))))
set_option maxRecDepth 100000 in
set_option maxHeartbeats 4000000 in
theorem tX11_best_b161 (l : Launch) (D : va_G) (cI cZ : ClassId) (ad q : Nat → Nat) (N : Nat) {p : Program} {e : Env} {s : State} {m : MethodId} {args : Array Value} {below : List Frame} {meth : Method} {c : Code} {K : Int32 → MM → Prop} (C : CX p s m args meth c cX11_best 9 RX11 (some .int) D cI cZ ad (AJ 9 q s.heap.size)) {ro52 : Int32 → Int32 → Int32 → Int32 → Int32 → Int32 → MM → Prop} (hro52 : ∀ (x1 : Int32) (x2 : Int32) (x3 : Int32) (x4 : Int32) (x5 : Int32) (x6 : Int32) (u : MM), ro52 x1 x2 x3 x4 x5 x6 u → JX p l e (rr 7 165) s m args below meth c D (AJ 9 q s.heap.size) 9 (MQ below ((QI D 9 q (entM q cI cZ) K) (AJ 9 q s.heap.size)) args s 0 0 (AJ 9 q s.heap.size)) 9 q (entM q cI cZ) u 52 [(0, .ref (q 0)), (1, .int x1), (2, .int x2), (3, .int x3), (4, .int x4), (5, .int x5), (6, .int x6)] []) : ∀ (x1 : Int32) (x2 : Int32) (x3 : Int32) (x4 : Int32) (x6 : Int32) (s0 : Int32) (u : MM), wX11_best_b161 N K ro52 x1 x2 x3 x4 x6 s0 u → JX p l e (rr 7 165) s m args below meth c D (AJ 9 q s.heap.size) 9 (MQ below ((QI D 9 q (entM q cI cZ) K) (AJ 9 q s.heap.size)) args s 0 0 (AJ 9 q s.heap.size)) 9 q (entM q cI cZ) u 161 [(0, .ref (q 0)), (1, .int x1), (2, .int x2), (3, .int x3), (4, .int x4), (6, .int x6)] [.int s0] := by
    intro x1 x2 x3 x4 x6 s0 u h
    refine j_istore (lv' := [(5, .int s0), (0, .ref (q 0)), (1, .int x1), (2, .int x2), (3, .int x3), (4, .int x4), (6, .int x6)]) C dX11_best_161 (by decide) rfl ?_
    refine j_aload_n C 1 dX11_best_163 rfl ?_
    refine j_wv C (fun H locs ls hP hD hS hl => run_V (Cn := "") (As := []) (st := []) C mf_X11_goesBack 0 (kX_X11_goesBack l D cI cZ ad q N h) q_817 (by decide) rfl rfl rfl rfl ⟨rfl, rfl, by decide, by decide⟩ (Nat.le_of_ble_eq_true rfl) dX11_best_164 hP hD hS hl) (fun u23 h => ?_)
    obtain ⟨y24, ey24⟩ : ∃ z : Int32, z = x6 + 1 := ⟨_, rfl⟩
    have h := h y24 ey24
    refine j_iinc (v := y24) (lv' := [(6, .int y24), (5, .int s0), (0, .ref (q 0)), (1, .int x1), (2, .int x2), (3, .int x3), (4, .int x4)]) C 6 dX11_best_167 rfl (by rw [ey24]; rfl) (by decide) rfl ?_
    refine j_goto C 52 dX11_best_170 (by decide) ?_
    refine j_sub (lv' := [(0, .ref (q 0)), (1, .int x1), (2, .int x2), (3, .int x3), (4, .int x4), (5, .int s0), (6, .int y24)]) [2, 3, 4, 5, 6, 1, 0] rfl ?_
    exact hro52 _ _ _ _ _ _ _ h
set_option maxRecDepth 100000 in
set_option maxHeartbeats 4000000 in
theorem tX11_best_b143 (l : Launch) (D : va_G) (cI cZ : ClassId) (ad q : Nat → Nat) (N : Nat) {p : Program} {e : Env} {s : State} {m : MethodId} {args : Array Value} {below : List Frame} {meth : Method} {c : Code} {K : Int32 → MM → Prop} (C : CX p s m args meth c cX11_best 9 RX11 (some .int) D cI cZ ad (AJ 9 q s.heap.size)) {ro52 : Int32 → Int32 → Int32 → Int32 → Int32 → Int32 → MM → Prop} (hro52 : ∀ (x1 : Int32) (x2 : Int32) (x3 : Int32) (x4 : Int32) (x5 : Int32) (x6 : Int32) (u : MM), ro52 x1 x2 x3 x4 x5 x6 u → JX p l e (rr 7 165) s m args below meth c D (AJ 9 q s.heap.size) 9 (MQ below ((QI D 9 q (entM q cI cZ) K) (AJ 9 q s.heap.size)) args s 0 0 (AJ 9 q s.heap.size)) 9 q (entM q cI cZ) u 52 [(0, .ref (q 0)), (1, .int x1), (2, .int x2), (3, .int x3), (4, .int x4), (5, .int x5), (6, .int x6)] []) : ∀ (x1 : Int32) (x2 : Int32) (x3 : Int32) (x5 : Int32) (x6 : Int32) (x8 : Int32) (s0 : Int32) (u : MM), wX11_best_b143 N K ro52 x1 x2 x3 x5 x6 x8 s0 u → JX p l e (rr 7 165) s m args below meth c D (AJ 9 q s.heap.size) 9 (MQ below ((QI D 9 q (entM q cI cZ) K) (AJ 9 q s.heap.size)) args s 0 0 (AJ 9 q s.heap.size)) 9 q (entM q cI cZ) u 143 [(0, .ref (q 0)), (1, .int x1), (2, .int x2), (3, .int x3), (5, .int x5), (6, .int x6), (8, .int x8)] [.int s0] := by
    intro x1 x2 x3 x5 x6 x8 s0 u h
    refine j_istore (lv' := [(4, .int s0), (0, .ref (q 0)), (1, .int x1), (2, .int x2), (3, .int x3), (5, .int x5), (6, .int x6), (8, .int x8)]) C dX11_best_143 (by decide) rfl ?_
    refine j_iload C 7 dX11_best_145 rfl ?_
    refine j_if_eq C 159 dX11_best_147 (by decide) (fun c21 => ?_) (fun c21 => ?_)
    · have h := h.1 c21
      refine j_iload C 5 dX11_best_159 rfl ?_
      refine j_sub (lv' := [(0, .ref (q 0)), (1, .int x1), (2, .int x2), (3, .int x3), (4, .int s0), (6, .int x6)]) [1, 2, 3, 4, 0, 6] rfl ?_
      exact tX11_best_b161 l D cI cZ ad q N C (hro52) _ _ _ _ _ _ _ h
    · have h := h.2 c21
      refine j_aload_n C 1 dX11_best_150 rfl ?_
      refine j_get C 0 1 (ly_X11 C.2.2.2.2.2.2.2.1.1) q_636 rfl rfl (by decide) rfl rfl (by decide) rfl dX11_best_151 ?_
      refine j_iconst (v := 1) C dX11_best_154 (by decide) ?_
      refine j_ialoadK (N := 944) C 1 1 (by decide) (show ¬ ((1 : Int32) < 0 ∨ 944 ≤ (1 : Int32).toNatClampNeg) by decide) (by decide) rfl rfl dX11_best_155 ?_
      refine j_goto C 161 dX11_best_156 (by decide) ?_
      refine j_sub (lv' := [(0, .ref (q 0)), (1, .int x1), (2, .int x2), (3, .int x3), (4, .int s0), (6, .int x6)]) [1, 2, 3, 4, 0, 6] rfl ?_
      exact tX11_best_b161 l D cI cZ ad q N C (hro52) _ _ _ _ _ _ _ h
set_option maxRecDepth 100000 in
set_option maxHeartbeats 4000000 in
theorem tX11_best_b130 (l : Launch) (D : va_G) (cI cZ : ClassId) (ad q : Nat → Nat) (N : Nat) {p : Program} {e : Env} {s : State} {m : MethodId} {args : Array Value} {below : List Frame} {meth : Method} {c : Code} {K : Int32 → MM → Prop} (C : CX p s m args meth c cX11_best 9 RX11 (some .int) D cI cZ ad (AJ 9 q s.heap.size)) {ro52 : Int32 → Int32 → Int32 → Int32 → Int32 → Int32 → MM → Prop} (hro52 : ∀ (x1 : Int32) (x2 : Int32) (x3 : Int32) (x4 : Int32) (x5 : Int32) (x6 : Int32) (u : MM), ro52 x1 x2 x3 x4 x5 x6 u → JX p l e (rr 7 165) s m args below meth c D (AJ 9 q s.heap.size) 9 (MQ below ((QI D 9 q (entM q cI cZ) K) (AJ 9 q s.heap.size)) args s 0 0 (AJ 9 q s.heap.size)) 9 q (entM q cI cZ) u 52 [(0, .ref (q 0)), (1, .int x1), (2, .int x2), (3, .int x3), (4, .int x4), (5, .int x5), (6, .int x6)] []) : ∀ (x1 : Int32) (x2 : Int32) (x4 : Int32) (x5 : Int32) (x6 : Int32) (x7 : Int32) (x8 : Int32) (s0 : Int32) (u : MM), wX11_best_b130 N K ro52 x1 x2 x4 x5 x6 x7 x8 s0 u → JX p l e (rr 7 165) s m args below meth c D (AJ 9 q s.heap.size) 9 (MQ below ((QI D 9 q (entM q cI cZ) K) (AJ 9 q s.heap.size)) args s 0 0 (AJ 9 q s.heap.size)) 9 q (entM q cI cZ) u 130 [(0, .ref (q 0)), (1, .int x1), (2, .int x2), (4, .int x4), (5, .int x5), (6, .int x6), (7, .int x7), (8, .int x8)] [.int s0] := by
    intro x1 x2 x4 x5 x6 x7 x8 s0 u h
    refine j_istore_n (lv' := [(3, .int s0), (0, .ref (q 0)), (1, .int x1), (2, .int x2), (4, .int x4), (5, .int x5), (6, .int x6), (7, .int x7), (8, .int x8)]) C dX11_best_130 (by decide) rfl ?_
    refine j_iload C 8 dX11_best_131 rfl ?_
    refine j_if_eq C 141 dX11_best_133 (by decide) (fun c20 => ?_) (fun c20 => ?_)
    · have h := h.1 c20
      refine j_iload C 4 dX11_best_141 rfl ?_
      refine j_sub (lv' := [(0, .ref (q 0)), (1, .int x1), (2, .int x2), (3, .int s0), (5, .int x5), (6, .int x6), (8, .int x8)]) [1, 2, 3, 0, 5, 6, 8] rfl ?_
      exact tX11_best_b143 l D cI cZ ad q N C (hro52) _ _ _ _ _ _ _ _ h
    · have h := h.2 c20
      refine j_iload C 7 dX11_best_136 rfl ?_
      refine j_goto C 143 dX11_best_138 (by decide) ?_
      refine j_sub (lv' := [(0, .ref (q 0)), (1, .int x1), (2, .int x2), (3, .int s0), (5, .int x5), (6, .int x6), (8, .int x8)]) [1, 2, 3, 0, 5, 6, 8] rfl ?_
      exact tX11_best_b143 l D cI cZ ad q N C (hro52) _ _ _ _ _ _ _ _ h
set_option maxRecDepth 100000 in
set_option maxHeartbeats 4000000 in
theorem tX11_best_b117 (l : Launch) (D : va_G) (cI cZ : ClassId) (ad q : Nat → Nat) (N : Nat) {p : Program} {e : Env} {s : State} {m : MethodId} {args : Array Value} {below : List Frame} {meth : Method} {c : Code} {K : Int32 → MM → Prop} (C : CX p s m args meth c cX11_best 9 RX11 (some .int) D cI cZ ad (AJ 9 q s.heap.size)) {ro52 : Int32 → Int32 → Int32 → Int32 → Int32 → Int32 → MM → Prop} (hro52 : ∀ (x1 : Int32) (x2 : Int32) (x3 : Int32) (x4 : Int32) (x5 : Int32) (x6 : Int32) (u : MM), ro52 x1 x2 x3 x4 x5 x6 u → JX p l e (rr 7 165) s m args below meth c D (AJ 9 q s.heap.size) 9 (MQ below ((QI D 9 q (entM q cI cZ) K) (AJ 9 q s.heap.size)) args s 0 0 (AJ 9 q s.heap.size)) 9 q (entM q cI cZ) u 52 [(0, .ref (q 0)), (1, .int x1), (2, .int x2), (3, .int x3), (4, .int x4), (5, .int x5), (6, .int x6)] []) : ∀ (x1 : Int32) (x2 : Int32) (x3 : Int32) (x4 : Int32) (x5 : Int32) (x6 : Int32) (x7 : Int32) (s0 : Int32) (u : MM), wX11_best_b117 N K ro52 x1 x2 x3 x4 x5 x6 x7 s0 u → JX p l e (rr 7 165) s m args below meth c D (AJ 9 q s.heap.size) 9 (MQ below ((QI D 9 q (entM q cI cZ) K) (AJ 9 q s.heap.size)) args s 0 0 (AJ 9 q s.heap.size)) 9 q (entM q cI cZ) u 117 [(0, .ref (q 0)), (1, .int x1), (2, .int x2), (3, .int x3), (4, .int x4), (5, .int x5), (6, .int x6), (7, .int x7)] [.int s0] := by
    intro x1 x2 x3 x4 x5 x6 x7 s0 u h
    refine j_istore (lv' := [(8, .int s0), (0, .ref (q 0)), (1, .int x1), (2, .int x2), (3, .int x3), (4, .int x4), (5, .int x5), (6, .int x6), (7, .int x7)]) C dX11_best_117 (by decide) rfl ?_
    refine j_iload C 0 dX11_best_119 rfl ?_
    refine j_if_eq C 129 dX11_best_121 (by decide) (fun c19 => ?_) (fun c19 => ?_)
    · have h := h.1 c19
      refine j_iload_n C 4 dX11_best_129 rfl ?_
      refine j_sub (lv' := [(0, .ref (q 0)), (1, .int x1), (2, .int x2), (4, .int x4), (5, .int x5), (6, .int x6), (7, .int x7), (8, .int s0)]) [1, 2, 3, 5, 6, 7, 8, 0] rfl ?_
      exact tX11_best_b130 l D cI cZ ad q N C (hro52) _ _ _ _ _ _ _ _ _ h
    · have h := h.2 c19
      refine j_iload C 7 dX11_best_124 rfl ?_
      refine j_goto C 130 dX11_best_126 (by decide) ?_
      refine j_sub (lv' := [(0, .ref (q 0)), (1, .int x1), (2, .int x2), (4, .int x4), (5, .int x5), (6, .int x6), (7, .int x7), (8, .int s0)]) [1, 2, 3, 5, 6, 7, 8, 0] rfl ?_
      exact tX11_best_b130 l D cI cZ ad q N C (hro52) _ _ _ _ _ _ _ _ _ h
set_option maxRecDepth 100000 in
set_option maxHeartbeats 4000000 in
theorem tX11_best_b116 (l : Launch) (D : va_G) (cI cZ : ClassId) (ad q : Nat → Nat) (N : Nat) {p : Program} {e : Env} {s : State} {m : MethodId} {args : Array Value} {below : List Frame} {meth : Method} {c : Code} {K : Int32 → MM → Prop} (C : CX p s m args meth c cX11_best 9 RX11 (some .int) D cI cZ ad (AJ 9 q s.heap.size)) {ro52 : Int32 → Int32 → Int32 → Int32 → Int32 → Int32 → MM → Prop} (hro52 : ∀ (x1 : Int32) (x2 : Int32) (x3 : Int32) (x4 : Int32) (x5 : Int32) (x6 : Int32) (u : MM), ro52 x1 x2 x3 x4 x5 x6 u → JX p l e (rr 7 165) s m args below meth c D (AJ 9 q s.heap.size) 9 (MQ below ((QI D 9 q (entM q cI cZ) K) (AJ 9 q s.heap.size)) args s 0 0 (AJ 9 q s.heap.size)) 9 q (entM q cI cZ) u 52 [(0, .ref (q 0)), (1, .int x1), (2, .int x2), (3, .int x3), (4, .int x4), (5, .int x5), (6, .int x6)] []) : ∀ (x1 : Int32) (x2 : Int32) (x3 : Int32) (x4 : Int32) (x5 : Int32) (x6 : Int32) (x7 : Int32) (u : MM), wX11_best_b116 N K ro52 x1 x2 x3 x4 x5 x6 x7 u → JX p l e (rr 7 165) s m args below meth c D (AJ 9 q s.heap.size) 9 (MQ below ((QI D 9 q (entM q cI cZ) K) (AJ 9 q s.heap.size)) args s 0 0 (AJ 9 q s.heap.size)) 9 q (entM q cI cZ) u 116 [(0, .ref (q 0)), (1, .int x1), (2, .int x2), (3, .int x3), (4, .int x4), (5, .int x5), (6, .int x6), (7, .int x7)] [] := by
    intro x1 x2 x3 x4 x5 x6 x7 u h
    refine j_iconst (v := 0) C dX11_best_116 (by decide) ?_
    exact tX11_best_b117 l D cI cZ ad q N C (hro52) _ _ _ _ _ _ _ _ _ h
set_option maxRecDepth 100000 in
set_option maxHeartbeats 4000000 in
theorem tX11_best_b112 (l : Launch) (D : va_G) (cI cZ : ClassId) (ad q : Nat → Nat) (N : Nat) {p : Program} {e : Env} {s : State} {m : MethodId} {args : Array Value} {below : List Frame} {meth : Method} {c : Code} {K : Int32 → MM → Prop} (C : CX p s m args meth c cX11_best 9 RX11 (some .int) D cI cZ ad (AJ 9 q s.heap.size)) {ro52 : Int32 → Int32 → Int32 → Int32 → Int32 → Int32 → MM → Prop} (hro52 : ∀ (x1 : Int32) (x2 : Int32) (x3 : Int32) (x4 : Int32) (x5 : Int32) (x6 : Int32) (u : MM), ro52 x1 x2 x3 x4 x5 x6 u → JX p l e (rr 7 165) s m args below meth c D (AJ 9 q s.heap.size) 9 (MQ below ((QI D 9 q (entM q cI cZ) K) (AJ 9 q s.heap.size)) args s 0 0 (AJ 9 q s.heap.size)) 9 q (entM q cI cZ) u 52 [(0, .ref (q 0)), (1, .int x1), (2, .int x2), (3, .int x3), (4, .int x4), (5, .int x5), (6, .int x6)] []) : ∀ (x1 : Int32) (x2 : Int32) (x3 : Int32) (x4 : Int32) (x5 : Int32) (x6 : Int32) (x7 : Int32) (u : MM), wX11_best_b112 N K ro52 x1 x2 x3 x4 x5 x6 x7 u → JX p l e (rr 7 165) s m args below meth c D (AJ 9 q s.heap.size) 9 (MQ below ((QI D 9 q (entM q cI cZ) K) (AJ 9 q s.heap.size)) args s 0 0 (AJ 9 q s.heap.size)) 9 q (entM q cI cZ) u 112 [(0, .ref (q 0)), (1, .int x1), (2, .int x2), (3, .int x3), (4, .int x4), (5, .int x5), (6, .int x6), (7, .int x7)] [] := by
    intro x1 x2 x3 x4 x5 x6 x7 u h
    refine j_iconst (v := 1) C dX11_best_112 (by decide) ?_
    refine j_goto C 117 dX11_best_113 (by decide) ?_
    exact tX11_best_b117 l D cI cZ ad q N C (hro52) _ _ _ _ _ _ _ _ _ h
set_option maxRecDepth 100000 in
set_option maxHeartbeats 4000000 in
theorem tX11_best_b52 (l : Launch) (D : va_G) (cI cZ : ClassId) (ad q : Nat → Nat) (N : Nat) {p : Program} {e : Env} {s : State} {m : MethodId} {args : Array Value} {below : List Frame} {meth : Method} {c : Code} {K : Int32 → MM → Prop} (C : CX p s m args meth c cX11_best 9 RX11 (some .int) D cI cZ ad (AJ 9 q s.heap.size)) : ∀ (n : Nat) (x1 : Int32) (x2 : Int32) (x3 : Int32) (x4 : Int32) (x5 : Int32) (x6 : Int32) (u : MM), wX11_best_b52 N K n x1 x2 x3 x4 x5 x6 u → JX p l e (rr 7 165) s m args below meth c D (AJ 9 q s.heap.size) 9 (MQ below ((QI D 9 q (entM q cI cZ) K) (AJ 9 q s.heap.size)) args s 0 0 (AJ 9 q s.heap.size)) 9 q (entM q cI cZ) u 52 [(0, .ref (q 0)), (1, .int x1), (2, .int x2), (3, .int x3), (4, .int x4), (5, .int x5), (6, .int x6)] [] := by
  intro n
  induction n with
  | zero => intro x1 x2 x3 x4 x5 x6 u h; exact h.elim
  | succ n ih =>
    intro x1 x2 x3 x4 x5 x6 u h
    refine j_iload C 6 dX11_best_52 rfl ?_
    refine j_aload_n C 0 dX11_best_54 rfl ?_
    refine j_get C 0 1 (ly_X11 C.2.2.2.2.2.2.2.1.1) q_636 rfl rfl (by decide) rfl rfl (by decide) rfl dX11_best_55 ?_
    refine j_bipush (v := 18) C dX11_best_58 (by decide) ?_
    refine j_ialoadK (N := 944) C 1 18 (by decide) (show ¬ ((18 : Int32) < 0 ∨ 944 ≤ (18 : Int32).toNatClampNeg) by decide) (by decide) rfl rfl dX11_best_60 ?_
    refine j_icmp_ge C 173 dX11_best_61 (by decide) (fun c8 => ?_) (fun c8 => ?_)
    · have h := h.1 c8
      refine j_iload_n C 2 dX11_best_173 rfl ?_
      refine j_if_ne C 181 dX11_best_174 (by decide) (fun c9 => ?_) (fun c9 => ?_)
      · have h := h.1 c9
        refine j_iload_n C 2 dX11_best_181 rfl ?_
        refine j_iconst (v := 1) C dX11_best_182 (by decide) ?_
        refine j_icmp_ne C 191 dX11_best_183 (by decide) (fun c10 => ?_) (fun c10 => ?_)
        · have h := h.1 c10
          refine j_iload C 5 dX11_best_191 rfl ?_
          exact j_iret C dX11_best_193 h
        · have h := h.2 c10
          refine j_iload C 4 dX11_best_186 rfl ?_
          refine j_goto C 193 dX11_best_188 (by decide) ?_
          exact j_iret C dX11_best_193 h
      · have h := h.2 c9
        refine j_iload_n C 3 dX11_best_177 rfl ?_
        refine j_goto C 193 dX11_best_178 (by decide) ?_
        exact j_iret C dX11_best_193 h
    · have h := h.2 c8
      refine j_aload_n C 0 dX11_best_64 rfl ?_
      refine j_iload C 6 dX11_best_65 rfl ?_
      refine j_iload_n C 1 dX11_best_67 rfl ?_
      refine j_wv C (fun H locs ls hP hD hS hl => run_V (Cn := "") (As := [.int x6, .int x1]) (st := []) C mf_X11_begins 0 (kX_X11_begins l D cI cZ ad q N h) q_769 (by decide) rfl rfl rfl rfl ⟨rfl, rfl, by decide, by decide⟩ (Nat.le_of_ble_eq_true rfl) dX11_best_68 hP hD hS hl) (fun u12 h => ?_)
      refine j_aload_n C 0 dX11_best_71 rfl ?_
      refine j_wi C (fun H locs ls hP hD hS hl => run_V (Cn := "") (As := []) (st := []) C mf_X11_ends 0 (kX_X11_ends l D cI cZ ad q N h) q_814 (by decide) rfl rfl rfl rfl ⟨rfl, rfl, by decide, by decide⟩ (Nat.le_of_ble_eq_true rfl) dX11_best_72 hP hD hS hl) (fun r13 u14 h => ?_)
      refine j_pop C dX11_best_75 rfl ?_
      refine j_aload_n C 0 dX11_best_76 rfl ?_
      refine j_get C 0 1 (ly_X11 C.2.2.2.2.2.2.2.1.1) q_636 rfl rfl (by decide) rfl rfl (by decide) rfl dX11_best_77 ?_
      refine j_iconst (v := 2) C dX11_best_80 (by decide) ?_
      refine j_ialoadK (N := 944) C 1 2 (by decide) (show ¬ ((2 : Int32) < 0 ∨ 944 ≤ (2 : Int32).toNatClampNeg) by decide) (by decide) rfl rfl dX11_best_81 ?_
      refine j_ui C (fun H locs ls hP hD => run_S (As := [.int (u14 1 2)]) (st := []) C mf_X11_count1 (kX_X11_count1 l D cI cZ ad q N h) q_747 rfl rfl ⟨rfl, rfl, by decide, by decide⟩ (Nat.le_of_ble_eq_true rfl) dX11_best_82 hP hD) (fun r15 _ h => ?_)
      refine j_istore (lv' := [(7, .int r15), (0, .ref (q 0)), (1, .int x1), (2, .int x2), (3, .int x3), (4, .int x4), (5, .int x5), (6, .int x6)]) C dX11_best_85 (by decide) rfl ?_
      refine j_iload C 0 dX11_best_87 rfl ?_
      refine j_iload C 5 dX11_best_89 rfl ?_
      refine j_icmp_gt C 112 dX11_best_91 (by decide) (fun c16 => ?_) (fun c16 => ?_)
      · have h := h.1 c16
        refine j_sub (lv' := [(0, .ref (q 0)), (1, .int x1), (2, .int x2), (3, .int x3), (4, .int x4), (5, .int x5), (6, .int x6), (7, .int r15)]) [1, 2, 3, 4, 5, 6, 7, 0] rfl ?_
        exact tX11_best_b112 l D cI cZ ad q N C ih _ _ _ _ _ _ _ _ h
      · have h := h.2 c16
        refine j_iload C 0 dX11_best_94 rfl ?_
        refine j_iload C 5 dX11_best_96 rfl ?_
        refine j_icmp_ne C 116 dX11_best_98 (by decide) (fun c17 => ?_) (fun c17 => ?_)
        · have h := h.1 c17
          refine j_sub (lv' := [(0, .ref (q 0)), (1, .int x1), (2, .int x2), (3, .int x3), (4, .int x4), (5, .int x5), (6, .int x6), (7, .int r15)]) [1, 2, 3, 4, 5, 6, 7, 0] rfl ?_
          exact tX11_best_b116 l D cI cZ ad q N C ih _ _ _ _ _ _ _ _ h
        · have h := h.2 c17
          refine j_aload_n C 1 dX11_best_101 rfl ?_
          refine j_get C 0 1 (ly_X11 C.2.2.2.2.2.2.2.1.1) q_636 rfl rfl (by decide) rfl rfl (by decide) rfl dX11_best_102 ?_
          refine j_iconst (v := 1) C dX11_best_105 (by decide) ?_
          refine j_ialoadK (N := 944) C 1 1 (by decide) (show ¬ ((1 : Int32) < 0 ∨ 944 ≤ (1 : Int32).toNatClampNeg) by decide) (by decide) rfl rfl dX11_best_106 ?_
          refine j_iload C 6 dX11_best_107 rfl ?_
          refine j_icmp_ge C 116 dX11_best_109 (by decide) (fun c18 => ?_) (fun c18 => ?_)
          · have h := h.1 c18
            refine j_sub (lv' := [(0, .ref (q 0)), (1, .int x1), (2, .int x2), (3, .int x3), (4, .int x4), (5, .int x5), (6, .int x6), (7, .int r15)]) [1, 2, 3, 4, 5, 6, 7, 0] rfl ?_
            exact tX11_best_b116 l D cI cZ ad q N C ih _ _ _ _ _ _ _ _ h
          · have h := h.2 c18
            refine j_sub (lv' := [(0, .ref (q 0)), (1, .int x1), (2, .int x2), (3, .int x3), (4, .int x4), (5, .int x5), (6, .int x6), (7, .int r15)]) [1, 2, 3, 4, 5, 6, 7, 0] rfl ?_
            exact tX11_best_b112 l D cI cZ ad q N C ih _ _ _ _ _ _ _ _ h
set_option maxRecDepth 100000 in
set_option maxHeartbeats 4000000 in
theorem kX_X11_best (l : Launch) (D : va_G) (cI cZ : ClassId) (ad q : Nat → Nat) (N : Nat) {x1 : Int32} {x2 : Int32} {u : MM} {K : Int32 → MM → Prop} (h : wX11_best N x1 x2 u K) : CT l D cI cZ ad 9 q (entM q cI cZ) yX11_best cX11_best 9 (some .int) (rr 7 165) [.ref (q 0), .int x1, .int x2] u (QI D 9 q (entM q cI cZ) K) := by
    refine ct_of (by decide +kernel) (Nat.le_of_ble_eq_true rfl) (fun p e s m args below meth c C => ?_)
    refine j_sub (lv' := [(0, .ref (q 0)), (1, .int x1), (2, .int x2)]) [0, 1, 2] rfl ?_
    refine j_iload_n C 2 dX11_best_0 rfl ?_
    refine j_iconst (v := 0) C dX11_best_1 (by decide) ?_
    refine j_iconst (v := 2) C dX11_best_2 (by decide) ?_
    refine j_ui C (fun H locs ls hP hD => run_S (As := [.int x2, .int 0, .int 2]) (st := []) C mf_X11_in (kX_X11_in l D cI cZ ad q N h) q_667 rfl rfl ⟨rfl, rfl, by decide, by decide⟩ (Nat.le_of_ble_eq_true rfl) dX11_best_3 hP hD) (fun r1 _ h => ?_)
    refine j_if_ne C 11 dX11_best_6 (by decide) (fun c2 => ?_) (fun c2 => ?_)
    · have h := h.1 c2
      refine j_iload_n C 1 dX11_best_11 rfl ?_
      refine j_iconst (v := 0) C dX11_best_12 (by decide) ?_
      refine j_bipush (v := 9) C dX11_best_13 (by decide) ?_
      refine j_ui C (fun H locs ls hP hD => run_S (As := [.int x1, .int 0, .int 9]) (st := []) C mf_X11_in (kX_X11_in l D cI cZ ad q N h) q_667 rfl rfl ⟨rfl, rfl, by decide, by decide⟩ (Nat.le_of_ble_eq_true rfl) dX11_best_15 hP hD) (fun r3 _ h => ?_)
      refine j_if_ne C 24 dX11_best_18 (by decide) (fun c4 => ?_) (fun c4 => ?_)
      · have h := h.1 c4
        refine j_aload_n C 0 dX11_best_24 rfl ?_
        refine j_get C 0 1 (ly_X11 C.2.2.2.2.2.2.2.1.1) q_636 rfl rfl (by decide) rfl rfl (by decide) rfl dX11_best_25 ?_
        refine j_bipush (v := 18) C dX11_best_28 (by decide) ?_
        refine j_ialoadK (N := 944) C 1 18 (by decide) (show ¬ ((18 : Int32) < 0 ∨ 944 ≤ (18 : Int32).toNatClampNeg) by decide) (by decide) rfl rfl dX11_best_30 ?_
        refine j_if_ne C 37 dX11_best_31 (by decide) (fun c5 => ?_) (fun c5 => ?_)
        · have h := h.1 c5
          refine j_iconst (v := 0) C dX11_best_37 (by decide) ?_
          refine j_istore_n (lv' := [(3, .int 0), (0, .ref (q 0)), (1, .int x1), (2, .int x2)]) C dX11_best_38 (by decide) rfl ?_
          refine j_iconst (v := (-1)) C dX11_best_39 (by decide) ?_
          refine j_istore (lv' := [(4, .int (-1)), (3, .int 0), (0, .ref (q 0)), (1, .int x1), (2, .int x2)]) C dX11_best_40 (by decide) rfl ?_
          refine j_iconst (v := 0) C dX11_best_42 (by decide) ?_
          refine j_istore (lv' := [(5, .int 0), (4, .int (-1)), (3, .int 0), (0, .ref (q 0)), (1, .int x1), (2, .int x2)]) C dX11_best_43 (by decide) rfl ?_
          refine j_aload_n C 3 dX11_best_45 rfl ?_
          refine j_wv C (fun H locs ls hP hD hS hl => run_V (Cn := "") (As := []) (st := []) C mf_X11_keeps 0 (kX_X11_keeps l D cI cZ ad q N h) q_811 (by decide) rfl rfl rfl rfl ⟨rfl, rfl, by decide, by decide⟩ (Nat.le_of_ble_eq_true rfl) dX11_best_46 hP hD hS hl) (fun u7 h => ?_)
          refine j_iconst (v := 0) C dX11_best_49 (by decide) ?_
          refine j_istore (lv' := [(6, .int 0), (5, .int 0), (4, .int (-1)), (3, .int 0), (0, .ref (q 0)), (1, .int x1), (2, .int x2)]) C dX11_best_50 (by decide) rfl ?_
          refine j_sub (lv' := [(0, .ref (q 0)), (1, .int x1), (2, .int x2), (3, .int 0), (4, .int (-1)), (5, .int 0), (6, .int 0)]) [4, 5, 6, 3, 2, 1, 0] rfl ?_
          exact tX11_best_b52 l D cI cZ ad q N C N _ _ _ _ _ _ _ h
        · have h := h.2 c5
          refine j_bipush (v := (-3)) C dX11_best_34 (by decide) ?_
          exact j_iret C dX11_best_36 h
      · have h := h.2 c4
        refine j_bipush (v := (-2)) C dX11_best_21 (by decide) ?_
        exact j_iret C dX11_best_23 h
    · have h := h.2 c2
      refine j_iconst (v := (-1)) C dX11_best_9 (by decide) ?_
      exact j_iret C dX11_best_10 h

def wX11_triesSets_b191 (N : Nat) (K : MM → Prop) (ro56 : Int32 → Int32 → Int32 → Int32 → Int32 → MM → Prop) (x1 : Int32) (x2 : Int32) (x3 : Int32) (x5 : Int32) (x6 : Int32) (u : MM) : Prop := (∀ y34 : Int32, y34 = x6 + 1 → (ro56 x1 x2 x3 x5 y34 u))
def wX11_triesSets_b184 (N : Nat) (K : MM → Prop) (ro56 : Int32 → Int32 → Int32 → Int32 → Int32 → MM → Prop) (x1 : Int32) (x2 : Int32) (x3 : Int32) (x5 : Int32) (x6 : Int32) (s0 : Int32) (u : MM) : Prop := (∀ u31 : MM, u31 = up u 0 21 s0 → (wX11_goesBack N u31 (fun u33 => (wX11_triesSets_b191 N K ro56 x1 x2 x3 x5 x6 u33))))
def wX11_triesSets_b180 (N : Nat) (K : MM → Prop) (ro56 : Int32 → Int32 → Int32 → Int32 → Int32 → MM → Prop) (x1 : Int32) (x2 : Int32) (x3 : Int32) (x5 : Int32) (x6 : Int32) (u : MM) : Prop := (wX11_triesSets_b184 N K ro56 x1 x2 x3 x5 x6 (u 0 21) u)
def wX11_triesSets_b149 (N : Nat) (K : MM → Prop) (ro56 : Int32 → Int32 → Int32 → Int32 → Int32 → MM → Prop) (x1 : Int32) (x2 : Int32) (x3 : Int32) (x5 : Int32) (x6 : Int32) (s0 : Int32) (u : MM) : Prop := (∀ u25 : MM, u25 = up u 0 20 s0 → ((¬ (u25 0 21) = (-5) → (wX11_triesSets_b180 N K ro56 x1 x2 x3 x5 x6 u25)) ∧ ((u25 0 21) = (-5) → ((x2 = (-1) → (wX11_triesSets_b180 N K ro56 x1 x2 x3 x5 x6 u25)) ∧ (¬ x2 = (-1) → (wX11_hasHeard N x2 u25 (fun r28 u29 => ((r28 = 0 → (wX11_triesSets_b180 N K ro56 x1 x2 x3 x5 x6 u29)) ∧ (¬ r28 = 0 → (wX11_triesSets_b184 N K ro56 x1 x2 x3 x5 x6 x6 u29))))))))))
def wX11_triesSets_b127 (N : Nat) (K : MM → Prop) (ro56 : Int32 → Int32 → Int32 → Int32 → Int32 → MM → Prop) (x1 : Int32) (x2 : Int32) (x3 : Int32) (x5 : Int32) (x6 : Int32) (x7 : Int32) (s0 : Int32) (u : MM) : Prop := (∀ u23 : MM, u23 = up u 0 19 s0 → ((x7 ≤ (u23 0 20) → (wX11_triesSets_b149 N K ro56 x1 x2 x3 x5 x6 (u23 0 20) u23)) ∧ (¬ x7 ≤ (u23 0 20) → (wX11_triesSets_b149 N K ro56 x1 x2 x3 x5 x6 x7 u23))))
def wX11_triesSets_b56 (N : Nat) (K : MM → Prop) : Nat → Int32 → Int32 → Int32 → Int32 → Int32 → MM → Prop
  | 0, _, _, _, _, _, _ => False
  | n + 1, x1, x2, x3, x5, x6, u => ((x3 < x6 → (K u)) ∧ (¬ x3 < x6 → ((¬ (x6 &&& (x3 ^^^ ((-1) : Int32))) = 0 → (wX11_triesSets_b191 N K (wX11_triesSets_b56 N K n) x1 x2 x3 x5 x6 u)) ∧ ((x6 &&& (x3 ^^^ ((-1) : Int32))) = 0 → (wX11_count1 N x6 (fun r15 => ((¬ r15 = x5 → (wX11_triesSets_b191 N K (wX11_triesSets_b56 N K n) x1 x2 x3 x5 x6 u)) ∧ (r15 = x5 → (∀ u17 : MM, u17 = up u 0 17 x1 → (∀ u18 : MM, u18 = up u17 0 18 x6 → (wX11_ends N u18 (fun r19 u20 => (wX11_count1 N (u20 1 2) (fun r21 => ((r21 ≤ (u20 0 20) → (wX11_triesSets_b127 N K (wX11_triesSets_b56 N K n) x1 x2 x3 x5 x6 r21 (u20 0 19) u20)) ∧ (¬ r21 ≤ (u20 0 20) → (wX11_triesSets_b127 N K (wX11_triesSets_b56 N K n) x1 x2 x3 x5 x6 r21 x6 u20)))))))))))))))))
def wX11_triesSets_b31 (N : Nat) (K : MM → Prop) (x1 : Int32) (x2 : Int32) (x3 : Int32) (s0 : Int32) (u : MM) : Prop := (∀ u8 : MM, u8 = up u 0 19 0 → (∀ u9 : MM, u9 = up u8 0 20 (-1) → (∀ u10 : MM, u10 = up u9 0 21 (-5) → (wX11_keeps N u10 (fun u12 => (wX11_triesSets_b56 N K N x1 x2 x3 s0 0 u12))))))
def wX11_triesSets (N : Nat) (x1 : Int32) (x2 : Int32) (u : MM) (K : MM → Prop) : Prop := (wX11_mayOf N x1 u (fun r1 u2 => (wX11_askedOf N x1 u2 (fun r3 u4 => (wX11_count1 N r1 (fun r5 => ((r3 ≤ r5 → (wX11_triesSets_b31 N K x1 x2 r1 r3 u4)) ∧ (¬ r3 ≤ r5 → (wX11_count1 N r1 (fun r7 => (wX11_triesSets_b31 N K x1 x2 r1 r7 u4)))))))))))
set_option maxRecDepth 100000 in
set_option maxHeartbeats 4000000 in
theorem tX11_triesSets_b191 (l : Launch) (D : va_G) (cI cZ : ClassId) (ad q : Nat → Nat) (N : Nat) {p : Program} {e : Env} {s : State} {m : MethodId} {args : Array Value} {below : List Frame} {meth : Method} {c : Code} {K : MM → Prop} (C : CX p s m args meth c cX11_triesSets 8 RX11 none D cI cZ ad (AJ 9 q s.heap.size)) {ro56 : Int32 → Int32 → Int32 → Int32 → Int32 → MM → Prop} (hro56 : ∀ (x1 : Int32) (x2 : Int32) (x3 : Int32) (x5 : Int32) (x6 : Int32) (u : MM), ro56 x1 x2 x3 x5 x6 u → JX p l e (rr 7 165) s m args below meth c D (AJ 9 q s.heap.size) 8 (MQ below ((QV D 9 q (entM q cI cZ) K) (AJ 9 q s.heap.size)) args s 0 0 (AJ 9 q s.heap.size)) 9 q (entM q cI cZ) u 56 [(0, .ref (q 0)), (1, .int x1), (2, .int x2), (3, .int x3), (5, .int x5), (6, .int x6)] []) : ∀ (x1 : Int32) (x2 : Int32) (x3 : Int32) (x5 : Int32) (x6 : Int32) (u : MM), wX11_triesSets_b191 N K ro56 x1 x2 x3 x5 x6 u → JX p l e (rr 7 165) s m args below meth c D (AJ 9 q s.heap.size) 8 (MQ below ((QV D 9 q (entM q cI cZ) K) (AJ 9 q s.heap.size)) args s 0 0 (AJ 9 q s.heap.size)) 9 q (entM q cI cZ) u 191 [(0, .ref (q 0)), (1, .int x1), (2, .int x2), (3, .int x3), (5, .int x5), (6, .int x6)] [] := by
    intro x1 x2 x3 x5 x6 u h
    obtain ⟨y34, ey34⟩ : ∃ z : Int32, z = x6 + 1 := ⟨_, rfl⟩
    have h := h y34 ey34
    refine j_iinc (v := y34) (lv' := [(6, .int y34), (0, .ref (q 0)), (1, .int x1), (2, .int x2), (3, .int x3), (5, .int x5)]) C 5 dX11_triesSets_191 rfl (by rw [ey34]; rfl) (by decide) rfl ?_
    refine j_goto C 56 dX11_triesSets_194 (by decide) ?_
    refine j_sub (lv' := [(0, .ref (q 0)), (1, .int x1), (2, .int x2), (3, .int x3), (5, .int x5), (6, .int y34)]) [1, 2, 3, 4, 5, 0] rfl ?_
    exact hro56 _ _ _ _ _ _ h
set_option maxRecDepth 100000 in
set_option maxHeartbeats 4000000 in
theorem tX11_triesSets_b184 (l : Launch) (D : va_G) (cI cZ : ClassId) (ad q : Nat → Nat) (N : Nat) {p : Program} {e : Env} {s : State} {m : MethodId} {args : Array Value} {below : List Frame} {meth : Method} {c : Code} {K : MM → Prop} (C : CX p s m args meth c cX11_triesSets 8 RX11 none D cI cZ ad (AJ 9 q s.heap.size)) {ro56 : Int32 → Int32 → Int32 → Int32 → Int32 → MM → Prop} (hro56 : ∀ (x1 : Int32) (x2 : Int32) (x3 : Int32) (x5 : Int32) (x6 : Int32) (u : MM), ro56 x1 x2 x3 x5 x6 u → JX p l e (rr 7 165) s m args below meth c D (AJ 9 q s.heap.size) 8 (MQ below ((QV D 9 q (entM q cI cZ) K) (AJ 9 q s.heap.size)) args s 0 0 (AJ 9 q s.heap.size)) 9 q (entM q cI cZ) u 56 [(0, .ref (q 0)), (1, .int x1), (2, .int x2), (3, .int x3), (5, .int x5), (6, .int x6)] []) : ∀ (x1 : Int32) (x2 : Int32) (x3 : Int32) (x5 : Int32) (x6 : Int32) (s0 : Int32) (u : MM), wX11_triesSets_b184 N K ro56 x1 x2 x3 x5 x6 s0 u → JX p l e (rr 7 165) s m args below meth c D (AJ 9 q s.heap.size) 8 (MQ below ((QV D 9 q (entM q cI cZ) K) (AJ 9 q s.heap.size)) args s 0 0 (AJ 9 q s.heap.size)) 9 q (entM q cI cZ) u 184 [(0, .ref (q 0)), (1, .int x1), (2, .int x2), (3, .int x3), (5, .int x5), (6, .int x6)] [.int s0, .ref (q 0)] := by
    intro x1 x2 x3 x5 x6 s0 u h
    refine j_put C 0 21 (ly_X11 C.2.2.2.2.2.2.2.1.1) q_656 rfl rfl (by decide) rfl rfl (by decide) tyX11_ok nmX11 rfl rfl ⟨rfl, rfl⟩ (Nat.le_of_ble_eq_true rfl) rfl dX11_triesSets_184 ?_
    refine j_nmu (fun u31 eu31 => ?_)
    have h := h u31 eu31
    refine j_aload_n C 0 dX11_triesSets_187 rfl ?_
    refine j_wv C (fun H locs ls hP hD hS hl => run_V (Cn := "") (As := []) (st := []) C mf_X11_goesBack 0 (kX_X11_goesBack l D cI cZ ad q N h) q_817 (by decide) rfl rfl rfl rfl ⟨rfl, rfl, by decide, by decide⟩ (Nat.le_of_ble_eq_true rfl) dX11_triesSets_188 hP hD hS hl) (fun u33 h => ?_)
    exact tX11_triesSets_b191 l D cI cZ ad q N C (hro56) _ _ _ _ _ _ h
set_option maxRecDepth 100000 in
set_option maxHeartbeats 4000000 in
theorem tX11_triesSets_b180 (l : Launch) (D : va_G) (cI cZ : ClassId) (ad q : Nat → Nat) (N : Nat) {p : Program} {e : Env} {s : State} {m : MethodId} {args : Array Value} {below : List Frame} {meth : Method} {c : Code} {K : MM → Prop} (C : CX p s m args meth c cX11_triesSets 8 RX11 none D cI cZ ad (AJ 9 q s.heap.size)) {ro56 : Int32 → Int32 → Int32 → Int32 → Int32 → MM → Prop} (hro56 : ∀ (x1 : Int32) (x2 : Int32) (x3 : Int32) (x5 : Int32) (x6 : Int32) (u : MM), ro56 x1 x2 x3 x5 x6 u → JX p l e (rr 7 165) s m args below meth c D (AJ 9 q s.heap.size) 8 (MQ below ((QV D 9 q (entM q cI cZ) K) (AJ 9 q s.heap.size)) args s 0 0 (AJ 9 q s.heap.size)) 9 q (entM q cI cZ) u 56 [(0, .ref (q 0)), (1, .int x1), (2, .int x2), (3, .int x3), (5, .int x5), (6, .int x6)] []) : ∀ (x1 : Int32) (x2 : Int32) (x3 : Int32) (x5 : Int32) (x6 : Int32) (u : MM), wX11_triesSets_b180 N K ro56 x1 x2 x3 x5 x6 u → JX p l e (rr 7 165) s m args below meth c D (AJ 9 q s.heap.size) 8 (MQ below ((QV D 9 q (entM q cI cZ) K) (AJ 9 q s.heap.size)) args s 0 0 (AJ 9 q s.heap.size)) 9 q (entM q cI cZ) u 180 [(0, .ref (q 0)), (1, .int x1), (2, .int x2), (3, .int x3), (5, .int x5), (6, .int x6)] [.ref (q 0)] := by
    intro x1 x2 x3 x5 x6 u h
    refine j_aload_n C 0 dX11_triesSets_180 rfl ?_
    refine j_get C 0 21 (ly_X11 C.2.2.2.2.2.2.2.1.1) q_656 rfl rfl (by decide) rfl rfl (by decide) rfl dX11_triesSets_181 ?_
    exact tX11_triesSets_b184 l D cI cZ ad q N C (hro56) _ _ _ _ _ _ _ h
set_option maxRecDepth 100000 in
set_option maxHeartbeats 4000000 in
theorem tX11_triesSets_b149 (l : Launch) (D : va_G) (cI cZ : ClassId) (ad q : Nat → Nat) (N : Nat) {p : Program} {e : Env} {s : State} {m : MethodId} {args : Array Value} {below : List Frame} {meth : Method} {c : Code} {K : MM → Prop} (C : CX p s m args meth c cX11_triesSets 8 RX11 none D cI cZ ad (AJ 9 q s.heap.size)) {ro56 : Int32 → Int32 → Int32 → Int32 → Int32 → MM → Prop} (hro56 : ∀ (x1 : Int32) (x2 : Int32) (x3 : Int32) (x5 : Int32) (x6 : Int32) (u : MM), ro56 x1 x2 x3 x5 x6 u → JX p l e (rr 7 165) s m args below meth c D (AJ 9 q s.heap.size) 8 (MQ below ((QV D 9 q (entM q cI cZ) K) (AJ 9 q s.heap.size)) args s 0 0 (AJ 9 q s.heap.size)) 9 q (entM q cI cZ) u 56 [(0, .ref (q 0)), (1, .int x1), (2, .int x2), (3, .int x3), (5, .int x5), (6, .int x6)] []) : ∀ (x1 : Int32) (x2 : Int32) (x3 : Int32) (x5 : Int32) (x6 : Int32) (s0 : Int32) (u : MM), wX11_triesSets_b149 N K ro56 x1 x2 x3 x5 x6 s0 u → JX p l e (rr 7 165) s m args below meth c D (AJ 9 q s.heap.size) 8 (MQ below ((QV D 9 q (entM q cI cZ) K) (AJ 9 q s.heap.size)) args s 0 0 (AJ 9 q s.heap.size)) 9 q (entM q cI cZ) u 149 [(0, .ref (q 0)), (1, .int x1), (2, .int x2), (3, .int x3), (5, .int x5), (6, .int x6)] [.int s0, .ref (q 0)] := by
    intro x1 x2 x3 x5 x6 s0 u h
    refine j_put C 0 20 (ly_X11 C.2.2.2.2.2.2.2.1.1) q_655 rfl rfl (by decide) rfl rfl (by decide) tyX11_ok nmX11 rfl rfl ⟨rfl, rfl⟩ (Nat.le_of_ble_eq_true rfl) rfl dX11_triesSets_149 ?_
    refine j_nmu (fun u25 eu25 => ?_)
    have h := h u25 eu25
    refine j_aload_n C 0 dX11_triesSets_152 rfl ?_
    refine j_aload_n C 0 dX11_triesSets_153 rfl ?_
    refine j_get C 0 21 (ly_X11 C.2.2.2.2.2.2.2.1.1) q_656 rfl rfl (by decide) rfl rfl (by decide) rfl dX11_triesSets_154 ?_
    refine j_bipush (v := (-5)) C dX11_triesSets_157 (by decide) ?_
    refine j_icmp_ne C 180 dX11_triesSets_159 (by decide) (fun c26 => ?_) (fun c26 => ?_)
    · have h := h.1 c26
      exact tX11_triesSets_b180 l D cI cZ ad q N C (hro56) _ _ _ _ _ _ h
    · have h := h.2 c26
      refine j_iload_n C 2 dX11_triesSets_162 rfl ?_
      refine j_iconst (v := (-1)) C dX11_triesSets_163 (by decide) ?_
      refine j_icmp_eq C 180 dX11_triesSets_164 (by decide) (fun c27 => ?_) (fun c27 => ?_)
      · have h := h.1 c27
        exact tX11_triesSets_b180 l D cI cZ ad q N C (hro56) _ _ _ _ _ _ h
      · have h := h.2 c27
        refine j_aload_n C 0 dX11_triesSets_167 rfl ?_
        refine j_iload_n C 2 dX11_triesSets_168 rfl ?_
        refine j_wi C (fun H locs ls hP hD hS hl => run_V (Cn := "") (As := [.int x2]) (st := [.ref (q 0)]) C mf_X11_hasHeard 0 (kX_X11_hasHeard l D cI cZ ad q N h) q_723 (by decide) rfl rfl rfl rfl ⟨rfl, rfl, by decide, by decide⟩ (Nat.le_of_ble_eq_true rfl) dX11_triesSets_169 hP hD hS hl) (fun r28 u29 h => ?_)
        refine j_if_eq C 180 dX11_triesSets_172 (by decide) (fun c30 => ?_) (fun c30 => ?_)
        · have h := h.1 c30
          exact tX11_triesSets_b180 l D cI cZ ad q N C (hro56) _ _ _ _ _ _ h
        · have h := h.2 c30
          refine j_iload C 5 dX11_triesSets_175 rfl ?_
          refine j_goto C 184 dX11_triesSets_177 (by decide) ?_
          exact tX11_triesSets_b184 l D cI cZ ad q N C (hro56) _ _ _ _ _ _ _ h
set_option maxRecDepth 100000 in
set_option maxHeartbeats 4000000 in
theorem tX11_triesSets_b127 (l : Launch) (D : va_G) (cI cZ : ClassId) (ad q : Nat → Nat) (N : Nat) {p : Program} {e : Env} {s : State} {m : MethodId} {args : Array Value} {below : List Frame} {meth : Method} {c : Code} {K : MM → Prop} (C : CX p s m args meth c cX11_triesSets 8 RX11 none D cI cZ ad (AJ 9 q s.heap.size)) {ro56 : Int32 → Int32 → Int32 → Int32 → Int32 → MM → Prop} (hro56 : ∀ (x1 : Int32) (x2 : Int32) (x3 : Int32) (x5 : Int32) (x6 : Int32) (u : MM), ro56 x1 x2 x3 x5 x6 u → JX p l e (rr 7 165) s m args below meth c D (AJ 9 q s.heap.size) 8 (MQ below ((QV D 9 q (entM q cI cZ) K) (AJ 9 q s.heap.size)) args s 0 0 (AJ 9 q s.heap.size)) 9 q (entM q cI cZ) u 56 [(0, .ref (q 0)), (1, .int x1), (2, .int x2), (3, .int x3), (5, .int x5), (6, .int x6)] []) : ∀ (x1 : Int32) (x2 : Int32) (x3 : Int32) (x5 : Int32) (x6 : Int32) (x7 : Int32) (s0 : Int32) (u : MM), wX11_triesSets_b127 N K ro56 x1 x2 x3 x5 x6 x7 s0 u → JX p l e (rr 7 165) s m args below meth c D (AJ 9 q s.heap.size) 8 (MQ below ((QV D 9 q (entM q cI cZ) K) (AJ 9 q s.heap.size)) args s 0 0 (AJ 9 q s.heap.size)) 9 q (entM q cI cZ) u 127 [(0, .ref (q 0)), (1, .int x1), (2, .int x2), (3, .int x3), (5, .int x5), (6, .int x6), (7, .int x7)] [.int s0, .ref (q 0)] := by
    intro x1 x2 x3 x5 x6 x7 s0 u h
    refine j_put C 0 19 (ly_X11 C.2.2.2.2.2.2.2.1.1) q_654 rfl rfl (by decide) rfl rfl (by decide) tyX11_ok nmX11 rfl rfl ⟨rfl, rfl⟩ (Nat.le_of_ble_eq_true rfl) rfl dX11_triesSets_127 ?_
    refine j_nmu (fun u23 eu23 => ?_)
    have h := h u23 eu23
    refine j_aload_n C 0 dX11_triesSets_130 rfl ?_
    refine j_iload C 6 dX11_triesSets_131 rfl ?_
    refine j_aload_n C 0 dX11_triesSets_133 rfl ?_
    refine j_get C 0 20 (ly_X11 C.2.2.2.2.2.2.2.1.1) q_655 rfl rfl (by decide) rfl rfl (by decide) rfl dX11_triesSets_134 ?_
    refine j_icmp_le C 145 dX11_triesSets_137 (by decide) (fun c24 => ?_) (fun c24 => ?_)
    · have h := h.1 c24
      refine j_aload_n C 0 dX11_triesSets_145 rfl ?_
      refine j_get C 0 20 (ly_X11 C.2.2.2.2.2.2.2.1.1) q_655 rfl rfl (by decide) rfl rfl (by decide) rfl dX11_triesSets_146 ?_
      refine j_sub (lv' := [(0, .ref (q 0)), (1, .int x1), (2, .int x2), (3, .int x3), (5, .int x5), (6, .int x6)]) [0, 1, 2, 3, 4, 5] rfl ?_
      exact tX11_triesSets_b149 l D cI cZ ad q N C (hro56) _ _ _ _ _ _ _ h
    · have h := h.2 c24
      refine j_iload C 6 dX11_triesSets_140 rfl ?_
      refine j_goto C 149 dX11_triesSets_142 (by decide) ?_
      refine j_sub (lv' := [(0, .ref (q 0)), (1, .int x1), (2, .int x2), (3, .int x3), (5, .int x5), (6, .int x6)]) [0, 1, 2, 3, 4, 5] rfl ?_
      exact tX11_triesSets_b149 l D cI cZ ad q N C (hro56) _ _ _ _ _ _ _ h
set_option maxRecDepth 100000 in
set_option maxHeartbeats 4000000 in
theorem tX11_triesSets_b56 (l : Launch) (D : va_G) (cI cZ : ClassId) (ad q : Nat → Nat) (N : Nat) {p : Program} {e : Env} {s : State} {m : MethodId} {args : Array Value} {below : List Frame} {meth : Method} {c : Code} {K : MM → Prop} (C : CX p s m args meth c cX11_triesSets 8 RX11 none D cI cZ ad (AJ 9 q s.heap.size)) : ∀ (n : Nat) (x1 : Int32) (x2 : Int32) (x3 : Int32) (x5 : Int32) (x6 : Int32) (u : MM), wX11_triesSets_b56 N K n x1 x2 x3 x5 x6 u → JX p l e (rr 7 165) s m args below meth c D (AJ 9 q s.heap.size) 8 (MQ below ((QV D 9 q (entM q cI cZ) K) (AJ 9 q s.heap.size)) args s 0 0 (AJ 9 q s.heap.size)) 9 q (entM q cI cZ) u 56 [(0, .ref (q 0)), (1, .int x1), (2, .int x2), (3, .int x3), (5, .int x5), (6, .int x6)] [] := by
  intro n
  induction n with
  | zero => intro x1 x2 x3 x5 x6 u h; exact h.elim
  | succ n ih =>
    intro x1 x2 x3 x5 x6 u h
    refine j_iload C 5 dX11_triesSets_56 rfl ?_
    refine j_iload_n C 3 dX11_triesSets_58 rfl ?_
    refine j_icmp_gt C 197 dX11_triesSets_59 (by decide) (fun c13 => ?_) (fun c13 => ?_)
    · have h := h.1 c13
      exact j_vret C dX11_triesSets_197 h
    · have h := h.2 c13
      refine j_iload C 5 dX11_triesSets_62 rfl ?_
      refine j_iload_n C 3 dX11_triesSets_64 rfl ?_
      refine j_iconst (v := (-1)) C dX11_triesSets_65 (by decide) ?_
      refine j_ixor C dX11_triesSets_66 ?_
      refine j_iand C dX11_triesSets_67 ?_
      refine j_if_ne C 191 dX11_triesSets_68 (by decide) (fun c14 => ?_) (fun c14 => ?_)
      · have h := h.1 c14
        exact tX11_triesSets_b191 l D cI cZ ad q N C ih _ _ _ _ _ _ h
      · have h := h.2 c14
        refine j_iload C 5 dX11_triesSets_71 rfl ?_
        refine j_ui C (fun H locs ls hP hD => run_S (As := [.int x6]) (st := []) C mf_X11_count1 (kX_X11_count1 l D cI cZ ad q N h) q_747 rfl rfl ⟨rfl, rfl, by decide, by decide⟩ (Nat.le_of_ble_eq_true rfl) dX11_triesSets_73 hP hD) (fun r15 _ h => ?_)
        refine j_iload C 4 dX11_triesSets_76 rfl ?_
        refine j_icmp_ne C 191 dX11_triesSets_78 (by decide) (fun c16 => ?_) (fun c16 => ?_)
        · have h := h.1 c16
          exact tX11_triesSets_b191 l D cI cZ ad q N C ih _ _ _ _ _ _ h
        · have h := h.2 c16
          refine j_aload_n C 0 dX11_triesSets_81 rfl ?_
          refine j_iload_n C 1 dX11_triesSets_82 rfl ?_
          refine j_put C 0 17 (ly_X11 C.2.2.2.2.2.2.2.1.1) q_652 rfl rfl (by decide) rfl rfl (by decide) tyX11_ok nmX11 rfl rfl ⟨rfl, rfl⟩ (Nat.le_of_ble_eq_true rfl) rfl dX11_triesSets_83 ?_
          refine j_nmu (fun u17 eu17 => ?_)
          have h := h u17 eu17
          refine j_aload_n C 0 dX11_triesSets_86 rfl ?_
          refine j_iload C 5 dX11_triesSets_87 rfl ?_
          refine j_put C 0 18 (ly_X11 C.2.2.2.2.2.2.2.1.1) q_653 rfl rfl (by decide) rfl rfl (by decide) tyX11_ok nmX11 rfl rfl ⟨rfl, rfl⟩ (Nat.le_of_ble_eq_true rfl) rfl dX11_triesSets_89 ?_
          refine j_nmu (fun u18 eu18 => ?_)
          have h := h u18 eu18
          refine j_aload_n C 0 dX11_triesSets_92 rfl ?_
          refine j_wi C (fun H locs ls hP hD hS hl => run_V (Cn := "") (As := []) (st := []) C mf_X11_ends 0 (kX_X11_ends l D cI cZ ad q N h) q_814 (by decide) rfl rfl rfl rfl ⟨rfl, rfl, by decide, by decide⟩ (Nat.le_of_ble_eq_true rfl) dX11_triesSets_93 hP hD hS hl) (fun r19 u20 h => ?_)
          refine j_pop C dX11_triesSets_96 rfl ?_
          refine j_aload_n C 0 dX11_triesSets_97 rfl ?_
          refine j_get C 0 1 (ly_X11 C.2.2.2.2.2.2.2.1.1) q_636 rfl rfl (by decide) rfl rfl (by decide) rfl dX11_triesSets_98 ?_
          refine j_iconst (v := 2) C dX11_triesSets_101 (by decide) ?_
          refine j_ialoadK (N := 944) C 1 2 (by decide) (show ¬ ((2 : Int32) < 0 ∨ 944 ≤ (2 : Int32).toNatClampNeg) by decide) (by decide) rfl rfl dX11_triesSets_102 ?_
          refine j_ui C (fun H locs ls hP hD => run_S (As := [.int (u20 1 2)]) (st := []) C mf_X11_count1 (kX_X11_count1 l D cI cZ ad q N h) q_747 rfl rfl ⟨rfl, rfl, by decide, by decide⟩ (Nat.le_of_ble_eq_true rfl) dX11_triesSets_103 hP hD) (fun r21 _ h => ?_)
          refine j_istore (lv' := [(7, .int r21), (0, .ref (q 0)), (1, .int x1), (2, .int x2), (3, .int x3), (5, .int x5), (6, .int x6)]) C dX11_triesSets_106 (by decide) rfl ?_
          refine j_aload_n C 1 dX11_triesSets_108 rfl ?_
          refine j_iload C 0 dX11_triesSets_109 rfl ?_
          refine j_aload_n C 1 dX11_triesSets_111 rfl ?_
          refine j_get C 0 20 (ly_X11 C.2.2.2.2.2.2.2.1.1) q_655 rfl rfl (by decide) rfl rfl (by decide) rfl dX11_triesSets_112 ?_
          refine j_icmp_le C 123 dX11_triesSets_115 (by decide) (fun c22 => ?_) (fun c22 => ?_)
          · have h := h.1 c22
            refine j_aload_n C 1 dX11_triesSets_123 rfl ?_
            refine j_get C 0 19 (ly_X11 C.2.2.2.2.2.2.2.1.1) q_654 rfl rfl (by decide) rfl rfl (by decide) rfl dX11_triesSets_124 ?_
            refine j_sub (lv' := [(0, .ref (q 0)), (1, .int x1), (2, .int x2), (3, .int x3), (5, .int x5), (6, .int x6), (7, .int r21)]) [1, 2, 3, 4, 5, 6, 0] rfl ?_
            exact tX11_triesSets_b127 l D cI cZ ad q N C ih _ _ _ _ _ _ _ _ h
          · have h := h.2 c22
            refine j_iload C 6 dX11_triesSets_118 rfl ?_
            refine j_goto C 127 dX11_triesSets_120 (by decide) ?_
            refine j_sub (lv' := [(0, .ref (q 0)), (1, .int x1), (2, .int x2), (3, .int x3), (5, .int x5), (6, .int x6), (7, .int r21)]) [1, 2, 3, 4, 5, 6, 0] rfl ?_
            exact tX11_triesSets_b127 l D cI cZ ad q N C ih _ _ _ _ _ _ _ _ h
set_option maxRecDepth 100000 in
set_option maxHeartbeats 4000000 in
theorem tX11_triesSets_b31 (l : Launch) (D : va_G) (cI cZ : ClassId) (ad q : Nat → Nat) (N : Nat) {p : Program} {e : Env} {s : State} {m : MethodId} {args : Array Value} {below : List Frame} {meth : Method} {c : Code} {K : MM → Prop} (C : CX p s m args meth c cX11_triesSets 8 RX11 none D cI cZ ad (AJ 9 q s.heap.size)) : ∀ (x1 : Int32) (x2 : Int32) (x3 : Int32) (s0 : Int32) (u : MM), wX11_triesSets_b31 N K x1 x2 x3 s0 u → JX p l e (rr 7 165) s m args below meth c D (AJ 9 q s.heap.size) 8 (MQ below ((QV D 9 q (entM q cI cZ) K) (AJ 9 q s.heap.size)) args s 0 0 (AJ 9 q s.heap.size)) 9 q (entM q cI cZ) u 31 [(0, .ref (q 0)), (1, .int x1), (2, .int x2), (3, .int x3)] [.int s0] := by
    intro x1 x2 x3 s0 u h
    refine j_istore (lv' := [(5, .int s0), (0, .ref (q 0)), (1, .int x1), (2, .int x2), (3, .int x3)]) C dX11_triesSets_31 (by decide) rfl ?_
    refine j_aload_n C 1 dX11_triesSets_33 rfl ?_
    refine j_iconst (v := 0) C dX11_triesSets_34 (by decide) ?_
    refine j_put C 0 19 (ly_X11 C.2.2.2.2.2.2.2.1.1) q_654 rfl rfl (by decide) rfl rfl (by decide) tyX11_ok nmX11 rfl rfl ⟨rfl, rfl⟩ (Nat.le_of_ble_eq_true rfl) rfl dX11_triesSets_35 ?_
    refine j_nmu (fun u8 eu8 => ?_)
    have h := h u8 eu8
    refine j_aload_n C 1 dX11_triesSets_38 rfl ?_
    refine j_iconst (v := (-1)) C dX11_triesSets_39 (by decide) ?_
    refine j_put C 0 20 (ly_X11 C.2.2.2.2.2.2.2.1.1) q_655 rfl rfl (by decide) rfl rfl (by decide) tyX11_ok nmX11 rfl rfl ⟨rfl, rfl⟩ (Nat.le_of_ble_eq_true rfl) rfl dX11_triesSets_40 ?_
    refine j_nmu (fun u9 eu9 => ?_)
    have h := h u9 eu9
    refine j_aload_n C 1 dX11_triesSets_43 rfl ?_
    refine j_bipush (v := (-5)) C dX11_triesSets_44 (by decide) ?_
    refine j_put C 0 21 (ly_X11 C.2.2.2.2.2.2.2.1.1) q_656 rfl rfl (by decide) rfl rfl (by decide) tyX11_ok nmX11 rfl rfl ⟨rfl, rfl⟩ (Nat.le_of_ble_eq_true rfl) rfl dX11_triesSets_46 ?_
    refine j_nmu (fun u10 eu10 => ?_)
    have h := h u10 eu10
    refine j_aload_n C 1 dX11_triesSets_49 rfl ?_
    refine j_wv C (fun H locs ls hP hD hS hl => run_V (Cn := "") (As := []) (st := []) C mf_X11_keeps 0 (kX_X11_keeps l D cI cZ ad q N h) q_811 (by decide) rfl rfl rfl rfl ⟨rfl, rfl, by decide, by decide⟩ (Nat.le_of_ble_eq_true rfl) dX11_triesSets_50 hP hD hS hl) (fun u12 h => ?_)
    refine j_iconst (v := 0) C dX11_triesSets_53 (by decide) ?_
    refine j_istore (lv' := [(6, .int 0), (5, .int s0), (0, .ref (q 0)), (1, .int x1), (2, .int x2), (3, .int x3)]) C dX11_triesSets_54 (by decide) rfl ?_
    refine j_sub (lv' := [(0, .ref (q 0)), (1, .int x1), (2, .int x2), (3, .int x3), (5, .int s0), (6, .int 0)]) [2, 3, 4, 5, 1, 0] rfl ?_
    exact tX11_triesSets_b56 l D cI cZ ad q N C N _ _ _ _ _ _ h
set_option maxRecDepth 100000 in
set_option maxHeartbeats 4000000 in
theorem kX_X11_triesSets (l : Launch) (D : va_G) (cI cZ : ClassId) (ad q : Nat → Nat) (N : Nat) {x1 : Int32} {x2 : Int32} {u : MM} {K : MM → Prop} (h : wX11_triesSets N x1 x2 u K) : CT l D cI cZ ad 9 q (entM q cI cZ) yX11_triesSets cX11_triesSets 8 none (rr 7 165) [.ref (q 0), .int x1, .int x2] u (QV D 9 q (entM q cI cZ) K) := by
    refine ct_of (by decide +kernel) (Nat.le_of_ble_eq_true rfl) (fun p e s m args below meth c C => ?_)
    refine j_sub (lv' := [(0, .ref (q 0)), (1, .int x1), (2, .int x2)]) [0, 1, 2] rfl ?_
    refine j_aload_n C 0 dX11_triesSets_0 rfl ?_
    refine j_iload_n C 1 dX11_triesSets_1 rfl ?_
    refine j_wi C (fun H locs ls hP hD hS hl => run_V (Cn := "") (As := [.int x1]) (st := []) C mf_X11_mayOf 0 (kX_X11_mayOf l D cI cZ ad q N h) q_729 (by decide) rfl rfl rfl rfl ⟨rfl, rfl, by decide, by decide⟩ (Nat.le_of_ble_eq_true rfl) dX11_triesSets_2 hP hD hS hl) (fun r1 u2 h => ?_)
    refine j_istore_n (lv' := [(3, .int r1), (0, .ref (q 0)), (1, .int x1), (2, .int x2)]) C dX11_triesSets_5 (by decide) rfl ?_
    refine j_aload_n C 1 dX11_triesSets_6 rfl ?_
    refine j_iload_n C 2 dX11_triesSets_7 rfl ?_
    refine j_wi C (fun H locs ls hP hD hS hl => run_V (Cn := "") (As := [.int x1]) (st := []) C mf_X11_askedOf 0 (kX_X11_askedOf l D cI cZ ad q N h) q_738 (by decide) rfl rfl rfl rfl ⟨rfl, rfl, by decide, by decide⟩ (Nat.le_of_ble_eq_true rfl) dX11_triesSets_8 hP hD hS hl) (fun r3 u4 h => ?_)
    refine j_istore (lv' := [(4, .int r3), (3, .int r1), (0, .ref (q 0)), (1, .int x1), (2, .int x2)]) C dX11_triesSets_11 (by decide) rfl ?_
    refine j_iload_n C 1 dX11_triesSets_13 rfl ?_
    refine j_ui C (fun H locs ls hP hD => run_S (As := [.int r1]) (st := []) C mf_X11_count1 (kX_X11_count1 l D cI cZ ad q N h) q_747 rfl rfl ⟨rfl, rfl, by decide, by decide⟩ (Nat.le_of_ble_eq_true rfl) dX11_triesSets_14 hP hD) (fun r5 _ h => ?_)
    refine j_iload C 0 dX11_triesSets_17 rfl ?_
    refine j_icmp_ge C 29 dX11_triesSets_19 (by decide) (fun c6 => ?_) (fun c6 => ?_)
    · have h := h.1 c6
      refine j_iload C 0 dX11_triesSets_29 rfl ?_
      refine j_sub (lv' := [(0, .ref (q 0)), (1, .int x1), (2, .int x2), (3, .int r1)]) [2, 3, 4, 1] rfl ?_
      exact tX11_triesSets_b31 l D cI cZ ad q N C _ _ _ _ _ h
    · have h := h.2 c6
      refine j_iload_n C 1 dX11_triesSets_22 rfl ?_
      refine j_ui C (fun H locs ls hP hD => run_S (As := [.int r1]) (st := []) C mf_X11_count1 (kX_X11_count1 l D cI cZ ad q N h) q_747 rfl rfl ⟨rfl, rfl, by decide, by decide⟩ (Nat.le_of_ble_eq_true rfl) dX11_triesSets_23 hP hD) (fun r7 _ h => ?_)
      refine j_goto C 31 dX11_triesSets_26 (by decide) ?_
      refine j_sub (lv' := [(0, .ref (q 0)), (1, .int x1), (2, .int x2), (3, .int r1)]) [2, 3, 4, 1] rfl ?_
      exact tX11_triesSets_b31 l D cI cZ ad q N C _ _ _ _ _ h

def wX11_choice (N : Nat) (x1 : Int32) (x2 : Int32) (u : MM) (K : Int32 → MM → Prop) : Prop := (wX11_isPerson N x1 u (fun r1 u2 => ((r1 = 0 → (K (-1) u2)) ∧ (¬ r1 = 0 → (wX11_in N x2 0 1 (fun r4 => ((¬ r4 = 0 → (wX11_isToTell N x1 u2 (fun r6 u7 => ((¬ r6 = 0 → (wX11_triesSets N x1 (-1) u7 (fun u10 => ((¬ x2 = 0 → (K (u10 0 20) u10)) ∧ (x2 = 0 → (K (u10 0 19) u10)))))) ∧ (r6 = 0 → (K (-3) u7)))))) ∧ (r4 = 0 → (K (-1) u2)))))))))
set_option maxRecDepth 100000 in
set_option maxHeartbeats 4000000 in
theorem kX_X11_choice (l : Launch) (D : va_G) (cI cZ : ClassId) (ad q : Nat → Nat) (N : Nat) {x1 : Int32} {x2 : Int32} {u : MM} {K : Int32 → MM → Prop} (h : wX11_choice N x1 x2 u K) : CT l D cI cZ ad 9 q (entM q cI cZ) yX11_choice cX11_choice 3 (some .int) (rr 8 192) [.ref (q 0), .int x1, .int x2] u (QI D 9 q (entM q cI cZ) K) := by
    refine ct_of (by decide +kernel) (Nat.le_of_ble_eq_true rfl) (fun p e s m args below meth c C => ?_)
    refine j_sub (lv' := [(0, .ref (q 0)), (1, .int x1), (2, .int x2)]) [0, 1, 2] rfl ?_
    refine j_aload_n C 0 dX11_choice_0 rfl ?_
    refine j_iload_n C 1 dX11_choice_1 rfl ?_
    refine j_wi C (fun H locs ls hP hD hS hl => run_V (Cn := "") (As := [.int x1]) (st := []) C mf_X11_isPerson 0 (kX_X11_isPerson l D cI cZ ad q N h) q_720 (by decide) rfl rfl rfl rfl ⟨rfl, rfl, by decide, by decide⟩ (Nat.le_of_ble_eq_true rfl) dX11_choice_2 hP hD hS hl) (fun r1 u2 h => ?_)
    refine j_if_eq C 17 dX11_choice_5 (by decide) (fun c3 => ?_) (fun c3 => ?_)
    · have h := h.1 c3
      refine j_iconst (v := (-1)) C dX11_choice_17 (by decide) ?_
      exact j_iret C dX11_choice_18 h
    · have h := h.2 c3
      refine j_iload_n C 2 dX11_choice_8 rfl ?_
      refine j_iconst (v := 0) C dX11_choice_9 (by decide) ?_
      refine j_iconst (v := 1) C dX11_choice_10 (by decide) ?_
      refine j_ui C (fun H locs ls hP hD => run_S (As := [.int x2, .int 0, .int 1]) (st := []) C mf_X11_in (kX_X11_in l D cI cZ ad q N h) q_667 rfl rfl ⟨rfl, rfl, by decide, by decide⟩ (Nat.le_of_ble_eq_true rfl) dX11_choice_11 hP hD) (fun r4 _ h => ?_)
      refine j_if_ne C 19 dX11_choice_14 (by decide) (fun c5 => ?_) (fun c5 => ?_)
      · have h := h.1 c5
        refine j_aload_n C 0 dX11_choice_19 rfl ?_
        refine j_iload_n C 1 dX11_choice_20 rfl ?_
        refine j_wi C (fun H locs ls hP hD hS hl => run_V (Cn := "") (As := [.int x1]) (st := []) C mf_X11_isToTell 0 (kX_X11_isToTell l D cI cZ ad q N h) q_782 (by decide) rfl rfl rfl rfl ⟨rfl, rfl, by decide, by decide⟩ (Nat.le_of_ble_eq_true rfl) dX11_choice_21 hP hD hS hl) (fun r6 u7 h => ?_)
        refine j_if_ne C 30 dX11_choice_24 (by decide) (fun c8 => ?_) (fun c8 => ?_)
        · have h := h.1 c8
          refine j_aload_n C 0 dX11_choice_30 rfl ?_
          refine j_iload_n C 1 dX11_choice_31 rfl ?_
          refine j_iconst (v := (-1)) C dX11_choice_32 (by decide) ?_
          refine j_wv C (fun H locs ls hP hD hS hl => run_V (Cn := "") (As := [.int x1, .int (-1)]) (st := []) C mf_X11_triesSets 0 (kX_X11_triesSets l D cI cZ ad q N h) q_828 (by decide) rfl rfl rfl rfl ⟨rfl, rfl, by decide, by decide⟩ (Nat.le_of_ble_eq_true rfl) dX11_choice_33 hP hD hS hl) (fun u10 h => ?_)
          refine j_iload_n C 2 dX11_choice_36 rfl ?_
          refine j_if_ne C 47 dX11_choice_37 (by decide) (fun c11 => ?_) (fun c11 => ?_)
          · have h := h.1 c11
            refine j_aload_n C 0 dX11_choice_47 rfl ?_
            refine j_get C 0 20 (ly_X11 C.2.2.2.2.2.2.2.1.1) q_655 rfl rfl (by decide) rfl rfl (by decide) rfl dX11_choice_48 ?_
            exact j_iret C dX11_choice_51 h
          · have h := h.2 c11
            refine j_aload_n C 0 dX11_choice_40 rfl ?_
            refine j_get C 0 19 (ly_X11 C.2.2.2.2.2.2.2.1.1) q_654 rfl rfl (by decide) rfl rfl (by decide) rfl dX11_choice_41 ?_
            refine j_goto C 51 dX11_choice_44 (by decide) ?_
            exact j_iret C dX11_choice_51 h
        · have h := h.2 c8
          refine j_bipush (v := (-3)) C dX11_choice_27 (by decide) ?_
          exact j_iret C dX11_choice_29 h
      · have h := h.2 c5
        refine j_iconst (v := (-1)) C dX11_choice_17 (by decide) ?_
        exact j_iret C dX11_choice_18 h

def wX11_reach (N : Nat) (x1 : Int32) (x2 : Int32) (u : MM) (K : Int32 → MM → Prop) : Prop := (wX11_isPerson N x1 u (fun r1 u2 => ((r1 = 0 → (K (-1) u2)) ∧ (¬ r1 = 0 → (wX11_isPerson N x2 u2 (fun r4 u5 => ((¬ r4 = 0 → (wX11_isToTell N x1 u5 (fun r7 u8 => ((¬ r7 = 0 → (wX11_triesSets N x1 x2 u8 (fun u11 => (K (u11 0 21) u11)))) ∧ (r7 = 0 → (K (-3) u8)))))) ∧ (r4 = 0 → (K (-1) u5)))))))))
set_option maxRecDepth 100000 in
set_option maxHeartbeats 4000000 in
theorem kX_X11_reach (l : Launch) (D : va_G) (cI cZ : ClassId) (ad q : Nat → Nat) (N : Nat) {x1 : Int32} {x2 : Int32} {u : MM} {K : Int32 → MM → Prop} (h : wX11_reach N x1 x2 u K) : CT l D cI cZ ad 9 q (entM q cI cZ) yX11_reach cX11_reach 3 (some .int) (rr 8 192) [.ref (q 0), .int x1, .int x2] u (QI D 9 q (entM q cI cZ) K) := by
    refine ct_of (by decide +kernel) (Nat.le_of_ble_eq_true rfl) (fun p e s m args below meth c C => ?_)
    refine j_sub (lv' := [(0, .ref (q 0)), (1, .int x1), (2, .int x2)]) [0, 1, 2] rfl ?_
    refine j_aload_n C 0 dX11_reach_0 rfl ?_
    refine j_iload_n C 1 dX11_reach_1 rfl ?_
    refine j_wi C (fun H locs ls hP hD hS hl => run_V (Cn := "") (As := [.int x1]) (st := []) C mf_X11_isPerson 0 (kX_X11_isPerson l D cI cZ ad q N h) q_720 (by decide) rfl rfl rfl rfl ⟨rfl, rfl, by decide, by decide⟩ (Nat.le_of_ble_eq_true rfl) dX11_reach_2 hP hD hS hl) (fun r1 u2 h => ?_)
    refine j_if_eq C 16 dX11_reach_5 (by decide) (fun c3 => ?_) (fun c3 => ?_)
    · have h := h.1 c3
      refine j_iconst (v := (-1)) C dX11_reach_16 (by decide) ?_
      exact j_iret C dX11_reach_17 h
    · have h := h.2 c3
      refine j_aload_n C 0 dX11_reach_8 rfl ?_
      refine j_iload_n C 2 dX11_reach_9 rfl ?_
      refine j_wi C (fun H locs ls hP hD hS hl => run_V (Cn := "") (As := [.int x2]) (st := []) C mf_X11_isPerson 0 (kX_X11_isPerson l D cI cZ ad q N h) q_720 (by decide) rfl rfl rfl rfl ⟨rfl, rfl, by decide, by decide⟩ (Nat.le_of_ble_eq_true rfl) dX11_reach_10 hP hD hS hl) (fun r4 u5 h => ?_)
      refine j_if_ne C 18 dX11_reach_13 (by decide) (fun c6 => ?_) (fun c6 => ?_)
      · have h := h.1 c6
        refine j_aload_n C 0 dX11_reach_18 rfl ?_
        refine j_iload_n C 1 dX11_reach_19 rfl ?_
        refine j_wi C (fun H locs ls hP hD hS hl => run_V (Cn := "") (As := [.int x1]) (st := []) C mf_X11_isToTell 0 (kX_X11_isToTell l D cI cZ ad q N h) q_782 (by decide) rfl rfl rfl rfl ⟨rfl, rfl, by decide, by decide⟩ (Nat.le_of_ble_eq_true rfl) dX11_reach_20 hP hD hS hl) (fun r7 u8 h => ?_)
        refine j_if_ne C 29 dX11_reach_23 (by decide) (fun c9 => ?_) (fun c9 => ?_)
        · have h := h.1 c9
          refine j_aload_n C 0 dX11_reach_29 rfl ?_
          refine j_iload_n C 1 dX11_reach_30 rfl ?_
          refine j_iload_n C 2 dX11_reach_31 rfl ?_
          refine j_wv C (fun H locs ls hP hD hS hl => run_V (Cn := "") (As := [.int x1, .int x2]) (st := []) C mf_X11_triesSets 0 (kX_X11_triesSets l D cI cZ ad q N h) q_828 (by decide) rfl rfl rfl rfl ⟨rfl, rfl, by decide, by decide⟩ (Nat.le_of_ble_eq_true rfl) dX11_reach_32 hP hD hS hl) (fun u11 h => ?_)
          refine j_aload_n C 0 dX11_reach_35 rfl ?_
          refine j_get C 0 21 (ly_X11 C.2.2.2.2.2.2.2.1.1) q_656 rfl rfl (by decide) rfl rfl (by decide) rfl dX11_reach_36 ?_
          exact j_iret C dX11_reach_39 h
        · have h := h.2 c9
          refine j_bipush (v := (-3)) C dX11_reach_26 (by decide) ?_
          exact j_iret C dX11_reach_28 h
      · have h := h.2 c6
        refine j_iconst (v := (-1)) C dX11_reach_16 (by decide) ?_
        exact j_iret C dX11_reach_17 h

def wX11_see (N : Nat) (x1 : Int32) (x2 : Int32) (u : MM) (K : Int32 → MM → Prop) : Prop := ((¬ x1 = (-1) → (wX11_in N x1 0 (((1 : Int32) <<< ((u 1 18) &&& 31)) - 1) (fun r2 => ((r2 = 0 → (K (-2) u)) ∧ (¬ r2 = 0 → (wX11_in N x2 0 6 (fun r4 => ((¬ r4 = 0 → ((¬ (u 1 20) = 6 → (vp_in ((101 + (u 1 20))) 944 ∧ ∀ u7 : MM, u7 = up u 1 ((101 + (u 1 20)).toNatClampNeg) x1 → (vp_in ((107 + (u7 1 20))) 944 ∧ ∀ u8 : MM, u8 = up u7 1 ((107 + (u7 1 20)).toNatClampNeg) x2 → (∀ u9 : MM, u9 = up u8 1 20 ((u8 1 20) + 1) → (K (u9 1 20) u9))))) ∧ ((u 1 20) = 6 → (K (-4) u)))) ∧ (r4 = 0 → (K (-2) u)))))))))) ∧ (x1 = (-1) → (∀ u10 : MM, u10 = up u 1 20 0 → (K 0 u10))))
set_option maxRecDepth 100000 in
set_option maxHeartbeats 4000000 in
theorem kX_X11_see (l : Launch) (D : va_G) (cI cZ : ClassId) (ad q : Nat → Nat) (N : Nat) {x1 : Int32} {x2 : Int32} {u : MM} {K : Int32 → MM → Prop} (h : wX11_see N x1 x2 u K) : CT l D cI cZ ad 9 q (entM q cI cZ) yX11_see cX11_see 3 (some .int) (rr 1 22) [.ref (q 0), .int x1, .int x2] u (QI D 9 q (entM q cI cZ) K) := by
    refine ct_of (by decide +kernel) (Nat.le_of_ble_eq_true rfl) (fun p e s m args below meth c C => ?_)
    refine j_sub (lv' := [(0, .ref (q 0)), (1, .int x1), (2, .int x2)]) [0, 1, 2] rfl ?_
    refine j_iload_n C 1 dX11_see_0 rfl ?_
    refine j_iconst (v := (-1)) C dX11_see_1 (by decide) ?_
    refine j_icmp_ne C 15 dX11_see_2 (by decide) (fun c1 => ?_) (fun c1 => ?_)
    · have h := h.1 c1
      refine j_iload_n C 1 dX11_see_15 rfl ?_
      refine j_iconst (v := 0) C dX11_see_16 (by decide) ?_
      refine j_iconst (v := 1) C dX11_see_17 (by decide) ?_
      refine j_aload_n C 0 dX11_see_18 rfl ?_
      refine j_get C 0 1 (ly_X11 C.2.2.2.2.2.2.2.1.1) q_636 rfl rfl (by decide) rfl rfl (by decide) rfl dX11_see_19 ?_
      refine j_bipush (v := 18) C dX11_see_22 (by decide) ?_
      refine j_ialoadK (N := 944) C 1 18 (by decide) (show ¬ ((18 : Int32) < 0 ∨ 944 ≤ (18 : Int32).toNatClampNeg) by decide) (by decide) rfl rfl dX11_see_24 ?_
      refine j_ishl C dX11_see_25 ?_
      refine j_iconst (v := 1) C dX11_see_26 (by decide) ?_
      refine j_isub C dX11_see_27 ?_
      refine j_ui C (fun H locs ls hP hD => run_S (As := [.int x1, .int 0, .int (((1 : Int32) <<< ((u 1 18) &&& 31)) - 1)]) (st := []) C mf_X11_in (kX_X11_in l D cI cZ ad q N h) q_667 rfl rfl ⟨rfl, rfl, by decide, by decide⟩ (Nat.le_of_ble_eq_true rfl) dX11_see_28 hP hD) (fun r2 _ h => ?_)
      refine j_if_eq C 44 dX11_see_31 (by decide) (fun c3 => ?_) (fun c3 => ?_)
      · have h := h.1 c3
        refine j_bipush (v := (-2)) C dX11_see_44 (by decide) ?_
        exact j_iret C dX11_see_46 h
      · have h := h.2 c3
        refine j_iload_n C 2 dX11_see_34 rfl ?_
        refine j_iconst (v := 0) C dX11_see_35 (by decide) ?_
        refine j_bipush (v := 6) C dX11_see_36 (by decide) ?_
        refine j_ui C (fun H locs ls hP hD => run_S (As := [.int x2, .int 0, .int 6]) (st := []) C mf_X11_in (kX_X11_in l D cI cZ ad q N h) q_667 rfl rfl ⟨rfl, rfl, by decide, by decide⟩ (Nat.le_of_ble_eq_true rfl) dX11_see_38 hP hD) (fun r4 _ h => ?_)
        refine j_if_ne C 47 dX11_see_41 (by decide) (fun c5 => ?_) (fun c5 => ?_)
        · have h := h.1 c5
          refine j_aload_n C 0 dX11_see_47 rfl ?_
          refine j_get C 0 1 (ly_X11 C.2.2.2.2.2.2.2.1.1) q_636 rfl rfl (by decide) rfl rfl (by decide) rfl dX11_see_48 ?_
          refine j_bipush (v := 20) C dX11_see_51 (by decide) ?_
          refine j_ialoadK (N := 944) C 1 20 (by decide) (show ¬ ((20 : Int32) < 0 ∨ 944 ≤ (20 : Int32).toNatClampNeg) by decide) (by decide) rfl rfl dX11_see_53 ?_
          refine j_bipush (v := 6) C dX11_see_54 (by decide) ?_
          refine j_icmp_ne C 62 dX11_see_56 (by decide) (fun c6 => ?_) (fun c6 => ?_)
          · have h := h.1 c6
            refine j_aload_n C 0 dX11_see_62 rfl ?_
            refine j_get C 0 1 (ly_X11 C.2.2.2.2.2.2.2.1.1) q_636 rfl rfl (by decide) rfl rfl (by decide) rfl dX11_see_63 ?_
            refine j_bipush (v := 101) C dX11_see_66 (by decide) ?_
            refine j_aload_n C 0 dX11_see_68 rfl ?_
            refine j_get C 0 1 (ly_X11 C.2.2.2.2.2.2.2.1.1) q_636 rfl rfl (by decide) rfl rfl (by decide) rfl dX11_see_69 ?_
            refine j_bipush (v := 20) C dX11_see_72 (by decide) ?_
            refine j_ialoadK (N := 944) C 1 20 (by decide) (show ¬ ((20 : Int32) < 0 ∨ 944 ≤ (20 : Int32).toNatClampNeg) by decide) (by decide) rfl rfl dX11_see_74 ?_
            refine j_iadd C dX11_see_75 ?_
            refine j_iload_n C 1 dX11_see_76 rfl ?_
            obtain ⟨hin, h⟩ := h
            refine j_iastoreK (N := 944) C 1 _ rfl hin (by decide) (fun _ => rfl) rfl dX11_see_77 (fun u7 eu7 => ?_)
            have h := h u7 eu7
            refine j_aload_n C 0 dX11_see_78 rfl ?_
            refine j_get C 0 1 (ly_X11 C.2.2.2.2.2.2.2.1.1) q_636 rfl rfl (by decide) rfl rfl (by decide) rfl dX11_see_79 ?_
            refine j_bipush (v := 107) C dX11_see_82 (by decide) ?_
            refine j_aload_n C 0 dX11_see_84 rfl ?_
            refine j_get C 0 1 (ly_X11 C.2.2.2.2.2.2.2.1.1) q_636 rfl rfl (by decide) rfl rfl (by decide) rfl dX11_see_85 ?_
            refine j_bipush (v := 20) C dX11_see_88 (by decide) ?_
            refine j_ialoadK (N := 944) C 1 20 (by decide) (show ¬ ((20 : Int32) < 0 ∨ 944 ≤ (20 : Int32).toNatClampNeg) by decide) (by decide) rfl rfl dX11_see_90 ?_
            refine j_iadd C dX11_see_91 ?_
            refine j_iload_n C 2 dX11_see_92 rfl ?_
            obtain ⟨hin, h⟩ := h
            refine j_iastoreK (N := 944) C 1 _ rfl hin (by decide) (fun _ => rfl) rfl dX11_see_93 (fun u8 eu8 => ?_)
            have h := h u8 eu8
            refine j_aload_n C 0 dX11_see_94 rfl ?_
            refine j_get C 0 1 (ly_X11 C.2.2.2.2.2.2.2.1.1) q_636 rfl rfl (by decide) rfl rfl (by decide) rfl dX11_see_95 ?_
            refine j_bipush (v := 20) C dX11_see_98 (by decide) ?_
            refine j_dup2 C dX11_see_100 rfl rfl ?_
            refine j_ialoadK (N := 944) C 1 20 (by decide) (show ¬ ((20 : Int32) < 0 ∨ 944 ≤ (20 : Int32).toNatClampNeg) by decide) (by decide) rfl rfl dX11_see_101 ?_
            refine j_iconst (v := 1) C dX11_see_102 (by decide) ?_
            refine j_iadd C dX11_see_103 ?_
            refine j_iastoreK (N := 944) C 1 20 (by decide) (show ¬ ((20 : Int32) < 0 ∨ 944 ≤ (20 : Int32).toNatClampNeg) by decide) (by decide) (fun _ => rfl) rfl dX11_see_104 (fun u9 eu9 => ?_)
            have h := h u9 eu9
            refine j_aload_n C 0 dX11_see_105 rfl ?_
            refine j_get C 0 1 (ly_X11 C.2.2.2.2.2.2.2.1.1) q_636 rfl rfl (by decide) rfl rfl (by decide) rfl dX11_see_106 ?_
            refine j_bipush (v := 20) C dX11_see_109 (by decide) ?_
            refine j_ialoadK (N := 944) C 1 20 (by decide) (show ¬ ((20 : Int32) < 0 ∨ 944 ≤ (20 : Int32).toNatClampNeg) by decide) (by decide) rfl rfl dX11_see_111 ?_
            exact j_iret C dX11_see_112 h
          · have h := h.2 c6
            refine j_bipush (v := (-4)) C dX11_see_59 (by decide) ?_
            exact j_iret C dX11_see_61 h
        · have h := h.2 c5
          refine j_bipush (v := (-2)) C dX11_see_44 (by decide) ?_
          exact j_iret C dX11_see_46 h
    · have h := h.2 c1
      refine j_aload_n C 0 dX11_see_5 rfl ?_
      refine j_get C 0 1 (ly_X11 C.2.2.2.2.2.2.2.1.1) q_636 rfl rfl (by decide) rfl rfl (by decide) rfl dX11_see_6 ?_
      refine j_bipush (v := 20) C dX11_see_9 (by decide) ?_
      refine j_iconst (v := 0) C dX11_see_11 (by decide) ?_
      refine j_iastoreK (N := 944) C 1 20 (by decide) (show ¬ ((20 : Int32) < 0 ∨ 944 ≤ (20 : Int32).toNatClampNeg) by decide) (by decide) (fun _ => rfl) rfl dX11_see_12 (fun u10 eu10 => ?_)
      have h := h u10 eu10
      refine j_iconst (v := 0) C dX11_see_13 (by decide) ?_
      exact j_iret C dX11_see_14 h

def wX11_isAsSeen_b63 (N : Nat) (K : Int32 → MM → Prop) (ro4 : Int32 → Int32 → MM → Prop) (ro12 : Int32 → Int32 → Int32 → MM → Prop) (x2 : Int32) (x3 : Int32) (s0 : Int32) (u : MM) : Prop := (∀ y9 : Int32, y9 = x3 + 1 → (ro12 s0 x2 y9 u))
def wX11_isAsSeen_b62 (N : Nat) (K : Int32 → MM → Prop) (ro4 : Int32 → Int32 → MM → Prop) (ro12 : Int32 → Int32 → Int32 → MM → Prop) (x2 : Int32) (x3 : Int32) (u : MM) : Prop := (wX11_isAsSeen_b63 N K ro4 ro12 x2 x3 0 u)
def wX11_isAsSeen_b58 (N : Nat) (K : Int32 → MM → Prop) (ro4 : Int32 → Int32 → MM → Prop) (ro12 : Int32 → Int32 → Int32 → MM → Prop) (x2 : Int32) (x3 : Int32) (u : MM) : Prop := (wX11_isAsSeen_b63 N K ro4 ro12 x2 x3 1 u)
def wX11_isAsSeen_b12 (N : Nat) (K : Int32 → MM → Prop) (ro4 : Int32 → Int32 → MM → Prop) : Nat → Int32 → Int32 → Int32 → MM → Prop
  | 0, _, _, _, _ => False
  | n + 1, x1, x2, x3, u => (((u 1 20) ≤ x3 → (wX11_goes N u (fun r3 u4 => (∀ y5 : Int32, y5 = x2 + 1 → (ro4 x1 y5 u4))))) ∧ (¬ (u 1 20) ≤ x3 → ((x1 = 0 → (wX11_isAsSeen_b62 N K ro4 (wX11_isAsSeen_b12 N K ro4 n) x2 x3 u)) ∧ (¬ x1 = 0 → (vp_in ((107 + x3)) 944 ∧ ((¬ (u 1 (107 + x3).toNatClampNeg) = x2 → (wX11_isAsSeen_b58 N K ro4 (wX11_isAsSeen_b12 N K ro4 n) x2 x3 u)) ∧ ((u 1 (107 + x3).toNatClampNeg) = x2 → (vp_in ((101 + x3)) 944 ∧ ((¬ (u 1 (101 + x3).toNatClampNeg) = (u 1 2) → (wX11_isAsSeen_b62 N K ro4 (wX11_isAsSeen_b12 N K ro4 n) x2 x3 u)) ∧ ((u 1 (101 + x3).toNatClampNeg) = (u 1 2) → (wX11_isAsSeen_b58 N K ro4 (wX11_isAsSeen_b12 N K ro4 n) x2 x3 u)))))))))))
def wX11_isAsSeen_b4 (N : Nat) (K : Int32 → MM → Prop) : Nat → Int32 → Int32 → MM → Prop
  | 0, _, _, _ => False
  | n + 1, x1, x2, u => ((7 ≤ x2 → (bz x1 ∧ K x1 u)) ∧ (¬ 7 ≤ x2 → (wX11_isAsSeen_b12 N K (wX11_isAsSeen_b4 N K n) N x1 x2 0 u)))
def wX11_isAsSeen (N : Nat) (u : MM) (K : Int32 → MM → Prop) : Prop := (wX11_isAsSeen_b4 N K N 1 0 u)
set_option maxRecDepth 100000 in
set_option maxHeartbeats 4000000 in
theorem tX11_isAsSeen_b63 (l : Launch) (D : va_G) (cI cZ : ClassId) (ad q : Nat → Nat) (N : Nat) {p : Program} {e : Env} {s : State} {m : MethodId} {args : Array Value} {below : List Frame} {meth : Method} {c : Code} {K : Int32 → MM → Prop} (C : CX p s m args meth c cX11_isAsSeen 4 RX11 (some .boolean) D cI cZ ad (AJ 9 q s.heap.size)) {ro4 : Int32 → Int32 → MM → Prop} (hro4 : ∀ (x1 : Int32) (x2 : Int32) (u : MM), ro4 x1 x2 u → JX p l e (rr 6 144) s m args below meth c D (AJ 9 q s.heap.size) 4 (MQ below ((QI D 9 q (entM q cI cZ) K) (AJ 9 q s.heap.size)) args s 0 0 (AJ 9 q s.heap.size)) 9 q (entM q cI cZ) u 4 [(0, .ref (q 0)), (1, .int x1), (2, .int x2)] []) {ro12 : Int32 → Int32 → Int32 → MM → Prop} (hro12 : ∀ (x1 : Int32) (x2 : Int32) (x3 : Int32) (u : MM), ro12 x1 x2 x3 u → JX p l e (rr 6 144) s m args below meth c D (AJ 9 q s.heap.size) 4 (MQ below ((QI D 9 q (entM q cI cZ) K) (AJ 9 q s.heap.size)) args s 0 0 (AJ 9 q s.heap.size)) 9 q (entM q cI cZ) u 12 [(0, .ref (q 0)), (1, .int x1), (2, .int x2), (3, .int x3)] []) : ∀ (x2 : Int32) (x3 : Int32) (s0 : Int32) (u : MM), wX11_isAsSeen_b63 N K ro4 ro12 x2 x3 s0 u → JX p l e (rr 6 144) s m args below meth c D (AJ 9 q s.heap.size) 4 (MQ below ((QI D 9 q (entM q cI cZ) K) (AJ 9 q s.heap.size)) args s 0 0 (AJ 9 q s.heap.size)) 9 q (entM q cI cZ) u 63 [(0, .ref (q 0)), (2, .int x2), (3, .int x3)] [.int s0] := by
    intro x2 x3 s0 u h
    refine j_istore_n (lv' := [(1, .int s0), (0, .ref (q 0)), (2, .int x2), (3, .int x3)]) C dX11_isAsSeen_63 (by decide) rfl ?_
    obtain ⟨y9, ey9⟩ : ∃ z : Int32, z = x3 + 1 := ⟨_, rfl⟩
    have h := h y9 ey9
    refine j_iinc (v := y9) (lv' := [(3, .int y9), (1, .int s0), (0, .ref (q 0)), (2, .int x2)]) C 3 dX11_isAsSeen_64 rfl (by rw [ey9]; rfl) (by decide) rfl ?_
    refine j_goto C 12 dX11_isAsSeen_67 (by decide) ?_
    refine j_sub (lv' := [(0, .ref (q 0)), (1, .int s0), (2, .int x2), (3, .int y9)]) [2, 1, 3, 0] rfl ?_
    exact hro12 _ _ _ _ h
set_option maxRecDepth 100000 in
set_option maxHeartbeats 4000000 in
theorem tX11_isAsSeen_b62 (l : Launch) (D : va_G) (cI cZ : ClassId) (ad q : Nat → Nat) (N : Nat) {p : Program} {e : Env} {s : State} {m : MethodId} {args : Array Value} {below : List Frame} {meth : Method} {c : Code} {K : Int32 → MM → Prop} (C : CX p s m args meth c cX11_isAsSeen 4 RX11 (some .boolean) D cI cZ ad (AJ 9 q s.heap.size)) {ro4 : Int32 → Int32 → MM → Prop} (hro4 : ∀ (x1 : Int32) (x2 : Int32) (u : MM), ro4 x1 x2 u → JX p l e (rr 6 144) s m args below meth c D (AJ 9 q s.heap.size) 4 (MQ below ((QI D 9 q (entM q cI cZ) K) (AJ 9 q s.heap.size)) args s 0 0 (AJ 9 q s.heap.size)) 9 q (entM q cI cZ) u 4 [(0, .ref (q 0)), (1, .int x1), (2, .int x2)] []) {ro12 : Int32 → Int32 → Int32 → MM → Prop} (hro12 : ∀ (x1 : Int32) (x2 : Int32) (x3 : Int32) (u : MM), ro12 x1 x2 x3 u → JX p l e (rr 6 144) s m args below meth c D (AJ 9 q s.heap.size) 4 (MQ below ((QI D 9 q (entM q cI cZ) K) (AJ 9 q s.heap.size)) args s 0 0 (AJ 9 q s.heap.size)) 9 q (entM q cI cZ) u 12 [(0, .ref (q 0)), (1, .int x1), (2, .int x2), (3, .int x3)] []) : ∀ (x2 : Int32) (x3 : Int32) (u : MM), wX11_isAsSeen_b62 N K ro4 ro12 x2 x3 u → JX p l e (rr 6 144) s m args below meth c D (AJ 9 q s.heap.size) 4 (MQ below ((QI D 9 q (entM q cI cZ) K) (AJ 9 q s.heap.size)) args s 0 0 (AJ 9 q s.heap.size)) 9 q (entM q cI cZ) u 62 [(0, .ref (q 0)), (2, .int x2), (3, .int x3)] [] := by
    intro x2 x3 u h
    refine j_iconst (v := 0) C dX11_isAsSeen_62 (by decide) ?_
    exact tX11_isAsSeen_b63 l D cI cZ ad q N C (hro4) (hro12) _ _ _ _ h
set_option maxRecDepth 100000 in
set_option maxHeartbeats 4000000 in
theorem tX11_isAsSeen_b58 (l : Launch) (D : va_G) (cI cZ : ClassId) (ad q : Nat → Nat) (N : Nat) {p : Program} {e : Env} {s : State} {m : MethodId} {args : Array Value} {below : List Frame} {meth : Method} {c : Code} {K : Int32 → MM → Prop} (C : CX p s m args meth c cX11_isAsSeen 4 RX11 (some .boolean) D cI cZ ad (AJ 9 q s.heap.size)) {ro4 : Int32 → Int32 → MM → Prop} (hro4 : ∀ (x1 : Int32) (x2 : Int32) (u : MM), ro4 x1 x2 u → JX p l e (rr 6 144) s m args below meth c D (AJ 9 q s.heap.size) 4 (MQ below ((QI D 9 q (entM q cI cZ) K) (AJ 9 q s.heap.size)) args s 0 0 (AJ 9 q s.heap.size)) 9 q (entM q cI cZ) u 4 [(0, .ref (q 0)), (1, .int x1), (2, .int x2)] []) {ro12 : Int32 → Int32 → Int32 → MM → Prop} (hro12 : ∀ (x1 : Int32) (x2 : Int32) (x3 : Int32) (u : MM), ro12 x1 x2 x3 u → JX p l e (rr 6 144) s m args below meth c D (AJ 9 q s.heap.size) 4 (MQ below ((QI D 9 q (entM q cI cZ) K) (AJ 9 q s.heap.size)) args s 0 0 (AJ 9 q s.heap.size)) 9 q (entM q cI cZ) u 12 [(0, .ref (q 0)), (1, .int x1), (2, .int x2), (3, .int x3)] []) : ∀ (x2 : Int32) (x3 : Int32) (u : MM), wX11_isAsSeen_b58 N K ro4 ro12 x2 x3 u → JX p l e (rr 6 144) s m args below meth c D (AJ 9 q s.heap.size) 4 (MQ below ((QI D 9 q (entM q cI cZ) K) (AJ 9 q s.heap.size)) args s 0 0 (AJ 9 q s.heap.size)) 9 q (entM q cI cZ) u 58 [(0, .ref (q 0)), (2, .int x2), (3, .int x3)] [] := by
    intro x2 x3 u h
    refine j_iconst (v := 1) C dX11_isAsSeen_58 (by decide) ?_
    refine j_goto C 63 dX11_isAsSeen_59 (by decide) ?_
    exact tX11_isAsSeen_b63 l D cI cZ ad q N C (hro4) (hro12) _ _ _ _ h
set_option maxRecDepth 100000 in
set_option maxHeartbeats 4000000 in
theorem tX11_isAsSeen_b12 (l : Launch) (D : va_G) (cI cZ : ClassId) (ad q : Nat → Nat) (N : Nat) {p : Program} {e : Env} {s : State} {m : MethodId} {args : Array Value} {below : List Frame} {meth : Method} {c : Code} {K : Int32 → MM → Prop} (C : CX p s m args meth c cX11_isAsSeen 4 RX11 (some .boolean) D cI cZ ad (AJ 9 q s.heap.size)) {ro4 : Int32 → Int32 → MM → Prop} (hro4 : ∀ (x1 : Int32) (x2 : Int32) (u : MM), ro4 x1 x2 u → JX p l e (rr 6 144) s m args below meth c D (AJ 9 q s.heap.size) 4 (MQ below ((QI D 9 q (entM q cI cZ) K) (AJ 9 q s.heap.size)) args s 0 0 (AJ 9 q s.heap.size)) 9 q (entM q cI cZ) u 4 [(0, .ref (q 0)), (1, .int x1), (2, .int x2)] []) : ∀ (n : Nat) (x1 : Int32) (x2 : Int32) (x3 : Int32) (u : MM), wX11_isAsSeen_b12 N K ro4 n x1 x2 x3 u → JX p l e (rr 6 144) s m args below meth c D (AJ 9 q s.heap.size) 4 (MQ below ((QI D 9 q (entM q cI cZ) K) (AJ 9 q s.heap.size)) args s 0 0 (AJ 9 q s.heap.size)) 9 q (entM q cI cZ) u 12 [(0, .ref (q 0)), (1, .int x1), (2, .int x2), (3, .int x3)] [] := by
  intro n
  induction n with
  | zero => intro x1 x2 x3 u h; exact h.elim
  | succ n ih =>
    intro x1 x2 x3 u h
    refine j_iload_n C 3 dX11_isAsSeen_12 rfl ?_
    refine j_aload_n C 0 dX11_isAsSeen_13 rfl ?_
    refine j_get C 0 1 (ly_X11 C.2.2.2.2.2.2.2.1.1) q_636 rfl rfl (by decide) rfl rfl (by decide) rfl dX11_isAsSeen_14 ?_
    refine j_bipush (v := 20) C dX11_isAsSeen_17 (by decide) ?_
    refine j_ialoadK (N := 944) C 1 20 (by decide) (show ¬ ((20 : Int32) < 0 ∨ 944 ≤ (20 : Int32).toNatClampNeg) by decide) (by decide) rfl rfl dX11_isAsSeen_19 ?_
    refine j_icmp_ge C 70 dX11_isAsSeen_20 (by decide) (fun c2 => ?_) (fun c2 => ?_)
    · have h := h.1 c2
      refine j_aload_n C 0 dX11_isAsSeen_70 rfl ?_
      refine j_wi C (fun H locs ls hP hD hS hl => run_V (Cn := "") (As := []) (st := []) C mf_X11_goes 0 (kX_X11_goes l D cI cZ ad q N h) q_776 (by decide) rfl rfl rfl rfl ⟨rfl, rfl, by decide, by decide⟩ (Nat.le_of_ble_eq_true rfl) dX11_isAsSeen_71 hP hD hS hl) (fun r3 u4 h => ?_)
      refine j_pop C dX11_isAsSeen_74 rfl ?_
      obtain ⟨y5, ey5⟩ : ∃ z : Int32, z = x2 + 1 := ⟨_, rfl⟩
      have h := h y5 ey5
      refine j_iinc (v := y5) (lv' := [(2, .int y5), (0, .ref (q 0)), (1, .int x1), (3, .int x3)]) C 2 dX11_isAsSeen_75 rfl (by rw [ey5]; rfl) (by decide) rfl ?_
      refine j_goto C 4 dX11_isAsSeen_78 (by decide) ?_
      refine j_sub (lv' := [(0, .ref (q 0)), (1, .int x1), (2, .int y5)]) [1, 2, 0] rfl ?_
      exact hro4 _ _ _ h
    · have h := h.2 c2
      refine j_iload_n C 1 dX11_isAsSeen_23 rfl ?_
      refine j_if_eq C 62 dX11_isAsSeen_24 (by decide) (fun c6 => ?_) (fun c6 => ?_)
      · have h := h.1 c6
        refine j_sub (lv' := [(0, .ref (q 0)), (2, .int x2), (3, .int x3)]) [0, 2, 3] rfl ?_
        exact tX11_isAsSeen_b62 l D cI cZ ad q N C (hro4) ih _ _ _ h
      · have h := h.2 c6
        refine j_aload_n C 0 dX11_isAsSeen_27 rfl ?_
        refine j_get C 0 1 (ly_X11 C.2.2.2.2.2.2.2.1.1) q_636 rfl rfl (by decide) rfl rfl (by decide) rfl dX11_isAsSeen_28 ?_
        refine j_bipush (v := 107) C dX11_isAsSeen_31 (by decide) ?_
        refine j_iload_n C 3 dX11_isAsSeen_33 rfl ?_
        refine j_iadd C dX11_isAsSeen_34 ?_
        obtain ⟨hin, h⟩ := h
        refine j_ialoadK (N := 944) C 1 _ rfl hin (by decide) rfl rfl dX11_isAsSeen_35 ?_
        refine j_iload_n C 2 dX11_isAsSeen_36 rfl ?_
        refine j_icmp_ne C 58 dX11_isAsSeen_37 (by decide) (fun c7 => ?_) (fun c7 => ?_)
        · have h := h.1 c7
          refine j_sub (lv' := [(0, .ref (q 0)), (2, .int x2), (3, .int x3)]) [0, 2, 3] rfl ?_
          exact tX11_isAsSeen_b58 l D cI cZ ad q N C (hro4) ih _ _ _ h
        · have h := h.2 c7
          refine j_aload_n C 0 dX11_isAsSeen_40 rfl ?_
          refine j_get C 0 1 (ly_X11 C.2.2.2.2.2.2.2.1.1) q_636 rfl rfl (by decide) rfl rfl (by decide) rfl dX11_isAsSeen_41 ?_
          refine j_bipush (v := 101) C dX11_isAsSeen_44 (by decide) ?_
          refine j_iload_n C 3 dX11_isAsSeen_46 rfl ?_
          refine j_iadd C dX11_isAsSeen_47 ?_
          obtain ⟨hin, h⟩ := h
          refine j_ialoadK (N := 944) C 1 _ rfl hin (by decide) rfl rfl dX11_isAsSeen_48 ?_
          refine j_aload_n C 0 dX11_isAsSeen_49 rfl ?_
          refine j_get C 0 1 (ly_X11 C.2.2.2.2.2.2.2.1.1) q_636 rfl rfl (by decide) rfl rfl (by decide) rfl dX11_isAsSeen_50 ?_
          refine j_iconst (v := 2) C dX11_isAsSeen_53 (by decide) ?_
          refine j_ialoadK (N := 944) C 1 2 (by decide) (show ¬ ((2 : Int32) < 0 ∨ 944 ≤ (2 : Int32).toNatClampNeg) by decide) (by decide) rfl rfl dX11_isAsSeen_54 ?_
          refine j_icmp_ne C 62 dX11_isAsSeen_55 (by decide) (fun c8 => ?_) (fun c8 => ?_)
          · have h := h.1 c8
            refine j_sub (lv' := [(0, .ref (q 0)), (2, .int x2), (3, .int x3)]) [0, 2, 3] rfl ?_
            exact tX11_isAsSeen_b62 l D cI cZ ad q N C (hro4) ih _ _ _ h
          · have h := h.2 c8
            refine j_sub (lv' := [(0, .ref (q 0)), (2, .int x2), (3, .int x3)]) [0, 2, 3] rfl ?_
            exact tX11_isAsSeen_b58 l D cI cZ ad q N C (hro4) ih _ _ _ h
set_option maxRecDepth 100000 in
set_option maxHeartbeats 4000000 in
theorem tX11_isAsSeen_b4 (l : Launch) (D : va_G) (cI cZ : ClassId) (ad q : Nat → Nat) (N : Nat) {p : Program} {e : Env} {s : State} {m : MethodId} {args : Array Value} {below : List Frame} {meth : Method} {c : Code} {K : Int32 → MM → Prop} (C : CX p s m args meth c cX11_isAsSeen 4 RX11 (some .boolean) D cI cZ ad (AJ 9 q s.heap.size)) : ∀ (n : Nat) (x1 : Int32) (x2 : Int32) (u : MM), wX11_isAsSeen_b4 N K n x1 x2 u → JX p l e (rr 6 144) s m args below meth c D (AJ 9 q s.heap.size) 4 (MQ below ((QI D 9 q (entM q cI cZ) K) (AJ 9 q s.heap.size)) args s 0 0 (AJ 9 q s.heap.size)) 9 q (entM q cI cZ) u 4 [(0, .ref (q 0)), (1, .int x1), (2, .int x2)] [] := by
  intro n
  induction n with
  | zero => intro x1 x2 u h; exact h.elim
  | succ n ih =>
    intro x1 x2 u h
    refine j_iload_n C 2 dX11_isAsSeen_4 rfl ?_
    refine j_bipush (v := 7) C dX11_isAsSeen_5 (by decide) ?_
    refine j_icmp_ge C 81 dX11_isAsSeen_7 (by decide) (fun c1 => ?_) (fun c1 => ?_)
    · have h := h.1 c1
      refine j_iload_n C 1 dX11_isAsSeen_81 rfl ?_
      exact j_zret C dX11_isAsSeen_82 h.1.1 h.2
    · have h := h.2 c1
      refine j_iconst (v := 0) C dX11_isAsSeen_10 (by decide) ?_
      refine j_istore_n (lv' := [(3, .int 0), (0, .ref (q 0)), (1, .int x1), (2, .int x2)]) C dX11_isAsSeen_11 (by decide) rfl ?_
      refine j_sub (lv' := [(0, .ref (q 0)), (1, .int x1), (2, .int x2), (3, .int 0)]) [1, 2, 3, 0] rfl ?_
      exact tX11_isAsSeen_b12 l D cI cZ ad q N C ih N _ _ _ _ h
set_option maxRecDepth 100000 in
set_option maxHeartbeats 4000000 in
theorem kX_X11_isAsSeen (l : Launch) (D : va_G) (cI cZ : ClassId) (ad q : Nat → Nat) (N : Nat) {u : MM} {K : Int32 → MM → Prop} (h : wX11_isAsSeen N u K) : CT l D cI cZ ad 9 q (entM q cI cZ) yX11_isAsSeen cX11_isAsSeen 4 (some .boolean) (rr 6 144) [.ref (q 0)] u (QI D 9 q (entM q cI cZ) K) := by
    refine ct_of (by decide +kernel) (Nat.le_of_ble_eq_true rfl) (fun p e s m args below meth c C => ?_)
    refine j_sub (lv' := [(0, .ref (q 0))]) [0] rfl ?_
    refine j_iconst (v := 1) C dX11_isAsSeen_0 (by decide) ?_
    refine j_istore_n (lv' := [(1, .int 1), (0, .ref (q 0))]) C dX11_isAsSeen_1 (by decide) rfl ?_
    refine j_iconst (v := 0) C dX11_isAsSeen_2 (by decide) ?_
    refine j_istore_n (lv' := [(2, .int 0), (1, .int 1), (0, .ref (q 0))]) C dX11_isAsSeen_3 (by decide) rfl ?_
    refine j_sub (lv' := [(0, .ref (q 0)), (1, .int 1), (2, .int 0)]) [2, 1, 0] rfl ?_
    exact tX11_isAsSeen_b4 l D cI cZ ad q N C N _ _ _ h

def wX11_began_b80 (N : Nat) (K : Int32 → MM → Prop) (ro23 : Int32 → Int32 → Int32 → Int32 → MM → Prop) (ro38 : Int32 → Int32 → Int32 → Int32 → Int32 → MM → Prop) (x1 : Int32) (x2 : Int32) (x3 : Int32) (x4 : Int32) (x5 : Int32) (u : MM) : Prop := (wX11_goesBack N u (fun u17 => (∀ y18 : Int32, y18 = x5 + 1 → (ro38 x1 x2 x3 x4 y18 u17))))
def wX11_began_b76 (N : Nat) (K : Int32 → MM → Prop) (ro23 : Int32 → Int32 → Int32 → Int32 → MM → Prop) (ro38 : Int32 → Int32 → Int32 → Int32 → Int32 → MM → Prop) (x1 : Int32) (x2 : Int32) (x4 : Int32) (x5 : Int32) (s0 : Int32) (u : MM) : Prop := (∀ y15 : Int32, y15 = x2 + 1 → (wX11_began_b80 N K ro23 ro38 x1 y15 s0 x4 x5 u))
def wX11_began_b38 (N : Nat) (K : Int32 → MM → Prop) (ro23 : Int32 → Int32 → Int32 → Int32 → MM → Prop) : Nat → Int32 → Int32 → Int32 → Int32 → Int32 → MM → Prop
  | 0, _, _, _, _, _, _ => False
  | n + 1, x1, x2, x3, x4, x5, u => ((7 ≤ x5 → (∀ y8 : Int32, y8 = x4 + 1 → (ro23 x1 x2 x3 y8 u))) ∧ (¬ 7 ≤ x5 → (wX11_begins N x4 x5 u (fun u10 => (wX11_isAsSeen N u10 (fun r11 u12 => ((r11 = 0 → (wX11_began_b80 N K ro23 (wX11_began_b38 N K ro23 n) x1 x2 x3 x4 x5 u12)) ∧ (¬ r11 = 0 → ((¬ x2 = 0 → (wX11_began_b76 N K ro23 (wX11_began_b38 N K ro23 n) x1 x2 x4 x5 x3 u12)) ∧ (x2 = 0 → (wX11_began_b76 N K ro23 (wX11_began_b38 N K ro23 n) x1 x2 x4 x5 ((10 * x4) + x5) u12)))))))))))
def wX11_began_b23 (N : Nat) (K : Int32 → MM → Prop) : Nat → Int32 → Int32 → Int32 → Int32 → MM → Prop
  | 0, _, _, _, _, _ => False
  | n + 1, x1, x2, x3, x4, u => (((u 1 18) ≤ x4 → ((¬ x1 = 0 → (K x3 u)) ∧ (x1 = 0 → (K x2 u)))) ∧ (¬ (u 1 18) ≤ x4 → (wX11_began_b38 N K (wX11_began_b23 N K n) N x1 x2 x3 x4 0 u)))
def wX11_began (N : Nat) (x1 : Int32) (u : MM) (K : Int32 → MM → Prop) : Prop := (wX11_in N x1 0 1 (fun r1 => ((¬ r1 = 0 → (wX11_keeps N u (fun u4 => (wX11_began_b23 N K N x1 0 (-5) 0 u4)))) ∧ (r1 = 0 → (K (-1) u)))))
set_option maxRecDepth 100000 in
set_option maxHeartbeats 4000000 in
theorem tX11_began_b80 (l : Launch) (D : va_G) (cI cZ : ClassId) (ad q : Nat → Nat) (N : Nat) {p : Program} {e : Env} {s : State} {m : MethodId} {args : Array Value} {below : List Frame} {meth : Method} {c : Code} {K : Int32 → MM → Prop} (C : CX p s m args meth c cX11_began 6 RX11 (some .int) D cI cZ ad (AJ 9 q s.heap.size)) {ro23 : Int32 → Int32 → Int32 → Int32 → MM → Prop} (hro23 : ∀ (x1 : Int32) (x2 : Int32) (x3 : Int32) (x4 : Int32) (u : MM), ro23 x1 x2 x3 x4 u → JX p l e (rr 7 167) s m args below meth c D (AJ 9 q s.heap.size) 6 (MQ below ((QI D 9 q (entM q cI cZ) K) (AJ 9 q s.heap.size)) args s 0 0 (AJ 9 q s.heap.size)) 9 q (entM q cI cZ) u 23 [(0, .ref (q 0)), (1, .int x1), (2, .int x2), (3, .int x3), (4, .int x4)] []) {ro38 : Int32 → Int32 → Int32 → Int32 → Int32 → MM → Prop} (hro38 : ∀ (x1 : Int32) (x2 : Int32) (x3 : Int32) (x4 : Int32) (x5 : Int32) (u : MM), ro38 x1 x2 x3 x4 x5 u → JX p l e (rr 7 167) s m args below meth c D (AJ 9 q s.heap.size) 6 (MQ below ((QI D 9 q (entM q cI cZ) K) (AJ 9 q s.heap.size)) args s 0 0 (AJ 9 q s.heap.size)) 9 q (entM q cI cZ) u 38 [(0, .ref (q 0)), (1, .int x1), (2, .int x2), (3, .int x3), (4, .int x4), (5, .int x5)] []) : ∀ (x1 : Int32) (x2 : Int32) (x3 : Int32) (x4 : Int32) (x5 : Int32) (u : MM), wX11_began_b80 N K ro23 ro38 x1 x2 x3 x4 x5 u → JX p l e (rr 7 167) s m args below meth c D (AJ 9 q s.heap.size) 6 (MQ below ((QI D 9 q (entM q cI cZ) K) (AJ 9 q s.heap.size)) args s 0 0 (AJ 9 q s.heap.size)) 9 q (entM q cI cZ) u 80 [(0, .ref (q 0)), (1, .int x1), (2, .int x2), (3, .int x3), (4, .int x4), (5, .int x5)] [] := by
    intro x1 x2 x3 x4 x5 u h
    refine j_aload_n C 0 dX11_began_80 rfl ?_
    refine j_wv C (fun H locs ls hP hD hS hl => run_V (Cn := "") (As := []) (st := []) C mf_X11_goesBack 0 (kX_X11_goesBack l D cI cZ ad q N h) q_817 (by decide) rfl rfl rfl rfl ⟨rfl, rfl, by decide, by decide⟩ (Nat.le_of_ble_eq_true rfl) dX11_began_81 hP hD hS hl) (fun u17 h => ?_)
    obtain ⟨y18, ey18⟩ : ∃ z : Int32, z = x5 + 1 := ⟨_, rfl⟩
    have h := h y18 ey18
    refine j_iinc (v := y18) (lv' := [(5, .int y18), (0, .ref (q 0)), (1, .int x1), (2, .int x2), (3, .int x3), (4, .int x4)]) C 5 dX11_began_84 rfl (by rw [ey18]; rfl) (by decide) rfl ?_
    refine j_goto C 38 dX11_began_87 (by decide) ?_
    refine j_sub (lv' := [(0, .ref (q 0)), (1, .int x1), (2, .int x2), (3, .int x3), (4, .int x4), (5, .int y18)]) [1, 2, 3, 4, 5, 0] rfl ?_
    exact hro38 _ _ _ _ _ _ h
set_option maxRecDepth 100000 in
set_option maxHeartbeats 4000000 in
theorem tX11_began_b76 (l : Launch) (D : va_G) (cI cZ : ClassId) (ad q : Nat → Nat) (N : Nat) {p : Program} {e : Env} {s : State} {m : MethodId} {args : Array Value} {below : List Frame} {meth : Method} {c : Code} {K : Int32 → MM → Prop} (C : CX p s m args meth c cX11_began 6 RX11 (some .int) D cI cZ ad (AJ 9 q s.heap.size)) {ro23 : Int32 → Int32 → Int32 → Int32 → MM → Prop} (hro23 : ∀ (x1 : Int32) (x2 : Int32) (x3 : Int32) (x4 : Int32) (u : MM), ro23 x1 x2 x3 x4 u → JX p l e (rr 7 167) s m args below meth c D (AJ 9 q s.heap.size) 6 (MQ below ((QI D 9 q (entM q cI cZ) K) (AJ 9 q s.heap.size)) args s 0 0 (AJ 9 q s.heap.size)) 9 q (entM q cI cZ) u 23 [(0, .ref (q 0)), (1, .int x1), (2, .int x2), (3, .int x3), (4, .int x4)] []) {ro38 : Int32 → Int32 → Int32 → Int32 → Int32 → MM → Prop} (hro38 : ∀ (x1 : Int32) (x2 : Int32) (x3 : Int32) (x4 : Int32) (x5 : Int32) (u : MM), ro38 x1 x2 x3 x4 x5 u → JX p l e (rr 7 167) s m args below meth c D (AJ 9 q s.heap.size) 6 (MQ below ((QI D 9 q (entM q cI cZ) K) (AJ 9 q s.heap.size)) args s 0 0 (AJ 9 q s.heap.size)) 9 q (entM q cI cZ) u 38 [(0, .ref (q 0)), (1, .int x1), (2, .int x2), (3, .int x3), (4, .int x4), (5, .int x5)] []) : ∀ (x1 : Int32) (x2 : Int32) (x4 : Int32) (x5 : Int32) (s0 : Int32) (u : MM), wX11_began_b76 N K ro23 ro38 x1 x2 x4 x5 s0 u → JX p l e (rr 7 167) s m args below meth c D (AJ 9 q s.heap.size) 6 (MQ below ((QI D 9 q (entM q cI cZ) K) (AJ 9 q s.heap.size)) args s 0 0 (AJ 9 q s.heap.size)) 9 q (entM q cI cZ) u 76 [(0, .ref (q 0)), (1, .int x1), (2, .int x2), (4, .int x4), (5, .int x5)] [.int s0] := by
    intro x1 x2 x4 x5 s0 u h
    refine j_istore_n (lv' := [(3, .int s0), (0, .ref (q 0)), (1, .int x1), (2, .int x2), (4, .int x4), (5, .int x5)]) C dX11_began_76 (by decide) rfl ?_
    obtain ⟨y15, ey15⟩ : ∃ z : Int32, z = x2 + 1 := ⟨_, rfl⟩
    have h := h y15 ey15
    refine j_iinc (v := y15) (lv' := [(2, .int y15), (3, .int s0), (0, .ref (q 0)), (1, .int x1), (4, .int x4), (5, .int x5)]) C 3 dX11_began_77 rfl (by rw [ey15]; rfl) (by decide) rfl ?_
    refine j_sub (lv' := [(0, .ref (q 0)), (1, .int x1), (2, .int y15), (3, .int s0), (4, .int x4), (5, .int x5)]) [2, 3, 0, 1, 4, 5] rfl ?_
    exact tX11_began_b80 l D cI cZ ad q N C (hro23) (hro38) _ _ _ _ _ _ h
set_option maxRecDepth 100000 in
set_option maxHeartbeats 4000000 in
theorem tX11_began_b38 (l : Launch) (D : va_G) (cI cZ : ClassId) (ad q : Nat → Nat) (N : Nat) {p : Program} {e : Env} {s : State} {m : MethodId} {args : Array Value} {below : List Frame} {meth : Method} {c : Code} {K : Int32 → MM → Prop} (C : CX p s m args meth c cX11_began 6 RX11 (some .int) D cI cZ ad (AJ 9 q s.heap.size)) {ro23 : Int32 → Int32 → Int32 → Int32 → MM → Prop} (hro23 : ∀ (x1 : Int32) (x2 : Int32) (x3 : Int32) (x4 : Int32) (u : MM), ro23 x1 x2 x3 x4 u → JX p l e (rr 7 167) s m args below meth c D (AJ 9 q s.heap.size) 6 (MQ below ((QI D 9 q (entM q cI cZ) K) (AJ 9 q s.heap.size)) args s 0 0 (AJ 9 q s.heap.size)) 9 q (entM q cI cZ) u 23 [(0, .ref (q 0)), (1, .int x1), (2, .int x2), (3, .int x3), (4, .int x4)] []) : ∀ (n : Nat) (x1 : Int32) (x2 : Int32) (x3 : Int32) (x4 : Int32) (x5 : Int32) (u : MM), wX11_began_b38 N K ro23 n x1 x2 x3 x4 x5 u → JX p l e (rr 7 167) s m args below meth c D (AJ 9 q s.heap.size) 6 (MQ below ((QI D 9 q (entM q cI cZ) K) (AJ 9 q s.heap.size)) args s 0 0 (AJ 9 q s.heap.size)) 9 q (entM q cI cZ) u 38 [(0, .ref (q 0)), (1, .int x1), (2, .int x2), (3, .int x3), (4, .int x4), (5, .int x5)] [] := by
  intro n
  induction n with
  | zero => intro x1 x2 x3 x4 x5 u h; exact h.elim
  | succ n ih =>
    intro x1 x2 x3 x4 x5 u h
    refine j_iload C 5 dX11_began_38 rfl ?_
    refine j_bipush (v := 7) C dX11_began_40 (by decide) ?_
    refine j_icmp_ge C 90 dX11_began_42 (by decide) (fun c7 => ?_) (fun c7 => ?_)
    · have h := h.1 c7
      obtain ⟨y8, ey8⟩ : ∃ z : Int32, z = x4 + 1 := ⟨_, rfl⟩
      have h := h y8 ey8
      refine j_iinc (v := y8) (lv' := [(4, .int y8), (0, .ref (q 0)), (1, .int x1), (2, .int x2), (3, .int x3), (5, .int x5)]) C 4 dX11_began_90 rfl (by rw [ey8]; rfl) (by decide) rfl ?_
      refine j_goto C 23 dX11_began_93 (by decide) ?_
      refine j_sub (lv' := [(0, .ref (q 0)), (1, .int x1), (2, .int x2), (3, .int x3), (4, .int y8)]) [1, 2, 3, 4, 0] rfl ?_
      exact hro23 _ _ _ _ _ h
    · have h := h.2 c7
      refine j_aload_n C 0 dX11_began_45 rfl ?_
      refine j_iload C 4 dX11_began_46 rfl ?_
      refine j_iload C 5 dX11_began_48 rfl ?_
      refine j_wv C (fun H locs ls hP hD hS hl => run_V (Cn := "") (As := [.int x4, .int x5]) (st := []) C mf_X11_begins 0 (kX_X11_begins l D cI cZ ad q N h) q_769 (by decide) rfl rfl rfl rfl ⟨rfl, rfl, by decide, by decide⟩ (Nat.le_of_ble_eq_true rfl) dX11_began_50 hP hD hS hl) (fun u10 h => ?_)
      refine j_aload_n C 0 dX11_began_53 rfl ?_
      refine j_wi C (fun H locs ls hP hD hS hl => run_V (Cn := "") (As := []) (st := []) C mf_X11_isAsSeen 0 (kX_X11_isAsSeen l D cI cZ ad q N h) q_843 (by decide) rfl rfl rfl rfl ⟨rfl, rfl, by decide, by decide⟩ (Nat.le_of_ble_eq_true rfl) dX11_began_54 hP hD hS hl) (fun r11 u12 h => ?_)
      refine j_if_eq C 80 dX11_began_57 (by decide) (fun c13 => ?_) (fun c13 => ?_)
      · have h := h.1 c13
        exact tX11_began_b80 l D cI cZ ad q N C (hro23) ih _ _ _ _ _ _ h
      · have h := h.2 c13
        refine j_iload_n C 2 dX11_began_60 rfl ?_
        refine j_if_ne C 75 dX11_began_61 (by decide) (fun c14 => ?_) (fun c14 => ?_)
        · have h := h.1 c14
          refine j_iload_n C 3 dX11_began_75 rfl ?_
          refine j_sub (lv' := [(0, .ref (q 0)), (1, .int x1), (2, .int x2), (4, .int x4), (5, .int x5)]) [0, 1, 2, 4, 5] rfl ?_
          exact tX11_began_b76 l D cI cZ ad q N C (hro23) ih _ _ _ _ _ _ h
        · have h := h.2 c14
          refine j_bipush (v := 10) C dX11_began_64 (by decide) ?_
          refine j_iload C 4 dX11_began_66 rfl ?_
          refine j_imul C dX11_began_68 ?_
          refine j_iload C 5 dX11_began_69 rfl ?_
          refine j_iadd C dX11_began_71 ?_
          refine j_goto C 76 dX11_began_72 (by decide) ?_
          refine j_sub (lv' := [(0, .ref (q 0)), (1, .int x1), (2, .int x2), (4, .int x4), (5, .int x5)]) [0, 1, 2, 4, 5] rfl ?_
          exact tX11_began_b76 l D cI cZ ad q N C (hro23) ih _ _ _ _ _ _ h
set_option maxRecDepth 100000 in
set_option maxHeartbeats 4000000 in
theorem tX11_began_b23 (l : Launch) (D : va_G) (cI cZ : ClassId) (ad q : Nat → Nat) (N : Nat) {p : Program} {e : Env} {s : State} {m : MethodId} {args : Array Value} {below : List Frame} {meth : Method} {c : Code} {K : Int32 → MM → Prop} (C : CX p s m args meth c cX11_began 6 RX11 (some .int) D cI cZ ad (AJ 9 q s.heap.size)) : ∀ (n : Nat) (x1 : Int32) (x2 : Int32) (x3 : Int32) (x4 : Int32) (u : MM), wX11_began_b23 N K n x1 x2 x3 x4 u → JX p l e (rr 7 167) s m args below meth c D (AJ 9 q s.heap.size) 6 (MQ below ((QI D 9 q (entM q cI cZ) K) (AJ 9 q s.heap.size)) args s 0 0 (AJ 9 q s.heap.size)) 9 q (entM q cI cZ) u 23 [(0, .ref (q 0)), (1, .int x1), (2, .int x2), (3, .int x3), (4, .int x4)] [] := by
  intro n
  induction n with
  | zero => intro x1 x2 x3 x4 u h; exact h.elim
  | succ n ih =>
    intro x1 x2 x3 x4 u h
    refine j_iload C 4 dX11_began_23 rfl ?_
    refine j_aload_n C 0 dX11_began_25 rfl ?_
    refine j_get C 0 1 (ly_X11 C.2.2.2.2.2.2.2.1.1) q_636 rfl rfl (by decide) rfl rfl (by decide) rfl dX11_began_26 ?_
    refine j_bipush (v := 18) C dX11_began_29 (by decide) ?_
    refine j_ialoadK (N := 944) C 1 18 (by decide) (show ¬ ((18 : Int32) < 0 ∨ 944 ≤ (18 : Int32).toNatClampNeg) by decide) (by decide) rfl rfl dX11_began_31 ?_
    refine j_icmp_ge C 96 dX11_began_32 (by decide) (fun c5 => ?_) (fun c5 => ?_)
    · have h := h.1 c5
      refine j_iload_n C 1 dX11_began_96 rfl ?_
      refine j_if_ne C 104 dX11_began_97 (by decide) (fun c6 => ?_) (fun c6 => ?_)
      · have h := h.1 c6
        refine j_iload_n C 3 dX11_began_104 rfl ?_
        exact j_iret C dX11_began_105 h
      · have h := h.2 c6
        refine j_iload_n C 2 dX11_began_100 rfl ?_
        refine j_goto C 105 dX11_began_101 (by decide) ?_
        exact j_iret C dX11_began_105 h
    · have h := h.2 c5
      refine j_iconst (v := 0) C dX11_began_35 (by decide) ?_
      refine j_istore (lv' := [(5, .int 0), (0, .ref (q 0)), (1, .int x1), (2, .int x2), (3, .int x3), (4, .int x4)]) C dX11_began_36 (by decide) rfl ?_
      refine j_sub (lv' := [(0, .ref (q 0)), (1, .int x1), (2, .int x2), (3, .int x3), (4, .int x4), (5, .int 0)]) [1, 2, 3, 4, 5, 0] rfl ?_
      exact tX11_began_b38 l D cI cZ ad q N C ih N _ _ _ _ _ _ h
set_option maxRecDepth 100000 in
set_option maxHeartbeats 4000000 in
theorem kX_X11_began (l : Launch) (D : va_G) (cI cZ : ClassId) (ad q : Nat → Nat) (N : Nat) {x1 : Int32} {u : MM} {K : Int32 → MM → Prop} (h : wX11_began N x1 u K) : CT l D cI cZ ad 9 q (entM q cI cZ) yX11_began cX11_began 6 (some .int) (rr 7 167) [.ref (q 0), .int x1] u (QI D 9 q (entM q cI cZ) K) := by
    refine ct_of (by decide +kernel) (Nat.le_of_ble_eq_true rfl) (fun p e s m args below meth c C => ?_)
    refine j_sub (lv' := [(0, .ref (q 0)), (1, .int x1)]) [0, 1] rfl ?_
    refine j_iload_n C 1 dX11_began_0 rfl ?_
    refine j_iconst (v := 0) C dX11_began_1 (by decide) ?_
    refine j_iconst (v := 1) C dX11_began_2 (by decide) ?_
    refine j_ui C (fun H locs ls hP hD => run_S (As := [.int x1, .int 0, .int 1]) (st := []) C mf_X11_in (kX_X11_in l D cI cZ ad q N h) q_667 rfl rfl ⟨rfl, rfl, by decide, by decide⟩ (Nat.le_of_ble_eq_true rfl) dX11_began_3 hP hD) (fun r1 _ h => ?_)
    refine j_if_ne C 11 dX11_began_6 (by decide) (fun c2 => ?_) (fun c2 => ?_)
    · have h := h.1 c2
      refine j_iconst (v := 0) C dX11_began_11 (by decide) ?_
      refine j_istore_n (lv' := [(2, .int 0), (0, .ref (q 0)), (1, .int x1)]) C dX11_began_12 (by decide) rfl ?_
      refine j_bipush (v := (-5)) C dX11_began_13 (by decide) ?_
      refine j_istore_n (lv' := [(3, .int (-5)), (2, .int 0), (0, .ref (q 0)), (1, .int x1)]) C dX11_began_15 (by decide) rfl ?_
      refine j_aload_n C 2 dX11_began_16 rfl ?_
      refine j_wv C (fun H locs ls hP hD hS hl => run_V (Cn := "") (As := []) (st := []) C mf_X11_keeps 0 (kX_X11_keeps l D cI cZ ad q N h) q_811 (by decide) rfl rfl rfl rfl ⟨rfl, rfl, by decide, by decide⟩ (Nat.le_of_ble_eq_true rfl) dX11_began_17 hP hD hS hl) (fun u4 h => ?_)
      refine j_iconst (v := 0) C dX11_began_20 (by decide) ?_
      refine j_istore (lv' := [(4, .int 0), (3, .int (-5)), (2, .int 0), (0, .ref (q 0)), (1, .int x1)]) C dX11_began_21 (by decide) rfl ?_
      refine j_sub (lv' := [(0, .ref (q 0)), (1, .int x1), (2, .int 0), (3, .int (-5)), (4, .int 0)]) [3, 4, 2, 1, 0] rfl ?_
      exact tX11_began_b23 l D cI cZ ad q N C N _ _ _ _ _ h
    · have h := h.2 c2
      refine j_iconst (v := (-1)) C dX11_began_9 (by decide) ?_
      exact j_iret C dX11_began_10 h

def wX11_othersHeard (N : Nat) (x1 : Int32) (u : MM) (K : Int32 → MM → Prop) : Prop := (wX11_keeps N u (fun u2 => (wX11_ends N u2 (fun r3 u4 => (wX11_count1 N ((u4 1 2) &&& (((1 : Int32) <<< (x1 &&& 31)) ^^^ ((-1) : Int32))) (fun r5 => (wX11_goesBack N u4 (fun u7 => (K r5 u7)))))))))
set_option maxRecDepth 100000 in
set_option maxHeartbeats 4000000 in
theorem kX_X11_othersHeard (l : Launch) (D : va_G) (cI cZ : ClassId) (ad q : Nat → Nat) (N : Nat) {x1 : Int32} {u : MM} {K : Int32 → MM → Prop} (h : wX11_othersHeard N x1 u K) : CT l D cI cZ ad 9 q (entM q cI cZ) yX11_othersHeard cX11_othersHeard 3 (some .int) (rr 7 165) [.ref (q 0), .int x1] u (QI D 9 q (entM q cI cZ) K) := by
    refine ct_of (by decide +kernel) (Nat.le_of_ble_eq_true rfl) (fun p e s m args below meth c C => ?_)
    refine j_sub (lv' := [(0, .ref (q 0)), (1, .int x1)]) [0, 1] rfl ?_
    refine j_aload_n C 0 dX11_othersHeard_0 rfl ?_
    refine j_wv C (fun H locs ls hP hD hS hl => run_V (Cn := "") (As := []) (st := []) C mf_X11_keeps 0 (kX_X11_keeps l D cI cZ ad q N h) q_811 (by decide) rfl rfl rfl rfl ⟨rfl, rfl, by decide, by decide⟩ (Nat.le_of_ble_eq_true rfl) dX11_othersHeard_1 hP hD hS hl) (fun u2 h => ?_)
    refine j_aload_n C 0 dX11_othersHeard_4 rfl ?_
    refine j_wi C (fun H locs ls hP hD hS hl => run_V (Cn := "") (As := []) (st := []) C mf_X11_ends 0 (kX_X11_ends l D cI cZ ad q N h) q_814 (by decide) rfl rfl rfl rfl ⟨rfl, rfl, by decide, by decide⟩ (Nat.le_of_ble_eq_true rfl) dX11_othersHeard_5 hP hD hS hl) (fun r3 u4 h => ?_)
    refine j_pop C dX11_othersHeard_8 rfl ?_
    refine j_aload_n C 0 dX11_othersHeard_9 rfl ?_
    refine j_get C 0 1 (ly_X11 C.2.2.2.2.2.2.2.1.1) q_636 rfl rfl (by decide) rfl rfl (by decide) rfl dX11_othersHeard_10 ?_
    refine j_iconst (v := 2) C dX11_othersHeard_13 (by decide) ?_
    refine j_ialoadK (N := 944) C 1 2 (by decide) (show ¬ ((2 : Int32) < 0 ∨ 944 ≤ (2 : Int32).toNatClampNeg) by decide) (by decide) rfl rfl dX11_othersHeard_14 ?_
    refine j_iconst (v := 1) C dX11_othersHeard_15 (by decide) ?_
    refine j_iload_n C 1 dX11_othersHeard_16 rfl ?_
    refine j_ishl C dX11_othersHeard_17 ?_
    refine j_iconst (v := (-1)) C dX11_othersHeard_18 (by decide) ?_
    refine j_ixor C dX11_othersHeard_19 ?_
    refine j_iand C dX11_othersHeard_20 ?_
    refine j_ui C (fun H locs ls hP hD => run_S (As := [.int ((u4 1 2) &&& (((1 : Int32) <<< (x1 &&& 31)) ^^^ ((-1) : Int32)))]) (st := []) C mf_X11_count1 (kX_X11_count1 l D cI cZ ad q N h) q_747 rfl rfl ⟨rfl, rfl, by decide, by decide⟩ (Nat.le_of_ble_eq_true rfl) dX11_othersHeard_21 hP hD) (fun r5 _ h => ?_)
    refine j_istore_n (lv' := [(2, .int r5), (0, .ref (q 0)), (1, .int x1)]) C dX11_othersHeard_24 (by decide) rfl ?_
    refine j_aload_n C 1 dX11_othersHeard_25 rfl ?_
    refine j_wv C (fun H locs ls hP hD hS hl => run_V (Cn := "") (As := []) (st := []) C mf_X11_goesBack 0 (kX_X11_goesBack l D cI cZ ad q N h) q_817 (by decide) rfl rfl rfl rfl ⟨rfl, rfl, by decide, by decide⟩ (Nat.le_of_ble_eq_true rfl) dX11_othersHeard_26 hP hD hS hl) (fun u7 h => ?_)
    refine j_iload_n C 0 dX11_othersHeard_29 rfl ?_
    exact j_iret C dX11_othersHeard_30 h

def wX11_stops (N : Nat) (x1 : Int32) (u : MM) (K : Int32 → MM → Prop) : Prop := (wX11_isPerson N x1 u (fun r1 u2 => ((¬ r1 = 0 → (wX11_hasHeard N x1 u2 (fun r4 u5 => ((r4 = 0 → (wX11_othersHeard N x1 u5 (fun r7 u8 => (∀ u9 : MM, u9 = up u8 0 16 x1 → (wX11_othersHeard N x1 u9 (fun r10 u11 => (∀ u12 : MM, u12 = up u11 0 16 (-1) → (K (r7 - r10) u12)))))))) ∧ (¬ r4 = 0 → (K (-1002) u5)))))) ∧ (r1 = 0 → (K (-1001) u2)))))
set_option maxRecDepth 100000 in
set_option maxHeartbeats 4000000 in
theorem kX_X11_stops (l : Launch) (D : va_G) (cI cZ : ClassId) (ad q : Nat → Nat) (N : Nat) {x1 : Int32} {u : MM} {K : Int32 → MM → Prop} (h : wX11_stops N x1 u K) : CT l D cI cZ ad 9 q (entM q cI cZ) yX11_stops cX11_stops 4 (some .int) (rr 8 187) [.ref (q 0), .int x1] u (QI D 9 q (entM q cI cZ) K) := by
    refine ct_of (by decide +kernel) (Nat.le_of_ble_eq_true rfl) (fun p e s m args below meth c C => ?_)
    refine j_sub (lv' := [(0, .ref (q 0)), (1, .int x1)]) [0, 1] rfl ?_
    refine j_aload_n C 0 dX11_stops_0 rfl ?_
    refine j_iload_n C 1 dX11_stops_1 rfl ?_
    refine j_wi C (fun H locs ls hP hD hS hl => run_V (Cn := "") (As := [.int x1]) (st := []) C mf_X11_isPerson 0 (kX_X11_isPerson l D cI cZ ad q N h) q_720 (by decide) rfl rfl rfl rfl ⟨rfl, rfl, by decide, by decide⟩ (Nat.le_of_ble_eq_true rfl) dX11_stops_2 hP hD hS hl) (fun r1 u2 h => ?_)
    refine j_if_ne C 12 dX11_stops_5 (by decide) (fun c3 => ?_) (fun c3 => ?_)
    · have h := h.1 c3
      refine j_aload_n C 0 dX11_stops_12 rfl ?_
      refine j_iload_n C 1 dX11_stops_13 rfl ?_
      refine j_wi C (fun H locs ls hP hD hS hl => run_V (Cn := "") (As := [.int x1]) (st := []) C mf_X11_hasHeard 0 (kX_X11_hasHeard l D cI cZ ad q N h) q_723 (by decide) rfl rfl rfl rfl ⟨rfl, rfl, by decide, by decide⟩ (Nat.le_of_ble_eq_true rfl) dX11_stops_14 hP hD hS hl) (fun r4 u5 h => ?_)
      refine j_if_eq C 24 dX11_stops_17 (by decide) (fun c6 => ?_) (fun c6 => ?_)
      · have h := h.1 c6
        refine j_aload_n C 0 dX11_stops_24 rfl ?_
        refine j_iload_n C 1 dX11_stops_25 rfl ?_
        refine j_wi C (fun H locs ls hP hD hS hl => run_V (Cn := "") (As := [.int x1]) (st := []) C mf_X11_othersHeard 0 (kX_X11_othersHeard l D cI cZ ad q N h) q_850 (by decide) rfl rfl rfl rfl ⟨rfl, rfl, by decide, by decide⟩ (Nat.le_of_ble_eq_true rfl) dX11_stops_26 hP hD hS hl) (fun r7 u8 h => ?_)
        refine j_istore_n (lv' := [(2, .int r7), (0, .ref (q 0)), (1, .int x1)]) C dX11_stops_29 (by decide) rfl ?_
        refine j_aload_n C 1 dX11_stops_30 rfl ?_
        refine j_iload_n C 2 dX11_stops_31 rfl ?_
        refine j_put C 0 16 (ly_X11 C.2.2.2.2.2.2.2.1.1) q_651 rfl rfl (by decide) rfl rfl (by decide) tyX11_ok nmX11 rfl rfl ⟨rfl, rfl⟩ (Nat.le_of_ble_eq_true rfl) rfl dX11_stops_32 ?_
        refine j_nmu (fun u9 eu9 => ?_)
        have h := h u9 eu9
        refine j_aload_n C 1 dX11_stops_35 rfl ?_
        refine j_iload_n C 2 dX11_stops_36 rfl ?_
        refine j_wi C (fun H locs ls hP hD hS hl => run_V (Cn := "") (As := [.int x1]) (st := []) C mf_X11_othersHeard 0 (kX_X11_othersHeard l D cI cZ ad q N h) q_850 (by decide) rfl rfl rfl rfl ⟨rfl, rfl, by decide, by decide⟩ (Nat.le_of_ble_eq_true rfl) dX11_stops_37 hP hD hS hl) (fun r10 u11 h => ?_)
        refine j_istore_n (lv' := [(3, .int r10), (2, .int r7), (0, .ref (q 0)), (1, .int x1)]) C dX11_stops_40 (by decide) rfl ?_
        refine j_aload_n C 2 dX11_stops_41 rfl ?_
        refine j_iconst (v := (-1)) C dX11_stops_42 (by decide) ?_
        refine j_put C 0 16 (ly_X11 C.2.2.2.2.2.2.2.1.1) q_651 rfl rfl (by decide) rfl rfl (by decide) tyX11_ok nmX11 rfl rfl ⟨rfl, rfl⟩ (Nat.le_of_ble_eq_true rfl) rfl dX11_stops_43 ?_
        refine j_nmu (fun u12 eu12 => ?_)
        have h := h u12 eu12
        refine j_iload_n C 1 dX11_stops_46 rfl ?_
        refine j_iload_n C 0 dX11_stops_47 rfl ?_
        refine j_isub C dX11_stops_48 ?_
        exact j_iret C dX11_stops_49 h
      · have h := h.2 c6
        refine j_sipush (v := (-1002)) C dX11_stops_20 (by decide) ?_
        exact j_iret C dX11_stops_23 h
    · have h := h.2 c3
      refine j_sipush (v := (-1001)) C dX11_stops_8 (by decide) ?_
      exact j_iret C dX11_stops_11 h

def wX11_lowest_b6 (N : Nat) (K : Int64 → Prop) : Nat → Int64 → Int64 → Int32 → Int64 → Int64 → Prop
  | 0, _, _, _, _, _ => False
  | n + 1, x0, x2, x4, x5, x7 => (((lg_cmp x7 0) = 0 → ((¬ x4 = 0 → (¬ x5 = 0 ∧ (K (x2 / x5)))) ∧ (x4 = 0 → (¬ x5 = 0 ∧ (K (x0 / x5)))))) ∧ (¬ (lg_cmp x7 0) = 0 → (¬ x7 = 0 ∧ (∀ y3 : Int64, y3 = (x5 - x5 / x7 * x7) → (wX11_lowest_b6 N K n x0 x2 x4 x7 y3)))))
def wX11_lowest (N : Nat) (x0 : Int64) (x2 : Int64) (x4 : Int32) (K : Int64 → Prop) : Prop := (wX11_lowest_b6 N K N x0 x2 x4 x0 x2)
set_option maxRecDepth 100000 in
set_option maxHeartbeats 4000000 in
theorem tX11_lowest_b6 (l : Launch) (D : va_G) (cI cZ : ClassId) (ad q : Nat → Nat) (N : Nat) {p : Program} {e : Env} {s : State} {m : MethodId} {args : Array Value} {below : List Frame} {meth : Method} {c : Code} {K : Int64 → Prop} (C : CX p s m args meth c cX11_lowest 11 RX11 (some .long) D cI cZ ad (AJ 0 q s.heap.size)) : ∀ (n : Nat) (x0 : Int64) (x2 : Int64) (x4 : Int32) (x5 : Int64) (x7 : Int64), wX11_lowest_b6 N K n x0 x2 x4 x5 x7 → JX p l e (rr 0 0) s m args below meth c D (AJ 0 q s.heap.size) 11 (MQ below ((QL D 0 q (entM q cI cZ) (fun r _ => K r)) (AJ 0 q s.heap.size)) args s 0 0 (AJ 0 q s.heap.size)) 0 q (entM q cI cZ) u00 6 [(0, .long x0), (2, .long x2), (4, .int x4), (5, .long x5), (7, .long x7)] [] := by
  intro n
  induction n with
  | zero => intro x0 x2 x4 x5 x7 h; exact h.elim
  | succ n ih =>
    intro x0 x2 x4 x5 x7 h
    refine j_lload C 4 dX11_lowest_6 rfl ?_
    refine j_lconst (v := 0) C dX11_lowest_8 (by decide) ?_
    refine j_lcmp C dX11_lowest_9 ?_
    refine j_if_eq C 31 dX11_lowest_10 (by decide) (fun c1 => ?_) (fun c1 => ?_)
    · have h := h.1 c1
      refine j_iload C 2 dX11_lowest_31 rfl ?_
      refine j_if_ne C 40 dX11_lowest_33 (by decide) (fun c2 => ?_) (fun c2 => ?_)
      · have h := h.1 c2
        refine j_lload_n C 1 dX11_lowest_40 rfl ?_
        refine j_lload C 3 dX11_lowest_41 rfl ?_
        obtain ⟨hne, h⟩ := h
        refine j_ldiv C dX11_lowest_43 hne ?_
        exact j_lret (K := fun r _ => K r) C dX11_lowest_44 h
      · have h := h.2 c2
        refine j_lload_n C 0 dX11_lowest_36 rfl ?_
        refine j_goto C 41 dX11_lowest_37 (by decide) ?_
        refine j_lload C 3 dX11_lowest_41 rfl ?_
        obtain ⟨hne, h⟩ := h
        refine j_ldiv C dX11_lowest_43 hne ?_
        exact j_lret (K := fun r _ => K r) C dX11_lowest_44 h
    · have h := h.2 c1
      refine j_lload C 3 dX11_lowest_13 rfl ?_
      refine j_lload C 4 dX11_lowest_15 rfl ?_
      obtain ⟨hne, h⟩ := h
      refine j_lrem C dX11_lowest_17 hne ?_
      refine j_nml (fun y3 ey3 => ?_)
      have h := h y3 ey3
      refine j_lstore (lv' := [(9, .long y3), (0, .long x0), (2, .long x2), (4, .int x4), (5, .long x5), (7, .long x7)]) C dX11_lowest_18 (by decide) rfl ?_
      refine j_lload C 5 dX11_lowest_20 rfl ?_
      refine j_lstore (lv' := [(5, .long x7), (9, .long y3), (0, .long x0), (2, .long x2), (4, .int x4), (7, .long x7)]) C dX11_lowest_22 (by decide) rfl ?_
      refine j_lload C 1 dX11_lowest_24 rfl ?_
      refine j_lstore (lv' := [(7, .long y3), (5, .long x7), (9, .long y3), (0, .long x0), (2, .long x2), (4, .int x4)]) C dX11_lowest_26 (by decide) rfl ?_
      refine j_goto C 6 dX11_lowest_28 (by decide) ?_
      refine j_sub (lv' := [(0, .long x0), (2, .long x2), (4, .int x4), (5, .long x7), (7, .long y3)]) [3, 4, 5, 1, 0] rfl ?_
      exact ih _ _ _ _ _ h
set_option maxRecDepth 100000 in
set_option maxHeartbeats 4000000 in
theorem kX_X11_lowest (l : Launch) (D : va_G) (cI cZ : ClassId) (ad q : Nat → Nat) (N : Nat) {x0 : Int64} {x2 : Int64} {x4 : Int32} {K : Int64 → Prop} (h : wX11_lowest N x0 x2 x4 K) : CT l D cI cZ ad 0 q (entM q cI cZ) yX11_lowest cX11_lowest 11 (some .long) (rr 0 0) [.long x0, .long x2, .int x4] u00 (QL D 0 q (entM q cI cZ) (fun r _ => K r)) := by
    refine ct_of (by decide +kernel) (Nat.le_of_ble_eq_true rfl) (fun p e s m args below meth c C => ?_)
    refine j_sub (lv' := [(0, .long x0), (2, .long x2), (4, .int x4)]) [0, 1, 2] rfl ?_
    refine j_lload_n C 0 dX11_lowest_0 rfl ?_
    refine j_lstore (lv' := [(5, .long x0), (0, .long x0), (2, .long x2), (4, .int x4)]) C dX11_lowest_1 (by decide) rfl ?_
    refine j_lload_n C 2 dX11_lowest_3 rfl ?_
    refine j_lstore (lv' := [(7, .long x2), (5, .long x0), (0, .long x0), (2, .long x2), (4, .int x4)]) C dX11_lowest_4 (by decide) rfl ?_
    refine j_sub (lv' := [(0, .long x0), (2, .long x2), (4, .int x4), (5, .long x0), (7, .long x2)]) [2, 3, 4, 1, 0] rfl ?_
    exact tX11_lowest_b6 l D cI cZ ad q N C N _ _ _ _ _ h

def wX11_odds_b104 (N : Nat) (K : Int64 → MM → Prop) (ro52 : Int32 → Int32 → Int32 → Int64 → Int32 → MM → Prop) (x1 : Int32) (x2 : Int32) (x3 : Int32) (x4 : Int64) (x6 : Int32) (u : MM) : Prop := (∀ y24 : Int32, y24 = x6 + 1 → (ro52 x1 x2 x3 x4 y24 u))
def wX11_odds_b97 (N : Nat) (K : Int64 → MM → Prop) (ro52 : Int32 → Int32 → Int32 → Int64 → Int32 → MM → Prop) (x1 : Int32) (x2 : Int32) (x3 : Int32) (x6 : Int32) (s0 : Int64) (s1 : Int64) (u : MM) : Prop := (∀ y21 : Int64, y21 = (s1 + s0) → (wX11_goesBack N u (fun u23 => (wX11_odds_b104 N K ro52 x1 x2 x3 y21 x6 u23))))
def wX11_odds_b52 (N : Nat) (K : Int64 → MM → Prop) : Nat → Int32 → Int32 → Int32 → Int64 → Int32 → MM → Prop
  | 0, _, _, _, _, _, _ => False
  | n + 1, x1, x2, x3, x4, x6, u => (((u 1 18) ≤ x6 → (wX11_lowest N x4 ((Int32.toInt64 (u 1 18)) - 1) x3 (fun r12 => (K r12 u)))) ∧ (¬ (u 1 18) ≤ x6 → ((x6 = x1 → (wX11_odds_b104 N K (wX11_odds_b52 N K n) x1 x2 x3 x4 x6 u)) ∧ (¬ x6 = x1 → (wX11_begins N x6 x2 u (fun u15 => (wX11_ends N u15 (fun r16 u17 => (wX11_hasHeard N x1 u17 (fun r18 u19 => ((r18 = 0 → (wX11_odds_b97 N K (wX11_odds_b52 N K n) x1 x2 x3 x6 0 x4 u19)) ∧ (¬ r18 = 0 → (wX11_odds_b97 N K (wX11_odds_b52 N K n) x1 x2 x3 x6 1 x4 u19)))))))))))))
def wX11_odds (N : Nat) (x1 : Int32) (x2 : Int32) (x3 : Int32) (u : MM) (K : Int64 → MM → Prop) : Prop := (wX11_isPerson N x1 u (fun r1 u2 => ((r1 = 0 → (K (-9223372036854775808) u2)) ∧ (¬ r1 = 0 → (wX11_in N x2 0 9 (fun r4 => ((r4 = 0 → (K (-9223372036854775808) u2)) ∧ (¬ r4 = 0 → (wX11_in N x3 0 1 (fun r6 => ((r6 = 0 → (K (-9223372036854775808) u2)) ∧ (¬ r6 = 0 → ((¬ (u2 1 18) = 1 → (wX11_keeps N u2 (fun u10 => (wX11_odds_b52 N K N x1 x2 x3 0 0 u10)))) ∧ ((u2 1 18) = 1 → (K (-9223372036854775808) u2)))))))))))))))
set_option maxRecDepth 100000 in
set_option maxHeartbeats 4000000 in
theorem tX11_odds_b104 (l : Launch) (D : va_G) (cI cZ : ClassId) (ad q : Nat → Nat) (N : Nat) {p : Program} {e : Env} {s : State} {m : MethodId} {args : Array Value} {below : List Frame} {meth : Method} {c : Code} {K : Int64 → MM → Prop} (C : CX p s m args meth c cX11_odds 7 RX11 (some .long) D cI cZ ad (AJ 9 q s.heap.size)) {ro52 : Int32 → Int32 → Int32 → Int64 → Int32 → MM → Prop} (hro52 : ∀ (x1 : Int32) (x2 : Int32) (x3 : Int32) (x4 : Int64) (x6 : Int32) (u : MM), ro52 x1 x2 x3 x4 x6 u → JX p l e (rr 7 165) s m args below meth c D (AJ 9 q s.heap.size) 7 (MQ below ((QL D 9 q (entM q cI cZ) K) (AJ 9 q s.heap.size)) args s 0 0 (AJ 9 q s.heap.size)) 9 q (entM q cI cZ) u 52 [(0, .ref (q 0)), (1, .int x1), (2, .int x2), (3, .int x3), (4, .long x4), (6, .int x6)] []) : ∀ (x1 : Int32) (x2 : Int32) (x3 : Int32) (x4 : Int64) (x6 : Int32) (u : MM), wX11_odds_b104 N K ro52 x1 x2 x3 x4 x6 u → JX p l e (rr 7 165) s m args below meth c D (AJ 9 q s.heap.size) 7 (MQ below ((QL D 9 q (entM q cI cZ) K) (AJ 9 q s.heap.size)) args s 0 0 (AJ 9 q s.heap.size)) 9 q (entM q cI cZ) u 104 [(0, .ref (q 0)), (1, .int x1), (2, .int x2), (3, .int x3), (4, .long x4), (6, .int x6)] [] := by
    intro x1 x2 x3 x4 x6 u h
    obtain ⟨y24, ey24⟩ : ∃ z : Int32, z = x6 + 1 := ⟨_, rfl⟩
    have h := h y24 ey24
    refine j_iinc (v := y24) (lv' := [(6, .int y24), (0, .ref (q 0)), (1, .int x1), (2, .int x2), (3, .int x3), (4, .long x4)]) C 5 dX11_odds_104 rfl (by rw [ey24]; rfl) (by decide) rfl ?_
    refine j_goto C 52 dX11_odds_107 (by decide) ?_
    refine j_sub (lv' := [(0, .ref (q 0)), (1, .int x1), (2, .int x2), (3, .int x3), (4, .long x4), (6, .int y24)]) [1, 2, 3, 4, 5, 0] rfl ?_
    exact hro52 _ _ _ _ _ _ h
set_option maxRecDepth 100000 in
set_option maxHeartbeats 4000000 in
theorem tX11_odds_b97 (l : Launch) (D : va_G) (cI cZ : ClassId) (ad q : Nat → Nat) (N : Nat) {p : Program} {e : Env} {s : State} {m : MethodId} {args : Array Value} {below : List Frame} {meth : Method} {c : Code} {K : Int64 → MM → Prop} (C : CX p s m args meth c cX11_odds 7 RX11 (some .long) D cI cZ ad (AJ 9 q s.heap.size)) {ro52 : Int32 → Int32 → Int32 → Int64 → Int32 → MM → Prop} (hro52 : ∀ (x1 : Int32) (x2 : Int32) (x3 : Int32) (x4 : Int64) (x6 : Int32) (u : MM), ro52 x1 x2 x3 x4 x6 u → JX p l e (rr 7 165) s m args below meth c D (AJ 9 q s.heap.size) 7 (MQ below ((QL D 9 q (entM q cI cZ) K) (AJ 9 q s.heap.size)) args s 0 0 (AJ 9 q s.heap.size)) 9 q (entM q cI cZ) u 52 [(0, .ref (q 0)), (1, .int x1), (2, .int x2), (3, .int x3), (4, .long x4), (6, .int x6)] []) : ∀ (x1 : Int32) (x2 : Int32) (x3 : Int32) (x6 : Int32) (s0 : Int64) (s1 : Int64) (u : MM), wX11_odds_b97 N K ro52 x1 x2 x3 x6 s0 s1 u → JX p l e (rr 7 165) s m args below meth c D (AJ 9 q s.heap.size) 7 (MQ below ((QL D 9 q (entM q cI cZ) K) (AJ 9 q s.heap.size)) args s 0 0 (AJ 9 q s.heap.size)) 9 q (entM q cI cZ) u 97 [(0, .ref (q 0)), (1, .int x1), (2, .int x2), (3, .int x3), (6, .int x6)] [.long s0, .long s1] := by
    intro x1 x2 x3 x6 s0 s1 u h
    refine j_ladd C dX11_odds_97 ?_
    refine j_nml (fun y21 ey21 => ?_)
    have h := h y21 ey21
    refine j_lstore (lv' := [(4, .long y21), (0, .ref (q 0)), (1, .int x1), (2, .int x2), (3, .int x3), (6, .int x6)]) C dX11_odds_98 (by decide) rfl ?_
    refine j_aload_n C 1 dX11_odds_100 rfl ?_
    refine j_wv C (fun H locs ls hP hD hS hl => run_V (Cn := "") (As := []) (st := []) C mf_X11_goesBack 0 (kX_X11_goesBack l D cI cZ ad q N h) q_817 (by decide) rfl rfl rfl rfl ⟨rfl, rfl, by decide, by decide⟩ (Nat.le_of_ble_eq_true rfl) dX11_odds_101 hP hD hS hl) (fun u23 h => ?_)
    refine j_sub (lv' := [(0, .ref (q 0)), (1, .int x1), (2, .int x2), (3, .int x3), (4, .long y21), (6, .int x6)]) [1, 2, 3, 4, 0, 5] rfl ?_
    exact tX11_odds_b104 l D cI cZ ad q N C (hro52) _ _ _ _ _ _ h
set_option maxRecDepth 100000 in
set_option maxHeartbeats 4000000 in
theorem tX11_odds_b52 (l : Launch) (D : va_G) (cI cZ : ClassId) (ad q : Nat → Nat) (N : Nat) {p : Program} {e : Env} {s : State} {m : MethodId} {args : Array Value} {below : List Frame} {meth : Method} {c : Code} {K : Int64 → MM → Prop} (C : CX p s m args meth c cX11_odds 7 RX11 (some .long) D cI cZ ad (AJ 9 q s.heap.size)) : ∀ (n : Nat) (x1 : Int32) (x2 : Int32) (x3 : Int32) (x4 : Int64) (x6 : Int32) (u : MM), wX11_odds_b52 N K n x1 x2 x3 x4 x6 u → JX p l e (rr 7 165) s m args below meth c D (AJ 9 q s.heap.size) 7 (MQ below ((QL D 9 q (entM q cI cZ) K) (AJ 9 q s.heap.size)) args s 0 0 (AJ 9 q s.heap.size)) 9 q (entM q cI cZ) u 52 [(0, .ref (q 0)), (1, .int x1), (2, .int x2), (3, .int x3), (4, .long x4), (6, .int x6)] [] := by
  intro n
  induction n with
  | zero => intro x1 x2 x3 x4 x6 u h; exact h.elim
  | succ n ih =>
    intro x1 x2 x3 x4 x6 u h
    refine j_iload C 5 dX11_odds_52 rfl ?_
    refine j_aload_n C 0 dX11_odds_54 rfl ?_
    refine j_get C 0 1 (ly_X11 C.2.2.2.2.2.2.2.1.1) q_636 rfl rfl (by decide) rfl rfl (by decide) rfl dX11_odds_55 ?_
    refine j_bipush (v := 18) C dX11_odds_58 (by decide) ?_
    refine j_ialoadK (N := 944) C 1 18 (by decide) (show ¬ ((18 : Int32) < 0 ∨ 944 ≤ (18 : Int32).toNatClampNeg) by decide) (by decide) rfl rfl dX11_odds_60 ?_
    refine j_icmp_ge C 110 dX11_odds_61 (by decide) (fun c11 => ?_) (fun c11 => ?_)
    · have h := h.1 c11
      refine j_lload C 4 dX11_odds_110 rfl ?_
      refine j_aload_n C 0 dX11_odds_112 rfl ?_
      refine j_get C 0 1 (ly_X11 C.2.2.2.2.2.2.2.1.1) q_636 rfl rfl (by decide) rfl rfl (by decide) rfl dX11_odds_113 ?_
      refine j_bipush (v := 18) C dX11_odds_116 (by decide) ?_
      refine j_ialoadK (N := 944) C 1 18 (by decide) (show ¬ ((18 : Int32) < 0 ∨ 944 ≤ (18 : Int32).toNatClampNeg) by decide) (by decide) rfl rfl dX11_odds_118 ?_
      refine j_i2l C dX11_odds_119 ?_
      refine j_lconst (v := 1) C dX11_odds_120 (by decide) ?_
      refine j_lsub C dX11_odds_121 ?_
      refine j_iload_n C 3 dX11_odds_122 rfl ?_
      refine j_ul C (fun H locs ls hP hD => run_S (As := [.long x4, .long ((Int32.toInt64 (u 1 18)) - 1), .int x3]) (st := []) C mf_X11_lowest (kX_X11_lowest l D cI cZ ad q N h) q_857 rfl rfl ⟨rfl, rfl, by decide, by decide⟩ (Nat.le_of_ble_eq_true rfl) dX11_odds_123 hP hD) (fun r12 _ h => ?_)
      exact j_lret C dX11_odds_126 h
    · have h := h.2 c11
      refine j_iload C 5 dX11_odds_64 rfl ?_
      refine j_iload_n C 1 dX11_odds_66 rfl ?_
      refine j_icmp_eq C 104 dX11_odds_67 (by decide) (fun c13 => ?_) (fun c13 => ?_)
      · have h := h.1 c13
        exact tX11_odds_b104 l D cI cZ ad q N C ih _ _ _ _ _ _ h
      · have h := h.2 c13
        refine j_aload_n C 0 dX11_odds_70 rfl ?_
        refine j_iload C 5 dX11_odds_71 rfl ?_
        refine j_iload_n C 2 dX11_odds_73 rfl ?_
        refine j_wv C (fun H locs ls hP hD hS hl => run_V (Cn := "") (As := [.int x6, .int x2]) (st := []) C mf_X11_begins 0 (kX_X11_begins l D cI cZ ad q N h) q_769 (by decide) rfl rfl rfl rfl ⟨rfl, rfl, by decide, by decide⟩ (Nat.le_of_ble_eq_true rfl) dX11_odds_74 hP hD hS hl) (fun u15 h => ?_)
        refine j_aload_n C 0 dX11_odds_77 rfl ?_
        refine j_wi C (fun H locs ls hP hD hS hl => run_V (Cn := "") (As := []) (st := []) C mf_X11_ends 0 (kX_X11_ends l D cI cZ ad q N h) q_814 (by decide) rfl rfl rfl rfl ⟨rfl, rfl, by decide, by decide⟩ (Nat.le_of_ble_eq_true rfl) dX11_odds_78 hP hD hS hl) (fun r16 u17 h => ?_)
        refine j_pop C dX11_odds_81 rfl ?_
        refine j_lload C 4 dX11_odds_82 rfl ?_
        refine j_aload_n C 0 dX11_odds_84 rfl ?_
        refine j_iload_n C 1 dX11_odds_85 rfl ?_
        refine j_wi C (fun H locs ls hP hD hS hl => run_V (Cn := "") (As := [.int x1]) (st := [.long x4]) C mf_X11_hasHeard 0 (kX_X11_hasHeard l D cI cZ ad q N h) q_723 (by decide) rfl rfl rfl rfl ⟨rfl, rfl, by decide, by decide⟩ (Nat.le_of_ble_eq_true rfl) dX11_odds_86 hP hD hS hl) (fun r18 u19 h => ?_)
        refine j_if_eq C 96 dX11_odds_89 (by decide) (fun c20 => ?_) (fun c20 => ?_)
        · have h := h.1 c20
          refine j_lconst (v := 0) C dX11_odds_96 (by decide) ?_
          refine j_sub (lv' := [(0, .ref (q 0)), (1, .int x1), (2, .int x2), (3, .int x3), (6, .int x6)]) [0, 1, 2, 3, 5] rfl ?_
          exact tX11_odds_b97 l D cI cZ ad q N C ih _ _ _ _ _ _ _ h
        · have h := h.2 c20
          refine j_lconst (v := 1) C dX11_odds_92 (by decide) ?_
          refine j_goto C 97 dX11_odds_93 (by decide) ?_
          refine j_sub (lv' := [(0, .ref (q 0)), (1, .int x1), (2, .int x2), (3, .int x3), (6, .int x6)]) [0, 1, 2, 3, 5] rfl ?_
          exact tX11_odds_b97 l D cI cZ ad q N C ih _ _ _ _ _ _ _ h
set_option maxRecDepth 100000 in
set_option maxHeartbeats 4000000 in
theorem kX_X11_odds (l : Launch) (D : va_G) (cI cZ : ClassId) (ad q : Nat → Nat) (N : Nat) {x1 : Int32} {x2 : Int32} {x3 : Int32} {u : MM} {K : Int64 → MM → Prop} (h : wX11_odds N x1 x2 x3 u K) : CT l D cI cZ ad 9 q (entM q cI cZ) yX11_odds cX11_odds 7 (some .long) (rr 7 165) [.ref (q 0), .int x1, .int x2, .int x3] u (QL D 9 q (entM q cI cZ) K) := by
    refine ct_of (by decide +kernel) (Nat.le_of_ble_eq_true rfl) (fun p e s m args below meth c C => ?_)
    refine j_sub (lv' := [(0, .ref (q 0)), (1, .int x1), (2, .int x2), (3, .int x3)]) [0, 1, 2, 3] rfl ?_
    refine j_aload_n C 0 dX11_odds_0 rfl ?_
    refine j_iload_n C 1 dX11_odds_1 rfl ?_
    refine j_wi C (fun H locs ls hP hD hS hl => run_V (Cn := "") (As := [.int x1]) (st := []) C mf_X11_isPerson 0 (kX_X11_isPerson l D cI cZ ad q N h) q_720 (by decide) rfl rfl rfl rfl ⟨rfl, rfl, by decide, by decide⟩ (Nat.le_of_ble_eq_true rfl) dX11_odds_2 hP hD hS hl) (fun r1 u2 h => ?_)
    refine j_if_eq C 38 dX11_odds_5 (by decide) (fun c3 => ?_) (fun c3 => ?_)
    · have h := h.1 c3
      refine j_ldc2 C (-9223372036854775808) q_801 dX11_odds_38 ?_
      exact j_lret C dX11_odds_41 h
    · have h := h.2 c3
      refine j_iload_n C 2 dX11_odds_8 rfl ?_
      refine j_iconst (v := 0) C dX11_odds_9 (by decide) ?_
      refine j_bipush (v := 9) C dX11_odds_10 (by decide) ?_
      refine j_ui C (fun H locs ls hP hD => run_S (As := [.int x2, .int 0, .int 9]) (st := []) C mf_X11_in (kX_X11_in l D cI cZ ad q N h) q_667 rfl rfl ⟨rfl, rfl, by decide, by decide⟩ (Nat.le_of_ble_eq_true rfl) dX11_odds_12 hP hD) (fun r4 _ h => ?_)
      refine j_if_eq C 38 dX11_odds_15 (by decide) (fun c5 => ?_) (fun c5 => ?_)
      · have h := h.1 c5
        refine j_ldc2 C (-9223372036854775808) q_801 dX11_odds_38 ?_
        exact j_lret C dX11_odds_41 h
      · have h := h.2 c5
        refine j_iload_n C 3 dX11_odds_18 rfl ?_
        refine j_iconst (v := 0) C dX11_odds_19 (by decide) ?_
        refine j_iconst (v := 1) C dX11_odds_20 (by decide) ?_
        refine j_ui C (fun H locs ls hP hD => run_S (As := [.int x3, .int 0, .int 1]) (st := []) C mf_X11_in (kX_X11_in l D cI cZ ad q N h) q_667 rfl rfl ⟨rfl, rfl, by decide, by decide⟩ (Nat.le_of_ble_eq_true rfl) dX11_odds_21 hP hD) (fun r6 _ h => ?_)
        refine j_if_eq C 38 dX11_odds_24 (by decide) (fun c7 => ?_) (fun c7 => ?_)
        · have h := h.1 c7
          refine j_ldc2 C (-9223372036854775808) q_801 dX11_odds_38 ?_
          exact j_lret C dX11_odds_41 h
        · have h := h.2 c7
          refine j_aload_n C 0 dX11_odds_27 rfl ?_
          refine j_get C 0 1 (ly_X11 C.2.2.2.2.2.2.2.1.1) q_636 rfl rfl (by decide) rfl rfl (by decide) rfl dX11_odds_28 ?_
          refine j_bipush (v := 18) C dX11_odds_31 (by decide) ?_
          refine j_ialoadK (N := 944) C 1 18 (by decide) (show ¬ ((18 : Int32) < 0 ∨ 944 ≤ (18 : Int32).toNatClampNeg) by decide) (by decide) rfl rfl dX11_odds_33 ?_
          refine j_iconst (v := 1) C dX11_odds_34 (by decide) ?_
          refine j_icmp_ne C 42 dX11_odds_35 (by decide) (fun c8 => ?_) (fun c8 => ?_)
          · have h := h.1 c8
            refine j_lconst (v := 0) C dX11_odds_42 (by decide) ?_
            refine j_lstore (lv' := [(4, .long 0), (0, .ref (q 0)), (1, .int x1), (2, .int x2), (3, .int x3)]) C dX11_odds_43 (by decide) rfl ?_
            refine j_aload_n C 1 dX11_odds_45 rfl ?_
            refine j_wv C (fun H locs ls hP hD hS hl => run_V (Cn := "") (As := []) (st := []) C mf_X11_keeps 0 (kX_X11_keeps l D cI cZ ad q N h) q_811 (by decide) rfl rfl rfl rfl ⟨rfl, rfl, by decide, by decide⟩ (Nat.le_of_ble_eq_true rfl) dX11_odds_46 hP hD hS hl) (fun u10 h => ?_)
            refine j_iconst (v := 0) C dX11_odds_49 (by decide) ?_
            refine j_istore (lv' := [(6, .int 0), (4, .long 0), (0, .ref (q 0)), (1, .int x1), (2, .int x2), (3, .int x3)]) C dX11_odds_50 (by decide) rfl ?_
            refine j_sub (lv' := [(0, .ref (q 0)), (1, .int x1), (2, .int x2), (3, .int x3), (4, .long 0), (6, .int 0)]) [2, 3, 4, 5, 1, 0] rfl ?_
            exact tX11_odds_b52 l D cI cZ ad q N C N _ _ _ _ _ _ h
          · have h := h.2 c8
            refine j_ldc2 C (-9223372036854775808) q_801 dX11_odds_38 ?_
            exact j_lret C dX11_odds_41 h

def wX11_mean_b42 (N : Nat) (K : Int64 → MM → Prop) : Nat → Int32 → Int32 → Int64 → Int32 → MM → Prop
  | 0, _, _, _, _, _ => False
  | n + 1, x1, x2, x3, x5, u => (((u 1 18) ≤ x5 → (wX11_lowest N x3 (Int32.toInt64 (u 1 18)) x2 (fun r9 => (K r9 u)))) ∧ (¬ (u 1 18) ≤ x5 → (wX11_begins N x5 x1 u (fun u11 => (wX11_ends N u11 (fun r12 u13 => (∀ y14 : Int64, y14 = (x3 + (Int32.toInt64 (u13 1 1))) → (wX11_goesBack N u13 (fun u16 => (∀ y17 : Int32, y17 = x5 + 1 → (wX11_mean_b42 N K n x1 x2 y14 y17 u16)))))))))))
def wX11_mean (N : Nat) (x1 : Int32) (x2 : Int32) (u : MM) (K : Int64 → MM → Prop) : Prop := (wX11_in N x1 0 9 (fun r1 => ((r1 = 0 → (K (-9223372036854775808) u)) ∧ (¬ r1 = 0 → (wX11_in N x2 0 1 (fun r3 => ((r3 = 0 → (K (-9223372036854775808) u)) ∧ (¬ r3 = 0 → ((¬ (u 1 18) = 0 → (wX11_keeps N u (fun u7 => (wX11_mean_b42 N K N x1 x2 0 0 u7)))) ∧ ((u 1 18) = 0 → (K (-9223372036854775808) u)))))))))))
set_option maxRecDepth 100000 in
set_option maxHeartbeats 4000000 in
theorem tX11_mean_b42 (l : Launch) (D : va_G) (cI cZ : ClassId) (ad q : Nat → Nat) (N : Nat) {p : Program} {e : Env} {s : State} {m : MethodId} {args : Array Value} {below : List Frame} {meth : Method} {c : Code} {K : Int64 → MM → Prop} (C : CX p s m args meth c cX11_mean 6 RX11 (some .long) D cI cZ ad (AJ 9 q s.heap.size)) : ∀ (n : Nat) (x1 : Int32) (x2 : Int32) (x3 : Int64) (x5 : Int32) (u : MM), wX11_mean_b42 N K n x1 x2 x3 x5 u → JX p l e (rr 7 165) s m args below meth c D (AJ 9 q s.heap.size) 6 (MQ below ((QL D 9 q (entM q cI cZ) K) (AJ 9 q s.heap.size)) args s 0 0 (AJ 9 q s.heap.size)) 9 q (entM q cI cZ) u 42 [(0, .ref (q 0)), (1, .int x1), (2, .int x2), (3, .long x3), (5, .int x5)] [] := by
  intro n
  induction n with
  | zero => intro x1 x2 x3 x5 u h; exact h.elim
  | succ n ih =>
    intro x1 x2 x3 x5 u h
    refine j_iload C 4 dX11_mean_42 rfl ?_
    refine j_aload_n C 0 dX11_mean_44 rfl ?_
    refine j_get C 0 1 (ly_X11 C.2.2.2.2.2.2.2.1.1) q_636 rfl rfl (by decide) rfl rfl (by decide) rfl dX11_mean_45 ?_
    refine j_bipush (v := 18) C dX11_mean_48 (by decide) ?_
    refine j_ialoadK (N := 944) C 1 18 (by decide) (show ¬ ((18 : Int32) < 0 ∨ 944 ≤ (18 : Int32).toNatClampNeg) by decide) (by decide) rfl rfl dX11_mean_50 ?_
    refine j_icmp_ge C 86 dX11_mean_51 (by decide) (fun c8 => ?_) (fun c8 => ?_)
    · have h := h.1 c8
      refine j_lload_n C 3 dX11_mean_86 rfl ?_
      refine j_aload_n C 0 dX11_mean_87 rfl ?_
      refine j_get C 0 1 (ly_X11 C.2.2.2.2.2.2.2.1.1) q_636 rfl rfl (by decide) rfl rfl (by decide) rfl dX11_mean_88 ?_
      refine j_bipush (v := 18) C dX11_mean_91 (by decide) ?_
      refine j_ialoadK (N := 944) C 1 18 (by decide) (show ¬ ((18 : Int32) < 0 ∨ 944 ≤ (18 : Int32).toNatClampNeg) by decide) (by decide) rfl rfl dX11_mean_93 ?_
      refine j_i2l C dX11_mean_94 ?_
      refine j_iload_n C 2 dX11_mean_95 rfl ?_
      refine j_ul C (fun H locs ls hP hD => run_S (As := [.long x3, .long (Int32.toInt64 (u 1 18)), .int x2]) (st := []) C mf_X11_lowest (kX_X11_lowest l D cI cZ ad q N h) q_857 rfl rfl ⟨rfl, rfl, by decide, by decide⟩ (Nat.le_of_ble_eq_true rfl) dX11_mean_96 hP hD) (fun r9 _ h => ?_)
      exact j_lret C dX11_mean_99 h
    · have h := h.2 c8
      refine j_aload_n C 0 dX11_mean_54 rfl ?_
      refine j_iload C 4 dX11_mean_55 rfl ?_
      refine j_iload_n C 1 dX11_mean_57 rfl ?_
      refine j_wv C (fun H locs ls hP hD hS hl => run_V (Cn := "") (As := [.int x5, .int x1]) (st := []) C mf_X11_begins 0 (kX_X11_begins l D cI cZ ad q N h) q_769 (by decide) rfl rfl rfl rfl ⟨rfl, rfl, by decide, by decide⟩ (Nat.le_of_ble_eq_true rfl) dX11_mean_58 hP hD hS hl) (fun u11 h => ?_)
      refine j_aload_n C 0 dX11_mean_61 rfl ?_
      refine j_wi C (fun H locs ls hP hD hS hl => run_V (Cn := "") (As := []) (st := []) C mf_X11_ends 0 (kX_X11_ends l D cI cZ ad q N h) q_814 (by decide) rfl rfl rfl rfl ⟨rfl, rfl, by decide, by decide⟩ (Nat.le_of_ble_eq_true rfl) dX11_mean_62 hP hD hS hl) (fun r12 u13 h => ?_)
      refine j_pop C dX11_mean_65 rfl ?_
      refine j_lload_n C 3 dX11_mean_66 rfl ?_
      refine j_aload_n C 0 dX11_mean_67 rfl ?_
      refine j_get C 0 1 (ly_X11 C.2.2.2.2.2.2.2.1.1) q_636 rfl rfl (by decide) rfl rfl (by decide) rfl dX11_mean_68 ?_
      refine j_iconst (v := 1) C dX11_mean_71 (by decide) ?_
      refine j_ialoadK (N := 944) C 1 1 (by decide) (show ¬ ((1 : Int32) < 0 ∨ 944 ≤ (1 : Int32).toNatClampNeg) by decide) (by decide) rfl rfl dX11_mean_72 ?_
      refine j_i2l C dX11_mean_73 ?_
      refine j_ladd C dX11_mean_74 ?_
      refine j_nml (fun y14 ey14 => ?_)
      have h := h y14 ey14
      refine j_lstore_n (lv' := [(3, .long y14), (0, .ref (q 0)), (1, .int x1), (2, .int x2), (5, .int x5)]) C dX11_mean_75 (by decide) rfl ?_
      refine j_aload_n C 1 dX11_mean_76 rfl ?_
      refine j_wv C (fun H locs ls hP hD hS hl => run_V (Cn := "") (As := []) (st := []) C mf_X11_goesBack 0 (kX_X11_goesBack l D cI cZ ad q N h) q_817 (by decide) rfl rfl rfl rfl ⟨rfl, rfl, by decide, by decide⟩ (Nat.le_of_ble_eq_true rfl) dX11_mean_77 hP hD hS hl) (fun u16 h => ?_)
      obtain ⟨y17, ey17⟩ : ∃ z : Int32, z = x5 + 1 := ⟨_, rfl⟩
      have h := h y17 ey17
      refine j_iinc (v := y17) (lv' := [(5, .int y17), (3, .long y14), (0, .ref (q 0)), (1, .int x1), (2, .int x2)]) C 4 dX11_mean_80 rfl (by rw [ey17]; rfl) (by decide) rfl ?_
      refine j_goto C 42 dX11_mean_83 (by decide) ?_
      refine j_sub (lv' := [(0, .ref (q 0)), (1, .int x1), (2, .int x2), (3, .long y14), (5, .int y17)]) [2, 3, 4, 1, 0] rfl ?_
      exact ih _ _ _ _ _ h
set_option maxRecDepth 100000 in
set_option maxHeartbeats 4000000 in
theorem kX_X11_mean (l : Launch) (D : va_G) (cI cZ : ClassId) (ad q : Nat → Nat) (N : Nat) {x1 : Int32} {x2 : Int32} {u : MM} {K : Int64 → MM → Prop} (h : wX11_mean N x1 x2 u K) : CT l D cI cZ ad 9 q (entM q cI cZ) yX11_mean cX11_mean 6 (some .long) (rr 7 165) [.ref (q 0), .int x1, .int x2] u (QL D 9 q (entM q cI cZ) K) := by
    refine ct_of (by decide +kernel) (Nat.le_of_ble_eq_true rfl) (fun p e s m args below meth c C => ?_)
    refine j_sub (lv' := [(0, .ref (q 0)), (1, .int x1), (2, .int x2)]) [0, 1, 2] rfl ?_
    refine j_iload_n C 1 dX11_mean_0 rfl ?_
    refine j_iconst (v := 0) C dX11_mean_1 (by decide) ?_
    refine j_bipush (v := 9) C dX11_mean_2 (by decide) ?_
    refine j_ui C (fun H locs ls hP hD => run_S (As := [.int x1, .int 0, .int 9]) (st := []) C mf_X11_in (kX_X11_in l D cI cZ ad q N h) q_667 rfl rfl ⟨rfl, rfl, by decide, by decide⟩ (Nat.le_of_ble_eq_true rfl) dX11_mean_4 hP hD) (fun r1 _ h => ?_)
    refine j_if_eq C 29 dX11_mean_7 (by decide) (fun c2 => ?_) (fun c2 => ?_)
    · have h := h.1 c2
      refine j_ldc2 C (-9223372036854775808) q_801 dX11_mean_29 ?_
      exact j_lret C dX11_mean_32 h
    · have h := h.2 c2
      refine j_iload_n C 2 dX11_mean_10 rfl ?_
      refine j_iconst (v := 0) C dX11_mean_11 (by decide) ?_
      refine j_iconst (v := 1) C dX11_mean_12 (by decide) ?_
      refine j_ui C (fun H locs ls hP hD => run_S (As := [.int x2, .int 0, .int 1]) (st := []) C mf_X11_in (kX_X11_in l D cI cZ ad q N h) q_667 rfl rfl ⟨rfl, rfl, by decide, by decide⟩ (Nat.le_of_ble_eq_true rfl) dX11_mean_13 hP hD) (fun r3 _ h => ?_)
      refine j_if_eq C 29 dX11_mean_16 (by decide) (fun c4 => ?_) (fun c4 => ?_)
      · have h := h.1 c4
        refine j_ldc2 C (-9223372036854775808) q_801 dX11_mean_29 ?_
        exact j_lret C dX11_mean_32 h
      · have h := h.2 c4
        refine j_aload_n C 0 dX11_mean_19 rfl ?_
        refine j_get C 0 1 (ly_X11 C.2.2.2.2.2.2.2.1.1) q_636 rfl rfl (by decide) rfl rfl (by decide) rfl dX11_mean_20 ?_
        refine j_bipush (v := 18) C dX11_mean_23 (by decide) ?_
        refine j_ialoadK (N := 944) C 1 18 (by decide) (show ¬ ((18 : Int32) < 0 ∨ 944 ≤ (18 : Int32).toNatClampNeg) by decide) (by decide) rfl rfl dX11_mean_25 ?_
        refine j_if_ne C 33 dX11_mean_26 (by decide) (fun c5 => ?_) (fun c5 => ?_)
        · have h := h.1 c5
          refine j_lconst (v := 0) C dX11_mean_33 (by decide) ?_
          refine j_lstore_n (lv' := [(3, .long 0), (0, .ref (q 0)), (1, .int x1), (2, .int x2)]) C dX11_mean_34 (by decide) rfl ?_
          refine j_aload_n C 1 dX11_mean_35 rfl ?_
          refine j_wv C (fun H locs ls hP hD hS hl => run_V (Cn := "") (As := []) (st := []) C mf_X11_keeps 0 (kX_X11_keeps l D cI cZ ad q N h) q_811 (by decide) rfl rfl rfl rfl ⟨rfl, rfl, by decide, by decide⟩ (Nat.le_of_ble_eq_true rfl) dX11_mean_36 hP hD hS hl) (fun u7 h => ?_)
          refine j_iconst (v := 0) C dX11_mean_39 (by decide) ?_
          refine j_istore (lv' := [(5, .int 0), (3, .long 0), (0, .ref (q 0)), (1, .int x1), (2, .int x2)]) C dX11_mean_40 (by decide) rfl ?_
          refine j_sub (lv' := [(0, .ref (q 0)), (1, .int x1), (2, .int x2), (3, .long 0), (5, .int 0)]) [2, 3, 4, 1, 0] rfl ?_
          exact tX11_mean_b42 l D cI cZ ad q N C N _ _ _ _ _ h
        · have h := h.2 c5
          refine j_ldc2 C (-9223372036854775808) q_801 dX11_mean_29 ?_
          exact j_lret C dX11_mean_32 h

def wX11_book (N : Nat) (x1 : Int32) (x2 : Int32) (u : MM) (K : Int32 → MM → Prop) : Prop := ((¬ x1 = (-1) → (wX11_isPerson N x1 u (fun r2 u3 => ((¬ r2 = 0 → (wX11_in N x2 0 999 (fun r5 => ((¬ r5 = 0 → ((¬ (u3 1 21) = 8 → (vp_in ((113 + (u3 1 21))) 944 ∧ ∀ u8 : MM, u8 = up u3 1 ((113 + (u3 1 21)).toNatClampNeg) x1 → (vp_in ((121 + (u8 1 21))) 944 ∧ ∀ u9 : MM, u9 = up u8 1 ((121 + (u8 1 21)).toNatClampNeg) x2 → (∀ u10 : MM, u10 = up u9 1 21 ((u9 1 21) + 1) → (K (u10 1 21) u10))))) ∧ ((u3 1 21) = 8 → (K (-4) u3)))) ∧ (r5 = 0 → (K (-2) u3)))))) ∧ (r2 = 0 → (K (-1) u3)))))) ∧ (x1 = (-1) → (∀ u11 : MM, u11 = up u 1 21 0 → (K 0 u11))))
set_option maxRecDepth 100000 in
set_option maxHeartbeats 4000000 in
theorem kX_X11_book (l : Launch) (D : va_G) (cI cZ : ClassId) (ad q : Nat → Nat) (N : Nat) {x1 : Int32} {x2 : Int32} {u : MM} {K : Int32 → MM → Prop} (h : wX11_book N x1 x2 u K) : CT l D cI cZ ad 9 q (entM q cI cZ) yX11_book cX11_book 3 (some .int) (rr 2 43) [.ref (q 0), .int x1, .int x2] u (QI D 9 q (entM q cI cZ) K) := by
    refine ct_of (by decide +kernel) (Nat.le_of_ble_eq_true rfl) (fun p e s m args below meth c C => ?_)
    refine j_sub (lv' := [(0, .ref (q 0)), (1, .int x1), (2, .int x2)]) [0, 1, 2] rfl ?_
    refine j_iload_n C 1 dX11_book_0 rfl ?_
    refine j_iconst (v := (-1)) C dX11_book_1 (by decide) ?_
    refine j_icmp_ne C 15 dX11_book_2 (by decide) (fun c1 => ?_) (fun c1 => ?_)
    · have h := h.1 c1
      refine j_aload_n C 0 dX11_book_15 rfl ?_
      refine j_iload_n C 1 dX11_book_16 rfl ?_
      refine j_wi C (fun H locs ls hP hD hS hl => run_V (Cn := "") (As := [.int x1]) (st := []) C mf_X11_isPerson 0 (kX_X11_isPerson l D cI cZ ad q N h) q_720 (by decide) rfl rfl rfl rfl ⟨rfl, rfl, by decide, by decide⟩ (Nat.le_of_ble_eq_true rfl) dX11_book_17 hP hD hS hl) (fun r2 u3 h => ?_)
      refine j_if_ne C 25 dX11_book_20 (by decide) (fun c4 => ?_) (fun c4 => ?_)
      · have h := h.1 c4
        refine j_iload_n C 2 dX11_book_25 rfl ?_
        refine j_iconst (v := 0) C dX11_book_26 (by decide) ?_
        refine j_sipush (v := 999) C dX11_book_27 (by decide) ?_
        refine j_ui C (fun H locs ls hP hD => run_S (As := [.int x2, .int 0, .int 999]) (st := []) C mf_X11_in (kX_X11_in l D cI cZ ad q N h) q_667 rfl rfl ⟨rfl, rfl, by decide, by decide⟩ (Nat.le_of_ble_eq_true rfl) dX11_book_30 hP hD) (fun r5 _ h => ?_)
        refine j_if_ne C 39 dX11_book_33 (by decide) (fun c6 => ?_) (fun c6 => ?_)
        · have h := h.1 c6
          refine j_aload_n C 0 dX11_book_39 rfl ?_
          refine j_get C 0 1 (ly_X11 C.2.2.2.2.2.2.2.1.1) q_636 rfl rfl (by decide) rfl rfl (by decide) rfl dX11_book_40 ?_
          refine j_bipush (v := 21) C dX11_book_43 (by decide) ?_
          refine j_ialoadK (N := 944) C 1 21 (by decide) (show ¬ ((21 : Int32) < 0 ∨ 944 ≤ (21 : Int32).toNatClampNeg) by decide) (by decide) rfl rfl dX11_book_45 ?_
          refine j_bipush (v := 8) C dX11_book_46 (by decide) ?_
          refine j_icmp_ne C 54 dX11_book_48 (by decide) (fun c7 => ?_) (fun c7 => ?_)
          · have h := h.1 c7
            refine j_aload_n C 0 dX11_book_54 rfl ?_
            refine j_get C 0 1 (ly_X11 C.2.2.2.2.2.2.2.1.1) q_636 rfl rfl (by decide) rfl rfl (by decide) rfl dX11_book_55 ?_
            refine j_bipush (v := 113) C dX11_book_58 (by decide) ?_
            refine j_aload_n C 0 dX11_book_60 rfl ?_
            refine j_get C 0 1 (ly_X11 C.2.2.2.2.2.2.2.1.1) q_636 rfl rfl (by decide) rfl rfl (by decide) rfl dX11_book_61 ?_
            refine j_bipush (v := 21) C dX11_book_64 (by decide) ?_
            refine j_ialoadK (N := 944) C 1 21 (by decide) (show ¬ ((21 : Int32) < 0 ∨ 944 ≤ (21 : Int32).toNatClampNeg) by decide) (by decide) rfl rfl dX11_book_66 ?_
            refine j_iadd C dX11_book_67 ?_
            refine j_iload_n C 1 dX11_book_68 rfl ?_
            obtain ⟨hin, h⟩ := h
            refine j_iastoreK (N := 944) C 1 _ rfl hin (by decide) (fun _ => rfl) rfl dX11_book_69 (fun u8 eu8 => ?_)
            have h := h u8 eu8
            refine j_aload_n C 0 dX11_book_70 rfl ?_
            refine j_get C 0 1 (ly_X11 C.2.2.2.2.2.2.2.1.1) q_636 rfl rfl (by decide) rfl rfl (by decide) rfl dX11_book_71 ?_
            refine j_bipush (v := 121) C dX11_book_74 (by decide) ?_
            refine j_aload_n C 0 dX11_book_76 rfl ?_
            refine j_get C 0 1 (ly_X11 C.2.2.2.2.2.2.2.1.1) q_636 rfl rfl (by decide) rfl rfl (by decide) rfl dX11_book_77 ?_
            refine j_bipush (v := 21) C dX11_book_80 (by decide) ?_
            refine j_ialoadK (N := 944) C 1 21 (by decide) (show ¬ ((21 : Int32) < 0 ∨ 944 ≤ (21 : Int32).toNatClampNeg) by decide) (by decide) rfl rfl dX11_book_82 ?_
            refine j_iadd C dX11_book_83 ?_
            refine j_iload_n C 2 dX11_book_84 rfl ?_
            obtain ⟨hin, h⟩ := h
            refine j_iastoreK (N := 944) C 1 _ rfl hin (by decide) (fun _ => rfl) rfl dX11_book_85 (fun u9 eu9 => ?_)
            have h := h u9 eu9
            refine j_aload_n C 0 dX11_book_86 rfl ?_
            refine j_get C 0 1 (ly_X11 C.2.2.2.2.2.2.2.1.1) q_636 rfl rfl (by decide) rfl rfl (by decide) rfl dX11_book_87 ?_
            refine j_bipush (v := 21) C dX11_book_90 (by decide) ?_
            refine j_dup2 C dX11_book_92 rfl rfl ?_
            refine j_ialoadK (N := 944) C 1 21 (by decide) (show ¬ ((21 : Int32) < 0 ∨ 944 ≤ (21 : Int32).toNatClampNeg) by decide) (by decide) rfl rfl dX11_book_93 ?_
            refine j_iconst (v := 1) C dX11_book_94 (by decide) ?_
            refine j_iadd C dX11_book_95 ?_
            refine j_iastoreK (N := 944) C 1 21 (by decide) (show ¬ ((21 : Int32) < 0 ∨ 944 ≤ (21 : Int32).toNatClampNeg) by decide) (by decide) (fun _ => rfl) rfl dX11_book_96 (fun u10 eu10 => ?_)
            have h := h u10 eu10
            refine j_aload_n C 0 dX11_book_97 rfl ?_
            refine j_get C 0 1 (ly_X11 C.2.2.2.2.2.2.2.1.1) q_636 rfl rfl (by decide) rfl rfl (by decide) rfl dX11_book_98 ?_
            refine j_bipush (v := 21) C dX11_book_101 (by decide) ?_
            refine j_ialoadK (N := 944) C 1 21 (by decide) (show ¬ ((21 : Int32) < 0 ∨ 944 ≤ (21 : Int32).toNatClampNeg) by decide) (by decide) rfl rfl dX11_book_103 ?_
            exact j_iret C dX11_book_104 h
          · have h := h.2 c7
            refine j_bipush (v := (-4)) C dX11_book_51 (by decide) ?_
            exact j_iret C dX11_book_53 h
        · have h := h.2 c6
          refine j_bipush (v := (-2)) C dX11_book_36 (by decide) ?_
          exact j_iret C dX11_book_38 h
      · have h := h.2 c4
        refine j_iconst (v := (-1)) C dX11_book_23 (by decide) ?_
        exact j_iret C dX11_book_24 h
    · have h := h.2 c1
      refine j_aload_n C 0 dX11_book_5 rfl ?_
      refine j_get C 0 1 (ly_X11 C.2.2.2.2.2.2.2.1.1) q_636 rfl rfl (by decide) rfl rfl (by decide) rfl dX11_book_6 ?_
      refine j_bipush (v := 21) C dX11_book_9 (by decide) ?_
      refine j_iconst (v := 0) C dX11_book_11 (by decide) ?_
      refine j_iastoreK (N := 944) C 1 21 (by decide) (show ¬ ((21 : Int32) < 0 ∨ 944 ≤ (21 : Int32).toNatClampNeg) by decide) (by decide) (fun _ => rfl) rfl dX11_book_12 (fun u11 eu11 => ?_)
      have h := h u11 eu11
      refine j_iconst (v := 0) C dX11_book_13 (by decide) ?_
      exact j_iret C dX11_book_14 h

def wX11_looked_b2 (N : Nat) (K : Int32 → MM → Prop) : Nat → Int32 → MM → Prop
  | 0, _, _ => False
  | n + 1, x1, u => (((u 1 21) ≤ x1 → (K (-5) u)) ∧ (¬ (u 1 21) ≤ x1 → (vp_in ((113 + x1)) 944 ∧ (∀ y2 : Int32, y2 = (u 1 (113 + x1).toNatClampNeg) → (wX11_hasHeard N y2 u (fun r3 u4 => ((r3 = 0 → (K x1 u4)) ∧ (¬ r3 = 0 → (vp_in ((11 + y2)) 944 ∧ (vp_in ((121 + x1)) 944 ∧ (((u4 1 (11 + y2).toNatClampNeg) = (u4 1 (121 + x1).toNatClampNeg) → (∀ y7 : Int32, y7 = x1 + 1 → (wX11_looked_b2 N K n y7 u4))) ∧ (¬ (u4 1 (11 + y2).toNatClampNeg) = (u4 1 (121 + x1).toNatClampNeg) → (K x1 u4)))))))))))))
def wX11_looked (N : Nat) (u : MM) (K : Int32 → MM → Prop) : Prop := (wX11_looked_b2 N K N 0 u)
set_option maxRecDepth 100000 in
set_option maxHeartbeats 4000000 in
theorem tX11_looked_b2 (l : Launch) (D : va_G) (cI cZ : ClassId) (ad q : Nat → Nat) (N : Nat) {p : Program} {e : Env} {s : State} {m : MethodId} {args : Array Value} {below : List Frame} {meth : Method} {c : Code} {K : Int32 → MM → Prop} (C : CX p s m args meth c cX11_looked 3 RX11 (some .int) D cI cZ ad (AJ 9 q s.heap.size)) : ∀ (n : Nat) (x1 : Int32) (u : MM), wX11_looked_b2 N K n x1 u → JX p l e (rr 1 21) s m args below meth c D (AJ 9 q s.heap.size) 3 (MQ below ((QI D 9 q (entM q cI cZ) K) (AJ 9 q s.heap.size)) args s 0 0 (AJ 9 q s.heap.size)) 9 q (entM q cI cZ) u 2 [(0, .ref (q 0)), (1, .int x1)] [] := by
  intro n
  induction n with
  | zero => intro x1 u h; exact h.elim
  | succ n ih =>
    intro x1 u h
    refine j_iload_n C 1 dX11_looked_2 rfl ?_
    refine j_aload_n C 0 dX11_looked_3 rfl ?_
    refine j_get C 0 1 (ly_X11 C.2.2.2.2.2.2.2.1.1) q_636 rfl rfl (by decide) rfl rfl (by decide) rfl dX11_looked_4 ?_
    refine j_bipush (v := 21) C dX11_looked_7 (by decide) ?_
    refine j_ialoadK (N := 944) C 1 21 (by decide) (show ¬ ((21 : Int32) < 0 ∨ 944 ≤ (21 : Int32).toNatClampNeg) by decide) (by decide) rfl rfl dX11_looked_9 ?_
    refine j_icmp_ge C 60 dX11_looked_10 (by decide) (fun c1 => ?_) (fun c1 => ?_)
    · have h := h.1 c1
      refine j_bipush (v := (-5)) C dX11_looked_60 (by decide) ?_
      exact j_iret C dX11_looked_62 h
    · have h := h.2 c1
      refine j_aload_n C 0 dX11_looked_13 rfl ?_
      refine j_get C 0 1 (ly_X11 C.2.2.2.2.2.2.2.1.1) q_636 rfl rfl (by decide) rfl rfl (by decide) rfl dX11_looked_14 ?_
      refine j_bipush (v := 113) C dX11_looked_17 (by decide) ?_
      refine j_iload_n C 1 dX11_looked_19 rfl ?_
      refine j_iadd C dX11_looked_20 ?_
      obtain ⟨hin, h⟩ := h
      refine j_ialoadK (N := 944) C 1 _ rfl hin (by decide) rfl rfl dX11_looked_21 ?_
      refine j_nmi (fun y2 ey2 => ?_)
      have h := h y2 ey2
      refine j_istore_n (lv' := [(2, .int y2), (0, .ref (q 0)), (1, .int x1)]) C dX11_looked_22 (by decide) rfl ?_
      refine j_aload_n C 1 dX11_looked_23 rfl ?_
      refine j_iload_n C 0 dX11_looked_24 rfl ?_
      refine j_wi C (fun H locs ls hP hD hS hl => run_V (Cn := "") (As := [.int y2]) (st := []) C mf_X11_hasHeard 0 (kX_X11_hasHeard l D cI cZ ad q N h) q_723 (by decide) rfl rfl rfl rfl ⟨rfl, rfl, by decide, by decide⟩ (Nat.le_of_ble_eq_true rfl) dX11_looked_25 hP hD hS hl) (fun r3 u4 h => ?_)
      refine j_if_eq C 52 dX11_looked_28 (by decide) (fun c5 => ?_) (fun c5 => ?_)
      · have h := h.1 c5
        refine j_iload_n C 2 dX11_looked_52 rfl ?_
        exact j_iret C dX11_looked_53 h
      · have h := h.2 c5
        refine j_aload_n C 1 dX11_looked_31 rfl ?_
        refine j_get C 0 1 (ly_X11 C.2.2.2.2.2.2.2.1.1) q_636 rfl rfl (by decide) rfl rfl (by decide) rfl dX11_looked_32 ?_
        refine j_bipush (v := 11) C dX11_looked_35 (by decide) ?_
        refine j_iload_n C 0 dX11_looked_37 rfl ?_
        refine j_iadd C dX11_looked_38 ?_
        obtain ⟨hin, h⟩ := h
        refine j_ialoadK (N := 944) C 1 _ rfl hin (by decide) rfl rfl dX11_looked_39 ?_
        refine j_aload_n C 1 dX11_looked_40 rfl ?_
        refine j_get C 0 1 (ly_X11 C.2.2.2.2.2.2.2.1.1) q_636 rfl rfl (by decide) rfl rfl (by decide) rfl dX11_looked_41 ?_
        refine j_bipush (v := 121) C dX11_looked_44 (by decide) ?_
        refine j_iload_n C 2 dX11_looked_46 rfl ?_
        refine j_iadd C dX11_looked_47 ?_
        obtain ⟨hin, h⟩ := h
        refine j_ialoadK (N := 944) C 1 _ rfl hin (by decide) rfl rfl dX11_looked_48 ?_
        refine j_icmp_eq C 54 dX11_looked_49 (by decide) (fun c6 => ?_) (fun c6 => ?_)
        · have h := h.1 c6
          obtain ⟨y7, ey7⟩ : ∃ z : Int32, z = x1 + 1 := ⟨_, rfl⟩
          have h := h y7 ey7
          refine j_iinc (v := y7) (lv' := [(1, .int y7), (2, .int y2), (0, .ref (q 0))]) C 2 dX11_looked_54 rfl (by rw [ey7]; rfl) (by decide) rfl ?_
          refine j_goto C 2 dX11_looked_57 (by decide) ?_
          refine j_sub (lv' := [(0, .ref (q 0)), (1, .int y7)]) [2, 0] rfl ?_
          exact ih _ _ h
        · have h := h.2 c6
          refine j_iload_n C 2 dX11_looked_52 rfl ?_
          exact j_iret C dX11_looked_53 h
set_option maxRecDepth 100000 in
set_option maxHeartbeats 4000000 in
theorem kX_X11_looked (l : Launch) (D : va_G) (cI cZ : ClassId) (ad q : Nat → Nat) (N : Nat) {u : MM} {K : Int32 → MM → Prop} (h : wX11_looked N u K) : CT l D cI cZ ad 9 q (entM q cI cZ) yX11_looked cX11_looked 3 (some .int) (rr 1 21) [.ref (q 0)] u (QI D 9 q (entM q cI cZ) K) := by
    refine ct_of (by decide +kernel) (Nat.le_of_ble_eq_true rfl) (fun p e s m args below meth c C => ?_)
    refine j_sub (lv' := [(0, .ref (q 0))]) [0] rfl ?_
    refine j_iconst (v := 0) C dX11_looked_0 (by decide) ?_
    refine j_istore_n (lv' := [(1, .int 0), (0, .ref (q 0))]) C dX11_looked_1 (by decide) rfl ?_
    refine j_sub (lv' := [(0, .ref (q 0)), (1, .int 0)]) [1, 0] rfl ?_
    exact tX11_looked_b2 l D cI cZ ad q N C N _ _ h

def wX11_ranBody_b19 (N : Nat) (K : MM → Prop) (u : MM) : Prop := (∀ u3 : MM, u3 = up u 0 23 ((u 0 23) + 1) → (K u3))
def wX11_ranBody (N : Nat) (x1 : Int32) (u : MM) (K : MM → Prop) : Prop := ((20 ≤ (u 0 23) → (wX11_ranBody_b19 N K u)) ∧ (¬ 20 ≤ (u 0 23) → (vp_in ((u 0 23)) 20 ∧ ∀ u2 : MM, u2 = up u 8 ((u 0 23).toNatClampNeg) x1 → (wX11_ranBody_b19 N K u2))))
set_option maxRecDepth 100000 in
set_option maxHeartbeats 4000000 in
theorem tX11_ranBody_b19 (l : Launch) (D : va_G) (cI cZ : ClassId) (ad q : Nat → Nat) (N : Nat) {p : Program} {e : Env} {s : State} {m : MethodId} {args : Array Value} {below : List Frame} {meth : Method} {c : Code} {K : MM → Prop} (C : CX p s m args meth c cX11_ranBody 2 RX11 none D cI cZ ad (AJ 9 q s.heap.size)) : ∀ (u : MM), wX11_ranBody_b19 N K u → JX p l e (rr 0 0) s m args below meth c D (AJ 9 q s.heap.size) 2 (MQ below ((QV D 9 q (entM q cI cZ) K) (AJ 9 q s.heap.size)) args s 0 0 (AJ 9 q s.heap.size)) 9 q (entM q cI cZ) u 19 [(0, .ref (q 0))] [] := by
    intro u h
    refine j_aload_n C 0 dX11_ranBody_19 rfl ?_
    refine j_dup C dX11_ranBody_20 rfl ?_
    refine j_get C 0 23 (ly_X11 C.2.2.2.2.2.2.2.1.1) q_658 rfl rfl (by decide) rfl rfl (by decide) rfl dX11_ranBody_21 ?_
    refine j_iconst (v := 1) C dX11_ranBody_24 (by decide) ?_
    refine j_iadd C dX11_ranBody_25 ?_
    refine j_put C 0 23 (ly_X11 C.2.2.2.2.2.2.2.1.1) q_658 rfl rfl (by decide) rfl rfl (by decide) tyX11_ok nmX11 rfl rfl ⟨rfl, rfl⟩ (Nat.le_of_ble_eq_true rfl) rfl dX11_ranBody_26 ?_
    refine j_nmu (fun u3 eu3 => ?_)
    have h := h u3 eu3
    exact j_vret C dX11_ranBody_29 h
set_option maxRecDepth 100000 in
set_option maxHeartbeats 4000000 in
theorem kX_X11_ranBody (l : Launch) (D : va_G) (cI cZ : ClassId) (ad q : Nat → Nat) (N : Nat) {x1 : Int32} {u : MM} {K : MM → Prop} (h : wX11_ranBody N x1 u K) : CT l D cI cZ ad 9 q (entM q cI cZ) yX11_ranBody cX11_ranBody 2 none (rr 0 0) [.ref (q 0), .int x1] u (QV D 9 q (entM q cI cZ) K) := by
    refine ct_of (by decide +kernel) (Nat.le_of_ble_eq_true rfl) (fun p e s m args below meth c C => ?_)
    refine j_sub (lv' := [(0, .ref (q 0)), (1, .int x1)]) [0, 1] rfl ?_
    refine j_aload_n C 0 dX11_ranBody_0 rfl ?_
    refine j_get C 0 23 (ly_X11 C.2.2.2.2.2.2.2.1.1) q_658 rfl rfl (by decide) rfl rfl (by decide) rfl dX11_ranBody_1 ?_
    refine j_bipush (v := 20) C dX11_ranBody_4 (by decide) ?_
    refine j_icmp_ge C 19 dX11_ranBody_6 (by decide) (fun c1 => ?_) (fun c1 => ?_)
    · have h := h.1 c1
      refine j_sub (lv' := [(0, .ref (q 0))]) [0] rfl ?_
      exact tX11_ranBody_b19 l D cI cZ ad q N C _ h
    · have h := h.2 c1
      refine j_aload_n C 0 dX11_ranBody_9 rfl ?_
      refine j_get C 0 22 (ly_X11 C.2.2.2.2.2.2.2.1.1) q_657 rfl rfl (by decide) rfl rfl (by decide) rfl dX11_ranBody_10 ?_
      refine j_aload_n C 0 dX11_ranBody_13 rfl ?_
      refine j_get C 0 23 (ly_X11 C.2.2.2.2.2.2.2.1.1) q_658 rfl rfl (by decide) rfl rfl (by decide) rfl dX11_ranBody_14 ?_
      refine j_iload_n C 1 dX11_ranBody_17 rfl ?_
      obtain ⟨hin, h⟩ := h
      refine j_iastoreK (N := 20) C 8 _ rfl hin (by decide) (fun _ => rfl) rfl dX11_ranBody_18 (fun u2 eu2 => ?_)
      have h := h u2 eu2
      refine j_sub (lv' := [(0, .ref (q 0))]) [0] rfl ?_
      exact tX11_ranBody_b19 l D cI cZ ad q N C _ h

def wX11_isUnder (N : Nat) (x0 : Int32) (x1 : Int32) (K : Int32 → Prop) : Prop := ((x1 = 0 → (K 1)) ∧ (¬ x1 = 0 → ((x1 = x0 → (K 1)) ∧ (¬ x1 = x0 → ((x1 ≤ 0 → (K 0)) ∧ (¬ x1 ≤ 0 → ((4 ≤ x1 → (K 0)) ∧ (¬ 4 ≤ x1 → ((¬ x0 = (x1 + 3) → (K 0)) ∧ (x0 = (x1 + 3) → (K 1)))))))))))
set_option maxRecDepth 100000 in
set_option maxHeartbeats 4000000 in
theorem kX_X11_isUnder (l : Launch) (D : va_G) (cI cZ : ClassId) (ad q : Nat → Nat) (N : Nat) {x0 : Int32} {x1 : Int32} {K : Int32 → Prop} (h : wX11_isUnder N x0 x1 K) : CT l D cI cZ ad 0 q (entM q cI cZ) yX11_isUnder cX11_isUnder 2 (some .boolean) (rr 0 0) [.int x0, .int x1] u00 (QI D 0 q (entM q cI cZ) (fun r _ => K r)) := by
    refine ct_of (by decide +kernel) (Nat.le_of_ble_eq_true rfl) (fun p e s m args below meth c C => ?_)
    refine j_sub (lv' := [(0, .int x0), (1, .int x1)]) [0, 1] rfl ?_
    refine j_iload_n C 1 dX11_isUnder_0 rfl ?_
    refine j_if_eq C 25 dX11_isUnder_1 (by decide) (fun c1 => ?_) (fun c1 => ?_)
    · have h := h.1 c1
      refine j_iconst (v := 1) C dX11_isUnder_25 (by decide) ?_
      refine j_goto C 30 dX11_isUnder_26 (by decide) ?_
      exact j_zret (K := fun r _ => K r) C dX11_isUnder_30 rfl h
    · have h := h.2 c1
      refine j_iload_n C 1 dX11_isUnder_4 rfl ?_
      refine j_iload_n C 0 dX11_isUnder_5 rfl ?_
      refine j_icmp_eq C 25 dX11_isUnder_6 (by decide) (fun c2 => ?_) (fun c2 => ?_)
      · have h := h.1 c2
        refine j_iconst (v := 1) C dX11_isUnder_25 (by decide) ?_
        refine j_goto C 30 dX11_isUnder_26 (by decide) ?_
        exact j_zret (K := fun r _ => K r) C dX11_isUnder_30 rfl h
      · have h := h.2 c2
        refine j_iload_n C 1 dX11_isUnder_9 rfl ?_
        refine j_if_le C 29 dX11_isUnder_10 (by decide) (fun c3 => ?_) (fun c3 => ?_)
        · have h := h.1 c3
          refine j_iconst (v := 0) C dX11_isUnder_29 (by decide) ?_
          exact j_zret (K := fun r _ => K r) C dX11_isUnder_30 rfl h
        · have h := h.2 c3
          refine j_iload_n C 1 dX11_isUnder_13 rfl ?_
          refine j_iconst (v := 4) C dX11_isUnder_14 (by decide) ?_
          refine j_icmp_ge C 29 dX11_isUnder_15 (by decide) (fun c4 => ?_) (fun c4 => ?_)
          · have h := h.1 c4
            refine j_iconst (v := 0) C dX11_isUnder_29 (by decide) ?_
            exact j_zret (K := fun r _ => K r) C dX11_isUnder_30 rfl h
          · have h := h.2 c4
            refine j_iload_n C 0 dX11_isUnder_18 rfl ?_
            refine j_iload_n C 1 dX11_isUnder_19 rfl ?_
            refine j_iconst (v := 3) C dX11_isUnder_20 (by decide) ?_
            refine j_iadd C dX11_isUnder_21 ?_
            refine j_icmp_ne C 29 dX11_isUnder_22 (by decide) (fun c5 => ?_) (fun c5 => ?_)
            · have h := h.1 c5
              refine j_iconst (v := 0) C dX11_isUnder_29 (by decide) ?_
              exact j_zret (K := fun r _ => K r) C dX11_isUnder_30 rfl h
            · have h := h.2 c5
              refine j_iconst (v := 1) C dX11_isUnder_25 (by decide) ?_
              refine j_goto C 30 dX11_isUnder_26 (by decide) ?_
              exact j_zret (K := fun r _ => K r) C dX11_isUnder_30 rfl h

def wX11_plainHears (N : Nat) (x1 : Int32) (u : MM) (K : Int32 → MM → Prop) : Prop := (wX11_ranBody N 1 u (fun u2 => (K (x1 + (u2 0 25)) u2)))
set_option maxRecDepth 100000 in
set_option maxHeartbeats 4000000 in
theorem kX_X11_plainHears (l : Launch) (D : va_G) (cI cZ : ClassId) (ad q : Nat → Nat) (N : Nat) {x1 : Int32} {u : MM} {K : Int32 → MM → Prop} (h : wX11_plainHears N x1 u K) : CT l D cI cZ ad 9 q (entM q cI cZ) yX11_plainHears cX11_plainHears 2 (some .int) (rr 1 21) [.ref (q 0), .int x1] u (QI D 9 q (entM q cI cZ) K) := by
    refine ct_of (by decide +kernel) (Nat.le_of_ble_eq_true rfl) (fun p e s m args below meth c C => ?_)
    refine j_sub (lv' := [(0, .ref (q 0)), (1, .int x1)]) [0, 1] rfl ?_
    refine j_aload_n C 0 dX11_plainHears_0 rfl ?_
    refine j_iconst (v := 1) C dX11_plainHears_1 (by decide) ?_
    refine j_wv C (fun H locs ls hP hD hS hl => run_V (Cn := "") (As := [.int 1]) (st := []) C mf_X11_ranBody 0 (kX_X11_ranBody l D cI cZ ad q N h) q_882 (by decide) rfl rfl rfl rfl ⟨rfl, rfl, by decide, by decide⟩ (Nat.le_of_ble_eq_true rfl) dX11_plainHears_2 hP hD hS hl) (fun u2 h => ?_)
    refine j_iload_n C 1 dX11_plainHears_5 rfl ?_
    refine j_aload_n C 0 dX11_plainHears_6 rfl ?_
    refine j_get C 0 25 (ly_X11 C.2.2.2.2.2.2.2.1.1) q_660 rfl rfl (by decide) rfl rfl (by decide) rfl dX11_plainHears_7 ?_
    refine j_iadd C dX11_plainHears_10 ?_
    exact j_iret C dX11_plainHears_11 h

def wX11_hearsActs (N : Nat) (x1 : Int32) (u : MM) (K : Int32 → MM → Prop) : Prop := (wX11_isUnder N (u 0 24) 1 (fun r1 => ((r1 = 0 → ((¬ (u 0 24) = 5 → (wX11_plainHears N x1 u (fun r4 u5 => (K r4 u5)))) ∧ ((u 0 24) = 5 → (wX11_ranBody N 51 u (fun u7 => (wX11_plainHears N x1 u7 (fun r8 u9 => (K (r8 ^^^ (u9 0 25)) u9)))))))) ∧ (¬ r1 = 0 → (wX11_ranBody N 11 u (fun u11 => (wX11_plainHears N (x1 * 3) u11 (fun r12 u13 => (K r12 u13)))))))))
set_option maxRecDepth 100000 in
set_option maxHeartbeats 4000000 in
theorem kX_X11_hearsActs (l : Launch) (D : va_G) (cI cZ : ClassId) (ad q : Nat → Nat) (N : Nat) {x1 : Int32} {u : MM} {K : Int32 → MM → Prop} (h : wX11_hearsActs N x1 u K) : CT l D cI cZ ad 9 q (entM q cI cZ) yX11_hearsActs cX11_hearsActs 2 (some .int) (rr 2 42) [.ref (q 0), .int x1] u (QI D 9 q (entM q cI cZ) K) := by
    refine ct_of (by decide +kernel) (Nat.le_of_ble_eq_true rfl) (fun p e s m args below meth c C => ?_)
    refine j_sub (lv' := [(0, .ref (q 0)), (1, .int x1)]) [0, 1] rfl ?_
    refine j_aload_n C 0 dX11_hearsActs_0 rfl ?_
    refine j_get C 0 24 (ly_X11 C.2.2.2.2.2.2.2.1.1) q_659 rfl rfl (by decide) rfl rfl (by decide) rfl dX11_hearsActs_1 ?_
    refine j_iconst (v := 1) C dX11_hearsActs_4 (by decide) ?_
    refine j_ui C (fun H locs ls hP hD => run_S (As := [.int (u 0 24), .int 1]) (st := []) C mf_X11_isUnder (kX_X11_isUnder l D cI cZ ad q N h) q_879 rfl rfl ⟨rfl, rfl, by decide, by decide⟩ (Nat.le_of_ble_eq_true rfl) dX11_hearsActs_5 hP hD) (fun r1 _ h => ?_)
    refine j_if_eq C 25 dX11_hearsActs_8 (by decide) (fun c2 => ?_) (fun c2 => ?_)
    · have h := h.1 c2
      refine j_aload_n C 0 dX11_hearsActs_25 rfl ?_
      refine j_get C 0 24 (ly_X11 C.2.2.2.2.2.2.2.1.1) q_659 rfl rfl (by decide) rfl rfl (by decide) rfl dX11_hearsActs_26 ?_
      refine j_iconst (v := 5) C dX11_hearsActs_29 (by decide) ?_
      refine j_icmp_ne C 50 dX11_hearsActs_30 (by decide) (fun c3 => ?_) (fun c3 => ?_)
      · have h := h.1 c3
        refine j_aload_n C 0 dX11_hearsActs_50 rfl ?_
        refine j_iload_n C 1 dX11_hearsActs_51 rfl ?_
        refine j_wi C (fun H locs ls hP hD hS hl => run_V (Cn := "") (As := [.int x1]) (st := []) C mf_X11_plainHears 0 (kX_X11_plainHears l D cI cZ ad q N h) q_885 (by decide) rfl rfl rfl rfl ⟨rfl, rfl, by decide, by decide⟩ (Nat.le_of_ble_eq_true rfl) dX11_hearsActs_52 hP hD hS hl) (fun r4 u5 h => ?_)
        exact j_iret C dX11_hearsActs_55 h
      · have h := h.2 c3
        refine j_aload_n C 0 dX11_hearsActs_33 rfl ?_
        refine j_bipush (v := 51) C dX11_hearsActs_34 (by decide) ?_
        refine j_wv C (fun H locs ls hP hD hS hl => run_V (Cn := "") (As := [.int 51]) (st := []) C mf_X11_ranBody 0 (kX_X11_ranBody l D cI cZ ad q N h) q_882 (by decide) rfl rfl rfl rfl ⟨rfl, rfl, by decide, by decide⟩ (Nat.le_of_ble_eq_true rfl) dX11_hearsActs_36 hP hD hS hl) (fun u7 h => ?_)
        refine j_aload_n C 0 dX11_hearsActs_39 rfl ?_
        refine j_iload_n C 1 dX11_hearsActs_40 rfl ?_
        refine j_wi C (fun H locs ls hP hD hS hl => run_V (Cn := "") (As := [.int x1]) (st := []) C mf_X11_plainHears 0 (kX_X11_plainHears l D cI cZ ad q N h) q_885 (by decide) rfl rfl rfl rfl ⟨rfl, rfl, by decide, by decide⟩ (Nat.le_of_ble_eq_true rfl) dX11_hearsActs_41 hP hD hS hl) (fun r8 u9 h => ?_)
        refine j_aload_n C 0 dX11_hearsActs_44 rfl ?_
        refine j_get C 0 25 (ly_X11 C.2.2.2.2.2.2.2.1.1) q_660 rfl rfl (by decide) rfl rfl (by decide) rfl dX11_hearsActs_45 ?_
        refine j_ixor C dX11_hearsActs_48 ?_
        exact j_iret C dX11_hearsActs_49 h
    · have h := h.2 c2
      refine j_aload_n C 0 dX11_hearsActs_11 rfl ?_
      refine j_bipush (v := 11) C dX11_hearsActs_12 (by decide) ?_
      refine j_wv C (fun H locs ls hP hD hS hl => run_V (Cn := "") (As := [.int 11]) (st := []) C mf_X11_ranBody 0 (kX_X11_ranBody l D cI cZ ad q N h) q_882 (by decide) rfl rfl rfl rfl ⟨rfl, rfl, by decide, by decide⟩ (Nat.le_of_ble_eq_true rfl) dX11_hearsActs_14 hP hD hS hl) (fun u11 h => ?_)
      refine j_aload_n C 0 dX11_hearsActs_17 rfl ?_
      refine j_iload_n C 1 dX11_hearsActs_18 rfl ?_
      refine j_iconst (v := 3) C dX11_hearsActs_19 (by decide) ?_
      refine j_imul C dX11_hearsActs_20 ?_
      refine j_wi C (fun H locs ls hP hD hS hl => run_V (Cn := "") (As := [.int (x1 * 3)]) (st := []) C mf_X11_plainHears 0 (kX_X11_plainHears l D cI cZ ad q N h) q_885 (by decide) rfl rfl rfl rfl ⟨rfl, rfl, by decide, by decide⟩ (Nat.le_of_ble_eq_true rfl) dX11_hearsActs_21 hP hD hS hl) (fun r12 u13 h => ?_)
      exact j_iret C dX11_hearsActs_24 h

def wX11_plainTells (N : Nat) (x1 : Int32) (u : MM) (K : Int32 → MM → Prop) : Prop := (wX11_ranBody N 2 u (fun u2 => (wX11_hearsActs N x1 u2 (fun r3 u4 => (K (r3 - (u4 0 26)) u4)))))
set_option maxRecDepth 100000 in
set_option maxHeartbeats 4000000 in
theorem kX_X11_plainTells (l : Launch) (D : va_G) (cI cZ : ClassId) (ad q : Nat → Nat) (N : Nat) {x1 : Int32} {u : MM} {K : Int32 → MM → Prop} (h : wX11_plainTells N x1 u K) : CT l D cI cZ ad 9 q (entM q cI cZ) yX11_plainTells cX11_plainTells 2 (some .int) (rr 3 63) [.ref (q 0), .int x1] u (QI D 9 q (entM q cI cZ) K) := by
    refine ct_of (by decide +kernel) (Nat.le_of_ble_eq_true rfl) (fun p e s m args below meth c C => ?_)
    refine j_sub (lv' := [(0, .ref (q 0)), (1, .int x1)]) [0, 1] rfl ?_
    refine j_aload_n C 0 dX11_plainTells_0 rfl ?_
    refine j_iconst (v := 2) C dX11_plainTells_1 (by decide) ?_
    refine j_wv C (fun H locs ls hP hD hS hl => run_V (Cn := "") (As := [.int 2]) (st := []) C mf_X11_ranBody 0 (kX_X11_ranBody l D cI cZ ad q N h) q_882 (by decide) rfl rfl rfl rfl ⟨rfl, rfl, by decide, by decide⟩ (Nat.le_of_ble_eq_true rfl) dX11_plainTells_2 hP hD hS hl) (fun u2 h => ?_)
    refine j_aload_n C 0 dX11_plainTells_5 rfl ?_
    refine j_iload_n C 1 dX11_plainTells_6 rfl ?_
    refine j_wi C (fun H locs ls hP hD hS hl => run_V (Cn := "") (As := [.int x1]) (st := []) C mf_X11_hearsActs 0 (kX_X11_hearsActs l D cI cZ ad q N h) q_876 (by decide) rfl rfl rfl rfl ⟨rfl, rfl, by decide, by decide⟩ (Nat.le_of_ble_eq_true rfl) dX11_plainTells_7 hP hD hS hl) (fun r3 u4 h => ?_)
    refine j_aload_n C 0 dX11_plainTells_10 rfl ?_
    refine j_get C 0 26 (ly_X11 C.2.2.2.2.2.2.2.1.1) q_661 rfl rfl (by decide) rfl rfl (by decide) rfl dX11_plainTells_11 ?_
    refine j_isub C dX11_plainTells_14 ?_
    exact j_iret C dX11_plainTells_15 h

def wX11_tellsActs (N : Nat) (x1 : Int32) (u : MM) (K : Int32 → MM → Prop) : Prop := (wX11_isUnder N (u 0 24) 2 (fun r1 => ((r1 = 0 → ((¬ (u 0 24) = 6 → (wX11_plainTells N x1 u (fun r4 u5 => (K r4 u5)))) ∧ ((u 0 24) = 6 → (wX11_ranBody N 61 u (fun u7 => (wX11_plainTells N x1 u7 (fun r8 u9 => (K (r8 + (u9 0 26)) u9)))))))) ∧ (¬ r1 = 0 → (wX11_ranBody N 21 u (fun u11 => (wX11_plainTells N x1 u11 (fun r12 u13 => (K (-r12) u13)))))))))
set_option maxRecDepth 100000 in
set_option maxHeartbeats 4000000 in
theorem kX_X11_tellsActs (l : Launch) (D : va_G) (cI cZ : ClassId) (ad q : Nat → Nat) (N : Nat) {x1 : Int32} {u : MM} {K : Int32 → MM → Prop} (h : wX11_tellsActs N x1 u K) : CT l D cI cZ ad 9 q (entM q cI cZ) yX11_tellsActs cX11_tellsActs 2 (some .int) (rr 4 84) [.ref (q 0), .int x1] u (QI D 9 q (entM q cI cZ) K) := by
    refine ct_of (by decide +kernel) (Nat.le_of_ble_eq_true rfl) (fun p e s m args below meth c C => ?_)
    refine j_sub (lv' := [(0, .ref (q 0)), (1, .int x1)]) [0, 1] rfl ?_
    refine j_aload_n C 0 dX11_tellsActs_0 rfl ?_
    refine j_get C 0 24 (ly_X11 C.2.2.2.2.2.2.2.1.1) q_659 rfl rfl (by decide) rfl rfl (by decide) rfl dX11_tellsActs_1 ?_
    refine j_iconst (v := 2) C dX11_tellsActs_4 (by decide) ?_
    refine j_ui C (fun H locs ls hP hD => run_S (As := [.int (u 0 24), .int 2]) (st := []) C mf_X11_isUnder (kX_X11_isUnder l D cI cZ ad q N h) q_879 rfl rfl ⟨rfl, rfl, by decide, by decide⟩ (Nat.le_of_ble_eq_true rfl) dX11_tellsActs_5 hP hD) (fun r1 _ h => ?_)
    refine j_if_eq C 24 dX11_tellsActs_8 (by decide) (fun c2 => ?_) (fun c2 => ?_)
    · have h := h.1 c2
      refine j_aload_n C 0 dX11_tellsActs_24 rfl ?_
      refine j_get C 0 24 (ly_X11 C.2.2.2.2.2.2.2.1.1) q_659 rfl rfl (by decide) rfl rfl (by decide) rfl dX11_tellsActs_25 ?_
      refine j_bipush (v := 6) C dX11_tellsActs_28 (by decide) ?_
      refine j_icmp_ne C 50 dX11_tellsActs_30 (by decide) (fun c3 => ?_) (fun c3 => ?_)
      · have h := h.1 c3
        refine j_aload_n C 0 dX11_tellsActs_50 rfl ?_
        refine j_iload_n C 1 dX11_tellsActs_51 rfl ?_
        refine j_wi C (fun H locs ls hP hD hS hl => run_V (Cn := "") (As := [.int x1]) (st := []) C mf_X11_plainTells 0 (kX_X11_plainTells l D cI cZ ad q N h) q_891 (by decide) rfl rfl rfl rfl ⟨rfl, rfl, by decide, by decide⟩ (Nat.le_of_ble_eq_true rfl) dX11_tellsActs_52 hP hD hS hl) (fun r4 u5 h => ?_)
        exact j_iret C dX11_tellsActs_55 h
      · have h := h.2 c3
        refine j_aload_n C 0 dX11_tellsActs_33 rfl ?_
        refine j_bipush (v := 61) C dX11_tellsActs_34 (by decide) ?_
        refine j_wv C (fun H locs ls hP hD hS hl => run_V (Cn := "") (As := [.int 61]) (st := []) C mf_X11_ranBody 0 (kX_X11_ranBody l D cI cZ ad q N h) q_882 (by decide) rfl rfl rfl rfl ⟨rfl, rfl, by decide, by decide⟩ (Nat.le_of_ble_eq_true rfl) dX11_tellsActs_36 hP hD hS hl) (fun u7 h => ?_)
        refine j_aload_n C 0 dX11_tellsActs_39 rfl ?_
        refine j_iload_n C 1 dX11_tellsActs_40 rfl ?_
        refine j_wi C (fun H locs ls hP hD hS hl => run_V (Cn := "") (As := [.int x1]) (st := []) C mf_X11_plainTells 0 (kX_X11_plainTells l D cI cZ ad q N h) q_891 (by decide) rfl rfl rfl rfl ⟨rfl, rfl, by decide, by decide⟩ (Nat.le_of_ble_eq_true rfl) dX11_tellsActs_41 hP hD hS hl) (fun r8 u9 h => ?_)
        refine j_aload_n C 0 dX11_tellsActs_44 rfl ?_
        refine j_get C 0 26 (ly_X11 C.2.2.2.2.2.2.2.1.1) q_661 rfl rfl (by decide) rfl rfl (by decide) rfl dX11_tellsActs_45 ?_
        refine j_iadd C dX11_tellsActs_48 ?_
        exact j_iret C dX11_tellsActs_49 h
    · have h := h.2 c2
      refine j_aload_n C 0 dX11_tellsActs_11 rfl ?_
      refine j_bipush (v := 21) C dX11_tellsActs_12 (by decide) ?_
      refine j_wv C (fun H locs ls hP hD hS hl => run_V (Cn := "") (As := [.int 21]) (st := []) C mf_X11_ranBody 0 (kX_X11_ranBody l D cI cZ ad q N h) q_882 (by decide) rfl rfl rfl rfl ⟨rfl, rfl, by decide, by decide⟩ (Nat.le_of_ble_eq_true rfl) dX11_tellsActs_14 hP hD hS hl) (fun u11 h => ?_)
      refine j_aload_n C 0 dX11_tellsActs_17 rfl ?_
      refine j_iload_n C 1 dX11_tellsActs_18 rfl ?_
      refine j_wi C (fun H locs ls hP hD hS hl => run_V (Cn := "") (As := [.int x1]) (st := []) C mf_X11_plainTells 0 (kX_X11_plainTells l D cI cZ ad q N h) q_891 (by decide) rfl rfl rfl rfl ⟨rfl, rfl, by decide, by decide⟩ (Nat.le_of_ble_eq_true rfl) dX11_tellsActs_19 hP hD hS hl) (fun r12 u13 h => ?_)
      refine j_ineg C dX11_tellsActs_22 ?_
      exact j_iret C dX11_tellsActs_23 h

def wX11_plainPays (N : Nat) (x1 : Int32) (u : MM) (K : Int32 → MM → Prop) : Prop := (wX11_ranBody N 3 u (fun u2 => (wX11_tellsActs N x1 u2 (fun r3 u4 => (K (r3 * 2) u4)))))
set_option maxRecDepth 100000 in
set_option maxHeartbeats 4000000 in
theorem kX_X11_plainPays (l : Launch) (D : va_G) (cI cZ : ClassId) (ad q : Nat → Nat) (N : Nat) {x1 : Int32} {u : MM} {K : Int32 → MM → Prop} (h : wX11_plainPays N x1 u K) : CT l D cI cZ ad 9 q (entM q cI cZ) yX11_plainPays cX11_plainPays 2 (some .int) (rr 5 105) [.ref (q 0), .int x1] u (QI D 9 q (entM q cI cZ) K) := by
    refine ct_of (by decide +kernel) (Nat.le_of_ble_eq_true rfl) (fun p e s m args below meth c C => ?_)
    refine j_sub (lv' := [(0, .ref (q 0)), (1, .int x1)]) [0, 1] rfl ?_
    refine j_aload_n C 0 dX11_plainPays_0 rfl ?_
    refine j_iconst (v := 3) C dX11_plainPays_1 (by decide) ?_
    refine j_wv C (fun H locs ls hP hD hS hl => run_V (Cn := "") (As := [.int 3]) (st := []) C mf_X11_ranBody 0 (kX_X11_ranBody l D cI cZ ad q N h) q_882 (by decide) rfl rfl rfl rfl ⟨rfl, rfl, by decide, by decide⟩ (Nat.le_of_ble_eq_true rfl) dX11_plainPays_2 hP hD hS hl) (fun u2 h => ?_)
    refine j_aload_n C 0 dX11_plainPays_5 rfl ?_
    refine j_iload_n C 1 dX11_plainPays_6 rfl ?_
    refine j_wi C (fun H locs ls hP hD hS hl => run_V (Cn := "") (As := [.int x1]) (st := []) C mf_X11_tellsActs 0 (kX_X11_tellsActs l D cI cZ ad q N h) q_888 (by decide) rfl rfl rfl rfl ⟨rfl, rfl, by decide, by decide⟩ (Nat.le_of_ble_eq_true rfl) dX11_plainPays_7 hP hD hS hl) (fun r3 u4 h => ?_)
    refine j_iconst (v := 2) C dX11_plainPays_10 (by decide) ?_
    refine j_imul C dX11_plainPays_11 ?_
    exact j_iret C dX11_plainPays_12 h

def wX11_paysActs (N : Nat) (x1 : Int32) (u : MM) (K : Int32 → MM → Prop) : Prop := (wX11_isUnder N (u 0 24) 3 (fun r1 => ((r1 = 0 → ((¬ (u 0 24) = 4 → (wX11_plainPays N x1 u (fun r4 u5 => (K r4 u5)))) ∧ ((u 0 24) = 4 → (wX11_ranBody N 41 u (fun u7 => (wX11_plainPays N (x1 - 1) u7 (fun r8 u9 => (wX11_hearsActs N 2 u9 (fun r10 u11 => (K (r8 + r10) u11)))))))))) ∧ (¬ r1 = 0 → (wX11_ranBody N 31 u (fun u13 => (wX11_plainPays N x1 u13 (fun r14 u15 => (K (r14 ^^^ 7) u15)))))))))
set_option maxRecDepth 100000 in
set_option maxHeartbeats 4000000 in
theorem kX_X11_paysActs (l : Launch) (D : va_G) (cI cZ : ClassId) (ad q : Nat → Nat) (N : Nat) {x1 : Int32} {u : MM} {K : Int32 → MM → Prop} (h : wX11_paysActs N x1 u K) : CT l D cI cZ ad 9 q (entM q cI cZ) yX11_paysActs cX11_paysActs 3 (some .int) (rr 6 126) [.ref (q 0), .int x1] u (QI D 9 q (entM q cI cZ) K) := by
    refine ct_of (by decide +kernel) (Nat.le_of_ble_eq_true rfl) (fun p e s m args below meth c C => ?_)
    refine j_sub (lv' := [(0, .ref (q 0)), (1, .int x1)]) [0, 1] rfl ?_
    refine j_aload_n C 0 dX11_paysActs_0 rfl ?_
    refine j_get C 0 24 (ly_X11 C.2.2.2.2.2.2.2.1.1) q_659 rfl rfl (by decide) rfl rfl (by decide) rfl dX11_paysActs_1 ?_
    refine j_iconst (v := 3) C dX11_paysActs_4 (by decide) ?_
    refine j_ui C (fun H locs ls hP hD => run_S (As := [.int (u 0 24), .int 3]) (st := []) C mf_X11_isUnder (kX_X11_isUnder l D cI cZ ad q N h) q_879 rfl rfl ⟨rfl, rfl, by decide, by decide⟩ (Nat.le_of_ble_eq_true rfl) dX11_paysActs_5 hP hD) (fun r1 _ h => ?_)
    refine j_if_eq C 26 dX11_paysActs_8 (by decide) (fun c2 => ?_) (fun c2 => ?_)
    · have h := h.1 c2
      refine j_aload_n C 0 dX11_paysActs_26 rfl ?_
      refine j_get C 0 24 (ly_X11 C.2.2.2.2.2.2.2.1.1) q_659 rfl rfl (by decide) rfl rfl (by decide) rfl dX11_paysActs_27 ?_
      refine j_iconst (v := 4) C dX11_paysActs_30 (by decide) ?_
      refine j_icmp_ne C 56 dX11_paysActs_31 (by decide) (fun c3 => ?_) (fun c3 => ?_)
      · have h := h.1 c3
        refine j_aload_n C 0 dX11_paysActs_56 rfl ?_
        refine j_iload_n C 1 dX11_paysActs_57 rfl ?_
        refine j_wi C (fun H locs ls hP hD hS hl => run_V (Cn := "") (As := [.int x1]) (st := []) C mf_X11_plainPays 0 (kX_X11_plainPays l D cI cZ ad q N h) q_897 (by decide) rfl rfl rfl rfl ⟨rfl, rfl, by decide, by decide⟩ (Nat.le_of_ble_eq_true rfl) dX11_paysActs_58 hP hD hS hl) (fun r4 u5 h => ?_)
        exact j_iret C dX11_paysActs_61 h
      · have h := h.2 c3
        refine j_aload_n C 0 dX11_paysActs_34 rfl ?_
        refine j_bipush (v := 41) C dX11_paysActs_35 (by decide) ?_
        refine j_wv C (fun H locs ls hP hD hS hl => run_V (Cn := "") (As := [.int 41]) (st := []) C mf_X11_ranBody 0 (kX_X11_ranBody l D cI cZ ad q N h) q_882 (by decide) rfl rfl rfl rfl ⟨rfl, rfl, by decide, by decide⟩ (Nat.le_of_ble_eq_true rfl) dX11_paysActs_37 hP hD hS hl) (fun u7 h => ?_)
        refine j_aload_n C 0 dX11_paysActs_40 rfl ?_
        refine j_iload_n C 1 dX11_paysActs_41 rfl ?_
        refine j_iconst (v := 1) C dX11_paysActs_42 (by decide) ?_
        refine j_isub C dX11_paysActs_43 ?_
        refine j_wi C (fun H locs ls hP hD hS hl => run_V (Cn := "") (As := [.int (x1 - 1)]) (st := []) C mf_X11_plainPays 0 (kX_X11_plainPays l D cI cZ ad q N h) q_897 (by decide) rfl rfl rfl rfl ⟨rfl, rfl, by decide, by decide⟩ (Nat.le_of_ble_eq_true rfl) dX11_paysActs_44 hP hD hS hl) (fun r8 u9 h => ?_)
        refine j_istore_n (lv' := [(2, .int r8), (0, .ref (q 0)), (1, .int x1)]) C dX11_paysActs_47 (by decide) rfl ?_
        refine j_iload_n C 0 dX11_paysActs_48 rfl ?_
        refine j_aload_n C 1 dX11_paysActs_49 rfl ?_
        refine j_iconst (v := 2) C dX11_paysActs_50 (by decide) ?_
        refine j_wi C (fun H locs ls hP hD hS hl => run_V (Cn := "") (As := [.int 2]) (st := [.int r8]) C mf_X11_hearsActs 0 (kX_X11_hearsActs l D cI cZ ad q N h) q_876 (by decide) rfl rfl rfl rfl ⟨rfl, rfl, by decide, by decide⟩ (Nat.le_of_ble_eq_true rfl) dX11_paysActs_51 hP hD hS hl) (fun r10 u11 h => ?_)
        refine j_iadd C dX11_paysActs_54 ?_
        exact j_iret C dX11_paysActs_55 h
    · have h := h.2 c2
      refine j_aload_n C 0 dX11_paysActs_11 rfl ?_
      refine j_bipush (v := 31) C dX11_paysActs_12 (by decide) ?_
      refine j_wv C (fun H locs ls hP hD hS hl => run_V (Cn := "") (As := [.int 31]) (st := []) C mf_X11_ranBody 0 (kX_X11_ranBody l D cI cZ ad q N h) q_882 (by decide) rfl rfl rfl rfl ⟨rfl, rfl, by decide, by decide⟩ (Nat.le_of_ble_eq_true rfl) dX11_paysActs_14 hP hD hS hl) (fun u13 h => ?_)
      refine j_aload_n C 0 dX11_paysActs_17 rfl ?_
      refine j_iload_n C 1 dX11_paysActs_18 rfl ?_
      refine j_wi C (fun H locs ls hP hD hS hl => run_V (Cn := "") (As := [.int x1]) (st := []) C mf_X11_plainPays 0 (kX_X11_plainPays l D cI cZ ad q N h) q_897 (by decide) rfl rfl rfl rfl ⟨rfl, rfl, by decide, by decide⟩ (Nat.le_of_ble_eq_true rfl) dX11_paysActs_19 hP hD hS hl) (fun r14 u15 h => ?_)
      refine j_bipush (v := 7) C dX11_paysActs_22 (by decide) ?_
      refine j_ixor C dX11_paysActs_24 ?_
      exact j_iret C dX11_paysActs_25 h

def wX11_act (N : Nat) (x1 : Int32) (x2 : Int32) (x3 : Int32) (u : MM) (K : Int32 → MM → Prop) : Prop := (∀ u1 : MM, u1 = up u 0 23 0 → (wX11_isPerson N x1 u1 (fun r2 u3 => ((r2 = 0 → (K 0 u3)) ∧ (¬ r2 = 0 → (wX11_in N x2 0 2 (fun r5 => ((¬ r5 = 0 → (vp_in ((24 + x1)) 944 ∧ (∀ u7 : MM, u7 = up u3 0 24 (u3 1 (24 + x1).toNatClampNeg) → (∀ u8 : MM, u8 = up u7 0 25 x1 → (vp_in ((31 + x1)) 944 ∧ (∀ u9 : MM, u9 = up u8 0 26 (u8 1 (31 + x1).toNatClampNeg) → ((¬ x2 = 0 → ((¬ x2 = 1 → (wX11_paysActs N x3 u9 (fun r12 u13 => (K r12 u13)))) ∧ (x2 = 1 → (wX11_tellsActs N x3 u9 (fun r14 u15 => (K r14 u15)))))) ∧ (x2 = 0 → (wX11_hearsActs N x3 u9 (fun r16 u17 => (K r16 u17))))))))))) ∧ (r5 = 0 → (K 0 u3))))))))))
set_option maxRecDepth 100000 in
set_option maxHeartbeats 4000000 in
theorem kX_X11_act (l : Launch) (D : va_G) (cI cZ : ClassId) (ad q : Nat → Nat) (N : Nat) {x1 : Int32} {x2 : Int32} {x3 : Int32} {u : MM} {K : Int32 → MM → Prop} (h : wX11_act N x1 x2 x3 u K) : CT l D cI cZ ad 9 q (entM q cI cZ) yX11_act cX11_act 4 (some .int) (rr 7 148) [.ref (q 0), .int x1, .int x2, .int x3] u (QI D 9 q (entM q cI cZ) K) := by
    refine ct_of (by decide +kernel) (Nat.le_of_ble_eq_true rfl) (fun p e s m args below meth c C => ?_)
    refine j_sub (lv' := [(0, .ref (q 0)), (1, .int x1), (2, .int x2), (3, .int x3)]) [0, 1, 2, 3] rfl ?_
    refine j_aload_n C 0 dX11_act_0 rfl ?_
    refine j_iconst (v := 0) C dX11_act_1 (by decide) ?_
    refine j_put C 0 23 (ly_X11 C.2.2.2.2.2.2.2.1.1) q_658 rfl rfl (by decide) rfl rfl (by decide) tyX11_ok nmX11 rfl rfl ⟨rfl, rfl⟩ (Nat.le_of_ble_eq_true rfl) rfl dX11_act_2 ?_
    refine j_nmu (fun u1 eu1 => ?_)
    have h := h u1 eu1
    refine j_aload_n C 0 dX11_act_5 rfl ?_
    refine j_iload_n C 1 dX11_act_6 rfl ?_
    refine j_wi C (fun H locs ls hP hD hS hl => run_V (Cn := "") (As := [.int x1]) (st := []) C mf_X11_isPerson 0 (kX_X11_isPerson l D cI cZ ad q N h) q_720 (by decide) rfl rfl rfl rfl ⟨rfl, rfl, by decide, by decide⟩ (Nat.le_of_ble_eq_true rfl) dX11_act_7 hP hD hS hl) (fun r2 u3 h => ?_)
    refine j_if_eq C 22 dX11_act_10 (by decide) (fun c4 => ?_) (fun c4 => ?_)
    · have h := h.1 c4
      refine j_iconst (v := 0) C dX11_act_22 (by decide) ?_
      exact j_iret C dX11_act_23 h
    · have h := h.2 c4
      refine j_iload_n C 2 dX11_act_13 rfl ?_
      refine j_iconst (v := 0) C dX11_act_14 (by decide) ?_
      refine j_iconst (v := 2) C dX11_act_15 (by decide) ?_
      refine j_ui C (fun H locs ls hP hD => run_S (As := [.int x2, .int 0, .int 2]) (st := []) C mf_X11_in (kX_X11_in l D cI cZ ad q N h) q_667 rfl rfl ⟨rfl, rfl, by decide, by decide⟩ (Nat.le_of_ble_eq_true rfl) dX11_act_16 hP hD) (fun r5 _ h => ?_)
      refine j_if_ne C 24 dX11_act_19 (by decide) (fun c6 => ?_) (fun c6 => ?_)
      · have h := h.1 c6
        refine j_aload_n C 0 dX11_act_24 rfl ?_
        refine j_aload_n C 0 dX11_act_25 rfl ?_
        refine j_get C 0 1 (ly_X11 C.2.2.2.2.2.2.2.1.1) q_636 rfl rfl (by decide) rfl rfl (by decide) rfl dX11_act_26 ?_
        refine j_bipush (v := 24) C dX11_act_29 (by decide) ?_
        refine j_iload_n C 1 dX11_act_31 rfl ?_
        refine j_iadd C dX11_act_32 ?_
        obtain ⟨hin, h⟩ := h
        refine j_ialoadK (N := 944) C 1 _ rfl hin (by decide) rfl rfl dX11_act_33 ?_
        refine j_put C 0 24 (ly_X11 C.2.2.2.2.2.2.2.1.1) q_659 rfl rfl (by decide) rfl rfl (by decide) tyX11_ok nmX11 rfl rfl ⟨rfl, rfl⟩ (Nat.le_of_ble_eq_true rfl) rfl dX11_act_34 ?_
        refine j_nmu (fun u7 eu7 => ?_)
        have h := h u7 eu7
        refine j_aload_n C 0 dX11_act_37 rfl ?_
        refine j_iload_n C 1 dX11_act_38 rfl ?_
        refine j_put C 0 25 (ly_X11 C.2.2.2.2.2.2.2.1.1) q_660 rfl rfl (by decide) rfl rfl (by decide) tyX11_ok nmX11 rfl rfl ⟨rfl, rfl⟩ (Nat.le_of_ble_eq_true rfl) rfl dX11_act_39 ?_
        refine j_nmu (fun u8 eu8 => ?_)
        have h := h u8 eu8
        refine j_aload_n C 0 dX11_act_42 rfl ?_
        refine j_aload_n C 0 dX11_act_43 rfl ?_
        refine j_get C 0 1 (ly_X11 C.2.2.2.2.2.2.2.1.1) q_636 rfl rfl (by decide) rfl rfl (by decide) rfl dX11_act_44 ?_
        refine j_bipush (v := 31) C dX11_act_47 (by decide) ?_
        refine j_iload_n C 1 dX11_act_49 rfl ?_
        refine j_iadd C dX11_act_50 ?_
        obtain ⟨hin, h⟩ := h
        refine j_ialoadK (N := 944) C 1 _ rfl hin (by decide) rfl rfl dX11_act_51 ?_
        refine j_put C 0 26 (ly_X11 C.2.2.2.2.2.2.2.1.1) q_661 rfl rfl (by decide) rfl rfl (by decide) tyX11_ok nmX11 rfl rfl ⟨rfl, rfl⟩ (Nat.le_of_ble_eq_true rfl) rfl dX11_act_52 ?_
        refine j_nmu (fun u9 eu9 => ?_)
        have h := h u9 eu9
        refine j_iload_n C 2 dX11_act_55 rfl ?_
        refine j_if_ne C 67 dX11_act_56 (by decide) (fun c10 => ?_) (fun c10 => ?_)
        · have h := h.1 c10
          refine j_iload_n C 2 dX11_act_67 rfl ?_
          refine j_iconst (v := 1) C dX11_act_68 (by decide) ?_
          refine j_icmp_ne C 80 dX11_act_69 (by decide) (fun c11 => ?_) (fun c11 => ?_)
          · have h := h.1 c11
            refine j_aload_n C 0 dX11_act_80 rfl ?_
            refine j_iload_n C 3 dX11_act_81 rfl ?_
            refine j_wi C (fun H locs ls hP hD hS hl => run_V (Cn := "") (As := [.int x3]) (st := []) C mf_X11_paysActs 0 (kX_X11_paysActs l D cI cZ ad q N h) q_894 (by decide) rfl rfl rfl rfl ⟨rfl, rfl, by decide, by decide⟩ (Nat.le_of_ble_eq_true rfl) dX11_act_82 hP hD hS hl) (fun r12 u13 h => ?_)
            exact j_iret C dX11_act_85 h
          · have h := h.2 c11
            refine j_aload_n C 0 dX11_act_72 rfl ?_
            refine j_iload_n C 3 dX11_act_73 rfl ?_
            refine j_wi C (fun H locs ls hP hD hS hl => run_V (Cn := "") (As := [.int x3]) (st := []) C mf_X11_tellsActs 0 (kX_X11_tellsActs l D cI cZ ad q N h) q_888 (by decide) rfl rfl rfl rfl ⟨rfl, rfl, by decide, by decide⟩ (Nat.le_of_ble_eq_true rfl) dX11_act_74 hP hD hS hl) (fun r14 u15 h => ?_)
            refine j_goto C 85 dX11_act_77 (by decide) ?_
            exact j_iret C dX11_act_85 h
        · have h := h.2 c10
          refine j_aload_n C 0 dX11_act_59 rfl ?_
          refine j_iload_n C 3 dX11_act_60 rfl ?_
          refine j_wi C (fun H locs ls hP hD hS hl => run_V (Cn := "") (As := [.int x3]) (st := []) C mf_X11_hearsActs 0 (kX_X11_hearsActs l D cI cZ ad q N h) q_876 (by decide) rfl rfl rfl rfl ⟨rfl, rfl, by decide, by decide⟩ (Nat.le_of_ble_eq_true rfl) dX11_act_61 hP hD hS hl) (fun r16 u17 h => ?_)
          refine j_goto C 85 dX11_act_64 (by decide) ?_
          exact j_iret C dX11_act_85 h
      · have h := h.2 c6
        refine j_iconst (v := 0) C dX11_act_22 (by decide) ?_
        exact j_iret C dX11_act_23 h

def wX11_trace_b20 (N : Nat) (K : Int32 → MM → Prop) (x1 : Int32) (s0 : Int32) (s1 : Int32) (s2 : Int32) (u : MM) : Prop := (wX11_in N s2 s1 (s0 - 1) (fun r2 => ((r2 = 0 → (K (-1) u)) ∧ (¬ r2 = 0 → (vp_in x1 20 ∧ (K (u 8 x1.toNatClampNeg) u))))))
def wX11_trace (N : Nat) (x1 : Int32) (u : MM) (K : Int32 → MM → Prop) : Prop := ((20 ≤ (u 0 23) → (wX11_trace_b20 N K x1 20 0 x1 u)) ∧ (¬ 20 ≤ (u 0 23) → (wX11_trace_b20 N K x1 (u 0 23) 0 x1 u)))
set_option maxRecDepth 100000 in
set_option maxHeartbeats 4000000 in
theorem tX11_trace_b20 (l : Launch) (D : va_G) (cI cZ : ClassId) (ad q : Nat → Nat) (N : Nat) {p : Program} {e : Env} {s : State} {m : MethodId} {args : Array Value} {below : List Frame} {meth : Method} {c : Code} {K : Int32 → MM → Prop} (C : CX p s m args meth c cX11_trace 2 RX11 (some .int) D cI cZ ad (AJ 9 q s.heap.size)) : ∀ (x1 : Int32) (s0 : Int32) (s1 : Int32) (s2 : Int32) (u : MM), wX11_trace_b20 N K x1 s0 s1 s2 u → JX p l e (rr 1 22) s m args below meth c D (AJ 9 q s.heap.size) 2 (MQ below ((QI D 9 q (entM q cI cZ) K) (AJ 9 q s.heap.size)) args s 0 0 (AJ 9 q s.heap.size)) 9 q (entM q cI cZ) u 20 [(0, .ref (q 0)), (1, .int x1)] [.int s0, .int s1, .int s2] := by
    intro x1 s0 s1 s2 u h
    refine j_iconst (v := 1) C dX11_trace_20 (by decide) ?_
    refine j_isub C dX11_trace_21 ?_
    refine j_ui C (fun H locs ls hP hD => run_S (As := [.int s2, .int s1, .int (s0 - 1)]) (st := []) C mf_X11_in (kX_X11_in l D cI cZ ad q N h) q_667 rfl rfl ⟨rfl, rfl, by decide, by decide⟩ (Nat.le_of_ble_eq_true rfl) dX11_trace_22 hP hD) (fun r2 _ h => ?_)
    refine j_if_eq C 37 dX11_trace_25 (by decide) (fun c3 => ?_) (fun c3 => ?_)
    · have h := h.1 c3
      refine j_iconst (v := (-1)) C dX11_trace_37 (by decide) ?_
      exact j_iret C dX11_trace_38 h
    · have h := h.2 c3
      refine j_aload_n C 0 dX11_trace_28 rfl ?_
      refine j_get C 0 22 (ly_X11 C.2.2.2.2.2.2.2.1.1) q_657 rfl rfl (by decide) rfl rfl (by decide) rfl dX11_trace_29 ?_
      refine j_iload_n C 1 dX11_trace_32 rfl ?_
      obtain ⟨hin, h⟩ := h
      refine j_ialoadK (N := 20) C 8 _ rfl hin (by decide) rfl rfl dX11_trace_33 ?_
      refine j_goto C 38 dX11_trace_34 (by decide) ?_
      exact j_iret C dX11_trace_38 h
set_option maxRecDepth 100000 in
set_option maxHeartbeats 4000000 in
theorem kX_X11_trace (l : Launch) (D : va_G) (cI cZ : ClassId) (ad q : Nat → Nat) (N : Nat) {x1 : Int32} {u : MM} {K : Int32 → MM → Prop} (h : wX11_trace N x1 u K) : CT l D cI cZ ad 9 q (entM q cI cZ) yX11_trace cX11_trace 2 (some .int) (rr 1 22) [.ref (q 0), .int x1] u (QI D 9 q (entM q cI cZ) K) := by
    refine ct_of (by decide +kernel) (Nat.le_of_ble_eq_true rfl) (fun p e s m args below meth c C => ?_)
    refine j_sub (lv' := [(0, .ref (q 0)), (1, .int x1)]) [0, 1] rfl ?_
    refine j_iload_n C 1 dX11_trace_0 rfl ?_
    refine j_iconst (v := 0) C dX11_trace_1 (by decide) ?_
    refine j_aload_n C 0 dX11_trace_2 rfl ?_
    refine j_get C 0 23 (ly_X11 C.2.2.2.2.2.2.2.1.1) q_658 rfl rfl (by decide) rfl rfl (by decide) rfl dX11_trace_3 ?_
    refine j_bipush (v := 20) C dX11_trace_6 (by decide) ?_
    refine j_icmp_ge C 18 dX11_trace_8 (by decide) (fun c1 => ?_) (fun c1 => ?_)
    · have h := h.1 c1
      refine j_bipush (v := 20) C dX11_trace_18 (by decide) ?_
      exact tX11_trace_b20 l D cI cZ ad q N C _ _ _ _ _ h
    · have h := h.2 c1
      refine j_aload_n C 0 dX11_trace_11 rfl ?_
      refine j_get C 0 23 (ly_X11 C.2.2.2.2.2.2.2.1.1) q_658 rfl rfl (by decide) rfl rfl (by decide) rfl dX11_trace_12 ?_
      refine j_goto C 20 dX11_trace_15 (by decide) ?_
      exact tX11_trace_b20 l D cI cZ ad q N C _ _ _ _ _ h

def wX11_as (N : Nat) (x1 : Int32) (x2 : Int32) (u : MM) (K : Int32 → MM → Prop) : Prop := (wX11_isPerson N x1 u (fun r1 u2 => ((r1 = 0 → (K (-1) u2)) ∧ (¬ r1 = 0 → (wX11_in N x2 0 6 (fun r4 => ((¬ r4 = 0 → (vp_in ((24 + x1)) 944 ∧ (wX11_isUnder N (u2 1 (24 + x1).toNatClampNeg) x2 (fun r6 => ((r6 = 0 → (K (-6) u2)) ∧ (¬ r6 = 0 → (vp_in ((31 + x1)) 944 ∧ (K (u2 1 (31 + x1).toNatClampNeg) u2)))))))) ∧ (r4 = 0 → (K (-1) u2)))))))))
set_option maxRecDepth 100000 in
set_option maxHeartbeats 4000000 in
theorem kX_X11_as (l : Launch) (D : va_G) (cI cZ : ClassId) (ad q : Nat → Nat) (N : Nat) {x1 : Int32} {x2 : Int32} {u : MM} {K : Int32 → MM → Prop} (h : wX11_as N x1 x2 u K) : CT l D cI cZ ad 9 q (entM q cI cZ) yX11_as cX11_as 3 (some .int) (rr 2 43) [.ref (q 0), .int x1, .int x2] u (QI D 9 q (entM q cI cZ) K) := by
    refine ct_of (by decide +kernel) (Nat.le_of_ble_eq_true rfl) (fun p e s m args below meth c C => ?_)
    refine j_sub (lv' := [(0, .ref (q 0)), (1, .int x1), (2, .int x2)]) [0, 1, 2] rfl ?_
    refine j_aload_n C 0 dX11_as_0 rfl ?_
    refine j_iload_n C 1 dX11_as_1 rfl ?_
    refine j_wi C (fun H locs ls hP hD hS hl => run_V (Cn := "") (As := [.int x1]) (st := []) C mf_X11_isPerson 0 (kX_X11_isPerson l D cI cZ ad q N h) q_720 (by decide) rfl rfl rfl rfl ⟨rfl, rfl, by decide, by decide⟩ (Nat.le_of_ble_eq_true rfl) dX11_as_2 hP hD hS hl) (fun r1 u2 h => ?_)
    refine j_if_eq C 18 dX11_as_5 (by decide) (fun c3 => ?_) (fun c3 => ?_)
    · have h := h.1 c3
      refine j_iconst (v := (-1)) C dX11_as_18 (by decide) ?_
      exact j_iret C dX11_as_19 h
    · have h := h.2 c3
      refine j_iload_n C 2 dX11_as_8 rfl ?_
      refine j_iconst (v := 0) C dX11_as_9 (by decide) ?_
      refine j_bipush (v := 6) C dX11_as_10 (by decide) ?_
      refine j_ui C (fun H locs ls hP hD => run_S (As := [.int x2, .int 0, .int 6]) (st := []) C mf_X11_in (kX_X11_in l D cI cZ ad q N h) q_667 rfl rfl ⟨rfl, rfl, by decide, by decide⟩ (Nat.le_of_ble_eq_true rfl) dX11_as_12 hP hD) (fun r4 _ h => ?_)
      refine j_if_ne C 20 dX11_as_15 (by decide) (fun c5 => ?_) (fun c5 => ?_)
      · have h := h.1 c5
        refine j_aload_n C 0 dX11_as_20 rfl ?_
        refine j_get C 0 1 (ly_X11 C.2.2.2.2.2.2.2.1.1) q_636 rfl rfl (by decide) rfl rfl (by decide) rfl dX11_as_21 ?_
        refine j_bipush (v := 24) C dX11_as_24 (by decide) ?_
        refine j_iload_n C 1 dX11_as_26 rfl ?_
        refine j_iadd C dX11_as_27 ?_
        obtain ⟨hin, h⟩ := h
        refine j_ialoadK (N := 944) C 1 _ rfl hin (by decide) rfl rfl dX11_as_28 ?_
        refine j_iload_n C 2 dX11_as_29 rfl ?_
        refine j_ui C (fun H locs ls hP hD => run_S (As := [.int (u2 1 (24 + x1).toNatClampNeg), .int x2]) (st := []) C mf_X11_isUnder (kX_X11_isUnder l D cI cZ ad q N h) q_879 rfl rfl ⟨rfl, rfl, by decide, by decide⟩ (Nat.le_of_ble_eq_true rfl) dX11_as_30 hP hD) (fun r6 _ h => ?_)
        refine j_if_eq C 48 dX11_as_33 (by decide) (fun c7 => ?_) (fun c7 => ?_)
        · have h := h.1 c7
          refine j_bipush (v := (-6)) C dX11_as_48 (by decide) ?_
          exact j_iret C dX11_as_50 h
        · have h := h.2 c7
          refine j_aload_n C 0 dX11_as_36 rfl ?_
          refine j_get C 0 1 (ly_X11 C.2.2.2.2.2.2.2.1.1) q_636 rfl rfl (by decide) rfl rfl (by decide) rfl dX11_as_37 ?_
          refine j_bipush (v := 31) C dX11_as_40 (by decide) ?_
          refine j_iload_n C 1 dX11_as_42 rfl ?_
          refine j_iadd C dX11_as_43 ?_
          obtain ⟨hin, h⟩ := h
          refine j_ialoadK (N := 944) C 1 _ rfl hin (by decide) rfl rfl dX11_as_44 ?_
          refine j_goto C 50 dX11_as_45 (by decide) ?_
          exact j_iret C dX11_as_50 h
      · have h := h.2 c5
        refine j_iconst (v := (-1)) C dX11_as_18 (by decide) ?_
        exact j_iret C dX11_as_19 h

def wX11_image_b2 (N : Nat) (K : Int32 → MM → Prop) : Nat → Int32 → MM → Prop
  | 0, _, _ => False
  | n + 1, x1, u => ((944 ≤ x1 → (∀ u2 : MM, u2 = up u 0 4 1 → (K (u2 1 18) u2))) ∧ (¬ 944 ≤ x1 → (vp_in x1 944 ∧ (vp_in x1 944 ∧ ∀ u3 : MM, u3 = up u 2 (x1.toNatClampNeg) (u 1 x1.toNatClampNeg) → (∀ y4 : Int32, y4 = x1 + 1 → (wX11_image_b2 N K n y4 u3))))))
def wX11_image (N : Nat) (u : MM) (K : Int32 → MM → Prop) : Prop := (wX11_image_b2 N K N 0 u)
set_option maxRecDepth 100000 in
set_option maxHeartbeats 4000000 in
theorem tX11_image_b2 (l : Launch) (D : va_G) (cI cZ : ClassId) (ad q : Nat → Nat) (N : Nat) {p : Program} {e : Env} {s : State} {m : MethodId} {args : Array Value} {below : List Frame} {meth : Method} {c : Code} {K : Int32 → MM → Prop} (C : CX p s m args meth c cX11_image 2 RX11 (some .int) D cI cZ ad (AJ 9 q s.heap.size)) : ∀ (n : Nat) (x1 : Int32) (u : MM), wX11_image_b2 N K n x1 u → JX p l e (rr 0 0) s m args below meth c D (AJ 9 q s.heap.size) 2 (MQ below ((QI D 9 q (entM q cI cZ) K) (AJ 9 q s.heap.size)) args s 0 0 (AJ 9 q s.heap.size)) 9 q (entM q cI cZ) u 2 [(0, .ref (q 0)), (1, .int x1)] [] := by
  intro n
  induction n with
  | zero => intro x1 u h; exact h.elim
  | succ n ih =>
    intro x1 u h
    refine j_iload_n C 1 dX11_image_2 rfl ?_
    refine j_sipush (v := 944) C dX11_image_3 (by decide) ?_
    refine j_icmp_ge C 27 dX11_image_6 (by decide) (fun c1 => ?_) (fun c1 => ?_)
    · have h := h.1 c1
      refine j_aload_n C 0 dX11_image_27 rfl ?_
      refine j_iconst (v := 1) C dX11_image_28 (by decide) ?_
      refine j_put C 0 4 (ly_X11 C.2.2.2.2.2.2.2.1.1) q_639 rfl rfl (by decide) rfl rfl (by decide) tyX11_ok nmX11 rfl rfl ⟨rfl, rfl⟩ (Nat.le_of_ble_eq_true rfl) rfl dX11_image_29 ?_
      refine j_nmu (fun u2 eu2 => ?_)
      have h := h u2 eu2
      refine j_aload_n C 0 dX11_image_32 rfl ?_
      refine j_get C 0 1 (ly_X11 C.2.2.2.2.2.2.2.1.1) q_636 rfl rfl (by decide) rfl rfl (by decide) rfl dX11_image_33 ?_
      refine j_bipush (v := 18) C dX11_image_36 (by decide) ?_
      refine j_ialoadK (N := 944) C 1 18 (by decide) (show ¬ ((18 : Int32) < 0 ∨ 944 ≤ (18 : Int32).toNatClampNeg) by decide) (by decide) rfl rfl dX11_image_38 ?_
      exact j_iret C dX11_image_39 h
    · have h := h.2 c1
      refine j_aload_n C 0 dX11_image_9 rfl ?_
      refine j_get C 0 2 (ly_X11 C.2.2.2.2.2.2.2.1.1) q_637 rfl rfl (by decide) rfl rfl (by decide) rfl dX11_image_10 ?_
      refine j_iload_n C 1 dX11_image_13 rfl ?_
      refine j_aload_n C 0 dX11_image_14 rfl ?_
      refine j_get C 0 1 (ly_X11 C.2.2.2.2.2.2.2.1.1) q_636 rfl rfl (by decide) rfl rfl (by decide) rfl dX11_image_15 ?_
      refine j_iload_n C 1 dX11_image_18 rfl ?_
      obtain ⟨hin, h⟩ := h
      refine j_ialoadK (N := 944) C 1 _ rfl hin (by decide) rfl rfl dX11_image_19 ?_
      obtain ⟨hin, h⟩ := h
      refine j_iastoreK (N := 944) C 2 _ rfl hin (by decide) (fun _ => rfl) rfl dX11_image_20 (fun u3 eu3 => ?_)
      have h := h u3 eu3
      obtain ⟨y4, ey4⟩ : ∃ z : Int32, z = x1 + 1 := ⟨_, rfl⟩
      have h := h y4 ey4
      refine j_iinc (v := y4) (lv' := [(1, .int y4), (0, .ref (q 0))]) C 1 dX11_image_21 rfl (by rw [ey4]; rfl) (by decide) rfl ?_
      refine j_goto C 2 dX11_image_24 (by decide) ?_
      refine j_sub (lv' := [(0, .ref (q 0)), (1, .int y4)]) [1, 0] rfl ?_
      exact ih _ _ h
set_option maxRecDepth 100000 in
set_option maxHeartbeats 4000000 in
theorem kX_X11_image (l : Launch) (D : va_G) (cI cZ : ClassId) (ad q : Nat → Nat) (N : Nat) {u : MM} {K : Int32 → MM → Prop} (h : wX11_image N u K) : CT l D cI cZ ad 9 q (entM q cI cZ) yX11_image cX11_image 2 (some .int) (rr 0 0) [.ref (q 0)] u (QI D 9 q (entM q cI cZ) K) := by
    refine ct_of (by decide +kernel) (Nat.le_of_ble_eq_true rfl) (fun p e s m args below meth c C => ?_)
    refine j_sub (lv' := [(0, .ref (q 0))]) [0] rfl ?_
    refine j_iconst (v := 0) C dX11_image_0 (by decide) ?_
    refine j_istore_n (lv' := [(1, .int 0), (0, .ref (q 0))]) C dX11_image_1 (by decide) rfl ?_
    refine j_sub (lv' := [(0, .ref (q 0)), (1, .int 0)]) [1, 0] rfl ?_
    exact tX11_image_b2 l D cI cZ ad q N C N _ _ h

def wX11_undo_b12 (N : Nat) (K : Int32 → MM → Prop) : Nat → Int32 → MM → Prop
  | 0, _, _ => False
  | n + 1, x1, u => ((944 ≤ x1 → (K (u 1 18) u)) ∧ (¬ 944 ≤ x1 → (vp_in x1 944 ∧ (vp_in x1 944 ∧ ∀ u3 : MM, u3 = up u 1 (x1.toNatClampNeg) (u 2 x1.toNatClampNeg) → (∀ y4 : Int32, y4 = x1 + 1 → (wX11_undo_b12 N K n y4 u3))))))
def wX11_undo (N : Nat) (u : MM) (K : Int32 → MM → Prop) : Prop := ((¬ (u 0 4) = 0 → (wX11_undo_b12 N K N 0 u)) ∧ ((u 0 4) = 0 → (K (-3) u)))
set_option maxRecDepth 100000 in
set_option maxHeartbeats 4000000 in
theorem tX11_undo_b12 (l : Launch) (D : va_G) (cI cZ : ClassId) (ad q : Nat → Nat) (N : Nat) {p : Program} {e : Env} {s : State} {m : MethodId} {args : Array Value} {below : List Frame} {meth : Method} {c : Code} {K : Int32 → MM → Prop} (C : CX p s m args meth c cX11_undo 2 RX11 (some .int) D cI cZ ad (AJ 9 q s.heap.size)) : ∀ (n : Nat) (x1 : Int32) (u : MM), wX11_undo_b12 N K n x1 u → JX p l e (rr 0 0) s m args below meth c D (AJ 9 q s.heap.size) 2 (MQ below ((QI D 9 q (entM q cI cZ) K) (AJ 9 q s.heap.size)) args s 0 0 (AJ 9 q s.heap.size)) 9 q (entM q cI cZ) u 12 [(0, .ref (q 0)), (1, .int x1)] [] := by
  intro n
  induction n with
  | zero => intro x1 u h; exact h.elim
  | succ n ih =>
    intro x1 u h
    refine j_iload_n C 1 dX11_undo_12 rfl ?_
    refine j_sipush (v := 944) C dX11_undo_13 (by decide) ?_
    refine j_icmp_ge C 37 dX11_undo_16 (by decide) (fun c2 => ?_) (fun c2 => ?_)
    · have h := h.1 c2
      refine j_aload_n C 0 dX11_undo_37 rfl ?_
      refine j_get C 0 1 (ly_X11 C.2.2.2.2.2.2.2.1.1) q_636 rfl rfl (by decide) rfl rfl (by decide) rfl dX11_undo_38 ?_
      refine j_bipush (v := 18) C dX11_undo_41 (by decide) ?_
      refine j_ialoadK (N := 944) C 1 18 (by decide) (show ¬ ((18 : Int32) < 0 ∨ 944 ≤ (18 : Int32).toNatClampNeg) by decide) (by decide) rfl rfl dX11_undo_43 ?_
      exact j_iret C dX11_undo_44 h
    · have h := h.2 c2
      refine j_aload_n C 0 dX11_undo_19 rfl ?_
      refine j_get C 0 1 (ly_X11 C.2.2.2.2.2.2.2.1.1) q_636 rfl rfl (by decide) rfl rfl (by decide) rfl dX11_undo_20 ?_
      refine j_iload_n C 1 dX11_undo_23 rfl ?_
      refine j_aload_n C 0 dX11_undo_24 rfl ?_
      refine j_get C 0 2 (ly_X11 C.2.2.2.2.2.2.2.1.1) q_637 rfl rfl (by decide) rfl rfl (by decide) rfl dX11_undo_25 ?_
      refine j_iload_n C 1 dX11_undo_28 rfl ?_
      obtain ⟨hin, h⟩ := h
      refine j_ialoadK (N := 944) C 2 _ rfl hin (by decide) rfl rfl dX11_undo_29 ?_
      obtain ⟨hin, h⟩ := h
      refine j_iastoreK (N := 944) C 1 _ rfl hin (by decide) (fun _ => rfl) rfl dX11_undo_30 (fun u3 eu3 => ?_)
      have h := h u3 eu3
      obtain ⟨y4, ey4⟩ : ∃ z : Int32, z = x1 + 1 := ⟨_, rfl⟩
      have h := h y4 ey4
      refine j_iinc (v := y4) (lv' := [(1, .int y4), (0, .ref (q 0))]) C 1 dX11_undo_31 rfl (by rw [ey4]; rfl) (by decide) rfl ?_
      refine j_goto C 12 dX11_undo_34 (by decide) ?_
      refine j_sub (lv' := [(0, .ref (q 0)), (1, .int y4)]) [1, 0] rfl ?_
      exact ih _ _ h
set_option maxRecDepth 100000 in
set_option maxHeartbeats 4000000 in
theorem kX_X11_undo (l : Launch) (D : va_G) (cI cZ : ClassId) (ad q : Nat → Nat) (N : Nat) {u : MM} {K : Int32 → MM → Prop} (h : wX11_undo N u K) : CT l D cI cZ ad 9 q (entM q cI cZ) yX11_undo cX11_undo 2 (some .int) (rr 0 0) [.ref (q 0)] u (QI D 9 q (entM q cI cZ) K) := by
    refine ct_of (by decide +kernel) (Nat.le_of_ble_eq_true rfl) (fun p e s m args below meth c C => ?_)
    refine j_sub (lv' := [(0, .ref (q 0))]) [0] rfl ?_
    refine j_aload_n C 0 dX11_undo_0 rfl ?_
    refine j_get C 0 4 (ly_X11 C.2.2.2.2.2.2.2.1.1) q_639 rfl rfl (by decide) rfl rfl (by decide) rfl dX11_undo_1 ?_
    refine j_if_ne C 10 dX11_undo_4 (by decide) (fun c1 => ?_) (fun c1 => ?_)
    · have h := h.1 c1
      refine j_iconst (v := 0) C dX11_undo_10 (by decide) ?_
      refine j_istore_n (lv' := [(1, .int 0), (0, .ref (q 0))]) C dX11_undo_11 (by decide) rfl ?_
      refine j_sub (lv' := [(0, .ref (q 0)), (1, .int 0)]) [1, 0] rfl ?_
      exact tX11_undo_b12 l D cI cZ ad q N C N _ _ h
    · have h := h.2 c1
      refine j_bipush (v := (-3)) C dX11_undo_7 (by decide) ?_
      exact j_iret C dX11_undo_9 h

def wX11_count (N : Nat) (x1 : Int32) (u : MM) (K : Int32 → MM → Prop) : Prop := ((¬ x1 = 5 → (wX11_in N x1 0 4 (fun r2 => ((r2 = 0 → (K (-1) u)) ∧ (¬ r2 = 0 → (vp_in ((18 + x1)) 944 ∧ (K (u 1 (18 + x1).toNatClampNeg) u))))))) ∧ (x1 = 5 → (K (u 0 23) u)))
set_option maxRecDepth 100000 in
set_option maxHeartbeats 4000000 in
theorem kX_X11_count (l : Launch) (D : va_G) (cI cZ : ClassId) (ad q : Nat → Nat) (N : Nat) {x1 : Int32} {u : MM} {K : Int32 → MM → Prop} (h : wX11_count N x1 u K) : CT l D cI cZ ad 9 q (entM q cI cZ) yX11_count cX11_count 2 (some .int) (rr 1 22) [.ref (q 0), .int x1] u (QI D 9 q (entM q cI cZ) K) := by
    refine ct_of (by decide +kernel) (Nat.le_of_ble_eq_true rfl) (fun p e s m args below meth c C => ?_)
    refine j_sub (lv' := [(0, .ref (q 0)), (1, .int x1)]) [0, 1] rfl ?_
    refine j_iload_n C 1 dX11_count_0 rfl ?_
    refine j_iconst (v := 5) C dX11_count_1 (by decide) ?_
    refine j_icmp_ne C 12 dX11_count_2 (by decide) (fun c1 => ?_) (fun c1 => ?_)
    · have h := h.1 c1
      refine j_iload_n C 1 dX11_count_12 rfl ?_
      refine j_iconst (v := 0) C dX11_count_13 (by decide) ?_
      refine j_iconst (v := 4) C dX11_count_14 (by decide) ?_
      refine j_ui C (fun H locs ls hP hD => run_S (As := [.int x1, .int 0, .int 4]) (st := []) C mf_X11_in (kX_X11_in l D cI cZ ad q N h) q_667 rfl rfl ⟨rfl, rfl, by decide, by decide⟩ (Nat.le_of_ble_eq_true rfl) dX11_count_15 hP hD) (fun r2 _ h => ?_)
      refine j_if_eq C 33 dX11_count_18 (by decide) (fun c3 => ?_) (fun c3 => ?_)
      · have h := h.1 c3
        refine j_iconst (v := (-1)) C dX11_count_33 (by decide) ?_
        exact j_iret C dX11_count_34 h
      · have h := h.2 c3
        refine j_aload_n C 0 dX11_count_21 rfl ?_
        refine j_get C 0 1 (ly_X11 C.2.2.2.2.2.2.2.1.1) q_636 rfl rfl (by decide) rfl rfl (by decide) rfl dX11_count_22 ?_
        refine j_bipush (v := 18) C dX11_count_25 (by decide) ?_
        refine j_iload_n C 1 dX11_count_27 rfl ?_
        refine j_iadd C dX11_count_28 ?_
        obtain ⟨hin, h⟩ := h
        refine j_ialoadK (N := 944) C 1 _ rfl hin (by decide) rfl rfl dX11_count_29 ?_
        refine j_goto C 34 dX11_count_30 (by decide) ?_
        exact j_iret C dX11_count_34 h
    · have h := h.2 c1
      refine j_aload_n C 0 dX11_count_5 rfl ?_
      refine j_get C 0 23 (ly_X11 C.2.2.2.2.2.2.2.1.1) q_658 rfl rfl (by decide) rfl rfl (by decide) rfl dX11_count_6 ?_
      refine j_goto C 34 dX11_count_9 (by decide) ?_
      exact j_iret C dX11_count_34 h

def wX11_clauseOfF (N : Nat) (u : MM) (K : MM → Prop) : Prop := (wX11_must N 102 u (fun u2 => (wX11_here N u2 (fun r3 u4 => ((¬ r3 = 105 → (wX11_tellsHere N 7 229 u4 (fun u7 => (K u7)))) ∧ (r3 = 105 → (wX11_spells N 6 u4 (fun u9 => (wX11_figures N u9 (fun r10 u11 => (wX11_must N 32 u11 (fun u13 => (wX11_some0 N u13 (fun u15 => (wX11_emits N (((-200) : Int32) - r10) u15 (fun u17 => (K u17)))))))))))))))))
set_option maxRecDepth 100000 in
set_option maxHeartbeats 4000000 in
theorem kX_X11_clauseOfF (l : Launch) (D : va_G) (cI cZ : ClassId) (ad q : Nat → Nat) (N : Nat) {u : MM} {K : MM → Prop} (h : wX11_clauseOfF N u K) : CT l D cI cZ ad 9 q (entM q cI cZ) yX11_clauseOfF cX11_clauseOfF 2 none (rr 33 1570) [.ref (q 0)] u (QV D 9 q (entM q cI cZ) K) := by
    refine ct_of (by decide +kernel) (Nat.le_of_ble_eq_true rfl) (fun p e s m args below meth c C => ?_)
    refine j_sub (lv' := [(0, .ref (q 0))]) [0] rfl ?_
    refine j_aload_n C 0 dX11_clauseOfF_0 rfl ?_
    refine j_bipush (v := 102) C dX11_clauseOfF_1 (by decide) ?_
    refine j_wv C (fun H locs ls hP hD hS hl => run_V (Cn := "") (As := [.int 102]) (st := []) C mf_X11_must 0 (kX_X11_must l D cI cZ ad q N h) q_685 (by decide) rfl rfl rfl rfl ⟨rfl, rfl, by decide, by decide⟩ (Nat.le_of_ble_eq_true rfl) dX11_clauseOfF_3 hP hD hS hl) (fun u2 h => ?_)
    refine j_aload_n C 0 dX11_clauseOfF_6 rfl ?_
    refine j_wi C (fun H locs ls hP hD hS hl => run_V (Cn := "") (As := []) (st := []) C mf_X11_here 0 (kX_X11_here l D cI cZ ad q N h) q_677 (by decide) rfl rfl rfl rfl ⟨rfl, rfl, by decide, by decide⟩ (Nat.le_of_ble_eq_true rfl) dX11_clauseOfF_7 hP hD hS hl) (fun r3 u4 h => ?_)
    refine j_bipush (v := 105) C dX11_clauseOfF_10 (by decide) ?_
    refine j_icmp_ne C 48 dX11_clauseOfF_12 (by decide) (fun c5 => ?_) (fun c5 => ?_)
    · have h := h.1 c5
      refine j_aload_n C 0 dX11_clauseOfF_48 rfl ?_
      refine j_sipush (v := 229) C dX11_clauseOfF_49 (by decide) ?_
      refine j_ldcS (k := 7) C (List.mem_of_getElem? (i := 8) rfl) dX11_clauseOfF_52 ?_
      refine j_wv C (fun H locs ls hP hD hS hl => run_V (Cn := "") (As := [.int 229, .ref (ad (10 + 7))]) (st := []) C mf_X11_tellsHere 0 (kX_X11_tellsHere l D cI cZ ad q N h) q_709 (by decide) rfl rfl rfl rfl ⟨rfl, rfl, by decide, by decide⟩ (Nat.le_of_ble_eq_true rfl) dX11_clauseOfF_54 hP hD hS hl) (fun u7 h => ?_)
      exact j_vret C dX11_clauseOfF_57 h
    · have h := h.2 c5
      refine j_aload_n C 0 dX11_clauseOfF_15 rfl ?_
      refine j_ldcS (k := 6) C (List.mem_of_getElem? (i := 7) rfl) dX11_clauseOfF_16 ?_
      refine j_wv C (fun H locs ls hP hD hS hl => run_V (Cn := "") (As := [.ref (ad (10 + 6))]) (st := []) C mf_X11_spells 0 (kX_X11_spells l D cI cZ ad q N h) q_680 (by decide) rfl rfl rfl rfl ⟨rfl, rfl, by decide, by decide⟩ (Nat.le_of_ble_eq_true rfl) dX11_clauseOfF_18 hP hD hS hl) (fun u9 h => ?_)
      refine j_aload_n C 0 dX11_clauseOfF_21 rfl ?_
      refine j_wi C (fun H locs ls hP hD hS hl => run_V (Cn := "") (As := []) (st := []) C mf_X11_figures 0 (kX_X11_figures l D cI cZ ad q N h) q_703 (by decide) rfl rfl rfl rfl ⟨rfl, rfl, by decide, by decide⟩ (Nat.le_of_ble_eq_true rfl) dX11_clauseOfF_22 hP hD hS hl) (fun r10 u11 h => ?_)
      refine j_istore_n (lv' := [(1, .int r10), (0, .ref (q 0))]) C dX11_clauseOfF_25 (by decide) rfl ?_
      refine j_aload_n C 1 dX11_clauseOfF_26 rfl ?_
      refine j_bipush (v := 32) C dX11_clauseOfF_27 (by decide) ?_
      refine j_wv C (fun H locs ls hP hD hS hl => run_V (Cn := "") (As := [.int 32]) (st := []) C mf_X11_must 0 (kX_X11_must l D cI cZ ad q N h) q_685 (by decide) rfl rfl rfl rfl ⟨rfl, rfl, by decide, by decide⟩ (Nat.le_of_ble_eq_true rfl) dX11_clauseOfF_29 hP hD hS hl) (fun u13 h => ?_)
      refine j_aload_n C 1 dX11_clauseOfF_32 rfl ?_
      refine j_wv C (fun H locs ls hP hD hS hl => run_V (Cn := "") (As := []) (st := []) C mf_X11_some 0 (kX_X11_some l D cI cZ ad q N h) q_688 (by decide) rfl rfl rfl rfl ⟨rfl, rfl, by decide, by decide⟩ (Nat.le_of_ble_eq_true rfl) dX11_clauseOfF_33 hP hD hS hl) (fun u15 h => ?_)
      refine j_aload_n C 1 dX11_clauseOfF_36 rfl ?_
      refine j_sipush (v := (-200)) C dX11_clauseOfF_37 (by decide) ?_
      refine j_iload_n C 0 dX11_clauseOfF_40 rfl ?_
      refine j_isub C dX11_clauseOfF_41 ?_
      refine j_wv C (fun H locs ls hP hD hS hl => run_V (Cn := "") (As := [.int (((-200) : Int32) - r10)]) (st := []) C mf_X11_emits 0 (kX_X11_emits l D cI cZ ad q N h) q_697 (by decide) rfl rfl rfl rfl ⟨rfl, rfl, by decide, by decide⟩ (Nat.le_of_ble_eq_true rfl) dX11_clauseOfF_42 hP hD hS hl) (fun u17 h => ?_)
      refine j_goto C 57 dX11_clauseOfF_45 (by decide) ?_
      exact j_vret C dX11_clauseOfF_57 h

def wX11_clauseHere (N : Nat) (u : MM) (K : MM → Prop) : Prop := (wX11_here N u (fun r1 u2 => ((r1 = 102 → (wX11_clauseOfF N u2 (fun u5 => (K u5)))) ∧ (¬ r1 = 102 → ((r1 = 108 → (wX11_tellsHere N 3 234 u2 (fun u8 => (K u8)))) ∧ (¬ r1 = 108 → ((r1 = 115 → (wX11_spells N 0 u2 (fun u11 => (wX11_some0 N u11 (fun u13 => (wX11_emits N (-10) u13 (fun u15 => (K u15)))))))) ∧ (¬ r1 = 115 → (∀ u16 : MM, u16 = up u2 0 8 1 → (K u16))))))))))
set_option maxRecDepth 100000 in
set_option maxHeartbeats 4000000 in
theorem kX_X11_clauseHere (l : Launch) (D : va_G) (cI cZ : ClassId) (ad q : Nat → Nat) (N : Nat) {u : MM} {K : MM → Prop} (h : wX11_clauseHere N u K) : CT l D cI cZ ad 9 q (entM q cI cZ) yX11_clauseHere cX11_clauseHere 1 none (rr 34 1591) [.ref (q 0)] u (QV D 9 q (entM q cI cZ) K) := by
    refine ct_of (by decide +kernel) (Nat.le_of_ble_eq_true rfl) (fun p e s m args below meth c C => ?_)
    refine j_sub (lv' := [(0, .ref (q 0))]) [0] rfl ?_
    refine j_aload_n C 0 dX11_clauseHere_0 rfl ?_
    refine j_wi C (fun H locs ls hP hD hS hl => run_V (Cn := "") (As := []) (st := []) C mf_X11_here 0 (kX_X11_here l D cI cZ ad q N h) q_677 (by decide) rfl rfl rfl rfl ⟨rfl, rfl, by decide, by decide⟩ (Nat.le_of_ble_eq_true rfl) dX11_clauseHere_1 hP hD hS hl) (fun r1 u2 h => ?_)
    by_cases c3 : r1 = 102
    · have h := h.1 c3
      refine j_look C (off := 55) 59 dX11_clauseHere_4 (by decide) (by rw [c3]; decide) (by decide) ?_
      refine j_aload_n C 0 dX11_clauseHere_59 rfl ?_
      refine j_wv C (fun H locs ls hP hD hS hl => run_V (Cn := "") (As := []) (st := []) C mf_X11_clauseOfF 0 (kX_X11_clauseOfF l D cI cZ ad q N h) q_706 (by decide) rfl rfl rfl rfl ⟨rfl, rfl, by decide, by decide⟩ (Nat.le_of_ble_eq_true rfl) dX11_clauseHere_60 hP hD hS hl) (fun u5 h => ?_)
      refine j_goto C 83 dX11_clauseHere_63 (by decide) ?_
      exact j_vret C dX11_clauseHere_83 h
    · have h := h.2 c3
      by_cases c6 : r1 = 108
      · have h := h.1 c6
        refine j_look C (off := 62) 66 dX11_clauseHere_4 (by decide) (by rw [c6]; decide) (by decide) ?_
        refine j_aload_n C 0 dX11_clauseHere_66 rfl ?_
        refine j_sipush (v := 234) C dX11_clauseHere_67 (by decide) ?_
        refine j_ldcS (k := 3) C (List.mem_of_getElem? (i := 9) rfl) dX11_clauseHere_70 ?_
        refine j_wv C (fun H locs ls hP hD hS hl => run_V (Cn := "") (As := [.int 234, .ref (ad (10 + 3))]) (st := []) C mf_X11_tellsHere 0 (kX_X11_tellsHere l D cI cZ ad q N h) q_709 (by decide) rfl rfl rfl rfl ⟨rfl, rfl, by decide, by decide⟩ (Nat.le_of_ble_eq_true rfl) dX11_clauseHere_72 hP hD hS hl) (fun u8 h => ?_)
        refine j_goto C 83 dX11_clauseHere_75 (by decide) ?_
        exact j_vret C dX11_clauseHere_83 h
      · have h := h.2 c6
        by_cases c9 : r1 = 115
        · have h := h.1 c9
          refine j_look C (off := 36) 40 dX11_clauseHere_4 (by decide) (by rw [c9]; decide) (by decide) ?_
          refine j_aload_n C 0 dX11_clauseHere_40 rfl ?_
          refine j_ldcS (k := 0) C (List.mem_of_getElem? (i := 4) rfl) dX11_clauseHere_41 ?_
          refine j_wv C (fun H locs ls hP hD hS hl => run_V (Cn := "") (As := [.ref (ad (10 + 0))]) (st := []) C mf_X11_spells 0 (kX_X11_spells l D cI cZ ad q N h) q_680 (by decide) rfl rfl rfl rfl ⟨rfl, rfl, by decide, by decide⟩ (Nat.le_of_ble_eq_true rfl) dX11_clauseHere_43 hP hD hS hl) (fun u11 h => ?_)
          refine j_aload_n C 0 dX11_clauseHere_46 rfl ?_
          refine j_wv C (fun H locs ls hP hD hS hl => run_V (Cn := "") (As := []) (st := []) C mf_X11_some 0 (kX_X11_some l D cI cZ ad q N h) q_688 (by decide) rfl rfl rfl rfl ⟨rfl, rfl, by decide, by decide⟩ (Nat.le_of_ble_eq_true rfl) dX11_clauseHere_47 hP hD hS hl) (fun u13 h => ?_)
          refine j_aload_n C 0 dX11_clauseHere_50 rfl ?_
          refine j_bipush (v := (-10)) C dX11_clauseHere_51 (by decide) ?_
          refine j_wv C (fun H locs ls hP hD hS hl => run_V (Cn := "") (As := [.int (-10)]) (st := []) C mf_X11_emits 0 (kX_X11_emits l D cI cZ ad q N h) q_697 (by decide) rfl rfl rfl rfl ⟨rfl, rfl, by decide, by decide⟩ (Nat.le_of_ble_eq_true rfl) dX11_clauseHere_53 hP hD hS hl) (fun u15 h => ?_)
          refine j_goto C 83 dX11_clauseHere_56 (by decide) ?_
          exact j_vret C dX11_clauseHere_83 h
        · have h := h.2 c9
          refine j_look C (off := 74) 78 dX11_clauseHere_4 (by decide) (by have z0 : r1.toInt ≠ 102 := sw_ne c3; have z1 : r1.toInt ≠ 108 := sw_ne c6; have z2 : r1.toInt ≠ 115 := sw_ne c9; simp [Op.lookupswitch.offset, z0, z0.symm, z1, z1.symm, z2, z2.symm]) (by decide) ?_
          refine j_aload_n C 0 dX11_clauseHere_78 rfl ?_
          refine j_iconst (v := 1) C dX11_clauseHere_79 (by decide) ?_
          refine j_put C 0 8 (ly_X11 C.2.2.2.2.2.2.2.1.1) q_643 rfl rfl (by decide) rfl rfl (by decide) tyX11_ok nmX11 rfl rfl ⟨rfl, rfl⟩ (Nat.le_of_ble_eq_true rfl) rfl dX11_clauseHere_80 ?_
          refine j_nmu (fun u16 eu16 => ?_)
          have h := h u16 eu16
          exact j_vret C dX11_clauseHere_83 h

def wX11_town_b149 (N : Nat) (K : Int32 → MM → Prop) (u : MM) : Prop := ((¬ (u 0 8) = 0 → (K (((-10) : Int32) - (u 0 6)) u)) ∧ ((u 0 8) = 0 → (((u 0 6) = (u 0 7) → (∀ u24 : MM, u24 = up u 1 19 ((u 1 19) + 1) → (∀ u25 : MM, u25 = up u24 1 23 (u24 0 5) → (K (u25 0 5) u25)))) ∧ (¬ (u 0 6) = (u 0 7) → (K (((-10) : Int32) - (u 0 6)) u)))))
def wX11_town_b107 (N : Nat) (K : Int32 → MM → Prop) : Nat → Int32 → MM → Prop
  | 0, _, _ => False
  | n + 1, x1, u => ((¬ (u 0 8) = 0 → (wX11_town_b149 N K u)) ∧ ((u 0 8) = 0 → ((10 ≤ x1 → (wX11_town_b149 N K u)) ∧ (¬ 10 ≤ x1 → (wX11_here N u (fun r15 u16 => ((¬ r15 = 59 → (wX11_town_b149 N K u16)) ∧ (r15 = 59 → (∀ u18 : MM, u18 = up u16 0 6 ((u16 0 6) + 1) → (wX11_clauseHere N u18 (fun u20 => (∀ y21 : Int32, y21 = x1 + 1 → (wX11_town_b107 N K n y21 u20)))))))))))))
def wX11_town (N : Nat) (u : MM) (K : Int32 → MM → Prop) : Prop := ((¬ (u 1 19) = 5 → (∀ u2 : MM, u2 = up u 0 5 (u 1 19) → (∀ u3 : MM, u3 = up u2 0 7 (u2 1 22) → (∀ u4 : MM, u4 = up u3 1 22 0 → (vp_in ((229 + (u4 0 5))) 944 ∧ ∀ u5 : MM, u5 = up u4 1 ((229 + (u4 0 5)).toNatClampNeg) 1 → (vp_in ((234 + (u5 0 5))) 944 ∧ ∀ u6 : MM, u6 = up u5 1 ((234 + (u5 0 5)).toNatClampNeg) 0 → (vp_in ((239 + (u6 0 5))) 944 ∧ ∀ u7 : MM, u7 = up u6 1 ((239 + (u6 0 5)).toNatClampNeg) 0 → (∀ u8 : MM, u8 = up u7 0 6 0 → (∀ u9 : MM, u9 = up u8 0 8 0 → (∀ u10 : MM, u10 = up u9 0 9 0 → (wX11_clauseHere N u10 (fun u12 => (wX11_town_b107 N K N 1 u12))))))))))))) ∧ ((u 1 19) = 5 → (K (-4) u)))
set_option maxRecDepth 100000 in
set_option maxHeartbeats 4000000 in
theorem tX11_town_b149 (l : Launch) (D : va_G) (cI cZ : ClassId) (ad q : Nat → Nat) (N : Nat) {p : Program} {e : Env} {s : State} {m : MethodId} {args : Array Value} {below : List Frame} {meth : Method} {c : Code} {K : Int32 → MM → Prop} (C : CX p s m args meth c cX11_town 2 RX11 (some .int) D cI cZ ad (AJ 9 q s.heap.size)) : ∀ (u : MM), wX11_town_b149 N K u → JX p l e (rr 35 1611) s m args below meth c D (AJ 9 q s.heap.size) 2 (MQ below ((QI D 9 q (entM q cI cZ) K) (AJ 9 q s.heap.size)) args s 0 0 (AJ 9 q s.heap.size)) 9 q (entM q cI cZ) u 149 [(0, .ref (q 0))] [] := by
    intro u h
    refine j_aload_n C 0 dX11_town_149 rfl ?_
    refine j_get C 0 8 (ly_X11 C.2.2.2.2.2.2.2.1.1) q_643 rfl rfl (by decide) rfl rfl (by decide) rfl dX11_town_150 ?_
    refine j_if_ne C 167 dX11_town_153 (by decide) (fun c22 => ?_) (fun c22 => ?_)
    · have h := h.1 c22
      refine j_bipush (v := (-10)) C dX11_town_167 (by decide) ?_
      refine j_aload_n C 0 dX11_town_169 rfl ?_
      refine j_get C 0 6 (ly_X11 C.2.2.2.2.2.2.2.1.1) q_641 rfl rfl (by decide) rfl rfl (by decide) rfl dX11_town_170 ?_
      refine j_isub C dX11_town_173 ?_
      exact j_iret C dX11_town_174 h
    · have h := h.2 c22
      refine j_aload_n C 0 dX11_town_156 rfl ?_
      refine j_get C 0 6 (ly_X11 C.2.2.2.2.2.2.2.1.1) q_641 rfl rfl (by decide) rfl rfl (by decide) rfl dX11_town_157 ?_
      refine j_aload_n C 0 dX11_town_160 rfl ?_
      refine j_get C 0 7 (ly_X11 C.2.2.2.2.2.2.2.1.1) q_642 rfl rfl (by decide) rfl rfl (by decide) rfl dX11_town_161 ?_
      refine j_icmp_eq C 175 dX11_town_164 (by decide) (fun c23 => ?_) (fun c23 => ?_)
      · have h := h.1 c23
        refine j_aload_n C 0 dX11_town_175 rfl ?_
        refine j_get C 0 1 (ly_X11 C.2.2.2.2.2.2.2.1.1) q_636 rfl rfl (by decide) rfl rfl (by decide) rfl dX11_town_176 ?_
        refine j_bipush (v := 19) C dX11_town_179 (by decide) ?_
        refine j_dup2 C dX11_town_181 rfl rfl ?_
        refine j_ialoadK (N := 944) C 1 19 (by decide) (show ¬ ((19 : Int32) < 0 ∨ 944 ≤ (19 : Int32).toNatClampNeg) by decide) (by decide) rfl rfl dX11_town_182 ?_
        refine j_iconst (v := 1) C dX11_town_183 (by decide) ?_
        refine j_iadd C dX11_town_184 ?_
        refine j_iastoreK (N := 944) C 1 19 (by decide) (show ¬ ((19 : Int32) < 0 ∨ 944 ≤ (19 : Int32).toNatClampNeg) by decide) (by decide) (fun _ => rfl) rfl dX11_town_185 (fun u24 eu24 => ?_)
        have h := h u24 eu24
        refine j_aload_n C 0 dX11_town_186 rfl ?_
        refine j_get C 0 1 (ly_X11 C.2.2.2.2.2.2.2.1.1) q_636 rfl rfl (by decide) rfl rfl (by decide) rfl dX11_town_187 ?_
        refine j_bipush (v := 23) C dX11_town_190 (by decide) ?_
        refine j_aload_n C 0 dX11_town_192 rfl ?_
        refine j_get C 0 5 (ly_X11 C.2.2.2.2.2.2.2.1.1) q_640 rfl rfl (by decide) rfl rfl (by decide) rfl dX11_town_193 ?_
        refine j_iastoreK (N := 944) C 1 23 (by decide) (show ¬ ((23 : Int32) < 0 ∨ 944 ≤ (23 : Int32).toNatClampNeg) by decide) (by decide) (fun _ => rfl) rfl dX11_town_196 (fun u25 eu25 => ?_)
        have h := h u25 eu25
        refine j_aload_n C 0 dX11_town_197 rfl ?_
        refine j_get C 0 5 (ly_X11 C.2.2.2.2.2.2.2.1.1) q_640 rfl rfl (by decide) rfl rfl (by decide) rfl dX11_town_198 ?_
        exact j_iret C dX11_town_201 h
      · have h := h.2 c23
        refine j_bipush (v := (-10)) C dX11_town_167 (by decide) ?_
        refine j_aload_n C 0 dX11_town_169 rfl ?_
        refine j_get C 0 6 (ly_X11 C.2.2.2.2.2.2.2.1.1) q_641 rfl rfl (by decide) rfl rfl (by decide) rfl dX11_town_170 ?_
        refine j_isub C dX11_town_173 ?_
        exact j_iret C dX11_town_174 h
set_option maxRecDepth 100000 in
set_option maxHeartbeats 4000000 in
theorem tX11_town_b107 (l : Launch) (D : va_G) (cI cZ : ClassId) (ad q : Nat → Nat) (N : Nat) {p : Program} {e : Env} {s : State} {m : MethodId} {args : Array Value} {below : List Frame} {meth : Method} {c : Code} {K : Int32 → MM → Prop} (C : CX p s m args meth c cX11_town 2 RX11 (some .int) D cI cZ ad (AJ 9 q s.heap.size)) : ∀ (n : Nat) (x1 : Int32) (u : MM), wX11_town_b107 N K n x1 u → JX p l e (rr 35 1611) s m args below meth c D (AJ 9 q s.heap.size) 2 (MQ below ((QI D 9 q (entM q cI cZ) K) (AJ 9 q s.heap.size)) args s 0 0 (AJ 9 q s.heap.size)) 9 q (entM q cI cZ) u 107 [(0, .ref (q 0)), (1, .int x1)] [] := by
  intro n
  induction n with
  | zero => intro x1 u h; exact h.elim
  | succ n ih =>
    intro x1 u h
    refine j_aload_n C 0 dX11_town_107 rfl ?_
    refine j_get C 0 8 (ly_X11 C.2.2.2.2.2.2.2.1.1) q_643 rfl rfl (by decide) rfl rfl (by decide) rfl dX11_town_108 ?_
    refine j_if_ne C 149 dX11_town_111 (by decide) (fun c13 => ?_) (fun c13 => ?_)
    · have h := h.1 c13
      refine j_sub (lv' := [(0, .ref (q 0))]) [0] rfl ?_
      exact tX11_town_b149 l D cI cZ ad q N C _ h
    · have h := h.2 c13
      refine j_iload_n C 1 dX11_town_114 rfl ?_
      refine j_bipush (v := 10) C dX11_town_115 (by decide) ?_
      refine j_icmp_ge C 149 dX11_town_117 (by decide) (fun c14 => ?_) (fun c14 => ?_)
      · have h := h.1 c14
        refine j_sub (lv' := [(0, .ref (q 0))]) [0] rfl ?_
        exact tX11_town_b149 l D cI cZ ad q N C _ h
      · have h := h.2 c14
        refine j_aload_n C 0 dX11_town_120 rfl ?_
        refine j_wi C (fun H locs ls hP hD hS hl => run_V (Cn := "") (As := []) (st := []) C mf_X11_here 0 (kX_X11_here l D cI cZ ad q N h) q_677 (by decide) rfl rfl rfl rfl ⟨rfl, rfl, by decide, by decide⟩ (Nat.le_of_ble_eq_true rfl) dX11_town_121 hP hD hS hl) (fun r15 u16 h => ?_)
        refine j_bipush (v := 59) C dX11_town_124 (by decide) ?_
        refine j_icmp_ne C 149 dX11_town_126 (by decide) (fun c17 => ?_) (fun c17 => ?_)
        · have h := h.1 c17
          refine j_sub (lv' := [(0, .ref (q 0))]) [0] rfl ?_
          exact tX11_town_b149 l D cI cZ ad q N C _ h
        · have h := h.2 c17
          refine j_aload_n C 0 dX11_town_129 rfl ?_
          refine j_dup C dX11_town_130 rfl ?_
          refine j_get C 0 6 (ly_X11 C.2.2.2.2.2.2.2.1.1) q_641 rfl rfl (by decide) rfl rfl (by decide) rfl dX11_town_131 ?_
          refine j_iconst (v := 1) C dX11_town_134 (by decide) ?_
          refine j_iadd C dX11_town_135 ?_
          refine j_put C 0 6 (ly_X11 C.2.2.2.2.2.2.2.1.1) q_641 rfl rfl (by decide) rfl rfl (by decide) tyX11_ok nmX11 rfl rfl ⟨rfl, rfl⟩ (Nat.le_of_ble_eq_true rfl) rfl dX11_town_136 ?_
          refine j_nmu (fun u18 eu18 => ?_)
          have h := h u18 eu18
          refine j_aload_n C 0 dX11_town_139 rfl ?_
          refine j_wv C (fun H locs ls hP hD hS hl => run_V (Cn := "") (As := []) (st := []) C mf_X11_clauseHere 0 (kX_X11_clauseHere l D cI cZ ad q N h) q_674 (by decide) rfl rfl rfl rfl ⟨rfl, rfl, by decide, by decide⟩ (Nat.le_of_ble_eq_true rfl) dX11_town_140 hP hD hS hl) (fun u20 h => ?_)
          obtain ⟨y21, ey21⟩ : ∃ z : Int32, z = x1 + 1 := ⟨_, rfl⟩
          have h := h y21 ey21
          refine j_iinc (v := y21) (lv' := [(1, .int y21), (0, .ref (q 0))]) C 1 dX11_town_143 rfl (by rw [ey21]; rfl) (by decide) rfl ?_
          refine j_goto C 107 dX11_town_146 (by decide) ?_
          refine j_sub (lv' := [(0, .ref (q 0)), (1, .int y21)]) [1, 0] rfl ?_
          exact ih _ _ h
set_option maxRecDepth 100000 in
set_option maxHeartbeats 4000000 in
theorem kX_X11_town (l : Launch) (D : va_G) (cI cZ : ClassId) (ad q : Nat → Nat) (N : Nat) {u : MM} {K : Int32 → MM → Prop} (h : wX11_town N u K) : CT l D cI cZ ad 9 q (entM q cI cZ) yX11_town cX11_town 2 (some .int) (rr 35 1611) [.ref (q 0)] u (QI D 9 q (entM q cI cZ) K) := by
    refine ct_of (by decide +kernel) (Nat.le_of_ble_eq_true rfl) (fun p e s m args below meth c C => ?_)
    refine j_sub (lv' := [(0, .ref (q 0))]) [0] rfl ?_
    refine j_aload_n C 0 dX11_town_0 rfl ?_
    refine j_get C 0 1 (ly_X11 C.2.2.2.2.2.2.2.1.1) q_636 rfl rfl (by decide) rfl rfl (by decide) rfl dX11_town_1 ?_
    refine j_bipush (v := 19) C dX11_town_4 (by decide) ?_
    refine j_ialoadK (N := 944) C 1 19 (by decide) (show ¬ ((19 : Int32) < 0 ∨ 944 ≤ (19 : Int32).toNatClampNeg) by decide) (by decide) rfl rfl dX11_town_6 ?_
    refine j_iconst (v := 5) C dX11_town_7 (by decide) ?_
    refine j_icmp_ne C 14 dX11_town_8 (by decide) (fun c1 => ?_) (fun c1 => ?_)
    · have h := h.1 c1
      refine j_aload_n C 0 dX11_town_14 rfl ?_
      refine j_aload_n C 0 dX11_town_15 rfl ?_
      refine j_get C 0 1 (ly_X11 C.2.2.2.2.2.2.2.1.1) q_636 rfl rfl (by decide) rfl rfl (by decide) rfl dX11_town_16 ?_
      refine j_bipush (v := 19) C dX11_town_19 (by decide) ?_
      refine j_ialoadK (N := 944) C 1 19 (by decide) (show ¬ ((19 : Int32) < 0 ∨ 944 ≤ (19 : Int32).toNatClampNeg) by decide) (by decide) rfl rfl dX11_town_21 ?_
      refine j_put C 0 5 (ly_X11 C.2.2.2.2.2.2.2.1.1) q_640 rfl rfl (by decide) rfl rfl (by decide) tyX11_ok nmX11 rfl rfl ⟨rfl, rfl⟩ (Nat.le_of_ble_eq_true rfl) rfl dX11_town_22 ?_
      refine j_nmu (fun u2 eu2 => ?_)
      have h := h u2 eu2
      refine j_aload_n C 0 dX11_town_25 rfl ?_
      refine j_aload_n C 0 dX11_town_26 rfl ?_
      refine j_get C 0 1 (ly_X11 C.2.2.2.2.2.2.2.1.1) q_636 rfl rfl (by decide) rfl rfl (by decide) rfl dX11_town_27 ?_
      refine j_bipush (v := 22) C dX11_town_30 (by decide) ?_
      refine j_ialoadK (N := 944) C 1 22 (by decide) (show ¬ ((22 : Int32) < 0 ∨ 944 ≤ (22 : Int32).toNatClampNeg) by decide) (by decide) rfl rfl dX11_town_32 ?_
      refine j_put C 0 7 (ly_X11 C.2.2.2.2.2.2.2.1.1) q_642 rfl rfl (by decide) rfl rfl (by decide) tyX11_ok nmX11 rfl rfl ⟨rfl, rfl⟩ (Nat.le_of_ble_eq_true rfl) rfl dX11_town_33 ?_
      refine j_nmu (fun u3 eu3 => ?_)
      have h := h u3 eu3
      refine j_aload_n C 0 dX11_town_36 rfl ?_
      refine j_get C 0 1 (ly_X11 C.2.2.2.2.2.2.2.1.1) q_636 rfl rfl (by decide) rfl rfl (by decide) rfl dX11_town_37 ?_
      refine j_bipush (v := 22) C dX11_town_40 (by decide) ?_
      refine j_iconst (v := 0) C dX11_town_42 (by decide) ?_
      refine j_iastoreK (N := 944) C 1 22 (by decide) (show ¬ ((22 : Int32) < 0 ∨ 944 ≤ (22 : Int32).toNatClampNeg) by decide) (by decide) (fun _ => rfl) rfl dX11_town_43 (fun u4 eu4 => ?_)
      have h := h u4 eu4
      refine j_aload_n C 0 dX11_town_44 rfl ?_
      refine j_get C 0 1 (ly_X11 C.2.2.2.2.2.2.2.1.1) q_636 rfl rfl (by decide) rfl rfl (by decide) rfl dX11_town_45 ?_
      refine j_sipush (v := 229) C dX11_town_48 (by decide) ?_
      refine j_aload_n C 0 dX11_town_51 rfl ?_
      refine j_get C 0 5 (ly_X11 C.2.2.2.2.2.2.2.1.1) q_640 rfl rfl (by decide) rfl rfl (by decide) rfl dX11_town_52 ?_
      refine j_iadd C dX11_town_55 ?_
      refine j_iconst (v := 1) C dX11_town_56 (by decide) ?_
      obtain ⟨hin, h⟩ := h
      refine j_iastoreK (N := 944) C 1 _ rfl hin (by decide) (fun _ => rfl) rfl dX11_town_57 (fun u5 eu5 => ?_)
      have h := h u5 eu5
      refine j_aload_n C 0 dX11_town_58 rfl ?_
      refine j_get C 0 1 (ly_X11 C.2.2.2.2.2.2.2.1.1) q_636 rfl rfl (by decide) rfl rfl (by decide) rfl dX11_town_59 ?_
      refine j_sipush (v := 234) C dX11_town_62 (by decide) ?_
      refine j_aload_n C 0 dX11_town_65 rfl ?_
      refine j_get C 0 5 (ly_X11 C.2.2.2.2.2.2.2.1.1) q_640 rfl rfl (by decide) rfl rfl (by decide) rfl dX11_town_66 ?_
      refine j_iadd C dX11_town_69 ?_
      refine j_iconst (v := 0) C dX11_town_70 (by decide) ?_
      obtain ⟨hin, h⟩ := h
      refine j_iastoreK (N := 944) C 1 _ rfl hin (by decide) (fun _ => rfl) rfl dX11_town_71 (fun u6 eu6 => ?_)
      have h := h u6 eu6
      refine j_aload_n C 0 dX11_town_72 rfl ?_
      refine j_get C 0 1 (ly_X11 C.2.2.2.2.2.2.2.1.1) q_636 rfl rfl (by decide) rfl rfl (by decide) rfl dX11_town_73 ?_
      refine j_sipush (v := 239) C dX11_town_76 (by decide) ?_
      refine j_aload_n C 0 dX11_town_79 rfl ?_
      refine j_get C 0 5 (ly_X11 C.2.2.2.2.2.2.2.1.1) q_640 rfl rfl (by decide) rfl rfl (by decide) rfl dX11_town_80 ?_
      refine j_iadd C dX11_town_83 ?_
      refine j_iconst (v := 0) C dX11_town_84 (by decide) ?_
      obtain ⟨hin, h⟩ := h
      refine j_iastoreK (N := 944) C 1 _ rfl hin (by decide) (fun _ => rfl) rfl dX11_town_85 (fun u7 eu7 => ?_)
      have h := h u7 eu7
      refine j_aload_n C 0 dX11_town_86 rfl ?_
      refine j_iconst (v := 0) C dX11_town_87 (by decide) ?_
      refine j_put C 0 6 (ly_X11 C.2.2.2.2.2.2.2.1.1) q_641 rfl rfl (by decide) rfl rfl (by decide) tyX11_ok nmX11 rfl rfl ⟨rfl, rfl⟩ (Nat.le_of_ble_eq_true rfl) rfl dX11_town_88 ?_
      refine j_nmu (fun u8 eu8 => ?_)
      have h := h u8 eu8
      refine j_aload_n C 0 dX11_town_91 rfl ?_
      refine j_iconst (v := 0) C dX11_town_92 (by decide) ?_
      refine j_put C 0 8 (ly_X11 C.2.2.2.2.2.2.2.1.1) q_643 rfl rfl (by decide) rfl rfl (by decide) tyX11_ok nmX11 rfl rfl ⟨rfl, rfl⟩ (Nat.le_of_ble_eq_true rfl) rfl dX11_town_93 ?_
      refine j_nmu (fun u9 eu9 => ?_)
      have h := h u9 eu9
      refine j_aload_n C 0 dX11_town_96 rfl ?_
      refine j_iconst (v := 0) C dX11_town_97 (by decide) ?_
      refine j_put C 0 9 (ly_X11 C.2.2.2.2.2.2.2.1.1) q_644 rfl rfl (by decide) rfl rfl (by decide) tyX11_ok nmX11 rfl rfl ⟨rfl, rfl⟩ (Nat.le_of_ble_eq_true rfl) rfl dX11_town_98 ?_
      refine j_nmu (fun u10 eu10 => ?_)
      have h := h u10 eu10
      refine j_iconst (v := 1) C dX11_town_101 (by decide) ?_
      refine j_istore_n (lv' := [(1, .int 1), (0, .ref (q 0))]) C dX11_town_102 (by decide) rfl ?_
      refine j_aload_n C 1 dX11_town_103 rfl ?_
      refine j_wv C (fun H locs ls hP hD hS hl => run_V (Cn := "") (As := []) (st := []) C mf_X11_clauseHere 0 (kX_X11_clauseHere l D cI cZ ad q N h) q_674 (by decide) rfl rfl rfl rfl ⟨rfl, rfl, by decide, by decide⟩ (Nat.le_of_ble_eq_true rfl) dX11_town_104 hP hD hS hl) (fun u12 h => ?_)
      refine j_sub (lv' := [(0, .ref (q 0)), (1, .int 1)]) [1, 0] rfl ?_
      exact tX11_town_b107 l D cI cZ ad q N C N _ _ h
    · have h := h.2 c1
      refine j_bipush (v := (-4)) C dX11_town_11 (by decide) ?_
      exact j_iret C dX11_town_13 h
