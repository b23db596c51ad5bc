def wJ6_bitCount_0f7a4 (N : Nat) (x0 : Int32) (K : Int32 → Prop) : Prop := (∀ y1 : Int32, y1 = (x0 - (((x0.toUInt32 >>> ((1 : Int32).toUInt32 &&& Int32.toUInt32 31)).toInt32) &&& 1431655765)) → (∀ y2 : Int32, y2 = ((y1 &&& 858993459) + (((y1.toUInt32 >>> ((2 : Int32).toUInt32 &&& Int32.toUInt32 31)).toInt32) &&& 858993459)) → (∀ y3 : Int32, y3 = ((y2 + ((y2.toUInt32 >>> ((4 : Int32).toUInt32 &&& Int32.toUInt32 31)).toInt32)) &&& 252645135) → (∀ y4 : Int32, y4 = (y3 + ((y3.toUInt32 >>> ((8 : Int32).toUInt32 &&& Int32.toUInt32 31)).toInt32)) → (∀ y5 : Int32, y5 = (y4 + ((y4.toUInt32 >>> ((16 : Int32).toUInt32 &&& Int32.toUInt32 31)).toInt32)) → (K (y5 &&& 63)))))))
set_option maxRecDepth 100000 in
set_option maxHeartbeats 4000000 in
theorem kX_J6_bitCount_0f7a4 (l : Launch) (D : va_G) (cI cZ : ClassId) (ad q : Nat → Nat) (N : Nat) {x0 : Int32} {K : Int32 → Prop} (h : wJ6_bitCount_0f7a4 N x0 K) : CT l D cI cZ ad 0 q (entM q cI cZ) yJ6_bitCount_0f7a4 cJ6_bitCount_0f7a4 1 (some .int) (rr 0 0) [.int x0] u00 (QI D 0 q (entM q cI cZ) (fun r _ => K r)) := by
    refine ct_of (by decide +kernel) (Nat.le_of_ble_eq_true rfl) (fun p e s m args below meth c C => ?_)
    refine j_sub (lv' := [(0, .int x0)]) [0] rfl ?_
    refine j_iload_n C 0 dJ6_bitCount_0f7a4_0 rfl ?_
    refine j_iload_n C 0 dJ6_bitCount_0f7a4_1 rfl ?_
    refine j_iconst (v := 1) C dJ6_bitCount_0f7a4_2 (by decide) ?_
    refine j_iushr C dJ6_bitCount_0f7a4_3 ?_
    refine j_ldcw C 1431655765 q_396 dJ6_bitCount_0f7a4_4 ?_
    refine j_iand C dJ6_bitCount_0f7a4_7 ?_
    refine j_isub C dJ6_bitCount_0f7a4_8 ?_
    refine j_nmi (fun y1 ey1 => ?_)
    have h := h y1 ey1
    refine j_istore_n (lv' := [(0, .int y1)]) C dJ6_bitCount_0f7a4_9 (by decide) rfl ?_
    refine j_iload_n C 0 dJ6_bitCount_0f7a4_10 rfl ?_
    refine j_ldcw C 858993459 q_397 dJ6_bitCount_0f7a4_11 ?_
    refine j_iand C dJ6_bitCount_0f7a4_14 ?_
    refine j_iload_n C 0 dJ6_bitCount_0f7a4_15 rfl ?_
    refine j_iconst (v := 2) C dJ6_bitCount_0f7a4_16 (by decide) ?_
    refine j_iushr C dJ6_bitCount_0f7a4_17 ?_
    refine j_ldcw C 858993459 q_397 dJ6_bitCount_0f7a4_18 ?_
    refine j_iand C dJ6_bitCount_0f7a4_21 ?_
    refine j_iadd C dJ6_bitCount_0f7a4_22 ?_
    refine j_nmi (fun y2 ey2 => ?_)
    have h := h y2 ey2
    refine j_istore_n (lv' := [(0, .int y2)]) C dJ6_bitCount_0f7a4_23 (by decide) rfl ?_
    refine j_iload_n C 0 dJ6_bitCount_0f7a4_24 rfl ?_
    refine j_iload_n C 0 dJ6_bitCount_0f7a4_25 rfl ?_
    refine j_iconst (v := 4) C dJ6_bitCount_0f7a4_26 (by decide) ?_
    refine j_iushr C dJ6_bitCount_0f7a4_27 ?_
    refine j_iadd C dJ6_bitCount_0f7a4_28 ?_
    refine j_ldcw C 252645135 q_398 dJ6_bitCount_0f7a4_29 ?_
    refine j_iand C dJ6_bitCount_0f7a4_32 ?_
    refine j_nmi (fun y3 ey3 => ?_)
    have h := h y3 ey3
    refine j_istore_n (lv' := [(0, .int y3)]) C dJ6_bitCount_0f7a4_33 (by decide) rfl ?_
    refine j_iload_n C 0 dJ6_bitCount_0f7a4_34 rfl ?_
    refine j_iload_n C 0 dJ6_bitCount_0f7a4_35 rfl ?_
    refine j_bipush (v := 8) C dJ6_bitCount_0f7a4_36 (by decide) ?_
    refine j_iushr C dJ6_bitCount_0f7a4_38 ?_
    refine j_iadd C dJ6_bitCount_0f7a4_39 ?_
    refine j_nmi (fun y4 ey4 => ?_)
    have h := h y4 ey4
    refine j_istore_n (lv' := [(0, .int y4)]) C dJ6_bitCount_0f7a4_40 (by decide) rfl ?_
    refine j_iload_n C 0 dJ6_bitCount_0f7a4_41 rfl ?_
    refine j_iload_n C 0 dJ6_bitCount_0f7a4_42 rfl ?_
    refine j_bipush (v := 16) C dJ6_bitCount_0f7a4_43 (by decide) ?_
    refine j_iushr C dJ6_bitCount_0f7a4_45 ?_
    refine j_iadd C dJ6_bitCount_0f7a4_46 ?_
    refine j_nmi (fun y5 ey5 => ?_)
    have h := h y5 ey5
    refine j_istore_n (lv' := [(0, .int y5)]) C dJ6_bitCount_0f7a4_47 (by decide) rfl ?_
    refine j_iload_n C 0 dJ6_bitCount_0f7a4_48 rfl ?_
    refine j_bipush (v := 63) C dJ6_bitCount_0f7a4_49 (by decide) ?_
    refine j_iand C dJ6_bitCount_0f7a4_51 ?_
    exact j_iret (K := fun r _ => K r) C dJ6_bitCount_0f7a4_52 h

def wX0_setOne (N : Nat) (x1 : Int32) (x2 : Int32) (x3 : Int32) (u : MM) (K : MM → Prop) : Prop := (∀ u1 : MM, u1 = up u 4 0 x1 → (∀ u2 : MM, u2 = up u1 4 1 x2 → (∀ u3 : MM, u3 = up u2 4 2 x3 → (K u3))))
set_option maxRecDepth 100000 in
set_option maxHeartbeats 4000000 in
theorem kX_X0_setOne (l : Launch) (D : va_G) (cI cZ : ClassId) (ad q : Nat → Nat) (N : Nat) {x1 : Int32} {x2 : Int32} {x3 : Int32} {u : MM} {K : MM → Prop} (h : wX0_setOne N x1 x2 x3 u K) : CT l D cI cZ ad 72 q (entC q cI cZ) yX0_setOne cX0_setOne 4 none (rr 0 0) [.ref (q 4), .int x1, .int x2, .int x3] u (QV D 72 q (entC q cI cZ) K) := by
    refine ct_of (by decide +kernel) (Nat.le_of_ble_eq_true rfl) (fun p e s m args below meth c C => ?_)
    refine j_sub (lv' := [(0, .ref (q 4)), (1, .int x1), (2, .int x2), (3, .int x3)]) [0, 1, 2, 3] rfl ?_
    refine j_aload_n C 0 dX0_setOne_0 rfl ?_
    refine j_iload_n C 1 dX0_setOne_1 rfl ?_
    refine j_put C 4 0 (ly_X0 C.2.2.2.2.2.2.2.1.1) q_214 rfl rfl (by decide) rfl rfl (by decide) tyX0_ok nmX0 rfl rfl ⟨rfl, rfl⟩ (Nat.le_of_ble_eq_true rfl) rfl dX0_setOne_2 ?_
    refine j_nmu (fun u1 eu1 => ?_)
    have h := h u1 eu1
    refine j_aload_n C 0 dX0_setOne_5 rfl ?_
    refine j_iload_n C 2 dX0_setOne_6 rfl ?_
    refine j_put C 4 1 (ly_X0 C.2.2.2.2.2.2.2.1.1) q_215 rfl rfl (by decide) rfl rfl (by decide) tyX0_ok nmX0 rfl rfl ⟨rfl, rfl⟩ (Nat.le_of_ble_eq_true rfl) rfl dX0_setOne_7 ?_
    refine j_nmu (fun u2 eu2 => ?_)
    have h := h u2 eu2
    refine j_aload_n C 0 dX0_setOne_10 rfl ?_
    refine j_iload_n C 3 dX0_setOne_11 rfl ?_
    refine j_put C 4 2 (ly_X0 C.2.2.2.2.2.2.2.1.1) q_216 rfl rfl (by decide) rfl rfl (by decide) tyX0_ok nmX0 rfl rfl ⟨rfl, rfl⟩ (Nat.le_of_ble_eq_true rfl) rfl dX0_setOne_12 ?_
    refine j_nmu (fun u3 eu3 => ?_)
    have h := h u3 eu3
    exact j_vret C dX0_setOne_15 h

def wX0_run_b19 (N : Nat) (K : MM → Prop) (u : MM) : Prop := (∀ u3 : MM, u3 = up u 4 3 ((u 4 3) + 1) → (K u3))
def wX0_run (N : Nat) (x1 : Int32) (u : MM) (K : MM → Prop) : Prop := ((20 ≤ (u 4 3) → (wX0_run_b19 N K u)) ∧ (¬ 20 ≤ (u 4 3) → (vp_in ((u 4 3)) 20 ∧ ∀ u2 : MM, u2 = up u 5 ((u 4 3).toNatClampNeg) x1 → (wX0_run_b19 N K u2))))
set_option maxRecDepth 100000 in
set_option maxHeartbeats 4000000 in
theorem tX0_run_b19 (l : Launch) (D : va_G) (cI cZ : ClassId) (ad q : Nat → Nat) (N : Nat) {p : Program} {e : Env} {s : State} {m : MethodId} {args : Array Value} {below : List Frame} {meth : Method} {c : Code} {K : MM → Prop} (C : CX p s m args meth c cX0_run 2 RX0 none D cI cZ ad (AJ 72 q s.heap.size)) : ∀ (u : MM), wX0_run_b19 N K u → JX p l e (rr 0 0) s m args below meth c D (AJ 72 q s.heap.size) 2 (MQ below ((QV D 72 q (entC q cI cZ) K) (AJ 72 q s.heap.size)) args s 0 0 (AJ 72 q s.heap.size)) 72 q (entC q cI cZ) u 19 [(0, .ref (q 4))] [] := by
    intro u h
    refine j_aload_n C 0 dX0_run_19 rfl ?_
    refine j_dup C dX0_run_20 rfl ?_
    refine j_get C 4 3 (ly_X0 C.2.2.2.2.2.2.2.1.1) q_217 rfl rfl (by decide) rfl rfl (by decide) rfl dX0_run_21 ?_
    refine j_iconst (v := 1) C dX0_run_24 (by decide) ?_
    refine j_iadd C dX0_run_25 ?_
    refine j_put C 4 3 (ly_X0 C.2.2.2.2.2.2.2.1.1) q_217 rfl rfl (by decide) rfl rfl (by decide) tyX0_ok nmX0 rfl rfl ⟨rfl, rfl⟩ (Nat.le_of_ble_eq_true rfl) rfl dX0_run_26 ?_
    refine j_nmu (fun u3 eu3 => ?_)
    have h := h u3 eu3
    exact j_vret C dX0_run_29 h
set_option maxRecDepth 100000 in
set_option maxHeartbeats 4000000 in
theorem kX_X0_run (l : Launch) (D : va_G) (cI cZ : ClassId) (ad q : Nat → Nat) (N : Nat) {x1 : Int32} {u : MM} {K : MM → Prop} (h : wX0_run N x1 u K) : CT l D cI cZ ad 72 q (entC q cI cZ) yX0_run cX0_run 2 none (rr 0 0) [.ref (q 4), .int x1] u (QV D 72 q (entC q cI cZ) K) := by
    refine ct_of (by decide +kernel) (Nat.le_of_ble_eq_true rfl) (fun p e s m args below meth c C => ?_)
    refine j_sub (lv' := [(0, .ref (q 4)), (1, .int x1)]) [0, 1] rfl ?_
    refine j_aload_n C 0 dX0_run_0 rfl ?_
    refine j_get C 4 3 (ly_X0 C.2.2.2.2.2.2.2.1.1) q_217 rfl rfl (by decide) rfl rfl (by decide) rfl dX0_run_1 ?_
    refine j_bipush (v := 20) C dX0_run_4 (by decide) ?_
    refine j_icmp_ge C 19 dX0_run_6 (by decide) (fun c1 => ?_) (fun c1 => ?_)
    · have h := h.1 c1
      refine j_sub (lv' := [(0, .ref (q 4))]) [0] rfl ?_
      exact tX0_run_b19 l D cI cZ ad q N C _ h
    · have h := h.2 c1
      refine j_aload_n C 0 dX0_run_9 rfl ?_
      refine j_get C 4 4 (ly_X0 C.2.2.2.2.2.2.2.1.1) q_219 rfl rfl (by decide) rfl rfl (by decide) rfl dX0_run_10 ?_
      refine j_aload_n C 0 dX0_run_13 rfl ?_
      refine j_get C 4 3 (ly_X0 C.2.2.2.2.2.2.2.1.1) q_217 rfl rfl (by decide) rfl rfl (by decide) rfl dX0_run_14 ?_
      refine j_iload_n C 1 dX0_run_17 rfl ?_
      obtain ⟨hin, h⟩ := h
      refine j_iastoreK (N := 20) C 5 _ rfl hin (by decide) (fun _ => rfl) rfl dX0_run_18 (fun u2 eu2 => ?_)
      have h := h u2 eu2
      refine j_sub (lv' := [(0, .ref (q 4))]) [0] rfl ?_
      exact tX0_run_b19 l D cI cZ ad q N C _ h

def wX10_isIn (N : Nat) (x0 : Int32) (x1 : Int32) (K : Int32 → Prop) : Prop := ((x0 < 0 → (K 0)) ∧ (¬ x0 < 0 → ((x1 ≤ x0 → (K 0)) ∧ (¬ x1 ≤ x0 → (K 1)))))
set_option maxRecDepth 100000 in
set_option maxHeartbeats 4000000 in
theorem kX_X10_isIn (l : Launch) (D : va_G) (cI cZ : ClassId) (ad q : Nat → Nat) (N : Nat) {x0 : Int32} {x1 : Int32} {K : Int32 → Prop} (h : wX10_isIn N x0 x1 K) : CT l D cI cZ ad 0 q (entM q cI cZ) yX10_isIn cX10_isIn 2 (some .boolean) (rr 0 0) [.int x0, .int x1] u00 (QI D 0 q (entM q cI cZ) (fun r _ => K r)) := by
    refine ct_of (by decide +kernel) (Nat.le_of_ble_eq_true rfl) (fun p e s m args below meth c C => ?_)
    refine j_sub (lv' := [(0, .int x0), (1, .int x1)]) [0, 1] rfl ?_
    refine j_iload_n C 0 dX10_isIn_0 rfl ?_
    refine j_if_lt C 13 dX10_isIn_1 (by decide) (fun c1 => ?_) (fun c1 => ?_)
    · have h := h.1 c1
      refine j_iconst (v := 0) C dX10_isIn_13 (by decide) ?_
      exact j_zret (K := fun r _ => K r) C dX10_isIn_14 rfl h
    · have h := h.2 c1
      refine j_iload_n C 0 dX10_isIn_4 rfl ?_
      refine j_iload_n C 1 dX10_isIn_5 rfl ?_
      refine j_icmp_ge C 13 dX10_isIn_6 (by decide) (fun c2 => ?_) (fun c2 => ?_)
      · have h := h.1 c2
        refine j_iconst (v := 0) C dX10_isIn_13 (by decide) ?_
        exact j_zret (K := fun r _ => K r) C dX10_isIn_14 rfl h
      · have h := h.2 c2
        refine j_iconst (v := 1) C dX10_isIn_9 (by decide) ?_
        refine j_goto C 14 dX10_isIn_10 (by decide) ?_
        exact j_zret (K := fun r _ => K r) C dX10_isIn_14 rfl h

def wX10_isUnder_b4 (N : Nat) (K : Int32 → Prop) : Nat → Int32 → Int32 → Int32 → Prop
  | 0, _, _, _ => False
  | n + 1, x1, x2, x3 => ((7 ≤ x3 → (K 0)) ∧ (¬ 7 ≤ x3 → (wX10_isIn N x2 7 (fun r2 => ((r2 = 0 → (K 0)) ∧ (¬ r2 = 0 → ((¬ x2 = x1 → (vp_in x2 7 ∧ (∀ y5 : Int32, y5 = (kab x2.toNatClampNeg) → (∀ y6 : Int32, y6 = x3 + 1 → (wX10_isUnder_b4 N K n x1 y5 y6))))) ∧ (x2 = x1 → (K 1)))))))))
def wX10_isUnder (N : Nat) (x0 : Int32) (x1 : Int32) (K : Int32 → Prop) : Prop := (wX10_isUnder_b4 N K N x1 x0 0)
set_option maxRecDepth 100000 in
set_option maxHeartbeats 4000000 in
theorem tX10_isUnder_b4 (l : Launch) (D : va_G) (cI cZ : ClassId) (ad q : Nat → Nat) (N : Nat) {p : Program} {e : Env} {s : State} {m : MethodId} {args : Array Value} {below : List Frame} {meth : Method} {c : Code} {K : Int32 → Prop} (C : CX p s m args meth c cX10_isUnder 4 RX10 (some .boolean) D cI cZ ad (AJ 0 q s.heap.size)) : ∀ (n : Nat) (x1 : Int32) (x2 : Int32) (x3 : Int32), wX10_isUnder_b4 N K n x1 x2 x3 → JX p l e (rr 1 21) s m args below meth c D (AJ 0 q s.heap.size) 4 (MQ below ((QI D 0 q (entM q cI cZ) (fun r _ => K r)) (AJ 0 q s.heap.size)) args s 0 0 (AJ 0 q s.heap.size)) 0 q (entM q cI cZ) u00 4 [(1, .int x1), (2, .int x2), (3, .int x3)] [] := by
  intro n
  induction n with
  | zero => intro x1 x2 x3 h; exact h.elim
  | succ n ih =>
    intro x1 x2 x3 h
    refine j_iload_n C 2 dX10_isUnder_4 rfl ?_
    refine j_bipush (v := 7) C dX10_isUnder_5 (by decide) ?_
    refine j_icmp_ge C 38 dX10_isUnder_7 (by decide) (fun c1 => ?_) (fun c1 => ?_)
    · have h := h.1 c1
      refine j_iconst (v := 0) C dX10_isUnder_38 (by decide) ?_
      exact j_zret (K := fun r _ => K r) C dX10_isUnder_39 rfl h
    · have h := h.2 c1
      refine j_iload_n C 1 dX10_isUnder_10 rfl ?_
      refine j_bipush (v := 7) C dX10_isUnder_11 (by decide) ?_
      refine j_ui C (fun H locs ls hP hD => run_S (As := [.int x2, .int 7]) (st := []) C mf_X10_isIn (kX_X10_isIn l D cI cZ ad q N h) q_348 rfl rfl ⟨rfl, rfl, by decide, by decide⟩ (Nat.le_of_ble_eq_true rfl) dX10_isUnder_13 hP hD) (fun r2 _ h => ?_)
      refine j_if_eq C 38 dX10_isUnder_16 (by decide) (fun c3 => ?_) (fun c3 => ?_)
      · have h := h.1 c3
        refine j_iconst (v := 0) C dX10_isUnder_38 (by decide) ?_
        exact j_zret (K := fun r _ => K r) C dX10_isUnder_39 rfl h
      · have h := h.2 c3
        refine j_iload_n C 1 dX10_isUnder_19 rfl ?_
        refine j_iload_n C 0 dX10_isUnder_20 rfl ?_
        refine j_icmp_ne C 26 dX10_isUnder_21 (by decide) (fun c4 => ?_) (fun c4 => ?_)
        · have h := h.1 c4
          refine j_getK C q_582 dX10_isUnder_26 ?_
          refine j_iload_n C 1 dX10_isUnder_29 rfl ?_
          obtain ⟨hin, h⟩ := h
          refine j_tiK C hin dX10_isUnder_30 ?_
          refine j_nmi (fun y5 ey5 => ?_)
          have h := h y5 ey5
          refine j_istore_n (lv' := [(2, .int y5), (1, .int x1), (3, .int x3)]) C dX10_isUnder_31 (by decide) rfl ?_
          obtain ⟨y6, ey6⟩ : ∃ z : Int32, z = x3 + 1 := ⟨_, rfl⟩
          have h := h y6 ey6
          refine j_iinc (v := y6) (lv' := [(3, .int y6), (2, .int y5), (1, .int x1)]) C 2 dX10_isUnder_32 rfl (by rw [ey6]; rfl) (by decide) rfl ?_
          refine j_goto C 4 dX10_isUnder_35 (by decide) ?_
          refine j_sub (lv' := [(1, .int x1), (2, .int y5), (3, .int y6)]) [2, 1, 0] rfl ?_
          exact ih _ _ _ h
        · have h := h.2 c4
          refine j_iconst (v := 1) C dX10_isUnder_24 (by decide) ?_
          exact j_zret (K := fun r _ => K r) C dX10_isUnder_25 rfl h
set_option maxRecDepth 100000 in
set_option maxHeartbeats 4000000 in
theorem kX_X10_isUnder (l : Launch) (D : va_G) (cI cZ : ClassId) (ad q : Nat → Nat) (N : Nat) {x0 : Int32} {x1 : Int32} {K : Int32 → Prop} (h : wX10_isUnder N x0 x1 K) : CT l D cI cZ ad 0 q (entM q cI cZ) yX10_isUnder cX10_isUnder 4 (some .boolean) (rr 1 21) [.int x0, .int x1] u00 (QI D 0 q (entM q cI cZ) (fun r _ => K r)) := by
    refine ct_of (by decide +kernel) (Nat.le_of_ble_eq_true rfl) (fun p e s m args below meth c C => ?_)
    refine j_sub (lv' := [(0, .int x0), (1, .int x1)]) [0, 1] rfl ?_
    refine j_iload_n C 0 dX10_isUnder_0 rfl ?_
    refine j_istore_n (lv' := [(2, .int x0), (0, .int x0), (1, .int x1)]) C dX10_isUnder_1 (by decide) rfl ?_
    refine j_iconst (v := 0) C dX10_isUnder_2 (by decide) ?_
    refine j_istore_n (lv' := [(3, .int 0), (2, .int x0), (0, .int x0), (1, .int x1)]) C dX10_isUnder_3 (by decide) rfl ?_
    refine j_sub (lv' := [(1, .int x1), (2, .int x0), (3, .int 0)]) [3, 1, 0] rfl ?_
    exact tX10_isUnder_b4 l D cI cZ ad q N C N _ _ _ h

def wX0_hears (N : Nat) (x1 : Int32) (u : MM) (K : Int32 → MM → Prop) : Prop := (wX10_isUnder N (u 4 0) 1 (fun r1 => ((r1 = 0 → (wX10_isUnder N (u 4 0) 5 (fun r3 => ((r3 = 0 → (wX0_run N 1 u (fun u6 => (K (x1 + (u6 4 1)) u6)))) ∧ (¬ r3 = 0 → (wX0_run N 51 u (fun u8 => (wX0_run N 1 u8 (fun u10 => (K ((x1 + (u10 4 1)) ^^^ (u10 4 1)) u10)))))))))) ∧ (¬ r1 = 0 → (wX0_run N 11 u (fun u12 => (wX0_run N 1 u12 (fun u14 => (K ((x1 * 3) + (u14 4 1)) u14)))))))))
set_option maxRecDepth 100000 in
set_option maxHeartbeats 4000000 in
theorem kX_X0_hears (l : Launch) (D : va_G) (cI cZ : ClassId) (ad q : Nat → Nat) (N : Nat) {x1 : Int32} {u : MM} {K : Int32 → MM → Prop} (h : wX0_hears N x1 u K) : CT l D cI cZ ad 72 q (entC q cI cZ) yX0_hears cX0_hears 2 (some .int) (rr 2 44) [.ref (q 4), .int x1] u (QI D 72 q (entC q cI cZ) K) := by
    refine ct_of (by decide +kernel) (Nat.le_of_ble_eq_true rfl) (fun p e s m args below meth c C => ?_)
    refine j_sub (lv' := [(0, .ref (q 4)), (1, .int x1)]) [0, 1] rfl ?_
    refine j_aload_n C 0 dX0_hears_0 rfl ?_
    refine j_get C 4 0 (ly_X0 C.2.2.2.2.2.2.2.1.1) q_214 rfl rfl (by decide) rfl rfl (by decide) rfl dX0_hears_1 ?_
    refine j_iconst (v := 1) C dX0_hears_4 (by decide) ?_
    refine j_ui C (fun H locs ls hP hD => run_SN (As := [.int (u 4 0), .int 1]) (st := []) C mf_X10_isUnder (kX_X10_isUnder l D cI cZ ad q N h) q_579 rfl rfl ⟨rfl, rfl, by decide, by decide⟩ (Nat.le_of_ble_eq_true rfl) dX0_hears_5 hP hD) (fun r1 _ h => ?_)
    refine j_if_eq C 31 dX0_hears_8 (by decide) (fun c2 => ?_) (fun c2 => ?_)
    · have h := h.1 c2
      refine j_aload_n C 0 dX0_hears_31 rfl ?_
      refine j_get C 4 0 (ly_X0 C.2.2.2.2.2.2.2.1.1) q_214 rfl rfl (by decide) rfl rfl (by decide) rfl dX0_hears_32 ?_
      refine j_iconst (v := 5) C dX0_hears_35 (by decide) ?_
      refine j_ui C (fun H locs ls hP hD => run_SN (As := [.int (u 4 0), .int 5]) (st := []) C mf_X10_isUnder (kX_X10_isUnder l D cI cZ ad q N h) q_579 rfl rfl ⟨rfl, rfl, by decide, by decide⟩ (Nat.le_of_ble_eq_true rfl) dX0_hears_36 hP hD) (fun r3 _ h => ?_)
      refine j_if_eq C 65 dX0_hears_39 (by decide) (fun c4 => ?_) (fun c4 => ?_)
      · have h := h.1 c4
        refine j_aload_n C 0 dX0_hears_65 rfl ?_
        refine j_iconst (v := 1) C dX0_hears_66 (by decide) ?_
        refine j_wv C (fun H locs ls hP hD hS hl => run_V (Cn := "") (As := [.int 1]) (st := []) C mf_X0_run 4 (kX_X0_run l D cI cZ ad q N h) q_583 (by decide) rfl rfl rfl rfl ⟨rfl, rfl, by decide, by decide⟩ (Nat.le_of_ble_eq_true rfl) dX0_hears_67 hP hD hS hl) (fun u6 h => ?_)
        refine j_iload_n C 1 dX0_hears_70 rfl ?_
        refine j_aload_n C 0 dX0_hears_71 rfl ?_
        refine j_get C 4 1 (ly_X0 C.2.2.2.2.2.2.2.1.1) q_215 rfl rfl (by decide) rfl rfl (by decide) rfl dX0_hears_72 ?_
        refine j_iadd C dX0_hears_75 ?_
        exact j_iret C dX0_hears_76 h
      · have h := h.2 c4
        refine j_aload_n C 0 dX0_hears_42 rfl ?_
        refine j_bipush (v := 51) C dX0_hears_43 (by decide) ?_
        refine j_wv C (fun H locs ls hP hD hS hl => run_V (Cn := "") (As := [.int 51]) (st := []) C mf_X0_run 4 (kX_X0_run l D cI cZ ad q N h) q_583 (by decide) rfl rfl rfl rfl ⟨rfl, rfl, by decide, by decide⟩ (Nat.le_of_ble_eq_true rfl) dX0_hears_45 hP hD hS hl) (fun u8 h => ?_)
        refine j_aload_n C 0 dX0_hears_48 rfl ?_
        refine j_iconst (v := 1) C dX0_hears_49 (by decide) ?_
        refine j_wv C (fun H locs ls hP hD hS hl => run_V (Cn := "") (As := [.int 1]) (st := []) C mf_X0_run 4 (kX_X0_run l D cI cZ ad q N h) q_583 (by decide) rfl rfl rfl rfl ⟨rfl, rfl, by decide, by decide⟩ (Nat.le_of_ble_eq_true rfl) dX0_hears_50 hP hD hS hl) (fun u10 h => ?_)
        refine j_iload_n C 1 dX0_hears_53 rfl ?_
        refine j_aload_n C 0 dX0_hears_54 rfl ?_
        refine j_get C 4 1 (ly_X0 C.2.2.2.2.2.2.2.1.1) q_215 rfl rfl (by decide) rfl rfl (by decide) rfl dX0_hears_55 ?_
        refine j_iadd C dX0_hears_58 ?_
        refine j_aload_n C 0 dX0_hears_59 rfl ?_
        refine j_get C 4 1 (ly_X0 C.2.2.2.2.2.2.2.1.1) q_215 rfl rfl (by decide) rfl rfl (by decide) rfl dX0_hears_60 ?_
        refine j_ixor C dX0_hears_63 ?_
        exact j_iret C dX0_hears_64 h
    · have h := h.2 c2
      refine j_aload_n C 0 dX0_hears_11 rfl ?_
      refine j_bipush (v := 11) C dX0_hears_12 (by decide) ?_
      refine j_wv C (fun H locs ls hP hD hS hl => run_V (Cn := "") (As := [.int 11]) (st := []) C mf_X0_run 4 (kX_X0_run l D cI cZ ad q N h) q_583 (by decide) rfl rfl rfl rfl ⟨rfl, rfl, by decide, by decide⟩ (Nat.le_of_ble_eq_true rfl) dX0_hears_14 hP hD hS hl) (fun u12 h => ?_)
      refine j_aload_n C 0 dX0_hears_17 rfl ?_
      refine j_iconst (v := 1) C dX0_hears_18 (by decide) ?_
      refine j_wv C (fun H locs ls hP hD hS hl => run_V (Cn := "") (As := [.int 1]) (st := []) C mf_X0_run 4 (kX_X0_run l D cI cZ ad q N h) q_583 (by decide) rfl rfl rfl rfl ⟨rfl, rfl, by decide, by decide⟩ (Nat.le_of_ble_eq_true rfl) dX0_hears_19 hP hD hS hl) (fun u14 h => ?_)
      refine j_iload_n C 1 dX0_hears_22 rfl ?_
      refine j_iconst (v := 3) C dX0_hears_23 (by decide) ?_
      refine j_imul C dX0_hears_24 ?_
      refine j_aload_n C 0 dX0_hears_25 rfl ?_
      refine j_get C 4 1 (ly_X0 C.2.2.2.2.2.2.2.1.1) q_215 rfl rfl (by decide) rfl rfl (by decide) rfl dX0_hears_26 ?_
      refine j_iadd C dX0_hears_29 ?_
      exact j_iret C dX0_hears_30 h

def wX0_tells (N : Nat) (x1 : Int32) (u : MM) (K : Int32 → MM → Prop) : Prop := (wX10_isUnder N (u 4 0) 2 (fun r1 => ((r1 = 0 → (wX10_isUnder N (u 4 0) 6 (fun r3 => ((r3 = 0 → (wX0_run N 2 u (fun u6 => (wX0_hears N x1 u6 (fun r7 u8 => (K (r7 - (u8 4 2)) u8)))))) ∧ (¬ r3 = 0 → (wX0_run N 61 u (fun u10 => (wX0_run N 2 u10 (fun u12 => (wX0_hears N x1 u12 (fun r13 u14 => (K ((r13 - (u14 4 2)) + (u14 4 2)) u14)))))))))))) ∧ (¬ r1 = 0 → (wX0_run N 21 u (fun u16 => (wX0_run N 2 u16 (fun u18 => (wX0_hears N x1 u18 (fun r19 u20 => (K (-(r19 - (u20 4 2))) u20)))))))))))
set_option maxRecDepth 100000 in
set_option maxHeartbeats 4000000 in
theorem kX_X0_tells (l : Launch) (D : va_G) (cI cZ : ClassId) (ad q : Nat → Nat) (N : Nat) {x1 : Int32} {u : MM} {K : Int32 → MM → Prop} (h : wX0_tells N x1 u K) : CT l D cI cZ ad 72 q (entC q cI cZ) yX0_tells cX0_tells 2 (some .int) (rr 3 65) [.ref (q 4), .int x1] u (QI D 72 q (entC q cI cZ) K) := by
    refine ct_of (by decide +kernel) (Nat.le_of_ble_eq_true rfl) (fun p e s m args below meth c C => ?_)
    refine j_sub (lv' := [(0, .ref (q 4)), (1, .int x1)]) [0, 1] rfl ?_
    refine j_aload_n C 0 dX0_tells_0 rfl ?_
    refine j_get C 4 0 (ly_X0 C.2.2.2.2.2.2.2.1.1) q_214 rfl rfl (by decide) rfl rfl (by decide) rfl dX0_tells_1 ?_
    refine j_iconst (v := 2) C dX0_tells_4 (by decide) ?_
    refine j_ui C (fun H locs ls hP hD => run_SN (As := [.int (u 4 0), .int 2]) (st := []) C mf_X10_isUnder (kX_X10_isUnder l D cI cZ ad q N h) q_579 rfl rfl ⟨rfl, rfl, by decide, by decide⟩ (Nat.le_of_ble_eq_true rfl) dX0_tells_5 hP hD) (fun r1 _ h => ?_)
    refine j_if_eq C 34 dX0_tells_8 (by decide) (fun c2 => ?_) (fun c2 => ?_)
    · have h := h.1 c2
      refine j_aload_n C 0 dX0_tells_34 rfl ?_
      refine j_get C 4 0 (ly_X0 C.2.2.2.2.2.2.2.1.1) q_214 rfl rfl (by decide) rfl rfl (by decide) rfl dX0_tells_35 ?_
      refine j_bipush (v := 6) C dX0_tells_38 (by decide) ?_
      refine j_ui C (fun H locs ls hP hD => run_SN (As := [.int (u 4 0), .int 6]) (st := []) C mf_X10_isUnder (kX_X10_isUnder l D cI cZ ad q N h) q_579 rfl rfl ⟨rfl, rfl, by decide, by decide⟩ (Nat.le_of_ble_eq_true rfl) dX0_tells_40 hP hD) (fun r3 _ h => ?_)
      refine j_if_eq C 73 dX0_tells_43 (by decide) (fun c4 => ?_) (fun c4 => ?_)
      · have h := h.1 c4
        refine j_aload_n C 0 dX0_tells_73 rfl ?_
        refine j_iconst (v := 2) C dX0_tells_74 (by decide) ?_
        refine j_wv C (fun H locs ls hP hD hS hl => run_V (Cn := "") (As := [.int 2]) (st := []) C mf_X0_run 4 (kX_X0_run l D cI cZ ad q N h) q_583 (by decide) rfl rfl rfl rfl ⟨rfl, rfl, by decide, by decide⟩ (Nat.le_of_ble_eq_true rfl) dX0_tells_75 hP hD hS hl) (fun u6 h => ?_)
        refine j_aload_n C 0 dX0_tells_78 rfl ?_
        refine j_iload_n C 1 dX0_tells_79 rfl ?_
        refine j_wi C (fun H locs ls hP hD hS hl => run_V (Cn := "") (As := [.int x1]) (st := []) C mf_X0_hears 4 (kX_X0_hears l D cI cZ ad q N h) q_589 (by decide) rfl rfl rfl rfl ⟨rfl, rfl, by decide, by decide⟩ (Nat.le_of_ble_eq_true rfl) dX0_tells_80 hP hD hS hl) (fun r7 u8 h => ?_)
        refine j_aload_n C 0 dX0_tells_83 rfl ?_
        refine j_get C 4 2 (ly_X0 C.2.2.2.2.2.2.2.1.1) q_216 rfl rfl (by decide) rfl rfl (by decide) rfl dX0_tells_84 ?_
        refine j_isub C dX0_tells_87 ?_
        exact j_iret C dX0_tells_88 h
      · have h := h.2 c4
        refine j_aload_n C 0 dX0_tells_46 rfl ?_
        refine j_bipush (v := 61) C dX0_tells_47 (by decide) ?_
        refine j_wv C (fun H locs ls hP hD hS hl => run_V (Cn := "") (As := [.int 61]) (st := []) C mf_X0_run 4 (kX_X0_run l D cI cZ ad q N h) q_583 (by decide) rfl rfl rfl rfl ⟨rfl, rfl, by decide, by decide⟩ (Nat.le_of_ble_eq_true rfl) dX0_tells_49 hP hD hS hl) (fun u10 h => ?_)
        refine j_aload_n C 0 dX0_tells_52 rfl ?_
        refine j_iconst (v := 2) C dX0_tells_53 (by decide) ?_
        refine j_wv C (fun H locs ls hP hD hS hl => run_V (Cn := "") (As := [.int 2]) (st := []) C mf_X0_run 4 (kX_X0_run l D cI cZ ad q N h) q_583 (by decide) rfl rfl rfl rfl ⟨rfl, rfl, by decide, by decide⟩ (Nat.le_of_ble_eq_true rfl) dX0_tells_54 hP hD hS hl) (fun u12 h => ?_)
        refine j_aload_n C 0 dX0_tells_57 rfl ?_
        refine j_iload_n C 1 dX0_tells_58 rfl ?_
        refine j_wi C (fun H locs ls hP hD hS hl => run_V (Cn := "") (As := [.int x1]) (st := []) C mf_X0_hears 4 (kX_X0_hears l D cI cZ ad q N h) q_589 (by decide) rfl rfl rfl rfl ⟨rfl, rfl, by decide, by decide⟩ (Nat.le_of_ble_eq_true rfl) dX0_tells_59 hP hD hS hl) (fun r13 u14 h => ?_)
        refine j_aload_n C 0 dX0_tells_62 rfl ?_
        refine j_get C 4 2 (ly_X0 C.2.2.2.2.2.2.2.1.1) q_216 rfl rfl (by decide) rfl rfl (by decide) rfl dX0_tells_63 ?_
        refine j_isub C dX0_tells_66 ?_
        refine j_aload_n C 0 dX0_tells_67 rfl ?_
        refine j_get C 4 2 (ly_X0 C.2.2.2.2.2.2.2.1.1) q_216 rfl rfl (by decide) rfl rfl (by decide) rfl dX0_tells_68 ?_
        refine j_iadd C dX0_tells_71 ?_
        exact j_iret C dX0_tells_72 h
    · have h := h.2 c2
      refine j_aload_n C 0 dX0_tells_11 rfl ?_
      refine j_bipush (v := 21) C dX0_tells_12 (by decide) ?_
      refine j_wv C (fun H locs ls hP hD hS hl => run_V (Cn := "") (As := [.int 21]) (st := []) C mf_X0_run 4 (kX_X0_run l D cI cZ ad q N h) q_583 (by decide) rfl rfl rfl rfl ⟨rfl, rfl, by decide, by decide⟩ (Nat.le_of_ble_eq_true rfl) dX0_tells_14 hP hD hS hl) (fun u16 h => ?_)
      refine j_aload_n C 0 dX0_tells_17 rfl ?_
      refine j_iconst (v := 2) C dX0_tells_18 (by decide) ?_
      refine j_wv C (fun H locs ls hP hD hS hl => run_V (Cn := "") (As := [.int 2]) (st := []) C mf_X0_run 4 (kX_X0_run l D cI cZ ad q N h) q_583 (by decide) rfl rfl rfl rfl ⟨rfl, rfl, by decide, by decide⟩ (Nat.le_of_ble_eq_true rfl) dX0_tells_19 hP hD hS hl) (fun u18 h => ?_)
      refine j_aload_n C 0 dX0_tells_22 rfl ?_
      refine j_iload_n C 1 dX0_tells_23 rfl ?_
      refine j_wi C (fun H locs ls hP hD hS hl => run_V (Cn := "") (As := [.int x1]) (st := []) C mf_X0_hears 4 (kX_X0_hears l D cI cZ ad q N h) q_589 (by decide) rfl rfl rfl rfl ⟨rfl, rfl, by decide, by decide⟩ (Nat.le_of_ble_eq_true rfl) dX0_tells_24 hP hD hS hl) (fun r19 u20 h => ?_)
      refine j_aload_n C 0 dX0_tells_27 rfl ?_
      refine j_get C 4 2 (ly_X0 C.2.2.2.2.2.2.2.1.1) q_216 rfl rfl (by decide) rfl rfl (by decide) rfl dX0_tells_28 ?_
      refine j_isub C dX0_tells_31 ?_
      refine j_ineg C dX0_tells_32 ?_
      exact j_iret C dX0_tells_33 h

def wX0_pays (N : Nat) (x1 : Int32) (u : MM) (K : Int32 → MM → Prop) : Prop := (wX10_isUnder N (u 4 0) 3 (fun r1 => ((r1 = 0 → (wX10_isUnder N (u 4 0) 4 (fun r3 => ((r3 = 0 → (wX0_run N 3 u (fun u6 => (wX0_tells N x1 u6 (fun r7 u8 => (K (r7 * 2) u8)))))) ∧ (¬ r3 = 0 → (wX0_run N 41 u (fun u10 => (wX0_run N 3 u10 (fun u12 => (wX0_tells N (x1 - 1) u12 (fun r13 u14 => (wX0_hears N 2 u14 (fun r15 u16 => (K ((r13 * 2) + r15) u16)))))))))))))) ∧ (¬ r1 = 0 → (wX0_run N 31 u (fun u18 => (wX0_run N 3 u18 (fun u20 => (wX0_tells N x1 u20 (fun r21 u22 => (K ((r21 * 2) ^^^ 7) u22)))))))))))
set_option maxRecDepth 100000 in
set_option maxHeartbeats 4000000 in
theorem kX_X0_pays (l : Launch) (D : va_G) (cI cZ : ClassId) (ad q : Nat → Nat) (N : Nat) {x1 : Int32} {u : MM} {K : Int32 → MM → Prop} (h : wX0_pays N x1 u K) : CT l D cI cZ ad 72 q (entC q cI cZ) yX0_pays cX0_pays 2 (some .int) (rr 4 86) [.ref (q 4), .int x1] u (QI D 72 q (entC q cI cZ) K) := by
    refine ct_of (by decide +kernel) (Nat.le_of_ble_eq_true rfl) (fun p e s m args below meth c C => ?_)
    refine j_sub (lv' := [(0, .ref (q 4)), (1, .int x1)]) [0, 1] rfl ?_
    refine j_aload_n C 0 dX0_pays_0 rfl ?_
    refine j_get C 4 0 (ly_X0 C.2.2.2.2.2.2.2.1.1) q_214 rfl rfl (by decide) rfl rfl (by decide) rfl dX0_pays_1 ?_
    refine j_iconst (v := 3) C dX0_pays_4 (by decide) ?_
    refine j_ui C (fun H locs ls hP hD => run_SN (As := [.int (u 4 0), .int 3]) (st := []) C mf_X10_isUnder (kX_X10_isUnder l D cI cZ ad q N h) q_579 rfl rfl ⟨rfl, rfl, by decide, by decide⟩ (Nat.le_of_ble_eq_true rfl) dX0_pays_5 hP hD) (fun r1 _ h => ?_)
    refine j_if_eq C 33 dX0_pays_8 (by decide) (fun c2 => ?_) (fun c2 => ?_)
    · have h := h.1 c2
      refine j_aload_n C 0 dX0_pays_33 rfl ?_
      refine j_get C 4 0 (ly_X0 C.2.2.2.2.2.2.2.1.1) q_214 rfl rfl (by decide) rfl rfl (by decide) rfl dX0_pays_34 ?_
      refine j_iconst (v := 4) C dX0_pays_37 (by decide) ?_
      refine j_ui C (fun H locs ls hP hD => run_SN (As := [.int (u 4 0), .int 4]) (st := []) C mf_X10_isUnder (kX_X10_isUnder l D cI cZ ad q N h) q_579 rfl rfl ⟨rfl, rfl, by decide, by decide⟩ (Nat.le_of_ble_eq_true rfl) dX0_pays_38 hP hD) (fun r3 _ h => ?_)
      refine j_if_eq C 71 dX0_pays_41 (by decide) (fun c4 => ?_) (fun c4 => ?_)
      · have h := h.1 c4
        refine j_aload_n C 0 dX0_pays_71 rfl ?_
        refine j_iconst (v := 3) C dX0_pays_72 (by decide) ?_
        refine j_wv C (fun H locs ls hP hD hS hl => run_V (Cn := "") (As := [.int 3]) (st := []) C mf_X0_run 4 (kX_X0_run l D cI cZ ad q N h) q_583 (by decide) rfl rfl rfl rfl ⟨rfl, rfl, by decide, by decide⟩ (Nat.le_of_ble_eq_true rfl) dX0_pays_73 hP hD hS hl) (fun u6 h => ?_)
        refine j_aload_n C 0 dX0_pays_76 rfl ?_
        refine j_iload_n C 1 dX0_pays_77 rfl ?_
        refine j_wi C (fun H locs ls hP hD hS hl => run_V (Cn := "") (As := [.int x1]) (st := []) C mf_X0_tells 4 (kX_X0_tells l D cI cZ ad q N h) q_593 (by decide) rfl rfl rfl rfl ⟨rfl, rfl, by decide, by decide⟩ (Nat.le_of_ble_eq_true rfl) dX0_pays_78 hP hD hS hl) (fun r7 u8 h => ?_)
        refine j_iconst (v := 2) C dX0_pays_81 (by decide) ?_
        refine j_imul C dX0_pays_82 ?_
        exact j_iret C dX0_pays_83 h
      · have h := h.2 c4
        refine j_aload_n C 0 dX0_pays_44 rfl ?_
        refine j_bipush (v := 41) C dX0_pays_45 (by decide) ?_
        refine j_wv C (fun H locs ls hP hD hS hl => run_V (Cn := "") (As := [.int 41]) (st := []) C mf_X0_run 4 (kX_X0_run l D cI cZ ad q N h) q_583 (by decide) rfl rfl rfl rfl ⟨rfl, rfl, by decide, by decide⟩ (Nat.le_of_ble_eq_true rfl) dX0_pays_47 hP hD hS hl) (fun u10 h => ?_)
        refine j_aload_n C 0 dX0_pays_50 rfl ?_
        refine j_iconst (v := 3) C dX0_pays_51 (by decide) ?_
        refine j_wv C (fun H locs ls hP hD hS hl => run_V (Cn := "") (As := [.int 3]) (st := []) C mf_X0_run 4 (kX_X0_run l D cI cZ ad q N h) q_583 (by decide) rfl rfl rfl rfl ⟨rfl, rfl, by decide, by decide⟩ (Nat.le_of_ble_eq_true rfl) dX0_pays_52 hP hD hS hl) (fun u12 h => ?_)
        refine j_aload_n C 0 dX0_pays_55 rfl ?_
        refine j_iload_n C 1 dX0_pays_56 rfl ?_
        refine j_iconst (v := 1) C dX0_pays_57 (by decide) ?_
        refine j_isub C dX0_pays_58 ?_
        refine j_wi C (fun H locs ls hP hD hS hl => run_V (Cn := "") (As := [.int (x1 - 1)]) (st := []) C mf_X0_tells 4 (kX_X0_tells l D cI cZ ad q N h) q_593 (by decide) rfl rfl rfl rfl ⟨rfl, rfl, by decide, by decide⟩ (Nat.le_of_ble_eq_true rfl) dX0_pays_59 hP hD hS hl) (fun r13 u14 h => ?_)
        refine j_iconst (v := 2) C dX0_pays_62 (by decide) ?_
        refine j_imul C dX0_pays_63 ?_
        refine j_aload_n C 0 dX0_pays_64 rfl ?_
        refine j_iconst (v := 2) C dX0_pays_65 (by decide) ?_
        refine j_wi C (fun H locs ls hP hD hS hl => run_V (Cn := "") (As := [.int 2]) (st := [.int (r13 * 2)]) C mf_X0_hears 4 (kX_X0_hears l D cI cZ ad q N h) q_589 (by decide) rfl rfl rfl rfl ⟨rfl, rfl, by decide, by decide⟩ (Nat.le_of_ble_eq_true rfl) dX0_pays_66 hP hD hS hl) (fun r15 u16 h => ?_)
        refine j_iadd C dX0_pays_69 ?_
        exact j_iret C dX0_pays_70 h
    · have h := h.2 c2
      refine j_aload_n C 0 dX0_pays_11 rfl ?_
      refine j_bipush (v := 31) C dX0_pays_12 (by decide) ?_
      refine j_wv C (fun H locs ls hP hD hS hl => run_V (Cn := "") (As := [.int 31]) (st := []) C mf_X0_run 4 (kX_X0_run l D cI cZ ad q N h) q_583 (by decide) rfl rfl rfl rfl ⟨rfl, rfl, by decide, by decide⟩ (Nat.le_of_ble_eq_true rfl) dX0_pays_14 hP hD hS hl) (fun u18 h => ?_)
      refine j_aload_n C 0 dX0_pays_17 rfl ?_
      refine j_iconst (v := 3) C dX0_pays_18 (by decide) ?_
      refine j_wv C (fun H locs ls hP hD hS hl => run_V (Cn := "") (As := [.int 3]) (st := []) C mf_X0_run 4 (kX_X0_run l D cI cZ ad q N h) q_583 (by decide) rfl rfl rfl rfl ⟨rfl, rfl, by decide, by decide⟩ (Nat.le_of_ble_eq_true rfl) dX0_pays_19 hP hD hS hl) (fun u20 h => ?_)
      refine j_aload_n C 0 dX0_pays_22 rfl ?_
      refine j_iload_n C 1 dX0_pays_23 rfl ?_
      refine j_wi C (fun H locs ls hP hD hS hl => run_V (Cn := "") (As := [.int x1]) (st := []) C mf_X0_tells 4 (kX_X0_tells l D cI cZ ad q N h) q_593 (by decide) rfl rfl rfl rfl ⟨rfl, rfl, by decide, by decide⟩ (Nat.le_of_ble_eq_true rfl) dX0_pays_24 hP hD hS hl) (fun r21 u22 h => ?_)
      refine j_iconst (v := 2) C dX0_pays_27 (by decide) ?_
      refine j_imul C dX0_pays_28 ?_
      refine j_bipush (v := 7) C dX0_pays_29 (by decide) ?_
      refine j_ixor C dX0_pays_31 ?_
      exact j_iret C dX0_pays_32 h

def wX9_startWith (N : Nat) (t : Nat) (x1 : Int32) (x2 : Int32) (x3 : Int32) (u : MM) (K : MM → Prop) : Prop := (∀ u1 : MM, u1 = up u t 0 x3 → (∀ u2 : MM, u2 = up u1 t 1 0 → (∀ u3 : MM, u3 = up u2 t 2 ((1 : Int32) <<< (x1 &&& 31)) → (∀ u4 : MM, u4 = up u3 t 3 0 → (vp_in x1 7 ∧ ∀ u5 : MM, u5 = up u4 (t + 1) (x1.toNatClampNeg) x2 → (vp_in x1 7 ∧ ∀ u6 : MM, u6 = up u5 (t + 2) (x1.toNatClampNeg) x3 → (K u6)))))))
set_option maxRecDepth 100000 in
set_option maxHeartbeats 4000000 in
theorem kX_X9_startWith_27 (l : Launch) (D : va_G) (cI cZ : ClassId) (ad q : Nat → Nat) (N : Nat) {x1 : Int32} {x2 : Int32} {x3 : Int32} {u : MM} {K : MM → Prop} (h : wX9_startWith N 27 x1 x2 x3 u K) : CT l D cI cZ ad 72 q (entC q cI cZ) yX9_startWith cX9_startWith 4 none (rr 0 0) [.ref (q 27), .int x1, .int x2, .int x3] u (QV D 72 q (entC q cI cZ) K) := by
    refine ct_of (by decide +kernel) (Nat.le_of_ble_eq_true rfl) (fun p e s m args below meth c C => ?_)
    refine j_sub (lv' := [(0, .ref (q 27)), (1, .int x1), (2, .int x2), (3, .int x3)]) [0, 1, 2, 3] rfl ?_
    refine j_aload_n C 0 dX9_startWith_0 rfl ?_
    refine j_iload_n C 3 dX9_startWith_1 rfl ?_
    refine j_put C 27 0 (ly_X9 C.2.2.2.2.2.2.2.1.1) q_107 rfl rfl (by decide) rfl rfl (by decide) tyX9_ok nmX9 rfl rfl ⟨rfl, rfl⟩ (Nat.le_of_ble_eq_true rfl) rfl dX9_startWith_2 ?_
    refine j_nmu (fun u1 eu1 => ?_)
    have h := h u1 eu1
    refine j_aload_n C 0 dX9_startWith_5 rfl ?_
    refine j_iconst (v := 0) C dX9_startWith_6 (by decide) ?_
    refine j_put C 27 1 (ly_X9 C.2.2.2.2.2.2.2.1.1) q_111 rfl rfl (by decide) rfl rfl (by decide) tyX9_ok nmX9 rfl rfl ⟨rfl, rfl⟩ (Nat.le_of_ble_eq_true rfl) rfl dX9_startWith_7 ?_
    refine j_nmu (fun u2 eu2 => ?_)
    have h := h u2 eu2
    refine j_aload_n C 0 dX9_startWith_10 rfl ?_
    refine j_iconst (v := 1) C dX9_startWith_11 (by decide) ?_
    refine j_iload_n C 1 dX9_startWith_12 rfl ?_
    refine j_ishl C dX9_startWith_13 ?_
    refine j_put C 27 2 (ly_X9 C.2.2.2.2.2.2.2.1.1) q_115 rfl rfl (by decide) rfl rfl (by decide) tyX9_ok nmX9 rfl rfl ⟨rfl, rfl⟩ (Nat.le_of_ble_eq_true rfl) rfl dX9_startWith_14 ?_
    refine j_nmu (fun u3 eu3 => ?_)
    have h := h u3 eu3
    refine j_aload_n C 0 dX9_startWith_17 rfl ?_
    refine j_iconst (v := 0) C dX9_startWith_18 (by decide) ?_
    refine j_put C 27 3 (ly_X9 C.2.2.2.2.2.2.2.1.1) q_119 rfl rfl (by decide) rfl rfl (by decide) tyX9_ok nmX9 rfl rfl ⟨rfl, rfl⟩ (Nat.le_of_ble_eq_true rfl) rfl dX9_startWith_19 ?_
    refine j_nmu (fun u4 eu4 => ?_)
    have h := h u4 eu4
    refine j_aload_n C 0 dX9_startWith_22 rfl ?_
    refine j_get C 27 4 (ly_X9 C.2.2.2.2.2.2.2.1.1) q_122 rfl rfl (by decide) rfl rfl (by decide) rfl dX9_startWith_23 ?_
    refine j_iload_n C 1 dX9_startWith_26 rfl ?_
    refine j_iload_n C 2 dX9_startWith_27 rfl ?_
    obtain ⟨hin, h⟩ := h
    refine j_iastoreK (N := 7) C 28 _ rfl hin (by decide) (fun _ => rfl) rfl dX9_startWith_28 (fun u5 eu5 => ?_)
    have h := h u5 eu5
    refine j_aload_n C 0 dX9_startWith_29 rfl ?_
    refine j_get C 27 5 (ly_X9 C.2.2.2.2.2.2.2.1.1) q_125 rfl rfl (by decide) rfl rfl (by decide) rfl dX9_startWith_30 ?_
    refine j_iload_n C 1 dX9_startWith_33 rfl ?_
    refine j_iload_n C 3 dX9_startWith_34 rfl ?_
    obtain ⟨hin, h⟩ := h
    refine j_iastoreK (N := 7) C 29 _ rfl hin (by decide) (fun _ => rfl) rfl dX9_startWith_35 (fun u6 eu6 => ?_)
    have h := h u6 eu6
    exact j_vret C dX9_startWith_36 h
set_option maxRecDepth 100000 in
set_option maxHeartbeats 4000000 in
theorem kX_X9_startWith_7 (l : Launch) (D : va_G) (cI cZ : ClassId) (ad q : Nat → Nat) (N : Nat) {x1 : Int32} {x2 : Int32} {x3 : Int32} {u : MM} {K : MM → Prop} (h : wX9_startWith N 7 x1 x2 x3 u K) : CT l D cI cZ ad 72 q (entC q cI cZ) yX9_startWith cX9_startWith 4 none (rr 0 0) [.ref (q 7), .int x1, .int x2, .int x3] u (QV D 72 q (entC q cI cZ) K) := by
    refine ct_of (by decide +kernel) (Nat.le_of_ble_eq_true rfl) (fun p e s m args below meth c C => ?_)
    refine j_sub (lv' := [(0, .ref (q 7)), (1, .int x1), (2, .int x2), (3, .int x3)]) [0, 1, 2, 3] rfl ?_
    refine j_aload_n C 0 dX9_startWith_0 rfl ?_
    refine j_iload_n C 3 dX9_startWith_1 rfl ?_
    refine j_put C 7 0 (ly_X9 C.2.2.2.2.2.2.2.1.1) q_107 rfl rfl (by decide) rfl rfl (by decide) tyX9_ok nmX9 rfl rfl ⟨rfl, rfl⟩ (Nat.le_of_ble_eq_true rfl) rfl dX9_startWith_2 ?_
    refine j_nmu (fun u1 eu1 => ?_)
    have h := h u1 eu1
    refine j_aload_n C 0 dX9_startWith_5 rfl ?_
    refine j_iconst (v := 0) C dX9_startWith_6 (by decide) ?_
    refine j_put C 7 1 (ly_X9 C.2.2.2.2.2.2.2.1.1) q_111 rfl rfl (by decide) rfl rfl (by decide) tyX9_ok nmX9 rfl rfl ⟨rfl, rfl⟩ (Nat.le_of_ble_eq_true rfl) rfl dX9_startWith_7 ?_
    refine j_nmu (fun u2 eu2 => ?_)
    have h := h u2 eu2
    refine j_aload_n C 0 dX9_startWith_10 rfl ?_
    refine j_iconst (v := 1) C dX9_startWith_11 (by decide) ?_
    refine j_iload_n C 1 dX9_startWith_12 rfl ?_
    refine j_ishl C dX9_startWith_13 ?_
    refine j_put C 7 2 (ly_X9 C.2.2.2.2.2.2.2.1.1) q_115 rfl rfl (by decide) rfl rfl (by decide) tyX9_ok nmX9 rfl rfl ⟨rfl, rfl⟩ (Nat.le_of_ble_eq_true rfl) rfl dX9_startWith_14 ?_
    refine j_nmu (fun u3 eu3 => ?_)
    have h := h u3 eu3
    refine j_aload_n C 0 dX9_startWith_17 rfl ?_
    refine j_iconst (v := 0) C dX9_startWith_18 (by decide) ?_
    refine j_put C 7 3 (ly_X9 C.2.2.2.2.2.2.2.1.1) q_119 rfl rfl (by decide) rfl rfl (by decide) tyX9_ok nmX9 rfl rfl ⟨rfl, rfl⟩ (Nat.le_of_ble_eq_true rfl) rfl dX9_startWith_19 ?_
    refine j_nmu (fun u4 eu4 => ?_)
    have h := h u4 eu4
    refine j_aload_n C 0 dX9_startWith_22 rfl ?_
    refine j_get C 7 4 (ly_X9 C.2.2.2.2.2.2.2.1.1) q_122 rfl rfl (by decide) rfl rfl (by decide) rfl dX9_startWith_23 ?_
    refine j_iload_n C 1 dX9_startWith_26 rfl ?_
    refine j_iload_n C 2 dX9_startWith_27 rfl ?_
    obtain ⟨hin, h⟩ := h
    refine j_iastoreK (N := 7) C 8 _ rfl hin (by decide) (fun _ => rfl) rfl dX9_startWith_28 (fun u5 eu5 => ?_)
    have h := h u5 eu5
    refine j_aload_n C 0 dX9_startWith_29 rfl ?_
    refine j_get C 7 5 (ly_X9 C.2.2.2.2.2.2.2.1.1) q_125 rfl rfl (by decide) rfl rfl (by decide) rfl dX9_startWith_30 ?_
    refine j_iload_n C 1 dX9_startWith_33 rfl ?_
    refine j_iload_n C 3 dX9_startWith_34 rfl ?_
    obtain ⟨hin, h⟩ := h
    refine j_iastoreK (N := 7) C 9 _ rfl hin (by decide) (fun _ => rfl) rfl dX9_startWith_35 (fun u6 eu6 => ?_)
    have h := h u6 eu6
    exact j_vret C dX9_startWith_36 h

def wX9_yetToTell (N : Nat) (t : Nat) (u : MM) (K : Int32 → MM → Prop) : Prop := (K ((u t 2) &&& ((u t 3) ^^^ ((-1) : Int32))) u)
set_option maxRecDepth 100000 in
set_option maxHeartbeats 4000000 in
theorem kX_X9_yetToTell_27 (l : Launch) (D : va_G) (cI cZ : ClassId) (ad q : Nat → Nat) (N : Nat) {u : MM} {K : Int32 → MM → Prop} (h : wX9_yetToTell N 27 u K) : CT l D cI cZ ad 72 q (entC q cI cZ) yX9_yetToTell cX9_yetToTell 1 (some .int) (rr 0 0) [.ref (q 27)] u (QI D 72 q (entC q cI cZ) K) := by
    refine ct_of (by decide +kernel) (Nat.le_of_ble_eq_true rfl) (fun p e s m args below meth c C => ?_)
    refine j_sub (lv' := [(0, .ref (q 27))]) [0] rfl ?_
    refine j_aload_n C 0 dX9_yetToTell_0 rfl ?_
    refine j_get C 27 2 (ly_X9 C.2.2.2.2.2.2.2.1.1) q_115 rfl rfl (by decide) rfl rfl (by decide) rfl dX9_yetToTell_1 ?_
    refine j_aload_n C 0 dX9_yetToTell_4 rfl ?_
    refine j_get C 27 3 (ly_X9 C.2.2.2.2.2.2.2.1.1) q_119 rfl rfl (by decide) rfl rfl (by decide) rfl dX9_yetToTell_5 ?_
    refine j_iconst (v := (-1)) C dX9_yetToTell_8 (by decide) ?_
    refine j_ixor C dX9_yetToTell_9 ?_
    refine j_iand C dX9_yetToTell_10 ?_
    exact j_iret C dX9_yetToTell_11 h
set_option maxRecDepth 100000 in
set_option maxHeartbeats 4000000 in
theorem kX_X9_yetToTell_7 (l : Launch) (D : va_G) (cI cZ : ClassId) (ad q : Nat → Nat) (N : Nat) {u : MM} {K : Int32 → MM → Prop} (h : wX9_yetToTell N 7 u K) : CT l D cI cZ ad 72 q (entC q cI cZ) yX9_yetToTell cX9_yetToTell 1 (some .int) (rr 0 0) [.ref (q 7)] u (QI D 72 q (entC q cI cZ) K) := by
    refine ct_of (by decide +kernel) (Nat.le_of_ble_eq_true rfl) (fun p e s m args below meth c C => ?_)
    refine j_sub (lv' := [(0, .ref (q 7))]) [0] rfl ?_
    refine j_aload_n C 0 dX9_yetToTell_0 rfl ?_
    refine j_get C 7 2 (ly_X9 C.2.2.2.2.2.2.2.1.1) q_115 rfl rfl (by decide) rfl rfl (by decide) rfl dX9_yetToTell_1 ?_
    refine j_aload_n C 0 dX9_yetToTell_4 rfl ?_
    refine j_get C 7 3 (ly_X9 C.2.2.2.2.2.2.2.1.1) q_119 rfl rfl (by decide) rfl rfl (by decide) rfl dX9_yetToTell_5 ?_
    refine j_iconst (v := (-1)) C dX9_yetToTell_8 (by decide) ?_
    refine j_ixor C dX9_yetToTell_9 ?_
    refine j_iand C dX9_yetToTell_10 ?_
    exact j_iret C dX9_yetToTell_11 h

def wX2_deafOn_b41 (N : Nat) (K : Int32 → MM → Prop) (ro4 : Int32 → Int32 → Int32 → MM → Prop) (x1 : Int32) (x2 : Int32) (x3 : Int32) (u : MM) : Prop := (∀ y5 : Int32, y5 = x3 + 1 → (ro4 x1 x2 y5 u))
def wX2_deafOn_b4 (N : Nat) (K : Int32 → MM → Prop) : Nat → Int32 → Int32 → Int32 → MM → Prop
  | 0, _, _, _, _ => False
  | n + 1, x1, x2, x3, u => (((u 21 0) ≤ x3 → (K x2 u)) ∧ (¬ (u 21 0) ≤ x3 → (vp_in x3 7 ∧ ((¬ (u 22 x3.toNatClampNeg) = 5 → (wX2_deafOn_b41 N K (wX2_deafOn_b4 N K n) x1 x2 x3 u)) ∧ ((u 22 x3.toNatClampNeg) = 5 → (vp_in x3 7 ∧ (¬ ((u 23 x3.toNatClampNeg) + 2) = 0 ∧ ((¬ (x1 - x1 / ((u 23 x3.toNatClampNeg) + 2) * ((u 23 x3.toNatClampNeg) + 2)) = 0 → (wX2_deafOn_b41 N K (wX2_deafOn_b4 N K n) x1 x2 x3 u)) ∧ ((x1 - x1 / ((u 23 x3.toNatClampNeg) + 2) * ((u 23 x3.toNatClampNeg) + 2)) = 0 → (∀ y4 : Int32, y4 = (x2 ||| ((1 : Int32) <<< (x3 &&& 31))) → (wX2_deafOn_b41 N K (wX2_deafOn_b4 N K n) x1 y4 x3 u)))))))))))
def wX2_deafOn (N : Nat) (x1 : Int32) (u : MM) (K : Int32 → MM → Prop) : Prop := (wX2_deafOn_b4 N K N x1 0 0 u)
set_option maxRecDepth 100000 in
set_option maxHeartbeats 4000000 in
theorem tX2_deafOn_b41 (l : Launch) (D : va_G) (cI cZ : ClassId) (ad q : Nat → Nat) (N : Nat) {p : Program} {e : Env} {s : State} {m : MethodId} {args : Array Value} {below : List Frame} {meth : Method} {c : Code} {K : Int32 → MM → Prop} (C : CX p s m args meth c cX2_deafOn 4 RX2 (some .int) D cI cZ ad (AJ 72 q s.heap.size)) {ro4 : Int32 → Int32 → Int32 → MM → Prop} (hro4 : ∀ (x1 : Int32) (x2 : Int32) (x3 : Int32) (u : MM), ro4 x1 x2 x3 u → JX p l e (rr 0 0) s m args below meth c D (AJ 72 q s.heap.size) 4 (MQ below ((QI D 72 q (entC q cI cZ) K) (AJ 72 q s.heap.size)) args s 0 0 (AJ 72 q s.heap.size)) 72 q (entC q cI cZ) u 4 [(0, .ref (q 21)), (1, .int x1), (2, .int x2), (3, .int x3)] []) : ∀ (x1 : Int32) (x2 : Int32) (x3 : Int32) (u : MM), wX2_deafOn_b41 N K ro4 x1 x2 x3 u → JX p l e (rr 0 0) s m args below meth c D (AJ 72 q s.heap.size) 4 (MQ below ((QI D 72 q (entC q cI cZ) K) (AJ 72 q s.heap.size)) args s 0 0 (AJ 72 q s.heap.size)) 72 q (entC q cI cZ) u 41 [(0, .ref (q 21)), (1, .int x1), (2, .int x2), (3, .int x3)] [] := by
    intro x1 x2 x3 u h
    obtain ⟨y5, ey5⟩ : ∃ z : Int32, z = x3 + 1 := ⟨_, rfl⟩
    have h := h y5 ey5
    refine j_iinc (v := y5) (lv' := [(3, .int y5), (0, .ref (q 21)), (1, .int x1), (2, .int x2)]) C 3 dX2_deafOn_41 rfl (by rw [ey5]; rfl) (by decide) rfl ?_
    refine j_goto C 4 dX2_deafOn_44 (by decide) ?_
    refine j_sub (lv' := [(0, .ref (q 21)), (1, .int x1), (2, .int x2), (3, .int y5)]) [1, 2, 3, 0] rfl ?_
    exact hro4 _ _ _ _ h
set_option maxRecDepth 100000 in
set_option maxHeartbeats 4000000 in
theorem tX2_deafOn_b4 (l : Launch) (D : va_G) (cI cZ : ClassId) (ad q : Nat → Nat) (N : Nat) {p : Program} {e : Env} {s : State} {m : MethodId} {args : Array Value} {below : List Frame} {meth : Method} {c : Code} {K : Int32 → MM → Prop} (C : CX p s m args meth c cX2_deafOn 4 RX2 (some .int) D cI cZ ad (AJ 72 q s.heap.size)) : ∀ (n : Nat) (x1 : Int32) (x2 : Int32) (x3 : Int32) (u : MM), wX2_deafOn_b4 N K n x1 x2 x3 u → JX p l e (rr 0 0) s m args below meth c D (AJ 72 q s.heap.size) 4 (MQ below ((QI D 72 q (entC q cI cZ) K) (AJ 72 q s.heap.size)) args s 0 0 (AJ 72 q s.heap.size)) 72 q (entC q cI cZ) u 4 [(0, .ref (q 21)), (1, .int x1), (2, .int x2), (3, .int x3)] [] := by
  intro n
  induction n with
  | zero => intro x1 x2 x3 u h; exact h.elim
  | succ n ih =>
    intro x1 x2 x3 u h
    refine j_iload_n C 3 dX2_deafOn_4 rfl ?_
    refine j_aload_n C 0 dX2_deafOn_5 rfl ?_
    refine j_get C 21 0 (ly_X2 C.2.2.2.2.2.2.2.1.1) q_85 rfl rfl (by decide) rfl rfl (by decide) rfl dX2_deafOn_6 ?_
    refine j_icmp_ge C 47 dX2_deafOn_9 (by decide) (fun c1 => ?_) (fun c1 => ?_)
    · have h := h.1 c1
      refine j_iload_n C 2 dX2_deafOn_47 rfl ?_
      exact j_iret C dX2_deafOn_48 h
    · have h := h.2 c1
      refine j_aload_n C 0 dX2_deafOn_12 rfl ?_
      refine j_get C 21 1 (ly_X2 C.2.2.2.2.2.2.2.1.1) q_89 rfl rfl (by decide) rfl rfl (by decide) rfl dX2_deafOn_13 ?_
      refine j_iload_n C 3 dX2_deafOn_16 rfl ?_
      obtain ⟨hin, h⟩ := h
      refine j_ialoadK (N := 7) C 22 _ rfl hin (by decide) rfl rfl dX2_deafOn_17 ?_
      refine j_iconst (v := 5) C dX2_deafOn_18 (by decide) ?_
      refine j_icmp_ne C 41 dX2_deafOn_19 (by decide) (fun c2 => ?_) (fun c2 => ?_)
      · have h := h.1 c2
        exact tX2_deafOn_b41 l D cI cZ ad q N C ih _ _ _ _ h
      · have h := h.2 c2
        refine j_iload_n C 1 dX2_deafOn_22 rfl ?_
        refine j_aload_n C 0 dX2_deafOn_23 rfl ?_
        refine j_get C 21 2 (ly_X2 C.2.2.2.2.2.2.2.1.1) q_92 rfl rfl (by decide) rfl rfl (by decide) rfl dX2_deafOn_24 ?_
        refine j_iload_n C 3 dX2_deafOn_27 rfl ?_
        obtain ⟨hin, h⟩ := h
        refine j_ialoadK (N := 7) C 23 _ rfl hin (by decide) rfl rfl dX2_deafOn_28 ?_
        refine j_iconst (v := 2) C dX2_deafOn_29 (by decide) ?_
        refine j_iadd C dX2_deafOn_30 ?_
        obtain ⟨hne, h⟩ := h
        refine j_irem C dX2_deafOn_31 hne ?_
        refine j_if_ne C 41 dX2_deafOn_32 (by decide) (fun c3 => ?_) (fun c3 => ?_)
        · have h := h.1 c3
          exact tX2_deafOn_b41 l D cI cZ ad q N C ih _ _ _ _ h
        · have h := h.2 c3
          refine j_iload_n C 2 dX2_deafOn_35 rfl ?_
          refine j_iconst (v := 1) C dX2_deafOn_36 (by decide) ?_
          refine j_iload_n C 3 dX2_deafOn_37 rfl ?_
          refine j_ishl C dX2_deafOn_38 ?_
          refine j_ior C dX2_deafOn_39 ?_
          refine j_nmi (fun y4 ey4 => ?_)
          have h := h y4 ey4
          refine j_istore_n (lv' := [(2, .int y4), (0, .ref (q 21)), (1, .int x1), (3, .int x3)]) C dX2_deafOn_40 (by decide) rfl ?_
          refine j_sub (lv' := [(0, .ref (q 21)), (1, .int x1), (2, .int y4), (3, .int x3)]) [1, 2, 0, 3] rfl ?_
          exact tX2_deafOn_b41 l D cI cZ ad q N C ih _ _ _ _ h
set_option maxRecDepth 100000 in
set_option maxHeartbeats 4000000 in
theorem kX_X2_deafOn (l : Launch) (D : va_G) (cI cZ : ClassId) (ad q : Nat → Nat) (N : Nat) {x1 : Int32} {u : MM} {K : Int32 → MM → Prop} (h : wX2_deafOn N x1 u K) : CT l D cI cZ ad 72 q (entC q cI cZ) yX2_deafOn cX2_deafOn 4 (some .int) (rr 0 0) [.ref (q 21), .int x1] u (QI D 72 q (entC q cI cZ) K) := by
    refine ct_of (by decide +kernel) (Nat.le_of_ble_eq_true rfl) (fun p e s m args below meth c C => ?_)
    refine j_sub (lv' := [(0, .ref (q 21)), (1, .int x1)]) [0, 1] rfl ?_
    refine j_iconst (v := 0) C dX2_deafOn_0 (by decide) ?_
    refine j_istore_n (lv' := [(2, .int 0), (0, .ref (q 21)), (1, .int x1)]) C dX2_deafOn_1 (by decide) rfl ?_
    refine j_iconst (v := 0) C dX2_deafOn_2 (by decide) ?_
    refine j_istore_n (lv' := [(3, .int 0), (2, .int 0), (0, .ref (q 21)), (1, .int x1)]) C dX2_deafOn_3 (by decide) rfl ?_
    refine j_sub (lv' := [(0, .ref (q 21)), (1, .int x1), (2, .int 0), (3, .int 0)]) [2, 3, 1, 0] rfl ?_
    exact tX2_deafOn_b4 l D cI cZ ad q N C N _ _ _ _ h

def wX10_hasBit (N : Nat) (x0 : Int32) (x1 : Int32) (K : Int32 → Prop) : Prop := ((¬ ((x0 >>> (x1 &&& 31)) &&& 1) = 1 → (K 0)) ∧ (((x0 >>> (x1 &&& 31)) &&& 1) = 1 → (K 1)))
set_option maxRecDepth 100000 in
set_option maxHeartbeats 4000000 in
theorem kX_X10_hasBit (l : Launch) (D : va_G) (cI cZ : ClassId) (ad q : Nat → Nat) (N : Nat) {x0 : Int32} {x1 : Int32} {K : Int32 → Prop} (h : wX10_hasBit N x0 x1 K) : CT l D cI cZ ad 0 q (entM q cI cZ) yX10_hasBit cX10_hasBit 2 (some .boolean) (rr 0 0) [.int x0, .int x1] u00 (QI D 0 q (entM q cI cZ) (fun r _ => K r)) := by
    refine ct_of (by decide +kernel) (Nat.le_of_ble_eq_true rfl) (fun p e s m args below meth c C => ?_)
    refine j_sub (lv' := [(0, .int x0), (1, .int x1)]) [0, 1] rfl ?_
    refine j_iload_n C 0 dX10_hasBit_0 rfl ?_
    refine j_iload_n C 1 dX10_hasBit_1 rfl ?_
    refine j_ishr C dX10_hasBit_2 ?_
    refine j_iconst (v := 1) C dX10_hasBit_3 (by decide) ?_
    refine j_iand C dX10_hasBit_4 ?_
    refine j_iconst (v := 1) C dX10_hasBit_5 (by decide) ?_
    refine j_icmp_ne C 13 dX10_hasBit_6 (by decide) (fun c1 => ?_) (fun c1 => ?_)
    · have h := h.1 c1
      refine j_iconst (v := 0) C dX10_hasBit_13 (by decide) ?_
      exact j_zret (K := fun r _ => K r) C dX10_hasBit_14 rfl h
    · have h := h.2 c1
      refine j_iconst (v := 1) C dX10_hasBit_9 (by decide) ?_
      refine j_goto C 14 dX10_hasBit_10 (by decide) ?_
      exact j_zret (K := fun r _ => K r) C dX10_hasBit_14 rfl h

def wX7_askedOf_b33 (N : Nat) (K : Int32 → MM → Prop) (o : Nat) (x2 : Int32) (x3 : Int32) (u : MM) : Prop := (vp_in x2 7 ∧ ((((u 23 x2.toNatClampNeg) - (u 23 x2.toNatClampNeg) / 3 * 3) < x3 → (K x3 u)) ∧ (¬ ((u 23 x2.toNatClampNeg) - (u 23 x2.toNatClampNeg) / 3 * 3) < x3 → (K 0 u))))
def wX7_askedOf (N : Nat) (o : Nat) (x2 : Int32) (u : MM) (K : Int32 → MM → Prop) : Prop := (vp_in x2 7 ∧ (∀ y1 : Int32, y1 = (u (o + 1) x2.toNatClampNeg) → (vp_in x2 7 ∧ (∀ y2 : Int32, y2 = (u 22 x2.toNatClampNeg) → ((y2 = 2 → (wX7_askedOf_b33 N K o x2 y1 u)) ∧ (¬ y2 = 2 → ((¬ y2 = 5 → ((¬ y2 = 4 → (K y1 u)) ∧ (y2 = 4 → (K (y1 + 1) u)))) ∧ (y2 = 5 → (wX7_askedOf_b33 N K o x2 y1 u)))))))))
set_option maxRecDepth 100000 in
set_option maxHeartbeats 4000000 in
theorem tX7_askedOf_b33_27 (l : Launch) (D : va_G) (cI cZ : ClassId) (ad q : Nat → Nat) (N : Nat) {p : Program} {e : Env} {s : State} {m : MethodId} {args : Array Value} {below : List Frame} {meth : Method} {c : Code} {K : Int32 → MM → Prop} (C : CX p s m args meth c cX7_askedOf 5 RX7 (some .int) D cI cZ ad (AJ 72 q s.heap.size)) : ∀ (x2 : Int32) (x3 : Int32) (u : MM), wX7_askedOf_b33 N K 27 x2 x3 u → JX p l e (rr 0 0) s m args below meth c D (AJ 72 q s.heap.size) 5 (MQ below ((QI D 72 q (entC q cI cZ) K) (AJ 72 q s.heap.size)) args s 0 0 (AJ 72 q s.heap.size)) 72 q (entC q cI cZ) u 33 [(0, .ref (q 2)), (2, .int x2), (3, .int x3)] [] := by
    intro x2 x3 u h
    refine j_iload_n C 2 dX7_askedOf_33 rfl ?_
    refine j_aload_n C 0 dX7_askedOf_34 rfl ?_
    refine j_get C 2 0 (ly_X7 C.2.2.2.2.2.2.2.1.1) q_165 rfl rfl (by decide) rfl rfl (by decide) rfl dX7_askedOf_35 ?_
    refine j_getN C 10 3 (ly_X5 C.2.2.2.2.2.2.2.1.1) q_155 rfl rfl (by decide) rfl rfl (by decide) rfl dX7_askedOf_38 ?_
    refine j_getN C 21 2 (ly_X2 C.2.2.2.2.2.2.2.1.1) q_93 rfl rfl (by decide) rfl rfl (by decide) rfl dX7_askedOf_41 ?_
    refine j_iload_n C 1 dX7_askedOf_44 rfl ?_
    obtain ⟨hin, h⟩ := h
    refine j_ialoadK (N := 7) C 23 _ rfl hin (by decide) rfl rfl dX7_askedOf_45 ?_
    refine j_iconst (v := 3) C dX7_askedOf_46 (by decide) ?_
    refine j_irem C dX7_askedOf_47 (by decide) ?_
    refine j_icmp_gt C 55 dX7_askedOf_48 (by decide) (fun c6 => ?_) (fun c6 => ?_)
    · have h := h.1 c6
      refine j_iload_n C 2 dX7_askedOf_55 rfl ?_
      exact j_iret C dX7_askedOf_56 h
    · have h := h.2 c6
      refine j_iconst (v := 0) C dX7_askedOf_51 (by decide) ?_
      refine j_goto C 56 dX7_askedOf_52 (by decide) ?_
      exact j_iret C dX7_askedOf_56 h
set_option maxRecDepth 100000 in
set_option maxHeartbeats 4000000 in
theorem kX_X7_askedOf_27 (l : Launch) (D : va_G) (cI cZ : ClassId) (ad q : Nat → Nat) (N : Nat) {x2 : Int32} {u : MM} {K : Int32 → MM → Prop} (h : wX7_askedOf N 27 x2 u K) : CT l D cI cZ ad 72 q (entC q cI cZ) yX7_askedOf cX7_askedOf 5 (some .int) (rr 0 0) [.ref (q 2), .ref (q 27), .int x2] u (QI D 72 q (entC q cI cZ) K) := by
    refine ct_of (by decide +kernel) (Nat.le_of_ble_eq_true rfl) (fun p e s m args below meth c C => ?_)
    refine j_sub (lv' := [(0, .ref (q 2)), (1, .ref (q 27)), (2, .int x2)]) [0, 1, 2] rfl ?_
    refine j_aload_n C 1 dX7_askedOf_0 rfl ?_
    refine j_getN C 27 4 (ly_X9 C.2.2.2.2.2.2.2.1.1) q_123 rfl rfl (by decide) rfl rfl (by decide) rfl dX7_askedOf_1 ?_
    refine j_iload_n C 2 dX7_askedOf_4 rfl ?_
    obtain ⟨hin, h⟩ := h
    refine j_ialoadK (N := 7) C 28 _ rfl hin (by decide) rfl rfl dX7_askedOf_5 ?_
    refine j_nmi (fun y1 ey1 => ?_)
    have h := h y1 ey1
    refine j_istore_n (lv' := [(3, .int y1), (0, .ref (q 2)), (1, .ref (q 27)), (2, .int x2)]) C dX7_askedOf_6 (by decide) rfl ?_
    refine j_aload_n C 1 dX7_askedOf_7 rfl ?_
    refine j_get C 2 0 (ly_X7 C.2.2.2.2.2.2.2.1.1) q_165 rfl rfl (by decide) rfl rfl (by decide) rfl dX7_askedOf_8 ?_
    refine j_getN C 10 3 (ly_X5 C.2.2.2.2.2.2.2.1.1) q_155 rfl rfl (by decide) rfl rfl (by decide) rfl dX7_askedOf_11 ?_
    refine j_getN C 21 1 (ly_X2 C.2.2.2.2.2.2.2.1.1) q_90 rfl rfl (by decide) rfl rfl (by decide) rfl dX7_askedOf_14 ?_
    refine j_iload_n C 3 dX7_askedOf_17 rfl ?_
    obtain ⟨hin, h⟩ := h
    refine j_ialoadK (N := 7) C 22 _ rfl hin (by decide) rfl rfl dX7_askedOf_18 ?_
    refine j_nmi (fun y2 ey2 => ?_)
    have h := h y2 ey2
    refine j_istore (lv' := [(4, .int y2), (3, .int y1), (0, .ref (q 2)), (1, .ref (q 27)), (2, .int x2)]) C dX7_askedOf_19 (by decide) rfl ?_
    refine j_iload C 0 dX7_askedOf_21 rfl ?_
    refine j_iconst (v := 2) C dX7_askedOf_23 (by decide) ?_
    refine j_icmp_eq C 33 dX7_askedOf_24 (by decide) (fun c3 => ?_) (fun c3 => ?_)
    · have h := h.1 c3
      refine j_sub (lv' := [(0, .ref (q 2)), (2, .int x2), (3, .int y1)]) [2, 4, 1] rfl ?_
      exact tX7_askedOf_b33_27 l D cI cZ ad q N C _ _ _ h
    · have h := h.2 c3
      refine j_iload C 0 dX7_askedOf_27 rfl ?_
      refine j_iconst (v := 5) C dX7_askedOf_29 (by decide) ?_
      refine j_icmp_ne C 57 dX7_askedOf_30 (by decide) (fun c4 => ?_) (fun c4 => ?_)
      · have h := h.1 c4
        refine j_iload C 0 dX7_askedOf_57 rfl ?_
        refine j_iconst (v := 4) C dX7_askedOf_59 (by decide) ?_
        refine j_icmp_ne C 69 dX7_askedOf_60 (by decide) (fun c5 => ?_) (fun c5 => ?_)
        · have h := h.1 c5
          refine j_iload_n C 1 dX7_askedOf_69 rfl ?_
          exact j_iret C dX7_askedOf_70 h
        · have h := h.2 c5
          refine j_iload_n C 1 dX7_askedOf_63 rfl ?_
          refine j_iconst (v := 1) C dX7_askedOf_64 (by decide) ?_
          refine j_iadd C dX7_askedOf_65 ?_
          refine j_goto C 70 dX7_askedOf_66 (by decide) ?_
          exact j_iret C dX7_askedOf_70 h
      · have h := h.2 c4
        refine j_sub (lv' := [(0, .ref (q 2)), (2, .int x2), (3, .int y1)]) [2, 4, 1] rfl ?_
        exact tX7_askedOf_b33_27 l D cI cZ ad q N C _ _ _ h
set_option maxRecDepth 100000 in
set_option maxHeartbeats 4000000 in
theorem tX7_askedOf_b33_7 (l : Launch) (D : va_G) (cI cZ : ClassId) (ad q : Nat → Nat) (N : Nat) {p : Program} {e : Env} {s : State} {m : MethodId} {args : Array Value} {below : List Frame} {meth : Method} {c : Code} {K : Int32 → MM → Prop} (C : CX p s m args meth c cX7_askedOf 5 RX7 (some .int) D cI cZ ad (AJ 72 q s.heap.size)) : ∀ (x2 : Int32) (x3 : Int32) (u : MM), wX7_askedOf_b33 N K 7 x2 x3 u → JX p l e (rr 0 0) s m args below meth c D (AJ 72 q s.heap.size) 5 (MQ below ((QI D 72 q (entC q cI cZ) K) (AJ 72 q s.heap.size)) args s 0 0 (AJ 72 q s.heap.size)) 72 q (entC q cI cZ) u 33 [(0, .ref (q 2)), (2, .int x2), (3, .int x3)] [] := by
    intro x2 x3 u h
    refine j_iload_n C 2 dX7_askedOf_33 rfl ?_
    refine j_aload_n C 0 dX7_askedOf_34 rfl ?_
    refine j_get C 2 0 (ly_X7 C.2.2.2.2.2.2.2.1.1) q_165 rfl rfl (by decide) rfl rfl (by decide) rfl dX7_askedOf_35 ?_
    refine j_getN C 10 3 (ly_X5 C.2.2.2.2.2.2.2.1.1) q_155 rfl rfl (by decide) rfl rfl (by decide) rfl dX7_askedOf_38 ?_
    refine j_getN C 21 2 (ly_X2 C.2.2.2.2.2.2.2.1.1) q_93 rfl rfl (by decide) rfl rfl (by decide) rfl dX7_askedOf_41 ?_
    refine j_iload_n C 1 dX7_askedOf_44 rfl ?_
    obtain ⟨hin, h⟩ := h
    refine j_ialoadK (N := 7) C 23 _ rfl hin (by decide) rfl rfl dX7_askedOf_45 ?_
    refine j_iconst (v := 3) C dX7_askedOf_46 (by decide) ?_
    refine j_irem C dX7_askedOf_47 (by decide) ?_
    refine j_icmp_gt C 55 dX7_askedOf_48 (by decide) (fun c6 => ?_) (fun c6 => ?_)
    · have h := h.1 c6
      refine j_iload_n C 2 dX7_askedOf_55 rfl ?_
      exact j_iret C dX7_askedOf_56 h
    · have h := h.2 c6
      refine j_iconst (v := 0) C dX7_askedOf_51 (by decide) ?_
      refine j_goto C 56 dX7_askedOf_52 (by decide) ?_
      exact j_iret C dX7_askedOf_56 h
set_option maxRecDepth 100000 in
set_option maxHeartbeats 4000000 in
theorem kX_X7_askedOf_7 (l : Launch) (D : va_G) (cI cZ : ClassId) (ad q : Nat → Nat) (N : Nat) {x2 : Int32} {u : MM} {K : Int32 → MM → Prop} (h : wX7_askedOf N 7 x2 u K) : CT l D cI cZ ad 72 q (entC q cI cZ) yX7_askedOf cX7_askedOf 5 (some .int) (rr 0 0) [.ref (q 2), .ref (q 7), .int x2] u (QI D 72 q (entC q cI cZ) K) := by
    refine ct_of (by decide +kernel) (Nat.le_of_ble_eq_true rfl) (fun p e s m args below meth c C => ?_)
    refine j_sub (lv' := [(0, .ref (q 2)), (1, .ref (q 7)), (2, .int x2)]) [0, 1, 2] rfl ?_
    refine j_aload_n C 1 dX7_askedOf_0 rfl ?_
    refine j_getN C 7 4 (ly_X9 C.2.2.2.2.2.2.2.1.1) q_123 rfl rfl (by decide) rfl rfl (by decide) rfl dX7_askedOf_1 ?_
    refine j_iload_n C 2 dX7_askedOf_4 rfl ?_
    obtain ⟨hin, h⟩ := h
    refine j_ialoadK (N := 7) C 8 _ rfl hin (by decide) rfl rfl dX7_askedOf_5 ?_
    refine j_nmi (fun y1 ey1 => ?_)
    have h := h y1 ey1
    refine j_istore_n (lv' := [(3, .int y1), (0, .ref (q 2)), (1, .ref (q 7)), (2, .int x2)]) C dX7_askedOf_6 (by decide) rfl ?_
    refine j_aload_n C 1 dX7_askedOf_7 rfl ?_
    refine j_get C 2 0 (ly_X7 C.2.2.2.2.2.2.2.1.1) q_165 rfl rfl (by decide) rfl rfl (by decide) rfl dX7_askedOf_8 ?_
    refine j_getN C 10 3 (ly_X5 C.2.2.2.2.2.2.2.1.1) q_155 rfl rfl (by decide) rfl rfl (by decide) rfl dX7_askedOf_11 ?_
    refine j_getN C 21 1 (ly_X2 C.2.2.2.2.2.2.2.1.1) q_90 rfl rfl (by decide) rfl rfl (by decide) rfl dX7_askedOf_14 ?_
    refine j_iload_n C 3 dX7_askedOf_17 rfl ?_
    obtain ⟨hin, h⟩ := h
    refine j_ialoadK (N := 7) C 22 _ rfl hin (by decide) rfl rfl dX7_askedOf_18 ?_
    refine j_nmi (fun y2 ey2 => ?_)
    have h := h y2 ey2
    refine j_istore (lv' := [(4, .int y2), (3, .int y1), (0, .ref (q 2)), (1, .ref (q 7)), (2, .int x2)]) C dX7_askedOf_19 (by decide) rfl ?_
    refine j_iload C 0 dX7_askedOf_21 rfl ?_
    refine j_iconst (v := 2) C dX7_askedOf_23 (by decide) ?_
    refine j_icmp_eq C 33 dX7_askedOf_24 (by decide) (fun c3 => ?_) (fun c3 => ?_)
    · have h := h.1 c3
      refine j_sub (lv' := [(0, .ref (q 2)), (2, .int x2), (3, .int y1)]) [2, 4, 1] rfl ?_
      exact tX7_askedOf_b33_7 l D cI cZ ad q N C _ _ _ h
    · have h := h.2 c3
      refine j_iload C 0 dX7_askedOf_27 rfl ?_
      refine j_iconst (v := 5) C dX7_askedOf_29 (by decide) ?_
      refine j_icmp_ne C 57 dX7_askedOf_30 (by decide) (fun c4 => ?_) (fun c4 => ?_)
      · have h := h.1 c4
        refine j_iload C 0 dX7_askedOf_57 rfl ?_
        refine j_iconst (v := 4) C dX7_askedOf_59 (by decide) ?_
        refine j_icmp_ne C 69 dX7_askedOf_60 (by decide) (fun c5 => ?_) (fun c5 => ?_)
        · have h := h.1 c5
          refine j_iload_n C 1 dX7_askedOf_69 rfl ?_
          exact j_iret C dX7_askedOf_70 h
        · have h := h.2 c5
          refine j_iload_n C 1 dX7_askedOf_63 rfl ?_
          refine j_iconst (v := 1) C dX7_askedOf_64 (by decide) ?_
          refine j_iadd C dX7_askedOf_65 ?_
          refine j_goto C 70 dX7_askedOf_66 (by decide) ?_
          exact j_iret C dX7_askedOf_70 h
      · have h := h.2 c4
        refine j_sub (lv' := [(0, .ref (q 2)), (2, .int x2), (3, .int y1)]) [2, 4, 1] rfl ?_
        exact tX7_askedOf_b33_7 l D cI cZ ad q N C _ _ _ h

def wX7_setFacts_b59 (N : Nat) (K : MM → Prop) (o : Nat) (s0 : Int32) (s1 : Int32) (u : MM) : Prop := (vp_in s1 5 ∧ ∀ u6 : MM, u6 = up u 3 (s1.toNatClampNeg) s0 → (∀ u7 : MM, u7 = up u6 3 4 ((u6 o 0) - (u6 o 0) / 7 * 7) → (K u7)))
def wX7_setFacts (N : Nat) (o : Nat) (x2 : Int32) (x3 : Int32) (u : MM) (K : MM → Prop) : Prop := (∀ u1 : MM, u1 = up u 3 0 x2 → (∀ u2 : MM, u2 = up u1 3 1 x3 → (vp_in x2 7 ∧ (∀ u3 : MM, u3 = up u2 3 2 (u2 22 x2.toNatClampNeg) → (wX10_hasBit N (u3 o 2) x2 (fun r4 => ((r4 = 0 → (wX7_setFacts_b59 N K o 9 3 u3)) ∧ (¬ r4 = 0 → (vp_in x2 7 ∧ (wX7_setFacts_b59 N K o (u3 (o + 1) x2.toNatClampNeg) 3 u3))))))))))
set_option maxRecDepth 100000 in
set_option maxHeartbeats 4000000 in
theorem tX7_setFacts_b59_27 (l : Launch) (D : va_G) (cI cZ : ClassId) (ad q : Nat → Nat) (N : Nat) {p : Program} {e : Env} {s : State} {m : MethodId} {args : Array Value} {below : List Frame} {meth : Method} {c : Code} {K : MM → Prop} (C : CX p s m args meth c cX7_setFacts 4 RX7 none D cI cZ ad (AJ 72 q s.heap.size)) : ∀ (s0 : Int32) (s1 : Int32) (u : MM), wX7_setFacts_b59 N K 27 s0 s1 u → JX p l e (rr 1 21) s m args below meth c D (AJ 72 q s.heap.size) 4 (MQ below ((QV D 72 q (entC q cI cZ) K) (AJ 72 q s.heap.size)) args s 0 0 (AJ 72 q s.heap.size)) 72 q (entC q cI cZ) u 59 [(0, .ref (q 2)), (1, .ref (q 27))] [.int s0, .int s1, .ref (q 3)] := by
    intro s0 s1 u h
    obtain ⟨hin, h⟩ := h
    refine j_iastoreK (N := 5) C 3 _ rfl hin (by decide) (fun _ => rfl) rfl dX7_setFacts_59 (fun u6 eu6 => ?_)
    have h := h u6 eu6
    refine j_aload_n C 0 dX7_setFacts_60 rfl ?_
    refine j_get C 2 1 (ly_X7 C.2.2.2.2.2.2.2.1.1) q_168 rfl rfl (by decide) rfl rfl (by decide) rfl dX7_setFacts_61 ?_
    refine j_iconst (v := 4) C dX7_setFacts_64 (by decide) ?_
    refine j_aload_n C 1 dX7_setFacts_65 rfl ?_
    refine j_getN C 27 0 (ly_X9 C.2.2.2.2.2.2.2.1.1) q_109 rfl rfl (by decide) rfl rfl (by decide) rfl dX7_setFacts_66 ?_
    refine j_bipush (v := 7) C dX7_setFacts_69 (by decide) ?_
    refine j_irem C dX7_setFacts_71 (by decide) ?_
    refine j_iastoreK (N := 5) C 3 4 (by decide) (show ¬ ((4 : Int32) < 0 ∨ 5 ≤ (4 : Int32).toNatClampNeg) by decide) (by decide) (fun _ => rfl) rfl dX7_setFacts_72 (fun u7 eu7 => ?_)
    have h := h u7 eu7
    exact j_vret C dX7_setFacts_73 h
set_option maxRecDepth 100000 in
set_option maxHeartbeats 4000000 in
theorem kX_X7_setFacts_27 (l : Launch) (D : va_G) (cI cZ : ClassId) (ad q : Nat → Nat) (N : Nat) {x2 : Int32} {x3 : Int32} {u : MM} {K : MM → Prop} (h : wX7_setFacts N 27 x2 x3 u K) : CT l D cI cZ ad 72 q (entC q cI cZ) yX7_setFacts cX7_setFacts 4 none (rr 1 21) [.ref (q 2), .ref (q 27), .int x2, .int x3] u (QV D 72 q (entC q cI cZ) K) := by
    refine ct_of (by decide +kernel) (Nat.le_of_ble_eq_true rfl) (fun p e s m args below meth c C => ?_)
    refine j_sub (lv' := [(0, .ref (q 2)), (1, .ref (q 27)), (2, .int x2), (3, .int x3)]) [0, 1, 2, 3] rfl ?_
    refine j_aload_n C 0 dX7_setFacts_0 rfl ?_
    refine j_get C 2 1 (ly_X7 C.2.2.2.2.2.2.2.1.1) q_168 rfl rfl (by decide) rfl rfl (by decide) rfl dX7_setFacts_1 ?_
    refine j_iconst (v := 0) C dX7_setFacts_4 (by decide) ?_
    refine j_iload_n C 2 dX7_setFacts_5 rfl ?_
    refine j_iastoreK (N := 5) C 3 0 (by decide) (show ¬ ((0 : Int32) < 0 ∨ 5 ≤ (0 : Int32).toNatClampNeg) by decide) (by decide) (fun _ => rfl) rfl dX7_setFacts_6 (fun u1 eu1 => ?_)
    have h := h u1 eu1
    refine j_aload_n C 0 dX7_setFacts_7 rfl ?_
    refine j_get C 2 1 (ly_X7 C.2.2.2.2.2.2.2.1.1) q_168 rfl rfl (by decide) rfl rfl (by decide) rfl dX7_setFacts_8 ?_
    refine j_iconst (v := 1) C dX7_setFacts_11 (by decide) ?_
    refine j_iload_n C 3 dX7_setFacts_12 rfl ?_
    refine j_iastoreK (N := 5) C 3 1 (by decide) (show ¬ ((1 : Int32) < 0 ∨ 5 ≤ (1 : Int32).toNatClampNeg) by decide) (by decide) (fun _ => rfl) rfl dX7_setFacts_13 (fun u2 eu2 => ?_)
    have h := h u2 eu2
    refine j_aload_n C 0 dX7_setFacts_14 rfl ?_
    refine j_get C 2 1 (ly_X7 C.2.2.2.2.2.2.2.1.1) q_168 rfl rfl (by decide) rfl rfl (by decide) rfl dX7_setFacts_15 ?_
    refine j_iconst (v := 2) C dX7_setFacts_18 (by decide) ?_
    refine j_aload_n C 0 dX7_setFacts_19 rfl ?_
    refine j_get C 2 0 (ly_X7 C.2.2.2.2.2.2.2.1.1) q_165 rfl rfl (by decide) rfl rfl (by decide) rfl dX7_setFacts_20 ?_
    refine j_getN C 10 3 (ly_X5 C.2.2.2.2.2.2.2.1.1) q_155 rfl rfl (by decide) rfl rfl (by decide) rfl dX7_setFacts_23 ?_
    refine j_getN C 21 1 (ly_X2 C.2.2.2.2.2.2.2.1.1) q_90 rfl rfl (by decide) rfl rfl (by decide) rfl dX7_setFacts_26 ?_
    refine j_iload_n C 2 dX7_setFacts_29 rfl ?_
    obtain ⟨hin, h⟩ := h
    refine j_ialoadK (N := 7) C 22 _ rfl hin (by decide) rfl rfl dX7_setFacts_30 ?_
    refine j_iastoreK (N := 5) C 3 2 (by decide) (show ¬ ((2 : Int32) < 0 ∨ 5 ≤ (2 : Int32).toNatClampNeg) by decide) (by decide) (fun _ => rfl) rfl dX7_setFacts_31 (fun u3 eu3 => ?_)
    have h := h u3 eu3
    refine j_aload_n C 0 dX7_setFacts_32 rfl ?_
    refine j_get C 2 1 (ly_X7 C.2.2.2.2.2.2.2.1.1) q_168 rfl rfl (by decide) rfl rfl (by decide) rfl dX7_setFacts_33 ?_
    refine j_iconst (v := 3) C dX7_setFacts_36 (by decide) ?_
    refine j_aload_n C 1 dX7_setFacts_37 rfl ?_
    refine j_getN C 27 2 (ly_X9 C.2.2.2.2.2.2.2.1.1) q_116 rfl rfl (by decide) rfl rfl (by decide) rfl dX7_setFacts_38 ?_
    refine j_iload_n C 2 dX7_setFacts_41 rfl ?_
    refine j_ui C (fun H locs ls hP hD => run_SN (As := [.int (u3 27 2), .int x2]) (st := [.int 3, .ref (q 3)]) C mf_X10_hasBit (kX_X10_hasBit l D cI cZ ad q N h) q_374 rfl rfl ⟨rfl, rfl, by decide, by decide⟩ (Nat.le_of_ble_eq_true rfl) dX7_setFacts_42 hP hD) (fun r4 _ h => ?_)
    refine j_if_eq C 57 dX7_setFacts_45 (by decide) (fun c5 => ?_) (fun c5 => ?_)
    · have h := h.1 c5
      refine j_bipush (v := 9) C dX7_setFacts_57 (by decide) ?_
      refine j_sub (lv' := [(0, .ref (q 2)), (1, .ref (q 27))]) [0, 1] rfl ?_
      exact tX7_setFacts_b59_27 l D cI cZ ad q N C _ _ _ h
    · have h := h.2 c5
      refine j_aload_n C 1 dX7_setFacts_48 rfl ?_
      refine j_getN C 27 4 (ly_X9 C.2.2.2.2.2.2.2.1.1) q_123 rfl rfl (by decide) rfl rfl (by decide) rfl dX7_setFacts_49 ?_
      refine j_iload_n C 2 dX7_setFacts_52 rfl ?_
      obtain ⟨hin, h⟩ := h
      refine j_ialoadK (N := 7) C 28 _ rfl hin (by decide) rfl rfl dX7_setFacts_53 ?_
      refine j_goto C 59 dX7_setFacts_54 (by decide) ?_
      refine j_sub (lv' := [(0, .ref (q 2)), (1, .ref (q 27))]) [0, 1] rfl ?_
      exact tX7_setFacts_b59_27 l D cI cZ ad q N C _ _ _ h
set_option maxRecDepth 100000 in
set_option maxHeartbeats 4000000 in
theorem tX7_setFacts_b59_7 (l : Launch) (D : va_G) (cI cZ : ClassId) (ad q : Nat → Nat) (N : Nat) {p : Program} {e : Env} {s : State} {m : MethodId} {args : Array Value} {below : List Frame} {meth : Method} {c : Code} {K : MM → Prop} (C : CX p s m args meth c cX7_setFacts 4 RX7 none D cI cZ ad (AJ 72 q s.heap.size)) : ∀ (s0 : Int32) (s1 : Int32) (u : MM), wX7_setFacts_b59 N K 7 s0 s1 u → JX p l e (rr 1 21) s m args below meth c D (AJ 72 q s.heap.size) 4 (MQ below ((QV D 72 q (entC q cI cZ) K) (AJ 72 q s.heap.size)) args s 0 0 (AJ 72 q s.heap.size)) 72 q (entC q cI cZ) u 59 [(0, .ref (q 2)), (1, .ref (q 7))] [.int s0, .int s1, .ref (q 3)] := by
    intro s0 s1 u h
    obtain ⟨hin, h⟩ := h
    refine j_iastoreK (N := 5) C 3 _ rfl hin (by decide) (fun _ => rfl) rfl dX7_setFacts_59 (fun u6 eu6 => ?_)
    have h := h u6 eu6
    refine j_aload_n C 0 dX7_setFacts_60 rfl ?_
    refine j_get C 2 1 (ly_X7 C.2.2.2.2.2.2.2.1.1) q_168 rfl rfl (by decide) rfl rfl (by decide) rfl dX7_setFacts_61 ?_
    refine j_iconst (v := 4) C dX7_setFacts_64 (by decide) ?_
    refine j_aload_n C 1 dX7_setFacts_65 rfl ?_
    refine j_getN C 7 0 (ly_X9 C.2.2.2.2.2.2.2.1.1) q_109 rfl rfl (by decide) rfl rfl (by decide) rfl dX7_setFacts_66 ?_
    refine j_bipush (v := 7) C dX7_setFacts_69 (by decide) ?_
    refine j_irem C dX7_setFacts_71 (by decide) ?_
    refine j_iastoreK (N := 5) C 3 4 (by decide) (show ¬ ((4 : Int32) < 0 ∨ 5 ≤ (4 : Int32).toNatClampNeg) by decide) (by decide) (fun _ => rfl) rfl dX7_setFacts_72 (fun u7 eu7 => ?_)
    have h := h u7 eu7
    exact j_vret C dX7_setFacts_73 h
set_option maxRecDepth 100000 in
set_option maxHeartbeats 4000000 in
theorem kX_X7_setFacts_7 (l : Launch) (D : va_G) (cI cZ : ClassId) (ad q : Nat → Nat) (N : Nat) {x2 : Int32} {x3 : Int32} {u : MM} {K : MM → Prop} (h : wX7_setFacts N 7 x2 x3 u K) : CT l D cI cZ ad 72 q (entC q cI cZ) yX7_setFacts cX7_setFacts 4 none (rr 1 21) [.ref (q 2), .ref (q 7), .int x2, .int x3] u (QV D 72 q (entC q cI cZ) K) := by
    refine ct_of (by decide +kernel) (Nat.le_of_ble_eq_true rfl) (fun p e s m args below meth c C => ?_)
    refine j_sub (lv' := [(0, .ref (q 2)), (1, .ref (q 7)), (2, .int x2), (3, .int x3)]) [0, 1, 2, 3] rfl ?_
    refine j_aload_n C 0 dX7_setFacts_0 rfl ?_
    refine j_get C 2 1 (ly_X7 C.2.2.2.2.2.2.2.1.1) q_168 rfl rfl (by decide) rfl rfl (by decide) rfl dX7_setFacts_1 ?_
    refine j_iconst (v := 0) C dX7_setFacts_4 (by decide) ?_
    refine j_iload_n C 2 dX7_setFacts_5 rfl ?_
    refine j_iastoreK (N := 5) C 3 0 (by decide) (show ¬ ((0 : Int32) < 0 ∨ 5 ≤ (0 : Int32).toNatClampNeg) by decide) (by decide) (fun _ => rfl) rfl dX7_setFacts_6 (fun u1 eu1 => ?_)
    have h := h u1 eu1
    refine j_aload_n C 0 dX7_setFacts_7 rfl ?_
    refine j_get C 2 1 (ly_X7 C.2.2.2.2.2.2.2.1.1) q_168 rfl rfl (by decide) rfl rfl (by decide) rfl dX7_setFacts_8 ?_
    refine j_iconst (v := 1) C dX7_setFacts_11 (by decide) ?_
    refine j_iload_n C 3 dX7_setFacts_12 rfl ?_
    refine j_iastoreK (N := 5) C 3 1 (by decide) (show ¬ ((1 : Int32) < 0 ∨ 5 ≤ (1 : Int32).toNatClampNeg) by decide) (by decide) (fun _ => rfl) rfl dX7_setFacts_13 (fun u2 eu2 => ?_)
    have h := h u2 eu2
    refine j_aload_n C 0 dX7_setFacts_14 rfl ?_
    refine j_get C 2 1 (ly_X7 C.2.2.2.2.2.2.2.1.1) q_168 rfl rfl (by decide) rfl rfl (by decide) rfl dX7_setFacts_15 ?_
    refine j_iconst (v := 2) C dX7_setFacts_18 (by decide) ?_
    refine j_aload_n C 0 dX7_setFacts_19 rfl ?_
    refine j_get C 2 0 (ly_X7 C.2.2.2.2.2.2.2.1.1) q_165 rfl rfl (by decide) rfl rfl (by decide) rfl dX7_setFacts_20 ?_
    refine j_getN C 10 3 (ly_X5 C.2.2.2.2.2.2.2.1.1) q_155 rfl rfl (by decide) rfl rfl (by decide) rfl dX7_setFacts_23 ?_
    refine j_getN C 21 1 (ly_X2 C.2.2.2.2.2.2.2.1.1) q_90 rfl rfl (by decide) rfl rfl (by decide) rfl dX7_setFacts_26 ?_
    refine j_iload_n C 2 dX7_setFacts_29 rfl ?_
    obtain ⟨hin, h⟩ := h
    refine j_ialoadK (N := 7) C 22 _ rfl hin (by decide) rfl rfl dX7_setFacts_30 ?_
    refine j_iastoreK (N := 5) C 3 2 (by decide) (show ¬ ((2 : Int32) < 0 ∨ 5 ≤ (2 : Int32).toNatClampNeg) by decide) (by decide) (fun _ => rfl) rfl dX7_setFacts_31 (fun u3 eu3 => ?_)
    have h := h u3 eu3
    refine j_aload_n C 0 dX7_setFacts_32 rfl ?_
    refine j_get C 2 1 (ly_X7 C.2.2.2.2.2.2.2.1.1) q_168 rfl rfl (by decide) rfl rfl (by decide) rfl dX7_setFacts_33 ?_
    refine j_iconst (v := 3) C dX7_setFacts_36 (by decide) ?_
    refine j_aload_n C 1 dX7_setFacts_37 rfl ?_
    refine j_getN C 7 2 (ly_X9 C.2.2.2.2.2.2.2.1.1) q_116 rfl rfl (by decide) rfl rfl (by decide) rfl dX7_setFacts_38 ?_
    refine j_iload_n C 2 dX7_setFacts_41 rfl ?_
    refine j_ui C (fun H locs ls hP hD => run_SN (As := [.int (u3 7 2), .int x2]) (st := [.int 3, .ref (q 3)]) C mf_X10_hasBit (kX_X10_hasBit l D cI cZ ad q N h) q_374 rfl rfl ⟨rfl, rfl, by decide, by decide⟩ (Nat.le_of_ble_eq_true rfl) dX7_setFacts_42 hP hD) (fun r4 _ h => ?_)
    refine j_if_eq C 57 dX7_setFacts_45 (by decide) (fun c5 => ?_) (fun c5 => ?_)
    · have h := h.1 c5
      refine j_bipush (v := 9) C dX7_setFacts_57 (by decide) ?_
      refine j_sub (lv' := [(0, .ref (q 2)), (1, .ref (q 7))]) [0, 1] rfl ?_
      exact tX7_setFacts_b59_7 l D cI cZ ad q N C _ _ _ h
    · have h := h.2 c5
      refine j_aload_n C 1 dX7_setFacts_48 rfl ?_
      refine j_getN C 7 4 (ly_X9 C.2.2.2.2.2.2.2.1.1) q_123 rfl rfl (by decide) rfl rfl (by decide) rfl dX7_setFacts_49 ?_
      refine j_iload_n C 2 dX7_setFacts_52 rfl ?_
      obtain ⟨hin, h⟩ := h
      refine j_ialoadK (N := 7) C 8 _ rfl hin (by decide) rfl rfl dX7_setFacts_53 ?_
      refine j_goto C 59 dX7_setFacts_54 (by decide) ?_
      refine j_sub (lv' := [(0, .ref (q 2)), (1, .ref (q 7))]) [0, 1] rfl ?_
      exact tX7_setFacts_b59_7 l D cI cZ ad q N C _ _ _ h

def wX8_holds_b142 (N : Nat) (K : Int32 → MM → Prop) (ro10 : Int32 → Int32 → Int32 → MM → Prop) (x1 : Int32) (x3 : Int32) (x4 : Int32) (u : MM) : Prop := (∀ y17 : Int32, y17 = x4 + 1 → (ro10 x1 x3 y17 u))
def wX8_holds_b140 (N : Nat) (K : Int32 → MM → Prop) (ro10 : Int32 → Int32 → Int32 → MM → Prop) (x1 : Int32) (x4 : Int32) (s0 : Int32) (s1 : Int32) (u : MM) : Prop := (∀ y16 : Int32, y16 = (s1 ||| s0) → (wX8_holds_b142 N K ro10 x1 y16 x4 u))
def wX8_holds_b125 (N : Nat) (K : Int32 → MM → Prop) (ro10 : Int32 → Int32 → Int32 → MM → Prop) (x1 : Int32) (x3 : Int32) (x4 : Int32) (s0 : Int32) (u : MM) : Prop := ((s0 = 0 → (wX8_holds_b140 N K ro10 x1 x4 0 (x3 <<< ((1 : Int32) &&& 31)) u)) ∧ (¬ s0 = 0 → (wX8_holds_b140 N K ro10 x1 x4 1 (x3 <<< ((1 : Int32) &&& 31)) u)))
def wX8_holds_b124 (N : Nat) (K : Int32 → MM → Prop) (ro10 : Int32 → Int32 → Int32 → MM → Prop) (x1 : Int32) (x3 : Int32) (x4 : Int32) (u : MM) : Prop := (wX8_holds_b125 N K ro10 x1 x3 x4 0 u)
def wX8_holds_b10 (N : Nat) (K : Int32 → MM → Prop) : Nat → Int32 → Int32 → Int32 → MM → Prop
  | 0, _, _, _, _ => False
  | n + 1, x1, x3, x4, u => (vp_in x1 10 ∧ (((u 17 x1.toNatClampNeg) ≤ x4 → ((¬ (x3 &&& 1) = 1 → (K 0 u)) ∧ ((x3 &&& 1) = 1 → (K 1 u)))) ∧ (¬ (u 17 x1.toNatClampNeg) ≤ x4 → (vp_in x4 100 ∧ (∀ y4 : Int32, y4 = (u 18 x4.toNatClampNeg) → ((¬ y4 = (-1) → ((¬ y4 = (-2) → ((¬ y4 = (-3) → ((y4 < 0 → (wX8_holds_b142 N K (wX8_holds_b10 N K n) x1 x3 x4 u)) ∧ (¬ y4 < 0 → ((5 ≤ y4 → (wX8_holds_b142 N K (wX8_holds_b10 N K n) x1 x3 x4 u)) ∧ (¬ 5 ≤ y4 → (vp_in y4 5 ∧ (vp_in x4 100 ∧ (((u 3 y4.toNatClampNeg) < (u 19 x4.toNatClampNeg) → (wX8_holds_b124 N K (wX8_holds_b10 N K n) x1 x3 x4 u)) ∧ (¬ (u 3 y4.toNatClampNeg) < (u 19 x4.toNatClampNeg) → (vp_in y4 5 ∧ (vp_in x4 100 ∧ (((u 20 x4.toNatClampNeg) < (u 3 y4.toNatClampNeg) → (wX8_holds_b124 N K (wX8_holds_b10 N K n) x1 x3 x4 u)) ∧ (¬ (u 20 x4.toNatClampNeg) < (u 3 y4.toNatClampNeg) → (wX8_holds_b125 N K (wX8_holds_b10 N K n) x1 x3 x4 1 u)))))))))))))) ∧ (y4 = (-3) → (∀ y12 : Int32, y12 = ((x3 >>> ((1 : Int32) &&& 31)) ||| (x3 &&& 1)) → (wX8_holds_b142 N K (wX8_holds_b10 N K n) x1 y12 x4 u))))) ∧ (y4 = (-2) → (∀ y13 : Int32, y13 = ((x3 >>> ((1 : Int32) &&& 31)) &&& (x3 ||| ((-2) : Int32))) → (wX8_holds_b142 N K (wX8_holds_b10 N K n) x1 y13 x4 u))))) ∧ (y4 = (-1) → (∀ y14 : Int32, y14 = (x3 ^^^ 1) → (wX8_holds_b142 N K (wX8_holds_b10 N K n) x1 y14 x4 u)))))))))
def wX8_holds (N : Nat) (x1 : Int32) (u : MM) (K : Int32 → MM → Prop) : Prop := (vp_in x1 10 ∧ (∀ y1 : Int32, y1 = (u 16 x1.toNatClampNeg) → (wX8_holds_b10 N K N x1 0 y1 u)))
set_option maxRecDepth 100000 in
set_option maxHeartbeats 4000000 in
theorem tX8_holds_b142 (l : Launch) (D : va_G) (cI cZ : ClassId) (ad q : Nat → Nat) (N : Nat) {p : Program} {e : Env} {s : State} {m : MethodId} {args : Array Value} {below : List Frame} {meth : Method} {c : Code} {K : Int32 → MM → Prop} (C : CX p s m args meth c cX8_holds 7 RX8 (some .boolean) D cI cZ ad (AJ 72 q s.heap.size)) {ro10 : Int32 → Int32 → Int32 → MM → Prop} (hro10 : ∀ (x1 : Int32) (x3 : Int32) (x4 : Int32) (u : MM), ro10 x1 x3 x4 u → JX p l e (rr 0 0) s m args below meth c D (AJ 72 q s.heap.size) 7 (MQ below ((QI D 72 q (entC q cI cZ) K) (AJ 72 q s.heap.size)) args s 0 0 (AJ 72 q s.heap.size)) 72 q (entC q cI cZ) u 10 [(0, .ref (q 13)), (1, .int x1), (2, .ref (q 3)), (3, .int x3), (4, .int x4)] []) : ∀ (x1 : Int32) (x3 : Int32) (x4 : Int32) (u : MM), wX8_holds_b142 N K ro10 x1 x3 x4 u → JX p l e (rr 0 0) s m args below meth c D (AJ 72 q s.heap.size) 7 (MQ below ((QI D 72 q (entC q cI cZ) K) (AJ 72 q s.heap.size)) args s 0 0 (AJ 72 q s.heap.size)) 72 q (entC q cI cZ) u 142 [(0, .ref (q 13)), (1, .int x1), (2, .ref (q 3)), (3, .int x3), (4, .int x4)] [] := by
    intro x1 x3 x4 u h
    obtain ⟨y17, ey17⟩ : ∃ z : Int32, z = x4 + 1 := ⟨_, rfl⟩
    have h := h y17 ey17
    refine j_iinc (v := y17) (lv' := [(4, .int y17), (0, .ref (q 13)), (1, .int x1), (2, .ref (q 3)), (3, .int x3)]) C 4 dX8_holds_142 rfl (by rw [ey17]; rfl) (by decide) rfl ?_
    refine j_goto C 10 dX8_holds_145 (by decide) ?_
    refine j_sub (lv' := [(0, .ref (q 13)), (1, .int x1), (2, .ref (q 3)), (3, .int x3), (4, .int y17)]) [1, 2, 3, 4, 0] rfl ?_
    exact hro10 _ _ _ _ h
set_option maxRecDepth 100000 in
set_option maxHeartbeats 4000000 in
theorem tX8_holds_b140 (l : Launch) (D : va_G) (cI cZ : ClassId) (ad q : Nat → Nat) (N : Nat) {p : Program} {e : Env} {s : State} {m : MethodId} {args : Array Value} {below : List Frame} {meth : Method} {c : Code} {K : Int32 → MM → Prop} (C : CX p s m args meth c cX8_holds 7 RX8 (some .boolean) D cI cZ ad (AJ 72 q s.heap.size)) {ro10 : Int32 → Int32 → Int32 → MM → Prop} (hro10 : ∀ (x1 : Int32) (x3 : Int32) (x4 : Int32) (u : MM), ro10 x1 x3 x4 u → JX p l e (rr 0 0) s m args below meth c D (AJ 72 q s.heap.size) 7 (MQ below ((QI D 72 q (entC q cI cZ) K) (AJ 72 q s.heap.size)) args s 0 0 (AJ 72 q s.heap.size)) 72 q (entC q cI cZ) u 10 [(0, .ref (q 13)), (1, .int x1), (2, .ref (q 3)), (3, .int x3), (4, .int x4)] []) : ∀ (x1 : Int32) (x4 : Int32) (s0 : Int32) (s1 : Int32) (u : MM), wX8_holds_b140 N K ro10 x1 x4 s0 s1 u → JX p l e (rr 0 0) s m args below meth c D (AJ 72 q s.heap.size) 7 (MQ below ((QI D 72 q (entC q cI cZ) K) (AJ 72 q s.heap.size)) args s 0 0 (AJ 72 q s.heap.size)) 72 q (entC q cI cZ) u 140 [(0, .ref (q 13)), (1, .int x1), (2, .ref (q 3)), (4, .int x4)] [.int s0, .int s1] := by
    intro x1 x4 s0 s1 u h
    refine j_ior C dX8_holds_140 ?_
    refine j_nmi (fun y16 ey16 => ?_)
    have h := h y16 ey16
    refine j_istore_n (lv' := [(3, .int y16), (0, .ref (q 13)), (1, .int x1), (2, .ref (q 3)), (4, .int x4)]) C dX8_holds_141 (by decide) rfl ?_
    refine j_sub (lv' := [(0, .ref (q 13)), (1, .int x1), (2, .ref (q 3)), (3, .int y16), (4, .int x4)]) [1, 2, 3, 0, 4] rfl ?_
    exact tX8_holds_b142 l D cI cZ ad q N C (hro10) _ _ _ _ h
set_option maxRecDepth 100000 in
set_option maxHeartbeats 4000000 in
theorem tX8_holds_b125 (l : Launch) (D : va_G) (cI cZ : ClassId) (ad q : Nat → Nat) (N : Nat) {p : Program} {e : Env} {s : State} {m : MethodId} {args : Array Value} {below : List Frame} {meth : Method} {c : Code} {K : Int32 → MM → Prop} (C : CX p s m args meth c cX8_holds 7 RX8 (some .boolean) D cI cZ ad (AJ 72 q s.heap.size)) {ro10 : Int32 → Int32 → Int32 → MM → Prop} (hro10 : ∀ (x1 : Int32) (x3 : Int32) (x4 : Int32) (u : MM), ro10 x1 x3 x4 u → JX p l e (rr 0 0) s m args below meth c D (AJ 72 q s.heap.size) 7 (MQ below ((QI D 72 q (entC q cI cZ) K) (AJ 72 q s.heap.size)) args s 0 0 (AJ 72 q s.heap.size)) 72 q (entC q cI cZ) u 10 [(0, .ref (q 13)), (1, .int x1), (2, .ref (q 3)), (3, .int x3), (4, .int x4)] []) : ∀ (x1 : Int32) (x3 : Int32) (x4 : Int32) (s0 : Int32) (u : MM), wX8_holds_b125 N K ro10 x1 x3 x4 s0 u → JX p l e (rr 0 0) s m args below meth c D (AJ 72 q s.heap.size) 7 (MQ below ((QI D 72 q (entC q cI cZ) K) (AJ 72 q s.heap.size)) args s 0 0 (AJ 72 q s.heap.size)) 72 q (entC q cI cZ) u 125 [(0, .ref (q 13)), (1, .int x1), (2, .ref (q 3)), (3, .int x3), (4, .int x4)] [.int s0] := by
    intro x1 x3 x4 s0 u h
    refine j_istore (lv' := [(6, .int s0), (0, .ref (q 13)), (1, .int x1), (2, .ref (q 3)), (3, .int x3), (4, .int x4)]) C dX8_holds_125 (by decide) rfl ?_
    refine j_iload_n C 4 dX8_holds_127 rfl ?_
    refine j_iconst (v := 1) C dX8_holds_128 (by decide) ?_
    refine j_ishl C dX8_holds_129 ?_
    refine j_iload C 0 dX8_holds_130 rfl ?_
    refine j_if_eq C 139 dX8_holds_132 (by decide) (fun c15 => ?_) (fun c15 => ?_)
    · have h := h.1 c15
      refine j_iconst (v := 0) C dX8_holds_139 (by decide) ?_
      refine j_sub (lv' := [(0, .ref (q 13)), (1, .int x1), (2, .ref (q 3)), (4, .int x4)]) [1, 2, 3, 5] rfl ?_
      exact tX8_holds_b140 l D cI cZ ad q N C (hro10) _ _ _ _ _ h
    · have h := h.2 c15
      refine j_iconst (v := 1) C dX8_holds_135 (by decide) ?_
      refine j_goto C 140 dX8_holds_136 (by decide) ?_
      refine j_sub (lv' := [(0, .ref (q 13)), (1, .int x1), (2, .ref (q 3)), (4, .int x4)]) [1, 2, 3, 5] rfl ?_
      exact tX8_holds_b140 l D cI cZ ad q N C (hro10) _ _ _ _ _ h
set_option maxRecDepth 100000 in
set_option maxHeartbeats 4000000 in
theorem tX8_holds_b124 (l : Launch) (D : va_G) (cI cZ : ClassId) (ad q : Nat → Nat) (N : Nat) {p : Program} {e : Env} {s : State} {m : MethodId} {args : Array Value} {below : List Frame} {meth : Method} {c : Code} {K : Int32 → MM → Prop} (C : CX p s m args meth c cX8_holds 7 RX8 (some .boolean) D cI cZ ad (AJ 72 q s.heap.size)) {ro10 : Int32 → Int32 → Int32 → MM → Prop} (hro10 : ∀ (x1 : Int32) (x3 : Int32) (x4 : Int32) (u : MM), ro10 x1 x3 x4 u → JX p l e (rr 0 0) s m args below meth c D (AJ 72 q s.heap.size) 7 (MQ below ((QI D 72 q (entC q cI cZ) K) (AJ 72 q s.heap.size)) args s 0 0 (AJ 72 q s.heap.size)) 72 q (entC q cI cZ) u 10 [(0, .ref (q 13)), (1, .int x1), (2, .ref (q 3)), (3, .int x3), (4, .int x4)] []) : ∀ (x1 : Int32) (x3 : Int32) (x4 : Int32) (u : MM), wX8_holds_b124 N K ro10 x1 x3 x4 u → JX p l e (rr 0 0) s m args below meth c D (AJ 72 q s.heap.size) 7 (MQ below ((QI D 72 q (entC q cI cZ) K) (AJ 72 q s.heap.size)) args s 0 0 (AJ 72 q s.heap.size)) 72 q (entC q cI cZ) u 124 [(0, .ref (q 13)), (1, .int x1), (2, .ref (q 3)), (3, .int x3), (4, .int x4)] [] := by
    intro x1 x3 x4 u h
    refine j_iconst (v := 0) C dX8_holds_124 (by decide) ?_
    exact tX8_holds_b125 l D cI cZ ad q N C (hro10) _ _ _ _ _ h
set_option maxRecDepth 100000 in
set_option maxHeartbeats 4000000 in
theorem tX8_holds_b10 (l : Launch) (D : va_G) (cI cZ : ClassId) (ad q : Nat → Nat) (N : Nat) {p : Program} {e : Env} {s : State} {m : MethodId} {args : Array Value} {below : List Frame} {meth : Method} {c : Code} {K : Int32 → MM → Prop} (C : CX p s m args meth c cX8_holds 7 RX8 (some .boolean) D cI cZ ad (AJ 72 q s.heap.size)) : ∀ (n : Nat) (x1 : Int32) (x3 : Int32) (x4 : Int32) (u : MM), wX8_holds_b10 N K n x1 x3 x4 u → JX p l e (rr 0 0) s m args below meth c D (AJ 72 q s.heap.size) 7 (MQ below ((QI D 72 q (entC q cI cZ) K) (AJ 72 q s.heap.size)) args s 0 0 (AJ 72 q s.heap.size)) 72 q (entC q cI cZ) u 10 [(0, .ref (q 13)), (1, .int x1), (2, .ref (q 3)), (3, .int x3), (4, .int x4)] [] := by
  intro n
  induction n with
  | zero => intro x1 x3 x4 u h; exact h.elim
  | succ n ih =>
    intro x1 x3 x4 u h
    refine j_iload C 4 dX8_holds_10 rfl ?_
    refine j_aload_n C 0 dX8_holds_12 rfl ?_
    refine j_get C 13 7 (ly_X8 C.2.2.2.2.2.2.2.1.1) q_75 rfl rfl (by decide) rfl rfl (by decide) rfl dX8_holds_13 ?_
    refine j_iload_n C 1 dX8_holds_16 rfl ?_
    obtain ⟨hin, h⟩ := h
    refine j_ialoadK (N := 10) C 17 _ rfl hin (by decide) rfl rfl dX8_holds_17 ?_
    refine j_icmp_ge C 148 dX8_holds_18 (by decide) (fun c2 => ?_) (fun c2 => ?_)
    · have h := h.1 c2
      refine j_iload_n C 3 dX8_holds_148 rfl ?_
      refine j_iconst (v := 1) C dX8_holds_149 (by decide) ?_
      refine j_iand C dX8_holds_150 ?_
      refine j_iconst (v := 1) C dX8_holds_151 (by decide) ?_
      refine j_icmp_ne C 159 dX8_holds_152 (by decide) (fun c3 => ?_) (fun c3 => ?_)
      · have h := h.1 c3
        refine j_iconst (v := 0) C dX8_holds_159 (by decide) ?_
        exact j_zret C dX8_holds_160 rfl h
      · have h := h.2 c3
        refine j_iconst (v := 1) C dX8_holds_155 (by decide) ?_
        refine j_goto C 160 dX8_holds_156 (by decide) ?_
        exact j_zret C dX8_holds_160 rfl h
    · have h := h.2 c2
      refine j_aload_n C 0 dX8_holds_21 rfl ?_
      refine j_get C 13 8 (ly_X8 C.2.2.2.2.2.2.2.1.1) q_76 rfl rfl (by decide) rfl rfl (by decide) rfl dX8_holds_22 ?_
      refine j_iload C 4 dX8_holds_25 rfl ?_
      obtain ⟨hin, h⟩ := h
      refine j_ialoadK (N := 100) C 18 _ rfl hin (by decide) rfl rfl dX8_holds_27 ?_
      refine j_nmi (fun y4 ey4 => ?_)
      have h := h y4 ey4
      refine j_istore (lv' := [(5, .int y4), (0, .ref (q 13)), (1, .int x1), (2, .ref (q 3)), (3, .int x3), (4, .int x4)]) C dX8_holds_28 (by decide) rfl ?_
      refine j_iload C 0 dX8_holds_30 rfl ?_
      refine j_iconst (v := (-1)) C dX8_holds_32 (by decide) ?_
      refine j_icmp_ne C 43 dX8_holds_33 (by decide) (fun c5 => ?_) (fun c5 => ?_)
      · have h := h.1 c5
        refine j_iload C 0 dX8_holds_43 rfl ?_
        refine j_bipush (v := (-2)) C dX8_holds_45 (by decide) ?_
        refine j_icmp_ne C 62 dX8_holds_47 (by decide) (fun c6 => ?_) (fun c6 => ?_)
        · have h := h.1 c6
          refine j_iload C 0 dX8_holds_62 rfl ?_
          refine j_bipush (v := (-3)) C dX8_holds_64 (by decide) ?_
          refine j_icmp_ne C 80 dX8_holds_66 (by decide) (fun c7 => ?_) (fun c7 => ?_)
          · have h := h.1 c7
            refine j_iload C 0 dX8_holds_80 rfl ?_
            refine j_if_lt C 142 dX8_holds_82 (by decide) (fun c8 => ?_) (fun c8 => ?_)
            · have h := h.1 c8
              refine j_sub (lv' := [(0, .ref (q 13)), (1, .int x1), (2, .ref (q 3)), (3, .int x3), (4, .int x4)]) [1, 2, 3, 4, 5] rfl ?_
              exact tX8_holds_b142 l D cI cZ ad q N C ih _ _ _ _ h
            · have h := h.2 c8
              refine j_iload C 0 dX8_holds_85 rfl ?_
              refine j_aload_n C 3 dX8_holds_87 rfl ?_
              refine j_alen (v := 5) C 3 (by decide) rfl (t0 := 0) rfl rfl dX8_holds_88 ?_
              refine j_icmp_ge C 142 dX8_holds_89 (by decide) (fun c9 => ?_) (fun c9 => ?_)
              · have h := h.1 c9
                refine j_sub (lv' := [(0, .ref (q 13)), (1, .int x1), (2, .ref (q 3)), (3, .int x3), (4, .int x4)]) [1, 2, 3, 4, 5] rfl ?_
                exact tX8_holds_b142 l D cI cZ ad q N C ih _ _ _ _ h
              · have h := h.2 c9
                refine j_aload_n C 3 dX8_holds_92 rfl ?_
                refine j_iload C 0 dX8_holds_93 rfl ?_
                obtain ⟨hin, h⟩ := h
                refine j_ialoadK (N := 5) C 3 _ rfl hin (by decide) rfl rfl dX8_holds_95 ?_
                refine j_aload_n C 1 dX8_holds_96 rfl ?_
                refine j_get C 13 9 (ly_X8 C.2.2.2.2.2.2.2.1.1) q_77 rfl rfl (by decide) rfl rfl (by decide) rfl dX8_holds_97 ?_
                refine j_iload C 5 dX8_holds_100 rfl ?_
                obtain ⟨hin, h⟩ := h
                refine j_ialoadK (N := 100) C 19 _ rfl hin (by decide) rfl rfl dX8_holds_102 ?_
                refine j_icmp_lt C 124 dX8_holds_103 (by decide) (fun c10 => ?_) (fun c10 => ?_)
                · have h := h.1 c10
                  refine j_sub (lv' := [(0, .ref (q 13)), (1, .int x1), (2, .ref (q 3)), (3, .int x3), (4, .int x4)]) [1, 2, 3, 4, 5] rfl ?_
                  exact tX8_holds_b124 l D cI cZ ad q N C ih _ _ _ _ h
                · have h := h.2 c10
                  refine j_aload_n C 3 dX8_holds_106 rfl ?_
                  refine j_iload C 0 dX8_holds_107 rfl ?_
                  obtain ⟨hin, h⟩ := h
                  refine j_ialoadK (N := 5) C 3 _ rfl hin (by decide) rfl rfl dX8_holds_109 ?_
                  refine j_aload_n C 1 dX8_holds_110 rfl ?_
                  refine j_get C 13 10 (ly_X8 C.2.2.2.2.2.2.2.1.1) q_78 rfl rfl (by decide) rfl rfl (by decide) rfl dX8_holds_111 ?_
                  refine j_iload C 5 dX8_holds_114 rfl ?_
                  obtain ⟨hin, h⟩ := h
                  refine j_ialoadK (N := 100) C 20 _ rfl hin (by decide) rfl rfl dX8_holds_116 ?_
                  refine j_icmp_gt C 124 dX8_holds_117 (by decide) (fun c11 => ?_) (fun c11 => ?_)
                  · have h := h.1 c11
                    refine j_sub (lv' := [(0, .ref (q 13)), (1, .int x1), (2, .ref (q 3)), (3, .int x3), (4, .int x4)]) [1, 2, 3, 4, 5] rfl ?_
                    exact tX8_holds_b124 l D cI cZ ad q N C ih _ _ _ _ h
                  · have h := h.2 c11
                    refine j_iconst (v := 1) C dX8_holds_120 (by decide) ?_
                    refine j_goto C 125 dX8_holds_121 (by decide) ?_
                    refine j_sub (lv' := [(0, .ref (q 13)), (1, .int x1), (2, .ref (q 3)), (3, .int x3), (4, .int x4)]) [1, 2, 3, 4, 5] rfl ?_
                    exact tX8_holds_b125 l D cI cZ ad q N C ih _ _ _ _ _ h
          · have h := h.2 c7
            refine j_iload_n C 4 dX8_holds_69 rfl ?_
            refine j_iconst (v := 1) C dX8_holds_70 (by decide) ?_
            refine j_ishr C dX8_holds_71 ?_
            refine j_iload_n C 4 dX8_holds_72 rfl ?_
            refine j_iconst (v := 1) C dX8_holds_73 (by decide) ?_
            refine j_iand C dX8_holds_74 ?_
            refine j_ior C dX8_holds_75 ?_
            refine j_nmi (fun y12 ey12 => ?_)
            have h := h y12 ey12
            refine j_istore_n (lv' := [(3, .int y12), (5, .int y4), (0, .ref (q 13)), (1, .int x1), (2, .ref (q 3)), (4, .int x4)]) C dX8_holds_76 (by decide) rfl ?_
            refine j_goto C 142 dX8_holds_77 (by decide) ?_
            refine j_sub (lv' := [(0, .ref (q 13)), (1, .int x1), (2, .ref (q 3)), (3, .int y12), (4, .int x4)]) [2, 3, 4, 0, 5] rfl ?_
            exact tX8_holds_b142 l D cI cZ ad q N C ih _ _ _ _ h
        · have h := h.2 c6
          refine j_iload_n C 4 dX8_holds_50 rfl ?_
          refine j_iconst (v := 1) C dX8_holds_51 (by decide) ?_
          refine j_ishr C dX8_holds_52 ?_
          refine j_iload_n C 4 dX8_holds_53 rfl ?_
          refine j_bipush (v := (-2)) C dX8_holds_54 (by decide) ?_
          refine j_ior C dX8_holds_56 ?_
          refine j_iand C dX8_holds_57 ?_
          refine j_nmi (fun y13 ey13 => ?_)
          have h := h y13 ey13
          refine j_istore_n (lv' := [(3, .int y13), (5, .int y4), (0, .ref (q 13)), (1, .int x1), (2, .ref (q 3)), (4, .int x4)]) C dX8_holds_58 (by decide) rfl ?_
          refine j_goto C 142 dX8_holds_59 (by decide) ?_
          refine j_sub (lv' := [(0, .ref (q 13)), (1, .int x1), (2, .ref (q 3)), (3, .int y13), (4, .int x4)]) [2, 3, 4, 0, 5] rfl ?_
          exact tX8_holds_b142 l D cI cZ ad q N C ih _ _ _ _ h
      · have h := h.2 c5
        refine j_iload_n C 4 dX8_holds_36 rfl ?_
        refine j_iconst (v := 1) C dX8_holds_37 (by decide) ?_
        refine j_ixor C dX8_holds_38 ?_
        refine j_nmi (fun y14 ey14 => ?_)
        have h := h y14 ey14
        refine j_istore_n (lv' := [(3, .int y14), (5, .int y4), (0, .ref (q 13)), (1, .int x1), (2, .ref (q 3)), (4, .int x4)]) C dX8_holds_39 (by decide) rfl ?_
        refine j_goto C 142 dX8_holds_40 (by decide) ?_
        refine j_sub (lv' := [(0, .ref (q 13)), (1, .int x1), (2, .ref (q 3)), (3, .int y14), (4, .int x4)]) [2, 3, 4, 0, 5] rfl ?_
        exact tX8_holds_b142 l D cI cZ ad q N C ih _ _ _ _ h
set_option maxRecDepth 100000 in
set_option maxHeartbeats 4000000 in
theorem kX_X8_holds (l : Launch) (D : va_G) (cI cZ : ClassId) (ad q : Nat → Nat) (N : Nat) {x1 : Int32} {u : MM} {K : Int32 → MM → Prop} (h : wX8_holds N x1 u K) : CT l D cI cZ ad 72 q (entC q cI cZ) yX8_holds cX8_holds 7 (some .boolean) (rr 0 0) [.ref (q 13), .int x1, .ref (q 3)] u (QI D 72 q (entC q cI cZ) K) := by
    refine ct_of (by decide +kernel) (Nat.le_of_ble_eq_true rfl) (fun p e s m args below meth c C => ?_)
    refine j_sub (lv' := [(0, .ref (q 13)), (1, .int x1), (2, .ref (q 3))]) [0, 1, 2] rfl ?_
    refine j_iconst (v := 0) C dX8_holds_0 (by decide) ?_
    refine j_istore_n (lv' := [(3, .int 0), (0, .ref (q 13)), (1, .int x1), (2, .ref (q 3))]) C dX8_holds_1 (by decide) rfl ?_
    refine j_aload_n C 1 dX8_holds_2 rfl ?_
    refine j_get C 13 6 (ly_X8 C.2.2.2.2.2.2.2.1.1) q_74 rfl rfl (by decide) rfl rfl (by decide) rfl dX8_holds_3 ?_
    refine j_iload_n C 2 dX8_holds_6 rfl ?_
    obtain ⟨hin, h⟩ := h
    refine j_ialoadK (N := 10) C 16 _ rfl hin (by decide) rfl rfl dX8_holds_7 ?_
    refine j_nmi (fun y1 ey1 => ?_)
    have h := h y1 ey1
    refine j_istore (lv' := [(4, .int y1), (3, .int 0), (0, .ref (q 13)), (1, .int x1), (2, .ref (q 3))]) C dX8_holds_8 (by decide) rfl ?_
    refine j_sub (lv' := [(0, .ref (q 13)), (1, .int x1), (2, .ref (q 3)), (3, .int 0), (4, .int y1)]) [2, 3, 4, 1, 0] rfl ?_
    exact tX8_holds_b10 l D cI cZ ad q N C N _ _ _ _ h

def wX8_weigh_b45 (N : Nat) (K : Int32 → MM → Prop) (ro5 : Int32 → Int32 → Int32 → MM → Prop) (x1 : Int32) (x3 : Int32) (x4 : Int32) (u : MM) : Prop := (∀ y7 : Int32, y7 = x4 + 1 → (ro5 x1 x3 y7 u))
def wX8_weigh_b5 (N : Nat) (K : Int32 → MM → Prop) : Nat → Int32 → Int32 → Int32 → MM → Prop
  | 0, _, _, _, _ => False
  | n + 1, x1, x3, x4, u => (((u 13 2) ≤ x4 → (K x3 u)) ∧ (¬ (u 13 2) ≤ x4 → (vp_in x4 10 ∧ ((¬ (u 14 x4.toNatClampNeg) = x1 → (wX8_weigh_b45 N K (wX8_weigh_b5 N K n) x1 x3 x4 u)) ∧ ((u 14 x4.toNatClampNeg) = x1 → (wX8_holds N x4 u (fun r3 u4 => ((r3 = 0 → (wX8_weigh_b45 N K (wX8_weigh_b5 N K n) x1 x3 x4 u4)) ∧ (¬ r3 = 0 → (vp_in x4 10 ∧ (∀ y6 : Int32, y6 = (x3 + (u4 15 x4.toNatClampNeg)) → (wX8_weigh_b45 N K (wX8_weigh_b5 N K n) x1 y6 x4 u4))))))))))))
def wX8_weigh (N : Nat) (x1 : Int32) (u : MM) (K : Int32 → MM → Prop) : Prop := (wX8_weigh_b5 N K N x1 0 0 u)
set_option maxRecDepth 100000 in
set_option maxHeartbeats 4000000 in
theorem tX8_weigh_b45 (l : Launch) (D : va_G) (cI cZ : ClassId) (ad q : Nat → Nat) (N : Nat) {p : Program} {e : Env} {s : State} {m : MethodId} {args : Array Value} {below : List Frame} {meth : Method} {c : Code} {K : Int32 → MM → Prop} (C : CX p s m args meth c cX8_weigh 5 RX8 (some .int) D cI cZ ad (AJ 72 q s.heap.size)) {ro5 : Int32 → Int32 → Int32 → MM → Prop} (hro5 : ∀ (x1 : Int32) (x3 : Int32) (x4 : Int32) (u : MM), ro5 x1 x3 x4 u → JX p l e (rr 1 26) s m args below meth c D (AJ 72 q s.heap.size) 5 (MQ below ((QI D 72 q (entC q cI cZ) K) (AJ 72 q s.heap.size)) args s 0 0 (AJ 72 q s.heap.size)) 72 q (entC q cI cZ) u 5 [(0, .ref (q 13)), (1, .int x1), (2, .ref (q 3)), (3, .int x3), (4, .int x4)] []) : ∀ (x1 : Int32) (x3 : Int32) (x4 : Int32) (u : MM), wX8_weigh_b45 N K ro5 x1 x3 x4 u → JX p l e (rr 1 26) s m args below meth c D (AJ 72 q s.heap.size) 5 (MQ below ((QI D 72 q (entC q cI cZ) K) (AJ 72 q s.heap.size)) args s 0 0 (AJ 72 q s.heap.size)) 72 q (entC q cI cZ) u 45 [(0, .ref (q 13)), (1, .int x1), (2, .ref (q 3)), (3, .int x3), (4, .int x4)] [] := by
    intro x1 x3 x4 u h
    obtain ⟨y7, ey7⟩ : ∃ z : Int32, z = x4 + 1 := ⟨_, rfl⟩
    have h := h y7 ey7
    refine j_iinc (v := y7) (lv' := [(4, .int y7), (0, .ref (q 13)), (1, .int x1), (2, .ref (q 3)), (3, .int x3)]) C 4 dX8_weigh_45 rfl (by rw [ey7]; rfl) (by decide) rfl ?_
    refine j_goto C 5 dX8_weigh_48 (by decide) ?_
    refine j_sub (lv' := [(0, .ref (q 13)), (1, .int x1), (2, .ref (q 3)), (3, .int x3), (4, .int y7)]) [1, 2, 3, 4, 0] rfl ?_
    exact hro5 _ _ _ _ h
set_option maxRecDepth 100000 in
set_option maxHeartbeats 4000000 in
theorem tX8_weigh_b5 (l : Launch) (D : va_G) (cI cZ : ClassId) (ad q : Nat → Nat) (N : Nat) {p : Program} {e : Env} {s : State} {m : MethodId} {args : Array Value} {below : List Frame} {meth : Method} {c : Code} {K : Int32 → MM → Prop} (C : CX p s m args meth c cX8_weigh 5 RX8 (some .int) D cI cZ ad (AJ 72 q s.heap.size)) : ∀ (n : Nat) (x1 : Int32) (x3 : Int32) (x4 : Int32) (u : MM), wX8_weigh_b5 N K n x1 x3 x4 u → JX p l e (rr 1 26) s m args below meth c D (AJ 72 q s.heap.size) 5 (MQ below ((QI D 72 q (entC q cI cZ) K) (AJ 72 q s.heap.size)) args s 0 0 (AJ 72 q s.heap.size)) 72 q (entC q cI cZ) u 5 [(0, .ref (q 13)), (1, .int x1), (2, .ref (q 3)), (3, .int x3), (4, .int x4)] [] := by
  intro n
  induction n with
  | zero => intro x1 x3 x4 u h; exact h.elim
  | succ n ih =>
    intro x1 x3 x4 u h
    refine j_iload C 4 dX8_weigh_5 rfl ?_
    refine j_aload_n C 0 dX8_weigh_7 rfl ?_
    refine j_get C 13 2 (ly_X8 C.2.2.2.2.2.2.2.1.1) q_70 rfl rfl (by decide) rfl rfl (by decide) rfl dX8_weigh_8 ?_
    refine j_icmp_ge C 51 dX8_weigh_11 (by decide) (fun c1 => ?_) (fun c1 => ?_)
    · have h := h.1 c1
      refine j_iload_n C 3 dX8_weigh_51 rfl ?_
      exact j_iret C dX8_weigh_52 h
    · have h := h.2 c1
      refine j_aload_n C 0 dX8_weigh_14 rfl ?_
      refine j_get C 13 4 (ly_X8 C.2.2.2.2.2.2.2.1.1) q_72 rfl rfl (by decide) rfl rfl (by decide) rfl dX8_weigh_15 ?_
      refine j_iload C 4 dX8_weigh_18 rfl ?_
      obtain ⟨hin, h⟩ := h
      refine j_ialoadK (N := 10) C 14 _ rfl hin (by decide) rfl rfl dX8_weigh_20 ?_
      refine j_iload_n C 1 dX8_weigh_21 rfl ?_
      refine j_icmp_ne C 45 dX8_weigh_22 (by decide) (fun c2 => ?_) (fun c2 => ?_)
      · have h := h.1 c2
        exact tX8_weigh_b45 l D cI cZ ad q N C ih _ _ _ _ h
      · have h := h.2 c2
        refine j_aload_n C 0 dX8_weigh_25 rfl ?_
        refine j_iload C 4 dX8_weigh_26 rfl ?_
        refine j_aload_n C 2 dX8_weigh_28 rfl ?_
        refine j_wi C (fun H locs ls hP hD hS hl => run_V (Cn := "") (As := [.int x4, .ref (q 3)]) (st := []) C mf_X8_holds 13 (kX_X8_holds l D cI cZ ad q N h) q_378 (by decide) rfl rfl rfl rfl ⟨rfl, rfl, by decide, by decide⟩ (Nat.le_of_ble_eq_true rfl) dX8_weigh_29 hP hD hS hl) (fun r3 u4 h => ?_)
        refine j_if_eq C 45 dX8_weigh_32 (by decide) (fun c5 => ?_) (fun c5 => ?_)
        · have h := h.1 c5
          exact tX8_weigh_b45 l D cI cZ ad q N C ih _ _ _ _ h
        · have h := h.2 c5
          refine j_iload_n C 3 dX8_weigh_35 rfl ?_
          refine j_aload_n C 0 dX8_weigh_36 rfl ?_
          refine j_get C 13 5 (ly_X8 C.2.2.2.2.2.2.2.1.1) q_73 rfl rfl (by decide) rfl rfl (by decide) rfl dX8_weigh_37 ?_
          refine j_iload C 4 dX8_weigh_40 rfl ?_
          obtain ⟨hin, h⟩ := h
          refine j_ialoadK (N := 10) C 15 _ rfl hin (by decide) rfl rfl dX8_weigh_42 ?_
          refine j_iadd C dX8_weigh_43 ?_
          refine j_nmi (fun y6 ey6 => ?_)
          have h := h y6 ey6
          refine j_istore_n (lv' := [(3, .int y6), (0, .ref (q 13)), (1, .int x1), (2, .ref (q 3)), (4, .int x4)]) C dX8_weigh_44 (by decide) rfl ?_
          refine j_sub (lv' := [(0, .ref (q 13)), (1, .int x1), (2, .ref (q 3)), (3, .int y6), (4, .int x4)]) [1, 2, 3, 0, 4] rfl ?_
          exact tX8_weigh_b45 l D cI cZ ad q N C ih _ _ _ _ h
set_option maxRecDepth 100000 in
set_option maxHeartbeats 4000000 in
theorem kX_X8_weigh (l : Launch) (D : va_G) (cI cZ : ClassId) (ad q : Nat → Nat) (N : Nat) {x1 : Int32} {u : MM} {K : Int32 → MM → Prop} (h : wX8_weigh N x1 u K) : CT l D cI cZ ad 72 q (entC q cI cZ) yX8_weigh cX8_weigh 5 (some .int) (rr 1 26) [.ref (q 13), .int x1, .ref (q 3)] u (QI D 72 q (entC q cI cZ) K) := by
    refine ct_of (by decide +kernel) (Nat.le_of_ble_eq_true rfl) (fun p e s m args below meth c C => ?_)
    refine j_sub (lv' := [(0, .ref (q 13)), (1, .int x1), (2, .ref (q 3))]) [0, 1, 2] rfl ?_
    refine j_iconst (v := 0) C dX8_weigh_0 (by decide) ?_
    refine j_istore_n (lv' := [(3, .int 0), (0, .ref (q 13)), (1, .int x1), (2, .ref (q 3))]) C dX8_weigh_1 (by decide) rfl ?_
    refine j_iconst (v := 0) C dX8_weigh_2 (by decide) ?_
    refine j_istore (lv' := [(4, .int 0), (3, .int 0), (0, .ref (q 13)), (1, .int x1), (2, .ref (q 3))]) C dX8_weigh_3 (by decide) rfl ?_
    refine j_sub (lv' := [(0, .ref (q 13)), (1, .int x1), (2, .ref (q 3)), (3, .int 0), (4, .int 0)]) [2, 3, 4, 1, 0] rfl ?_
    exact tX8_weigh_b5 l D cI cZ ad q N C N _ _ _ _ h

def wX7_mayOf_b85 (N : Nat) (K : Int32 → MM → Prop) (o : Nat) (ro5 : Int32 → Int32 → Int32 → MM → Prop) (x2 : Int32) (x3 : Int32) (x4 : Int32) (u : MM) : Prop := (∀ y12 : Int32, y12 = x4 + 1 → (ro5 x2 x3 y12 u))
def wX7_mayOf_b5 (N : Nat) (K : Int32 → MM → Prop) (o : Nat) : Nat → Int32 → Int32 → Int32 → MM → Prop
  | 0, _, _, _, _ => False
  | n + 1, x2, x3, x4, u => (((u 21 0) ≤ x4 → (K x3 u)) ∧ (¬ (u 21 0) ≤ x4 → (vp_in x2 7 ∧ (wX10_hasBit N (u 24 x2.toNatClampNeg) x4 (fun r2 => ((r2 = 0 → (wX7_mayOf_b85 N K o (wX7_mayOf_b5 N K o n) x2 x3 x4 u)) ∧ (¬ r2 = 0 → (wX10_hasBit N (u o 2) x4 (fun r4 => ((¬ r4 = 0 → (wX7_mayOf_b85 N K o (wX7_mayOf_b5 N K o n) x2 x3 x4 u)) ∧ (r4 = 0 → (wX7_setFacts N o x2 x4 u (fun u7 => (wX8_weigh N 0 u7 (fun r8 u9 => ((¬ r8 = 0 → (wX7_mayOf_b85 N K o (wX7_mayOf_b5 N K o n) x2 x3 x4 u9)) ∧ (r8 = 0 → (∀ y11 : Int32, y11 = (x3 ||| ((1 : Int32) <<< (x4 &&& 31))) → (wX7_mayOf_b85 N K o (wX7_mayOf_b5 N K o n) x2 y11 x4 u9)))))))))))))))))))
def wX7_mayOf (N : Nat) (o : Nat) (x2 : Int32) (u : MM) (K : Int32 → MM → Prop) : Prop := (wX7_mayOf_b5 N K o N x2 0 0 u)
set_option maxRecDepth 100000 in
set_option maxHeartbeats 4000000 in
theorem tX7_mayOf_b85_27 (l : Launch) (D : va_G) (cI cZ : ClassId) (ad q : Nat → Nat) (N : Nat) {p : Program} {e : Env} {s : State} {m : MethodId} {args : Array Value} {below : List Frame} {meth : Method} {c : Code} {K : Int32 → MM → Prop} (C : CX p s m args meth c cX7_mayOf 5 RX7 (some .int) D cI cZ ad (AJ 72 q s.heap.size)) {ro5 : Int32 → Int32 → Int32 → MM → Prop} (hro5 : ∀ (x2 : Int32) (x3 : Int32) (x4 : Int32) (u : MM), ro5 x2 x3 x4 u → JX p l e (rr 2 50) s m args below meth c D (AJ 72 q s.heap.size) 5 (MQ below ((QI D 72 q (entC q cI cZ) K) (AJ 72 q s.heap.size)) args s 0 0 (AJ 72 q s.heap.size)) 72 q (entC q cI cZ) u 5 [(0, .ref (q 2)), (1, .ref (q 27)), (2, .int x2), (3, .int x3), (4, .int x4)] []) : ∀ (x2 : Int32) (x3 : Int32) (x4 : Int32) (u : MM), wX7_mayOf_b85 N K 27 ro5 x2 x3 x4 u → JX p l e (rr 2 50) s m args below meth c D (AJ 72 q s.heap.size) 5 (MQ below ((QI D 72 q (entC q cI cZ) K) (AJ 72 q s.heap.size)) args s 0 0 (AJ 72 q s.heap.size)) 72 q (entC q cI cZ) u 85 [(0, .ref (q 2)), (1, .ref (q 27)), (2, .int x2), (3, .int x3), (4, .int x4)] [] := by
    intro x2 x3 x4 u h
    obtain ⟨y12, ey12⟩ : ∃ z : Int32, z = x4 + 1 := ⟨_, rfl⟩
    have h := h y12 ey12
    refine j_iinc (v := y12) (lv' := [(4, .int y12), (0, .ref (q 2)), (1, .ref (q 27)), (2, .int x2), (3, .int x3)]) C 4 dX7_mayOf_85 rfl (by rw [ey12]; rfl) (by decide) rfl ?_
    refine j_goto C 5 dX7_mayOf_88 (by decide) ?_
    refine j_sub (lv' := [(0, .ref (q 2)), (1, .ref (q 27)), (2, .int x2), (3, .int x3), (4, .int y12)]) [1, 2, 3, 4, 0] rfl ?_
    exact hro5 _ _ _ _ h
set_option maxRecDepth 100000 in
set_option maxHeartbeats 4000000 in
theorem tX7_mayOf_b5_27 (l : Launch) (D : va_G) (cI cZ : ClassId) (ad q : Nat → Nat) (N : Nat) {p : Program} {e : Env} {s : State} {m : MethodId} {args : Array Value} {below : List Frame} {meth : Method} {c : Code} {K : Int32 → MM → Prop} (C : CX p s m args meth c cX7_mayOf 5 RX7 (some .int) D cI cZ ad (AJ 72 q s.heap.size)) : ∀ (n : Nat) (x2 : Int32) (x3 : Int32) (x4 : Int32) (u : MM), wX7_mayOf_b5 N K 27 n x2 x3 x4 u → JX p l e (rr 2 50) s m args below meth c D (AJ 72 q s.heap.size) 5 (MQ below ((QI D 72 q (entC q cI cZ) K) (AJ 72 q s.heap.size)) args s 0 0 (AJ 72 q s.heap.size)) 72 q (entC q cI cZ) u 5 [(0, .ref (q 2)), (1, .ref (q 27)), (2, .int x2), (3, .int x3), (4, .int x4)] [] := by
  intro n
  induction n with
  | zero => intro x2 x3 x4 u h; exact h.elim
  | succ n ih =>
    intro x2 x3 x4 u h
    refine j_iload C 4 dX7_mayOf_5 rfl ?_
    refine j_aload_n C 0 dX7_mayOf_7 rfl ?_
    refine j_get C 2 0 (ly_X7 C.2.2.2.2.2.2.2.1.1) q_165 rfl rfl (by decide) rfl rfl (by decide) rfl dX7_mayOf_8 ?_
    refine j_getN C 10 3 (ly_X5 C.2.2.2.2.2.2.2.1.1) q_155 rfl rfl (by decide) rfl rfl (by decide) rfl dX7_mayOf_11 ?_
    refine j_getN C 21 0 (ly_X2 C.2.2.2.2.2.2.2.1.1) q_87 rfl rfl (by decide) rfl rfl (by decide) rfl dX7_mayOf_14 ?_
    refine j_icmp_ge C 91 dX7_mayOf_17 (by decide) (fun c1 => ?_) (fun c1 => ?_)
    · have h := h.1 c1
      refine j_iload_n C 3 dX7_mayOf_91 rfl ?_
      exact j_iret C dX7_mayOf_92 h
    · have h := h.2 c1
      refine j_aload_n C 0 dX7_mayOf_20 rfl ?_
      refine j_get C 2 0 (ly_X7 C.2.2.2.2.2.2.2.1.1) q_165 rfl rfl (by decide) rfl rfl (by decide) rfl dX7_mayOf_21 ?_
      refine j_getN C 10 3 (ly_X5 C.2.2.2.2.2.2.2.1.1) q_155 rfl rfl (by decide) rfl rfl (by decide) rfl dX7_mayOf_24 ?_
      refine j_getN C 21 3 (ly_X2 C.2.2.2.2.2.2.2.1.1) q_96 rfl rfl (by decide) rfl rfl (by decide) rfl dX7_mayOf_27 ?_
      refine j_iload_n C 2 dX7_mayOf_30 rfl ?_
      obtain ⟨hin, h⟩ := h
      refine j_ialoadK (N := 7) C 24 _ rfl hin (by decide) rfl rfl dX7_mayOf_31 ?_
      refine j_iload C 4 dX7_mayOf_32 rfl ?_
      refine j_ui C (fun H locs ls hP hD => run_SN (As := [.int (u 24 x2.toNatClampNeg), .int x4]) (st := []) C mf_X10_hasBit (kX_X10_hasBit l D cI cZ ad q N h) q_374 rfl rfl ⟨rfl, rfl, by decide, by decide⟩ (Nat.le_of_ble_eq_true rfl) dX7_mayOf_34 hP hD) (fun r2 _ h => ?_)
      refine j_if_eq C 85 dX7_mayOf_37 (by decide) (fun c3 => ?_) (fun c3 => ?_)
      · have h := h.1 c3
        exact tX7_mayOf_b85_27 l D cI cZ ad q N C ih _ _ _ _ h
      · have h := h.2 c3
        refine j_aload_n C 1 dX7_mayOf_40 rfl ?_
        refine j_getN C 27 2 (ly_X9 C.2.2.2.2.2.2.2.1.1) q_116 rfl rfl (by decide) rfl rfl (by decide) rfl dX7_mayOf_41 ?_
        refine j_iload C 4 dX7_mayOf_44 rfl ?_
        refine j_ui C (fun H locs ls hP hD => run_SN (As := [.int (u 27 2), .int x4]) (st := []) C mf_X10_hasBit (kX_X10_hasBit l D cI cZ ad q N h) q_374 rfl rfl ⟨rfl, rfl, by decide, by decide⟩ (Nat.le_of_ble_eq_true rfl) dX7_mayOf_46 hP hD) (fun r4 _ h => ?_)
        refine j_if_ne C 85 dX7_mayOf_49 (by decide) (fun c5 => ?_) (fun c5 => ?_)
        · have h := h.1 c5
          exact tX7_mayOf_b85_27 l D cI cZ ad q N C ih _ _ _ _ h
        · have h := h.2 c5
          refine j_aload_n C 0 dX7_mayOf_52 rfl ?_
          refine j_aload_n C 1 dX7_mayOf_53 rfl ?_
          refine j_iload_n C 2 dX7_mayOf_54 rfl ?_
          refine j_iload C 4 dX7_mayOf_55 rfl ?_
          refine j_wv C (fun H locs ls hP hD hS hl => run_V (Cn := "") (As := [.ref (q 27), .int x2, .int x4]) (st := []) C mf_X7_setFacts 2 (kX_X7_setFacts_27 l D cI cZ ad q N h) q_371 (by decide) rfl rfl rfl rfl ⟨rfl, rfl, by decide, by decide⟩ (Nat.le_of_ble_eq_true rfl) dX7_mayOf_57 hP hD hS hl) (fun u7 h => ?_)
          refine j_aload_n C 0 dX7_mayOf_60 rfl ?_
          refine j_get C 2 0 (ly_X7 C.2.2.2.2.2.2.2.1.1) q_165 rfl rfl (by decide) rfl rfl (by decide) rfl dX7_mayOf_61 ?_
          refine j_getN C 10 1 (ly_X5 C.2.2.2.2.2.2.2.1.1) q_150 rfl rfl (by decide) rfl rfl (by decide) rfl dX7_mayOf_64 ?_
          refine j_iconst (v := 0) C dX7_mayOf_67 (by decide) ?_
          refine j_aload_n C 0 dX7_mayOf_68 rfl ?_
          refine j_get C 2 1 (ly_X7 C.2.2.2.2.2.2.2.1.1) q_168 rfl rfl (by decide) rfl rfl (by decide) rfl dX7_mayOf_69 ?_
          refine j_wi C (fun H locs ls hP hD hS hl => run_VN (Cn := "") (As := [.int 0, .ref (q 3)]) (st := []) C mf_X8_weigh 13 (kX_X8_weigh l D cI cZ ad q N h) q_375 (by decide) rfl rfl rfl rfl ⟨rfl, rfl, by decide, by decide⟩ (Nat.le_of_ble_eq_true rfl) dX7_mayOf_72 hP hD hS hl) (fun r8 u9 h => ?_)
          refine j_if_ne C 85 dX7_mayOf_75 (by decide) (fun c10 => ?_) (fun c10 => ?_)
          · have h := h.1 c10
            exact tX7_mayOf_b85_27 l D cI cZ ad q N C ih _ _ _ _ h
          · have h := h.2 c10
            refine j_iload_n C 3 dX7_mayOf_78 rfl ?_
            refine j_iconst (v := 1) C dX7_mayOf_79 (by decide) ?_
            refine j_iload C 4 dX7_mayOf_80 rfl ?_
            refine j_ishl C dX7_mayOf_82 ?_
            refine j_ior C dX7_mayOf_83 ?_
            refine j_nmi (fun y11 ey11 => ?_)
            have h := h y11 ey11
            refine j_istore_n (lv' := [(3, .int y11), (0, .ref (q 2)), (1, .ref (q 27)), (2, .int x2), (4, .int x4)]) C dX7_mayOf_84 (by decide) rfl ?_
            refine j_sub (lv' := [(0, .ref (q 2)), (1, .ref (q 27)), (2, .int x2), (3, .int y11), (4, .int x4)]) [1, 2, 3, 0, 4] rfl ?_
            exact tX7_mayOf_b85_27 l D cI cZ ad q N C ih _ _ _ _ h
set_option maxRecDepth 100000 in
set_option maxHeartbeats 4000000 in
theorem kX_X7_mayOf_27 (l : Launch) (D : va_G) (cI cZ : ClassId) (ad q : Nat → Nat) (N : Nat) {x2 : Int32} {u : MM} {K : Int32 → MM → Prop} (h : wX7_mayOf N 27 x2 u K) : CT l D cI cZ ad 72 q (entC q cI cZ) yX7_mayOf cX7_mayOf 5 (some .int) (rr 2 50) [.ref (q 2), .ref (q 27), .int x2] u (QI D 72 q (entC q cI cZ) K) := by
    refine ct_of (by decide +kernel) (Nat.le_of_ble_eq_true rfl) (fun p e s m args below meth c C => ?_)
    refine j_sub (lv' := [(0, .ref (q 2)), (1, .ref (q 27)), (2, .int x2)]) [0, 1, 2] rfl ?_
    refine j_iconst (v := 0) C dX7_mayOf_0 (by decide) ?_
    refine j_istore_n (lv' := [(3, .int 0), (0, .ref (q 2)), (1, .ref (q 27)), (2, .int x2)]) C dX7_mayOf_1 (by decide) rfl ?_
    refine j_iconst (v := 0) C dX7_mayOf_2 (by decide) ?_
    refine j_istore (lv' := [(4, .int 0), (3, .int 0), (0, .ref (q 2)), (1, .ref (q 27)), (2, .int x2)]) C dX7_mayOf_3 (by decide) rfl ?_
    refine j_sub (lv' := [(0, .ref (q 2)), (1, .ref (q 27)), (2, .int x2), (3, .int 0), (4, .int 0)]) [2, 3, 4, 1, 0] rfl ?_
    exact tX7_mayOf_b5_27 l D cI cZ ad q N C N _ _ _ _ h
set_option maxRecDepth 100000 in
set_option maxHeartbeats 4000000 in
theorem tX7_mayOf_b85_7 (l : Launch) (D : va_G) (cI cZ : ClassId) (ad q : Nat → Nat) (N : Nat) {p : Program} {e : Env} {s : State} {m : MethodId} {args : Array Value} {below : List Frame} {meth : Method} {c : Code} {K : Int32 → MM → Prop} (C : CX p s m args meth c cX7_mayOf 5 RX7 (some .int) D cI cZ ad (AJ 72 q s.heap.size)) {ro5 : Int32 → Int32 → Int32 → MM → Prop} (hro5 : ∀ (x2 : Int32) (x3 : Int32) (x4 : Int32) (u : MM), ro5 x2 x3 x4 u → JX p l e (rr 2 50) s m args below meth c D (AJ 72 q s.heap.size) 5 (MQ below ((QI D 72 q (entC q cI cZ) K) (AJ 72 q s.heap.size)) args s 0 0 (AJ 72 q s.heap.size)) 72 q (entC q cI cZ) u 5 [(0, .ref (q 2)), (1, .ref (q 7)), (2, .int x2), (3, .int x3), (4, .int x4)] []) : ∀ (x2 : Int32) (x3 : Int32) (x4 : Int32) (u : MM), wX7_mayOf_b85 N K 7 ro5 x2 x3 x4 u → JX p l e (rr 2 50) s m args below meth c D (AJ 72 q s.heap.size) 5 (MQ below ((QI D 72 q (entC q cI cZ) K) (AJ 72 q s.heap.size)) args s 0 0 (AJ 72 q s.heap.size)) 72 q (entC q cI cZ) u 85 [(0, .ref (q 2)), (1, .ref (q 7)), (2, .int x2), (3, .int x3), (4, .int x4)] [] := by
    intro x2 x3 x4 u h
    obtain ⟨y12, ey12⟩ : ∃ z : Int32, z = x4 + 1 := ⟨_, rfl⟩
    have h := h y12 ey12
    refine j_iinc (v := y12) (lv' := [(4, .int y12), (0, .ref (q 2)), (1, .ref (q 7)), (2, .int x2), (3, .int x3)]) C 4 dX7_mayOf_85 rfl (by rw [ey12]; rfl) (by decide) rfl ?_
    refine j_goto C 5 dX7_mayOf_88 (by decide) ?_
    refine j_sub (lv' := [(0, .ref (q 2)), (1, .ref (q 7)), (2, .int x2), (3, .int x3), (4, .int y12)]) [1, 2, 3, 4, 0] rfl ?_
    exact hro5 _ _ _ _ h
set_option maxRecDepth 100000 in
set_option maxHeartbeats 4000000 in
theorem tX7_mayOf_b5_7 (l : Launch) (D : va_G) (cI cZ : ClassId) (ad q : Nat → Nat) (N : Nat) {p : Program} {e : Env} {s : State} {m : MethodId} {args : Array Value} {below : List Frame} {meth : Method} {c : Code} {K : Int32 → MM → Prop} (C : CX p s m args meth c cX7_mayOf 5 RX7 (some .int) D cI cZ ad (AJ 72 q s.heap.size)) : ∀ (n : Nat) (x2 : Int32) (x3 : Int32) (x4 : Int32) (u : MM), wX7_mayOf_b5 N K 7 n x2 x3 x4 u → JX p l e (rr 2 50) s m args below meth c D (AJ 72 q s.heap.size) 5 (MQ below ((QI D 72 q (entC q cI cZ) K) (AJ 72 q s.heap.size)) args s 0 0 (AJ 72 q s.heap.size)) 72 q (entC q cI cZ) u 5 [(0, .ref (q 2)), (1, .ref (q 7)), (2, .int x2), (3, .int x3), (4, .int x4)] [] := by
  intro n
  induction n with
  | zero => intro x2 x3 x4 u h; exact h.elim
  | succ n ih =>
    intro x2 x3 x4 u h
    refine j_iload C 4 dX7_mayOf_5 rfl ?_
    refine j_aload_n C 0 dX7_mayOf_7 rfl ?_
    refine j_get C 2 0 (ly_X7 C.2.2.2.2.2.2.2.1.1) q_165 rfl rfl (by decide) rfl rfl (by decide) rfl dX7_mayOf_8 ?_
    refine j_getN C 10 3 (ly_X5 C.2.2.2.2.2.2.2.1.1) q_155 rfl rfl (by decide) rfl rfl (by decide) rfl dX7_mayOf_11 ?_
    refine j_getN C 21 0 (ly_X2 C.2.2.2.2.2.2.2.1.1) q_87 rfl rfl (by decide) rfl rfl (by decide) rfl dX7_mayOf_14 ?_
    refine j_icmp_ge C 91 dX7_mayOf_17 (by decide) (fun c1 => ?_) (fun c1 => ?_)
    · have h := h.1 c1
      refine j_iload_n C 3 dX7_mayOf_91 rfl ?_
      exact j_iret C dX7_mayOf_92 h
    · have h := h.2 c1
      refine j_aload_n C 0 dX7_mayOf_20 rfl ?_
      refine j_get C 2 0 (ly_X7 C.2.2.2.2.2.2.2.1.1) q_165 rfl rfl (by decide) rfl rfl (by decide) rfl dX7_mayOf_21 ?_
      refine j_getN C 10 3 (ly_X5 C.2.2.2.2.2.2.2.1.1) q_155 rfl rfl (by decide) rfl rfl (by decide) rfl dX7_mayOf_24 ?_
      refine j_getN C 21 3 (ly_X2 C.2.2.2.2.2.2.2.1.1) q_96 rfl rfl (by decide) rfl rfl (by decide) rfl dX7_mayOf_27 ?_
      refine j_iload_n C 2 dX7_mayOf_30 rfl ?_
      obtain ⟨hin, h⟩ := h
      refine j_ialoadK (N := 7) C 24 _ rfl hin (by decide) rfl rfl dX7_mayOf_31 ?_
      refine j_iload C 4 dX7_mayOf_32 rfl ?_
      refine j_ui C (fun H locs ls hP hD => run_SN (As := [.int (u 24 x2.toNatClampNeg), .int x4]) (st := []) C mf_X10_hasBit (kX_X10_hasBit l D cI cZ ad q N h) q_374 rfl rfl ⟨rfl, rfl, by decide, by decide⟩ (Nat.le_of_ble_eq_true rfl) dX7_mayOf_34 hP hD) (fun r2 _ h => ?_)
      refine j_if_eq C 85 dX7_mayOf_37 (by decide) (fun c3 => ?_) (fun c3 => ?_)
      · have h := h.1 c3
        exact tX7_mayOf_b85_7 l D cI cZ ad q N C ih _ _ _ _ h
      · have h := h.2 c3
        refine j_aload_n C 1 dX7_mayOf_40 rfl ?_
        refine j_getN C 7 2 (ly_X9 C.2.2.2.2.2.2.2.1.1) q_116 rfl rfl (by decide) rfl rfl (by decide) rfl dX7_mayOf_41 ?_
        refine j_iload C 4 dX7_mayOf_44 rfl ?_
        refine j_ui C (fun H locs ls hP hD => run_SN (As := [.int (u 7 2), .int x4]) (st := []) C mf_X10_hasBit (kX_X10_hasBit l D cI cZ ad q N h) q_374 rfl rfl ⟨rfl, rfl, by decide, by decide⟩ (Nat.le_of_ble_eq_true rfl) dX7_mayOf_46 hP hD) (fun r4 _ h => ?_)
        refine j_if_ne C 85 dX7_mayOf_49 (by decide) (fun c5 => ?_) (fun c5 => ?_)
        · have h := h.1 c5
          exact tX7_mayOf_b85_7 l D cI cZ ad q N C ih _ _ _ _ h
        · have h := h.2 c5
          refine j_aload_n C 0 dX7_mayOf_52 rfl ?_
          refine j_aload_n C 1 dX7_mayOf_53 rfl ?_
          refine j_iload_n C 2 dX7_mayOf_54 rfl ?_
          refine j_iload C 4 dX7_mayOf_55 rfl ?_
          refine j_wv C (fun H locs ls hP hD hS hl => run_V (Cn := "") (As := [.ref (q 7), .int x2, .int x4]) (st := []) C mf_X7_setFacts 2 (kX_X7_setFacts_7 l D cI cZ ad q N h) q_371 (by decide) rfl rfl rfl rfl ⟨rfl, rfl, by decide, by decide⟩ (Nat.le_of_ble_eq_true rfl) dX7_mayOf_57 hP hD hS hl) (fun u7 h => ?_)
          refine j_aload_n C 0 dX7_mayOf_60 rfl ?_
          refine j_get C 2 0 (ly_X7 C.2.2.2.2.2.2.2.1.1) q_165 rfl rfl (by decide) rfl rfl (by decide) rfl dX7_mayOf_61 ?_
          refine j_getN C 10 1 (ly_X5 C.2.2.2.2.2.2.2.1.1) q_150 rfl rfl (by decide) rfl rfl (by decide) rfl dX7_mayOf_64 ?_
          refine j_iconst (v := 0) C dX7_mayOf_67 (by decide) ?_
          refine j_aload_n C 0 dX7_mayOf_68 rfl ?_
          refine j_get C 2 1 (ly_X7 C.2.2.2.2.2.2.2.1.1) q_168 rfl rfl (by decide) rfl rfl (by decide) rfl dX7_mayOf_69 ?_
          refine j_wi C (fun H locs ls hP hD hS hl => run_VN (Cn := "") (As := [.int 0, .ref (q 3)]) (st := []) C mf_X8_weigh 13 (kX_X8_weigh l D cI cZ ad q N h) q_375 (by decide) rfl rfl rfl rfl ⟨rfl, rfl, by decide, by decide⟩ (Nat.le_of_ble_eq_true rfl) dX7_mayOf_72 hP hD hS hl) (fun r8 u9 h => ?_)
          refine j_if_ne C 85 dX7_mayOf_75 (by decide) (fun c10 => ?_) (fun c10 => ?_)
          · have h := h.1 c10
            exact tX7_mayOf_b85_7 l D cI cZ ad q N C ih _ _ _ _ h
          · have h := h.2 c10
            refine j_iload_n C 3 dX7_mayOf_78 rfl ?_
            refine j_iconst (v := 1) C dX7_mayOf_79 (by decide) ?_
            refine j_iload C 4 dX7_mayOf_80 rfl ?_
            refine j_ishl C dX7_mayOf_82 ?_
            refine j_ior C dX7_mayOf_83 ?_
            refine j_nmi (fun y11 ey11 => ?_)
            have h := h y11 ey11
            refine j_istore_n (lv' := [(3, .int y11), (0, .ref (q 2)), (1, .ref (q 7)), (2, .int x2), (4, .int x4)]) C dX7_mayOf_84 (by decide) rfl ?_
            refine j_sub (lv' := [(0, .ref (q 2)), (1, .ref (q 7)), (2, .int x2), (3, .int y11), (4, .int x4)]) [1, 2, 3, 0, 4] rfl ?_
            exact tX7_mayOf_b85_7 l D cI cZ ad q N C ih _ _ _ _ h
set_option maxRecDepth 100000 in
set_option maxHeartbeats 4000000 in
theorem kX_X7_mayOf_7 (l : Launch) (D : va_G) (cI cZ : ClassId) (ad q : Nat → Nat) (N : Nat) {x2 : Int32} {u : MM} {K : Int32 → MM → Prop} (h : wX7_mayOf N 7 x2 u K) : CT l D cI cZ ad 72 q (entC q cI cZ) yX7_mayOf cX7_mayOf 5 (some .int) (rr 2 50) [.ref (q 2), .ref (q 7), .int x2] u (QI D 72 q (entC q cI cZ) K) := by
    refine ct_of (by decide +kernel) (Nat.le_of_ble_eq_true rfl) (fun p e s m args below meth c C => ?_)
    refine j_sub (lv' := [(0, .ref (q 2)), (1, .ref (q 7)), (2, .int x2)]) [0, 1, 2] rfl ?_
    refine j_iconst (v := 0) C dX7_mayOf_0 (by decide) ?_
    refine j_istore_n (lv' := [(3, .int 0), (0, .ref (q 2)), (1, .ref (q 7)), (2, .int x2)]) C dX7_mayOf_1 (by decide) rfl ?_
    refine j_iconst (v := 0) C dX7_mayOf_2 (by decide) ?_
    refine j_istore (lv' := [(4, .int 0), (3, .int 0), (0, .ref (q 2)), (1, .ref (q 7)), (2, .int x2)]) C dX7_mayOf_3 (by decide) rfl ?_
    refine j_sub (lv' := [(0, .ref (q 2)), (1, .ref (q 7)), (2, .int x2), (3, .int 0), (4, .int 0)]) [2, 3, 4, 1, 0] rfl ?_
    exact tX7_mayOf_b5_7 l D cI cZ ad q N C N _ _ _ _ h

def wX2_pickFromRow_b6 (N : Nat) (K : Int32 → MM → Prop) : Nat → Int32 → Int32 → Int32 → Int32 → Int32 → MM → Prop
  | 0, _, _, _, _, _, _ => False
  | n + 1, x1, x2, x3, x4, x5, u => (vp_in x1 7 ∧ (((u 25 x1.toNatClampNeg) ≤ x5 → (K x4 u)) ∧ (¬ (u 25 x1.toNatClampNeg) ≤ x5 → (wJ6_bitCount_0f7a4 N x4 (fun r2 => ((x3 ≤ r2 → (K x4 u)) ∧ (¬ x3 ≤ r2 → (vp_in (((x1 * 7) + x5)) 49 ∧ (∀ y4 : Int32, y4 = (x4 ||| (x2 &&& ((1 : Int32) <<< ((u 26 ((x1 * 7) + x5).toNatClampNeg) &&& 31)))) → (∀ y5 : Int32, y5 = x5 + 1 → (wX2_pickFromRow_b6 N K n x1 x2 x3 y4 y5 u)))))))))))
def wX2_pickFromRow (N : Nat) (x1 : Int32) (x2 : Int32) (x3 : Int32) (u : MM) (K : Int32 → MM → Prop) : Prop := (wX2_pickFromRow_b6 N K N x1 x2 x3 0 0 u)
set_option maxRecDepth 100000 in
set_option maxHeartbeats 4000000 in
theorem tX2_pickFromRow_b6 (l : Launch) (D : va_G) (cI cZ : ClassId) (ad q : Nat → Nat) (N : Nat) {p : Program} {e : Env} {s : State} {m : MethodId} {args : Array Value} {below : List Frame} {meth : Method} {c : Code} {K : Int32 → MM → Prop} (C : CX p s m args meth c cX2_pickFromRow 6 RX2 (some .int) D cI cZ ad (AJ 72 q s.heap.size)) : ∀ (n : Nat) (x1 : Int32) (x2 : Int32) (x3 : Int32) (x4 : Int32) (x5 : Int32) (u : MM), wX2_pickFromRow_b6 N K n x1 x2 x3 x4 x5 u → JX p l e (rr 1 20) s m args below meth c D (AJ 72 q s.heap.size) 6 (MQ below ((QI D 72 q (entC q cI cZ) K) (AJ 72 q s.heap.size)) args s 0 0 (AJ 72 q s.heap.size)) 72 q (entC q cI cZ) u 6 [(0, .ref (q 21)), (1, .int x1), (2, .int x2), (3, .int x3), (4, .int x4), (5, .int x5)] [] := by
  intro n
  induction n with
  | zero => intro x1 x2 x3 x4 x5 u h; exact h.elim
  | succ n ih =>
    intro x1 x2 x3 x4 x5 u h
    refine j_iload C 5 dX2_pickFromRow_6 rfl ?_
    refine j_aload_n C 0 dX2_pickFromRow_8 rfl ?_
    refine j_get C 21 4 (ly_X2 C.2.2.2.2.2.2.2.1.1) q_98 rfl rfl (by decide) rfl rfl (by decide) rfl dX2_pickFromRow_9 ?_
    refine j_iload_n C 1 dX2_pickFromRow_12 rfl ?_
    obtain ⟨hin, h⟩ := h
    refine j_ialoadK (N := 7) C 25 _ rfl hin (by decide) rfl rfl dX2_pickFromRow_13 ?_
    refine j_icmp_ge C 53 dX2_pickFromRow_14 (by decide) (fun c1 => ?_) (fun c1 => ?_)
    · have h := h.1 c1
      refine j_iload C 4 dX2_pickFromRow_53 rfl ?_
      exact j_iret C dX2_pickFromRow_55 h
    · have h := h.2 c1
      refine j_iload C 4 dX2_pickFromRow_17 rfl ?_
      refine j_ui C (fun H locs ls hP hD => run_S (As := [.int x4]) (st := []) C mf_J6_bitCount_0f7a4 (kX_J6_bitCount_0f7a4 l D cI cZ ad q N h) q_393 rfl rfl ⟨rfl, rfl, by decide, by decide⟩ (Nat.le_of_ble_eq_true rfl) dX2_pickFromRow_19 hP hD) (fun r2 _ h => ?_)
      refine j_iload_n C 3 dX2_pickFromRow_22 rfl ?_
      refine j_icmp_ge C 53 dX2_pickFromRow_23 (by decide) (fun c3 => ?_) (fun c3 => ?_)
      · have h := h.1 c3
        refine j_iload C 4 dX2_pickFromRow_53 rfl ?_
        exact j_iret C dX2_pickFromRow_55 h
      · have h := h.2 c3
        refine j_iload C 4 dX2_pickFromRow_26 rfl ?_
        refine j_iload_n C 2 dX2_pickFromRow_28 rfl ?_
        refine j_iconst (v := 1) C dX2_pickFromRow_29 (by decide) ?_
        refine j_aload_n C 0 dX2_pickFromRow_30 rfl ?_
        refine j_get C 21 5 (ly_X2 C.2.2.2.2.2.2.2.1.1) q_100 rfl rfl (by decide) rfl rfl (by decide) rfl dX2_pickFromRow_31 ?_
        refine j_iload_n C 1 dX2_pickFromRow_34 rfl ?_
        refine j_bipush (v := 7) C dX2_pickFromRow_35 (by decide) ?_
        refine j_imul C dX2_pickFromRow_37 ?_
        refine j_iload C 5 dX2_pickFromRow_38 rfl ?_
        refine j_iadd C dX2_pickFromRow_40 ?_
        obtain ⟨hin, h⟩ := h
        refine j_ialoadK (N := 49) C 26 _ rfl hin (by decide) rfl rfl dX2_pickFromRow_41 ?_
        refine j_ishl C dX2_pickFromRow_42 ?_
        refine j_iand C dX2_pickFromRow_43 ?_
        refine j_ior C dX2_pickFromRow_44 ?_
        refine j_nmi (fun y4 ey4 => ?_)
        have h := h y4 ey4
        refine j_istore (lv' := [(4, .int y4), (0, .ref (q 21)), (1, .int x1), (2, .int x2), (3, .int x3), (5, .int x5)]) C dX2_pickFromRow_45 (by decide) rfl ?_
        obtain ⟨y5, ey5⟩ : ∃ z : Int32, z = x5 + 1 := ⟨_, rfl⟩
        have h := h y5 ey5
        refine j_iinc (v := y5) (lv' := [(5, .int y5), (4, .int y4), (0, .ref (q 21)), (1, .int x1), (2, .int x2), (3, .int x3)]) C 5 dX2_pickFromRow_47 rfl (by rw [ey5]; rfl) (by decide) rfl ?_
        refine j_goto C 6 dX2_pickFromRow_50 (by decide) ?_
        refine j_sub (lv' := [(0, .ref (q 21)), (1, .int x1), (2, .int x2), (3, .int x3), (4, .int y4), (5, .int y5)]) [2, 3, 4, 5, 1, 0] rfl ?_
        exact ih _ _ _ _ _ _ h
set_option maxRecDepth 100000 in
set_option maxHeartbeats 4000000 in
theorem kX_X2_pickFromRow (l : Launch) (D : va_G) (cI cZ : ClassId) (ad q : Nat → Nat) (N : Nat) {x1 : Int32} {x2 : Int32} {x3 : Int32} {u : MM} {K : Int32 → MM → Prop} (h : wX2_pickFromRow N x1 x2 x3 u K) : CT l D cI cZ ad 72 q (entC q cI cZ) yX2_pickFromRow cX2_pickFromRow 6 (some .int) (rr 1 20) [.ref (q 21), .int x1, .int x2, .int x3] u (QI D 72 q (entC q cI cZ) K) := by
    refine ct_of (by decide +kernel) (Nat.le_of_ble_eq_true rfl) (fun p e s m args below meth c C => ?_)
    refine j_sub (lv' := [(0, .ref (q 21)), (1, .int x1), (2, .int x2), (3, .int x3)]) [0, 1, 2, 3] rfl ?_
    refine j_iconst (v := 0) C dX2_pickFromRow_0 (by decide) ?_
    refine j_istore (lv' := [(4, .int 0), (0, .ref (q 21)), (1, .int x1), (2, .int x2), (3, .int x3)]) C dX2_pickFromRow_1 (by decide) rfl ?_
    refine j_iconst (v := 0) C dX2_pickFromRow_3 (by decide) ?_
    refine j_istore (lv' := [(5, .int 0), (4, .int 0), (0, .ref (q 21)), (1, .int x1), (2, .int x2), (3, .int x3)]) C dX2_pickFromRow_4 (by decide) rfl ?_
    refine j_sub (lv' := [(0, .ref (q 21)), (1, .int x1), (2, .int x2), (3, .int x3), (4, .int 0), (5, .int 0)]) [2, 3, 4, 5, 1, 0] rfl ?_
    exact tX2_pickFromRow_b6 l D cI cZ ad q N C N _ _ _ _ _ _ h

def wX2_isAhead_b10 (N : Nat) (K : Int32 → MM → Prop) (x2 : Int32) (x3 : Int32) (u : MM) : Prop := (vp_in x2 7 ∧ (wJ6_bitCount_0f7a4 N (u 24 x2.toNatClampNeg) (fun r5 => (vp_in x3 7 ∧ (wJ6_bitCount_0f7a4 N (u 24 x3.toNatClampNeg) (fun r6 => ((r5 ≤ r6 → (K 0 u)) ∧ (¬ r5 ≤ r6 → (K 1 u)))))))))
def wX2_isAhead (N : Nat) (x1 : Int32) (x2 : Int32) (x3 : Int32) (u : MM) (K : Int32 → MM → Prop) : Prop := ((x1 = 1 → (wX2_isAhead_b10 N K x2 x3 u)) ∧ (¬ x1 = 1 → ((¬ x1 = 4 → ((x1 = 3 → (K 1 u)) ∧ (¬ x1 = 3 → ((¬ x1 = 6 → (K 0 u)) ∧ (x1 = 6 → (K 1 u)))))) ∧ (x1 = 4 → (wX2_isAhead_b10 N K x2 x3 u)))))
set_option maxRecDepth 100000 in
set_option maxHeartbeats 4000000 in
theorem tX2_isAhead_b10 (l : Launch) (D : va_G) (cI cZ : ClassId) (ad q : Nat → Nat) (N : Nat) {p : Program} {e : Env} {s : State} {m : MethodId} {args : Array Value} {below : List Frame} {meth : Method} {c : Code} {K : Int32 → MM → Prop} (C : CX p s m args meth c cX2_isAhead 4 RX2 (some .boolean) D cI cZ ad (AJ 72 q s.heap.size)) : ∀ (x2 : Int32) (x3 : Int32) (u : MM), wX2_isAhead_b10 N K x2 x3 u → JX p l e (rr 1 20) s m args below meth c D (AJ 72 q s.heap.size) 4 (MQ below ((QI D 72 q (entC q cI cZ) K) (AJ 72 q s.heap.size)) args s 0 0 (AJ 72 q s.heap.size)) 72 q (entC q cI cZ) u 10 [(0, .ref (q 21)), (2, .int x2), (3, .int x3)] [] := by
    intro x2 x3 u h
    refine j_aload_n C 0 dX2_isAhead_10 rfl ?_
    refine j_get C 21 3 (ly_X2 C.2.2.2.2.2.2.2.1.1) q_95 rfl rfl (by decide) rfl rfl (by decide) rfl dX2_isAhead_11 ?_
    refine j_iload_n C 1 dX2_isAhead_14 rfl ?_
    obtain ⟨hin, h⟩ := h
    refine j_ialoadK (N := 7) C 24 _ rfl hin (by decide) rfl rfl dX2_isAhead_15 ?_
    refine j_ui C (fun H locs ls hP hD => run_S (As := [.int (u 24 x2.toNatClampNeg)]) (st := []) C mf_J6_bitCount_0f7a4 (kX_J6_bitCount_0f7a4 l D cI cZ ad q N h) q_393 rfl rfl ⟨rfl, rfl, by decide, by decide⟩ (Nat.le_of_ble_eq_true rfl) dX2_isAhead_16 hP hD) (fun r5 _ h => ?_)
    refine j_aload_n C 0 dX2_isAhead_19 rfl ?_
    refine j_get C 21 3 (ly_X2 C.2.2.2.2.2.2.2.1.1) q_95 rfl rfl (by decide) rfl rfl (by decide) rfl dX2_isAhead_20 ?_
    refine j_iload_n C 2 dX2_isAhead_23 rfl ?_
    obtain ⟨hin, h⟩ := h
    refine j_ialoadK (N := 7) C 24 _ rfl hin (by decide) rfl rfl dX2_isAhead_24 ?_
    refine j_ui C (fun H locs ls hP hD => run_S (As := [.int (u 24 x3.toNatClampNeg)]) (st := [.int r5]) C mf_J6_bitCount_0f7a4 (kX_J6_bitCount_0f7a4 l D cI cZ ad q N h) q_393 rfl rfl ⟨rfl, rfl, by decide, by decide⟩ (Nat.le_of_ble_eq_true rfl) dX2_isAhead_25 hP hD) (fun r6 _ h => ?_)
    refine j_icmp_le C 35 dX2_isAhead_28 (by decide) (fun c7 => ?_) (fun c7 => ?_)
    · have h := h.1 c7
      refine j_iconst (v := 0) C dX2_isAhead_35 (by decide) ?_
      exact j_zret C dX2_isAhead_36 rfl h
    · have h := h.2 c7
      refine j_iconst (v := 1) C dX2_isAhead_31 (by decide) ?_
      refine j_goto C 36 dX2_isAhead_32 (by decide) ?_
      exact j_zret C dX2_isAhead_36 rfl h
set_option maxRecDepth 100000 in
set_option maxHeartbeats 4000000 in
theorem kX_X2_isAhead (l : Launch) (D : va_G) (cI cZ : ClassId) (ad q : Nat → Nat) (N : Nat) {x1 : Int32} {x2 : Int32} {x3 : Int32} {u : MM} {K : Int32 → MM → Prop} (h : wX2_isAhead N x1 x2 x3 u K) : CT l D cI cZ ad 72 q (entC q cI cZ) yX2_isAhead cX2_isAhead 4 (some .boolean) (rr 1 20) [.ref (q 21), .int x1, .int x2, .int x3] u (QI D 72 q (entC q cI cZ) K) := by
    refine ct_of (by decide +kernel) (Nat.le_of_ble_eq_true rfl) (fun p e s m args below meth c C => ?_)
    refine j_sub (lv' := [(0, .ref (q 21)), (1, .int x1), (2, .int x2), (3, .int x3)]) [0, 1, 2, 3] rfl ?_
    refine j_iload_n C 1 dX2_isAhead_0 rfl ?_
    refine j_iconst (v := 1) C dX2_isAhead_1 (by decide) ?_
    refine j_icmp_eq C 10 dX2_isAhead_2 (by decide) (fun c1 => ?_) (fun c1 => ?_)
    · have h := h.1 c1
      refine j_sub (lv' := [(0, .ref (q 21)), (2, .int x2), (3, .int x3)]) [0, 2, 3] rfl ?_
      exact tX2_isAhead_b10 l D cI cZ ad q N C _ _ _ h
    · have h := h.2 c1
      refine j_iload_n C 1 dX2_isAhead_5 rfl ?_
      refine j_iconst (v := 4) C dX2_isAhead_6 (by decide) ?_
      refine j_icmp_ne C 37 dX2_isAhead_7 (by decide) (fun c2 => ?_) (fun c2 => ?_)
      · have h := h.1 c2
        refine j_iload_n C 1 dX2_isAhead_37 rfl ?_
        refine j_iconst (v := 3) C dX2_isAhead_38 (by decide) ?_
        refine j_icmp_eq C 48 dX2_isAhead_39 (by decide) (fun c3 => ?_) (fun c3 => ?_)
        · have h := h.1 c3
          refine j_iconst (v := 1) C dX2_isAhead_48 (by decide) ?_
          refine j_goto C 53 dX2_isAhead_49 (by decide) ?_
          exact j_zret C dX2_isAhead_53 rfl h
        · have h := h.2 c3
          refine j_iload_n C 1 dX2_isAhead_42 rfl ?_
          refine j_bipush (v := 6) C dX2_isAhead_43 (by decide) ?_
          refine j_icmp_ne C 52 dX2_isAhead_45 (by decide) (fun c4 => ?_) (fun c4 => ?_)
          · have h := h.1 c4
            refine j_iconst (v := 0) C dX2_isAhead_52 (by decide) ?_
            exact j_zret C dX2_isAhead_53 rfl h
          · have h := h.2 c4
            refine j_iconst (v := 1) C dX2_isAhead_48 (by decide) ?_
            refine j_goto C 53 dX2_isAhead_49 (by decide) ?_
            exact j_zret C dX2_isAhead_53 rfl h
      · have h := h.2 c2
        refine j_sub (lv' := [(0, .ref (q 21)), (2, .int x2), (3, .int x3)]) [0, 2, 3] rfl ?_
        exact tX2_isAhead_b10 l D cI cZ ad q N C _ _ _ h

def wX2_pickNext_b42 (N : Nat) (K : Int32 → MM → Prop) (ro5 : Int32 → Int32 → Int32 → Int32 → MM → Prop) (x1 : Int32) (x2 : Int32) (x3 : Int32) (x4 : Int32) (u : MM) : Prop := (∀ y9 : Int32, y9 = x4 + 1 → (ro5 x1 x2 x3 y9 u))
def wX2_pickNext_b39 (N : Nat) (K : Int32 → MM → Prop) (ro5 : Int32 → Int32 → Int32 → Int32 → MM → Prop) (x1 : Int32) (x2 : Int32) (x4 : Int32) (u : MM) : Prop := (wX2_pickNext_b42 N K ro5 x1 x2 x4 x4 u)
def wX2_pickNext_b5 (N : Nat) (K : Int32 → MM → Prop) : Nat → Int32 → Int32 → Int32 → Int32 → MM → Prop
  | 0, _, _, _, _, _ => False
  | n + 1, x1, x2, x3, x4, u => (((u 21 0) ≤ x4 → ((¬ x3 = (-1) → (K ((1 : Int32) <<< (x3 &&& 31)) u)) ∧ (x3 = (-1) → (K 0 u)))) ∧ (¬ (u 21 0) ≤ x4 → (wX10_hasBit N x2 x4 (fun r3 => ((r3 = 0 → (wX2_pickNext_b42 N K (wX2_pickNext_b5 N K n) x1 x2 x3 x4 u)) ∧ (¬ r3 = 0 → ((x3 = (-1) → (wX2_pickNext_b39 N K (wX2_pickNext_b5 N K n) x1 x2 x4 u)) ∧ (¬ x3 = (-1) → (wX2_isAhead N x1 x4 x3 u (fun r6 u7 => ((r6 = 0 → (wX2_pickNext_b42 N K (wX2_pickNext_b5 N K n) x1 x2 x3 x4 u7)) ∧ (¬ r6 = 0 → (wX2_pickNext_b39 N K (wX2_pickNext_b5 N K n) x1 x2 x4 u7)))))))))))))
def wX2_pickNext (N : Nat) (x1 : Int32) (x2 : Int32) (u : MM) (K : Int32 → MM → Prop) : Prop := (wX2_pickNext_b5 N K N x1 x2 (-1) 0 u)
set_option maxRecDepth 100000 in
set_option maxHeartbeats 4000000 in
theorem tX2_pickNext_b42 (l : Launch) (D : va_G) (cI cZ : ClassId) (ad q : Nat → Nat) (N : Nat) {p : Program} {e : Env} {s : State} {m : MethodId} {args : Array Value} {below : List Frame} {meth : Method} {c : Code} {K : Int32 → MM → Prop} (C : CX p s m args meth c cX2_pickNext 5 RX2 (some .int) D cI cZ ad (AJ 72 q s.heap.size)) {ro5 : Int32 → Int32 → Int32 → Int32 → MM → Prop} (hro5 : ∀ (x1 : Int32) (x2 : Int32) (x3 : Int32) (x4 : Int32) (u : MM), ro5 x1 x2 x3 x4 u → JX p l e (rr 2 43) s m args below meth c D (AJ 72 q s.heap.size) 5 (MQ below ((QI D 72 q (entC q cI cZ) K) (AJ 72 q s.heap.size)) args s 0 0 (AJ 72 q s.heap.size)) 72 q (entC q cI cZ) u 5 [(0, .ref (q 21)), (1, .int x1), (2, .int x2), (3, .int x3), (4, .int x4)] []) : ∀ (x1 : Int32) (x2 : Int32) (x3 : Int32) (x4 : Int32) (u : MM), wX2_pickNext_b42 N K ro5 x1 x2 x3 x4 u → JX p l e (rr 2 43) s m args below meth c D (AJ 72 q s.heap.size) 5 (MQ below ((QI D 72 q (entC q cI cZ) K) (AJ 72 q s.heap.size)) args s 0 0 (AJ 72 q s.heap.size)) 72 q (entC q cI cZ) u 42 [(0, .ref (q 21)), (1, .int x1), (2, .int x2), (3, .int x3), (4, .int x4)] [] := by
    intro x1 x2 x3 x4 u h
    obtain ⟨y9, ey9⟩ : ∃ z : Int32, z = x4 + 1 := ⟨_, rfl⟩
    have h := h y9 ey9
    refine j_iinc (v := y9) (lv' := [(4, .int y9), (0, .ref (q 21)), (1, .int x1), (2, .int x2), (3, .int x3)]) C 4 dX2_pickNext_42 rfl (by rw [ey9]; rfl) (by decide) rfl ?_
    refine j_goto C 5 dX2_pickNext_45 (by decide) ?_
    refine j_sub (lv' := [(0, .ref (q 21)), (1, .int x1), (2, .int x2), (3, .int x3), (4, .int y9)]) [1, 2, 3, 4, 0] rfl ?_
    exact hro5 _ _ _ _ _ h
set_option maxRecDepth 100000 in
set_option maxHeartbeats 4000000 in
theorem tX2_pickNext_b39 (l : Launch) (D : va_G) (cI cZ : ClassId) (ad q : Nat → Nat) (N : Nat) {p : Program} {e : Env} {s : State} {m : MethodId} {args : Array Value} {below : List Frame} {meth : Method} {c : Code} {K : Int32 → MM → Prop} (C : CX p s m args meth c cX2_pickNext 5 RX2 (some .int) D cI cZ ad (AJ 72 q s.heap.size)) {ro5 : Int32 → Int32 → Int32 → Int32 → MM → Prop} (hro5 : ∀ (x1 : Int32) (x2 : Int32) (x3 : Int32) (x4 : Int32) (u : MM), ro5 x1 x2 x3 x4 u → JX p l e (rr 2 43) s m args below meth c D (AJ 72 q s.heap.size) 5 (MQ below ((QI D 72 q (entC q cI cZ) K) (AJ 72 q s.heap.size)) args s 0 0 (AJ 72 q s.heap.size)) 72 q (entC q cI cZ) u 5 [(0, .ref (q 21)), (1, .int x1), (2, .int x2), (3, .int x3), (4, .int x4)] []) : ∀ (x1 : Int32) (x2 : Int32) (x4 : Int32) (u : MM), wX2_pickNext_b39 N K ro5 x1 x2 x4 u → JX p l e (rr 2 43) s m args below meth c D (AJ 72 q s.heap.size) 5 (MQ below ((QI D 72 q (entC q cI cZ) K) (AJ 72 q s.heap.size)) args s 0 0 (AJ 72 q s.heap.size)) 72 q (entC q cI cZ) u 39 [(0, .ref (q 21)), (1, .int x1), (2, .int x2), (4, .int x4)] [] := by
    intro x1 x2 x4 u h
    refine j_iload C 3 dX2_pickNext_39 rfl ?_
    refine j_istore_n (lv' := [(3, .int x4), (0, .ref (q 21)), (1, .int x1), (2, .int x2), (4, .int x4)]) C dX2_pickNext_41 (by decide) rfl ?_
    refine j_sub (lv' := [(0, .ref (q 21)), (1, .int x1), (2, .int x2), (3, .int x4), (4, .int x4)]) [1, 2, 3, 0, 4] rfl ?_
    exact tX2_pickNext_b42 l D cI cZ ad q N C (hro5) _ _ _ _ _ h
set_option maxRecDepth 100000 in
set_option maxHeartbeats 4000000 in
theorem tX2_pickNext_b5 (l : Launch) (D : va_G) (cI cZ : ClassId) (ad q : Nat → Nat) (N : Nat) {p : Program} {e : Env} {s : State} {m : MethodId} {args : Array Value} {below : List Frame} {meth : Method} {c : Code} {K : Int32 → MM → Prop} (C : CX p s m args meth c cX2_pickNext 5 RX2 (some .int) D cI cZ ad (AJ 72 q s.heap.size)) : ∀ (n : Nat) (x1 : Int32) (x2 : Int32) (x3 : Int32) (x4 : Int32) (u : MM), wX2_pickNext_b5 N K n x1 x2 x3 x4 u → JX p l e (rr 2 43) s m args below meth c D (AJ 72 q s.heap.size) 5 (MQ below ((QI D 72 q (entC q cI cZ) K) (AJ 72 q s.heap.size)) args s 0 0 (AJ 72 q s.heap.size)) 72 q (entC q cI cZ) u 5 [(0, .ref (q 21)), (1, .int x1), (2, .int x2), (3, .int x3), (4, .int x4)] [] := by
  intro n
  induction n with
  | zero => intro x1 x2 x3 x4 u h; exact h.elim
  | succ n ih =>
    intro x1 x2 x3 x4 u h
    refine j_iload C 4 dX2_pickNext_5 rfl ?_
    refine j_aload_n C 0 dX2_pickNext_7 rfl ?_
    refine j_get C 21 0 (ly_X2 C.2.2.2.2.2.2.2.1.1) q_85 rfl rfl (by decide) rfl rfl (by decide) rfl dX2_pickNext_8 ?_
    refine j_icmp_ge C 48 dX2_pickNext_11 (by decide) (fun c1 => ?_) (fun c1 => ?_)
    · have h := h.1 c1
      refine j_iload_n C 3 dX2_pickNext_48 rfl ?_
      refine j_iconst (v := (-1)) C dX2_pickNext_49 (by decide) ?_
      refine j_icmp_ne C 57 dX2_pickNext_50 (by decide) (fun c2 => ?_) (fun c2 => ?_)
      · have h := h.1 c2
        refine j_iconst (v := 1) C dX2_pickNext_57 (by decide) ?_
        refine j_iload_n C 3 dX2_pickNext_58 rfl ?_
        refine j_ishl C dX2_pickNext_59 ?_
        exact j_iret C dX2_pickNext_60 h
      · have h := h.2 c2
        refine j_iconst (v := 0) C dX2_pickNext_53 (by decide) ?_
        refine j_goto C 60 dX2_pickNext_54 (by decide) ?_
        exact j_iret C dX2_pickNext_60 h
    · have h := h.2 c1
      refine j_iload_n C 2 dX2_pickNext_14 rfl ?_
      refine j_iload C 4 dX2_pickNext_15 rfl ?_
      refine j_ui C (fun H locs ls hP hD => run_SN (As := [.int x2, .int x4]) (st := []) C mf_X10_hasBit (kX_X10_hasBit l D cI cZ ad q N h) q_408 rfl rfl ⟨rfl, rfl, by decide, by decide⟩ (Nat.le_of_ble_eq_true rfl) dX2_pickNext_17 hP hD) (fun r3 _ h => ?_)
      refine j_if_eq C 42 dX2_pickNext_20 (by decide) (fun c4 => ?_) (fun c4 => ?_)
      · have h := h.1 c4
        exact tX2_pickNext_b42 l D cI cZ ad q N C ih _ _ _ _ _ h
      · have h := h.2 c4
        refine j_iload_n C 3 dX2_pickNext_23 rfl ?_
        refine j_iconst (v := (-1)) C dX2_pickNext_24 (by decide) ?_
        refine j_icmp_eq C 39 dX2_pickNext_25 (by decide) (fun c5 => ?_) (fun c5 => ?_)
        · have h := h.1 c5
          refine j_sub (lv' := [(0, .ref (q 21)), (1, .int x1), (2, .int x2), (4, .int x4)]) [0, 1, 2, 4] rfl ?_
          exact tX2_pickNext_b39 l D cI cZ ad q N C ih _ _ _ _ h
        · have h := h.2 c5
          refine j_aload_n C 0 dX2_pickNext_28 rfl ?_
          refine j_iload_n C 1 dX2_pickNext_29 rfl ?_
          refine j_iload C 4 dX2_pickNext_30 rfl ?_
          refine j_iload_n C 3 dX2_pickNext_32 rfl ?_
          refine j_wi C (fun H locs ls hP hD hS hl => run_V (Cn := "") (As := [.int x1, .int x4, .int x3]) (st := []) C mf_X2_isAhead 21 (kX_X2_isAhead l D cI cZ ad q N h) q_409 (by decide) rfl rfl rfl rfl ⟨rfl, rfl, by decide, by decide⟩ (Nat.le_of_ble_eq_true rfl) dX2_pickNext_33 hP hD hS hl) (fun r6 u7 h => ?_)
          refine j_if_eq C 42 dX2_pickNext_36 (by decide) (fun c8 => ?_) (fun c8 => ?_)
          · have h := h.1 c8
            exact tX2_pickNext_b42 l D cI cZ ad q N C ih _ _ _ _ _ h
          · have h := h.2 c8
            refine j_sub (lv' := [(0, .ref (q 21)), (1, .int x1), (2, .int x2), (4, .int x4)]) [0, 1, 2, 4] rfl ?_
            exact tX2_pickNext_b39 l D cI cZ ad q N C ih _ _ _ _ h
set_option maxRecDepth 100000 in
set_option maxHeartbeats 4000000 in
theorem kX_X2_pickNext (l : Launch) (D : va_G) (cI cZ : ClassId) (ad q : Nat → Nat) (N : Nat) {x1 : Int32} {x2 : Int32} {u : MM} {K : Int32 → MM → Prop} (h : wX2_pickNext N x1 x2 u K) : CT l D cI cZ ad 72 q (entC q cI cZ) yX2_pickNext cX2_pickNext 5 (some .int) (rr 2 43) [.ref (q 21), .int x1, .int x2] u (QI D 72 q (entC q cI cZ) K) := by
    refine ct_of (by decide +kernel) (Nat.le_of_ble_eq_true rfl) (fun p e s m args below meth c C => ?_)
    refine j_sub (lv' := [(0, .ref (q 21)), (1, .int x1), (2, .int x2)]) [0, 1, 2] rfl ?_
    refine j_iconst (v := (-1)) C dX2_pickNext_0 (by decide) ?_
    refine j_istore_n (lv' := [(3, .int (-1)), (0, .ref (q 21)), (1, .int x1), (2, .int x2)]) C dX2_pickNext_1 (by decide) rfl ?_
    refine j_iconst (v := 0) C dX2_pickNext_2 (by decide) ?_
    refine j_istore (lv' := [(4, .int 0), (3, .int (-1)), (0, .ref (q 21)), (1, .int x1), (2, .int x2)]) C dX2_pickNext_3 (by decide) rfl ?_
    refine j_sub (lv' := [(0, .ref (q 21)), (1, .int x1), (2, .int x2), (3, .int (-1)), (4, .int 0)]) [2, 3, 4, 1, 0] rfl ?_
    exact tX2_pickNext_b5 l D cI cZ ad q N C N _ _ _ _ _ h

def wX2_pick_b47 (N : Nat) (K : Int32 → MM → Prop) : Nat → Int32 → Int32 → Int32 → Int32 → Int32 → MM → Prop
  | 0, _, _, _, _, _, _ => False
  | n + 1, x1, x2, x4, x5, x6, u => ((x4 ≤ x6 → (K x5 u)) ∧ (¬ x4 ≤ x6 → (vp_in x1 7 ∧ (wX2_pickNext N (u 22 x1.toNatClampNeg) (x2 &&& (x5 ^^^ ((-1) : Int32))) u (fun r9 u10 => (∀ y11 : Int32, y11 = (x5 ||| r9) → (∀ y12 : Int32, y12 = x6 + 1 → (wX2_pick_b47 N K n x1 x2 x4 y11 y12 u10))))))))
def wX2_pick_b44 (N : Nat) (K : Int32 → MM → Prop) (x1 : Int32) (x2 : Int32) (x4 : Int32) (x5 : Int32) (u : MM) : Prop := (wX2_pick_b47 N K N x1 x2 x4 x5 0 u)
def wX2_pick (N : Nat) (x1 : Int32) (x2 : Int32) (x3 : Int32) (u : MM) (K : Int32 → MM → Prop) : Prop := (wJ6_bitCount_0f7a4 N x2 (fun r1 => (∀ y2 : Int32, y2 = (if r1 < x3 then r1 else x3) → (vp_in x1 7 ∧ ((¬ (u 22 x1.toNatClampNeg) = 6 → (wX2_pick_b44 N K x1 x2 y2 0 u)) ∧ ((u 22 x1.toNatClampNeg) = 6 → (wX2_pickFromRow N x1 x2 y2 u (fun r4 u5 => (wJ6_bitCount_0f7a4 N r4 (fun r6 => (∀ y7 : Int32, y7 = (y2 - r6) → (wX2_pick_b44 N K x1 x2 y7 r4 u5))))))))))))
set_option maxRecDepth 100000 in
set_option maxHeartbeats 4000000 in
theorem tX2_pick_b47 (l : Launch) (D : va_G) (cI cZ : ClassId) (ad q : Nat → Nat) (N : Nat) {p : Program} {e : Env} {s : State} {m : MethodId} {args : Array Value} {below : List Frame} {meth : Method} {c : Code} {K : Int32 → MM → Prop} (C : CX p s m args meth c cX2_pick 7 RX2 (some .int) D cI cZ ad (AJ 72 q s.heap.size)) : ∀ (n : Nat) (x1 : Int32) (x2 : Int32) (x4 : Int32) (x5 : Int32) (x6 : Int32) (u : MM), wX2_pick_b47 N K n x1 x2 x4 x5 x6 u → JX p l e (rr 3 67) s m args below meth c D (AJ 72 q s.heap.size) 7 (MQ below ((QI D 72 q (entC q cI cZ) K) (AJ 72 q s.heap.size)) args s 0 0 (AJ 72 q s.heap.size)) 72 q (entC q cI cZ) u 47 [(0, .ref (q 21)), (1, .int x1), (2, .int x2), (4, .int x4), (5, .int x5), (6, .int x6)] [] := by
  intro n
  induction n with
  | zero => intro x1 x2 x4 x5 x6 u h; exact h.elim
  | succ n ih =>
    intro x1 x2 x4 x5 x6 u h
    refine j_iload C 5 dX2_pick_47 rfl ?_
    refine j_iload C 3 dX2_pick_49 rfl ?_
    refine j_icmp_ge C 81 dX2_pick_51 (by decide) (fun c8 => ?_) (fun c8 => ?_)
    · have h := h.1 c8
      refine j_iload C 4 dX2_pick_81 rfl ?_
      exact j_iret C dX2_pick_83 h
    · have h := h.2 c8
      refine j_iload C 4 dX2_pick_54 rfl ?_
      refine j_aload_n C 0 dX2_pick_56 rfl ?_
      refine j_aload_n C 0 dX2_pick_57 rfl ?_
      refine j_get C 21 1 (ly_X2 C.2.2.2.2.2.2.2.1.1) q_89 rfl rfl (by decide) rfl rfl (by decide) rfl dX2_pick_58 ?_
      refine j_iload_n C 1 dX2_pick_61 rfl ?_
      obtain ⟨hin, h⟩ := h
      refine j_ialoadK (N := 7) C 22 _ rfl hin (by decide) rfl rfl dX2_pick_62 ?_
      refine j_iload_n C 2 dX2_pick_63 rfl ?_
      refine j_iload C 4 dX2_pick_64 rfl ?_
      refine j_iconst (v := (-1)) C dX2_pick_66 (by decide) ?_
      refine j_ixor C dX2_pick_67 ?_
      refine j_iand C dX2_pick_68 ?_
      refine j_wi C (fun H locs ls hP hD hS hl => run_V (Cn := "") (As := [.int (u 22 x1.toNatClampNeg), .int (x2 &&& (x5 ^^^ ((-1) : Int32)))]) (st := [.int x5]) C mf_X2_pickNext 21 (kX_X2_pickNext l D cI cZ ad q N h) q_405 (by decide) rfl rfl rfl rfl ⟨rfl, rfl, by decide, by decide⟩ (Nat.le_of_ble_eq_true rfl) dX2_pick_69 hP hD hS hl) (fun r9 u10 h => ?_)
      refine j_ior C dX2_pick_72 ?_
      refine j_nmi (fun y11 ey11 => ?_)
      have h := h y11 ey11
      refine j_istore (lv' := [(5, .int y11), (0, .ref (q 21)), (1, .int x1), (2, .int x2), (4, .int x4), (6, .int x6)]) C dX2_pick_73 (by decide) rfl ?_
      obtain ⟨y12, ey12⟩ : ∃ z : Int32, z = x6 + 1 := ⟨_, rfl⟩
      have h := h y12 ey12
      refine j_iinc (v := y12) (lv' := [(6, .int y12), (5, .int y11), (0, .ref (q 21)), (1, .int x1), (2, .int x2), (4, .int x4)]) C 5 dX2_pick_75 rfl (by rw [ey12]; rfl) (by decide) rfl ?_
      refine j_goto C 47 dX2_pick_78 (by decide) ?_
      refine j_sub (lv' := [(0, .ref (q 21)), (1, .int x1), (2, .int x2), (4, .int x4), (5, .int y11), (6, .int y12)]) [2, 3, 4, 5, 1, 0] rfl ?_
      exact ih _ _ _ _ _ _ h
set_option maxRecDepth 100000 in
set_option maxHeartbeats 4000000 in
theorem tX2_pick_b44 (l : Launch) (D : va_G) (cI cZ : ClassId) (ad q : Nat → Nat) (N : Nat) {p : Program} {e : Env} {s : State} {m : MethodId} {args : Array Value} {below : List Frame} {meth : Method} {c : Code} {K : Int32 → MM → Prop} (C : CX p s m args meth c cX2_pick 7 RX2 (some .int) D cI cZ ad (AJ 72 q s.heap.size)) : ∀ (x1 : Int32) (x2 : Int32) (x4 : Int32) (x5 : Int32) (u : MM), wX2_pick_b44 N K x1 x2 x4 x5 u → JX p l e (rr 3 67) s m args below meth c D (AJ 72 q s.heap.size) 7 (MQ below ((QI D 72 q (entC q cI cZ) K) (AJ 72 q s.heap.size)) args s 0 0 (AJ 72 q s.heap.size)) 72 q (entC q cI cZ) u 44 [(0, .ref (q 21)), (1, .int x1), (2, .int x2), (4, .int x4), (5, .int x5)] [] := by
    intro x1 x2 x4 x5 u h
    refine j_iconst (v := 0) C dX2_pick_44 (by decide) ?_
    refine j_istore (lv' := [(6, .int 0), (0, .ref (q 21)), (1, .int x1), (2, .int x2), (4, .int x4), (5, .int x5)]) C dX2_pick_45 (by decide) rfl ?_
    refine j_sub (lv' := [(0, .ref (q 21)), (1, .int x1), (2, .int x2), (4, .int x4), (5, .int x5), (6, .int 0)]) [1, 2, 3, 4, 5, 0] rfl ?_
    exact tX2_pick_b47 l D cI cZ ad q N C N _ _ _ _ _ _ h
set_option maxRecDepth 100000 in
set_option maxHeartbeats 4000000 in
theorem kX_X2_pick (l : Launch) (D : va_G) (cI cZ : ClassId) (ad q : Nat → Nat) (N : Nat) {x1 : Int32} {x2 : Int32} {x3 : Int32} {u : MM} {K : Int32 → MM → Prop} (h : wX2_pick N x1 x2 x3 u K) : CT l D cI cZ ad 72 q (entC q cI cZ) yX2_pick cX2_pick 7 (some .int) (rr 3 67) [.ref (q 21), .int x1, .int x2, .int x3] u (QI D 72 q (entC q cI cZ) K) := by
    refine ct_of (by decide +kernel) (Nat.le_of_ble_eq_true rfl) (fun p e s m args below meth c C => ?_)
    refine j_sub (lv' := [(0, .ref (q 21)), (1, .int x1), (2, .int x2), (3, .int x3)]) [0, 1, 2, 3] rfl ?_
    refine j_iload_n C 3 dX2_pick_0 rfl ?_
    refine j_iload_n C 2 dX2_pick_1 rfl ?_
    refine j_ui C (fun H locs ls hP hD => run_S (As := [.int x2]) (st := [.int x3]) C mf_J6_bitCount_0f7a4 (kX_J6_bitCount_0f7a4 l D cI cZ ad q N h) q_393 rfl rfl ⟨rfl, rfl, by decide, by decide⟩ (Nat.le_of_ble_eq_true rfl) dX2_pick_2 hP hD) (fun r1 _ h => ?_)
    refine j_mmin C q_399 q_400 q_10 q_codeM_min (by decide) (Nat.le_of_ble_eq_true rfl) dX2_pick_5 ?_
    refine j_nmi (fun y2 ey2 => ?_)
    have h := h y2 ey2
    refine j_istore (lv' := [(4, .int y2), (0, .ref (q 21)), (1, .int x1), (2, .int x2), (3, .int x3)]) C dX2_pick_8 (by decide) rfl ?_
    refine j_iconst (v := 0) C dX2_pick_10 (by decide) ?_
    refine j_istore (lv' := [(5, .int 0), (4, .int y2), (0, .ref (q 21)), (1, .int x1), (2, .int x2), (3, .int x3)]) C dX2_pick_11 (by decide) rfl ?_
    refine j_aload_n C 2 dX2_pick_13 rfl ?_
    refine j_get C 21 1 (ly_X2 C.2.2.2.2.2.2.2.1.1) q_89 rfl rfl (by decide) rfl rfl (by decide) rfl dX2_pick_14 ?_
    refine j_iload_n C 3 dX2_pick_17 rfl ?_
    obtain ⟨hin, h⟩ := h
    refine j_ialoadK (N := 7) C 22 _ rfl hin (by decide) rfl rfl dX2_pick_18 ?_
    refine j_bipush (v := 6) C dX2_pick_19 (by decide) ?_
    refine j_icmp_ne C 44 dX2_pick_21 (by decide) (fun c3 => ?_) (fun c3 => ?_)
    · have h := h.1 c3
      refine j_sub (lv' := [(0, .ref (q 21)), (1, .int x1), (2, .int x2), (4, .int y2), (5, .int 0)]) [2, 3, 4, 1, 0] rfl ?_
      exact tX2_pick_b44 l D cI cZ ad q N C _ _ _ _ _ h
    · have h := h.2 c3
      refine j_aload_n C 2 dX2_pick_24 rfl ?_
      refine j_iload_n C 3 dX2_pick_25 rfl ?_
      refine j_iload_n C 4 dX2_pick_26 rfl ?_
      refine j_iload C 1 dX2_pick_27 rfl ?_
      refine j_wi C (fun H locs ls hP hD hS hl => run_V (Cn := "") (As := [.int x1, .int x2, .int y2]) (st := []) C mf_X2_pickFromRow 21 (kX_X2_pickFromRow l D cI cZ ad q N h) q_402 (by decide) rfl rfl rfl rfl ⟨rfl, rfl, by decide, by decide⟩ (Nat.le_of_ble_eq_true rfl) dX2_pick_29 hP hD hS hl) (fun r4 u5 h => ?_)
      refine j_istore (lv' := [(5, .int r4), (4, .int y2), (0, .ref (q 21)), (1, .int x1), (2, .int x2), (3, .int x3)]) C dX2_pick_32 (by decide) rfl ?_
      refine j_iload C 1 dX2_pick_34 rfl ?_
      refine j_iload C 0 dX2_pick_36 rfl ?_
      refine j_ui C (fun H locs ls hP hD => run_S (As := [.int r4]) (st := [.int y2]) C mf_J6_bitCount_0f7a4 (kX_J6_bitCount_0f7a4 l D cI cZ ad q N h) q_393 rfl rfl ⟨rfl, rfl, by decide, by decide⟩ (Nat.le_of_ble_eq_true rfl) dX2_pick_38 hP hD) (fun r6 _ h => ?_)
      refine j_isub C dX2_pick_41 ?_
      refine j_nmi (fun y7 ey7 => ?_)
      have h := h y7 ey7
      refine j_istore (lv' := [(4, .int y7), (5, .int r4), (0, .ref (q 21)), (1, .int x1), (2, .int x2), (3, .int x3)]) C dX2_pick_42 (by decide) rfl ?_
      refine j_sub (lv' := [(0, .ref (q 21)), (1, .int x1), (2, .int x2), (4, .int y7), (5, .int r4)]) [2, 3, 4, 0, 1] rfl ?_
      exact tX2_pick_b44 l D cI cZ ad q N C _ _ _ _ _ h

def wX7_fineOf (N : Nat) (o : Nat) (x2 : Int32) (u : MM) (K : Int32 → MM → Prop) : Prop := (wX7_setFacts N o x2 9 u (fun u2 => (wX8_weigh N 1 u2 (fun r3 u4 => (K r3 u4)))))
set_option maxRecDepth 100000 in
set_option maxHeartbeats 4000000 in
theorem kX_X7_fineOf_27 (l : Launch) (D : va_G) (cI cZ : ClassId) (ad q : Nat → Nat) (N : Nat) {x2 : Int32} {u : MM} {K : Int32 → MM → Prop} (h : wX7_fineOf N 27 x2 u K) : CT l D cI cZ ad 72 q (entC q cI cZ) yX7_fineOf cX7_fineOf 3 (some .int) (rr 2 50) [.ref (q 2), .ref (q 27), .int x2] u (QI D 72 q (entC q cI cZ) K) := by
    refine ct_of (by decide +kernel) (Nat.le_of_ble_eq_true rfl) (fun p e s m args below meth c C => ?_)
    refine j_sub (lv' := [(0, .ref (q 2)), (1, .ref (q 27)), (2, .int x2)]) [0, 1, 2] rfl ?_
    refine j_aload_n C 0 dX7_fineOf_0 rfl ?_
    refine j_aload_n C 1 dX7_fineOf_1 rfl ?_
    refine j_iload_n C 2 dX7_fineOf_2 rfl ?_
    refine j_bipush (v := 9) C dX7_fineOf_3 (by decide) ?_
    refine j_wv C (fun H locs ls hP hD hS hl => run_V (Cn := "") (As := [.ref (q 27), .int x2, .int 9]) (st := []) C mf_X7_setFacts 2 (kX_X7_setFacts_27 l D cI cZ ad q N h) q_371 (by decide) rfl rfl rfl rfl ⟨rfl, rfl, by decide, by decide⟩ (Nat.le_of_ble_eq_true rfl) dX7_fineOf_5 hP hD hS hl) (fun u2 h => ?_)
    refine j_aload_n C 0 dX7_fineOf_8 rfl ?_
    refine j_get C 2 0 (ly_X7 C.2.2.2.2.2.2.2.1.1) q_165 rfl rfl (by decide) rfl rfl (by decide) rfl dX7_fineOf_9 ?_
    refine j_getN C 10 1 (ly_X5 C.2.2.2.2.2.2.2.1.1) q_150 rfl rfl (by decide) rfl rfl (by decide) rfl dX7_fineOf_12 ?_
    refine j_iconst (v := 1) C dX7_fineOf_15 (by decide) ?_
    refine j_aload_n C 0 dX7_fineOf_16 rfl ?_
    refine j_get C 2 1 (ly_X7 C.2.2.2.2.2.2.2.1.1) q_168 rfl rfl (by decide) rfl rfl (by decide) rfl dX7_fineOf_17 ?_
    refine j_wi C (fun H locs ls hP hD hS hl => run_VN (Cn := "") (As := [.int 1, .ref (q 3)]) (st := []) C mf_X8_weigh 13 (kX_X8_weigh l D cI cZ ad q N h) q_375 (by decide) rfl rfl rfl rfl ⟨rfl, rfl, by decide, by decide⟩ (Nat.le_of_ble_eq_true rfl) dX7_fineOf_20 hP hD hS hl) (fun r3 u4 h => ?_)
    exact j_iret C dX7_fineOf_23 h
set_option maxRecDepth 100000 in
set_option maxHeartbeats 4000000 in
theorem kX_X7_fineOf_7 (l : Launch) (D : va_G) (cI cZ : ClassId) (ad q : Nat → Nat) (N : Nat) {x2 : Int32} {u : MM} {K : Int32 → MM → Prop} (h : wX7_fineOf N 7 x2 u K) : CT l D cI cZ ad 72 q (entC q cI cZ) yX7_fineOf cX7_fineOf 3 (some .int) (rr 2 50) [.ref (q 2), .ref (q 7), .int x2] u (QI D 72 q (entC q cI cZ) K) := by
    refine ct_of (by decide +kernel) (Nat.le_of_ble_eq_true rfl) (fun p e s m args below meth c C => ?_)
    refine j_sub (lv' := [(0, .ref (q 2)), (1, .ref (q 7)), (2, .int x2)]) [0, 1, 2] rfl ?_
    refine j_aload_n C 0 dX7_fineOf_0 rfl ?_
    refine j_aload_n C 1 dX7_fineOf_1 rfl ?_
    refine j_iload_n C 2 dX7_fineOf_2 rfl ?_
    refine j_bipush (v := 9) C dX7_fineOf_3 (by decide) ?_
    refine j_wv C (fun H locs ls hP hD hS hl => run_V (Cn := "") (As := [.ref (q 7), .int x2, .int 9]) (st := []) C mf_X7_setFacts 2 (kX_X7_setFacts_7 l D cI cZ ad q N h) q_371 (by decide) rfl rfl rfl rfl ⟨rfl, rfl, by decide, by decide⟩ (Nat.le_of_ble_eq_true rfl) dX7_fineOf_5 hP hD hS hl) (fun u2 h => ?_)
    refine j_aload_n C 0 dX7_fineOf_8 rfl ?_
    refine j_get C 2 0 (ly_X7 C.2.2.2.2.2.2.2.1.1) q_165 rfl rfl (by decide) rfl rfl (by decide) rfl dX7_fineOf_9 ?_
    refine j_getN C 10 1 (ly_X5 C.2.2.2.2.2.2.2.1.1) q_150 rfl rfl (by decide) rfl rfl (by decide) rfl dX7_fineOf_12 ?_
    refine j_iconst (v := 1) C dX7_fineOf_15 (by decide) ?_
    refine j_aload_n C 0 dX7_fineOf_16 rfl ?_
    refine j_get C 2 1 (ly_X7 C.2.2.2.2.2.2.2.1.1) q_168 rfl rfl (by decide) rfl rfl (by decide) rfl dX7_fineOf_17 ?_
    refine j_wi C (fun H locs ls hP hD hS hl => run_VN (Cn := "") (As := [.int 1, .ref (q 3)]) (st := []) C mf_X8_weigh 13 (kX_X8_weigh l D cI cZ ad q N h) q_375 (by decide) rfl rfl rfl rfl ⟨rfl, rfl, by decide, by decide⟩ (Nat.le_of_ble_eq_true rfl) dX7_fineOf_20 hP hD hS hl) (fun r3 u4 h => ?_)
    exact j_iret C dX7_fineOf_23 h

def wX7_hand_b137 (N : Nat) (K : MM → Prop) (o : Nat) (ro26 : Int32 → Int32 → Int32 → Int32 → MM → Prop) (x3 : Int32) (x4 : Int32) (x5 : Int32) (x6 : Int32) (u : MM) : Prop := (∀ y12 : Int32, y12 = x6 + 1 → (ro26 x3 x4 x5 y12 u))
def wX7_hand_b26 (N : Nat) (K : MM → Prop) (o : Nat) : Nat → Int32 → Int32 → Int32 → Int32 → MM → Prop
  | 0, _, _, _, _, _ => False
  | n + 1, x3, x4, x5, x6, u => (((u 21 0) ≤ x6 → (K u)) ∧ (¬ (u 21 0) ≤ x6 → (wX10_hasBit N x3 x6 (fun r3 => ((r3 = 0 → (wX7_hand_b137 N K o (wX7_hand_b26 N K o n) x3 x4 x5 x6 u)) ∧ (¬ r3 = 0 → (vp_in x6 7 ∧ ∀ u5 : MM, u5 = up u (o + 2) (x6.toNatClampNeg) (u o 0) → (wX10_hasBit N x4 x6 (fun r6 => ((¬ r6 = 0 → ((¬ (u5 13 1) = 0 → (vp_in x6 7 ∧ (vp_in x6 7 ∧ ∀ u9 : MM, u9 = up u5 (o + 1) (x6.toNatClampNeg) (if (u5 (o + 1) x6.toNatClampNeg) < x5 then x5 else (u5 (o + 1) x6.toNatClampNeg)) → (wX7_hand_b137 N K o (wX7_hand_b26 N K o n) x3 x4 x5 x6 u9)))) ∧ ((u5 13 1) = 0 → (vp_in x6 7 ∧ (vp_in x6 7 ∧ ∀ u10 : MM, u10 = up u5 (o + 1) (x6.toNatClampNeg) (if x5 < (u5 (o + 1) x6.toNatClampNeg) then x5 else (u5 (o + 1) x6.toNatClampNeg)) → (wX7_hand_b137 N K o (wX7_hand_b26 N K o n) x3 x4 x5 x6 u10)))))) ∧ (r6 = 0 → (vp_in x6 7 ∧ ∀ u11 : MM, u11 = up u5 (o + 1) (x6.toNatClampNeg) x5 → (wX7_hand_b137 N K o (wX7_hand_b26 N K o n) x3 x4 x5 x6 u11)))))))))))))
def wX7_hand (N : Nat) (o : Nat) (x2 : Int32) (x3 : Int32) (x4 : Int32) (u : MM) (K : MM → Prop) : Prop := (vp_in x2 7 ∧ (∀ y1 : Int32, y1 = (if (0 : Int32) < ((u (o + 1) x2.toNatClampNeg) - (u 13 0)) then ((u (o + 1) x2.toNatClampNeg) - (u 13 0)) else 0) → (wX7_hand_b26 N K o N x3 x4 y1 0 u)))
set_option maxRecDepth 100000 in
set_option maxHeartbeats 4000000 in
theorem tX7_hand_b137_27 (l : Launch) (D : va_G) (cI cZ : ClassId) (ad q : Nat → Nat) (N : Nat) {p : Program} {e : Env} {s : State} {m : MethodId} {args : Array Value} {below : List Frame} {meth : Method} {c : Code} {K : MM → Prop} (C : CX p s m args meth c cX7_hand 7 RX7 none D cI cZ ad (AJ 72 q s.heap.size)) {ro26 : Int32 → Int32 → Int32 → Int32 → MM → Prop} (hro26 : ∀ (x3 : Int32) (x4 : Int32) (x5 : Int32) (x6 : Int32) (u : MM), ro26 x3 x4 x5 x6 u → JX p l e (rr 1 21) s m args below meth c D (AJ 72 q s.heap.size) 7 (MQ below ((QV D 72 q (entC q cI cZ) K) (AJ 72 q s.heap.size)) args s 0 0 (AJ 72 q s.heap.size)) 72 q (entC q cI cZ) u 26 [(0, .ref (q 2)), (1, .ref (q 27)), (3, .int x3), (4, .int x4), (5, .int x5), (6, .int x6)] []) : ∀ (x3 : Int32) (x4 : Int32) (x5 : Int32) (x6 : Int32) (u : MM), wX7_hand_b137 N K 27 ro26 x3 x4 x5 x6 u → JX p l e (rr 1 21) s m args below meth c D (AJ 72 q s.heap.size) 7 (MQ below ((QV D 72 q (entC q cI cZ) K) (AJ 72 q s.heap.size)) args s 0 0 (AJ 72 q s.heap.size)) 72 q (entC q cI cZ) u 137 [(0, .ref (q 2)), (1, .ref (q 27)), (3, .int x3), (4, .int x4), (5, .int x5), (6, .int x6)] [] := by
    intro x3 x4 x5 x6 u h
    obtain ⟨y12, ey12⟩ : ∃ z : Int32, z = x6 + 1 := ⟨_, rfl⟩
    have h := h y12 ey12
    refine j_iinc (v := y12) (lv' := [(6, .int y12), (0, .ref (q 2)), (1, .ref (q 27)), (3, .int x3), (4, .int x4), (5, .int x5)]) C 5 dX7_hand_137 rfl (by rw [ey12]; rfl) (by decide) rfl ?_
    refine j_goto C 26 dX7_hand_140 (by decide) ?_
    refine j_sub (lv' := [(0, .ref (q 2)), (1, .ref (q 27)), (3, .int x3), (4, .int x4), (5, .int x5), (6, .int y12)]) [1, 2, 3, 4, 5, 0] rfl ?_
    exact hro26 _ _ _ _ _ h
set_option maxRecDepth 100000 in
set_option maxHeartbeats 4000000 in
theorem tX7_hand_b26_27 (l : Launch) (D : va_G) (cI cZ : ClassId) (ad q : Nat → Nat) (N : Nat) {p : Program} {e : Env} {s : State} {m : MethodId} {args : Array Value} {below : List Frame} {meth : Method} {c : Code} {K : MM → Prop} (C : CX p s m args meth c cX7_hand 7 RX7 none D cI cZ ad (AJ 72 q s.heap.size)) : ∀ (n : Nat) (x3 : Int32) (x4 : Int32) (x5 : Int32) (x6 : Int32) (u : MM), wX7_hand_b26 N K 27 n x3 x4 x5 x6 u → JX p l e (rr 1 21) s m args below meth c D (AJ 72 q s.heap.size) 7 (MQ below ((QV D 72 q (entC q cI cZ) K) (AJ 72 q s.heap.size)) args s 0 0 (AJ 72 q s.heap.size)) 72 q (entC q cI cZ) u 26 [(0, .ref (q 2)), (1, .ref (q 27)), (3, .int x3), (4, .int x4), (5, .int x5), (6, .int x6)] [] := by
  intro n
  induction n with
  | zero => intro x3 x4 x5 x6 u h; exact h.elim
  | succ n ih =>
    intro x3 x4 x5 x6 u h
    refine j_iload C 5 dX7_hand_26 rfl ?_
    refine j_aload_n C 0 dX7_hand_28 rfl ?_
    refine j_get C 2 0 (ly_X7 C.2.2.2.2.2.2.2.1.1) q_165 rfl rfl (by decide) rfl rfl (by decide) rfl dX7_hand_29 ?_
    refine j_getN C 10 3 (ly_X5 C.2.2.2.2.2.2.2.1.1) q_155 rfl rfl (by decide) rfl rfl (by decide) rfl dX7_hand_32 ?_
    refine j_getN C 21 0 (ly_X2 C.2.2.2.2.2.2.2.1.1) q_87 rfl rfl (by decide) rfl rfl (by decide) rfl dX7_hand_35 ?_
    refine j_icmp_ge C 143 dX7_hand_38 (by decide) (fun c2 => ?_) (fun c2 => ?_)
    · have h := h.1 c2
      exact j_vret C dX7_hand_143 h
    · have h := h.2 c2
      refine j_iload_n C 2 dX7_hand_41 rfl ?_
      refine j_iload C 5 dX7_hand_42 rfl ?_
      refine j_ui C (fun H locs ls hP hD => run_SN (As := [.int x3, .int x6]) (st := []) C mf_X10_hasBit (kX_X10_hasBit l D cI cZ ad q N h) q_374 rfl rfl ⟨rfl, rfl, by decide, by decide⟩ (Nat.le_of_ble_eq_true rfl) dX7_hand_44 hP hD) (fun r3 _ h => ?_)
      refine j_if_eq C 137 dX7_hand_47 (by decide) (fun c4 => ?_) (fun c4 => ?_)
      · have h := h.1 c4
        exact tX7_hand_b137_27 l D cI cZ ad q N C ih _ _ _ _ _ h
      · have h := h.2 c4
        refine j_aload_n C 1 dX7_hand_50 rfl ?_
        refine j_getN C 27 5 (ly_X9 C.2.2.2.2.2.2.2.1.1) q_127 rfl rfl (by decide) rfl rfl (by decide) rfl dX7_hand_51 ?_
        refine j_iload C 5 dX7_hand_54 rfl ?_
        refine j_aload_n C 1 dX7_hand_56 rfl ?_
        refine j_getN C 27 0 (ly_X9 C.2.2.2.2.2.2.2.1.1) q_109 rfl rfl (by decide) rfl rfl (by decide) rfl dX7_hand_57 ?_
        obtain ⟨hin, h⟩ := h
        refine j_iastoreK (N := 7) C 29 _ rfl hin (by decide) (fun _ => rfl) rfl dX7_hand_60 (fun u5 eu5 => ?_)
        have h := h u5 eu5
        refine j_iload C 3 dX7_hand_61 rfl ?_
        refine j_iload C 5 dX7_hand_63 rfl ?_
        refine j_ui C (fun H locs ls hP hD => run_SN (As := [.int x4, .int x6]) (st := []) C mf_X10_hasBit (kX_X10_hasBit l D cI cZ ad q N h) q_374 rfl rfl ⟨rfl, rfl, by decide, by decide⟩ (Nat.le_of_ble_eq_true rfl) dX7_hand_65 hP hD) (fun r6 _ h => ?_)
        refine j_if_ne C 83 dX7_hand_68 (by decide) (fun c7 => ?_) (fun c7 => ?_)
        · have h := h.1 c7
          refine j_aload_n C 0 dX7_hand_83 rfl ?_
          refine j_get C 2 0 (ly_X7 C.2.2.2.2.2.2.2.1.1) q_165 rfl rfl (by decide) rfl rfl (by decide) rfl dX7_hand_84 ?_
          refine j_getN C 10 1 (ly_X5 C.2.2.2.2.2.2.2.1.1) q_150 rfl rfl (by decide) rfl rfl (by decide) rfl dX7_hand_87 ?_
          refine j_getN C 13 1 (ly_X8 C.2.2.2.2.2.2.2.1.1) q_68 rfl rfl (by decide) rfl rfl (by decide) rfl dX7_hand_90 ?_
          refine j_if_ne C 118 dX7_hand_93 (by decide) (fun c8 => ?_) (fun c8 => ?_)
          · have h := h.1 c8
            refine j_aload_n C 1 dX7_hand_118 rfl ?_
            refine j_getN C 27 4 (ly_X9 C.2.2.2.2.2.2.2.1.1) q_123 rfl rfl (by decide) rfl rfl (by decide) rfl dX7_hand_119 ?_
            refine j_iload C 5 dX7_hand_122 rfl ?_
            refine j_aload_n C 1 dX7_hand_124 rfl ?_
            refine j_getN C 27 4 (ly_X9 C.2.2.2.2.2.2.2.1.1) q_123 rfl rfl (by decide) rfl rfl (by decide) rfl dX7_hand_125 ?_
            refine j_iload C 5 dX7_hand_128 rfl ?_
            obtain ⟨hin, h⟩ := h
            refine j_ialoadK (N := 7) C 28 _ rfl hin (by decide) rfl rfl dX7_hand_130 ?_
            refine j_iload C 4 dX7_hand_131 rfl ?_
            refine j_mmax C q_458 q_135 q_10 q_codeM_max (by decide) (Nat.le_of_ble_eq_true rfl) dX7_hand_133 ?_
            obtain ⟨hin, h⟩ := h
            refine j_iastoreK (N := 7) C 28 _ rfl hin (by decide) (fun _ => rfl) rfl dX7_hand_136 (fun u9 eu9 => ?_)
            have h := h u9 eu9
            exact tX7_hand_b137_27 l D cI cZ ad q N C ih _ _ _ _ _ h
          · have h := h.2 c8
            refine j_aload_n C 1 dX7_hand_96 rfl ?_
            refine j_getN C 27 4 (ly_X9 C.2.2.2.2.2.2.2.1.1) q_123 rfl rfl (by decide) rfl rfl (by decide) rfl dX7_hand_97 ?_
            refine j_iload C 5 dX7_hand_100 rfl ?_
            refine j_aload_n C 1 dX7_hand_102 rfl ?_
            refine j_getN C 27 4 (ly_X9 C.2.2.2.2.2.2.2.1.1) q_123 rfl rfl (by decide) rfl rfl (by decide) rfl dX7_hand_103 ?_
            refine j_iload C 5 dX7_hand_106 rfl ?_
            obtain ⟨hin, h⟩ := h
            refine j_ialoadK (N := 7) C 28 _ rfl hin (by decide) rfl rfl dX7_hand_108 ?_
            refine j_iload C 4 dX7_hand_109 rfl ?_
            refine j_mmin C q_459 q_400 q_10 q_codeM_min (by decide) (Nat.le_of_ble_eq_true rfl) dX7_hand_111 ?_
            obtain ⟨hin, h⟩ := h
            refine j_iastoreK (N := 7) C 28 _ rfl hin (by decide) (fun _ => rfl) rfl dX7_hand_114 (fun u10 eu10 => ?_)
            have h := h u10 eu10
            refine j_goto C 137 dX7_hand_115 (by decide) ?_
            exact tX7_hand_b137_27 l D cI cZ ad q N C ih _ _ _ _ _ h
        · have h := h.2 c7
          refine j_aload_n C 1 dX7_hand_71 rfl ?_
          refine j_getN C 27 4 (ly_X9 C.2.2.2.2.2.2.2.1.1) q_123 rfl rfl (by decide) rfl rfl (by decide) rfl dX7_hand_72 ?_
          refine j_iload C 5 dX7_hand_75 rfl ?_
          refine j_iload C 4 dX7_hand_77 rfl ?_
          obtain ⟨hin, h⟩ := h
          refine j_iastoreK (N := 7) C 28 _ rfl hin (by decide) (fun _ => rfl) rfl dX7_hand_79 (fun u11 eu11 => ?_)
          have h := h u11 eu11
          refine j_goto C 137 dX7_hand_80 (by decide) ?_
          exact tX7_hand_b137_27 l D cI cZ ad q N C ih _ _ _ _ _ h
set_option maxRecDepth 100000 in
set_option maxHeartbeats 4000000 in
theorem kX_X7_hand_27 (l : Launch) (D : va_G) (cI cZ : ClassId) (ad q : Nat → Nat) (N : Nat) {x2 : Int32} {x3 : Int32} {x4 : Int32} {u : MM} {K : MM → Prop} (h : wX7_hand N 27 x2 x3 x4 u K) : CT l D cI cZ ad 72 q (entC q cI cZ) yX7_hand cX7_hand 7 none (rr 1 21) [.ref (q 2), .ref (q 27), .int x2, .int x3, .int x4] u (QV D 72 q (entC q cI cZ) K) := by
    refine ct_of (by decide +kernel) (Nat.le_of_ble_eq_true rfl) (fun p e s m args below meth c C => ?_)
    refine j_sub (lv' := [(0, .ref (q 2)), (1, .ref (q 27)), (2, .int x2), (3, .int x3), (4, .int x4)]) [0, 1, 2, 3, 4] rfl ?_
    refine j_iconst (v := 0) C dX7_hand_0 (by decide) ?_
    refine j_aload_n C 1 dX7_hand_1 rfl ?_
    refine j_getN C 27 4 (ly_X9 C.2.2.2.2.2.2.2.1.1) q_123 rfl rfl (by decide) rfl rfl (by decide) rfl dX7_hand_2 ?_
    refine j_iload_n C 2 dX7_hand_5 rfl ?_
    obtain ⟨hin, h⟩ := h
    refine j_ialoadK (N := 7) C 28 _ rfl hin (by decide) rfl rfl dX7_hand_6 ?_
    refine j_aload_n C 0 dX7_hand_7 rfl ?_
    refine j_get C 2 0 (ly_X7 C.2.2.2.2.2.2.2.1.1) q_165 rfl rfl (by decide) rfl rfl (by decide) rfl dX7_hand_8 ?_
    refine j_getN C 10 1 (ly_X5 C.2.2.2.2.2.2.2.1.1) q_150 rfl rfl (by decide) rfl rfl (by decide) rfl dX7_hand_11 ?_
    refine j_getN C 13 0 (ly_X8 C.2.2.2.2.2.2.2.1.1) q_64 rfl rfl (by decide) rfl rfl (by decide) rfl dX7_hand_14 ?_
    refine j_isub C dX7_hand_17 ?_
    refine j_mmax C q_458 q_135 q_10 q_codeM_max (by decide) (Nat.le_of_ble_eq_true rfl) dX7_hand_18 ?_
    refine j_nmi (fun y1 ey1 => ?_)
    have h := h y1 ey1
    refine j_istore (lv' := [(5, .int y1), (0, .ref (q 2)), (1, .ref (q 27)), (2, .int x2), (3, .int x3), (4, .int x4)]) C dX7_hand_21 (by decide) rfl ?_
    refine j_iconst (v := 0) C dX7_hand_23 (by decide) ?_
    refine j_istore (lv' := [(6, .int 0), (5, .int y1), (0, .ref (q 2)), (1, .ref (q 27)), (2, .int x2), (3, .int x3), (4, .int x4)]) C dX7_hand_24 (by decide) rfl ?_
    refine j_sub (lv' := [(0, .ref (q 2)), (1, .ref (q 27)), (3, .int x3), (4, .int x4), (5, .int y1), (6, .int 0)]) [2, 3, 5, 6, 1, 0] rfl ?_
    exact tX7_hand_b26_27 l D cI cZ ad q N C N _ _ _ _ _ h
set_option maxRecDepth 100000 in
set_option maxHeartbeats 4000000 in
theorem tX7_hand_b137_7 (l : Launch) (D : va_G) (cI cZ : ClassId) (ad q : Nat → Nat) (N : Nat) {p : Program} {e : Env} {s : State} {m : MethodId} {args : Array Value} {below : List Frame} {meth : Method} {c : Code} {K : MM → Prop} (C : CX p s m args meth c cX7_hand 7 RX7 none D cI cZ ad (AJ 72 q s.heap.size)) {ro26 : Int32 → Int32 → Int32 → Int32 → MM → Prop} (hro26 : ∀ (x3 : Int32) (x4 : Int32) (x5 : Int32) (x6 : Int32) (u : MM), ro26 x3 x4 x5 x6 u → JX p l e (rr 1 21) s m args below meth c D (AJ 72 q s.heap.size) 7 (MQ below ((QV D 72 q (entC q cI cZ) K) (AJ 72 q s.heap.size)) args s 0 0 (AJ 72 q s.heap.size)) 72 q (entC q cI cZ) u 26 [(0, .ref (q 2)), (1, .ref (q 7)), (3, .int x3), (4, .int x4), (5, .int x5), (6, .int x6)] []) : ∀ (x3 : Int32) (x4 : Int32) (x5 : Int32) (x6 : Int32) (u : MM), wX7_hand_b137 N K 7 ro26 x3 x4 x5 x6 u → JX p l e (rr 1 21) s m args below meth c D (AJ 72 q s.heap.size) 7 (MQ below ((QV D 72 q (entC q cI cZ) K) (AJ 72 q s.heap.size)) args s 0 0 (AJ 72 q s.heap.size)) 72 q (entC q cI cZ) u 137 [(0, .ref (q 2)), (1, .ref (q 7)), (3, .int x3), (4, .int x4), (5, .int x5), (6, .int x6)] [] := by
    intro x3 x4 x5 x6 u h
    obtain ⟨y12, ey12⟩ : ∃ z : Int32, z = x6 + 1 := ⟨_, rfl⟩
    have h := h y12 ey12
    refine j_iinc (v := y12) (lv' := [(6, .int y12), (0, .ref (q 2)), (1, .ref (q 7)), (3, .int x3), (4, .int x4), (5, .int x5)]) C 5 dX7_hand_137 rfl (by rw [ey12]; rfl) (by decide) rfl ?_
    refine j_goto C 26 dX7_hand_140 (by decide) ?_
    refine j_sub (lv' := [(0, .ref (q 2)), (1, .ref (q 7)), (3, .int x3), (4, .int x4), (5, .int x5), (6, .int y12)]) [1, 2, 3, 4, 5, 0] rfl ?_
    exact hro26 _ _ _ _ _ h
set_option maxRecDepth 100000 in
set_option maxHeartbeats 4000000 in
theorem tX7_hand_b26_7 (l : Launch) (D : va_G) (cI cZ : ClassId) (ad q : Nat → Nat) (N : Nat) {p : Program} {e : Env} {s : State} {m : MethodId} {args : Array Value} {below : List Frame} {meth : Method} {c : Code} {K : MM → Prop} (C : CX p s m args meth c cX7_hand 7 RX7 none D cI cZ ad (AJ 72 q s.heap.size)) : ∀ (n : Nat) (x3 : Int32) (x4 : Int32) (x5 : Int32) (x6 : Int32) (u : MM), wX7_hand_b26 N K 7 n x3 x4 x5 x6 u → JX p l e (rr 1 21) s m args below meth c D (AJ 72 q s.heap.size) 7 (MQ below ((QV D 72 q (entC q cI cZ) K) (AJ 72 q s.heap.size)) args s 0 0 (AJ 72 q s.heap.size)) 72 q (entC q cI cZ) u 26 [(0, .ref (q 2)), (1, .ref (q 7)), (3, .int x3), (4, .int x4), (5, .int x5), (6, .int x6)] [] := by
  intro n
  induction n with
  | zero => intro x3 x4 x5 x6 u h; exact h.elim
  | succ n ih =>
    intro x3 x4 x5 x6 u h
    refine j_iload C 5 dX7_hand_26 rfl ?_
    refine j_aload_n C 0 dX7_hand_28 rfl ?_
    refine j_get C 2 0 (ly_X7 C.2.2.2.2.2.2.2.1.1) q_165 rfl rfl (by decide) rfl rfl (by decide) rfl dX7_hand_29 ?_
    refine j_getN C 10 3 (ly_X5 C.2.2.2.2.2.2.2.1.1) q_155 rfl rfl (by decide) rfl rfl (by decide) rfl dX7_hand_32 ?_
    refine j_getN C 21 0 (ly_X2 C.2.2.2.2.2.2.2.1.1) q_87 rfl rfl (by decide) rfl rfl (by decide) rfl dX7_hand_35 ?_
    refine j_icmp_ge C 143 dX7_hand_38 (by decide) (fun c2 => ?_) (fun c2 => ?_)
    · have h := h.1 c2
      exact j_vret C dX7_hand_143 h
    · have h := h.2 c2
      refine j_iload_n C 2 dX7_hand_41 rfl ?_
      refine j_iload C 5 dX7_hand_42 rfl ?_
      refine j_ui C (fun H locs ls hP hD => run_SN (As := [.int x3, .int x6]) (st := []) C mf_X10_hasBit (kX_X10_hasBit l D cI cZ ad q N h) q_374 rfl rfl ⟨rfl, rfl, by decide, by decide⟩ (Nat.le_of_ble_eq_true rfl) dX7_hand_44 hP hD) (fun r3 _ h => ?_)
      refine j_if_eq C 137 dX7_hand_47 (by decide) (fun c4 => ?_) (fun c4 => ?_)
      · have h := h.1 c4
        exact tX7_hand_b137_7 l D cI cZ ad q N C ih _ _ _ _ _ h
      · have h := h.2 c4
        refine j_aload_n C 1 dX7_hand_50 rfl ?_
        refine j_getN C 7 5 (ly_X9 C.2.2.2.2.2.2.2.1.1) q_127 rfl rfl (by decide) rfl rfl (by decide) rfl dX7_hand_51 ?_
        refine j_iload C 5 dX7_hand_54 rfl ?_
        refine j_aload_n C 1 dX7_hand_56 rfl ?_
        refine j_getN C 7 0 (ly_X9 C.2.2.2.2.2.2.2.1.1) q_109 rfl rfl (by decide) rfl rfl (by decide) rfl dX7_hand_57 ?_
        obtain ⟨hin, h⟩ := h
        refine j_iastoreK (N := 7) C 9 _ rfl hin (by decide) (fun _ => rfl) rfl dX7_hand_60 (fun u5 eu5 => ?_)
        have h := h u5 eu5
        refine j_iload C 3 dX7_hand_61 rfl ?_
        refine j_iload C 5 dX7_hand_63 rfl ?_
        refine j_ui C (fun H locs ls hP hD => run_SN (As := [.int x4, .int x6]) (st := []) C mf_X10_hasBit (kX_X10_hasBit l D cI cZ ad q N h) q_374 rfl rfl ⟨rfl, rfl, by decide, by decide⟩ (Nat.le_of_ble_eq_true rfl) dX7_hand_65 hP hD) (fun r6 _ h => ?_)
        refine j_if_ne C 83 dX7_hand_68 (by decide) (fun c7 => ?_) (fun c7 => ?_)
        · have h := h.1 c7
          refine j_aload_n C 0 dX7_hand_83 rfl ?_
          refine j_get C 2 0 (ly_X7 C.2.2.2.2.2.2.2.1.1) q_165 rfl rfl (by decide) rfl rfl (by decide) rfl dX7_hand_84 ?_
          refine j_getN C 10 1 (ly_X5 C.2.2.2.2.2.2.2.1.1) q_150 rfl rfl (by decide) rfl rfl (by decide) rfl dX7_hand_87 ?_
          refine j_getN C 13 1 (ly_X8 C.2.2.2.2.2.2.2.1.1) q_68 rfl rfl (by decide) rfl rfl (by decide) rfl dX7_hand_90 ?_
          refine j_if_ne C 118 dX7_hand_93 (by decide) (fun c8 => ?_) (fun c8 => ?_)
          · have h := h.1 c8
            refine j_aload_n C 1 dX7_hand_118 rfl ?_
            refine j_getN C 7 4 (ly_X9 C.2.2.2.2.2.2.2.1.1) q_123 rfl rfl (by decide) rfl rfl (by decide) rfl dX7_hand_119 ?_
            refine j_iload C 5 dX7_hand_122 rfl ?_
            refine j_aload_n C 1 dX7_hand_124 rfl ?_
            refine j_getN C 7 4 (ly_X9 C.2.2.2.2.2.2.2.1.1) q_123 rfl rfl (by decide) rfl rfl (by decide) rfl dX7_hand_125 ?_
            refine j_iload C 5 dX7_hand_128 rfl ?_
            obtain ⟨hin, h⟩ := h
            refine j_ialoadK (N := 7) C 8 _ rfl hin (by decide) rfl rfl dX7_hand_130 ?_
            refine j_iload C 4 dX7_hand_131 rfl ?_
            refine j_mmax C q_458 q_135 q_10 q_codeM_max (by decide) (Nat.le_of_ble_eq_true rfl) dX7_hand_133 ?_
            obtain ⟨hin, h⟩ := h
            refine j_iastoreK (N := 7) C 8 _ rfl hin (by decide) (fun _ => rfl) rfl dX7_hand_136 (fun u9 eu9 => ?_)
            have h := h u9 eu9
            exact tX7_hand_b137_7 l D cI cZ ad q N C ih _ _ _ _ _ h
          · have h := h.2 c8
            refine j_aload_n C 1 dX7_hand_96 rfl ?_
            refine j_getN C 7 4 (ly_X9 C.2.2.2.2.2.2.2.1.1) q_123 rfl rfl (by decide) rfl rfl (by decide) rfl dX7_hand_97 ?_
            refine j_iload C 5 dX7_hand_100 rfl ?_
            refine j_aload_n C 1 dX7_hand_102 rfl ?_
            refine j_getN C 7 4 (ly_X9 C.2.2.2.2.2.2.2.1.1) q_123 rfl rfl (by decide) rfl rfl (by decide) rfl dX7_hand_103 ?_
            refine j_iload C 5 dX7_hand_106 rfl ?_
            obtain ⟨hin, h⟩ := h
            refine j_ialoadK (N := 7) C 8 _ rfl hin (by decide) rfl rfl dX7_hand_108 ?_
            refine j_iload C 4 dX7_hand_109 rfl ?_
            refine j_mmin C q_459 q_400 q_10 q_codeM_min (by decide) (Nat.le_of_ble_eq_true rfl) dX7_hand_111 ?_
            obtain ⟨hin, h⟩ := h
            refine j_iastoreK (N := 7) C 8 _ rfl hin (by decide) (fun _ => rfl) rfl dX7_hand_114 (fun u10 eu10 => ?_)
            have h := h u10 eu10
            refine j_goto C 137 dX7_hand_115 (by decide) ?_
            exact tX7_hand_b137_7 l D cI cZ ad q N C ih _ _ _ _ _ h
        · have h := h.2 c7
          refine j_aload_n C 1 dX7_hand_71 rfl ?_
          refine j_getN C 7 4 (ly_X9 C.2.2.2.2.2.2.2.1.1) q_123 rfl rfl (by decide) rfl rfl (by decide) rfl dX7_hand_72 ?_
          refine j_iload C 5 dX7_hand_75 rfl ?_
          refine j_iload C 4 dX7_hand_77 rfl ?_
          obtain ⟨hin, h⟩ := h
          refine j_iastoreK (N := 7) C 8 _ rfl hin (by decide) (fun _ => rfl) rfl dX7_hand_79 (fun u11 eu11 => ?_)
          have h := h u11 eu11
          refine j_goto C 137 dX7_hand_80 (by decide) ?_
          exact tX7_hand_b137_7 l D cI cZ ad q N C ih _ _ _ _ _ h
set_option maxRecDepth 100000 in
set_option maxHeartbeats 4000000 in
theorem kX_X7_hand_7 (l : Launch) (D : va_G) (cI cZ : ClassId) (ad q : Nat → Nat) (N : Nat) {x2 : Int32} {x3 : Int32} {x4 : Int32} {u : MM} {K : MM → Prop} (h : wX7_hand N 7 x2 x3 x4 u K) : CT l D cI cZ ad 72 q (entC q cI cZ) yX7_hand cX7_hand 7 none (rr 1 21) [.ref (q 2), .ref (q 7), .int x2, .int x3, .int x4] u (QV D 72 q (entC q cI cZ) K) := by
    refine ct_of (by decide +kernel) (Nat.le_of_ble_eq_true rfl) (fun p e s m args below meth c C => ?_)
    refine j_sub (lv' := [(0, .ref (q 2)), (1, .ref (q 7)), (2, .int x2), (3, .int x3), (4, .int x4)]) [0, 1, 2, 3, 4] rfl ?_
    refine j_iconst (v := 0) C dX7_hand_0 (by decide) ?_
    refine j_aload_n C 1 dX7_hand_1 rfl ?_
    refine j_getN C 7 4 (ly_X9 C.2.2.2.2.2.2.2.1.1) q_123 rfl rfl (by decide) rfl rfl (by decide) rfl dX7_hand_2 ?_
    refine j_iload_n C 2 dX7_hand_5 rfl ?_
    obtain ⟨hin, h⟩ := h
    refine j_ialoadK (N := 7) C 8 _ rfl hin (by decide) rfl rfl dX7_hand_6 ?_
    refine j_aload_n C 0 dX7_hand_7 rfl ?_
    refine j_get C 2 0 (ly_X7 C.2.2.2.2.2.2.2.1.1) q_165 rfl rfl (by decide) rfl rfl (by decide) rfl dX7_hand_8 ?_
    refine j_getN C 10 1 (ly_X5 C.2.2.2.2.2.2.2.1.1) q_150 rfl rfl (by decide) rfl rfl (by decide) rfl dX7_hand_11 ?_
    refine j_getN C 13 0 (ly_X8 C.2.2.2.2.2.2.2.1.1) q_64 rfl rfl (by decide) rfl rfl (by decide) rfl dX7_hand_14 ?_
    refine j_isub C dX7_hand_17 ?_
    refine j_mmax C q_458 q_135 q_10 q_codeM_max (by decide) (Nat.le_of_ble_eq_true rfl) dX7_hand_18 ?_
    refine j_nmi (fun y1 ey1 => ?_)
    have h := h y1 ey1
    refine j_istore (lv' := [(5, .int y1), (0, .ref (q 2)), (1, .ref (q 7)), (2, .int x2), (3, .int x3), (4, .int x4)]) C dX7_hand_21 (by decide) rfl ?_
    refine j_iconst (v := 0) C dX7_hand_23 (by decide) ?_
    refine j_istore (lv' := [(6, .int 0), (5, .int y1), (0, .ref (q 2)), (1, .ref (q 7)), (2, .int x2), (3, .int x3), (4, .int x4)]) C dX7_hand_24 (by decide) rfl ?_
    refine j_sub (lv' := [(0, .ref (q 2)), (1, .ref (q 7)), (3, .int x3), (4, .int x4), (5, .int y1), (6, .int 0)]) [2, 3, 5, 6, 1, 0] rfl ?_
    exact tX7_hand_b26_7 l D cI cZ ad q N C N _ _ _ _ _ h

def wX7_goDay_b176 (N : Nat) (K : Int32 → MM → Prop) (o : Nat) (ro43 : Int32 → Int32 → Int32 → Int32 → Int32 → Int32 → MM → Prop) (x2 : Int32) (x3 : Int32) (x5 : Int32) (x6 : Int32) (x7 : Int32) (x8 : Int32) (u : MM) : Prop := (∀ y30 : Int32, y30 = x8 + 1 → (ro43 x2 x3 x5 x6 x7 y30 u))
def wX7_goDay_b144 (N : Nat) (K : Int32 → MM → Prop) (o : Nat) (ro43 : Int32 → Int32 → Int32 → Int32 → Int32 → Int32 → MM → Prop) (x2 : Int32) (x3 : Int32) (x5 : Int32) (x6 : Int32) (x7 : Int32) (x8 : Int32) (x10 : Int32) (s0 : Int32) (s1 : Int32) (u : MM) : Prop := (∀ u26 : MM, u26 = up u o 1 (s1 + s0) → (wX7_hand N o x8 (x10 &&& (x6 ^^^ ((-1) : Int32))) x7 u26 (fun u28 => (∀ y29 : Int32, y29 = (x7 ||| (x10 &&& (x6 ^^^ ((-1) : Int32)))) → (wX7_goDay_b176 N K o ro43 x2 x3 x5 x6 y29 x8 u28)))))
def wX7_goDay_b108 (N : Nat) (K : Int32 → MM → Prop) (o : Nat) (ro43 : Int32 → Int32 → Int32 → Int32 → Int32 → Int32 → MM → Prop) (x2 : Int32) (x3 : Int32) (x5 : Int32) (x6 : Int32) (x7 : Int32) (x8 : Int32) (x9 : Int32) (s0 : Int32) (u : MM) : Prop := (wJ6_bitCount_0f7a4 N s0 (fun r21 => (∀ y22 : Int32, y22 = (x9 - r21) → ((y22 ≤ 0 → (wX7_goDay_b144 N K o ro43 x2 x3 x5 x6 x7 x8 s0 0 (u o 1) u)) ∧ (¬ y22 ≤ 0 → (wX7_fineOf N o x8 u (fun r24 u25 => (wX7_goDay_b144 N K o ro43 x2 x3 x5 x6 x7 x8 s0 (y22 * r24) (u o 1) u25))))))))
def wX7_goDay_b43 (N : Nat) (K : Int32 → MM → Prop) (o : Nat) : Nat → Int32 → Int32 → Int32 → Int32 → Int32 → Int32 → MM → Prop
  | 0, _, _, _, _, _, _, _ => False
  | n + 1, x2, x3, x5, x6, x7, x8, u => (((u 21 0) ≤ x8 → (∀ u8 : MM, u8 = up u o 3 ((u o 3) ||| x5) → (∀ u9 : MM, u9 = up u8 o 2 ((u8 o 2) ||| x7) → (∀ u10 : MM, u10 = up u9 o 0 ((u9 o 0) + 1) → (wJ6_bitCount_0f7a4 N x7 (fun r11 => (K r11 u10))))))) ∧ (¬ (u 21 0) ≤ x8 → (wX10_hasBit N x5 x8 (fun r12 => ((r12 = 0 → (wX7_goDay_b176 N K o (wX7_goDay_b43 N K o n) x2 x3 x5 x6 x7 x8 u)) ∧ (¬ r12 = 0 → (wX7_askedOf N o x8 u (fun r14 u15 => ((¬ x8 = x2 → (wX7_mayOf N o x8 u15 (fun r17 u18 => (wX2_pick N x8 r17 r14 u18 (fun r19 u20 => (wX7_goDay_b108 N K o (wX7_goDay_b43 N K o n) x2 x3 x5 x6 x7 x8 r14 r19 u20)))))) ∧ (x8 = x2 → (wX7_goDay_b108 N K o (wX7_goDay_b43 N K o n) x2 x3 x5 x6 x7 x8 r14 x3 u15)))))))))))
def wX7_goDay_b34 (N : Nat) (K : Int32 → MM → Prop) (o : Nat) (x2 : Int32) (x3 : Int32) (x5 : Int32) (s0 : Int32) (s1 : Int32) (u : MM) : Prop := (∀ y6 : Int32, y6 = (s1 ||| s0) → (wX7_goDay_b43 N K o N x2 x3 x5 y6 0 0 u))
def wX7_goDay (N : Nat) (o : Nat) (x2 : Int32) (x3 : Int32) (x4 : Int32) (u : MM) (K : Int32 → MM → Prop) : Prop := (wX9_yetToTell N o u (fun r1 u2 => (wX2_deafOn N (u2 o 0) u2 (fun r3 u4 => ((¬ x4 = (-1) → (wX7_goDay_b34 N K o x2 x3 r1 ((1 : Int32) <<< (x4 &&& 31)) r3 u4)) ∧ (x4 = (-1) → (wX7_goDay_b34 N K o x2 x3 r1 0 r3 u4)))))))
set_option maxRecDepth 100000 in
set_option maxHeartbeats 4000000 in
theorem tX7_goDay_b176_27 (l : Launch) (D : va_G) (cI cZ : ClassId) (ad q : Nat → Nat) (N : Nat) {p : Program} {e : Env} {s : State} {m : MethodId} {args : Array Value} {below : List Frame} {meth : Method} {c : Code} {K : Int32 → MM → Prop} (C : CX p s m args meth c cX7_goDay 12 RX7 (some .int) D cI cZ ad (AJ 72 q s.heap.size)) {ro43 : Int32 → Int32 → Int32 → Int32 → Int32 → Int32 → MM → Prop} (hro43 : ∀ (x2 : Int32) (x3 : Int32) (x5 : Int32) (x6 : Int32) (x7 : Int32) (x8 : Int32) (u : MM), ro43 x2 x3 x5 x6 x7 x8 u → JX p l e (rr 4 93) s m args below meth c D (AJ 72 q s.heap.size) 12 (MQ below ((QI D 72 q (entC q cI cZ) K) (AJ 72 q s.heap.size)) args s 0 0 (AJ 72 q s.heap.size)) 72 q (entC q cI cZ) u 43 [(0, .ref (q 2)), (1, .ref (q 27)), (2, .int x2), (3, .int x3), (5, .int x5), (6, .int x6), (7, .int x7), (8, .int x8)] []) : ∀ (x2 : Int32) (x3 : Int32) (x5 : Int32) (x6 : Int32) (x7 : Int32) (x8 : Int32) (u : MM), wX7_goDay_b176 N K 27 ro43 x2 x3 x5 x6 x7 x8 u → JX p l e (rr 4 93) s m args below meth c D (AJ 72 q s.heap.size) 12 (MQ below ((QI D 72 q (entC q cI cZ) K) (AJ 72 q s.heap.size)) args s 0 0 (AJ 72 q s.heap.size)) 72 q (entC q cI cZ) u 176 [(0, .ref (q 2)), (1, .ref (q 27)), (2, .int x2), (3, .int x3), (5, .int x5), (6, .int x6), (7, .int x7), (8, .int x8)] [] := by
    intro x2 x3 x5 x6 x7 x8 u h
    obtain ⟨y30, ey30⟩ : ∃ z : Int32, z = x8 + 1 := ⟨_, rfl⟩
    have h := h y30 ey30
    refine j_iinc (v := y30) (lv' := [(8, .int y30), (0, .ref (q 2)), (1, .ref (q 27)), (2, .int x2), (3, .int x3), (5, .int x5), (6, .int x6), (7, .int x7)]) C 7 dX7_goDay_176 rfl (by rw [ey30]; rfl) (by decide) rfl ?_
    refine j_goto C 43 dX7_goDay_179 (by decide) ?_
    refine j_sub (lv' := [(0, .ref (q 2)), (1, .ref (q 27)), (2, .int x2), (3, .int x3), (5, .int x5), (6, .int x6), (7, .int x7), (8, .int y30)]) [1, 2, 3, 4, 5, 6, 7, 0] rfl ?_
    exact hro43 _ _ _ _ _ _ _ h
set_option maxRecDepth 100000 in
set_option maxHeartbeats 4000000 in
theorem tX7_goDay_b144_27 (l : Launch) (D : va_G) (cI cZ : ClassId) (ad q : Nat → Nat) (N : Nat) {p : Program} {e : Env} {s : State} {m : MethodId} {args : Array Value} {below : List Frame} {meth : Method} {c : Code} {K : Int32 → MM → Prop} (C : CX p s m args meth c cX7_goDay 12 RX7 (some .int) D cI cZ ad (AJ 72 q s.heap.size)) {ro43 : Int32 → Int32 → Int32 → Int32 → Int32 → Int32 → MM → Prop} (hro43 : ∀ (x2 : Int32) (x3 : Int32) (x5 : Int32) (x6 : Int32) (x7 : Int32) (x8 : Int32) (u : MM), ro43 x2 x3 x5 x6 x7 x8 u → JX p l e (rr 4 93) s m args below meth c D (AJ 72 q s.heap.size) 12 (MQ below ((QI D 72 q (entC q cI cZ) K) (AJ 72 q s.heap.size)) args s 0 0 (AJ 72 q s.heap.size)) 72 q (entC q cI cZ) u 43 [(0, .ref (q 2)), (1, .ref (q 27)), (2, .int x2), (3, .int x3), (5, .int x5), (6, .int x6), (7, .int x7), (8, .int x8)] []) : ∀ (x2 : Int32) (x3 : Int32) (x5 : Int32) (x6 : Int32) (x7 : Int32) (x8 : Int32) (x10 : Int32) (s0 : Int32) (s1 : Int32) (u : MM), wX7_goDay_b144 N K 27 ro43 x2 x3 x5 x6 x7 x8 x10 s0 s1 u → JX p l e (rr 4 93) s m args below meth c D (AJ 72 q s.heap.size) 12 (MQ below ((QI D 72 q (entC q cI cZ) K) (AJ 72 q s.heap.size)) args s 0 0 (AJ 72 q s.heap.size)) 72 q (entC q cI cZ) u 144 [(0, .ref (q 2)), (1, .ref (q 27)), (2, .int x2), (3, .int x3), (5, .int x5), (6, .int x6), (7, .int x7), (8, .int x8), (10, .int x10)] [.int s0, .int s1, .ref (q 27)] := by
    intro x2 x3 x5 x6 x7 x8 x10 s0 s1 u h
    refine j_iadd C dX7_goDay_144 ?_
    refine j_putN C 27 1 (ly_X9 C.2.2.2.2.2.2.2.1.1) q_113 rfl rfl (by decide) rfl rfl (by decide) tyX9_ok nmX9 rfl rfl ⟨rfl, rfl⟩ (Nat.le_of_ble_eq_true rfl) rfl dX7_goDay_145 ?_
    refine j_nmu (fun u26 eu26 => ?_)
    have h := h u26 eu26
    refine j_aload_n C 0 dX7_goDay_148 rfl ?_
    refine j_aload_n C 1 dX7_goDay_149 rfl ?_
    refine j_iload C 7 dX7_goDay_150 rfl ?_
    refine j_iload C 8 dX7_goDay_152 rfl ?_
    refine j_iload C 5 dX7_goDay_154 rfl ?_
    refine j_iconst (v := (-1)) C dX7_goDay_156 (by decide) ?_
    refine j_ixor C dX7_goDay_157 ?_
    refine j_iand C dX7_goDay_158 ?_
    refine j_iload C 6 dX7_goDay_159 rfl ?_
    refine j_wv C (fun H locs ls hP hD hS hl => run_V (Cn := "") (As := [.ref (q 27), .int x8, .int (x10 &&& (x6 ^^^ ((-1) : Int32))), .int x7]) (st := []) C mf_X7_hand 2 (kX_X7_hand_27 l D cI cZ ad q N h) q_455 (by decide) rfl rfl rfl rfl ⟨rfl, rfl, by decide, by decide⟩ (Nat.le_of_ble_eq_true rfl) dX7_goDay_161 hP hD hS hl) (fun u28 h => ?_)
    refine j_iload C 6 dX7_goDay_164 rfl ?_
    refine j_iload C 8 dX7_goDay_166 rfl ?_
    refine j_iload C 5 dX7_goDay_168 rfl ?_
    refine j_iconst (v := (-1)) C dX7_goDay_170 (by decide) ?_
    refine j_ixor C dX7_goDay_171 ?_
    refine j_iand C dX7_goDay_172 ?_
    refine j_ior C dX7_goDay_173 ?_
    refine j_nmi (fun y29 ey29 => ?_)
    have h := h y29 ey29
    refine j_istore (lv' := [(7, .int y29), (0, .ref (q 2)), (1, .ref (q 27)), (2, .int x2), (3, .int x3), (5, .int x5), (6, .int x6), (8, .int x8), (10, .int x10)]) C dX7_goDay_174 (by decide) rfl ?_
    refine j_sub (lv' := [(0, .ref (q 2)), (1, .ref (q 27)), (2, .int x2), (3, .int x3), (5, .int x5), (6, .int x6), (7, .int y29), (8, .int x8)]) [1, 2, 3, 4, 5, 6, 0, 7] rfl ?_
    exact tX7_goDay_b176_27 l D cI cZ ad q N C (hro43) _ _ _ _ _ _ _ h
set_option maxRecDepth 100000 in
set_option maxHeartbeats 4000000 in
theorem tX7_goDay_b108_27 (l : Launch) (D : va_G) (cI cZ : ClassId) (ad q : Nat → Nat) (N : Nat) {p : Program} {e : Env} {s : State} {m : MethodId} {args : Array Value} {below : List Frame} {meth : Method} {c : Code} {K : Int32 → MM → Prop} (C : CX p s m args meth c cX7_goDay 12 RX7 (some .int) D cI cZ ad (AJ 72 q s.heap.size)) {ro43 : Int32 → Int32 → Int32 → Int32 → Int32 → Int32 → MM → Prop} (hro43 : ∀ (x2 : Int32) (x3 : Int32) (x5 : Int32) (x6 : Int32) (x7 : Int32) (x8 : Int32) (u : MM), ro43 x2 x3 x5 x6 x7 x8 u → JX p l e (rr 4 93) s m args below meth c D (AJ 72 q s.heap.size) 12 (MQ below ((QI D 72 q (entC q cI cZ) K) (AJ 72 q s.heap.size)) args s 0 0 (AJ 72 q s.heap.size)) 72 q (entC q cI cZ) u 43 [(0, .ref (q 2)), (1, .ref (q 27)), (2, .int x2), (3, .int x3), (5, .int x5), (6, .int x6), (7, .int x7), (8, .int x8)] []) : ∀ (x2 : Int32) (x3 : Int32) (x5 : Int32) (x6 : Int32) (x7 : Int32) (x8 : Int32) (x9 : Int32) (s0 : Int32) (u : MM), wX7_goDay_b108 N K 27 ro43 x2 x3 x5 x6 x7 x8 x9 s0 u → JX p l e (rr 4 93) s m args below meth c D (AJ 72 q s.heap.size) 12 (MQ below ((QI D 72 q (entC q cI cZ) K) (AJ 72 q s.heap.size)) args s 0 0 (AJ 72 q s.heap.size)) 72 q (entC q cI cZ) u 108 [(0, .ref (q 2)), (1, .ref (q 27)), (2, .int x2), (3, .int x3), (5, .int x5), (6, .int x6), (7, .int x7), (8, .int x8), (9, .int x9)] [.int s0] := by
    intro x2 x3 x5 x6 x7 x8 x9 s0 u h
    refine j_istore (lv' := [(10, .int s0), (0, .ref (q 2)), (1, .ref (q 27)), (2, .int x2), (3, .int x3), (5, .int x5), (6, .int x6), (7, .int x7), (8, .int x8), (9, .int x9)]) C dX7_goDay_108 (by decide) rfl ?_
    refine j_iload C 9 dX7_goDay_110 rfl ?_
    refine j_iload C 0 dX7_goDay_112 rfl ?_
    refine j_ui C (fun H locs ls hP hD => run_S (As := [.int s0]) (st := [.int x9]) C mf_J6_bitCount_0f7a4 (kX_J6_bitCount_0f7a4 l D cI cZ ad q N h) q_453 rfl rfl ⟨rfl, rfl, by decide, by decide⟩ (Nat.le_of_ble_eq_true rfl) dX7_goDay_114 hP hD) (fun r21 _ h => ?_)
    refine j_isub C dX7_goDay_117 ?_
    refine j_nmi (fun y22 ey22 => ?_)
    have h := h y22 ey22
    refine j_istore (lv' := [(11, .int y22), (10, .int s0), (0, .ref (q 2)), (1, .ref (q 27)), (2, .int x2), (3, .int x3), (5, .int x5), (6, .int x6), (7, .int x7), (8, .int x8), (9, .int x9)]) C dX7_goDay_118 (by decide) rfl ?_
    refine j_aload_n C 3 dX7_goDay_120 rfl ?_
    refine j_dup C dX7_goDay_121 rfl ?_
    refine j_getN C 27 1 (ly_X9 C.2.2.2.2.2.2.2.1.1) q_113 rfl rfl (by decide) rfl rfl (by decide) rfl dX7_goDay_122 ?_
    refine j_iload C 0 dX7_goDay_125 rfl ?_
    refine j_if_le C 143 dX7_goDay_127 (by decide) (fun c23 => ?_) (fun c23 => ?_)
    · have h := h.1 c23
      refine j_iconst (v := 0) C dX7_goDay_143 (by decide) ?_
      refine j_sub (lv' := [(0, .ref (q 2)), (1, .ref (q 27)), (2, .int x2), (3, .int x3), (5, .int x5), (6, .int x6), (7, .int x7), (8, .int x8), (10, .int s0)]) [2, 3, 4, 5, 6, 7, 8, 9, 1] rfl ?_
      exact tX7_goDay_b144_27 l D cI cZ ad q N C (hro43) _ _ _ _ _ _ _ _ _ _ h
    · have h := h.2 c23
      refine j_iload C 0 dX7_goDay_130 rfl ?_
      refine j_aload_n C 2 dX7_goDay_132 rfl ?_
      refine j_aload_n C 3 dX7_goDay_133 rfl ?_
      refine j_iload C 9 dX7_goDay_134 rfl ?_
      refine j_wi C (fun H locs ls hP hD hS hl => run_V (Cn := "") (As := [.ref (q 27), .int x8]) (st := [.int y22, .int (u 27 1), .ref (q 27)]) C mf_X7_fineOf 2 (kX_X7_fineOf_27 l D cI cZ ad q N h) q_454 (by decide) rfl rfl rfl rfl ⟨rfl, rfl, by decide, by decide⟩ (Nat.le_of_ble_eq_true rfl) dX7_goDay_136 hP hD hS hl) (fun r24 u25 h => ?_)
      refine j_imul C dX7_goDay_139 ?_
      refine j_goto C 144 dX7_goDay_140 (by decide) ?_
      refine j_sub (lv' := [(0, .ref (q 2)), (1, .ref (q 27)), (2, .int x2), (3, .int x3), (5, .int x5), (6, .int x6), (7, .int x7), (8, .int x8), (10, .int s0)]) [2, 3, 4, 5, 6, 7, 8, 9, 1] rfl ?_
      exact tX7_goDay_b144_27 l D cI cZ ad q N C (hro43) _ _ _ _ _ _ _ _ _ _ h
set_option maxRecDepth 100000 in
set_option maxHeartbeats 4000000 in
theorem tX7_goDay_b43_27 (l : Launch) (D : va_G) (cI cZ : ClassId) (ad q : Nat → Nat) (N : Nat) {p : Program} {e : Env} {s : State} {m : MethodId} {args : Array Value} {below : List Frame} {meth : Method} {c : Code} {K : Int32 → MM → Prop} (C : CX p s m args meth c cX7_goDay 12 RX7 (some .int) D cI cZ ad (AJ 72 q s.heap.size)) : ∀ (n : Nat) (x2 : Int32) (x3 : Int32) (x5 : Int32) (x6 : Int32) (x7 : Int32) (x8 : Int32) (u : MM), wX7_goDay_b43 N K 27 n x2 x3 x5 x6 x7 x8 u → JX p l e (rr 4 93) s m args below meth c D (AJ 72 q s.heap.size) 12 (MQ below ((QI D 72 q (entC q cI cZ) K) (AJ 72 q s.heap.size)) args s 0 0 (AJ 72 q s.heap.size)) 72 q (entC q cI cZ) u 43 [(0, .ref (q 2)), (1, .ref (q 27)), (2, .int x2), (3, .int x3), (5, .int x5), (6, .int x6), (7, .int x7), (8, .int x8)] [] := by
  intro n
  induction n with
  | zero => intro x2 x3 x5 x6 x7 x8 u h; exact h.elim
  | succ n ih =>
    intro x2 x3 x5 x6 x7 x8 u h
    refine j_iload C 7 dX7_goDay_43 rfl ?_
    refine j_aload_n C 0 dX7_goDay_45 rfl ?_
    refine j_get C 2 0 (ly_X7 C.2.2.2.2.2.2.2.1.1) q_165 rfl rfl (by decide) rfl rfl (by decide) rfl dX7_goDay_46 ?_
    refine j_getN C 10 3 (ly_X5 C.2.2.2.2.2.2.2.1.1) q_155 rfl rfl (by decide) rfl rfl (by decide) rfl dX7_goDay_49 ?_
    refine j_getN C 21 0 (ly_X2 C.2.2.2.2.2.2.2.1.1) q_87 rfl rfl (by decide) rfl rfl (by decide) rfl dX7_goDay_52 ?_
    refine j_icmp_ge C 182 dX7_goDay_55 (by decide) (fun c7 => ?_) (fun c7 => ?_)
    · have h := h.1 c7
      refine j_aload_n C 1 dX7_goDay_182 rfl ?_
      refine j_dup C dX7_goDay_183 rfl ?_
      refine j_getN C 27 3 (ly_X9 C.2.2.2.2.2.2.2.1.1) q_121 rfl rfl (by decide) rfl rfl (by decide) rfl dX7_goDay_184 ?_
      refine j_iload C 4 dX7_goDay_187 rfl ?_
      refine j_ior C dX7_goDay_189 ?_
      refine j_putN C 27 3 (ly_X9 C.2.2.2.2.2.2.2.1.1) q_121 rfl rfl (by decide) rfl rfl (by decide) tyX9_ok nmX9 rfl rfl ⟨rfl, rfl⟩ (Nat.le_of_ble_eq_true rfl) rfl dX7_goDay_190 ?_
      refine j_nmu (fun u8 eu8 => ?_)
      have h := h u8 eu8
      refine j_aload_n C 1 dX7_goDay_193 rfl ?_
      refine j_dup C dX7_goDay_194 rfl ?_
      refine j_getN C 27 2 (ly_X9 C.2.2.2.2.2.2.2.1.1) q_116 rfl rfl (by decide) rfl rfl (by decide) rfl dX7_goDay_195 ?_
      refine j_iload C 6 dX7_goDay_198 rfl ?_
      refine j_ior C dX7_goDay_200 ?_
      refine j_putN C 27 2 (ly_X9 C.2.2.2.2.2.2.2.1.1) q_116 rfl rfl (by decide) rfl rfl (by decide) tyX9_ok nmX9 rfl rfl ⟨rfl, rfl⟩ (Nat.le_of_ble_eq_true rfl) rfl dX7_goDay_201 ?_
      refine j_nmu (fun u9 eu9 => ?_)
      have h := h u9 eu9
      refine j_aload_n C 1 dX7_goDay_204 rfl ?_
      refine j_dup C dX7_goDay_205 rfl ?_
      refine j_getN C 27 0 (ly_X9 C.2.2.2.2.2.2.2.1.1) q_109 rfl rfl (by decide) rfl rfl (by decide) rfl dX7_goDay_206 ?_
      refine j_iconst (v := 1) C dX7_goDay_209 (by decide) ?_
      refine j_iadd C dX7_goDay_210 ?_
      refine j_putN C 27 0 (ly_X9 C.2.2.2.2.2.2.2.1.1) q_109 rfl rfl (by decide) rfl rfl (by decide) tyX9_ok nmX9 rfl rfl ⟨rfl, rfl⟩ (Nat.le_of_ble_eq_true rfl) rfl dX7_goDay_211 ?_
      refine j_nmu (fun u10 eu10 => ?_)
      have h := h u10 eu10
      refine j_iload C 6 dX7_goDay_214 rfl ?_
      refine j_ui C (fun H locs ls hP hD => run_S (As := [.int x7]) (st := []) C mf_J6_bitCount_0f7a4 (kX_J6_bitCount_0f7a4 l D cI cZ ad q N h) q_453 rfl rfl ⟨rfl, rfl, by decide, by decide⟩ (Nat.le_of_ble_eq_true rfl) dX7_goDay_216 hP hD) (fun r11 _ h => ?_)
      exact j_iret C dX7_goDay_219 h
    · have h := h.2 c7
      refine j_iload C 4 dX7_goDay_58 rfl ?_
      refine j_iload C 7 dX7_goDay_60 rfl ?_
      refine j_ui C (fun H locs ls hP hD => run_SN (As := [.int x5, .int x8]) (st := []) C mf_X10_hasBit (kX_X10_hasBit l D cI cZ ad q N h) q_374 rfl rfl ⟨rfl, rfl, by decide, by decide⟩ (Nat.le_of_ble_eq_true rfl) dX7_goDay_62 hP hD) (fun r12 _ h => ?_)
      refine j_if_eq C 176 dX7_goDay_65 (by decide) (fun c13 => ?_) (fun c13 => ?_)
      · have h := h.1 c13
        exact tX7_goDay_b176_27 l D cI cZ ad q N C ih _ _ _ _ _ _ _ h
      · have h := h.2 c13
        refine j_aload_n C 0 dX7_goDay_68 rfl ?_
        refine j_aload_n C 1 dX7_goDay_69 rfl ?_
        refine j_iload C 7 dX7_goDay_70 rfl ?_
        refine j_wi C (fun H locs ls hP hD hS hl => run_V (Cn := "") (As := [.ref (q 27), .int x8]) (st := []) C mf_X7_askedOf 2 (kX_X7_askedOf_27 l D cI cZ ad q N h) q_450 (by decide) rfl rfl rfl rfl ⟨rfl, rfl, by decide, by decide⟩ (Nat.le_of_ble_eq_true rfl) dX7_goDay_72 hP hD hS hl) (fun r14 u15 h => ?_)
        refine j_istore (lv' := [(9, .int r14), (0, .ref (q 2)), (1, .ref (q 27)), (2, .int x2), (3, .int x3), (5, .int x5), (6, .int x6), (7, .int x7), (8, .int x8)]) C dX7_goDay_75 (by decide) rfl ?_
        refine j_iload C 8 dX7_goDay_77 rfl ?_
        refine j_iload_n C 3 dX7_goDay_79 rfl ?_
        refine j_icmp_ne C 87 dX7_goDay_80 (by decide) (fun c16 => ?_) (fun c16 => ?_)
        · have h := h.1 c16
          refine j_aload_n C 1 dX7_goDay_87 rfl ?_
          refine j_get C 2 0 (ly_X7 C.2.2.2.2.2.2.2.1.1) q_165 rfl rfl (by decide) rfl rfl (by decide) rfl dX7_goDay_88 ?_
          refine j_getN C 10 3 (ly_X5 C.2.2.2.2.2.2.2.1.1) q_155 rfl rfl (by decide) rfl rfl (by decide) rfl dX7_goDay_91 ?_
          refine j_iload C 8 dX7_goDay_94 rfl ?_
          refine j_aload_n C 1 dX7_goDay_96 rfl ?_
          refine j_aload_n C 2 dX7_goDay_97 rfl ?_
          refine j_iload C 8 dX7_goDay_98 rfl ?_
          refine j_wi C (fun H locs ls hP hD hS hl => run_V (Cn := "") (As := [.ref (q 27), .int x8]) (st := [.int x8, .ref (q 21)]) C mf_X7_mayOf 2 (kX_X7_mayOf_27 l D cI cZ ad q N h) q_451 (by decide) rfl rfl rfl rfl ⟨rfl, rfl, by decide, by decide⟩ (Nat.le_of_ble_eq_true rfl) dX7_goDay_100 hP hD hS hl) (fun r17 u18 h => ?_)
          refine j_iload C 0 dX7_goDay_103 rfl ?_
          refine j_wi C (fun H locs ls hP hD hS hl => run_VN (Cn := "") (As := [.int x8, .int r17, .int r14]) (st := []) C mf_X2_pick 21 (kX_X2_pick l D cI cZ ad q N h) q_452 (by decide) rfl rfl rfl rfl ⟨rfl, rfl, by decide, by decide⟩ (Nat.le_of_ble_eq_true rfl) dX7_goDay_105 hP hD hS hl) (fun r19 u20 h => ?_)
          refine j_sub (lv' := [(0, .ref (q 2)), (1, .ref (q 27)), (2, .int x2), (3, .int x3), (5, .int x5), (6, .int x6), (7, .int x7), (8, .int x8), (9, .int r14)]) [1, 2, 3, 4, 5, 6, 7, 8, 0] rfl ?_
          exact tX7_goDay_b108_27 l D cI cZ ad q N C ih _ _ _ _ _ _ _ _ _ h
        · have h := h.2 c16
          refine j_iload_n C 4 dX7_goDay_83 rfl ?_
          refine j_goto C 108 dX7_goDay_84 (by decide) ?_
          refine j_sub (lv' := [(0, .ref (q 2)), (1, .ref (q 27)), (2, .int x2), (3, .int x3), (5, .int x5), (6, .int x6), (7, .int x7), (8, .int x8), (9, .int r14)]) [1, 2, 3, 4, 5, 6, 7, 8, 0] rfl ?_
          exact tX7_goDay_b108_27 l D cI cZ ad q N C ih _ _ _ _ _ _ _ _ _ h
set_option maxRecDepth 100000 in
set_option maxHeartbeats 4000000 in
theorem tX7_goDay_b34_27 (l : Launch) (D : va_G) (cI cZ : ClassId) (ad q : Nat → Nat) (N : Nat) {p : Program} {e : Env} {s : State} {m : MethodId} {args : Array Value} {below : List Frame} {meth : Method} {c : Code} {K : Int32 → MM → Prop} (C : CX p s m args meth c cX7_goDay 12 RX7 (some .int) D cI cZ ad (AJ 72 q s.heap.size)) : ∀ (x2 : Int32) (x3 : Int32) (x5 : Int32) (s0 : Int32) (s1 : Int32) (u : MM), wX7_goDay_b34 N K 27 x2 x3 x5 s0 s1 u → JX p l e (rr 4 93) s m args below meth c D (AJ 72 q s.heap.size) 12 (MQ below ((QI D 72 q (entC q cI cZ) K) (AJ 72 q s.heap.size)) args s 0 0 (AJ 72 q s.heap.size)) 72 q (entC q cI cZ) u 34 [(0, .ref (q 2)), (1, .ref (q 27)), (2, .int x2), (3, .int x3), (5, .int x5)] [.int s0, .int s1] := by
    intro x2 x3 x5 s0 s1 u h
    refine j_ior C dX7_goDay_34 ?_
    refine j_nmi (fun y6 ey6 => ?_)
    have h := h y6 ey6
    refine j_istore (lv' := [(6, .int y6), (0, .ref (q 2)), (1, .ref (q 27)), (2, .int x2), (3, .int x3), (5, .int x5)]) C dX7_goDay_35 (by decide) rfl ?_
    refine j_iconst (v := 0) C dX7_goDay_37 (by decide) ?_
    refine j_istore (lv' := [(7, .int 0), (6, .int y6), (0, .ref (q 2)), (1, .ref (q 27)), (2, .int x2), (3, .int x3), (5, .int x5)]) C dX7_goDay_38 (by decide) rfl ?_
    refine j_iconst (v := 0) C dX7_goDay_40 (by decide) ?_
    refine j_istore (lv' := [(8, .int 0), (7, .int 0), (6, .int y6), (0, .ref (q 2)), (1, .ref (q 27)), (2, .int x2), (3, .int x3), (5, .int x5)]) C dX7_goDay_41 (by decide) rfl ?_
    refine j_sub (lv' := [(0, .ref (q 2)), (1, .ref (q 27)), (2, .int x2), (3, .int x3), (5, .int x5), (6, .int y6), (7, .int 0), (8, .int 0)]) [3, 4, 5, 6, 7, 2, 1, 0] rfl ?_
    exact tX7_goDay_b43_27 l D cI cZ ad q N C N _ _ _ _ _ _ _ h
set_option maxRecDepth 100000 in
set_option maxHeartbeats 4000000 in
theorem kX_X7_goDay_27 (l : Launch) (D : va_G) (cI cZ : ClassId) (ad q : Nat → Nat) (N : Nat) {x2 : Int32} {x3 : Int32} {x4 : Int32} {u : MM} {K : Int32 → MM → Prop} (h : wX7_goDay N 27 x2 x3 x4 u K) : CT l D cI cZ ad 72 q (entC q cI cZ) yX7_goDay cX7_goDay 12 (some .int) (rr 4 93) [.ref (q 2), .ref (q 27), .int x2, .int x3, .int x4] u (QI D 72 q (entC q cI cZ) K) := by
    refine ct_of (by decide +kernel) (Nat.le_of_ble_eq_true rfl) (fun p e s m args below meth c C => ?_)
    refine j_sub (lv' := [(0, .ref (q 2)), (1, .ref (q 27)), (2, .int x2), (3, .int x3), (4, .int x4)]) [0, 1, 2, 3, 4] rfl ?_
    refine j_aload_n C 1 dX7_goDay_0 rfl ?_
    refine j_wi C (fun H locs ls hP hD hS hl => run_VN (Cn := "") (As := []) (st := []) C mf_X9_yetToTell 27 (kX_X9_yetToTell_27 l D cI cZ ad q N h) q_444 (by decide) rfl rfl rfl rfl ⟨rfl, rfl, by decide, by decide⟩ (Nat.le_of_ble_eq_true rfl) dX7_goDay_1 hP hD hS hl) (fun r1 u2 h => ?_)
    refine j_istore (lv' := [(5, .int r1), (0, .ref (q 2)), (1, .ref (q 27)), (2, .int x2), (3, .int x3), (4, .int x4)]) C dX7_goDay_4 (by decide) rfl ?_
    refine j_aload_n C 1 dX7_goDay_6 rfl ?_
    refine j_get C 2 0 (ly_X7 C.2.2.2.2.2.2.2.1.1) q_165 rfl rfl (by decide) rfl rfl (by decide) rfl dX7_goDay_7 ?_
    refine j_getN C 10 3 (ly_X5 C.2.2.2.2.2.2.2.1.1) q_155 rfl rfl (by decide) rfl rfl (by decide) rfl dX7_goDay_10 ?_
    refine j_aload_n C 2 dX7_goDay_13 rfl ?_
    refine j_getN C 27 0 (ly_X9 C.2.2.2.2.2.2.2.1.1) q_109 rfl rfl (by decide) rfl rfl (by decide) rfl dX7_goDay_14 ?_
    refine j_wi C (fun H locs ls hP hD hS hl => run_VN (Cn := "") (As := [.int (u2 27 0)]) (st := []) C mf_X2_deafOn 21 (kX_X2_deafOn l D cI cZ ad q N h) q_447 (by decide) rfl rfl rfl rfl ⟨rfl, rfl, by decide, by decide⟩ (Nat.le_of_ble_eq_true rfl) dX7_goDay_17 hP hD hS hl) (fun r3 u4 h => ?_)
    refine j_iload C 5 dX7_goDay_20 rfl ?_
    refine j_iconst (v := (-1)) C dX7_goDay_22 (by decide) ?_
    refine j_icmp_ne C 30 dX7_goDay_23 (by decide) (fun c5 => ?_) (fun c5 => ?_)
    · have h := h.1 c5
      refine j_iconst (v := 1) C dX7_goDay_30 (by decide) ?_
      refine j_iload C 5 dX7_goDay_31 rfl ?_
      refine j_ishl C dX7_goDay_33 ?_
      refine j_sub (lv' := [(0, .ref (q 2)), (1, .ref (q 27)), (2, .int x2), (3, .int x3), (5, .int r1)]) [1, 2, 3, 4, 0] rfl ?_
      exact tX7_goDay_b34_27 l D cI cZ ad q N C _ _ _ _ _ _ h
    · have h := h.2 c5
      refine j_iconst (v := 0) C dX7_goDay_26 (by decide) ?_
      refine j_goto C 34 dX7_goDay_27 (by decide) ?_
      refine j_sub (lv' := [(0, .ref (q 2)), (1, .ref (q 27)), (2, .int x2), (3, .int x3), (5, .int r1)]) [1, 2, 3, 4, 0] rfl ?_
      exact tX7_goDay_b34_27 l D cI cZ ad q N C _ _ _ _ _ _ h
set_option maxRecDepth 100000 in
set_option maxHeartbeats 4000000 in
theorem tX7_goDay_b176_7 (l : Launch) (D : va_G) (cI cZ : ClassId) (ad q : Nat → Nat) (N : Nat) {p : Program} {e : Env} {s : State} {m : MethodId} {args : Array Value} {below : List Frame} {meth : Method} {c : Code} {K : Int32 → MM → Prop} (C : CX p s m args meth c cX7_goDay 12 RX7 (some .int) D cI cZ ad (AJ 72 q s.heap.size)) {ro43 : Int32 → Int32 → Int32 → Int32 → Int32 → Int32 → MM → Prop} (hro43 : ∀ (x2 : Int32) (x3 : Int32) (x5 : Int32) (x6 : Int32) (x7 : Int32) (x8 : Int32) (u : MM), ro43 x2 x3 x5 x6 x7 x8 u → JX p l e (rr 4 93) s m args below meth c D (AJ 72 q s.heap.size) 12 (MQ below ((QI D 72 q (entC q cI cZ) K) (AJ 72 q s.heap.size)) args s 0 0 (AJ 72 q s.heap.size)) 72 q (entC q cI cZ) u 43 [(0, .ref (q 2)), (1, .ref (q 7)), (2, .int x2), (3, .int x3), (5, .int x5), (6, .int x6), (7, .int x7), (8, .int x8)] []) : ∀ (x2 : Int32) (x3 : Int32) (x5 : Int32) (x6 : Int32) (x7 : Int32) (x8 : Int32) (u : MM), wX7_goDay_b176 N K 7 ro43 x2 x3 x5 x6 x7 x8 u → JX p l e (rr 4 93) s m args below meth c D (AJ 72 q s.heap.size) 12 (MQ below ((QI D 72 q (entC q cI cZ) K) (AJ 72 q s.heap.size)) args s 0 0 (AJ 72 q s.heap.size)) 72 q (entC q cI cZ) u 176 [(0, .ref (q 2)), (1, .ref (q 7)), (2, .int x2), (3, .int x3), (5, .int x5), (6, .int x6), (7, .int x7), (8, .int x8)] [] := by
    intro x2 x3 x5 x6 x7 x8 u h
    obtain ⟨y30, ey30⟩ : ∃ z : Int32, z = x8 + 1 := ⟨_, rfl⟩
    have h := h y30 ey30
    refine j_iinc (v := y30) (lv' := [(8, .int y30), (0, .ref (q 2)), (1, .ref (q 7)), (2, .int x2), (3, .int x3), (5, .int x5), (6, .int x6), (7, .int x7)]) C 7 dX7_goDay_176 rfl (by rw [ey30]; rfl) (by decide) rfl ?_
    refine j_goto C 43 dX7_goDay_179 (by decide) ?_
    refine j_sub (lv' := [(0, .ref (q 2)), (1, .ref (q 7)), (2, .int x2), (3, .int x3), (5, .int x5), (6, .int x6), (7, .int x7), (8, .int y30)]) [1, 2, 3, 4, 5, 6, 7, 0] rfl ?_
    exact hro43 _ _ _ _ _ _ _ h
set_option maxRecDepth 100000 in
set_option maxHeartbeats 4000000 in
theorem tX7_goDay_b144_7 (l : Launch) (D : va_G) (cI cZ : ClassId) (ad q : Nat → Nat) (N : Nat) {p : Program} {e : Env} {s : State} {m : MethodId} {args : Array Value} {below : List Frame} {meth : Method} {c : Code} {K : Int32 → MM → Prop} (C : CX p s m args meth c cX7_goDay 12 RX7 (some .int) D cI cZ ad (AJ 72 q s.heap.size)) {ro43 : Int32 → Int32 → Int32 → Int32 → Int32 → Int32 → MM → Prop} (hro43 : ∀ (x2 : Int32) (x3 : Int32) (x5 : Int32) (x6 : Int32) (x7 : Int32) (x8 : Int32) (u : MM), ro43 x2 x3 x5 x6 x7 x8 u → JX p l e (rr 4 93) s m args below meth c D (AJ 72 q s.heap.size) 12 (MQ below ((QI D 72 q (entC q cI cZ) K) (AJ 72 q s.heap.size)) args s 0 0 (AJ 72 q s.heap.size)) 72 q (entC q cI cZ) u 43 [(0, .ref (q 2)), (1, .ref (q 7)), (2, .int x2), (3, .int x3), (5, .int x5), (6, .int x6), (7, .int x7), (8, .int x8)] []) : ∀ (x2 : Int32) (x3 : Int32) (x5 : Int32) (x6 : Int32) (x7 : Int32) (x8 : Int32) (x10 : Int32) (s0 : Int32) (s1 : Int32) (u : MM), wX7_goDay_b144 N K 7 ro43 x2 x3 x5 x6 x7 x8 x10 s0 s1 u → JX p l e (rr 4 93) s m args below meth c D (AJ 72 q s.heap.size) 12 (MQ below ((QI D 72 q (entC q cI cZ) K) (AJ 72 q s.heap.size)) args s 0 0 (AJ 72 q s.heap.size)) 72 q (entC q cI cZ) u 144 [(0, .ref (q 2)), (1, .ref (q 7)), (2, .int x2), (3, .int x3), (5, .int x5), (6, .int x6), (7, .int x7), (8, .int x8), (10, .int x10)] [.int s0, .int s1, .ref (q 7)] := by
    intro x2 x3 x5 x6 x7 x8 x10 s0 s1 u h
    refine j_iadd C dX7_goDay_144 ?_
    refine j_putN C 7 1 (ly_X9 C.2.2.2.2.2.2.2.1.1) q_113 rfl rfl (by decide) rfl rfl (by decide) tyX9_ok nmX9 rfl rfl ⟨rfl, rfl⟩ (Nat.le_of_ble_eq_true rfl) rfl dX7_goDay_145 ?_
    refine j_nmu (fun u26 eu26 => ?_)
    have h := h u26 eu26
    refine j_aload_n C 0 dX7_goDay_148 rfl ?_
    refine j_aload_n C 1 dX7_goDay_149 rfl ?_
    refine j_iload C 7 dX7_goDay_150 rfl ?_
    refine j_iload C 8 dX7_goDay_152 rfl ?_
    refine j_iload C 5 dX7_goDay_154 rfl ?_
    refine j_iconst (v := (-1)) C dX7_goDay_156 (by decide) ?_
    refine j_ixor C dX7_goDay_157 ?_
    refine j_iand C dX7_goDay_158 ?_
    refine j_iload C 6 dX7_goDay_159 rfl ?_
    refine j_wv C (fun H locs ls hP hD hS hl => run_V (Cn := "") (As := [.ref (q 7), .int x8, .int (x10 &&& (x6 ^^^ ((-1) : Int32))), .int x7]) (st := []) C mf_X7_hand 2 (kX_X7_hand_7 l D cI cZ ad q N h) q_455 (by decide) rfl rfl rfl rfl ⟨rfl, rfl, by decide, by decide⟩ (Nat.le_of_ble_eq_true rfl) dX7_goDay_161 hP hD hS hl) (fun u28 h => ?_)
    refine j_iload C 6 dX7_goDay_164 rfl ?_
    refine j_iload C 8 dX7_goDay_166 rfl ?_
    refine j_iload C 5 dX7_goDay_168 rfl ?_
    refine j_iconst (v := (-1)) C dX7_goDay_170 (by decide) ?_
    refine j_ixor C dX7_goDay_171 ?_
    refine j_iand C dX7_goDay_172 ?_
    refine j_ior C dX7_goDay_173 ?_
    refine j_nmi (fun y29 ey29 => ?_)
    have h := h y29 ey29
    refine j_istore (lv' := [(7, .int y29), (0, .ref (q 2)), (1, .ref (q 7)), (2, .int x2), (3, .int x3), (5, .int x5), (6, .int x6), (8, .int x8), (10, .int x10)]) C dX7_goDay_174 (by decide) rfl ?_
    refine j_sub (lv' := [(0, .ref (q 2)), (1, .ref (q 7)), (2, .int x2), (3, .int x3), (5, .int x5), (6, .int x6), (7, .int y29), (8, .int x8)]) [1, 2, 3, 4, 5, 6, 0, 7] rfl ?_
    exact tX7_goDay_b176_7 l D cI cZ ad q N C (hro43) _ _ _ _ _ _ _ h
set_option maxRecDepth 100000 in
set_option maxHeartbeats 4000000 in
theorem tX7_goDay_b108_7 (l : Launch) (D : va_G) (cI cZ : ClassId) (ad q : Nat → Nat) (N : Nat) {p : Program} {e : Env} {s : State} {m : MethodId} {args : Array Value} {below : List Frame} {meth : Method} {c : Code} {K : Int32 → MM → Prop} (C : CX p s m args meth c cX7_goDay 12 RX7 (some .int) D cI cZ ad (AJ 72 q s.heap.size)) {ro43 : Int32 → Int32 → Int32 → Int32 → Int32 → Int32 → MM → Prop} (hro43 : ∀ (x2 : Int32) (x3 : Int32) (x5 : Int32) (x6 : Int32) (x7 : Int32) (x8 : Int32) (u : MM), ro43 x2 x3 x5 x6 x7 x8 u → JX p l e (rr 4 93) s m args below meth c D (AJ 72 q s.heap.size) 12 (MQ below ((QI D 72 q (entC q cI cZ) K) (AJ 72 q s.heap.size)) args s 0 0 (AJ 72 q s.heap.size)) 72 q (entC q cI cZ) u 43 [(0, .ref (q 2)), (1, .ref (q 7)), (2, .int x2), (3, .int x3), (5, .int x5), (6, .int x6), (7, .int x7), (8, .int x8)] []) : ∀ (x2 : Int32) (x3 : Int32) (x5 : Int32) (x6 : Int32) (x7 : Int32) (x8 : Int32) (x9 : Int32) (s0 : Int32) (u : MM), wX7_goDay_b108 N K 7 ro43 x2 x3 x5 x6 x7 x8 x9 s0 u → JX p l e (rr 4 93) s m args below meth c D (AJ 72 q s.heap.size) 12 (MQ below ((QI D 72 q (entC q cI cZ) K) (AJ 72 q s.heap.size)) args s 0 0 (AJ 72 q s.heap.size)) 72 q (entC q cI cZ) u 108 [(0, .ref (q 2)), (1, .ref (q 7)), (2, .int x2), (3, .int x3), (5, .int x5), (6, .int x6), (7, .int x7), (8, .int x8), (9, .int x9)] [.int s0] := by
    intro x2 x3 x5 x6 x7 x8 x9 s0 u h
    refine j_istore (lv' := [(10, .int s0), (0, .ref (q 2)), (1, .ref (q 7)), (2, .int x2), (3, .int x3), (5, .int x5), (6, .int x6), (7, .int x7), (8, .int x8), (9, .int x9)]) C dX7_goDay_108 (by decide) rfl ?_
    refine j_iload C 9 dX7_goDay_110 rfl ?_
    refine j_iload C 0 dX7_goDay_112 rfl ?_
    refine j_ui C (fun H locs ls hP hD => run_S (As := [.int s0]) (st := [.int x9]) C mf_J6_bitCount_0f7a4 (kX_J6_bitCount_0f7a4 l D cI cZ ad q N h) q_453 rfl rfl ⟨rfl, rfl, by decide, by decide⟩ (Nat.le_of_ble_eq_true rfl) dX7_goDay_114 hP hD) (fun r21 _ h => ?_)
    refine j_isub C dX7_goDay_117 ?_
    refine j_nmi (fun y22 ey22 => ?_)
    have h := h y22 ey22
    refine j_istore (lv' := [(11, .int y22), (10, .int s0), (0, .ref (q 2)), (1, .ref (q 7)), (2, .int x2), (3, .int x3), (5, .int x5), (6, .int x6), (7, .int x7), (8, .int x8), (9, .int x9)]) C dX7_goDay_118 (by decide) rfl ?_
    refine j_aload_n C 3 dX7_goDay_120 rfl ?_
    refine j_dup C dX7_goDay_121 rfl ?_
    refine j_getN C 7 1 (ly_X9 C.2.2.2.2.2.2.2.1.1) q_113 rfl rfl (by decide) rfl rfl (by decide) rfl dX7_goDay_122 ?_
    refine j_iload C 0 dX7_goDay_125 rfl ?_
    refine j_if_le C 143 dX7_goDay_127 (by decide) (fun c23 => ?_) (fun c23 => ?_)
    · have h := h.1 c23
      refine j_iconst (v := 0) C dX7_goDay_143 (by decide) ?_
      refine j_sub (lv' := [(0, .ref (q 2)), (1, .ref (q 7)), (2, .int x2), (3, .int x3), (5, .int x5), (6, .int x6), (7, .int x7), (8, .int x8), (10, .int s0)]) [2, 3, 4, 5, 6, 7, 8, 9, 1] rfl ?_
      exact tX7_goDay_b144_7 l D cI cZ ad q N C (hro43) _ _ _ _ _ _ _ _ _ _ h
    · have h := h.2 c23
      refine j_iload C 0 dX7_goDay_130 rfl ?_
      refine j_aload_n C 2 dX7_goDay_132 rfl ?_
      refine j_aload_n C 3 dX7_goDay_133 rfl ?_
      refine j_iload C 9 dX7_goDay_134 rfl ?_
      refine j_wi C (fun H locs ls hP hD hS hl => run_V (Cn := "") (As := [.ref (q 7), .int x8]) (st := [.int y22, .int (u 7 1), .ref (q 7)]) C mf_X7_fineOf 2 (kX_X7_fineOf_7 l D cI cZ ad q N h) q_454 (by decide) rfl rfl rfl rfl ⟨rfl, rfl, by decide, by decide⟩ (Nat.le_of_ble_eq_true rfl) dX7_goDay_136 hP hD hS hl) (fun r24 u25 h => ?_)
      refine j_imul C dX7_goDay_139 ?_
      refine j_goto C 144 dX7_goDay_140 (by decide) ?_
      refine j_sub (lv' := [(0, .ref (q 2)), (1, .ref (q 7)), (2, .int x2), (3, .int x3), (5, .int x5), (6, .int x6), (7, .int x7), (8, .int x8), (10, .int s0)]) [2, 3, 4, 5, 6, 7, 8, 9, 1] rfl ?_
      exact tX7_goDay_b144_7 l D cI cZ ad q N C (hro43) _ _ _ _ _ _ _ _ _ _ h
set_option maxRecDepth 100000 in
set_option maxHeartbeats 4000000 in
theorem tX7_goDay_b43_7 (l : Launch) (D : va_G) (cI cZ : ClassId) (ad q : Nat → Nat) (N : Nat) {p : Program} {e : Env} {s : State} {m : MethodId} {args : Array Value} {below : List Frame} {meth : Method} {c : Code} {K : Int32 → MM → Prop} (C : CX p s m args meth c cX7_goDay 12 RX7 (some .int) D cI cZ ad (AJ 72 q s.heap.size)) : ∀ (n : Nat) (x2 : Int32) (x3 : Int32) (x5 : Int32) (x6 : Int32) (x7 : Int32) (x8 : Int32) (u : MM), wX7_goDay_b43 N K 7 n x2 x3 x5 x6 x7 x8 u → JX p l e (rr 4 93) s m args below meth c D (AJ 72 q s.heap.size) 12 (MQ below ((QI D 72 q (entC q cI cZ) K) (AJ 72 q s.heap.size)) args s 0 0 (AJ 72 q s.heap.size)) 72 q (entC q cI cZ) u 43 [(0, .ref (q 2)), (1, .ref (q 7)), (2, .int x2), (3, .int x3), (5, .int x5), (6, .int x6), (7, .int x7), (8, .int x8)] [] := by
  intro n
  induction n with
  | zero => intro x2 x3 x5 x6 x7 x8 u h; exact h.elim
  | succ n ih =>
    intro x2 x3 x5 x6 x7 x8 u h
    refine j_iload C 7 dX7_goDay_43 rfl ?_
    refine j_aload_n C 0 dX7_goDay_45 rfl ?_
    refine j_get C 2 0 (ly_X7 C.2.2.2.2.2.2.2.1.1) q_165 rfl rfl (by decide) rfl rfl (by decide) rfl dX7_goDay_46 ?_
    refine j_getN C 10 3 (ly_X5 C.2.2.2.2.2.2.2.1.1) q_155 rfl rfl (by decide) rfl rfl (by decide) rfl dX7_goDay_49 ?_
    refine j_getN C 21 0 (ly_X2 C.2.2.2.2.2.2.2.1.1) q_87 rfl rfl (by decide) rfl rfl (by decide) rfl dX7_goDay_52 ?_
    refine j_icmp_ge C 182 dX7_goDay_55 (by decide) (fun c7 => ?_) (fun c7 => ?_)
    · have h := h.1 c7
      refine j_aload_n C 1 dX7_goDay_182 rfl ?_
      refine j_dup C dX7_goDay_183 rfl ?_
      refine j_getN C 7 3 (ly_X9 C.2.2.2.2.2.2.2.1.1) q_121 rfl rfl (by decide) rfl rfl (by decide) rfl dX7_goDay_184 ?_
      refine j_iload C 4 dX7_goDay_187 rfl ?_
      refine j_ior C dX7_goDay_189 ?_
      refine j_putN C 7 3 (ly_X9 C.2.2.2.2.2.2.2.1.1) q_121 rfl rfl (by decide) rfl rfl (by decide) tyX9_ok nmX9 rfl rfl ⟨rfl, rfl⟩ (Nat.le_of_ble_eq_true rfl) rfl dX7_goDay_190 ?_
      refine j_nmu (fun u8 eu8 => ?_)
      have h := h u8 eu8
      refine j_aload_n C 1 dX7_goDay_193 rfl ?_
      refine j_dup C dX7_goDay_194 rfl ?_
      refine j_getN C 7 2 (ly_X9 C.2.2.2.2.2.2.2.1.1) q_116 rfl rfl (by decide) rfl rfl (by decide) rfl dX7_goDay_195 ?_
      refine j_iload C 6 dX7_goDay_198 rfl ?_
      refine j_ior C dX7_goDay_200 ?_
      refine j_putN C 7 2 (ly_X9 C.2.2.2.2.2.2.2.1.1) q_116 rfl rfl (by decide) rfl rfl (by decide) tyX9_ok nmX9 rfl rfl ⟨rfl, rfl⟩ (Nat.le_of_ble_eq_true rfl) rfl dX7_goDay_201 ?_
      refine j_nmu (fun u9 eu9 => ?_)
      have h := h u9 eu9
      refine j_aload_n C 1 dX7_goDay_204 rfl ?_
      refine j_dup C dX7_goDay_205 rfl ?_
      refine j_getN C 7 0 (ly_X9 C.2.2.2.2.2.2.2.1.1) q_109 rfl rfl (by decide) rfl rfl (by decide) rfl dX7_goDay_206 ?_
      refine j_iconst (v := 1) C dX7_goDay_209 (by decide) ?_
      refine j_iadd C dX7_goDay_210 ?_
      refine j_putN C 7 0 (ly_X9 C.2.2.2.2.2.2.2.1.1) q_109 rfl rfl (by decide) rfl rfl (by decide) tyX9_ok nmX9 rfl rfl ⟨rfl, rfl⟩ (Nat.le_of_ble_eq_true rfl) rfl dX7_goDay_211 ?_
      refine j_nmu (fun u10 eu10 => ?_)
      have h := h u10 eu10
      refine j_iload C 6 dX7_goDay_214 rfl ?_
      refine j_ui C (fun H locs ls hP hD => run_S (As := [.int x7]) (st := []) C mf_J6_bitCount_0f7a4 (kX_J6_bitCount_0f7a4 l D cI cZ ad q N h) q_453 rfl rfl ⟨rfl, rfl, by decide, by decide⟩ (Nat.le_of_ble_eq_true rfl) dX7_goDay_216 hP hD) (fun r11 _ h => ?_)
      exact j_iret C dX7_goDay_219 h
    · have h := h.2 c7
      refine j_iload C 4 dX7_goDay_58 rfl ?_
      refine j_iload C 7 dX7_goDay_60 rfl ?_
      refine j_ui C (fun H locs ls hP hD => run_SN (As := [.int x5, .int x8]) (st := []) C mf_X10_hasBit (kX_X10_hasBit l D cI cZ ad q N h) q_374 rfl rfl ⟨rfl, rfl, by decide, by decide⟩ (Nat.le_of_ble_eq_true rfl) dX7_goDay_62 hP hD) (fun r12 _ h => ?_)
      refine j_if_eq C 176 dX7_goDay_65 (by decide) (fun c13 => ?_) (fun c13 => ?_)
      · have h := h.1 c13
        exact tX7_goDay_b176_7 l D cI cZ ad q N C ih _ _ _ _ _ _ _ h
      · have h := h.2 c13
        refine j_aload_n C 0 dX7_goDay_68 rfl ?_
        refine j_aload_n C 1 dX7_goDay_69 rfl ?_
        refine j_iload C 7 dX7_goDay_70 rfl ?_
        refine j_wi C (fun H locs ls hP hD hS hl => run_V (Cn := "") (As := [.ref (q 7), .int x8]) (st := []) C mf_X7_askedOf 2 (kX_X7_askedOf_7 l D cI cZ ad q N h) q_450 (by decide) rfl rfl rfl rfl ⟨rfl, rfl, by decide, by decide⟩ (Nat.le_of_ble_eq_true rfl) dX7_goDay_72 hP hD hS hl) (fun r14 u15 h => ?_)
        refine j_istore (lv' := [(9, .int r14), (0, .ref (q 2)), (1, .ref (q 7)), (2, .int x2), (3, .int x3), (5, .int x5), (6, .int x6), (7, .int x7), (8, .int x8)]) C dX7_goDay_75 (by decide) rfl ?_
        refine j_iload C 8 dX7_goDay_77 rfl ?_
        refine j_iload_n C 3 dX7_goDay_79 rfl ?_
        refine j_icmp_ne C 87 dX7_goDay_80 (by decide) (fun c16 => ?_) (fun c16 => ?_)
        · have h := h.1 c16
          refine j_aload_n C 1 dX7_goDay_87 rfl ?_
          refine j_get C 2 0 (ly_X7 C.2.2.2.2.2.2.2.1.1) q_165 rfl rfl (by decide) rfl rfl (by decide) rfl dX7_goDay_88 ?_
          refine j_getN C 10 3 (ly_X5 C.2.2.2.2.2.2.2.1.1) q_155 rfl rfl (by decide) rfl rfl (by decide) rfl dX7_goDay_91 ?_
          refine j_iload C 8 dX7_goDay_94 rfl ?_
          refine j_aload_n C 1 dX7_goDay_96 rfl ?_
          refine j_aload_n C 2 dX7_goDay_97 rfl ?_
          refine j_iload C 8 dX7_goDay_98 rfl ?_
          refine j_wi C (fun H locs ls hP hD hS hl => run_V (Cn := "") (As := [.ref (q 7), .int x8]) (st := [.int x8, .ref (q 21)]) C mf_X7_mayOf 2 (kX_X7_mayOf_7 l D cI cZ ad q N h) q_451 (by decide) rfl rfl rfl rfl ⟨rfl, rfl, by decide, by decide⟩ (Nat.le_of_ble_eq_true rfl) dX7_goDay_100 hP hD hS hl) (fun r17 u18 h => ?_)
          refine j_iload C 0 dX7_goDay_103 rfl ?_
          refine j_wi C (fun H locs ls hP hD hS hl => run_VN (Cn := "") (As := [.int x8, .int r17, .int r14]) (st := []) C mf_X2_pick 21 (kX_X2_pick l D cI cZ ad q N h) q_452 (by decide) rfl rfl rfl rfl ⟨rfl, rfl, by decide, by decide⟩ (Nat.le_of_ble_eq_true rfl) dX7_goDay_105 hP hD hS hl) (fun r19 u20 h => ?_)
          refine j_sub (lv' := [(0, .ref (q 2)), (1, .ref (q 7)), (2, .int x2), (3, .int x3), (5, .int x5), (6, .int x6), (7, .int x7), (8, .int x8), (9, .int r14)]) [1, 2, 3, 4, 5, 6, 7, 8, 0] rfl ?_
          exact tX7_goDay_b108_7 l D cI cZ ad q N C ih _ _ _ _ _ _ _ _ _ h
        · have h := h.2 c16
          refine j_iload_n C 4 dX7_goDay_83 rfl ?_
          refine j_goto C 108 dX7_goDay_84 (by decide) ?_
          refine j_sub (lv' := [(0, .ref (q 2)), (1, .ref (q 7)), (2, .int x2), (3, .int x3), (5, .int x5), (6, .int x6), (7, .int x7), (8, .int x8), (9, .int r14)]) [1, 2, 3, 4, 5, 6, 7, 8, 0] rfl ?_
          exact tX7_goDay_b108_7 l D cI cZ ad q N C ih _ _ _ _ _ _ _ _ _ h
set_option maxRecDepth 100000 in
set_option maxHeartbeats 4000000 in
theorem tX7_goDay_b34_7 (l : Launch) (D : va_G) (cI cZ : ClassId) (ad q : Nat → Nat) (N : Nat) {p : Program} {e : Env} {s : State} {m : MethodId} {args : Array Value} {below : List Frame} {meth : Method} {c : Code} {K : Int32 → MM → Prop} (C : CX p s m args meth c cX7_goDay 12 RX7 (some .int) D cI cZ ad (AJ 72 q s.heap.size)) : ∀ (x2 : Int32) (x3 : Int32) (x5 : Int32) (s0 : Int32) (s1 : Int32) (u : MM), wX7_goDay_b34 N K 7 x2 x3 x5 s0 s1 u → JX p l e (rr 4 93) s m args below meth c D (AJ 72 q s.heap.size) 12 (MQ below ((QI D 72 q (entC q cI cZ) K) (AJ 72 q s.heap.size)) args s 0 0 (AJ 72 q s.heap.size)) 72 q (entC q cI cZ) u 34 [(0, .ref (q 2)), (1, .ref (q 7)), (2, .int x2), (3, .int x3), (5, .int x5)] [.int s0, .int s1] := by
    intro x2 x3 x5 s0 s1 u h
    refine j_ior C dX7_goDay_34 ?_
    refine j_nmi (fun y6 ey6 => ?_)
    have h := h y6 ey6
    refine j_istore (lv' := [(6, .int y6), (0, .ref (q 2)), (1, .ref (q 7)), (2, .int x2), (3, .int x3), (5, .int x5)]) C dX7_goDay_35 (by decide) rfl ?_
    refine j_iconst (v := 0) C dX7_goDay_37 (by decide) ?_
    refine j_istore (lv' := [(7, .int 0), (6, .int y6), (0, .ref (q 2)), (1, .ref (q 7)), (2, .int x2), (3, .int x3), (5, .int x5)]) C dX7_goDay_38 (by decide) rfl ?_
    refine j_iconst (v := 0) C dX7_goDay_40 (by decide) ?_
    refine j_istore (lv' := [(8, .int 0), (7, .int 0), (6, .int y6), (0, .ref (q 2)), (1, .ref (q 7)), (2, .int x2), (3, .int x3), (5, .int x5)]) C dX7_goDay_41 (by decide) rfl ?_
    refine j_sub (lv' := [(0, .ref (q 2)), (1, .ref (q 7)), (2, .int x2), (3, .int x3), (5, .int x5), (6, .int y6), (7, .int 0), (8, .int 0)]) [3, 4, 5, 6, 7, 2, 1, 0] rfl ?_
    exact tX7_goDay_b43_7 l D cI cZ ad q N C N _ _ _ _ _ _ _ h
set_option maxRecDepth 100000 in
set_option maxHeartbeats 4000000 in
theorem kX_X7_goDay_7 (l : Launch) (D : va_G) (cI cZ : ClassId) (ad q : Nat → Nat) (N : Nat) {x2 : Int32} {x3 : Int32} {x4 : Int32} {u : MM} {K : Int32 → MM → Prop} (h : wX7_goDay N 7 x2 x3 x4 u K) : CT l D cI cZ ad 72 q (entC q cI cZ) yX7_goDay cX7_goDay 12 (some .int) (rr 4 93) [.ref (q 2), .ref (q 7), .int x2, .int x3, .int x4] u (QI D 72 q (entC q cI cZ) K) := by
    refine ct_of (by decide +kernel) (Nat.le_of_ble_eq_true rfl) (fun p e s m args below meth c C => ?_)
    refine j_sub (lv' := [(0, .ref (q 2)), (1, .ref (q 7)), (2, .int x2), (3, .int x3), (4, .int x4)]) [0, 1, 2, 3, 4] rfl ?_
    refine j_aload_n C 1 dX7_goDay_0 rfl ?_
    refine j_wi C (fun H locs ls hP hD hS hl => run_VN (Cn := "") (As := []) (st := []) C mf_X9_yetToTell 7 (kX_X9_yetToTell_7 l D cI cZ ad q N h) q_444 (by decide) rfl rfl rfl rfl ⟨rfl, rfl, by decide, by decide⟩ (Nat.le_of_ble_eq_true rfl) dX7_goDay_1 hP hD hS hl) (fun r1 u2 h => ?_)
    refine j_istore (lv' := [(5, .int r1), (0, .ref (q 2)), (1, .ref (q 7)), (2, .int x2), (3, .int x3), (4, .int x4)]) C dX7_goDay_4 (by decide) rfl ?_
    refine j_aload_n C 1 dX7_goDay_6 rfl ?_
    refine j_get C 2 0 (ly_X7 C.2.2.2.2.2.2.2.1.1) q_165 rfl rfl (by decide) rfl rfl (by decide) rfl dX7_goDay_7 ?_
    refine j_getN C 10 3 (ly_X5 C.2.2.2.2.2.2.2.1.1) q_155 rfl rfl (by decide) rfl rfl (by decide) rfl dX7_goDay_10 ?_
    refine j_aload_n C 2 dX7_goDay_13 rfl ?_
    refine j_getN C 7 0 (ly_X9 C.2.2.2.2.2.2.2.1.1) q_109 rfl rfl (by decide) rfl rfl (by decide) rfl dX7_goDay_14 ?_
    refine j_wi C (fun H locs ls hP hD hS hl => run_VN (Cn := "") (As := [.int (u2 7 0)]) (st := []) C mf_X2_deafOn 21 (kX_X2_deafOn l D cI cZ ad q N h) q_447 (by decide) rfl rfl rfl rfl ⟨rfl, rfl, by decide, by decide⟩ (Nat.le_of_ble_eq_true rfl) dX7_goDay_17 hP hD hS hl) (fun r3 u4 h => ?_)
    refine j_iload C 5 dX7_goDay_20 rfl ?_
    refine j_iconst (v := (-1)) C dX7_goDay_22 (by decide) ?_
    refine j_icmp_ne C 30 dX7_goDay_23 (by decide) (fun c5 => ?_) (fun c5 => ?_)
    · have h := h.1 c5
      refine j_iconst (v := 1) C dX7_goDay_30 (by decide) ?_
      refine j_iload C 5 dX7_goDay_31 rfl ?_
      refine j_ishl C dX7_goDay_33 ?_
      refine j_sub (lv' := [(0, .ref (q 2)), (1, .ref (q 7)), (2, .int x2), (3, .int x3), (5, .int r1)]) [1, 2, 3, 4, 0] rfl ?_
      exact tX7_goDay_b34_7 l D cI cZ ad q N C _ _ _ _ _ _ h
    · have h := h.2 c5
      refine j_iconst (v := 0) C dX7_goDay_26 (by decide) ?_
      refine j_goto C 34 dX7_goDay_27 (by decide) ?_
      refine j_sub (lv' := [(0, .ref (q 2)), (1, .ref (q 7)), (2, .int x2), (3, .int x3), (5, .int r1)]) [1, 2, 3, 4, 0] rfl ?_
      exact tX7_goDay_b34_7 l D cI cZ ad q N C _ _ _ _ _ _ h

def wX7_goOn_b3 (N : Nat) (K : Int32 → MM → Prop) : Nat → Int32 → Int32 → Int32 → Int32 → MM → Prop
  | 0, _, _, _, _, _ => False
  | n + 1, x2, x3, x4, x5, u => ((7 < x5 → (K 7 u)) ∧ (¬ 7 < x5 → (wX9_yetToTell N 7 u (fun r2 u3 => ((¬ r2 = 0 → (wX7_goDay N 7 x2 x3 x4 u3 (fun r5 u6 => (∀ y7 : Int32, y7 = x5 + 1 → (wX7_goOn_b3 N K n x2 x3 x4 y7 u6))))) ∧ (r2 = 0 → (K x5 u3)))))))
def wX7_goOn (N : Nat) (x2 : Int32) (x3 : Int32) (x4 : Int32) (u : MM) (K : Int32 → MM → Prop) : Prop := (wX7_goOn_b3 N K N x2 x3 x4 0 u)
set_option maxRecDepth 100000 in
set_option maxHeartbeats 4000000 in
theorem tX7_goOn_b3 (l : Launch) (D : va_G) (cI cZ : ClassId) (ad q : Nat → Nat) (N : Nat) {p : Program} {e : Env} {s : State} {m : MethodId} {args : Array Value} {below : List Frame} {meth : Method} {c : Code} {K : Int32 → MM → Prop} (C : CX p s m args meth c cX7_goOn 6 RX7 (some .int) D cI cZ ad (AJ 72 q s.heap.size)) : ∀ (n : Nat) (x2 : Int32) (x3 : Int32) (x4 : Int32) (x5 : Int32) (u : MM), wX7_goOn_b3 N K n x2 x3 x4 x5 u → JX p l e (rr 5 124) s m args below meth c D (AJ 72 q s.heap.size) 6 (MQ below ((QI D 72 q (entC q cI cZ) K) (AJ 72 q s.heap.size)) args s 0 0 (AJ 72 q s.heap.size)) 72 q (entC q cI cZ) u 3 [(0, .ref (q 2)), (1, .ref (q 7)), (2, .int x2), (3, .int x3), (4, .int x4), (5, .int x5)] [] := by
  intro n
  induction n with
  | zero => intro x2 x3 x4 x5 u h; exact h.elim
  | succ n ih =>
    intro x2 x3 x4 x5 u h
    refine j_iload C 5 dX7_goOn_3 rfl ?_
    refine j_bipush (v := 7) C dX7_goOn_5 (by decide) ?_
    refine j_icmp_gt C 36 dX7_goOn_7 (by decide) (fun c1 => ?_) (fun c1 => ?_)
    · have h := h.1 c1
      refine j_bipush (v := 7) C dX7_goOn_36 (by decide) ?_
      exact j_iret C dX7_goOn_38 h
    · have h := h.2 c1
      refine j_aload_n C 1 dX7_goOn_10 rfl ?_
      refine j_wi C (fun H locs ls hP hD hS hl => run_VN (Cn := "") (As := []) (st := []) C mf_X9_yetToTell 7 (kX_X9_yetToTell_7 l D cI cZ ad q N h) q_444 (by decide) rfl rfl rfl rfl ⟨rfl, rfl, by decide, by decide⟩ (Nat.le_of_ble_eq_true rfl) dX7_goOn_11 hP hD hS hl) (fun r2 u3 h => ?_)
      refine j_if_ne C 20 dX7_goOn_14 (by decide) (fun c4 => ?_) (fun c4 => ?_)
      · have h := h.1 c4
        refine j_aload_n C 0 dX7_goOn_20 rfl ?_
        refine j_aload_n C 1 dX7_goOn_21 rfl ?_
        refine j_iload_n C 2 dX7_goOn_22 rfl ?_
        refine j_iload_n C 3 dX7_goOn_23 rfl ?_
        refine j_iload C 4 dX7_goOn_24 rfl ?_
        refine j_wi C (fun H locs ls hP hD hS hl => run_V (Cn := "") (As := [.ref (q 7), .int x2, .int x3, .int x4]) (st := []) C mf_X7_goDay 2 (kX_X7_goDay_7 l D cI cZ ad q N h) q_484 (by decide) rfl rfl rfl rfl ⟨rfl, rfl, by decide, by decide⟩ (Nat.le_of_ble_eq_true rfl) dX7_goOn_26 hP hD hS hl) (fun r5 u6 h => ?_)
        refine j_pop C dX7_goOn_29 rfl ?_
        obtain ⟨y7, ey7⟩ : ∃ z : Int32, z = x5 + 1 := ⟨_, rfl⟩
        have h := h y7 ey7
        refine j_iinc (v := y7) (lv' := [(5, .int y7), (0, .ref (q 2)), (1, .ref (q 7)), (2, .int x2), (3, .int x3), (4, .int x4)]) C 5 dX7_goOn_30 rfl (by rw [ey7]; rfl) (by decide) rfl ?_
        refine j_goto C 3 dX7_goOn_33 (by decide) ?_
        refine j_sub (lv' := [(0, .ref (q 2)), (1, .ref (q 7)), (2, .int x2), (3, .int x3), (4, .int x4), (5, .int y7)]) [1, 2, 3, 4, 5, 0] rfl ?_
        exact ih _ _ _ _ _ h
      · have h := h.2 c4
        refine j_iload C 5 dX7_goOn_17 rfl ?_
        exact j_iret C dX7_goOn_19 h
set_option maxRecDepth 100000 in
set_option maxHeartbeats 4000000 in
theorem kX_X7_goOn (l : Launch) (D : va_G) (cI cZ : ClassId) (ad q : Nat → Nat) (N : Nat) {x2 : Int32} {x3 : Int32} {x4 : Int32} {u : MM} {K : Int32 → MM → Prop} (h : wX7_goOn N x2 x3 x4 u K) : CT l D cI cZ ad 72 q (entC q cI cZ) yX7_goOn cX7_goOn 6 (some .int) (rr 5 124) [.ref (q 2), .ref (q 7), .int x2, .int x3, .int x4] u (QI D 72 q (entC q cI cZ) K) := by
    refine ct_of (by decide +kernel) (Nat.le_of_ble_eq_true rfl) (fun p e s m args below meth c C => ?_)
    refine j_sub (lv' := [(0, .ref (q 2)), (1, .ref (q 7)), (2, .int x2), (3, .int x3), (4, .int x4)]) [0, 1, 2, 3, 4] rfl ?_
    refine j_iconst (v := 0) C dX7_goOn_0 (by decide) ?_
    refine j_istore (lv' := [(5, .int 0), (0, .ref (q 2)), (1, .ref (q 7)), (2, .int x2), (3, .int x3), (4, .int x4)]) C dX7_goOn_1 (by decide) rfl ?_
    refine j_sub (lv' := [(0, .ref (q 2)), (1, .ref (q 7)), (2, .int x2), (3, .int x3), (4, .int x4), (5, .int 0)]) [1, 2, 3, 4, 5, 0] rfl ?_
    exact tX7_goOn_b3 l D cI cZ ad q N C N _ _ _ _ _ h

def wX1_findBest_b143 (N : Nat) (K : MM → Prop) (ro7 : Int32 → Int32 → MM → Prop) (x1 : Int32) (x2 : Int32) (u : MM) : Prop := (∀ y13 : Int32, y13 = x2 + 1 → (ro7 x1 y13 u))
def wX1_findBest_b122 (N : Nat) (K : MM → Prop) (ro7 : Int32 → Int32 → MM → Prop) (x1 : Int32) (x2 : Int32) (x3 : Int32) (u : MM) : Prop := (∀ u14 : MM, u14 = up u 1 2 x2 → (∀ u15 : MM, u15 = up u14 1 3 x3 → (∀ u16 : MM, u16 = up u15 1 4 (u15 7 1) → (wX1_findBest_b143 N K ro7 x1 x2 u16))))
def wX1_findBest_b107 (N : Nat) (K : MM → Prop) (ro7 : Int32 → Int32 → MM → Prop) (x1 : Int32) (x2 : Int32) (x3 : Int32) (s0 : Int32) (u : MM) : Prop := (((u 1 2) = (-1) → (wX1_findBest_b122 N K ro7 x1 x2 x3 u)) ∧ (¬ (u 1 2) = (-1) → ((s0 = 0 → (wX1_findBest_b143 N K ro7 x1 x2 u)) ∧ (¬ s0 = 0 → (wX1_findBest_b122 N K ro7 x1 x2 x3 u)))))
def wX1_findBest_b106 (N : Nat) (K : MM → Prop) (ro7 : Int32 → Int32 → MM → Prop) (x1 : Int32) (x2 : Int32) (x3 : Int32) (u : MM) : Prop := (wX1_findBest_b107 N K ro7 x1 x2 x3 0 u)
def wX1_findBest_b102 (N : Nat) (K : MM → Prop) (ro7 : Int32 → Int32 → MM → Prop) (x1 : Int32) (x2 : Int32) (x3 : Int32) (u : MM) : Prop := (wX1_findBest_b107 N K ro7 x1 x2 x3 1 u)
def wX1_findBest_b7 (N : Nat) (K : MM → Prop) : Nat → Int32 → Int32 → MM → Prop
  | 0, _, _, _ => False
  | n + 1, x1, x2, u => (((u 21 0) ≤ x2 → (K u)) ∧ (¬ (u 21 0) ≤ x2 → (wX9_startWith N 7 x2 x1 (u 27 0) u (fun u4 => (wX7_goOn N (-1) 0 (-1) u4 (fun r5 u6 => (wJ6_bitCount_0f7a4 N (u6 7 2) (fun r7 => (((u6 1 3) < r7 → (wX1_findBest_b102 N K (wX1_findBest_b7 N K n) x1 x2 r7 u6)) ∧ (¬ (u6 1 3) < r7 → ((¬ r7 = (u6 1 3) → (wX1_findBest_b106 N K (wX1_findBest_b7 N K n) x1 x2 r7 u6)) ∧ (r7 = (u6 1 3) → (((u6 1 4) ≤ (u6 7 1) → (wX1_findBest_b106 N K (wX1_findBest_b7 N K n) x1 x2 r7 u6)) ∧ (¬ (u6 1 4) ≤ (u6 7 1) → (wX1_findBest_b102 N K (wX1_findBest_b7 N K n) x1 x2 r7 u6)))))))))))))))
def wX1_findBest (N : Nat) (x1 : Int32) (u : MM) (K : MM → Prop) : Prop := (∀ u1 : MM, u1 = up u 1 2 (-1) → (wX1_findBest_b7 N K N x1 0 u1))
set_option maxRecDepth 100000 in
set_option maxHeartbeats 4000000 in
theorem tX1_findBest_b143 (l : Launch) (D : va_G) (cI cZ : ClassId) (ad q : Nat → Nat) (N : Nat) {p : Program} {e : Env} {s : State} {m : MethodId} {args : Array Value} {below : List Frame} {meth : Method} {c : Code} {K : MM → Prop} (C : CX p s m args meth c cX1_findBest 5 RX1 none D cI cZ ad (AJ 72 q s.heap.size)) {ro7 : Int32 → Int32 → MM → Prop} (hro7 : ∀ (x1 : Int32) (x2 : Int32) (u : MM), ro7 x1 x2 u → JX p l e (rr 6 149) s m args below meth c D (AJ 72 q s.heap.size) 5 (MQ below ((QV D 72 q (entC q cI cZ) K) (AJ 72 q s.heap.size)) args s 0 0 (AJ 72 q s.heap.size)) 72 q (entC q cI cZ) u 7 [(0, .ref (q 1)), (1, .int x1), (2, .int x2)] []) : ∀ (x1 : Int32) (x2 : Int32) (u : MM), wX1_findBest_b143 N K ro7 x1 x2 u → JX p l e (rr 6 149) s m args below meth c D (AJ 72 q s.heap.size) 5 (MQ below ((QV D 72 q (entC q cI cZ) K) (AJ 72 q s.heap.size)) args s 0 0 (AJ 72 q s.heap.size)) 72 q (entC q cI cZ) u 143 [(0, .ref (q 1)), (1, .int x1), (2, .int x2)] [] := by
    intro x1 x2 u h
    obtain ⟨y13, ey13⟩ : ∃ z : Int32, z = x2 + 1 := ⟨_, rfl⟩
    have h := h y13 ey13
    refine j_iinc (v := y13) (lv' := [(2, .int y13), (0, .ref (q 1)), (1, .int x1)]) C 2 dX1_findBest_143 rfl (by rw [ey13]; rfl) (by decide) rfl ?_
    refine j_goto C 7 dX1_findBest_146 (by decide) ?_
    refine j_sub (lv' := [(0, .ref (q 1)), (1, .int x1), (2, .int y13)]) [1, 2, 0] rfl ?_
    exact hro7 _ _ _ h
set_option maxRecDepth 100000 in
set_option maxHeartbeats 4000000 in
theorem tX1_findBest_b122 (l : Launch) (D : va_G) (cI cZ : ClassId) (ad q : Nat → Nat) (N : Nat) {p : Program} {e : Env} {s : State} {m : MethodId} {args : Array Value} {below : List Frame} {meth : Method} {c : Code} {K : MM → Prop} (C : CX p s m args meth c cX1_findBest 5 RX1 none D cI cZ ad (AJ 72 q s.heap.size)) {ro7 : Int32 → Int32 → MM → Prop} (hro7 : ∀ (x1 : Int32) (x2 : Int32) (u : MM), ro7 x1 x2 u → JX p l e (rr 6 149) s m args below meth c D (AJ 72 q s.heap.size) 5 (MQ below ((QV D 72 q (entC q cI cZ) K) (AJ 72 q s.heap.size)) args s 0 0 (AJ 72 q s.heap.size)) 72 q (entC q cI cZ) u 7 [(0, .ref (q 1)), (1, .int x1), (2, .int x2)] []) : ∀ (x1 : Int32) (x2 : Int32) (x3 : Int32) (u : MM), wX1_findBest_b122 N K ro7 x1 x2 x3 u → JX p l e (rr 6 149) s m args below meth c D (AJ 72 q s.heap.size) 5 (MQ below ((QV D 72 q (entC q cI cZ) K) (AJ 72 q s.heap.size)) args s 0 0 (AJ 72 q s.heap.size)) 72 q (entC q cI cZ) u 122 [(0, .ref (q 1)), (1, .int x1), (2, .int x2), (3, .int x3)] [] := by
    intro x1 x2 x3 u h
    refine j_aload_n C 0 dX1_findBest_122 rfl ?_
    refine j_iload_n C 2 dX1_findBest_123 rfl ?_
    refine j_put C 1 2 (ly_X1 C.2.2.2.2.2.2.2.1.1) q_175 rfl rfl (by decide) rfl rfl (by decide) tyX1_ok nmX1 rfl rfl ⟨rfl, rfl⟩ (Nat.le_of_ble_eq_true rfl) rfl dX1_findBest_124 ?_
    refine j_nmu (fun u14 eu14 => ?_)
    have h := h u14 eu14
    refine j_aload_n C 0 dX1_findBest_127 rfl ?_
    refine j_iload_n C 3 dX1_findBest_128 rfl ?_
    refine j_put C 1 3 (ly_X1 C.2.2.2.2.2.2.2.1.1) q_177 rfl rfl (by decide) rfl rfl (by decide) tyX1_ok nmX1 rfl rfl ⟨rfl, rfl⟩ (Nat.le_of_ble_eq_true rfl) rfl dX1_findBest_129 ?_
    refine j_nmu (fun u15 eu15 => ?_)
    have h := h u15 eu15
    refine j_aload_n C 0 dX1_findBest_132 rfl ?_
    refine j_aload_n C 0 dX1_findBest_133 rfl ?_
    refine j_get C 1 1 (ly_X1 C.2.2.2.2.2.2.2.1.1) q_173 rfl rfl (by decide) rfl rfl (by decide) rfl dX1_findBest_134 ?_
    refine j_getN C 7 1 (ly_X9 C.2.2.2.2.2.2.2.1.1) q_112 rfl rfl (by decide) rfl rfl (by decide) rfl dX1_findBest_137 ?_
    refine j_put C 1 4 (ly_X1 C.2.2.2.2.2.2.2.1.1) q_179 rfl rfl (by decide) rfl rfl (by decide) tyX1_ok nmX1 rfl rfl ⟨rfl, rfl⟩ (Nat.le_of_ble_eq_true rfl) rfl dX1_findBest_140 ?_
    refine j_nmu (fun u16 eu16 => ?_)
    have h := h u16 eu16
    refine j_sub (lv' := [(0, .ref (q 1)), (1, .int x1), (2, .int x2)]) [0, 1, 2] rfl ?_
    exact tX1_findBest_b143 l D cI cZ ad q N C (hro7) _ _ _ h
set_option maxRecDepth 100000 in
set_option maxHeartbeats 4000000 in
theorem tX1_findBest_b107 (l : Launch) (D : va_G) (cI cZ : ClassId) (ad q : Nat → Nat) (N : Nat) {p : Program} {e : Env} {s : State} {m : MethodId} {args : Array Value} {below : List Frame} {meth : Method} {c : Code} {K : MM → Prop} (C : CX p s m args meth c cX1_findBest 5 RX1 none D cI cZ ad (AJ 72 q s.heap.size)) {ro7 : Int32 → Int32 → MM → Prop} (hro7 : ∀ (x1 : Int32) (x2 : Int32) (u : MM), ro7 x1 x2 u → JX p l e (rr 6 149) s m args below meth c D (AJ 72 q s.heap.size) 5 (MQ below ((QV D 72 q (entC q cI cZ) K) (AJ 72 q s.heap.size)) args s 0 0 (AJ 72 q s.heap.size)) 72 q (entC q cI cZ) u 7 [(0, .ref (q 1)), (1, .int x1), (2, .int x2)] []) : ∀ (x1 : Int32) (x2 : Int32) (x3 : Int32) (s0 : Int32) (u : MM), wX1_findBest_b107 N K ro7 x1 x2 x3 s0 u → JX p l e (rr 6 149) s m args below meth c D (AJ 72 q s.heap.size) 5 (MQ below ((QV D 72 q (entC q cI cZ) K) (AJ 72 q s.heap.size)) args s 0 0 (AJ 72 q s.heap.size)) 72 q (entC q cI cZ) u 107 [(0, .ref (q 1)), (1, .int x1), (2, .int x2), (3, .int x3)] [.int s0] := by
    intro x1 x2 x3 s0 u h
    refine j_istore (lv' := [(4, .int s0), (0, .ref (q 1)), (1, .int x1), (2, .int x2), (3, .int x3)]) C dX1_findBest_107 (by decide) rfl ?_
    refine j_aload_n C 1 dX1_findBest_109 rfl ?_
    refine j_get C 1 2 (ly_X1 C.2.2.2.2.2.2.2.1.1) q_175 rfl rfl (by decide) rfl rfl (by decide) rfl dX1_findBest_110 ?_
    refine j_iconst (v := (-1)) C dX1_findBest_113 (by decide) ?_
    refine j_icmp_eq C 122 dX1_findBest_114 (by decide) (fun c11 => ?_) (fun c11 => ?_)
    · have h := h.1 c11
      refine j_sub (lv' := [(0, .ref (q 1)), (1, .int x1), (2, .int x2), (3, .int x3)]) [1, 2, 3, 4] rfl ?_
      exact tX1_findBest_b122 l D cI cZ ad q N C (hro7) _ _ _ _ h
    · have h := h.2 c11
      refine j_iload C 0 dX1_findBest_117 rfl ?_
      refine j_if_eq C 143 dX1_findBest_119 (by decide) (fun c12 => ?_) (fun c12 => ?_)
      · have h := h.1 c12
        refine j_sub (lv' := [(0, .ref (q 1)), (1, .int x1), (2, .int x2)]) [1, 2, 3] rfl ?_
        exact tX1_findBest_b143 l D cI cZ ad q N C (hro7) _ _ _ h
      · have h := h.2 c12
        refine j_sub (lv' := [(0, .ref (q 1)), (1, .int x1), (2, .int x2), (3, .int x3)]) [1, 2, 3, 4] rfl ?_
        exact tX1_findBest_b122 l D cI cZ ad q N C (hro7) _ _ _ _ h
set_option maxRecDepth 100000 in
set_option maxHeartbeats 4000000 in
theorem tX1_findBest_b106 (l : Launch) (D : va_G) (cI cZ : ClassId) (ad q : Nat → Nat) (N : Nat) {p : Program} {e : Env} {s : State} {m : MethodId} {args : Array Value} {below : List Frame} {meth : Method} {c : Code} {K : MM → Prop} (C : CX p s m args meth c cX1_findBest 5 RX1 none D cI cZ ad (AJ 72 q s.heap.size)) {ro7 : Int32 → Int32 → MM → Prop} (hro7 : ∀ (x1 : Int32) (x2 : Int32) (u : MM), ro7 x1 x2 u → JX p l e (rr 6 149) s m args below meth c D (AJ 72 q s.heap.size) 5 (MQ below ((QV D 72 q (entC q cI cZ) K) (AJ 72 q s.heap.size)) args s 0 0 (AJ 72 q s.heap.size)) 72 q (entC q cI cZ) u 7 [(0, .ref (q 1)), (1, .int x1), (2, .int x2)] []) : ∀ (x1 : Int32) (x2 : Int32) (x3 : Int32) (u : MM), wX1_findBest_b106 N K ro7 x1 x2 x3 u → JX p l e (rr 6 149) s m args below meth c D (AJ 72 q s.heap.size) 5 (MQ below ((QV D 72 q (entC q cI cZ) K) (AJ 72 q s.heap.size)) args s 0 0 (AJ 72 q s.heap.size)) 72 q (entC q cI cZ) u 106 [(0, .ref (q 1)), (1, .int x1), (2, .int x2), (3, .int x3)] [] := by
    intro x1 x2 x3 u h
    refine j_iconst (v := 0) C dX1_findBest_106 (by decide) ?_
    exact tX1_findBest_b107 l D cI cZ ad q N C (hro7) _ _ _ _ _ h
set_option maxRecDepth 100000 in
set_option maxHeartbeats 4000000 in
theorem tX1_findBest_b102 (l : Launch) (D : va_G) (cI cZ : ClassId) (ad q : Nat → Nat) (N : Nat) {p : Program} {e : Env} {s : State} {m : MethodId} {args : Array Value} {below : List Frame} {meth : Method} {c : Code} {K : MM → Prop} (C : CX p s m args meth c cX1_findBest 5 RX1 none D cI cZ ad (AJ 72 q s.heap.size)) {ro7 : Int32 → Int32 → MM → Prop} (hro7 : ∀ (x1 : Int32) (x2 : Int32) (u : MM), ro7 x1 x2 u → JX p l e (rr 6 149) s m args below meth c D (AJ 72 q s.heap.size) 5 (MQ below ((QV D 72 q (entC q cI cZ) K) (AJ 72 q s.heap.size)) args s 0 0 (AJ 72 q s.heap.size)) 72 q (entC q cI cZ) u 7 [(0, .ref (q 1)), (1, .int x1), (2, .int x2)] []) : ∀ (x1 : Int32) (x2 : Int32) (x3 : Int32) (u : MM), wX1_findBest_b102 N K ro7 x1 x2 x3 u → JX p l e (rr 6 149) s m args below meth c D (AJ 72 q s.heap.size) 5 (MQ below ((QV D 72 q (entC q cI cZ) K) (AJ 72 q s.heap.size)) args s 0 0 (AJ 72 q s.heap.size)) 72 q (entC q cI cZ) u 102 [(0, .ref (q 1)), (1, .int x1), (2, .int x2), (3, .int x3)] [] := by
    intro x1 x2 x3 u h
    refine j_iconst (v := 1) C dX1_findBest_102 (by decide) ?_
    refine j_goto C 107 dX1_findBest_103 (by decide) ?_
    exact tX1_findBest_b107 l D cI cZ ad q N C (hro7) _ _ _ _ _ h
set_option maxRecDepth 100000 in
set_option maxHeartbeats 4000000 in
theorem tX1_findBest_b7 (l : Launch) (D : va_G) (cI cZ : ClassId) (ad q : Nat → Nat) (N : Nat) {p : Program} {e : Env} {s : State} {m : MethodId} {args : Array Value} {below : List Frame} {meth : Method} {c : Code} {K : MM → Prop} (C : CX p s m args meth c cX1_findBest 5 RX1 none D cI cZ ad (AJ 72 q s.heap.size)) : ∀ (n : Nat) (x1 : Int32) (x2 : Int32) (u : MM), wX1_findBest_b7 N K n x1 x2 u → JX p l e (rr 6 149) s m args below meth c D (AJ 72 q s.heap.size) 5 (MQ below ((QV D 72 q (entC q cI cZ) K) (AJ 72 q s.heap.size)) args s 0 0 (AJ 72 q s.heap.size)) 72 q (entC q cI cZ) u 7 [(0, .ref (q 1)), (1, .int x1), (2, .int x2)] [] := by
  intro n
  induction n with
  | zero => intro x1 x2 u h; exact h.elim
  | succ n ih =>
    intro x1 x2 u h
    refine j_iload_n C 2 dX1_findBest_7 rfl ?_
    refine j_aload_n C 0 dX1_findBest_8 rfl ?_
    refine j_get C 1 0 (ly_X1 C.2.2.2.2.2.2.2.1.1) q_171 rfl rfl (by decide) rfl rfl (by decide) rfl dX1_findBest_9 ?_
    refine j_getN C 2 0 (ly_X7 C.2.2.2.2.2.2.2.1.1) q_167 rfl rfl (by decide) rfl rfl (by decide) rfl dX1_findBest_12 ?_
    refine j_getN C 10 3 (ly_X5 C.2.2.2.2.2.2.2.1.1) q_154 rfl rfl (by decide) rfl rfl (by decide) rfl dX1_findBest_15 ?_
    refine j_getN C 21 0 (ly_X2 C.2.2.2.2.2.2.2.1.1) q_86 rfl rfl (by decide) rfl rfl (by decide) rfl dX1_findBest_18 ?_
    refine j_icmp_ge C 149 dX1_findBest_21 (by decide) (fun c2 => ?_) (fun c2 => ?_)
    · have h := h.1 c2
      exact j_vret C dX1_findBest_149 h
    · have h := h.2 c2
      refine j_aload_n C 0 dX1_findBest_24 rfl ?_
      refine j_get C 1 1 (ly_X1 C.2.2.2.2.2.2.2.1.1) q_173 rfl rfl (by decide) rfl rfl (by decide) rfl dX1_findBest_25 ?_
      refine j_iload_n C 2 dX1_findBest_28 rfl ?_
      refine j_iload_n C 1 dX1_findBest_29 rfl ?_
      refine j_aload_n C 0 dX1_findBest_30 rfl ?_
      refine j_get C 1 0 (ly_X1 C.2.2.2.2.2.2.2.1.1) q_171 rfl rfl (by decide) rfl rfl (by decide) rfl dX1_findBest_31 ?_
      refine j_getN C 2 0 (ly_X7 C.2.2.2.2.2.2.2.1.1) q_167 rfl rfl (by decide) rfl rfl (by decide) rfl dX1_findBest_34 ?_
      refine j_getN C 10 4 (ly_X5 C.2.2.2.2.2.2.2.1.1) q_158 rfl rfl (by decide) rfl rfl (by decide) rfl dX1_findBest_37 ?_
      refine j_getN C 27 0 (ly_X9 C.2.2.2.2.2.2.2.1.1) q_108 rfl rfl (by decide) rfl rfl (by decide) rfl dX1_findBest_40 ?_
      refine j_wv C (fun H locs ls hP hD hS hl => run_VN (Cn := "") (As := [.int x2, .int x1, .int (u 27 0)]) (st := []) C mf_X9_startWith 7 (kX_X9_startWith_7 l D cI cZ ad q N h) q_496 (by decide) rfl rfl rfl rfl ⟨rfl, rfl, by decide, by decide⟩ (Nat.le_of_ble_eq_true rfl) dX1_findBest_43 hP hD hS hl) (fun u4 h => ?_)
      refine j_aload_n C 0 dX1_findBest_46 rfl ?_
      refine j_get C 1 0 (ly_X1 C.2.2.2.2.2.2.2.1.1) q_171 rfl rfl (by decide) rfl rfl (by decide) rfl dX1_findBest_47 ?_
      refine j_aload_n C 0 dX1_findBest_50 rfl ?_
      refine j_get C 1 1 (ly_X1 C.2.2.2.2.2.2.2.1.1) q_173 rfl rfl (by decide) rfl rfl (by decide) rfl dX1_findBest_51 ?_
      refine j_iconst (v := (-1)) C dX1_findBest_54 (by decide) ?_
      refine j_iconst (v := 0) C dX1_findBest_55 (by decide) ?_
      refine j_iconst (v := (-1)) C dX1_findBest_56 (by decide) ?_
      refine j_wi C (fun H locs ls hP hD hS hl => run_VN (Cn := "") (As := [.ref (q 7), .int (-1), .int 0, .int (-1)]) (st := []) C mf_X7_goOn 2 (kX_X7_goOn l D cI cZ ad q N h) q_497 (by decide) rfl rfl rfl rfl ⟨rfl, rfl, by decide, by decide⟩ (Nat.le_of_ble_eq_true rfl) dX1_findBest_57 hP hD hS hl) (fun r5 u6 h => ?_)
      refine j_pop C dX1_findBest_60 rfl ?_
      refine j_aload_n C 0 dX1_findBest_61 rfl ?_
      refine j_get C 1 1 (ly_X1 C.2.2.2.2.2.2.2.1.1) q_173 rfl rfl (by decide) rfl rfl (by decide) rfl dX1_findBest_62 ?_
      refine j_getN C 7 2 (ly_X9 C.2.2.2.2.2.2.2.1.1) q_117 rfl rfl (by decide) rfl rfl (by decide) rfl dX1_findBest_65 ?_
      refine j_ui C (fun H locs ls hP hD => run_S (As := [.int (u6 7 2)]) (st := []) C mf_J6_bitCount_0f7a4 (kX_J6_bitCount_0f7a4 l D cI cZ ad q N h) q_498 rfl rfl ⟨rfl, rfl, by decide, by decide⟩ (Nat.le_of_ble_eq_true rfl) dX1_findBest_68 hP hD) (fun r7 _ h => ?_)
      refine j_istore_n (lv' := [(3, .int r7), (0, .ref (q 1)), (1, .int x1), (2, .int x2)]) C dX1_findBest_71 (by decide) rfl ?_
      refine j_iload_n C 0 dX1_findBest_72 rfl ?_
      refine j_aload_n C 1 dX1_findBest_73 rfl ?_
      refine j_get C 1 3 (ly_X1 C.2.2.2.2.2.2.2.1.1) q_177 rfl rfl (by decide) rfl rfl (by decide) rfl dX1_findBest_74 ?_
      refine j_icmp_gt C 102 dX1_findBest_77 (by decide) (fun c8 => ?_) (fun c8 => ?_)
      · have h := h.1 c8
        refine j_sub (lv' := [(0, .ref (q 1)), (1, .int x1), (2, .int x2), (3, .int r7)]) [1, 2, 3, 0] rfl ?_
        exact tX1_findBest_b102 l D cI cZ ad q N C ih _ _ _ _ h
      · have h := h.2 c8
        refine j_iload_n C 0 dX1_findBest_80 rfl ?_
        refine j_aload_n C 1 dX1_findBest_81 rfl ?_
        refine j_get C 1 3 (ly_X1 C.2.2.2.2.2.2.2.1.1) q_177 rfl rfl (by decide) rfl rfl (by decide) rfl dX1_findBest_82 ?_
        refine j_icmp_ne C 106 dX1_findBest_85 (by decide) (fun c9 => ?_) (fun c9 => ?_)
        · have h := h.1 c9
          refine j_sub (lv' := [(0, .ref (q 1)), (1, .int x1), (2, .int x2), (3, .int r7)]) [1, 2, 3, 0] rfl ?_
          exact tX1_findBest_b106 l D cI cZ ad q N C ih _ _ _ _ h
        · have h := h.2 c9
          refine j_aload_n C 1 dX1_findBest_88 rfl ?_
          refine j_get C 1 1 (ly_X1 C.2.2.2.2.2.2.2.1.1) q_173 rfl rfl (by decide) rfl rfl (by decide) rfl dX1_findBest_89 ?_
          refine j_getN C 7 1 (ly_X9 C.2.2.2.2.2.2.2.1.1) q_112 rfl rfl (by decide) rfl rfl (by decide) rfl dX1_findBest_92 ?_
          refine j_aload_n C 1 dX1_findBest_95 rfl ?_
          refine j_get C 1 4 (ly_X1 C.2.2.2.2.2.2.2.1.1) q_179 rfl rfl (by decide) rfl rfl (by decide) rfl dX1_findBest_96 ?_
          refine j_icmp_ge C 106 dX1_findBest_99 (by decide) (fun c10 => ?_) (fun c10 => ?_)
          · have h := h.1 c10
            refine j_sub (lv' := [(0, .ref (q 1)), (1, .int x1), (2, .int x2), (3, .int r7)]) [1, 2, 3, 0] rfl ?_
            exact tX1_findBest_b106 l D cI cZ ad q N C ih _ _ _ _ h
          · have h := h.2 c10
            refine j_sub (lv' := [(0, .ref (q 1)), (1, .int x1), (2, .int x2), (3, .int r7)]) [1, 2, 3, 0] rfl ?_
            exact tX1_findBest_b102 l D cI cZ ad q N C ih _ _ _ _ h
set_option maxRecDepth 100000 in
set_option maxHeartbeats 4000000 in
theorem kX_X1_findBest (l : Launch) (D : va_G) (cI cZ : ClassId) (ad q : Nat → Nat) (N : Nat) {x1 : Int32} {u : MM} {K : MM → Prop} (h : wX1_findBest N x1 u K) : CT l D cI cZ ad 72 q (entC q cI cZ) yX1_findBest cX1_findBest 5 none (rr 6 149) [.ref (q 1), .int x1] u (QV D 72 q (entC q cI cZ) K) := by
    refine ct_of (by decide +kernel) (Nat.le_of_ble_eq_true rfl) (fun p e s m args below meth c C => ?_)
    refine j_sub (lv' := [(0, .ref (q 1)), (1, .int x1)]) [0, 1] rfl ?_
    refine j_aload_n C 0 dX1_findBest_0 rfl ?_
    refine j_iconst (v := (-1)) C dX1_findBest_1 (by decide) ?_
    refine j_put C 1 2 (ly_X1 C.2.2.2.2.2.2.2.1.1) q_175 rfl rfl (by decide) rfl rfl (by decide) tyX1_ok nmX1 rfl rfl ⟨rfl, rfl⟩ (Nat.le_of_ble_eq_true rfl) rfl dX1_findBest_2 ?_
    refine j_nmu (fun u1 eu1 => ?_)
    have h := h u1 eu1
    refine j_iconst (v := 0) C dX1_findBest_5 (by decide) ?_
    refine j_istore_n (lv' := [(2, .int 0), (0, .ref (q 1)), (1, .int x1)]) C dX1_findBest_6 (by decide) rfl ?_
    refine j_sub (lv' := [(0, .ref (q 1)), (1, .int x1), (2, .int 0)]) [1, 2, 0] rfl ?_
    exact tX1_findBest_b7 l D cI cZ ad q N C N _ _ _ h

def wX1_isChoosable (N : Nat) (x1 : Int32) (x2 : Int32) (x3 : Int32) (u : MM) (K : Int32 → MM → Prop) : Prop := (wJ6_bitCount_0f7a4 N x2 (fun r1 => (∀ y2 : Int32, y2 = (if r1 < x3 then r1 else x3) → ((¬ (x1 &&& (x2 ^^^ ((-1) : Int32))) = 0 → (K 0 u)) ∧ ((x1 &&& (x2 ^^^ ((-1) : Int32))) = 0 → (wJ6_bitCount_0f7a4 N x1 (fun r4 => ((¬ r4 = y2 → (K 0 u)) ∧ (r4 = y2 → (K 1 u))))))))))
set_option maxRecDepth 100000 in
set_option maxHeartbeats 4000000 in
theorem kX_X1_isChoosable (l : Launch) (D : va_G) (cI cZ : ClassId) (ad q : Nat → Nat) (N : Nat) {x1 : Int32} {x2 : Int32} {x3 : Int32} {u : MM} {K : Int32 → MM → Prop} (h : wX1_isChoosable N x1 x2 x3 u K) : CT l D cI cZ ad 72 q (entC q cI cZ) yX1_isChoosable cX1_isChoosable 5 (some .boolean) (rr 1 21) [.ref (q 1), .int x1, .int x2, .int x3] u (QI D 72 q (entC q cI cZ) K) := by
    refine ct_of (by decide +kernel) (Nat.le_of_ble_eq_true rfl) (fun p e s m args below meth c C => ?_)
    refine j_sub (lv' := [(0, .ref (q 1)), (1, .int x1), (2, .int x2), (3, .int x3)]) [0, 1, 2, 3] rfl ?_
    refine j_iload_n C 3 dX1_isChoosable_0 rfl ?_
    refine j_iload_n C 2 dX1_isChoosable_1 rfl ?_
    refine j_ui C (fun H locs ls hP hD => run_S (As := [.int x2]) (st := [.int x3]) C mf_J6_bitCount_0f7a4 (kX_J6_bitCount_0f7a4 l D cI cZ ad q N h) q_498 rfl rfl ⟨rfl, rfl, by decide, by decide⟩ (Nat.le_of_ble_eq_true rfl) dX1_isChoosable_2 hP hD) (fun r1 _ h => ?_)
    refine j_mmin C q_512 q_400 q_10 q_codeM_min (by decide) (Nat.le_of_ble_eq_true rfl) dX1_isChoosable_5 ?_
    refine j_nmi (fun y2 ey2 => ?_)
    have h := h y2 ey2
    refine j_istore (lv' := [(4, .int y2), (0, .ref (q 1)), (1, .int x1), (2, .int x2), (3, .int x3)]) C dX1_isChoosable_8 (by decide) rfl ?_
    refine j_iload_n C 2 dX1_isChoosable_10 rfl ?_
    refine j_iload_n C 3 dX1_isChoosable_11 rfl ?_
    refine j_iconst (v := (-1)) C dX1_isChoosable_12 (by decide) ?_
    refine j_ixor C dX1_isChoosable_13 ?_
    refine j_iand C dX1_isChoosable_14 ?_
    refine j_if_ne C 31 dX1_isChoosable_15 (by decide) (fun c3 => ?_) (fun c3 => ?_)
    · have h := h.1 c3
      refine j_iconst (v := 0) C dX1_isChoosable_31 (by decide) ?_
      exact j_zret C dX1_isChoosable_32 rfl h
    · have h := h.2 c3
      refine j_iload_n C 2 dX1_isChoosable_18 rfl ?_
      refine j_ui C (fun H locs ls hP hD => run_S (As := [.int x1]) (st := []) C mf_J6_bitCount_0f7a4 (kX_J6_bitCount_0f7a4 l D cI cZ ad q N h) q_498 rfl rfl ⟨rfl, rfl, by decide, by decide⟩ (Nat.le_of_ble_eq_true rfl) dX1_isChoosable_19 hP hD) (fun r4 _ h => ?_)
      refine j_iload C 0 dX1_isChoosable_22 rfl ?_
      refine j_icmp_ne C 31 dX1_isChoosable_24 (by decide) (fun c5 => ?_) (fun c5 => ?_)
      · have h := h.1 c5
        refine j_iconst (v := 0) C dX1_isChoosable_31 (by decide) ?_
        exact j_zret C dX1_isChoosable_32 rfl h
      · have h := h.2 c5
        refine j_iconst (v := 1) C dX1_isChoosable_27 (by decide) ?_
        refine j_goto C 32 dX1_isChoosable_28 (by decide) ?_
        exact j_zret C dX1_isChoosable_32 rfl h

def wX9_copyFrom (N : Nat) (t : Nat) (o : Nat) (u : MM) (K : MM → Prop) : Prop := (∀ u1 : MM, u1 = up u t 0 (u o 0) → (∀ u2 : MM, u2 = up u1 t 1 (u1 o 1) → (∀ u3 : MM, u3 = up u2 t 2 (u2 o 2) → (∀ u4 : MM, u4 = up u3 t 3 (u3 o 3) → (∀ u5 : MM, u5 = upR u4 (t + 1) (va_cpy (u4 (o + 1)) (u4 (t + 1)) 0 0 7) → (∀ u6 : MM, u6 = upR u5 (t + 2) (va_cpy (u5 (o + 2)) (u5 (t + 2)) 0 0 7) → (K u6)))))))
set_option maxRecDepth 100000 in
set_option maxHeartbeats 4000000 in
theorem kX_X9_copyFrom_7_27 (l : Launch) (D : va_G) (cI cZ : ClassId) (ad q : Nat → Nat) (N : Nat) {u : MM} {K : MM → Prop} (h : wX9_copyFrom N 7 27 u K) : CT l D cI cZ ad 72 q (entC q cI cZ) yX9_copyFrom cX9_copyFrom 2 none (rr 1 60) [.ref (q 7), .ref (q 27)] u (QV D 72 q (entC q cI cZ) K) := by
    refine ct_of (by decide +kernel) (Nat.le_of_ble_eq_true rfl) (fun p e s m args below meth c C => ?_)
    refine j_sub (lv' := [(0, .ref (q 7)), (1, .ref (q 27))]) [0, 1] rfl ?_
    refine j_aload_n C 0 dX9_copyFrom_0 rfl ?_
    refine j_aload_n C 1 dX9_copyFrom_1 rfl ?_
    refine j_get C 27 0 (ly_X9 C.2.2.2.2.2.2.2.1.1) q_107 rfl rfl (by decide) rfl rfl (by decide) rfl dX9_copyFrom_2 ?_
    refine j_put C 7 0 (ly_X9 C.2.2.2.2.2.2.2.1.1) q_107 rfl rfl (by decide) rfl rfl (by decide) tyX9_ok nmX9 rfl rfl ⟨rfl, rfl⟩ (Nat.le_of_ble_eq_true rfl) rfl dX9_copyFrom_5 ?_
    refine j_nmu (fun u1 eu1 => ?_)
    have h := h u1 eu1
    refine j_aload_n C 0 dX9_copyFrom_8 rfl ?_
    refine j_aload_n C 1 dX9_copyFrom_9 rfl ?_
    refine j_get C 27 1 (ly_X9 C.2.2.2.2.2.2.2.1.1) q_111 rfl rfl (by decide) rfl rfl (by decide) rfl dX9_copyFrom_10 ?_
    refine j_put C 7 1 (ly_X9 C.2.2.2.2.2.2.2.1.1) q_111 rfl rfl (by decide) rfl rfl (by decide) tyX9_ok nmX9 rfl rfl ⟨rfl, rfl⟩ (Nat.le_of_ble_eq_true rfl) rfl dX9_copyFrom_13 ?_
    refine j_nmu (fun u2 eu2 => ?_)
    have h := h u2 eu2
    refine j_aload_n C 0 dX9_copyFrom_16 rfl ?_
    refine j_aload_n C 1 dX9_copyFrom_17 rfl ?_
    refine j_get C 27 2 (ly_X9 C.2.2.2.2.2.2.2.1.1) q_115 rfl rfl (by decide) rfl rfl (by decide) rfl dX9_copyFrom_18 ?_
    refine j_put C 7 2 (ly_X9 C.2.2.2.2.2.2.2.1.1) q_115 rfl rfl (by decide) rfl rfl (by decide) tyX9_ok nmX9 rfl rfl ⟨rfl, rfl⟩ (Nat.le_of_ble_eq_true rfl) rfl dX9_copyFrom_21 ?_
    refine j_nmu (fun u3 eu3 => ?_)
    have h := h u3 eu3
    refine j_aload_n C 0 dX9_copyFrom_24 rfl ?_
    refine j_aload_n C 1 dX9_copyFrom_25 rfl ?_
    refine j_get C 27 3 (ly_X9 C.2.2.2.2.2.2.2.1.1) q_119 rfl rfl (by decide) rfl rfl (by decide) rfl dX9_copyFrom_26 ?_
    refine j_put C 7 3 (ly_X9 C.2.2.2.2.2.2.2.1.1) q_119 rfl rfl (by decide) rfl rfl (by decide) tyX9_ok nmX9 rfl rfl ⟨rfl, rfl⟩ (Nat.le_of_ble_eq_true rfl) rfl dX9_copyFrom_29 ?_
    refine j_nmu (fun u4 eu4 => ?_)
    have h := h u4 eu4
    refine j_aload_n C 1 dX9_copyFrom_32 rfl ?_
    refine j_get C 27 4 (ly_X9 C.2.2.2.2.2.2.2.1.1) q_122 rfl rfl (by decide) rfl rfl (by decide) rfl dX9_copyFrom_33 ?_
    refine j_iconst (v := 0) C dX9_copyFrom_36 (by decide) ?_
    refine j_aload_n C 0 dX9_copyFrom_37 rfl ?_
    refine j_get C 7 4 (ly_X9 C.2.2.2.2.2.2.2.1.1) q_122 rfl rfl (by decide) rfl rfl (by decide) rfl dX9_copyFrom_38 ?_
    refine j_iconst (v := 0) C dX9_copyFrom_41 (by decide) ?_
    refine j_bipush (v := 7) C dX9_copyFrom_42 (by decide) ?_
    refine j_copy (N0 := 7) (N1 := 7) C 7 28 8 q_480 q_247 q_246 q_14 (by decide) (by decide) rfl rfl (fun _ => rfl) rfl (by decide) (by decide) (by decide) (by decide) (by decide) (Nat.le_of_ble_eq_true rfl) dX9_copyFrom_44 (fun u5 eu5 => ?_)
    have h := h u5 eu5
    refine j_aload_n C 1 dX9_copyFrom_47 rfl ?_
    refine j_get C 27 5 (ly_X9 C.2.2.2.2.2.2.2.1.1) q_125 rfl rfl (by decide) rfl rfl (by decide) rfl dX9_copyFrom_48 ?_
    refine j_iconst (v := 0) C dX9_copyFrom_51 (by decide) ?_
    refine j_aload_n C 0 dX9_copyFrom_52 rfl ?_
    refine j_get C 7 5 (ly_X9 C.2.2.2.2.2.2.2.1.1) q_125 rfl rfl (by decide) rfl rfl (by decide) rfl dX9_copyFrom_53 ?_
    refine j_iconst (v := 0) C dX9_copyFrom_56 (by decide) ?_
    refine j_bipush (v := 7) C dX9_copyFrom_57 (by decide) ?_
    refine j_copy (N0 := 7) (N1 := 7) C 7 29 9 q_480 q_247 q_246 q_14 (by decide) (by decide) rfl rfl (fun _ => rfl) rfl (by decide) (by decide) (by decide) (by decide) (by decide) (Nat.le_of_ble_eq_true rfl) dX9_copyFrom_59 (fun u6 eu6 => ?_)
    have h := h u6 eu6
    exact j_vret C dX9_copyFrom_62 h
set_option maxRecDepth 100000 in
set_option maxHeartbeats 4000000 in
theorem kX_X9_copyFrom_53_27 (l : Launch) (D : va_G) (cI cZ : ClassId) (ad q : Nat → Nat) (N : Nat) {u : MM} {K : MM → Prop} (h : wX9_copyFrom N 53 27 u K) : CT l D cI cZ ad 72 q (entC q cI cZ) yX9_copyFrom cX9_copyFrom 2 none (rr 1 60) [.ref (q 53), .ref (q 27)] u (QV D 72 q (entC q cI cZ) K) := by
    refine ct_of (by decide +kernel) (Nat.le_of_ble_eq_true rfl) (fun p e s m args below meth c C => ?_)
    refine j_sub (lv' := [(0, .ref (q 53)), (1, .ref (q 27))]) [0, 1] rfl ?_
    refine j_aload_n C 0 dX9_copyFrom_0 rfl ?_
    refine j_aload_n C 1 dX9_copyFrom_1 rfl ?_
    refine j_get C 27 0 (ly_X9 C.2.2.2.2.2.2.2.1.1) q_107 rfl rfl (by decide) rfl rfl (by decide) rfl dX9_copyFrom_2 ?_
    refine j_put C 53 0 (ly_X9 C.2.2.2.2.2.2.2.1.1) q_107 rfl rfl (by decide) rfl rfl (by decide) tyX9_ok nmX9 rfl rfl ⟨rfl, rfl⟩ (Nat.le_of_ble_eq_true rfl) rfl dX9_copyFrom_5 ?_
    refine j_nmu (fun u1 eu1 => ?_)
    have h := h u1 eu1
    refine j_aload_n C 0 dX9_copyFrom_8 rfl ?_
    refine j_aload_n C 1 dX9_copyFrom_9 rfl ?_
    refine j_get C 27 1 (ly_X9 C.2.2.2.2.2.2.2.1.1) q_111 rfl rfl (by decide) rfl rfl (by decide) rfl dX9_copyFrom_10 ?_
    refine j_put C 53 1 (ly_X9 C.2.2.2.2.2.2.2.1.1) q_111 rfl rfl (by decide) rfl rfl (by decide) tyX9_ok nmX9 rfl rfl ⟨rfl, rfl⟩ (Nat.le_of_ble_eq_true rfl) rfl dX9_copyFrom_13 ?_
    refine j_nmu (fun u2 eu2 => ?_)
    have h := h u2 eu2
    refine j_aload_n C 0 dX9_copyFrom_16 rfl ?_
    refine j_aload_n C 1 dX9_copyFrom_17 rfl ?_
    refine j_get C 27 2 (ly_X9 C.2.2.2.2.2.2.2.1.1) q_115 rfl rfl (by decide) rfl rfl (by decide) rfl dX9_copyFrom_18 ?_
    refine j_put C 53 2 (ly_X9 C.2.2.2.2.2.2.2.1.1) q_115 rfl rfl (by decide) rfl rfl (by decide) tyX9_ok nmX9 rfl rfl ⟨rfl, rfl⟩ (Nat.le_of_ble_eq_true rfl) rfl dX9_copyFrom_21 ?_
    refine j_nmu (fun u3 eu3 => ?_)
    have h := h u3 eu3
    refine j_aload_n C 0 dX9_copyFrom_24 rfl ?_
    refine j_aload_n C 1 dX9_copyFrom_25 rfl ?_
    refine j_get C 27 3 (ly_X9 C.2.2.2.2.2.2.2.1.1) q_119 rfl rfl (by decide) rfl rfl (by decide) rfl dX9_copyFrom_26 ?_
    refine j_put C 53 3 (ly_X9 C.2.2.2.2.2.2.2.1.1) q_119 rfl rfl (by decide) rfl rfl (by decide) tyX9_ok nmX9 rfl rfl ⟨rfl, rfl⟩ (Nat.le_of_ble_eq_true rfl) rfl dX9_copyFrom_29 ?_
    refine j_nmu (fun u4 eu4 => ?_)
    have h := h u4 eu4
    refine j_aload_n C 1 dX9_copyFrom_32 rfl ?_
    refine j_get C 27 4 (ly_X9 C.2.2.2.2.2.2.2.1.1) q_122 rfl rfl (by decide) rfl rfl (by decide) rfl dX9_copyFrom_33 ?_
    refine j_iconst (v := 0) C dX9_copyFrom_36 (by decide) ?_
    refine j_aload_n C 0 dX9_copyFrom_37 rfl ?_
    refine j_get C 53 4 (ly_X9 C.2.2.2.2.2.2.2.1.1) q_122 rfl rfl (by decide) rfl rfl (by decide) rfl dX9_copyFrom_38 ?_
    refine j_iconst (v := 0) C dX9_copyFrom_41 (by decide) ?_
    refine j_bipush (v := 7) C dX9_copyFrom_42 (by decide) ?_
    refine j_copy (N0 := 7) (N1 := 7) C 7 28 54 q_480 q_247 q_246 q_14 (by decide) (by decide) rfl rfl (fun _ => rfl) rfl (by decide) (by decide) (by decide) (by decide) (by decide) (Nat.le_of_ble_eq_true rfl) dX9_copyFrom_44 (fun u5 eu5 => ?_)
    have h := h u5 eu5
    refine j_aload_n C 1 dX9_copyFrom_47 rfl ?_
    refine j_get C 27 5 (ly_X9 C.2.2.2.2.2.2.2.1.1) q_125 rfl rfl (by decide) rfl rfl (by decide) rfl dX9_copyFrom_48 ?_
    refine j_iconst (v := 0) C dX9_copyFrom_51 (by decide) ?_
    refine j_aload_n C 0 dX9_copyFrom_52 rfl ?_
    refine j_get C 53 5 (ly_X9 C.2.2.2.2.2.2.2.1.1) q_125 rfl rfl (by decide) rfl rfl (by decide) rfl dX9_copyFrom_53 ?_
    refine j_iconst (v := 0) C dX9_copyFrom_56 (by decide) ?_
    refine j_bipush (v := 7) C dX9_copyFrom_57 (by decide) ?_
    refine j_copy (N0 := 7) (N1 := 7) C 7 29 55 q_480 q_247 q_246 q_14 (by decide) (by decide) rfl rfl (fun _ => rfl) rfl (by decide) (by decide) (by decide) (by decide) (by decide) (Nat.le_of_ble_eq_true rfl) dX9_copyFrom_59 (fun u6 eu6 => ?_)
    have h := h u6 eu6
    exact j_vret C dX9_copyFrom_62 h
set_option maxRecDepth 100000 in
set_option maxHeartbeats 4000000 in
theorem kX_X9_copyFrom_27_53 (l : Launch) (D : va_G) (cI cZ : ClassId) (ad q : Nat → Nat) (N : Nat) {u : MM} {K : MM → Prop} (h : wX9_copyFrom N 27 53 u K) : CT l D cI cZ ad 72 q (entC q cI cZ) yX9_copyFrom cX9_copyFrom 2 none (rr 1 60) [.ref (q 27), .ref (q 53)] u (QV D 72 q (entC q cI cZ) K) := by
    refine ct_of (by decide +kernel) (Nat.le_of_ble_eq_true rfl) (fun p e s m args below meth c C => ?_)
    refine j_sub (lv' := [(0, .ref (q 27)), (1, .ref (q 53))]) [0, 1] rfl ?_
    refine j_aload_n C 0 dX9_copyFrom_0 rfl ?_
    refine j_aload_n C 1 dX9_copyFrom_1 rfl ?_
    refine j_get C 53 0 (ly_X9 C.2.2.2.2.2.2.2.1.1) q_107 rfl rfl (by decide) rfl rfl (by decide) rfl dX9_copyFrom_2 ?_
    refine j_put C 27 0 (ly_X9 C.2.2.2.2.2.2.2.1.1) q_107 rfl rfl (by decide) rfl rfl (by decide) tyX9_ok nmX9 rfl rfl ⟨rfl, rfl⟩ (Nat.le_of_ble_eq_true rfl) rfl dX9_copyFrom_5 ?_
    refine j_nmu (fun u1 eu1 => ?_)
    have h := h u1 eu1
    refine j_aload_n C 0 dX9_copyFrom_8 rfl ?_
    refine j_aload_n C 1 dX9_copyFrom_9 rfl ?_
    refine j_get C 53 1 (ly_X9 C.2.2.2.2.2.2.2.1.1) q_111 rfl rfl (by decide) rfl rfl (by decide) rfl dX9_copyFrom_10 ?_
    refine j_put C 27 1 (ly_X9 C.2.2.2.2.2.2.2.1.1) q_111 rfl rfl (by decide) rfl rfl (by decide) tyX9_ok nmX9 rfl rfl ⟨rfl, rfl⟩ (Nat.le_of_ble_eq_true rfl) rfl dX9_copyFrom_13 ?_
    refine j_nmu (fun u2 eu2 => ?_)
    have h := h u2 eu2
    refine j_aload_n C 0 dX9_copyFrom_16 rfl ?_
    refine j_aload_n C 1 dX9_copyFrom_17 rfl ?_
    refine j_get C 53 2 (ly_X9 C.2.2.2.2.2.2.2.1.1) q_115 rfl rfl (by decide) rfl rfl (by decide) rfl dX9_copyFrom_18 ?_
    refine j_put C 27 2 (ly_X9 C.2.2.2.2.2.2.2.1.1) q_115 rfl rfl (by decide) rfl rfl (by decide) tyX9_ok nmX9 rfl rfl ⟨rfl, rfl⟩ (Nat.le_of_ble_eq_true rfl) rfl dX9_copyFrom_21 ?_
    refine j_nmu (fun u3 eu3 => ?_)
    have h := h u3 eu3
    refine j_aload_n C 0 dX9_copyFrom_24 rfl ?_
    refine j_aload_n C 1 dX9_copyFrom_25 rfl ?_
    refine j_get C 53 3 (ly_X9 C.2.2.2.2.2.2.2.1.1) q_119 rfl rfl (by decide) rfl rfl (by decide) rfl dX9_copyFrom_26 ?_
    refine j_put C 27 3 (ly_X9 C.2.2.2.2.2.2.2.1.1) q_119 rfl rfl (by decide) rfl rfl (by decide) tyX9_ok nmX9 rfl rfl ⟨rfl, rfl⟩ (Nat.le_of_ble_eq_true rfl) rfl dX9_copyFrom_29 ?_
    refine j_nmu (fun u4 eu4 => ?_)
    have h := h u4 eu4
    refine j_aload_n C 1 dX9_copyFrom_32 rfl ?_
    refine j_get C 53 4 (ly_X9 C.2.2.2.2.2.2.2.1.1) q_122 rfl rfl (by decide) rfl rfl (by decide) rfl dX9_copyFrom_33 ?_
    refine j_iconst (v := 0) C dX9_copyFrom_36 (by decide) ?_
    refine j_aload_n C 0 dX9_copyFrom_37 rfl ?_
    refine j_get C 27 4 (ly_X9 C.2.2.2.2.2.2.2.1.1) q_122 rfl rfl (by decide) rfl rfl (by decide) rfl dX9_copyFrom_38 ?_
    refine j_iconst (v := 0) C dX9_copyFrom_41 (by decide) ?_
    refine j_bipush (v := 7) C dX9_copyFrom_42 (by decide) ?_
    refine j_copy (N0 := 7) (N1 := 7) C 7 54 28 q_480 q_247 q_246 q_14 (by decide) (by decide) rfl rfl (fun _ => rfl) rfl (by decide) (by decide) (by decide) (by decide) (by decide) (Nat.le_of_ble_eq_true rfl) dX9_copyFrom_44 (fun u5 eu5 => ?_)
    have h := h u5 eu5
    refine j_aload_n C 1 dX9_copyFrom_47 rfl ?_
    refine j_get C 53 5 (ly_X9 C.2.2.2.2.2.2.2.1.1) q_125 rfl rfl (by decide) rfl rfl (by decide) rfl dX9_copyFrom_48 ?_
    refine j_iconst (v := 0) C dX9_copyFrom_51 (by decide) ?_
    refine j_aload_n C 0 dX9_copyFrom_52 rfl ?_
    refine j_get C 27 5 (ly_X9 C.2.2.2.2.2.2.2.1.1) q_125 rfl rfl (by decide) rfl rfl (by decide) rfl dX9_copyFrom_53 ?_
    refine j_iconst (v := 0) C dX9_copyFrom_56 (by decide) ?_
    refine j_bipush (v := 7) C dX9_copyFrom_57 (by decide) ?_
    refine j_copy (N0 := 7) (N1 := 7) C 7 55 29 q_480 q_247 q_246 q_14 (by decide) (by decide) rfl rfl (fun _ => rfl) rfl (by decide) (by decide) (by decide) (by decide) (by decide) (Nat.le_of_ble_eq_true rfl) dX9_copyFrom_59 (fun u6 eu6 => ?_)
    have h := h u6 eu6
    exact j_vret C dX9_copyFrom_62 h

def wX1_findChoice_b122 (N : Nat) (K : MM → Prop) (ro45 : Int32 → Int32 → Int32 → Int32 → MM → Prop) (x1 : Int32) (x3 : Int32) (x4 : Int32) (x5 : Int32) (u : MM) : Prop := (∀ y19 : Int32, y19 = x5 + 1 → (ro45 x1 x3 x4 y19 u))
def wX1_findChoice_b45 (N : Nat) (K : MM → Prop) : Nat → Int32 → Int32 → Int32 → Int32 → MM → Prop
  | 0, _, _, _, _, _ => False
  | n + 1, x1, x3, x4, x5, u => ((128 ≤ x5 → (K u)) ∧ (¬ 128 ≤ x5 → (wX1_isChoosable N x5 x3 x4 u (fun r8 u9 => ((r8 = 0 → (wX1_findChoice_b122 N K (wX1_findChoice_b45 N K n) x1 x3 x4 x5 u9)) ∧ (¬ r8 = 0 → (wX9_copyFrom N 7 27 u9 (fun u12 => (wX7_goOn N x1 x5 (-1) u12 (fun r13 u14 => (wJ6_bitCount_0f7a4 N (u14 7 2) (fun r15 => ((r15 ≤ (u14 1 6) → (wX1_findChoice_b122 N K (wX1_findChoice_b45 N K n) x1 x3 x4 x5 u14)) ∧ (¬ r15 ≤ (u14 1 6) → (∀ u17 : MM, u17 = up u14 1 5 x5 → (∀ u18 : MM, u18 = up u17 1 6 r15 → (wX1_findChoice_b122 N K (wX1_findChoice_b45 N K n) x1 x3 x4 x5 u18)))))))))))))))))
def wX1_findChoice (N : Nat) (x1 : Int32) (u : MM) (K : MM → Prop) : Prop := (wX7_mayOf N 27 x1 u (fun r1 u2 => (wX7_askedOf N 27 x1 u2 (fun r3 u4 => (∀ u5 : MM, u5 = up u4 1 5 0 → (∀ u6 : MM, u6 = up u5 1 6 (-1) → (wX1_findChoice_b45 N K N x1 r1 r3 0 u6)))))))
set_option maxRecDepth 100000 in
set_option maxHeartbeats 4000000 in
theorem tX1_findChoice_b122 (l : Launch) (D : va_G) (cI cZ : ClassId) (ad q : Nat → Nat) (N : Nat) {p : Program} {e : Env} {s : State} {m : MethodId} {args : Array Value} {below : List Frame} {meth : Method} {c : Code} {K : MM → Prop} (C : CX p s m args meth c cX1_findChoice 7 RX1 none D cI cZ ad (AJ 72 q s.heap.size)) {ro45 : Int32 → Int32 → Int32 → Int32 → MM → Prop} (hro45 : ∀ (x1 : Int32) (x3 : Int32) (x4 : Int32) (x5 : Int32) (u : MM), ro45 x1 x3 x4 x5 u → JX p l e (rr 6 149) s m args below meth c D (AJ 72 q s.heap.size) 7 (MQ below ((QV D 72 q (entC q cI cZ) K) (AJ 72 q s.heap.size)) args s 0 0 (AJ 72 q s.heap.size)) 72 q (entC q cI cZ) u 45 [(0, .ref (q 1)), (1, .int x1), (2, .ref (q 27)), (3, .int x3), (4, .int x4), (5, .int x5)] []) : ∀ (x1 : Int32) (x3 : Int32) (x4 : Int32) (x5 : Int32) (u : MM), wX1_findChoice_b122 N K ro45 x1 x3 x4 x5 u → JX p l e (rr 6 149) s m args below meth c D (AJ 72 q s.heap.size) 7 (MQ below ((QV D 72 q (entC q cI cZ) K) (AJ 72 q s.heap.size)) args s 0 0 (AJ 72 q s.heap.size)) 72 q (entC q cI cZ) u 122 [(0, .ref (q 1)), (1, .int x1), (2, .ref (q 27)), (3, .int x3), (4, .int x4), (5, .int x5)] [] := by
    intro x1 x3 x4 x5 u h
    obtain ⟨y19, ey19⟩ : ∃ z : Int32, z = x5 + 1 := ⟨_, rfl⟩
    have h := h y19 ey19
    refine j_iinc (v := y19) (lv' := [(5, .int y19), (0, .ref (q 1)), (1, .int x1), (2, .ref (q 27)), (3, .int x3), (4, .int x4)]) C 5 dX1_findChoice_122 rfl (by rw [ey19]; rfl) (by decide) rfl ?_
    refine j_goto C 45 dX1_findChoice_125 (by decide) ?_
    refine j_sub (lv' := [(0, .ref (q 1)), (1, .int x1), (2, .ref (q 27)), (3, .int x3), (4, .int x4), (5, .int y19)]) [1, 2, 3, 4, 5, 0] rfl ?_
    exact hro45 _ _ _ _ _ h
set_option maxRecDepth 100000 in
set_option maxHeartbeats 4000000 in
theorem tX1_findChoice_b45 (l : Launch) (D : va_G) (cI cZ : ClassId) (ad q : Nat → Nat) (N : Nat) {p : Program} {e : Env} {s : State} {m : MethodId} {args : Array Value} {below : List Frame} {meth : Method} {c : Code} {K : MM → Prop} (C : CX p s m args meth c cX1_findChoice 7 RX1 none D cI cZ ad (AJ 72 q s.heap.size)) : ∀ (n : Nat) (x1 : Int32) (x3 : Int32) (x4 : Int32) (x5 : Int32) (u : MM), wX1_findChoice_b45 N K n x1 x3 x4 x5 u → JX p l e (rr 6 149) s m args below meth c D (AJ 72 q s.heap.size) 7 (MQ below ((QV D 72 q (entC q cI cZ) K) (AJ 72 q s.heap.size)) args s 0 0 (AJ 72 q s.heap.size)) 72 q (entC q cI cZ) u 45 [(0, .ref (q 1)), (1, .int x1), (2, .ref (q 27)), (3, .int x3), (4, .int x4), (5, .int x5)] [] := by
  intro n
  induction n with
  | zero => intro x1 x3 x4 x5 u h; exact h.elim
  | succ n ih =>
    intro x1 x3 x4 x5 u h
    refine j_iload C 5 dX1_findChoice_45 rfl ?_
    refine j_sipush (v := 128) C dX1_findChoice_47 (by decide) ?_
    refine j_icmp_ge C 128 dX1_findChoice_50 (by decide) (fun c7 => ?_) (fun c7 => ?_)
    · have h := h.1 c7
      exact j_vret C dX1_findChoice_128 h
    · have h := h.2 c7
      refine j_aload_n C 0 dX1_findChoice_53 rfl ?_
      refine j_iload C 5 dX1_findChoice_54 rfl ?_
      refine j_iload_n C 3 dX1_findChoice_56 rfl ?_
      refine j_iload C 4 dX1_findChoice_57 rfl ?_
      refine j_wi C (fun H locs ls hP hD hS hl => run_V (Cn := "") (As := [.int x5, .int x3, .int x4]) (st := []) C mf_X1_isChoosable 1 (kX_X1_isChoosable l D cI cZ ad q N h) q_509 (by decide) rfl rfl rfl rfl ⟨rfl, rfl, by decide, by decide⟩ (Nat.le_of_ble_eq_true rfl) dX1_findChoice_59 hP hD hS hl) (fun r8 u9 h => ?_)
      refine j_if_eq C 122 dX1_findChoice_62 (by decide) (fun c10 => ?_) (fun c10 => ?_)
      · have h := h.1 c10
        exact tX1_findChoice_b122 l D cI cZ ad q N C ih _ _ _ _ _ h
      · have h := h.2 c10
        refine j_aload_n C 0 dX1_findChoice_65 rfl ?_
        refine j_get C 1 1 (ly_X1 C.2.2.2.2.2.2.2.1.1) q_173 rfl rfl (by decide) rfl rfl (by decide) rfl dX1_findChoice_66 ?_
        refine j_aload_n C 2 dX1_findChoice_69 rfl ?_
        refine j_wv C (fun H locs ls hP hD hS hl => run_VN (Cn := "") (As := [.ref (q 27)]) (st := []) C mf_X9_copyFrom 7 (kX_X9_copyFrom_7_27 l D cI cZ ad q N h) q_513 (by decide) rfl rfl rfl rfl ⟨rfl, rfl, by decide, by decide⟩ (Nat.le_of_ble_eq_true rfl) dX1_findChoice_70 hP hD hS hl) (fun u12 h => ?_)
        refine j_aload_n C 0 dX1_findChoice_73 rfl ?_
        refine j_get C 1 0 (ly_X1 C.2.2.2.2.2.2.2.1.1) q_171 rfl rfl (by decide) rfl rfl (by decide) rfl dX1_findChoice_74 ?_
        refine j_aload_n C 0 dX1_findChoice_77 rfl ?_
        refine j_get C 1 1 (ly_X1 C.2.2.2.2.2.2.2.1.1) q_173 rfl rfl (by decide) rfl rfl (by decide) rfl dX1_findChoice_78 ?_
        refine j_iload_n C 1 dX1_findChoice_81 rfl ?_
        refine j_iload C 5 dX1_findChoice_82 rfl ?_
        refine j_iconst (v := (-1)) C dX1_findChoice_84 (by decide) ?_
        refine j_wi C (fun H locs ls hP hD hS hl => run_VN (Cn := "") (As := [.ref (q 7), .int x1, .int x5, .int (-1)]) (st := []) C mf_X7_goOn 2 (kX_X7_goOn l D cI cZ ad q N h) q_497 (by decide) rfl rfl rfl rfl ⟨rfl, rfl, by decide, by decide⟩ (Nat.le_of_ble_eq_true rfl) dX1_findChoice_85 hP hD hS hl) (fun r13 u14 h => ?_)
        refine j_pop C dX1_findChoice_88 rfl ?_
        refine j_aload_n C 0 dX1_findChoice_89 rfl ?_
        refine j_get C 1 1 (ly_X1 C.2.2.2.2.2.2.2.1.1) q_173 rfl rfl (by decide) rfl rfl (by decide) rfl dX1_findChoice_90 ?_
        refine j_getN C 7 2 (ly_X9 C.2.2.2.2.2.2.2.1.1) q_117 rfl rfl (by decide) rfl rfl (by decide) rfl dX1_findChoice_93 ?_
        refine j_ui C (fun H locs ls hP hD => run_S (As := [.int (u14 7 2)]) (st := []) C mf_J6_bitCount_0f7a4 (kX_J6_bitCount_0f7a4 l D cI cZ ad q N h) q_498 rfl rfl ⟨rfl, rfl, by decide, by decide⟩ (Nat.le_of_ble_eq_true rfl) dX1_findChoice_96 hP hD) (fun r15 _ h => ?_)
        refine j_istore (lv' := [(6, .int r15), (0, .ref (q 1)), (1, .int x1), (2, .ref (q 27)), (3, .int x3), (4, .int x4), (5, .int x5)]) C dX1_findChoice_99 (by decide) rfl ?_
        refine j_iload C 0 dX1_findChoice_101 rfl ?_
        refine j_aload_n C 1 dX1_findChoice_103 rfl ?_
        refine j_get C 1 6 (ly_X1 C.2.2.2.2.2.2.2.1.1) q_183 rfl rfl (by decide) rfl rfl (by decide) rfl dX1_findChoice_104 ?_
        refine j_icmp_le C 122 dX1_findChoice_107 (by decide) (fun c16 => ?_) (fun c16 => ?_)
        · have h := h.1 c16
          refine j_sub (lv' := [(0, .ref (q 1)), (1, .int x1), (2, .ref (q 27)), (3, .int x3), (4, .int x4), (5, .int x5)]) [1, 2, 3, 4, 5, 6] rfl ?_
          exact tX1_findChoice_b122 l D cI cZ ad q N C ih _ _ _ _ _ h
        · have h := h.2 c16
          refine j_aload_n C 1 dX1_findChoice_110 rfl ?_
          refine j_iload C 6 dX1_findChoice_111 rfl ?_
          refine j_put C 1 5 (ly_X1 C.2.2.2.2.2.2.2.1.1) q_181 rfl rfl (by decide) rfl rfl (by decide) tyX1_ok nmX1 rfl rfl ⟨rfl, rfl⟩ (Nat.le_of_ble_eq_true rfl) rfl dX1_findChoice_113 ?_
          refine j_nmu (fun u17 eu17 => ?_)
          have h := h u17 eu17
          refine j_aload_n C 1 dX1_findChoice_116 rfl ?_
          refine j_iload C 0 dX1_findChoice_117 rfl ?_
          refine j_put C 1 6 (ly_X1 C.2.2.2.2.2.2.2.1.1) q_183 rfl rfl (by decide) rfl rfl (by decide) tyX1_ok nmX1 rfl rfl ⟨rfl, rfl⟩ (Nat.le_of_ble_eq_true rfl) rfl dX1_findChoice_119 ?_
          refine j_nmu (fun u18 eu18 => ?_)
          have h := h u18 eu18
          refine j_sub (lv' := [(0, .ref (q 1)), (1, .int x1), (2, .ref (q 27)), (3, .int x3), (4, .int x4), (5, .int x5)]) [1, 2, 3, 4, 5, 6] rfl ?_
          exact tX1_findChoice_b122 l D cI cZ ad q N C ih _ _ _ _ _ h
set_option maxRecDepth 100000 in
set_option maxHeartbeats 4000000 in
theorem kX_X1_findChoice (l : Launch) (D : va_G) (cI cZ : ClassId) (ad q : Nat → Nat) (N : Nat) {x1 : Int32} {u : MM} {K : MM → Prop} (h : wX1_findChoice N x1 u K) : CT l D cI cZ ad 72 q (entC q cI cZ) yX1_findChoice cX1_findChoice 7 none (rr 6 149) [.ref (q 1), .int x1] u (QV D 72 q (entC q cI cZ) K) := by
    refine ct_of (by decide +kernel) (Nat.le_of_ble_eq_true rfl) (fun p e s m args below meth c C => ?_)
    refine j_sub (lv' := [(0, .ref (q 1)), (1, .int x1)]) [0, 1] rfl ?_
    refine j_aload_n C 0 dX1_findChoice_0 rfl ?_
    refine j_get C 1 0 (ly_X1 C.2.2.2.2.2.2.2.1.1) q_171 rfl rfl (by decide) rfl rfl (by decide) rfl dX1_findChoice_1 ?_
    refine j_getN C 2 0 (ly_X7 C.2.2.2.2.2.2.2.1.1) q_167 rfl rfl (by decide) rfl rfl (by decide) rfl dX1_findChoice_4 ?_
    refine j_getN C 10 4 (ly_X5 C.2.2.2.2.2.2.2.1.1) q_158 rfl rfl (by decide) rfl rfl (by decide) rfl dX1_findChoice_7 ?_
    refine j_astore_n (lv' := [(2, .ref (q 27)), (0, .ref (q 1)), (1, .int x1)]) C dX1_findChoice_10 (by decide) rfl ?_
    refine j_aload_n C 1 dX1_findChoice_11 rfl ?_
    refine j_get C 1 0 (ly_X1 C.2.2.2.2.2.2.2.1.1) q_171 rfl rfl (by decide) rfl rfl (by decide) rfl dX1_findChoice_12 ?_
    refine j_aload_n C 0 dX1_findChoice_15 rfl ?_
    refine j_iload_n C 2 dX1_findChoice_16 rfl ?_
    refine j_wi C (fun H locs ls hP hD hS hl => run_VN (Cn := "") (As := [.ref (q 27), .int x1]) (st := []) C mf_X7_mayOf 2 (kX_X7_mayOf_27 l D cI cZ ad q N h) q_507 (by decide) rfl rfl rfl rfl ⟨rfl, rfl, by decide, by decide⟩ (Nat.le_of_ble_eq_true rfl) dX1_findChoice_17 hP hD hS hl) (fun r1 u2 h => ?_)
    refine j_istore_n (lv' := [(3, .int r1), (2, .ref (q 27)), (0, .ref (q 1)), (1, .int x1)]) C dX1_findChoice_20 (by decide) rfl ?_
    refine j_aload_n C 2 dX1_findChoice_21 rfl ?_
    refine j_get C 1 0 (ly_X1 C.2.2.2.2.2.2.2.1.1) q_171 rfl rfl (by decide) rfl rfl (by decide) rfl dX1_findChoice_22 ?_
    refine j_aload_n C 1 dX1_findChoice_25 rfl ?_
    refine j_iload_n C 3 dX1_findChoice_26 rfl ?_
    refine j_wi C (fun H locs ls hP hD hS hl => run_VN (Cn := "") (As := [.ref (q 27), .int x1]) (st := []) C mf_X7_askedOf 2 (kX_X7_askedOf_27 l D cI cZ ad q N h) q_508 (by decide) rfl rfl rfl rfl ⟨rfl, rfl, by decide, by decide⟩ (Nat.le_of_ble_eq_true rfl) dX1_findChoice_27 hP hD hS hl) (fun r3 u4 h => ?_)
    refine j_istore (lv' := [(4, .int r3), (3, .int r1), (2, .ref (q 27)), (0, .ref (q 1)), (1, .int x1)]) C dX1_findChoice_30 (by decide) rfl ?_
    refine j_aload_n C 3 dX1_findChoice_32 rfl ?_
    refine j_iconst (v := 0) C dX1_findChoice_33 (by decide) ?_
    refine j_put C 1 5 (ly_X1 C.2.2.2.2.2.2.2.1.1) q_181 rfl rfl (by decide) rfl rfl (by decide) tyX1_ok nmX1 rfl rfl ⟨rfl, rfl⟩ (Nat.le_of_ble_eq_true rfl) rfl dX1_findChoice_34 ?_
    refine j_nmu (fun u5 eu5 => ?_)
    have h := h u5 eu5
    refine j_aload_n C 3 dX1_findChoice_37 rfl ?_
    refine j_iconst (v := (-1)) C dX1_findChoice_38 (by decide) ?_
    refine j_put C 1 6 (ly_X1 C.2.2.2.2.2.2.2.1.1) q_183 rfl rfl (by decide) rfl rfl (by decide) tyX1_ok nmX1 rfl rfl ⟨rfl, rfl⟩ (Nat.le_of_ble_eq_true rfl) rfl dX1_findChoice_39 ?_
    refine j_nmu (fun u6 eu6 => ?_)
    have h := h u6 eu6
    refine j_iconst (v := 0) C dX1_findChoice_42 (by decide) ?_
    refine j_istore (lv' := [(5, .int 0), (4, .int r3), (3, .int r1), (2, .ref (q 27)), (0, .ref (q 1)), (1, .int x1)]) C dX1_findChoice_43 (by decide) rfl ?_
    refine j_sub (lv' := [(0, .ref (q 1)), (1, .int x1), (2, .ref (q 27)), (3, .int r1), (4, .int r3), (5, .int 0)]) [4, 5, 3, 2, 1, 0] rfl ?_
    exact tX1_findChoice_b45 l D cI cZ ad q N C N _ _ _ _ _ h

def wX1_findReach_b98 (N : Nat) (K : Int32 → MM → Prop) (ro36 : Int32 → Int32 → Int32 → Int32 → Int32 → MM → Prop) (x1 : Int32) (x2 : Int32) (x4 : Int32) (x5 : Int32) (x6 : Int32) (u : MM) : Prop := (∀ y15 : Int32, y15 = x6 + 1 → (ro36 x1 x2 x4 x5 y15 u))
def wX1_findReach_b36 (N : Nat) (K : Int32 → MM → Prop) : Nat → Int32 → Int32 → Int32 → Int32 → Int32 → MM → Prop
  | 0, _, _, _, _, _, _ => False
  | n + 1, x1, x2, x4, x5, x6, u => ((128 ≤ x6 → (K (-5) u)) ∧ (¬ 128 ≤ x6 → (wX1_isChoosable N x6 x4 x5 u (fun r6 u7 => ((r6 = 0 → (wX1_findReach_b98 N K (wX1_findReach_b36 N K n) x1 x2 x4 x5 x6 u7)) ∧ (¬ r6 = 0 → (wX9_copyFrom N 7 27 u7 (fun u10 => (wX7_goOn N x1 x6 (-1) u10 (fun r11 u12 => (wX10_hasBit N (u12 7 2) x2 (fun r13 => ((r13 = 0 → (wX1_findReach_b98 N K (wX1_findReach_b36 N K n) x1 x2 x4 x5 x6 u12)) ∧ (¬ r13 = 0 → (K x6 u12)))))))))))))))
def wX1_findReach (N : Nat) (x1 : Int32) (x2 : Int32) (u : MM) (K : Int32 → MM → Prop) : Prop := (wX7_mayOf N 27 x1 u (fun r1 u2 => (wX7_askedOf N 27 x1 u2 (fun r3 u4 => (wX1_findReach_b36 N K N x1 x2 r1 r3 0 u4)))))
set_option maxRecDepth 100000 in
set_option maxHeartbeats 4000000 in
theorem tX1_findReach_b98 (l : Launch) (D : va_G) (cI cZ : ClassId) (ad q : Nat → Nat) (N : Nat) {p : Program} {e : Env} {s : State} {m : MethodId} {args : Array Value} {below : List Frame} {meth : Method} {c : Code} {K : Int32 → MM → Prop} (C : CX p s m args meth c cX1_findReach 7 RX1 (some .int) D cI cZ ad (AJ 72 q s.heap.size)) {ro36 : Int32 → Int32 → Int32 → Int32 → Int32 → MM → Prop} (hro36 : ∀ (x1 : Int32) (x2 : Int32) (x4 : Int32) (x5 : Int32) (x6 : Int32) (u : MM), ro36 x1 x2 x4 x5 x6 u → JX p l e (rr 6 149) s m args below meth c D (AJ 72 q s.heap.size) 7 (MQ below ((QI D 72 q (entC q cI cZ) K) (AJ 72 q s.heap.size)) args s 0 0 (AJ 72 q s.heap.size)) 72 q (entC q cI cZ) u 36 [(0, .ref (q 1)), (1, .int x1), (2, .int x2), (3, .ref (q 27)), (4, .int x4), (5, .int x5), (6, .int x6)] []) : ∀ (x1 : Int32) (x2 : Int32) (x4 : Int32) (x5 : Int32) (x6 : Int32) (u : MM), wX1_findReach_b98 N K ro36 x1 x2 x4 x5 x6 u → JX p l e (rr 6 149) s m args below meth c D (AJ 72 q s.heap.size) 7 (MQ below ((QI D 72 q (entC q cI cZ) K) (AJ 72 q s.heap.size)) args s 0 0 (AJ 72 q s.heap.size)) 72 q (entC q cI cZ) u 98 [(0, .ref (q 1)), (1, .int x1), (2, .int x2), (3, .ref (q 27)), (4, .int x4), (5, .int x5), (6, .int x6)] [] := by
    intro x1 x2 x4 x5 x6 u h
    obtain ⟨y15, ey15⟩ : ∃ z : Int32, z = x6 + 1 := ⟨_, rfl⟩
    have h := h y15 ey15
    refine j_iinc (v := y15) (lv' := [(6, .int y15), (0, .ref (q 1)), (1, .int x1), (2, .int x2), (3, .ref (q 27)), (4, .int x4), (5, .int x5)]) C 6 dX1_findReach_98 rfl (by rw [ey15]; rfl) (by decide) rfl ?_
    refine j_goto C 36 dX1_findReach_101 (by decide) ?_
    refine j_sub (lv' := [(0, .ref (q 1)), (1, .int x1), (2, .int x2), (3, .ref (q 27)), (4, .int x4), (5, .int x5), (6, .int y15)]) [1, 2, 3, 4, 5, 6, 0] rfl ?_
    exact hro36 _ _ _ _ _ _ h
set_option maxRecDepth 100000 in
set_option maxHeartbeats 4000000 in
theorem tX1_findReach_b36 (l : Launch) (D : va_G) (cI cZ : ClassId) (ad q : Nat → Nat) (N : Nat) {p : Program} {e : Env} {s : State} {m : MethodId} {args : Array Value} {below : List Frame} {meth : Method} {c : Code} {K : Int32 → MM → Prop} (C : CX p s m args meth c cX1_findReach 7 RX1 (some .int) D cI cZ ad (AJ 72 q s.heap.size)) : ∀ (n : Nat) (x1 : Int32) (x2 : Int32) (x4 : Int32) (x5 : Int32) (x6 : Int32) (u : MM), wX1_findReach_b36 N K n x1 x2 x4 x5 x6 u → JX p l e (rr 6 149) s m args below meth c D (AJ 72 q s.heap.size) 7 (MQ below ((QI D 72 q (entC q cI cZ) K) (AJ 72 q s.heap.size)) args s 0 0 (AJ 72 q s.heap.size)) 72 q (entC q cI cZ) u 36 [(0, .ref (q 1)), (1, .int x1), (2, .int x2), (3, .ref (q 27)), (4, .int x4), (5, .int x5), (6, .int x6)] [] := by
  intro n
  induction n with
  | zero => intro x1 x2 x4 x5 x6 u h; exact h.elim
  | succ n ih =>
    intro x1 x2 x4 x5 x6 u h
    refine j_iload C 6 dX1_findReach_36 rfl ?_
    refine j_sipush (v := 128) C dX1_findReach_38 (by decide) ?_
    refine j_icmp_ge C 104 dX1_findReach_41 (by decide) (fun c5 => ?_) (fun c5 => ?_)
    · have h := h.1 c5
      refine j_bipush (v := (-5)) C dX1_findReach_104 (by decide) ?_
      exact j_iret C dX1_findReach_106 h
    · have h := h.2 c5
      refine j_aload_n C 0 dX1_findReach_44 rfl ?_
      refine j_iload C 6 dX1_findReach_45 rfl ?_
      refine j_iload C 4 dX1_findReach_47 rfl ?_
      refine j_iload C 5 dX1_findReach_49 rfl ?_
      refine j_wi C (fun H locs ls hP hD hS hl => run_V (Cn := "") (As := [.int x6, .int x4, .int x5]) (st := []) C mf_X1_isChoosable 1 (kX_X1_isChoosable l D cI cZ ad q N h) q_509 (by decide) rfl rfl rfl rfl ⟨rfl, rfl, by decide, by decide⟩ (Nat.le_of_ble_eq_true rfl) dX1_findReach_51 hP hD hS hl) (fun r6 u7 h => ?_)
      refine j_if_eq C 98 dX1_findReach_54 (by decide) (fun c8 => ?_) (fun c8 => ?_)
      · have h := h.1 c8
        exact tX1_findReach_b98 l D cI cZ ad q N C ih _ _ _ _ _ _ h
      · have h := h.2 c8
        refine j_aload_n C 0 dX1_findReach_57 rfl ?_
        refine j_get C 1 1 (ly_X1 C.2.2.2.2.2.2.2.1.1) q_173 rfl rfl (by decide) rfl rfl (by decide) rfl dX1_findReach_58 ?_
        refine j_aload_n C 3 dX1_findReach_61 rfl ?_
        refine j_wv C (fun H locs ls hP hD hS hl => run_VN (Cn := "") (As := [.ref (q 27)]) (st := []) C mf_X9_copyFrom 7 (kX_X9_copyFrom_7_27 l D cI cZ ad q N h) q_513 (by decide) rfl rfl rfl rfl ⟨rfl, rfl, by decide, by decide⟩ (Nat.le_of_ble_eq_true rfl) dX1_findReach_62 hP hD hS hl) (fun u10 h => ?_)
        refine j_aload_n C 0 dX1_findReach_65 rfl ?_
        refine j_get C 1 0 (ly_X1 C.2.2.2.2.2.2.2.1.1) q_171 rfl rfl (by decide) rfl rfl (by decide) rfl dX1_findReach_66 ?_
        refine j_aload_n C 0 dX1_findReach_69 rfl ?_
        refine j_get C 1 1 (ly_X1 C.2.2.2.2.2.2.2.1.1) q_173 rfl rfl (by decide) rfl rfl (by decide) rfl dX1_findReach_70 ?_
        refine j_iload_n C 1 dX1_findReach_73 rfl ?_
        refine j_iload C 6 dX1_findReach_74 rfl ?_
        refine j_iconst (v := (-1)) C dX1_findReach_76 (by decide) ?_
        refine j_wi C (fun H locs ls hP hD hS hl => run_VN (Cn := "") (As := [.ref (q 7), .int x1, .int x6, .int (-1)]) (st := []) C mf_X7_goOn 2 (kX_X7_goOn l D cI cZ ad q N h) q_497 (by decide) rfl rfl rfl rfl ⟨rfl, rfl, by decide, by decide⟩ (Nat.le_of_ble_eq_true rfl) dX1_findReach_77 hP hD hS hl) (fun r11 u12 h => ?_)
        refine j_pop C dX1_findReach_80 rfl ?_
        refine j_aload_n C 0 dX1_findReach_81 rfl ?_
        refine j_get C 1 1 (ly_X1 C.2.2.2.2.2.2.2.1.1) q_173 rfl rfl (by decide) rfl rfl (by decide) rfl dX1_findReach_82 ?_
        refine j_getN C 7 2 (ly_X9 C.2.2.2.2.2.2.2.1.1) q_117 rfl rfl (by decide) rfl rfl (by decide) rfl dX1_findReach_85 ?_
        refine j_iload_n C 2 dX1_findReach_88 rfl ?_
        refine j_ui C (fun H locs ls hP hD => run_SN (As := [.int (u12 7 2), .int x2]) (st := []) C mf_X10_hasBit (kX_X10_hasBit l D cI cZ ad q N h) q_521 rfl rfl ⟨rfl, rfl, by decide, by decide⟩ (Nat.le_of_ble_eq_true rfl) dX1_findReach_89 hP hD) (fun r13 _ h => ?_)
        refine j_if_eq C 98 dX1_findReach_92 (by decide) (fun c14 => ?_) (fun c14 => ?_)
        · have h := h.1 c14
          exact tX1_findReach_b98 l D cI cZ ad q N C ih _ _ _ _ _ _ h
        · have h := h.2 c14
          refine j_iload C 6 dX1_findReach_95 rfl ?_
          exact j_iret C dX1_findReach_97 h
set_option maxRecDepth 100000 in
set_option maxHeartbeats 4000000 in
theorem kX_X1_findReach (l : Launch) (D : va_G) (cI cZ : ClassId) (ad q : Nat → Nat) (N : Nat) {x1 : Int32} {x2 : Int32} {u : MM} {K : Int32 → MM → Prop} (h : wX1_findReach N x1 x2 u K) : CT l D cI cZ ad 72 q (entC q cI cZ) yX1_findReach cX1_findReach 7 (some .int) (rr 6 149) [.ref (q 1), .int x1, .int x2] u (QI D 72 q (entC q cI cZ) K) := by
    refine ct_of (by decide +kernel) (Nat.le_of_ble_eq_true rfl) (fun p e s m args below meth c C => ?_)
    refine j_sub (lv' := [(0, .ref (q 1)), (1, .int x1), (2, .int x2)]) [0, 1, 2] rfl ?_
    refine j_aload_n C 0 dX1_findReach_0 rfl ?_
    refine j_get C 1 0 (ly_X1 C.2.2.2.2.2.2.2.1.1) q_171 rfl rfl (by decide) rfl rfl (by decide) rfl dX1_findReach_1 ?_
    refine j_getN C 2 0 (ly_X7 C.2.2.2.2.2.2.2.1.1) q_167 rfl rfl (by decide) rfl rfl (by decide) rfl dX1_findReach_4 ?_
    refine j_getN C 10 4 (ly_X5 C.2.2.2.2.2.2.2.1.1) q_158 rfl rfl (by decide) rfl rfl (by decide) rfl dX1_findReach_7 ?_
    refine j_astore_n (lv' := [(3, .ref (q 27)), (0, .ref (q 1)), (1, .int x1), (2, .int x2)]) C dX1_findReach_10 (by decide) rfl ?_
    refine j_aload_n C 1 dX1_findReach_11 rfl ?_
    refine j_get C 1 0 (ly_X1 C.2.2.2.2.2.2.2.1.1) q_171 rfl rfl (by decide) rfl rfl (by decide) rfl dX1_findReach_12 ?_
    refine j_aload_n C 0 dX1_findReach_15 rfl ?_
    refine j_iload_n C 2 dX1_findReach_16 rfl ?_
    refine j_wi C (fun H locs ls hP hD hS hl => run_VN (Cn := "") (As := [.ref (q 27), .int x1]) (st := []) C mf_X7_mayOf 2 (kX_X7_mayOf_27 l D cI cZ ad q N h) q_507 (by decide) rfl rfl rfl rfl ⟨rfl, rfl, by decide, by decide⟩ (Nat.le_of_ble_eq_true rfl) dX1_findReach_17 hP hD hS hl) (fun r1 u2 h => ?_)
    refine j_istore (lv' := [(4, .int r1), (3, .ref (q 27)), (0, .ref (q 1)), (1, .int x1), (2, .int x2)]) C dX1_findReach_20 (by decide) rfl ?_
    refine j_aload_n C 2 dX1_findReach_22 rfl ?_
    refine j_get C 1 0 (ly_X1 C.2.2.2.2.2.2.2.1.1) q_171 rfl rfl (by decide) rfl rfl (by decide) rfl dX1_findReach_23 ?_
    refine j_aload_n C 1 dX1_findReach_26 rfl ?_
    refine j_iload_n C 3 dX1_findReach_27 rfl ?_
    refine j_wi C (fun H locs ls hP hD hS hl => run_VN (Cn := "") (As := [.ref (q 27), .int x1]) (st := []) C mf_X7_askedOf 2 (kX_X7_askedOf_27 l D cI cZ ad q N h) q_508 (by decide) rfl rfl rfl rfl ⟨rfl, rfl, by decide, by decide⟩ (Nat.le_of_ble_eq_true rfl) dX1_findReach_28 hP hD hS hl) (fun r3 u4 h => ?_)
    refine j_istore (lv' := [(5, .int r3), (4, .int r1), (3, .ref (q 27)), (0, .ref (q 1)), (1, .int x1), (2, .int x2)]) C dX1_findReach_31 (by decide) rfl ?_
    refine j_iconst (v := 0) C dX1_findReach_33 (by decide) ?_
    refine j_istore (lv' := [(6, .int 0), (5, .int r3), (4, .int r1), (3, .ref (q 27)), (0, .ref (q 1)), (1, .int x1), (2, .int x2)]) C dX1_findReach_34 (by decide) rfl ?_
    refine j_sub (lv' := [(0, .ref (q 1)), (1, .int x1), (2, .int x2), (3, .ref (q 27)), (4, .int r1), (5, .int r3), (6, .int 0)]) [4, 5, 6, 3, 2, 1, 0] rfl ?_
    exact tX1_findReach_b36 l D cI cZ ad q N C N _ _ _ _ _ _ h

def wX1_isAsSeen_b86 (N : Nat) (K : Int32 → MM → Prop) (ro36 : Int32 → MM → Prop) (ro46 : Int32 → Int32 → MM → Prop) (x4 : Int32) (x5 : Int32) (u : MM) : Prop := (∀ y10 : Int32, y10 = x5 + 1 → (ro46 x4 y10 u))
def wX1_isAsSeen_b46 (N : Nat) (K : Int32 → MM → Prop) (ro36 : Int32 → MM → Prop) : Nat → Int32 → Int32 → MM → Prop
  | 0, _, _, _ => False
  | n + 1, x4, x5, u => (((u 30 0) ≤ x5 → (wX7_goDay N 7 (-1) 0 (-1) u (fun r5 u6 => (∀ y7 : Int32, y7 = x4 + 1 → (ro36 y7 u6))))) ∧ (¬ (u 30 0) ≤ x5 → (vp_in x5 6 ∧ ((¬ (u 32 x5.toNatClampNeg) = x4 → (wX1_isAsSeen_b86 N K ro36 (wX1_isAsSeen_b46 N K ro36 n) x4 x5 u)) ∧ ((u 32 x5.toNatClampNeg) = x4 → (vp_in x5 6 ∧ (((u 31 x5.toNatClampNeg) = (u 7 2) → (wX1_isAsSeen_b86 N K ro36 (wX1_isAsSeen_b46 N K ro36 n) x4 x5 u)) ∧ (¬ (u 31 x5.toNatClampNeg) = (u 7 2) → (K 0 u)))))))))
def wX1_isAsSeen_b36 (N : Nat) (K : Int32 → MM → Prop) : Nat → Int32 → MM → Prop
  | 0, _, _ => False
  | n + 1, x4, u => ((6 < x4 → (K 1 u)) ∧ (¬ 6 < x4 → (wX1_isAsSeen_b46 N K (wX1_isAsSeen_b36 N K n) N x4 0 u)))
def wX1_isAsSeen (N : Nat) (x1 : Int32) (x2 : Int32) (u : MM) (K : Int32 → MM → Prop) : Prop := (wX9_startWith N 7 x1 x2 (u 27 0) u (fun u2 => (wX1_isAsSeen_b36 N K N 0 u2)))
set_option maxRecDepth 100000 in
set_option maxHeartbeats 4000000 in
theorem tX1_isAsSeen_b86 (l : Launch) (D : va_G) (cI cZ : ClassId) (ad q : Nat → Nat) (N : Nat) {p : Program} {e : Env} {s : State} {m : MethodId} {args : Array Value} {below : List Frame} {meth : Method} {c : Code} {K : Int32 → MM → Prop} (C : CX p s m args meth c cX1_isAsSeen 6 RX1 (some .boolean) D cI cZ ad (AJ 72 q s.heap.size)) {ro36 : Int32 → MM → Prop} (hro36 : ∀ (x4 : Int32) (u : MM), ro36 x4 u → JX p l e (rr 5 124) s m args below meth c D (AJ 72 q s.heap.size) 6 (MQ below ((QI D 72 q (entC q cI cZ) K) (AJ 72 q s.heap.size)) args s 0 0 (AJ 72 q s.heap.size)) 72 q (entC q cI cZ) u 36 [(0, .ref (q 1)), (3, .ref (q 30)), (4, .int x4)] []) {ro46 : Int32 → Int32 → MM → Prop} (hro46 : ∀ (x4 : Int32) (x5 : Int32) (u : MM), ro46 x4 x5 u → JX p l e (rr 5 124) s m args below meth c D (AJ 72 q s.heap.size) 6 (MQ below ((QI D 72 q (entC q cI cZ) K) (AJ 72 q s.heap.size)) args s 0 0 (AJ 72 q s.heap.size)) 72 q (entC q cI cZ) u 46 [(0, .ref (q 1)), (3, .ref (q 30)), (4, .int x4), (5, .int x5)] []) : ∀ (x4 : Int32) (x5 : Int32) (u : MM), wX1_isAsSeen_b86 N K ro36 ro46 x4 x5 u → JX p l e (rr 5 124) s m args below meth c D (AJ 72 q s.heap.size) 6 (MQ below ((QI D 72 q (entC q cI cZ) K) (AJ 72 q s.heap.size)) args s 0 0 (AJ 72 q s.heap.size)) 72 q (entC q cI cZ) u 86 [(0, .ref (q 1)), (3, .ref (q 30)), (4, .int x4), (5, .int x5)] [] := by
    intro x4 x5 u h
    obtain ⟨y10, ey10⟩ : ∃ z : Int32, z = x5 + 1 := ⟨_, rfl⟩
    have h := h y10 ey10
    refine j_iinc (v := y10) (lv' := [(5, .int y10), (0, .ref (q 1)), (3, .ref (q 30)), (4, .int x4)]) C 3 dX1_isAsSeen_86 rfl (by rw [ey10]; rfl) (by decide) rfl ?_
    refine j_goto C 46 dX1_isAsSeen_89 (by decide) ?_
    refine j_sub (lv' := [(0, .ref (q 1)), (3, .ref (q 30)), (4, .int x4), (5, .int y10)]) [1, 2, 3, 0] rfl ?_
    exact hro46 _ _ _ h
set_option maxRecDepth 100000 in
set_option maxHeartbeats 4000000 in
theorem tX1_isAsSeen_b46 (l : Launch) (D : va_G) (cI cZ : ClassId) (ad q : Nat → Nat) (N : Nat) {p : Program} {e : Env} {s : State} {m : MethodId} {args : Array Value} {below : List Frame} {meth : Method} {c : Code} {K : Int32 → MM → Prop} (C : CX p s m args meth c cX1_isAsSeen 6 RX1 (some .boolean) D cI cZ ad (AJ 72 q s.heap.size)) {ro36 : Int32 → MM → Prop} (hro36 : ∀ (x4 : Int32) (u : MM), ro36 x4 u → JX p l e (rr 5 124) s m args below meth c D (AJ 72 q s.heap.size) 6 (MQ below ((QI D 72 q (entC q cI cZ) K) (AJ 72 q s.heap.size)) args s 0 0 (AJ 72 q s.heap.size)) 72 q (entC q cI cZ) u 36 [(0, .ref (q 1)), (3, .ref (q 30)), (4, .int x4)] []) : ∀ (n : Nat) (x4 : Int32) (x5 : Int32) (u : MM), wX1_isAsSeen_b46 N K ro36 n x4 x5 u → JX p l e (rr 5 124) s m args below meth c D (AJ 72 q s.heap.size) 6 (MQ below ((QI D 72 q (entC q cI cZ) K) (AJ 72 q s.heap.size)) args s 0 0 (AJ 72 q s.heap.size)) 72 q (entC q cI cZ) u 46 [(0, .ref (q 1)), (3, .ref (q 30)), (4, .int x4), (5, .int x5)] [] := by
  intro n
  induction n with
  | zero => intro x4 x5 u h; exact h.elim
  | succ n ih =>
    intro x4 x5 u h
    refine j_iload C 3 dX1_isAsSeen_46 rfl ?_
    refine j_aload_n C 1 dX1_isAsSeen_48 rfl ?_
    refine j_getN C 30 0 (ly_X4 C.2.2.2.2.2.2.2.1.1) q_138 rfl rfl (by decide) rfl rfl (by decide) rfl dX1_isAsSeen_49 ?_
    refine j_icmp_ge C 92 dX1_isAsSeen_52 (by decide) (fun c4 => ?_) (fun c4 => ?_)
    · have h := h.1 c4
      refine j_aload_n C 0 dX1_isAsSeen_92 rfl ?_
      refine j_get C 1 0 (ly_X1 C.2.2.2.2.2.2.2.1.1) q_171 rfl rfl (by decide) rfl rfl (by decide) rfl dX1_isAsSeen_93 ?_
      refine j_aload_n C 0 dX1_isAsSeen_96 rfl ?_
      refine j_get C 1 1 (ly_X1 C.2.2.2.2.2.2.2.1.1) q_173 rfl rfl (by decide) rfl rfl (by decide) rfl dX1_isAsSeen_97 ?_
      refine j_iconst (v := (-1)) C dX1_isAsSeen_100 (by decide) ?_
      refine j_iconst (v := 0) C dX1_isAsSeen_101 (by decide) ?_
      refine j_iconst (v := (-1)) C dX1_isAsSeen_102 (by decide) ?_
      refine j_wi C (fun H locs ls hP hD hS hl => run_VN (Cn := "") (As := [.ref (q 7), .int (-1), .int 0, .int (-1)]) (st := []) C mf_X7_goDay 2 (kX_X7_goDay_7 l D cI cZ ad q N h) q_539 (by decide) rfl rfl rfl rfl ⟨rfl, rfl, by decide, by decide⟩ (Nat.le_of_ble_eq_true rfl) dX1_isAsSeen_103 hP hD hS hl) (fun r5 u6 h => ?_)
      refine j_pop C dX1_isAsSeen_106 rfl ?_
      obtain ⟨y7, ey7⟩ : ∃ z : Int32, z = x4 + 1 := ⟨_, rfl⟩
      have h := h y7 ey7
      refine j_iinc (v := y7) (lv' := [(4, .int y7), (0, .ref (q 1)), (3, .ref (q 30)), (5, .int x5)]) C 2 dX1_isAsSeen_107 rfl (by rw [ey7]; rfl) (by decide) rfl ?_
      refine j_goto C 36 dX1_isAsSeen_110 (by decide) ?_
      refine j_sub (lv' := [(0, .ref (q 1)), (3, .ref (q 30)), (4, .int y7)]) [1, 2, 0] rfl ?_
      exact hro36 _ _ h
    · have h := h.2 c4
      refine j_aload_n C 1 dX1_isAsSeen_55 rfl ?_
      refine j_getN C 30 2 (ly_X4 C.2.2.2.2.2.2.2.1.1) q_144 rfl rfl (by decide) rfl rfl (by decide) rfl dX1_isAsSeen_56 ?_
      refine j_iload C 3 dX1_isAsSeen_59 rfl ?_
      obtain ⟨hin, h⟩ := h
      refine j_ialoadK (N := 6) C 32 _ rfl hin (by decide) rfl rfl dX1_isAsSeen_61 ?_
      refine j_iload C 2 dX1_isAsSeen_62 rfl ?_
      refine j_icmp_ne C 86 dX1_isAsSeen_64 (by decide) (fun c8 => ?_) (fun c8 => ?_)
      · have h := h.1 c8
        exact tX1_isAsSeen_b86 l D cI cZ ad q N C (hro36) ih _ _ _ h
      · have h := h.2 c8
        refine j_aload_n C 1 dX1_isAsSeen_67 rfl ?_
        refine j_getN C 30 1 (ly_X4 C.2.2.2.2.2.2.2.1.1) q_141 rfl rfl (by decide) rfl rfl (by decide) rfl dX1_isAsSeen_68 ?_
        refine j_iload C 3 dX1_isAsSeen_71 rfl ?_
        obtain ⟨hin, h⟩ := h
        refine j_ialoadK (N := 6) C 31 _ rfl hin (by decide) rfl rfl dX1_isAsSeen_73 ?_
        refine j_aload_n C 0 dX1_isAsSeen_74 rfl ?_
        refine j_get C 1 1 (ly_X1 C.2.2.2.2.2.2.2.1.1) q_173 rfl rfl (by decide) rfl rfl (by decide) rfl dX1_isAsSeen_75 ?_
        refine j_getN C 7 2 (ly_X9 C.2.2.2.2.2.2.2.1.1) q_117 rfl rfl (by decide) rfl rfl (by decide) rfl dX1_isAsSeen_78 ?_
        refine j_icmp_eq C 86 dX1_isAsSeen_81 (by decide) (fun c9 => ?_) (fun c9 => ?_)
        · have h := h.1 c9
          exact tX1_isAsSeen_b86 l D cI cZ ad q N C (hro36) ih _ _ _ h
        · have h := h.2 c9
          refine j_iconst (v := 0) C dX1_isAsSeen_84 (by decide) ?_
          exact j_zret C dX1_isAsSeen_85 rfl h
set_option maxRecDepth 100000 in
set_option maxHeartbeats 4000000 in
theorem tX1_isAsSeen_b36 (l : Launch) (D : va_G) (cI cZ : ClassId) (ad q : Nat → Nat) (N : Nat) {p : Program} {e : Env} {s : State} {m : MethodId} {args : Array Value} {below : List Frame} {meth : Method} {c : Code} {K : Int32 → MM → Prop} (C : CX p s m args meth c cX1_isAsSeen 6 RX1 (some .boolean) D cI cZ ad (AJ 72 q s.heap.size)) : ∀ (n : Nat) (x4 : Int32) (u : MM), wX1_isAsSeen_b36 N K n x4 u → JX p l e (rr 5 124) s m args below meth c D (AJ 72 q s.heap.size) 6 (MQ below ((QI D 72 q (entC q cI cZ) K) (AJ 72 q s.heap.size)) args s 0 0 (AJ 72 q s.heap.size)) 72 q (entC q cI cZ) u 36 [(0, .ref (q 1)), (3, .ref (q 30)), (4, .int x4)] [] := by
  intro n
  induction n with
  | zero => intro x4 u h; exact h.elim
  | succ n ih =>
    intro x4 u h
    refine j_iload C 2 dX1_isAsSeen_36 rfl ?_
    refine j_bipush (v := 6) C dX1_isAsSeen_38 (by decide) ?_
    refine j_icmp_gt C 113 dX1_isAsSeen_40 (by decide) (fun c3 => ?_) (fun c3 => ?_)
    · have h := h.1 c3
      refine j_iconst (v := 1) C dX1_isAsSeen_113 (by decide) ?_
      exact j_zret C dX1_isAsSeen_114 rfl h
    · have h := h.2 c3
      refine j_iconst (v := 0) C dX1_isAsSeen_43 (by decide) ?_
      refine j_istore (lv' := [(5, .int 0), (0, .ref (q 1)), (3, .ref (q 30)), (4, .int x4)]) C dX1_isAsSeen_44 (by decide) rfl ?_
      refine j_sub (lv' := [(0, .ref (q 1)), (3, .ref (q 30)), (4, .int x4), (5, .int 0)]) [1, 2, 3, 0] rfl ?_
      exact tX1_isAsSeen_b46 l D cI cZ ad q N C ih N _ _ _ h
set_option maxRecDepth 100000 in
set_option maxHeartbeats 4000000 in
theorem kX_X1_isAsSeen (l : Launch) (D : va_G) (cI cZ : ClassId) (ad q : Nat → Nat) (N : Nat) {x1 : Int32} {x2 : Int32} {u : MM} {K : Int32 → MM → Prop} (h : wX1_isAsSeen N x1 x2 u K) : CT l D cI cZ ad 72 q (entC q cI cZ) yX1_isAsSeen cX1_isAsSeen 6 (some .boolean) (rr 5 124) [.ref (q 1), .int x1, .int x2] u (QI D 72 q (entC q cI cZ) K) := by
    refine ct_of (by decide +kernel) (Nat.le_of_ble_eq_true rfl) (fun p e s m args below meth c C => ?_)
    refine j_sub (lv' := [(0, .ref (q 1)), (1, .int x1), (2, .int x2)]) [0, 1, 2] rfl ?_
    refine j_aload_n C 0 dX1_isAsSeen_0 rfl ?_
    refine j_get C 1 1 (ly_X1 C.2.2.2.2.2.2.2.1.1) q_173 rfl rfl (by decide) rfl rfl (by decide) rfl dX1_isAsSeen_1 ?_
    refine j_iload_n C 1 dX1_isAsSeen_4 rfl ?_
    refine j_iload_n C 2 dX1_isAsSeen_5 rfl ?_
    refine j_aload_n C 0 dX1_isAsSeen_6 rfl ?_
    refine j_get C 1 0 (ly_X1 C.2.2.2.2.2.2.2.1.1) q_171 rfl rfl (by decide) rfl rfl (by decide) rfl dX1_isAsSeen_7 ?_
    refine j_getN C 2 0 (ly_X7 C.2.2.2.2.2.2.2.1.1) q_167 rfl rfl (by decide) rfl rfl (by decide) rfl dX1_isAsSeen_10 ?_
    refine j_getN C 10 4 (ly_X5 C.2.2.2.2.2.2.2.1.1) q_158 rfl rfl (by decide) rfl rfl (by decide) rfl dX1_isAsSeen_13 ?_
    refine j_getN C 27 0 (ly_X9 C.2.2.2.2.2.2.2.1.1) q_108 rfl rfl (by decide) rfl rfl (by decide) rfl dX1_isAsSeen_16 ?_
    refine j_wv C (fun H locs ls hP hD hS hl => run_VN (Cn := "") (As := [.int x1, .int x2, .int (u 27 0)]) (st := []) C mf_X9_startWith 7 (kX_X9_startWith_7 l D cI cZ ad q N h) q_496 (by decide) rfl rfl rfl rfl ⟨rfl, rfl, by decide, by decide⟩ (Nat.le_of_ble_eq_true rfl) dX1_isAsSeen_19 hP hD hS hl) (fun u2 h => ?_)
    refine j_aload_n C 0 dX1_isAsSeen_22 rfl ?_
    refine j_get C 1 0 (ly_X1 C.2.2.2.2.2.2.2.1.1) q_171 rfl rfl (by decide) rfl rfl (by decide) rfl dX1_isAsSeen_23 ?_
    refine j_getN C 2 0 (ly_X7 C.2.2.2.2.2.2.2.1.1) q_167 rfl rfl (by decide) rfl rfl (by decide) rfl dX1_isAsSeen_26 ?_
    refine j_getN C 10 5 (ly_X5 C.2.2.2.2.2.2.2.1.1) q_161 rfl rfl (by decide) rfl rfl (by decide) rfl dX1_isAsSeen_29 ?_
    refine j_astore_n (lv' := [(3, .ref (q 30)), (0, .ref (q 1)), (1, .int x1), (2, .int x2)]) C dX1_isAsSeen_32 (by decide) rfl ?_
    refine j_iconst (v := 0) C dX1_isAsSeen_33 (by decide) ?_
    refine j_istore (lv' := [(4, .int 0), (3, .ref (q 30)), (0, .ref (q 1)), (1, .int x1), (2, .int x2)]) C dX1_isAsSeen_34 (by decide) rfl ?_
    refine j_sub (lv' := [(0, .ref (q 1)), (3, .ref (q 30)), (4, .int 0)]) [2, 1, 0] rfl ?_
    exact tX1_isAsSeen_b36 l D cI cZ ad q N C N _ _ h

def wX1_findBegan_b81 (N : Nat) (K : MM → Prop) (ro13 : Int32 → MM → Prop) (ro32 : Int32 → Int32 → MM → Prop) (x1 : Int32) (x2 : Int32) (u : MM) : Prop := (∀ y12 : Int32, y12 = x2 + 1 → (ro32 x1 y12 u))
def wX1_findBegan_b68 (N : Nat) (K : MM → Prop) (ro13 : Int32 → MM → Prop) (ro32 : Int32 → Int32 → MM → Prop) (x1 : Int32) (x2 : Int32) (s0 : Int32) (u : MM) : Prop := (∀ u10 : MM, u10 = up u 1 8 s0 → (∀ u11 : MM, u11 = up u10 1 7 ((u10 1 7) + 1) → (wX1_findBegan_b81 N K ro13 ro32 x1 x2 u11)))
def wX1_findBegan_b32 (N : Nat) (K : MM → Prop) (ro13 : Int32 → MM → Prop) : Nat → Int32 → Int32 → MM → Prop
  | 0, _, _, _ => False
  | n + 1, x1, x2, u => ((6 < x2 → (∀ y5 : Int32, y5 = x1 + 1 → (ro13 y5 u))) ∧ (¬ 6 < x2 → (wX1_isAsSeen N x1 x2 u (fun r6 u7 => ((r6 = 0 → (wX1_findBegan_b81 N K ro13 (wX1_findBegan_b32 N K ro13 n) x1 x2 u7)) ∧ (¬ r6 = 0 → ((¬ (u7 1 7) = 0 → (wX1_findBegan_b68 N K ro13 (wX1_findBegan_b32 N K ro13 n) x1 x2 (u7 1 8) u7)) ∧ ((u7 1 7) = 0 → (wX1_findBegan_b68 N K ro13 (wX1_findBegan_b32 N K ro13 n) x1 x2 ((10 * x1) + x2) u7)))))))))
def wX1_findBegan_b13 (N : Nat) (K : MM → Prop) : Nat → Int32 → MM → Prop
  | 0, _, _ => False
  | n + 1, x1, u => (((u 21 0) ≤ x1 → (K u)) ∧ (¬ (u 21 0) ≤ x1 → (wX1_findBegan_b32 N K (wX1_findBegan_b13 N K n) N x1 0 u)))
def wX1_findBegan (N : Nat) (u : MM) (K : MM → Prop) : Prop := (∀ u1 : MM, u1 = up u 1 7 0 → (∀ u2 : MM, u2 = up u1 1 8 (-5) → (wX1_findBegan_b13 N K N 0 u2)))
set_option maxRecDepth 100000 in
set_option maxHeartbeats 4000000 in
theorem tX1_findBegan_b81 (l : Launch) (D : va_G) (cI cZ : ClassId) (ad q : Nat → Nat) (N : Nat) {p : Program} {e : Env} {s : State} {m : MethodId} {args : Array Value} {below : List Frame} {meth : Method} {c : Code} {K : MM → Prop} (C : CX p s m args meth c cX1_findBegan 3 RX1 none D cI cZ ad (AJ 72 q s.heap.size)) {ro13 : Int32 → MM → Prop} (hro13 : ∀ (x1 : Int32) (u : MM), ro13 x1 u → JX p l e (rr 6 149) s m args below meth c D (AJ 72 q s.heap.size) 3 (MQ below ((QV D 72 q (entC q cI cZ) K) (AJ 72 q s.heap.size)) args s 0 0 (AJ 72 q s.heap.size)) 72 q (entC q cI cZ) u 13 [(0, .ref (q 1)), (1, .int x1)] []) {ro32 : Int32 → Int32 → MM → Prop} (hro32 : ∀ (x1 : Int32) (x2 : Int32) (u : MM), ro32 x1 x2 u → JX p l e (rr 6 149) s m args below meth c D (AJ 72 q s.heap.size) 3 (MQ below ((QV D 72 q (entC q cI cZ) K) (AJ 72 q s.heap.size)) args s 0 0 (AJ 72 q s.heap.size)) 72 q (entC q cI cZ) u 32 [(0, .ref (q 1)), (1, .int x1), (2, .int x2)] []) : ∀ (x1 : Int32) (x2 : Int32) (u : MM), wX1_findBegan_b81 N K ro13 ro32 x1 x2 u → JX p l e (rr 6 149) s m args below meth c D (AJ 72 q s.heap.size) 3 (MQ below ((QV D 72 q (entC q cI cZ) K) (AJ 72 q s.heap.size)) args s 0 0 (AJ 72 q s.heap.size)) 72 q (entC q cI cZ) u 81 [(0, .ref (q 1)), (1, .int x1), (2, .int x2)] [] := by
    intro x1 x2 u h
    obtain ⟨y12, ey12⟩ : ∃ z : Int32, z = x2 + 1 := ⟨_, rfl⟩
    have h := h y12 ey12
    refine j_iinc (v := y12) (lv' := [(2, .int y12), (0, .ref (q 1)), (1, .int x1)]) C 2 dX1_findBegan_81 rfl (by rw [ey12]; rfl) (by decide) rfl ?_
    refine j_goto C 32 dX1_findBegan_84 (by decide) ?_
    refine j_sub (lv' := [(0, .ref (q 1)), (1, .int x1), (2, .int y12)]) [1, 2, 0] rfl ?_
    exact hro32 _ _ _ h
set_option maxRecDepth 100000 in
set_option maxHeartbeats 4000000 in
theorem tX1_findBegan_b68 (l : Launch) (D : va_G) (cI cZ : ClassId) (ad q : Nat → Nat) (N : Nat) {p : Program} {e : Env} {s : State} {m : MethodId} {args : Array Value} {below : List Frame} {meth : Method} {c : Code} {K : MM → Prop} (C : CX p s m args meth c cX1_findBegan 3 RX1 none D cI cZ ad (AJ 72 q s.heap.size)) {ro13 : Int32 → MM → Prop} (hro13 : ∀ (x1 : Int32) (u : MM), ro13 x1 u → JX p l e (rr 6 149) s m args below meth c D (AJ 72 q s.heap.size) 3 (MQ below ((QV D 72 q (entC q cI cZ) K) (AJ 72 q s.heap.size)) args s 0 0 (AJ 72 q s.heap.size)) 72 q (entC q cI cZ) u 13 [(0, .ref (q 1)), (1, .int x1)] []) {ro32 : Int32 → Int32 → MM → Prop} (hro32 : ∀ (x1 : Int32) (x2 : Int32) (u : MM), ro32 x1 x2 u → JX p l e (rr 6 149) s m args below meth c D (AJ 72 q s.heap.size) 3 (MQ below ((QV D 72 q (entC q cI cZ) K) (AJ 72 q s.heap.size)) args s 0 0 (AJ 72 q s.heap.size)) 72 q (entC q cI cZ) u 32 [(0, .ref (q 1)), (1, .int x1), (2, .int x2)] []) : ∀ (x1 : Int32) (x2 : Int32) (s0 : Int32) (u : MM), wX1_findBegan_b68 N K ro13 ro32 x1 x2 s0 u → JX p l e (rr 6 149) s m args below meth c D (AJ 72 q s.heap.size) 3 (MQ below ((QV D 72 q (entC q cI cZ) K) (AJ 72 q s.heap.size)) args s 0 0 (AJ 72 q s.heap.size)) 72 q (entC q cI cZ) u 68 [(0, .ref (q 1)), (1, .int x1), (2, .int x2)] [.int s0, .ref (q 1)] := by
    intro x1 x2 s0 u h
    refine j_put C 1 8 (ly_X1 C.2.2.2.2.2.2.2.1.1) q_187 rfl rfl (by decide) rfl rfl (by decide) tyX1_ok nmX1 rfl rfl ⟨rfl, rfl⟩ (Nat.le_of_ble_eq_true rfl) rfl dX1_findBegan_68 ?_
    refine j_nmu (fun u10 eu10 => ?_)
    have h := h u10 eu10
    refine j_aload_n C 0 dX1_findBegan_71 rfl ?_
    refine j_dup C dX1_findBegan_72 rfl ?_
    refine j_get C 1 7 (ly_X1 C.2.2.2.2.2.2.2.1.1) q_185 rfl rfl (by decide) rfl rfl (by decide) rfl dX1_findBegan_73 ?_
    refine j_iconst (v := 1) C dX1_findBegan_76 (by decide) ?_
    refine j_iadd C dX1_findBegan_77 ?_
    refine j_put C 1 7 (ly_X1 C.2.2.2.2.2.2.2.1.1) q_185 rfl rfl (by decide) rfl rfl (by decide) tyX1_ok nmX1 rfl rfl ⟨rfl, rfl⟩ (Nat.le_of_ble_eq_true rfl) rfl dX1_findBegan_78 ?_
    refine j_nmu (fun u11 eu11 => ?_)
    have h := h u11 eu11
    exact tX1_findBegan_b81 l D cI cZ ad q N C (hro13) (hro32) _ _ _ h
set_option maxRecDepth 100000 in
set_option maxHeartbeats 4000000 in
theorem tX1_findBegan_b32 (l : Launch) (D : va_G) (cI cZ : ClassId) (ad q : Nat → Nat) (N : Nat) {p : Program} {e : Env} {s : State} {m : MethodId} {args : Array Value} {below : List Frame} {meth : Method} {c : Code} {K : MM → Prop} (C : CX p s m args meth c cX1_findBegan 3 RX1 none D cI cZ ad (AJ 72 q s.heap.size)) {ro13 : Int32 → MM → Prop} (hro13 : ∀ (x1 : Int32) (u : MM), ro13 x1 u → JX p l e (rr 6 149) s m args below meth c D (AJ 72 q s.heap.size) 3 (MQ below ((QV D 72 q (entC q cI cZ) K) (AJ 72 q s.heap.size)) args s 0 0 (AJ 72 q s.heap.size)) 72 q (entC q cI cZ) u 13 [(0, .ref (q 1)), (1, .int x1)] []) : ∀ (n : Nat) (x1 : Int32) (x2 : Int32) (u : MM), wX1_findBegan_b32 N K ro13 n x1 x2 u → JX p l e (rr 6 149) s m args below meth c D (AJ 72 q s.heap.size) 3 (MQ below ((QV D 72 q (entC q cI cZ) K) (AJ 72 q s.heap.size)) args s 0 0 (AJ 72 q s.heap.size)) 72 q (entC q cI cZ) u 32 [(0, .ref (q 1)), (1, .int x1), (2, .int x2)] [] := by
  intro n
  induction n with
  | zero => intro x1 x2 u h; exact h.elim
  | succ n ih =>
    intro x1 x2 u h
    refine j_iload_n C 2 dX1_findBegan_32 rfl ?_
    refine j_bipush (v := 6) C dX1_findBegan_33 (by decide) ?_
    refine j_icmp_gt C 87 dX1_findBegan_35 (by decide) (fun c4 => ?_) (fun c4 => ?_)
    · have h := h.1 c4
      obtain ⟨y5, ey5⟩ : ∃ z : Int32, z = x1 + 1 := ⟨_, rfl⟩
      have h := h y5 ey5
      refine j_iinc (v := y5) (lv' := [(1, .int y5), (0, .ref (q 1)), (2, .int x2)]) C 1 dX1_findBegan_87 rfl (by rw [ey5]; rfl) (by decide) rfl ?_
      refine j_goto C 13 dX1_findBegan_90 (by decide) ?_
      refine j_sub (lv' := [(0, .ref (q 1)), (1, .int y5)]) [1, 0] rfl ?_
      exact hro13 _ _ h
    · have h := h.2 c4
      refine j_aload_n C 0 dX1_findBegan_38 rfl ?_
      refine j_iload_n C 1 dX1_findBegan_39 rfl ?_
      refine j_iload_n C 2 dX1_findBegan_40 rfl ?_
      refine j_wi C (fun H locs ls hP hD hS hl => run_V (Cn := "") (As := [.int x1, .int x2]) (st := []) C mf_X1_isAsSeen 1 (kX_X1_isAsSeen l D cI cZ ad q N h) q_536 (by decide) rfl rfl rfl rfl ⟨rfl, rfl, by decide, by decide⟩ (Nat.le_of_ble_eq_true rfl) dX1_findBegan_41 hP hD hS hl) (fun r6 u7 h => ?_)
      refine j_if_eq C 81 dX1_findBegan_44 (by decide) (fun c8 => ?_) (fun c8 => ?_)
      · have h := h.1 c8
        exact tX1_findBegan_b81 l D cI cZ ad q N C (hro13) ih _ _ _ h
      · have h := h.2 c8
        refine j_aload_n C 0 dX1_findBegan_47 rfl ?_
        refine j_aload_n C 0 dX1_findBegan_48 rfl ?_
        refine j_get C 1 7 (ly_X1 C.2.2.2.2.2.2.2.1.1) q_185 rfl rfl (by decide) rfl rfl (by decide) rfl dX1_findBegan_49 ?_
        refine j_if_ne C 64 dX1_findBegan_52 (by decide) (fun c9 => ?_) (fun c9 => ?_)
        · have h := h.1 c9
          refine j_aload_n C 0 dX1_findBegan_64 rfl ?_
          refine j_get C 1 8 (ly_X1 C.2.2.2.2.2.2.2.1.1) q_187 rfl rfl (by decide) rfl rfl (by decide) rfl dX1_findBegan_65 ?_
          exact tX1_findBegan_b68 l D cI cZ ad q N C (hro13) ih _ _ _ _ h
        · have h := h.2 c9
          refine j_bipush (v := 10) C dX1_findBegan_55 (by decide) ?_
          refine j_iload_n C 1 dX1_findBegan_57 rfl ?_
          refine j_imul C dX1_findBegan_58 ?_
          refine j_iload_n C 2 dX1_findBegan_59 rfl ?_
          refine j_iadd C dX1_findBegan_60 ?_
          refine j_goto C 68 dX1_findBegan_61 (by decide) ?_
          exact tX1_findBegan_b68 l D cI cZ ad q N C (hro13) ih _ _ _ _ h
set_option maxRecDepth 100000 in
set_option maxHeartbeats 4000000 in
theorem tX1_findBegan_b13 (l : Launch) (D : va_G) (cI cZ : ClassId) (ad q : Nat → Nat) (N : Nat) {p : Program} {e : Env} {s : State} {m : MethodId} {args : Array Value} {below : List Frame} {meth : Method} {c : Code} {K : MM → Prop} (C : CX p s m args meth c cX1_findBegan 3 RX1 none D cI cZ ad (AJ 72 q s.heap.size)) : ∀ (n : Nat) (x1 : Int32) (u : MM), wX1_findBegan_b13 N K n x1 u → JX p l e (rr 6 149) s m args below meth c D (AJ 72 q s.heap.size) 3 (MQ below ((QV D 72 q (entC q cI cZ) K) (AJ 72 q s.heap.size)) args s 0 0 (AJ 72 q s.heap.size)) 72 q (entC q cI cZ) u 13 [(0, .ref (q 1)), (1, .int x1)] [] := by
  intro n
  induction n with
  | zero => intro x1 u h; exact h.elim
  | succ n ih =>
    intro x1 u h
    refine j_iload_n C 1 dX1_findBegan_13 rfl ?_
    refine j_aload_n C 0 dX1_findBegan_14 rfl ?_
    refine j_get C 1 0 (ly_X1 C.2.2.2.2.2.2.2.1.1) q_171 rfl rfl (by decide) rfl rfl (by decide) rfl dX1_findBegan_15 ?_
    refine j_getN C 2 0 (ly_X7 C.2.2.2.2.2.2.2.1.1) q_167 rfl rfl (by decide) rfl rfl (by decide) rfl dX1_findBegan_18 ?_
    refine j_getN C 10 3 (ly_X5 C.2.2.2.2.2.2.2.1.1) q_154 rfl rfl (by decide) rfl rfl (by decide) rfl dX1_findBegan_21 ?_
    refine j_getN C 21 0 (ly_X2 C.2.2.2.2.2.2.2.1.1) q_86 rfl rfl (by decide) rfl rfl (by decide) rfl dX1_findBegan_24 ?_
    refine j_icmp_ge C 93 dX1_findBegan_27 (by decide) (fun c3 => ?_) (fun c3 => ?_)
    · have h := h.1 c3
      exact j_vret C dX1_findBegan_93 h
    · have h := h.2 c3
      refine j_iconst (v := 0) C dX1_findBegan_30 (by decide) ?_
      refine j_istore_n (lv' := [(2, .int 0), (0, .ref (q 1)), (1, .int x1)]) C dX1_findBegan_31 (by decide) rfl ?_
      refine j_sub (lv' := [(0, .ref (q 1)), (1, .int x1), (2, .int 0)]) [1, 2, 0] rfl ?_
      exact tX1_findBegan_b32 l D cI cZ ad q N C ih N _ _ _ h
set_option maxRecDepth 100000 in
set_option maxHeartbeats 4000000 in
theorem kX_X1_findBegan (l : Launch) (D : va_G) (cI cZ : ClassId) (ad q : Nat → Nat) (N : Nat) {u : MM} {K : MM → Prop} (h : wX1_findBegan N u K) : CT l D cI cZ ad 72 q (entC q cI cZ) yX1_findBegan cX1_findBegan 3 none (rr 6 149) [.ref (q 1)] u (QV D 72 q (entC q cI cZ) K) := by
    refine ct_of (by decide +kernel) (Nat.le_of_ble_eq_true rfl) (fun p e s m args below meth c C => ?_)
    refine j_sub (lv' := [(0, .ref (q 1))]) [0] rfl ?_
    refine j_aload_n C 0 dX1_findBegan_0 rfl ?_
    refine j_iconst (v := 0) C dX1_findBegan_1 (by decide) ?_
    refine j_put C 1 7 (ly_X1 C.2.2.2.2.2.2.2.1.1) q_185 rfl rfl (by decide) rfl rfl (by decide) tyX1_ok nmX1 rfl rfl ⟨rfl, rfl⟩ (Nat.le_of_ble_eq_true rfl) rfl dX1_findBegan_2 ?_
    refine j_nmu (fun u1 eu1 => ?_)
    have h := h u1 eu1
    refine j_aload_n C 0 dX1_findBegan_5 rfl ?_
    refine j_bipush (v := (-5)) C dX1_findBegan_6 (by decide) ?_
    refine j_put C 1 8 (ly_X1 C.2.2.2.2.2.2.2.1.1) q_187 rfl rfl (by decide) rfl rfl (by decide) tyX1_ok nmX1 rfl rfl ⟨rfl, rfl⟩ (Nat.le_of_ble_eq_true rfl) rfl dX1_findBegan_8 ?_
    refine j_nmu (fun u2 eu2 => ?_)
    have h := h u2 eu2
    refine j_iconst (v := 0) C dX1_findBegan_11 (by decide) ?_
    refine j_istore_n (lv' := [(1, .int 0), (0, .ref (q 1))]) C dX1_findBegan_12 (by decide) rfl ?_
    refine j_sub (lv' := [(0, .ref (q 1)), (1, .int 0)]) [1, 0] rfl ?_
    exact tX1_findBegan_b13 l D cI cZ ad q N C N _ _ h

def wX1_waysToHear_b89 (N : Nat) (K : Int32 → MM → Prop) (ro5 : Int32 → Int32 → Int32 → Int32 → MM → Prop) (x1 : Int32) (x2 : Int32) (x3 : Int32) (x4 : Int32) (u : MM) : Prop := (∀ y10 : Int32, y10 = x4 + 1 → (ro5 x1 x2 x3 y10 u))
def wX1_waysToHear_b87 (N : Nat) (K : Int32 → MM → Prop) (ro5 : Int32 → Int32 → Int32 → Int32 → MM → Prop) (x1 : Int32) (x2 : Int32) (x4 : Int32) (s0 : Int32) (s1 : Int32) (u : MM) : Prop := (∀ y9 : Int32, y9 = (s1 + s0) → (wX1_waysToHear_b89 N K ro5 x1 x2 y9 x4 u))
def wX1_waysToHear_b5 (N : Nat) (K : Int32 → MM → Prop) : Nat → Int32 → Int32 → Int32 → Int32 → MM → Prop
  | 0, _, _, _, _, _ => False
  | n + 1, x1, x2, x3, x4, u => (((u 21 0) ≤ x4 → (K x3 u)) ∧ (¬ (u 21 0) ≤ x4 → ((x4 = x1 → (wX1_waysToHear_b89 N K (wX1_waysToHear_b5 N K n) x1 x2 x3 x4 u)) ∧ (¬ x4 = x1 → (wX9_startWith N 7 x4 x2 (u 27 0) u (fun u4 => (wX7_goOn N (-1) 0 (-1) u4 (fun r5 u6 => (wX10_hasBit N (u6 7 2) x1 (fun r7 => ((r7 = 0 → (wX1_waysToHear_b87 N K (wX1_waysToHear_b5 N K n) x1 x2 x4 0 x3 u6)) ∧ (¬ r7 = 0 → (wX1_waysToHear_b87 N K (wX1_waysToHear_b5 N K n) x1 x2 x4 1 x3 u6)))))))))))))
def wX1_waysToHear (N : Nat) (x1 : Int32) (x2 : Int32) (u : MM) (K : Int32 → MM → Prop) : Prop := (wX1_waysToHear_b5 N K N x1 x2 0 0 u)
set_option maxRecDepth 100000 in
set_option maxHeartbeats 4000000 in
theorem tX1_waysToHear_b89 (l : Launch) (D : va_G) (cI cZ : ClassId) (ad q : Nat → Nat) (N : Nat) {p : Program} {e : Env} {s : State} {m : MethodId} {args : Array Value} {below : List Frame} {meth : Method} {c : Code} {K : Int32 → MM → Prop} (C : CX p s m args meth c cX1_waysToHear 5 RX1 (some .int) D cI cZ ad (AJ 72 q s.heap.size)) {ro5 : Int32 → Int32 → Int32 → Int32 → MM → Prop} (hro5 : ∀ (x1 : Int32) (x2 : Int32) (x3 : Int32) (x4 : Int32) (u : MM), ro5 x1 x2 x3 x4 u → JX p l e (rr 6 149) s m args below meth c D (AJ 72 q s.heap.size) 5 (MQ below ((QI D 72 q (entC q cI cZ) K) (AJ 72 q s.heap.size)) args s 0 0 (AJ 72 q s.heap.size)) 72 q (entC q cI cZ) u 5 [(0, .ref (q 1)), (1, .int x1), (2, .int x2), (3, .int x3), (4, .int x4)] []) : ∀ (x1 : Int32) (x2 : Int32) (x3 : Int32) (x4 : Int32) (u : MM), wX1_waysToHear_b89 N K ro5 x1 x2 x3 x4 u → JX p l e (rr 6 149) s m args below meth c D (AJ 72 q s.heap.size) 5 (MQ below ((QI D 72 q (entC q cI cZ) K) (AJ 72 q s.heap.size)) args s 0 0 (AJ 72 q s.heap.size)) 72 q (entC q cI cZ) u 89 [(0, .ref (q 1)), (1, .int x1), (2, .int x2), (3, .int x3), (4, .int x4)] [] := by
    intro x1 x2 x3 x4 u h
    obtain ⟨y10, ey10⟩ : ∃ z : Int32, z = x4 + 1 := ⟨_, rfl⟩
    have h := h y10 ey10
    refine j_iinc (v := y10) (lv' := [(4, .int y10), (0, .ref (q 1)), (1, .int x1), (2, .int x2), (3, .int x3)]) C 4 dX1_waysToHear_89 rfl (by rw [ey10]; rfl) (by decide) rfl ?_
    refine j_goto C 5 dX1_waysToHear_92 (by decide) ?_
    refine j_sub (lv' := [(0, .ref (q 1)), (1, .int x1), (2, .int x2), (3, .int x3), (4, .int y10)]) [1, 2, 3, 4, 0] rfl ?_
    exact hro5 _ _ _ _ _ h
set_option maxRecDepth 100000 in
set_option maxHeartbeats 4000000 in
theorem tX1_waysToHear_b87 (l : Launch) (D : va_G) (cI cZ : ClassId) (ad q : Nat → Nat) (N : Nat) {p : Program} {e : Env} {s : State} {m : MethodId} {args : Array Value} {below : List Frame} {meth : Method} {c : Code} {K : Int32 → MM → Prop} (C : CX p s m args meth c cX1_waysToHear 5 RX1 (some .int) D cI cZ ad (AJ 72 q s.heap.size)) {ro5 : Int32 → Int32 → Int32 → Int32 → MM → Prop} (hro5 : ∀ (x1 : Int32) (x2 : Int32) (x3 : Int32) (x4 : Int32) (u : MM), ro5 x1 x2 x3 x4 u → JX p l e (rr 6 149) s m args below meth c D (AJ 72 q s.heap.size) 5 (MQ below ((QI D 72 q (entC q cI cZ) K) (AJ 72 q s.heap.size)) args s 0 0 (AJ 72 q s.heap.size)) 72 q (entC q cI cZ) u 5 [(0, .ref (q 1)), (1, .int x1), (2, .int x2), (3, .int x3), (4, .int x4)] []) : ∀ (x1 : Int32) (x2 : Int32) (x4 : Int32) (s0 : Int32) (s1 : Int32) (u : MM), wX1_waysToHear_b87 N K ro5 x1 x2 x4 s0 s1 u → JX p l e (rr 6 149) s m args below meth c D (AJ 72 q s.heap.size) 5 (MQ below ((QI D 72 q (entC q cI cZ) K) (AJ 72 q s.heap.size)) args s 0 0 (AJ 72 q s.heap.size)) 72 q (entC q cI cZ) u 87 [(0, .ref (q 1)), (1, .int x1), (2, .int x2), (4, .int x4)] [.int s0, .int s1] := by
    intro x1 x2 x4 s0 s1 u h
    refine j_iadd C dX1_waysToHear_87 ?_
    refine j_nmi (fun y9 ey9 => ?_)
    have h := h y9 ey9
    refine j_istore_n (lv' := [(3, .int y9), (0, .ref (q 1)), (1, .int x1), (2, .int x2), (4, .int x4)]) C dX1_waysToHear_88 (by decide) rfl ?_
    refine j_sub (lv' := [(0, .ref (q 1)), (1, .int x1), (2, .int x2), (3, .int y9), (4, .int x4)]) [1, 2, 3, 0, 4] rfl ?_
    exact tX1_waysToHear_b89 l D cI cZ ad q N C (hro5) _ _ _ _ _ h
set_option maxRecDepth 100000 in
set_option maxHeartbeats 4000000 in
theorem tX1_waysToHear_b5 (l : Launch) (D : va_G) (cI cZ : ClassId) (ad q : Nat → Nat) (N : Nat) {p : Program} {e : Env} {s : State} {m : MethodId} {args : Array Value} {below : List Frame} {meth : Method} {c : Code} {K : Int32 → MM → Prop} (C : CX p s m args meth c cX1_waysToHear 5 RX1 (some .int) D cI cZ ad (AJ 72 q s.heap.size)) : ∀ (n : Nat) (x1 : Int32) (x2 : Int32) (x3 : Int32) (x4 : Int32) (u : MM), wX1_waysToHear_b5 N K n x1 x2 x3 x4 u → JX p l e (rr 6 149) s m args below meth c D (AJ 72 q s.heap.size) 5 (MQ below ((QI D 72 q (entC q cI cZ) K) (AJ 72 q s.heap.size)) args s 0 0 (AJ 72 q s.heap.size)) 72 q (entC q cI cZ) u 5 [(0, .ref (q 1)), (1, .int x1), (2, .int x2), (3, .int x3), (4, .int x4)] [] := by
  intro n
  induction n with
  | zero => intro x1 x2 x3 x4 u h; exact h.elim
  | succ n ih =>
    intro x1 x2 x3 x4 u h
    refine j_iload C 4 dX1_waysToHear_5 rfl ?_
    refine j_aload_n C 0 dX1_waysToHear_7 rfl ?_
    refine j_get C 1 0 (ly_X1 C.2.2.2.2.2.2.2.1.1) q_171 rfl rfl (by decide) rfl rfl (by decide) rfl dX1_waysToHear_8 ?_
    refine j_getN C 2 0 (ly_X7 C.2.2.2.2.2.2.2.1.1) q_167 rfl rfl (by decide) rfl rfl (by decide) rfl dX1_waysToHear_11 ?_
    refine j_getN C 10 3 (ly_X5 C.2.2.2.2.2.2.2.1.1) q_154 rfl rfl (by decide) rfl rfl (by decide) rfl dX1_waysToHear_14 ?_
    refine j_getN C 21 0 (ly_X2 C.2.2.2.2.2.2.2.1.1) q_86 rfl rfl (by decide) rfl rfl (by decide) rfl dX1_waysToHear_17 ?_
    refine j_icmp_ge C 95 dX1_waysToHear_20 (by decide) (fun c1 => ?_) (fun c1 => ?_)
    · have h := h.1 c1
      refine j_iload_n C 3 dX1_waysToHear_95 rfl ?_
      exact j_iret C dX1_waysToHear_96 h
    · have h := h.2 c1
      refine j_iload C 4 dX1_waysToHear_23 rfl ?_
      refine j_iload_n C 1 dX1_waysToHear_25 rfl ?_
      refine j_icmp_eq C 89 dX1_waysToHear_26 (by decide) (fun c2 => ?_) (fun c2 => ?_)
      · have h := h.1 c2
        exact tX1_waysToHear_b89 l D cI cZ ad q N C ih _ _ _ _ _ h
      · have h := h.2 c2
        refine j_aload_n C 0 dX1_waysToHear_29 rfl ?_
        refine j_get C 1 1 (ly_X1 C.2.2.2.2.2.2.2.1.1) q_173 rfl rfl (by decide) rfl rfl (by decide) rfl dX1_waysToHear_30 ?_
        refine j_iload C 4 dX1_waysToHear_33 rfl ?_
        refine j_iload_n C 2 dX1_waysToHear_35 rfl ?_
        refine j_aload_n C 0 dX1_waysToHear_36 rfl ?_
        refine j_get C 1 0 (ly_X1 C.2.2.2.2.2.2.2.1.1) q_171 rfl rfl (by decide) rfl rfl (by decide) rfl dX1_waysToHear_37 ?_
        refine j_getN C 2 0 (ly_X7 C.2.2.2.2.2.2.2.1.1) q_167 rfl rfl (by decide) rfl rfl (by decide) rfl dX1_waysToHear_40 ?_
        refine j_getN C 10 4 (ly_X5 C.2.2.2.2.2.2.2.1.1) q_158 rfl rfl (by decide) rfl rfl (by decide) rfl dX1_waysToHear_43 ?_
        refine j_getN C 27 0 (ly_X9 C.2.2.2.2.2.2.2.1.1) q_108 rfl rfl (by decide) rfl rfl (by decide) rfl dX1_waysToHear_46 ?_
        refine j_wv C (fun H locs ls hP hD hS hl => run_VN (Cn := "") (As := [.int x4, .int x2, .int (u 27 0)]) (st := []) C mf_X9_startWith 7 (kX_X9_startWith_7 l D cI cZ ad q N h) q_496 (by decide) rfl rfl rfl rfl ⟨rfl, rfl, by decide, by decide⟩ (Nat.le_of_ble_eq_true rfl) dX1_waysToHear_49 hP hD hS hl) (fun u4 h => ?_)
        refine j_aload_n C 0 dX1_waysToHear_52 rfl ?_
        refine j_get C 1 0 (ly_X1 C.2.2.2.2.2.2.2.1.1) q_171 rfl rfl (by decide) rfl rfl (by decide) rfl dX1_waysToHear_53 ?_
        refine j_aload_n C 0 dX1_waysToHear_56 rfl ?_
        refine j_get C 1 1 (ly_X1 C.2.2.2.2.2.2.2.1.1) q_173 rfl rfl (by decide) rfl rfl (by decide) rfl dX1_waysToHear_57 ?_
        refine j_iconst (v := (-1)) C dX1_waysToHear_60 (by decide) ?_
        refine j_iconst (v := 0) C dX1_waysToHear_61 (by decide) ?_
        refine j_iconst (v := (-1)) C dX1_waysToHear_62 (by decide) ?_
        refine j_wi C (fun H locs ls hP hD hS hl => run_VN (Cn := "") (As := [.ref (q 7), .int (-1), .int 0, .int (-1)]) (st := []) C mf_X7_goOn 2 (kX_X7_goOn l D cI cZ ad q N h) q_497 (by decide) rfl rfl rfl rfl ⟨rfl, rfl, by decide, by decide⟩ (Nat.le_of_ble_eq_true rfl) dX1_waysToHear_63 hP hD hS hl) (fun r5 u6 h => ?_)
        refine j_pop C dX1_waysToHear_66 rfl ?_
        refine j_iload_n C 3 dX1_waysToHear_67 rfl ?_
        refine j_aload_n C 0 dX1_waysToHear_68 rfl ?_
        refine j_get C 1 1 (ly_X1 C.2.2.2.2.2.2.2.1.1) q_173 rfl rfl (by decide) rfl rfl (by decide) rfl dX1_waysToHear_69 ?_
        refine j_getN C 7 2 (ly_X9 C.2.2.2.2.2.2.2.1.1) q_117 rfl rfl (by decide) rfl rfl (by decide) rfl dX1_waysToHear_72 ?_
        refine j_iload_n C 1 dX1_waysToHear_75 rfl ?_
        refine j_ui C (fun H locs ls hP hD => run_SN (As := [.int (u6 7 2), .int x1]) (st := [.int x3]) C mf_X10_hasBit (kX_X10_hasBit l D cI cZ ad q N h) q_521 rfl rfl ⟨rfl, rfl, by decide, by decide⟩ (Nat.le_of_ble_eq_true rfl) dX1_waysToHear_76 hP hD) (fun r7 _ h => ?_)
        refine j_if_eq C 86 dX1_waysToHear_79 (by decide) (fun c8 => ?_) (fun c8 => ?_)
        · have h := h.1 c8
          refine j_iconst (v := 0) C dX1_waysToHear_86 (by decide) ?_
          refine j_sub (lv' := [(0, .ref (q 1)), (1, .int x1), (2, .int x2), (4, .int x4)]) [0, 1, 2, 4] rfl ?_
          exact tX1_waysToHear_b87 l D cI cZ ad q N C ih _ _ _ _ _ _ h
        · have h := h.2 c8
          refine j_iconst (v := 1) C dX1_waysToHear_82 (by decide) ?_
          refine j_goto C 87 dX1_waysToHear_83 (by decide) ?_
          refine j_sub (lv' := [(0, .ref (q 1)), (1, .int x1), (2, .int x2), (4, .int x4)]) [0, 1, 2, 4] rfl ?_
          exact tX1_waysToHear_b87 l D cI cZ ad q N C ih _ _ _ _ _ _ h
set_option maxRecDepth 100000 in
set_option maxHeartbeats 4000000 in
theorem kX_X1_waysToHear (l : Launch) (D : va_G) (cI cZ : ClassId) (ad q : Nat → Nat) (N : Nat) {x1 : Int32} {x2 : Int32} {u : MM} {K : Int32 → MM → Prop} (h : wX1_waysToHear N x1 x2 u K) : CT l D cI cZ ad 72 q (entC q cI cZ) yX1_waysToHear cX1_waysToHear 5 (some .int) (rr 6 149) [.ref (q 1), .int x1, .int x2] u (QI D 72 q (entC q cI cZ) K) := by
    refine ct_of (by decide +kernel) (Nat.le_of_ble_eq_true rfl) (fun p e s m args below meth c C => ?_)
    refine j_sub (lv' := [(0, .ref (q 1)), (1, .int x1), (2, .int x2)]) [0, 1, 2] rfl ?_
    refine j_iconst (v := 0) C dX1_waysToHear_0 (by decide) ?_
    refine j_istore_n (lv' := [(3, .int 0), (0, .ref (q 1)), (1, .int x1), (2, .int x2)]) C dX1_waysToHear_1 (by decide) rfl ?_
    refine j_iconst (v := 0) C dX1_waysToHear_2 (by decide) ?_
    refine j_istore (lv' := [(4, .int 0), (3, .int 0), (0, .ref (q 1)), (1, .int x1), (2, .int x2)]) C dX1_waysToHear_3 (by decide) rfl ?_
    refine j_sub (lv' := [(0, .ref (q 1)), (1, .int x1), (2, .int x2), (3, .int 0), (4, .int 0)]) [2, 3, 4, 1, 0] rfl ?_
    exact tX1_waysToHear_b5 l D cI cZ ad q N C N _ _ _ _ _ h

def wX1_finesOfAll_b5 (N : Nat) (K : Int64 → MM → Prop) : Nat → Int32 → Int64 → Int32 → MM → Prop
  | 0, _, _, _, _ => False
  | n + 1, x1, x2, x4, u => (((u 21 0) ≤ x4 → (K x2 u)) ∧ (¬ (u 21 0) ≤ x4 → (wX9_startWith N 7 x4 x1 (u 27 0) u (fun u3 => (wX7_goOn N (-1) 0 (-1) u3 (fun r4 u5 => (∀ y6 : Int64, y6 = (x2 + (Int32.toInt64 (u5 7 1))) → (∀ y7 : Int32, y7 = x4 + 1 → (wX1_finesOfAll_b5 N K n x1 y6 y7 u5)))))))))
def wX1_finesOfAll (N : Nat) (x1 : Int32) (u : MM) (K : Int64 → MM → Prop) : Prop := (wX1_finesOfAll_b5 N K N x1 0 0 u)
set_option maxRecDepth 100000 in
set_option maxHeartbeats 4000000 in
theorem tX1_finesOfAll_b5 (l : Launch) (D : va_G) (cI cZ : ClassId) (ad q : Nat → Nat) (N : Nat) {p : Program} {e : Env} {s : State} {m : MethodId} {args : Array Value} {below : List Frame} {meth : Method} {c : Code} {K : Int64 → MM → Prop} (C : CX p s m args meth c cX1_finesOfAll 5 RX1 (some .long) D cI cZ ad (AJ 72 q s.heap.size)) : ∀ (n : Nat) (x1 : Int32) (x2 : Int64) (x4 : Int32) (u : MM), wX1_finesOfAll_b5 N K n x1 x2 x4 u → JX p l e (rr 6 149) s m args below meth c D (AJ 72 q s.heap.size) 5 (MQ below ((QL D 72 q (entC q cI cZ) K) (AJ 72 q s.heap.size)) args s 0 0 (AJ 72 q s.heap.size)) 72 q (entC q cI cZ) u 5 [(0, .ref (q 1)), (1, .int x1), (2, .long x2), (4, .int x4)] [] := by
  intro n
  induction n with
  | zero => intro x1 x2 x4 u h; exact h.elim
  | succ n ih =>
    intro x1 x2 x4 u h
    refine j_iload C 3 dX1_finesOfAll_5 rfl ?_
    refine j_aload_n C 0 dX1_finesOfAll_7 rfl ?_
    refine j_get C 1 0 (ly_X1 C.2.2.2.2.2.2.2.1.1) q_171 rfl rfl (by decide) rfl rfl (by decide) rfl dX1_finesOfAll_8 ?_
    refine j_getN C 2 0 (ly_X7 C.2.2.2.2.2.2.2.1.1) q_167 rfl rfl (by decide) rfl rfl (by decide) rfl dX1_finesOfAll_11 ?_
    refine j_getN C 10 3 (ly_X5 C.2.2.2.2.2.2.2.1.1) q_154 rfl rfl (by decide) rfl rfl (by decide) rfl dX1_finesOfAll_14 ?_
    refine j_getN C 21 0 (ly_X2 C.2.2.2.2.2.2.2.1.1) q_86 rfl rfl (by decide) rfl rfl (by decide) rfl dX1_finesOfAll_17 ?_
    refine j_icmp_ge C 78 dX1_finesOfAll_20 (by decide) (fun c1 => ?_) (fun c1 => ?_)
    · have h := h.1 c1
      refine j_lload_n C 2 dX1_finesOfAll_78 rfl ?_
      exact j_lret C dX1_finesOfAll_79 h
    · have h := h.2 c1
      refine j_aload_n C 0 dX1_finesOfAll_23 rfl ?_
      refine j_get C 1 1 (ly_X1 C.2.2.2.2.2.2.2.1.1) q_173 rfl rfl (by decide) rfl rfl (by decide) rfl dX1_finesOfAll_24 ?_
      refine j_iload C 3 dX1_finesOfAll_27 rfl ?_
      refine j_iload_n C 1 dX1_finesOfAll_29 rfl ?_
      refine j_aload_n C 0 dX1_finesOfAll_30 rfl ?_
      refine j_get C 1 0 (ly_X1 C.2.2.2.2.2.2.2.1.1) q_171 rfl rfl (by decide) rfl rfl (by decide) rfl dX1_finesOfAll_31 ?_
      refine j_getN C 2 0 (ly_X7 C.2.2.2.2.2.2.2.1.1) q_167 rfl rfl (by decide) rfl rfl (by decide) rfl dX1_finesOfAll_34 ?_
      refine j_getN C 10 4 (ly_X5 C.2.2.2.2.2.2.2.1.1) q_158 rfl rfl (by decide) rfl rfl (by decide) rfl dX1_finesOfAll_37 ?_
      refine j_getN C 27 0 (ly_X9 C.2.2.2.2.2.2.2.1.1) q_108 rfl rfl (by decide) rfl rfl (by decide) rfl dX1_finesOfAll_40 ?_
      refine j_wv C (fun H locs ls hP hD hS hl => run_VN (Cn := "") (As := [.int x4, .int x1, .int (u 27 0)]) (st := []) C mf_X9_startWith 7 (kX_X9_startWith_7 l D cI cZ ad q N h) q_496 (by decide) rfl rfl rfl rfl ⟨rfl, rfl, by decide, by decide⟩ (Nat.le_of_ble_eq_true rfl) dX1_finesOfAll_43 hP hD hS hl) (fun u3 h => ?_)
      refine j_aload_n C 0 dX1_finesOfAll_46 rfl ?_
      refine j_get C 1 0 (ly_X1 C.2.2.2.2.2.2.2.1.1) q_171 rfl rfl (by decide) rfl rfl (by decide) rfl dX1_finesOfAll_47 ?_
      refine j_aload_n C 0 dX1_finesOfAll_50 rfl ?_
      refine j_get C 1 1 (ly_X1 C.2.2.2.2.2.2.2.1.1) q_173 rfl rfl (by decide) rfl rfl (by decide) rfl dX1_finesOfAll_51 ?_
      refine j_iconst (v := (-1)) C dX1_finesOfAll_54 (by decide) ?_
      refine j_iconst (v := 0) C dX1_finesOfAll_55 (by decide) ?_
      refine j_iconst (v := (-1)) C dX1_finesOfAll_56 (by decide) ?_
      refine j_wi C (fun H locs ls hP hD hS hl => run_VN (Cn := "") (As := [.ref (q 7), .int (-1), .int 0, .int (-1)]) (st := []) C mf_X7_goOn 2 (kX_X7_goOn l D cI cZ ad q N h) q_497 (by decide) rfl rfl rfl rfl ⟨rfl, rfl, by decide, by decide⟩ (Nat.le_of_ble_eq_true rfl) dX1_finesOfAll_57 hP hD hS hl) (fun r4 u5 h => ?_)
      refine j_pop C dX1_finesOfAll_60 rfl ?_
      refine j_lload_n C 2 dX1_finesOfAll_61 rfl ?_
      refine j_aload_n C 0 dX1_finesOfAll_62 rfl ?_
      refine j_get C 1 1 (ly_X1 C.2.2.2.2.2.2.2.1.1) q_173 rfl rfl (by decide) rfl rfl (by decide) rfl dX1_finesOfAll_63 ?_
      refine j_getN C 7 1 (ly_X9 C.2.2.2.2.2.2.2.1.1) q_112 rfl rfl (by decide) rfl rfl (by decide) rfl dX1_finesOfAll_66 ?_
      refine j_i2l C dX1_finesOfAll_69 ?_
      refine j_ladd C dX1_finesOfAll_70 ?_
      refine j_nml (fun y6 ey6 => ?_)
      have h := h y6 ey6
      refine j_lstore_n (lv' := [(2, .long y6), (0, .ref (q 1)), (1, .int x1), (4, .int x4)]) C dX1_finesOfAll_71 (by decide) rfl ?_
      obtain ⟨y7, ey7⟩ : ∃ z : Int32, z = x4 + 1 := ⟨_, rfl⟩
      have h := h y7 ey7
      refine j_iinc (v := y7) (lv' := [(4, .int y7), (2, .long y6), (0, .ref (q 1)), (1, .int x1)]) C 3 dX1_finesOfAll_72 rfl (by rw [ey7]; rfl) (by decide) rfl ?_
      refine j_goto C 5 dX1_finesOfAll_75 (by decide) ?_
      refine j_sub (lv' := [(0, .ref (q 1)), (1, .int x1), (2, .long y6), (4, .int y7)]) [2, 3, 1, 0] rfl ?_
      exact ih _ _ _ _ h
set_option maxRecDepth 100000 in
set_option maxHeartbeats 4000000 in
theorem kX_X1_finesOfAll (l : Launch) (D : va_G) (cI cZ : ClassId) (ad q : Nat → Nat) (N : Nat) {x1 : Int32} {u : MM} {K : Int64 → MM → Prop} (h : wX1_finesOfAll N x1 u K) : CT l D cI cZ ad 72 q (entC q cI cZ) yX1_finesOfAll cX1_finesOfAll 5 (some .long) (rr 6 149) [.ref (q 1), .int x1] u (QL D 72 q (entC q cI cZ) K) := by
    refine ct_of (by decide +kernel) (Nat.le_of_ble_eq_true rfl) (fun p e s m args below meth c C => ?_)
    refine j_sub (lv' := [(0, .ref (q 1)), (1, .int x1)]) [0, 1] rfl ?_
    refine j_lconst (v := 0) C dX1_finesOfAll_0 (by decide) ?_
    refine j_lstore_n (lv' := [(2, .long 0), (0, .ref (q 1)), (1, .int x1)]) C dX1_finesOfAll_1 (by decide) rfl ?_
    refine j_iconst (v := 0) C dX1_finesOfAll_2 (by decide) ?_
    refine j_istore (lv' := [(4, .int 0), (2, .long 0), (0, .ref (q 1)), (1, .int x1)]) C dX1_finesOfAll_3 (by decide) rfl ?_
    refine j_sub (lv' := [(0, .ref (q 1)), (1, .int x1), (2, .long 0), (4, .int 0)]) [2, 3, 1, 0] rfl ?_
    exact tX1_finesOfAll_b5 l D cI cZ ad q N C N _ _ _ _ h

def wX2_has (N : Nat) (x1 : Int32) (u : MM) (K : Int32 → MM → Prop) : Prop := (wX10_isIn N x1 (u 21 0) (fun r1 => (bz r1 ∧ K r1 u)))
set_option maxRecDepth 100000 in
set_option maxHeartbeats 4000000 in
theorem kX_X2_has (l : Launch) (D : va_G) (cI cZ : ClassId) (ad q : Nat → Nat) (N : Nat) {x1 : Int32} {u : MM} {K : Int32 → MM → Prop} (h : wX2_has N x1 u K) : CT l D cI cZ ad 72 q (entC q cI cZ) yX2_has cX2_has 2 (some .boolean) (rr 1 21) [.ref (q 21), .int x1] u (QI D 72 q (entC q cI cZ) K) := by
    refine ct_of (by decide +kernel) (Nat.le_of_ble_eq_true rfl) (fun p e s m args below meth c C => ?_)
    refine j_sub (lv' := [(0, .ref (q 21)), (1, .int x1)]) [0, 1] rfl ?_
    refine j_iload_n C 1 dX2_has_0 rfl ?_
    refine j_aload_n C 0 dX2_has_1 rfl ?_
    refine j_get C 21 0 (ly_X2 C.2.2.2.2.2.2.2.1.1) q_85 rfl rfl (by decide) rfl rfl (by decide) rfl dX2_has_2 ?_
    refine j_ui C (fun H locs ls hP hD => run_SN (As := [.int x1, .int (u 21 0)]) (st := []) C mf_X10_isIn (kX_X10_isIn l D cI cZ ad q N h) q_364 rfl rfl ⟨rfl, rfl, by decide, by decide⟩ (Nat.le_of_ble_eq_true rfl) dX2_has_5 hP hD) (fun r1 _ h => ?_)
    exact j_zret C dX2_has_8 h.1.1 h.2

def wX2_all (N : Nat) (u : MM) (K : Int32 → MM → Prop) : Prop := (K (((1 : Int32) <<< ((u 21 0) &&& 31)) - 1) u)
set_option maxRecDepth 100000 in
set_option maxHeartbeats 4000000 in
theorem kX_X2_all (l : Launch) (D : va_G) (cI cZ : ClassId) (ad q : Nat → Nat) (N : Nat) {u : MM} {K : Int32 → MM → Prop} (h : wX2_all N u K) : CT l D cI cZ ad 72 q (entC q cI cZ) yX2_all cX2_all 1 (some .int) (rr 0 0) [.ref (q 21)] u (QI D 72 q (entC q cI cZ) K) := by
    refine ct_of (by decide +kernel) (Nat.le_of_ble_eq_true rfl) (fun p e s m args below meth c C => ?_)
    refine j_sub (lv' := [(0, .ref (q 21))]) [0] rfl ?_
    refine j_iconst (v := 1) C dX2_all_0 (by decide) ?_
    refine j_aload_n C 0 dX2_all_1 rfl ?_
    refine j_get C 21 0 (ly_X2 C.2.2.2.2.2.2.2.1.1) q_85 rfl rfl (by decide) rfl rfl (by decide) rfl dX2_all_2 ?_
    refine j_ishl C dX2_all_5 ?_
    refine j_iconst (v := 1) C dX2_all_6 (by decide) ?_
    refine j_isub C dX2_all_7 ?_
    exact j_iret C dX2_all_8 h

def wX2_add (N : Nat) (x1 : Int32) (x2 : Int32) (u : MM) (K : Int32 → MM → Prop) : Prop := (((u 21 0) < 7 → (vp_in ((u 21 0)) 7 ∧ ∀ u2 : MM, u2 = up u 22 ((u 21 0).toNatClampNeg) x1 → (vp_in ((u2 21 0)) 7 ∧ ∀ u3 : MM, u3 = up u2 23 ((u2 21 0).toNatClampNeg) x2 → (vp_in ((u3 21 0)) 7 ∧ ∀ u4 : MM, u4 = up u3 24 ((u3 21 0).toNatClampNeg) 0 → (vp_in ((u4 21 0)) 7 ∧ ∀ u5 : MM, u5 = up u4 25 ((u4 21 0).toNatClampNeg) 0 → (∀ u6 : MM, u6 = up u5 21 0 ((u5 21 0) + 1) → (K 1 u6))))))) ∧ (¬ (u 21 0) < 7 → (K 0 u)))
set_option maxRecDepth 100000 in
set_option maxHeartbeats 4000000 in
theorem kX_X2_add (l : Launch) (D : va_G) (cI cZ : ClassId) (ad q : Nat → Nat) (N : Nat) {x1 : Int32} {x2 : Int32} {u : MM} {K : Int32 → MM → Prop} (h : wX2_add N x1 x2 u K) : CT l D cI cZ ad 72 q (entC q cI cZ) yX2_add cX2_add 3 (some .boolean) (rr 0 0) [.ref (q 21), .int x1, .int x2] u (QI D 72 q (entC q cI cZ) K) := by
    refine ct_of (by decide +kernel) (Nat.le_of_ble_eq_true rfl) (fun p e s m args below meth c C => ?_)
    refine j_sub (lv' := [(0, .ref (q 21)), (1, .int x1), (2, .int x2)]) [0, 1, 2] rfl ?_
    refine j_aload_n C 0 dX2_add_0 rfl ?_
    refine j_get C 21 0 (ly_X2 C.2.2.2.2.2.2.2.1.1) q_85 rfl rfl (by decide) rfl rfl (by decide) rfl dX2_add_1 ?_
    refine j_bipush (v := 7) C dX2_add_4 (by decide) ?_
    refine j_icmp_lt C 11 dX2_add_6 (by decide) (fun c1 => ?_) (fun c1 => ?_)
    · have h := h.1 c1
      refine j_aload_n C 0 dX2_add_11 rfl ?_
      refine j_get C 21 1 (ly_X2 C.2.2.2.2.2.2.2.1.1) q_89 rfl rfl (by decide) rfl rfl (by decide) rfl dX2_add_12 ?_
      refine j_aload_n C 0 dX2_add_15 rfl ?_
      refine j_get C 21 0 (ly_X2 C.2.2.2.2.2.2.2.1.1) q_85 rfl rfl (by decide) rfl rfl (by decide) rfl dX2_add_16 ?_
      refine j_iload_n C 1 dX2_add_19 rfl ?_
      obtain ⟨hin, h⟩ := h
      refine j_iastoreK (N := 7) C 22 _ rfl hin (by decide) (fun _ => rfl) rfl dX2_add_20 (fun u2 eu2 => ?_)
      have h := h u2 eu2
      refine j_aload_n C 0 dX2_add_21 rfl ?_
      refine j_get C 21 2 (ly_X2 C.2.2.2.2.2.2.2.1.1) q_92 rfl rfl (by decide) rfl rfl (by decide) rfl dX2_add_22 ?_
      refine j_aload_n C 0 dX2_add_25 rfl ?_
      refine j_get C 21 0 (ly_X2 C.2.2.2.2.2.2.2.1.1) q_85 rfl rfl (by decide) rfl rfl (by decide) rfl dX2_add_26 ?_
      refine j_iload_n C 2 dX2_add_29 rfl ?_
      obtain ⟨hin, h⟩ := h
      refine j_iastoreK (N := 7) C 23 _ rfl hin (by decide) (fun _ => rfl) rfl dX2_add_30 (fun u3 eu3 => ?_)
      have h := h u3 eu3
      refine j_aload_n C 0 dX2_add_31 rfl ?_
      refine j_get C 21 3 (ly_X2 C.2.2.2.2.2.2.2.1.1) q_95 rfl rfl (by decide) rfl rfl (by decide) rfl dX2_add_32 ?_
      refine j_aload_n C 0 dX2_add_35 rfl ?_
      refine j_get C 21 0 (ly_X2 C.2.2.2.2.2.2.2.1.1) q_85 rfl rfl (by decide) rfl rfl (by decide) rfl dX2_add_36 ?_
      refine j_iconst (v := 0) C dX2_add_39 (by decide) ?_
      obtain ⟨hin, h⟩ := h
      refine j_iastoreK (N := 7) C 24 _ rfl hin (by decide) (fun _ => rfl) rfl dX2_add_40 (fun u4 eu4 => ?_)
      have h := h u4 eu4
      refine j_aload_n C 0 dX2_add_41 rfl ?_
      refine j_get C 21 4 (ly_X2 C.2.2.2.2.2.2.2.1.1) q_98 rfl rfl (by decide) rfl rfl (by decide) rfl dX2_add_42 ?_
      refine j_aload_n C 0 dX2_add_45 rfl ?_
      refine j_get C 21 0 (ly_X2 C.2.2.2.2.2.2.2.1.1) q_85 rfl rfl (by decide) rfl rfl (by decide) rfl dX2_add_46 ?_
      refine j_iconst (v := 0) C dX2_add_49 (by decide) ?_
      obtain ⟨hin, h⟩ := h
      refine j_iastoreK (N := 7) C 25 _ rfl hin (by decide) (fun _ => rfl) rfl dX2_add_50 (fun u5 eu5 => ?_)
      have h := h u5 eu5
      refine j_aload_n C 0 dX2_add_51 rfl ?_
      refine j_dup C dX2_add_52 rfl ?_
      refine j_get C 21 0 (ly_X2 C.2.2.2.2.2.2.2.1.1) q_85 rfl rfl (by decide) rfl rfl (by decide) rfl dX2_add_53 ?_
      refine j_iconst (v := 1) C dX2_add_56 (by decide) ?_
      refine j_iadd C dX2_add_57 ?_
      refine j_put C 21 0 (ly_X2 C.2.2.2.2.2.2.2.1.1) q_85 rfl rfl (by decide) rfl rfl (by decide) tyX2_ok nmX2 rfl rfl ⟨rfl, rfl⟩ (Nat.le_of_ble_eq_true rfl) rfl dX2_add_58 ?_
      refine j_nmu (fun u6 eu6 => ?_)
      have h := h u6 eu6
      refine j_iconst (v := 1) C dX2_add_61 (by decide) ?_
      exact j_zret C dX2_add_62 rfl h
    · have h := h.2 c1
      refine j_iconst (v := 0) C dX2_add_9 (by decide) ?_
      exact j_zret C dX2_add_10 rfl h

def wX2_acquaint_b69 (N : Nat) (K : MM → Prop) (s0 : Int32) (s1 : Int32) (u : MM) : Prop := (vp_in s1 7 ∧ ∀ u4 : MM, u4 = up u 24 (s1.toNatClampNeg) s0 → (K u4))
def wX2_acquaint_b34 (N : Nat) (K : MM → Prop) (x1 : Int32) (x2 : Int32) (x3 : Int32) (s0 : Int32) (s1 : Int32) (u : MM) : Prop := (vp_in s1 7 ∧ ∀ u2 : MM, u2 = up u 24 (s1.toNatClampNeg) s0 → ((x3 = 0 → (vp_in x2 7 ∧ (wX2_acquaint_b69 N K ((u2 24 x2.toNatClampNeg) &&& (((1 : Int32) <<< (x1 &&& 31)) ^^^ ((-1) : Int32))) x2 u2))) ∧ (¬ x3 = 0 → (vp_in x2 7 ∧ (wX2_acquaint_b69 N K ((u2 24 x2.toNatClampNeg) ||| ((1 : Int32) <<< (x1 &&& 31))) x2 u2)))))
def wX2_acquaint (N : Nat) (x1 : Int32) (x2 : Int32) (x3 : Int32) (u : MM) (K : MM → Prop) : Prop := ((x3 = 0 → (vp_in x1 7 ∧ (wX2_acquaint_b34 N K x1 x2 x3 ((u 24 x1.toNatClampNeg) &&& (((1 : Int32) <<< (x2 &&& 31)) ^^^ ((-1) : Int32))) x1 u))) ∧ (¬ x3 = 0 → (vp_in x1 7 ∧ (wX2_acquaint_b34 N K x1 x2 x3 ((u 24 x1.toNatClampNeg) ||| ((1 : Int32) <<< (x2 &&& 31))) x1 u))))
set_option maxRecDepth 100000 in
set_option maxHeartbeats 4000000 in
theorem tX2_acquaint_b69 (l : Launch) (D : va_G) (cI cZ : ClassId) (ad q : Nat → Nat) (N : Nat) {p : Program} {e : Env} {s : State} {m : MethodId} {args : Array Value} {below : List Frame} {meth : Method} {c : Code} {K : MM → Prop} (C : CX p s m args meth c cX2_acquaint 4 RX2 none D cI cZ ad (AJ 72 q s.heap.size)) : ∀ (s0 : Int32) (s1 : Int32) (u : MM), wX2_acquaint_b69 N K s0 s1 u → JX p l e (rr 0 0) s m args below meth c D (AJ 72 q s.heap.size) 4 (MQ below ((QV D 72 q (entC q cI cZ) K) (AJ 72 q s.heap.size)) args s 0 0 (AJ 72 q s.heap.size)) 72 q (entC q cI cZ) u 69 [] [.int s0, .int s1, .ref (q 24)] := by
    intro s0 s1 u h
    obtain ⟨hin, h⟩ := h
    refine j_iastoreK (N := 7) C 24 _ rfl hin (by decide) (fun _ => rfl) rfl dX2_acquaint_69 (fun u4 eu4 => ?_)
    have h := h u4 eu4
    exact j_vret C dX2_acquaint_70 h
set_option maxRecDepth 100000 in
set_option maxHeartbeats 4000000 in
theorem tX2_acquaint_b34 (l : Launch) (D : va_G) (cI cZ : ClassId) (ad q : Nat → Nat) (N : Nat) {p : Program} {e : Env} {s : State} {m : MethodId} {args : Array Value} {below : List Frame} {meth : Method} {c : Code} {K : MM → Prop} (C : CX p s m args meth c cX2_acquaint 4 RX2 none D cI cZ ad (AJ 72 q s.heap.size)) : ∀ (x1 : Int32) (x2 : Int32) (x3 : Int32) (s0 : Int32) (s1 : Int32) (u : MM), wX2_acquaint_b34 N K x1 x2 x3 s0 s1 u → JX p l e (rr 0 0) s m args below meth c D (AJ 72 q s.heap.size) 4 (MQ below ((QV D 72 q (entC q cI cZ) K) (AJ 72 q s.heap.size)) args s 0 0 (AJ 72 q s.heap.size)) 72 q (entC q cI cZ) u 34 [(0, .ref (q 21)), (1, .int x1), (2, .int x2), (3, .int x3)] [.int s0, .int s1, .ref (q 24)] := by
    intro x1 x2 x3 s0 s1 u h
    obtain ⟨hin, h⟩ := h
    refine j_iastoreK (N := 7) C 24 _ rfl hin (by decide) (fun _ => rfl) rfl dX2_acquaint_34 (fun u2 eu2 => ?_)
    have h := h u2 eu2
    refine j_aload_n C 0 dX2_acquaint_35 rfl ?_
    refine j_get C 21 3 (ly_X2 C.2.2.2.2.2.2.2.1.1) q_95 rfl rfl (by decide) rfl rfl (by decide) rfl dX2_acquaint_36 ?_
    refine j_iload_n C 2 dX2_acquaint_39 rfl ?_
    refine j_iload_n C 3 dX2_acquaint_40 rfl ?_
    refine j_if_eq C 57 dX2_acquaint_41 (by decide) (fun c3 => ?_) (fun c3 => ?_)
    · have h := h.1 c3
      refine j_aload_n C 0 dX2_acquaint_57 rfl ?_
      refine j_get C 21 3 (ly_X2 C.2.2.2.2.2.2.2.1.1) q_95 rfl rfl (by decide) rfl rfl (by decide) rfl dX2_acquaint_58 ?_
      refine j_iload_n C 2 dX2_acquaint_61 rfl ?_
      obtain ⟨hin, h⟩ := h
      refine j_ialoadK (N := 7) C 24 _ rfl hin (by decide) rfl rfl dX2_acquaint_62 ?_
      refine j_iconst (v := 1) C dX2_acquaint_63 (by decide) ?_
      refine j_iload_n C 1 dX2_acquaint_64 rfl ?_
      refine j_ishl C dX2_acquaint_65 ?_
      refine j_iconst (v := (-1)) C dX2_acquaint_66 (by decide) ?_
      refine j_ixor C dX2_acquaint_67 ?_
      refine j_iand C dX2_acquaint_68 ?_
      refine j_sub (lv' := []) [] rfl ?_
      exact tX2_acquaint_b69 l D cI cZ ad q N C _ _ _ h
    · have h := h.2 c3
      refine j_aload_n C 0 dX2_acquaint_44 rfl ?_
      refine j_get C 21 3 (ly_X2 C.2.2.2.2.2.2.2.1.1) q_95 rfl rfl (by decide) rfl rfl (by decide) rfl dX2_acquaint_45 ?_
      refine j_iload_n C 2 dX2_acquaint_48 rfl ?_
      obtain ⟨hin, h⟩ := h
      refine j_ialoadK (N := 7) C 24 _ rfl hin (by decide) rfl rfl dX2_acquaint_49 ?_
      refine j_iconst (v := 1) C dX2_acquaint_50 (by decide) ?_
      refine j_iload_n C 1 dX2_acquaint_51 rfl ?_
      refine j_ishl C dX2_acquaint_52 ?_
      refine j_ior C dX2_acquaint_53 ?_
      refine j_goto C 69 dX2_acquaint_54 (by decide) ?_
      refine j_sub (lv' := []) [] rfl ?_
      exact tX2_acquaint_b69 l D cI cZ ad q N C _ _ _ h
set_option maxRecDepth 100000 in
set_option maxHeartbeats 4000000 in
theorem kX_X2_acquaint (l : Launch) (D : va_G) (cI cZ : ClassId) (ad q : Nat → Nat) (N : Nat) {x1 : Int32} {x2 : Int32} {x3 : Int32} {u : MM} {K : MM → Prop} (h : wX2_acquaint N x1 x2 x3 u K) : CT l D cI cZ ad 72 q (entC q cI cZ) yX2_acquaint cX2_acquaint 4 none (rr 0 0) [.ref (q 21), .int x1, .int x2, .int x3] u (QV D 72 q (entC q cI cZ) K) := by
    refine ct_of (by decide +kernel) (Nat.le_of_ble_eq_true rfl) (fun p e s m args below meth c C => ?_)
    refine j_sub (lv' := [(0, .ref (q 21)), (1, .int x1), (2, .int x2), (3, .int x3)]) [0, 1, 2, 3] rfl ?_
    refine j_aload_n C 0 dX2_acquaint_0 rfl ?_
    refine j_get C 21 3 (ly_X2 C.2.2.2.2.2.2.2.1.1) q_95 rfl rfl (by decide) rfl rfl (by decide) rfl dX2_acquaint_1 ?_
    refine j_iload_n C 1 dX2_acquaint_4 rfl ?_
    refine j_iload_n C 3 dX2_acquaint_5 rfl ?_
    refine j_if_eq C 22 dX2_acquaint_6 (by decide) (fun c1 => ?_) (fun c1 => ?_)
    · have h := h.1 c1
      refine j_aload_n C 0 dX2_acquaint_22 rfl ?_
      refine j_get C 21 3 (ly_X2 C.2.2.2.2.2.2.2.1.1) q_95 rfl rfl (by decide) rfl rfl (by decide) rfl dX2_acquaint_23 ?_
      refine j_iload_n C 1 dX2_acquaint_26 rfl ?_
      obtain ⟨hin, h⟩ := h
      refine j_ialoadK (N := 7) C 24 _ rfl hin (by decide) rfl rfl dX2_acquaint_27 ?_
      refine j_iconst (v := 1) C dX2_acquaint_28 (by decide) ?_
      refine j_iload_n C 2 dX2_acquaint_29 rfl ?_
      refine j_ishl C dX2_acquaint_30 ?_
      refine j_iconst (v := (-1)) C dX2_acquaint_31 (by decide) ?_
      refine j_ixor C dX2_acquaint_32 ?_
      refine j_iand C dX2_acquaint_33 ?_
      exact tX2_acquaint_b34 l D cI cZ ad q N C _ _ _ _ _ _ h
    · have h := h.2 c1
      refine j_aload_n C 0 dX2_acquaint_9 rfl ?_
      refine j_get C 21 3 (ly_X2 C.2.2.2.2.2.2.2.1.1) q_95 rfl rfl (by decide) rfl rfl (by decide) rfl dX2_acquaint_10 ?_
      refine j_iload_n C 1 dX2_acquaint_13 rfl ?_
      obtain ⟨hin, h⟩ := h
      refine j_ialoadK (N := 7) C 24 _ rfl hin (by decide) rfl rfl dX2_acquaint_14 ?_
      refine j_iconst (v := 1) C dX2_acquaint_15 (by decide) ?_
      refine j_iload_n C 2 dX2_acquaint_16 rfl ?_
      refine j_ishl C dX2_acquaint_17 ?_
      refine j_ior C dX2_acquaint_18 ?_
      refine j_goto C 34 dX2_acquaint_19 (by decide) ?_
      exact tX2_acquaint_b34 l D cI cZ ad q N C _ _ _ _ _ _ h

def wX2_addToRow (N : Nat) (x1 : Int32) (x2 : Int32) (u : MM) (K : Int32 → MM → Prop) : Prop := (vp_in x1 7 ∧ (((u 25 x1.toNatClampNeg) < 7 → (vp_in x1 7 ∧ (vp_in (((x1 * 7) + (u 25 x1.toNatClampNeg))) 49 ∧ ∀ u2 : MM, u2 = up u 26 (((x1 * 7) + (u 25 x1.toNatClampNeg)).toNatClampNeg) x2 → (vp_in x1 7 ∧ (vp_in x1 7 ∧ ∀ u3 : MM, u3 = up u2 25 (x1.toNatClampNeg) ((u2 25 x1.toNatClampNeg) + 1) → (K 1 u3)))))) ∧ (¬ (u 25 x1.toNatClampNeg) < 7 → (K 0 u))))
set_option maxRecDepth 100000 in
set_option maxHeartbeats 4000000 in
theorem kX_X2_addToRow (l : Launch) (D : va_G) (cI cZ : ClassId) (ad q : Nat → Nat) (N : Nat) {x1 : Int32} {x2 : Int32} {u : MM} {K : Int32 → MM → Prop} (h : wX2_addToRow N x1 x2 u K) : CT l D cI cZ ad 72 q (entC q cI cZ) yX2_addToRow cX2_addToRow 3 (some .boolean) (rr 0 0) [.ref (q 21), .int x1, .int x2] u (QI D 72 q (entC q cI cZ) K) := by
    refine ct_of (by decide +kernel) (Nat.le_of_ble_eq_true rfl) (fun p e s m args below meth c C => ?_)
    refine j_sub (lv' := [(0, .ref (q 21)), (1, .int x1), (2, .int x2)]) [0, 1, 2] rfl ?_
    refine j_aload_n C 0 dX2_addToRow_0 rfl ?_
    refine j_get C 21 4 (ly_X2 C.2.2.2.2.2.2.2.1.1) q_98 rfl rfl (by decide) rfl rfl (by decide) rfl dX2_addToRow_1 ?_
    refine j_iload_n C 1 dX2_addToRow_4 rfl ?_
    obtain ⟨hin, h⟩ := h
    refine j_ialoadK (N := 7) C 25 _ rfl hin (by decide) rfl rfl dX2_addToRow_5 ?_
    refine j_bipush (v := 7) C dX2_addToRow_6 (by decide) ?_
    refine j_icmp_lt C 13 dX2_addToRow_8 (by decide) (fun c1 => ?_) (fun c1 => ?_)
    · have h := h.1 c1
      refine j_aload_n C 0 dX2_addToRow_13 rfl ?_
      refine j_get C 21 5 (ly_X2 C.2.2.2.2.2.2.2.1.1) q_100 rfl rfl (by decide) rfl rfl (by decide) rfl dX2_addToRow_14 ?_
      refine j_iload_n C 1 dX2_addToRow_17 rfl ?_
      refine j_bipush (v := 7) C dX2_addToRow_18 (by decide) ?_
      refine j_imul C dX2_addToRow_20 ?_
      refine j_aload_n C 0 dX2_addToRow_21 rfl ?_
      refine j_get C 21 4 (ly_X2 C.2.2.2.2.2.2.2.1.1) q_98 rfl rfl (by decide) rfl rfl (by decide) rfl dX2_addToRow_22 ?_
      refine j_iload_n C 1 dX2_addToRow_25 rfl ?_
      obtain ⟨hin, h⟩ := h
      refine j_ialoadK (N := 7) C 25 _ rfl hin (by decide) rfl rfl dX2_addToRow_26 ?_
      refine j_iadd C dX2_addToRow_27 ?_
      refine j_iload_n C 2 dX2_addToRow_28 rfl ?_
      obtain ⟨hin, h⟩ := h
      refine j_iastoreK (N := 49) C 26 _ rfl hin (by decide) (fun _ => rfl) rfl dX2_addToRow_29 (fun u2 eu2 => ?_)
      have h := h u2 eu2
      refine j_aload_n C 0 dX2_addToRow_30 rfl ?_
      refine j_get C 21 4 (ly_X2 C.2.2.2.2.2.2.2.1.1) q_98 rfl rfl (by decide) rfl rfl (by decide) rfl dX2_addToRow_31 ?_
      refine j_iload_n C 1 dX2_addToRow_34 rfl ?_
      refine j_dup2 C dX2_addToRow_35 rfl rfl ?_
      obtain ⟨hin, h⟩ := h
      refine j_ialoadK (N := 7) C 25 _ rfl hin (by decide) rfl rfl dX2_addToRow_36 ?_
      refine j_iconst (v := 1) C dX2_addToRow_37 (by decide) ?_
      refine j_iadd C dX2_addToRow_38 ?_
      obtain ⟨hin, h⟩ := h
      refine j_iastoreK (N := 7) C 25 _ rfl hin (by decide) (fun _ => rfl) rfl dX2_addToRow_39 (fun u3 eu3 => ?_)
      have h := h u3 eu3
      refine j_iconst (v := 1) C dX2_addToRow_40 (by decide) ?_
      exact j_zret C dX2_addToRow_41 rfl h
    · have h := h.2 c1
      refine j_iconst (v := 0) C dX2_addToRow_11 (by decide) ?_
      exact j_zret C dX2_addToRow_12 rfl h

def wX2_copyFrom (N : Nat) (t : Nat) (o : Nat) (u : MM) (K : MM → Prop) : Prop := (∀ u1 : MM, u1 = up u t 0 (u o 0) → (∀ u2 : MM, u2 = upR u1 (t + 1) (va_cpy (u1 (o + 1)) (u1 (t + 1)) 0 0 7) → (∀ u3 : MM, u3 = upR u2 (t + 2) (va_cpy (u2 (o + 2)) (u2 (t + 2)) 0 0 7) → (∀ u4 : MM, u4 = upR u3 (t + 3) (va_cpy (u3 (o + 3)) (u3 (t + 3)) 0 0 7) → (∀ u5 : MM, u5 = upR u4 (t + 4) (va_cpy (u4 (o + 4)) (u4 (t + 4)) 0 0 7) → (∀ u6 : MM, u6 = upR u5 (t + 5) (va_cpy (u5 (o + 5)) (u5 (t + 5)) 0 0 49) → (K u6)))))))
set_option maxRecDepth 100000 in
set_option maxHeartbeats 4000000 in
theorem kX_X2_copyFrom_47_21 (l : Launch) (D : va_G) (cI cZ : ClassId) (ad q : Nat → Nat) (N : Nat) {u : MM} {K : MM → Prop} (h : wX2_copyFrom N 47 21 u K) : CT l D cI cZ ad 72 q (entC q cI cZ) yX2_copyFrom cX2_copyFrom 2 none (rr 1 60) [.ref (q 47), .ref (q 21)] u (QV D 72 q (entC q cI cZ) K) := by
    refine ct_of (by decide +kernel) (Nat.le_of_ble_eq_true rfl) (fun p e s m args below meth c C => ?_)
    refine j_sub (lv' := [(0, .ref (q 47)), (1, .ref (q 21))]) [0, 1] rfl ?_
    refine j_aload_n C 0 dX2_copyFrom_0 rfl ?_
    refine j_aload_n C 1 dX2_copyFrom_1 rfl ?_
    refine j_get C 21 0 (ly_X2 C.2.2.2.2.2.2.2.1.1) q_85 rfl rfl (by decide) rfl rfl (by decide) rfl dX2_copyFrom_2 ?_
    refine j_put C 47 0 (ly_X2 C.2.2.2.2.2.2.2.1.1) q_85 rfl rfl (by decide) rfl rfl (by decide) tyX2_ok nmX2 rfl rfl ⟨rfl, rfl⟩ (Nat.le_of_ble_eq_true rfl) rfl dX2_copyFrom_5 ?_
    refine j_nmu (fun u1 eu1 => ?_)
    have h := h u1 eu1
    refine j_aload_n C 1 dX2_copyFrom_8 rfl ?_
    refine j_get C 21 1 (ly_X2 C.2.2.2.2.2.2.2.1.1) q_89 rfl rfl (by decide) rfl rfl (by decide) rfl dX2_copyFrom_9 ?_
    refine j_iconst (v := 0) C dX2_copyFrom_12 (by decide) ?_
    refine j_aload_n C 0 dX2_copyFrom_13 rfl ?_
    refine j_get C 47 1 (ly_X2 C.2.2.2.2.2.2.2.1.1) q_89 rfl rfl (by decide) rfl rfl (by decide) rfl dX2_copyFrom_14 ?_
    refine j_iconst (v := 0) C dX2_copyFrom_17 (by decide) ?_
    refine j_bipush (v := 7) C dX2_copyFrom_18 (by decide) ?_
    refine j_copy (N0 := 7) (N1 := 7) C 7 22 48 q_616 q_247 q_246 q_14 (by decide) (by decide) rfl rfl (fun _ => rfl) rfl (by decide) (by decide) (by decide) (by decide) (by decide) (Nat.le_of_ble_eq_true rfl) dX2_copyFrom_20 (fun u2 eu2 => ?_)
    have h := h u2 eu2
    refine j_aload_n C 1 dX2_copyFrom_23 rfl ?_
    refine j_get C 21 2 (ly_X2 C.2.2.2.2.2.2.2.1.1) q_92 rfl rfl (by decide) rfl rfl (by decide) rfl dX2_copyFrom_24 ?_
    refine j_iconst (v := 0) C dX2_copyFrom_27 (by decide) ?_
    refine j_aload_n C 0 dX2_copyFrom_28 rfl ?_
    refine j_get C 47 2 (ly_X2 C.2.2.2.2.2.2.2.1.1) q_92 rfl rfl (by decide) rfl rfl (by decide) rfl dX2_copyFrom_29 ?_
    refine j_iconst (v := 0) C dX2_copyFrom_32 (by decide) ?_
    refine j_bipush (v := 7) C dX2_copyFrom_33 (by decide) ?_
    refine j_copy (N0 := 7) (N1 := 7) C 7 23 49 q_616 q_247 q_246 q_14 (by decide) (by decide) rfl rfl (fun _ => rfl) rfl (by decide) (by decide) (by decide) (by decide) (by decide) (Nat.le_of_ble_eq_true rfl) dX2_copyFrom_35 (fun u3 eu3 => ?_)
    have h := h u3 eu3
    refine j_aload_n C 1 dX2_copyFrom_38 rfl ?_
    refine j_get C 21 3 (ly_X2 C.2.2.2.2.2.2.2.1.1) q_95 rfl rfl (by decide) rfl rfl (by decide) rfl dX2_copyFrom_39 ?_
    refine j_iconst (v := 0) C dX2_copyFrom_42 (by decide) ?_
    refine j_aload_n C 0 dX2_copyFrom_43 rfl ?_
    refine j_get C 47 3 (ly_X2 C.2.2.2.2.2.2.2.1.1) q_95 rfl rfl (by decide) rfl rfl (by decide) rfl dX2_copyFrom_44 ?_
    refine j_iconst (v := 0) C dX2_copyFrom_47 (by decide) ?_
    refine j_bipush (v := 7) C dX2_copyFrom_48 (by decide) ?_
    refine j_copy (N0 := 7) (N1 := 7) C 7 24 50 q_616 q_247 q_246 q_14 (by decide) (by decide) rfl rfl (fun _ => rfl) rfl (by decide) (by decide) (by decide) (by decide) (by decide) (Nat.le_of_ble_eq_true rfl) dX2_copyFrom_50 (fun u4 eu4 => ?_)
    have h := h u4 eu4
    refine j_aload_n C 1 dX2_copyFrom_53 rfl ?_
    refine j_get C 21 4 (ly_X2 C.2.2.2.2.2.2.2.1.1) q_98 rfl rfl (by decide) rfl rfl (by decide) rfl dX2_copyFrom_54 ?_
    refine j_iconst (v := 0) C dX2_copyFrom_57 (by decide) ?_
    refine j_aload_n C 0 dX2_copyFrom_58 rfl ?_
    refine j_get C 47 4 (ly_X2 C.2.2.2.2.2.2.2.1.1) q_98 rfl rfl (by decide) rfl rfl (by decide) rfl dX2_copyFrom_59 ?_
    refine j_iconst (v := 0) C dX2_copyFrom_62 (by decide) ?_
    refine j_bipush (v := 7) C dX2_copyFrom_63 (by decide) ?_
    refine j_copy (N0 := 7) (N1 := 7) C 7 25 51 q_616 q_247 q_246 q_14 (by decide) (by decide) rfl rfl (fun _ => rfl) rfl (by decide) (by decide) (by decide) (by decide) (by decide) (Nat.le_of_ble_eq_true rfl) dX2_copyFrom_65 (fun u5 eu5 => ?_)
    have h := h u5 eu5
    refine j_aload_n C 1 dX2_copyFrom_68 rfl ?_
    refine j_get C 21 5 (ly_X2 C.2.2.2.2.2.2.2.1.1) q_100 rfl rfl (by decide) rfl rfl (by decide) rfl dX2_copyFrom_69 ?_
    refine j_iconst (v := 0) C dX2_copyFrom_72 (by decide) ?_
    refine j_aload_n C 0 dX2_copyFrom_73 rfl ?_
    refine j_get C 47 5 (ly_X2 C.2.2.2.2.2.2.2.1.1) q_100 rfl rfl (by decide) rfl rfl (by decide) rfl dX2_copyFrom_74 ?_
    refine j_iconst (v := 0) C dX2_copyFrom_77 (by decide) ?_
    refine j_bipush (v := 49) C dX2_copyFrom_78 (by decide) ?_
    refine j_copy (N0 := 49) (N1 := 49) C 49 26 52 q_616 q_247 q_246 q_14 (by decide) (by decide) rfl rfl (fun _ => rfl) rfl (by decide) (by decide) (by decide) (by decide) (by decide) (Nat.le_of_ble_eq_true rfl) dX2_copyFrom_80 (fun u6 eu6 => ?_)
    have h := h u6 eu6
    exact j_vret C dX2_copyFrom_83 h
set_option maxRecDepth 100000 in
set_option maxHeartbeats 4000000 in
theorem kX_X2_copyFrom_21_47 (l : Launch) (D : va_G) (cI cZ : ClassId) (ad q : Nat → Nat) (N : Nat) {u : MM} {K : MM → Prop} (h : wX2_copyFrom N 21 47 u K) : CT l D cI cZ ad 72 q (entC q cI cZ) yX2_copyFrom cX2_copyFrom 2 none (rr 1 60) [.ref (q 21), .ref (q 47)] u (QV D 72 q (entC q cI cZ) K) := by
    refine ct_of (by decide +kernel) (Nat.le_of_ble_eq_true rfl) (fun p e s m args below meth c C => ?_)
    refine j_sub (lv' := [(0, .ref (q 21)), (1, .ref (q 47))]) [0, 1] rfl ?_
    refine j_aload_n C 0 dX2_copyFrom_0 rfl ?_
    refine j_aload_n C 1 dX2_copyFrom_1 rfl ?_
    refine j_get C 47 0 (ly_X2 C.2.2.2.2.2.2.2.1.1) q_85 rfl rfl (by decide) rfl rfl (by decide) rfl dX2_copyFrom_2 ?_
    refine j_put C 21 0 (ly_X2 C.2.2.2.2.2.2.2.1.1) q_85 rfl rfl (by decide) rfl rfl (by decide) tyX2_ok nmX2 rfl rfl ⟨rfl, rfl⟩ (Nat.le_of_ble_eq_true rfl) rfl dX2_copyFrom_5 ?_
    refine j_nmu (fun u1 eu1 => ?_)
    have h := h u1 eu1
    refine j_aload_n C 1 dX2_copyFrom_8 rfl ?_
    refine j_get C 47 1 (ly_X2 C.2.2.2.2.2.2.2.1.1) q_89 rfl rfl (by decide) rfl rfl (by decide) rfl dX2_copyFrom_9 ?_
    refine j_iconst (v := 0) C dX2_copyFrom_12 (by decide) ?_
    refine j_aload_n C 0 dX2_copyFrom_13 rfl ?_
    refine j_get C 21 1 (ly_X2 C.2.2.2.2.2.2.2.1.1) q_89 rfl rfl (by decide) rfl rfl (by decide) rfl dX2_copyFrom_14 ?_
    refine j_iconst (v := 0) C dX2_copyFrom_17 (by decide) ?_
    refine j_bipush (v := 7) C dX2_copyFrom_18 (by decide) ?_
    refine j_copy (N0 := 7) (N1 := 7) C 7 48 22 q_616 q_247 q_246 q_14 (by decide) (by decide) rfl rfl (fun _ => rfl) rfl (by decide) (by decide) (by decide) (by decide) (by decide) (Nat.le_of_ble_eq_true rfl) dX2_copyFrom_20 (fun u2 eu2 => ?_)
    have h := h u2 eu2
    refine j_aload_n C 1 dX2_copyFrom_23 rfl ?_
    refine j_get C 47 2 (ly_X2 C.2.2.2.2.2.2.2.1.1) q_92 rfl rfl (by decide) rfl rfl (by decide) rfl dX2_copyFrom_24 ?_
    refine j_iconst (v := 0) C dX2_copyFrom_27 (by decide) ?_
    refine j_aload_n C 0 dX2_copyFrom_28 rfl ?_
    refine j_get C 21 2 (ly_X2 C.2.2.2.2.2.2.2.1.1) q_92 rfl rfl (by decide) rfl rfl (by decide) rfl dX2_copyFrom_29 ?_
    refine j_iconst (v := 0) C dX2_copyFrom_32 (by decide) ?_
    refine j_bipush (v := 7) C dX2_copyFrom_33 (by decide) ?_
    refine j_copy (N0 := 7) (N1 := 7) C 7 49 23 q_616 q_247 q_246 q_14 (by decide) (by decide) rfl rfl (fun _ => rfl) rfl (by decide) (by decide) (by decide) (by decide) (by decide) (Nat.le_of_ble_eq_true rfl) dX2_copyFrom_35 (fun u3 eu3 => ?_)
    have h := h u3 eu3
    refine j_aload_n C 1 dX2_copyFrom_38 rfl ?_
    refine j_get C 47 3 (ly_X2 C.2.2.2.2.2.2.2.1.1) q_95 rfl rfl (by decide) rfl rfl (by decide) rfl dX2_copyFrom_39 ?_
    refine j_iconst (v := 0) C dX2_copyFrom_42 (by decide) ?_
    refine j_aload_n C 0 dX2_copyFrom_43 rfl ?_
    refine j_get C 21 3 (ly_X2 C.2.2.2.2.2.2.2.1.1) q_95 rfl rfl (by decide) rfl rfl (by decide) rfl dX2_copyFrom_44 ?_
    refine j_iconst (v := 0) C dX2_copyFrom_47 (by decide) ?_
    refine j_bipush (v := 7) C dX2_copyFrom_48 (by decide) ?_
    refine j_copy (N0 := 7) (N1 := 7) C 7 50 24 q_616 q_247 q_246 q_14 (by decide) (by decide) rfl rfl (fun _ => rfl) rfl (by decide) (by decide) (by decide) (by decide) (by decide) (Nat.le_of_ble_eq_true rfl) dX2_copyFrom_50 (fun u4 eu4 => ?_)
    have h := h u4 eu4
    refine j_aload_n C 1 dX2_copyFrom_53 rfl ?_
    refine j_get C 47 4 (ly_X2 C.2.2.2.2.2.2.2.1.1) q_98 rfl rfl (by decide) rfl rfl (by decide) rfl dX2_copyFrom_54 ?_
    refine j_iconst (v := 0) C dX2_copyFrom_57 (by decide) ?_
    refine j_aload_n C 0 dX2_copyFrom_58 rfl ?_
    refine j_get C 21 4 (ly_X2 C.2.2.2.2.2.2.2.1.1) q_98 rfl rfl (by decide) rfl rfl (by decide) rfl dX2_copyFrom_59 ?_
    refine j_iconst (v := 0) C dX2_copyFrom_62 (by decide) ?_
    refine j_bipush (v := 7) C dX2_copyFrom_63 (by decide) ?_
    refine j_copy (N0 := 7) (N1 := 7) C 7 51 25 q_616 q_247 q_246 q_14 (by decide) (by decide) rfl rfl (fun _ => rfl) rfl (by decide) (by decide) (by decide) (by decide) (by decide) (Nat.le_of_ble_eq_true rfl) dX2_copyFrom_65 (fun u5 eu5 => ?_)
    have h := h u5 eu5
    refine j_aload_n C 1 dX2_copyFrom_68 rfl ?_
    refine j_get C 47 5 (ly_X2 C.2.2.2.2.2.2.2.1.1) q_100 rfl rfl (by decide) rfl rfl (by decide) rfl dX2_copyFrom_69 ?_
    refine j_iconst (v := 0) C dX2_copyFrom_72 (by decide) ?_
    refine j_aload_n C 0 dX2_copyFrom_73 rfl ?_
    refine j_get C 21 5 (ly_X2 C.2.2.2.2.2.2.2.1.1) q_100 rfl rfl (by decide) rfl rfl (by decide) rfl dX2_copyFrom_74 ?_
    refine j_iconst (v := 0) C dX2_copyFrom_77 (by decide) ?_
    refine j_bipush (v := 49) C dX2_copyFrom_78 (by decide) ?_
    refine j_copy (N0 := 49) (N1 := 49) C 49 52 26 q_616 q_247 q_246 q_14 (by decide) (by decide) rfl rfl (fun _ => rfl) rfl (by decide) (by decide) (by decide) (by decide) (by decide) (Nat.le_of_ble_eq_true rfl) dX2_copyFrom_80 (fun u6 eu6 => ?_)
    have h := h u6 eu6
    exact j_vret C dX2_copyFrom_83 h

def wX6_copyFrom (N : Nat) (t : Nat) (o : Nat) (u : MM) (K : MM → Prop) : Prop := (∀ u1 : MM, u1 = upR u (t + 1) (va_cpy (u (o + 1)) (u (t + 1)) 0 0 100) → (∀ u2 : MM, u2 = up u1 t 1 (u1 o 1) → (K u2)))
set_option maxRecDepth 100000 in
set_option maxHeartbeats 4000000 in
theorem kX_X6_copyFrom_62_11 (l : Launch) (D : va_G) (cI cZ : ClassId) (ad q : Nat → Nat) (N : Nat) {u : MM} {K : MM → Prop} (h : wX6_copyFrom N 62 11 u K) : CT l D cI cZ ad 72 q (entC q cI cZ) yX6_copyFrom cX6_copyFrom 2 none (rr 1 60) [.ref (q 62), .ref (q 11)] u (QV D 72 q (entC q cI cZ) K) := by
    refine ct_of (by decide +kernel) (Nat.le_of_ble_eq_true rfl) (fun p e s m args below meth c C => ?_)
    refine j_sub (lv' := [(0, .ref (q 62)), (1, .ref (q 11))]) [0, 1] rfl ?_
    refine j_aload_n C 1 dX6_copyFrom_0 rfl ?_
    refine j_get C 11 0 (ly_X6 C.2.2.2.2.2.2.2.1.1) q_51 rfl rfl (by decide) rfl rfl (by decide) rfl dX6_copyFrom_1 ?_
    refine j_iconst (v := 0) C dX6_copyFrom_4 (by decide) ?_
    refine j_aload_n C 0 dX6_copyFrom_5 rfl ?_
    refine j_get C 62 0 (ly_X6 C.2.2.2.2.2.2.2.1.1) q_51 rfl rfl (by decide) rfl rfl (by decide) rfl dX6_copyFrom_6 ?_
    refine j_iconst (v := 0) C dX6_copyFrom_9 (by decide) ?_
    refine j_bipush (v := 100) C dX6_copyFrom_10 (by decide) ?_
    refine j_copy (N0 := 100) (N1 := 100) C 100 12 63 q_245 q_247 q_246 q_14 (by decide) (by decide) rfl rfl (fun _ => rfl) rfl (by decide) (by decide) (by decide) (by decide) (by decide) (Nat.le_of_ble_eq_true rfl) dX6_copyFrom_12 (fun u1 eu1 => ?_)
    have h := h u1 eu1
    refine j_aload_n C 0 dX6_copyFrom_15 rfl ?_
    refine j_aload_n C 1 dX6_copyFrom_16 rfl ?_
    refine j_get C 11 1 (ly_X6 C.2.2.2.2.2.2.2.1.1) q_52 rfl rfl (by decide) rfl rfl (by decide) rfl dX6_copyFrom_17 ?_
    refine j_put C 62 1 (ly_X6 C.2.2.2.2.2.2.2.1.1) q_52 rfl rfl (by decide) rfl rfl (by decide) tyX6_ok nmX6 rfl rfl ⟨rfl, rfl⟩ (Nat.le_of_ble_eq_true rfl) rfl dX6_copyFrom_20 ?_
    refine j_nmu (fun u2 eu2 => ?_)
    have h := h u2 eu2
    exact j_vret C dX6_copyFrom_23 h
set_option maxRecDepth 100000 in
set_option maxHeartbeats 4000000 in
theorem kX_X6_copyFrom_37_11 (l : Launch) (D : va_G) (cI cZ : ClassId) (ad q : Nat → Nat) (N : Nat) {u : MM} {K : MM → Prop} (h : wX6_copyFrom N 37 11 u K) : CT l D cI cZ ad 72 q (entC q cI cZ) yX6_copyFrom cX6_copyFrom 2 none (rr 1 60) [.ref (q 37), .ref (q 11)] u (QV D 72 q (entC q cI cZ) K) := by
    refine ct_of (by decide +kernel) (Nat.le_of_ble_eq_true rfl) (fun p e s m args below meth c C => ?_)
    refine j_sub (lv' := [(0, .ref (q 37)), (1, .ref (q 11))]) [0, 1] rfl ?_
    refine j_aload_n C 1 dX6_copyFrom_0 rfl ?_
    refine j_get C 11 0 (ly_X6 C.2.2.2.2.2.2.2.1.1) q_51 rfl rfl (by decide) rfl rfl (by decide) rfl dX6_copyFrom_1 ?_
    refine j_iconst (v := 0) C dX6_copyFrom_4 (by decide) ?_
    refine j_aload_n C 0 dX6_copyFrom_5 rfl ?_
    refine j_get C 37 0 (ly_X6 C.2.2.2.2.2.2.2.1.1) q_51 rfl rfl (by decide) rfl rfl (by decide) rfl dX6_copyFrom_6 ?_
    refine j_iconst (v := 0) C dX6_copyFrom_9 (by decide) ?_
    refine j_bipush (v := 100) C dX6_copyFrom_10 (by decide) ?_
    refine j_copy (N0 := 100) (N1 := 100) C 100 12 38 q_245 q_247 q_246 q_14 (by decide) (by decide) rfl rfl (fun _ => rfl) rfl (by decide) (by decide) (by decide) (by decide) (by decide) (Nat.le_of_ble_eq_true rfl) dX6_copyFrom_12 (fun u1 eu1 => ?_)
    have h := h u1 eu1
    refine j_aload_n C 0 dX6_copyFrom_15 rfl ?_
    refine j_aload_n C 1 dX6_copyFrom_16 rfl ?_
    refine j_get C 11 1 (ly_X6 C.2.2.2.2.2.2.2.1.1) q_52 rfl rfl (by decide) rfl rfl (by decide) rfl dX6_copyFrom_17 ?_
    refine j_put C 37 1 (ly_X6 C.2.2.2.2.2.2.2.1.1) q_52 rfl rfl (by decide) rfl rfl (by decide) tyX6_ok nmX6 rfl rfl ⟨rfl, rfl⟩ (Nat.le_of_ble_eq_true rfl) rfl dX6_copyFrom_20 ?_
    refine j_nmu (fun u2 eu2 => ?_)
    have h := h u2 eu2
    exact j_vret C dX6_copyFrom_23 h
set_option maxRecDepth 100000 in
set_option maxHeartbeats 4000000 in
theorem kX_X6_copyFrom_11_37 (l : Launch) (D : va_G) (cI cZ : ClassId) (ad q : Nat → Nat) (N : Nat) {u : MM} {K : MM → Prop} (h : wX6_copyFrom N 11 37 u K) : CT l D cI cZ ad 72 q (entC q cI cZ) yX6_copyFrom cX6_copyFrom 2 none (rr 1 60) [.ref (q 11), .ref (q 37)] u (QV D 72 q (entC q cI cZ) K) := by
    refine ct_of (by decide +kernel) (Nat.le_of_ble_eq_true rfl) (fun p e s m args below meth c C => ?_)
    refine j_sub (lv' := [(0, .ref (q 11)), (1, .ref (q 37))]) [0, 1] rfl ?_
    refine j_aload_n C 1 dX6_copyFrom_0 rfl ?_
    refine j_get C 37 0 (ly_X6 C.2.2.2.2.2.2.2.1.1) q_51 rfl rfl (by decide) rfl rfl (by decide) rfl dX6_copyFrom_1 ?_
    refine j_iconst (v := 0) C dX6_copyFrom_4 (by decide) ?_
    refine j_aload_n C 0 dX6_copyFrom_5 rfl ?_
    refine j_get C 11 0 (ly_X6 C.2.2.2.2.2.2.2.1.1) q_51 rfl rfl (by decide) rfl rfl (by decide) rfl dX6_copyFrom_6 ?_
    refine j_iconst (v := 0) C dX6_copyFrom_9 (by decide) ?_
    refine j_bipush (v := 100) C dX6_copyFrom_10 (by decide) ?_
    refine j_copy (N0 := 100) (N1 := 100) C 100 38 12 q_245 q_247 q_246 q_14 (by decide) (by decide) rfl rfl (fun _ => rfl) rfl (by decide) (by decide) (by decide) (by decide) (by decide) (Nat.le_of_ble_eq_true rfl) dX6_copyFrom_12 (fun u1 eu1 => ?_)
    have h := h u1 eu1
    refine j_aload_n C 0 dX6_copyFrom_15 rfl ?_
    refine j_aload_n C 1 dX6_copyFrom_16 rfl ?_
    refine j_get C 37 1 (ly_X6 C.2.2.2.2.2.2.2.1.1) q_52 rfl rfl (by decide) rfl rfl (by decide) rfl dX6_copyFrom_17 ?_
    refine j_put C 11 1 (ly_X6 C.2.2.2.2.2.2.2.1.1) q_52 rfl rfl (by decide) rfl rfl (by decide) tyX6_ok nmX6 rfl rfl ⟨rfl, rfl⟩ (Nat.le_of_ble_eq_true rfl) rfl dX6_copyFrom_20 ?_
    refine j_nmu (fun u2 eu2 => ?_)
    have h := h u2 eu2
    exact j_vret C dX6_copyFrom_23 h

def wX8_clear (N : Nat) (u : MM) (K : MM → Prop) : Prop := (∀ u1 : MM, u1 = up u 64 0 1 → (∀ u2 : MM, u2 = up u1 64 1 0 → (∀ u3 : MM, u3 = up u2 64 2 0 → (∀ u4 : MM, u4 = up u3 64 3 0 → (K u4)))))
set_option maxRecDepth 100000 in
set_option maxHeartbeats 4000000 in
theorem kX_X8_clear (l : Launch) (D : va_G) (cI cZ : ClassId) (ad q : Nat → Nat) (N : Nat) {u : MM} {K : MM → Prop} (h : wX8_clear N u K) : CT l D cI cZ ad 72 q (entC q cI cZ) yX8_clear cX8_clear 1 none (rr 0 0) [.ref (q 64)] u (QV D 72 q (entC q cI cZ) K) := by
    refine ct_of (by decide +kernel) (Nat.le_of_ble_eq_true rfl) (fun p e s m args below meth c C => ?_)
    refine j_sub (lv' := [(0, .ref (q 64))]) [0] rfl ?_
    refine j_aload_n C 0 dX8_clear_0 rfl ?_
    refine j_iconst (v := 1) C dX8_clear_1 (by decide) ?_
    refine j_put C 64 0 (ly_X8 C.2.2.2.2.2.2.2.1.1) q_62 rfl rfl (by decide) rfl rfl (by decide) tyX8_ok nmX8 rfl rfl ⟨rfl, rfl⟩ (Nat.le_of_ble_eq_true rfl) rfl dX8_clear_2 ?_
    refine j_nmu (fun u1 eu1 => ?_)
    have h := h u1 eu1
    refine j_aload_n C 0 dX8_clear_5 rfl ?_
    refine j_iconst (v := 0) C dX8_clear_6 (by decide) ?_
    refine j_put C 64 1 (ly_X8 C.2.2.2.2.2.2.2.1.1) q_66 rfl rfl (by decide) rfl rfl (by decide) tyX8_ok nmX8 rfl rfl ⟨rfl, rfl⟩ (Nat.le_of_ble_eq_true rfl) rfl dX8_clear_7 ?_
    refine j_nmu (fun u2 eu2 => ?_)
    have h := h u2 eu2
    refine j_aload_n C 0 dX8_clear_10 rfl ?_
    refine j_iconst (v := 0) C dX8_clear_11 (by decide) ?_
    refine j_put C 64 2 (ly_X8 C.2.2.2.2.2.2.2.1.1) q_70 rfl rfl (by decide) rfl rfl (by decide) tyX8_ok nmX8 rfl rfl ⟨rfl, rfl⟩ (Nat.le_of_ble_eq_true rfl) rfl dX8_clear_12 ?_
    refine j_nmu (fun u3 eu3 => ?_)
    have h := h u3 eu3
    refine j_aload_n C 0 dX8_clear_15 rfl ?_
    refine j_iconst (v := 0) C dX8_clear_16 (by decide) ?_
    refine j_put C 64 3 (ly_X8 C.2.2.2.2.2.2.2.1.1) q_71 rfl rfl (by decide) rfl rfl (by decide) tyX8_ok nmX8 rfl rfl ⟨rfl, rfl⟩ (Nat.le_of_ble_eq_true rfl) rfl dX8_clear_17 ?_
    refine j_nmu (fun u4 eu4 => ?_)
    have h := h u4 eu4
    exact j_vret C dX8_clear_20 h

def wX6_at (N : Nat) (x1 : Int32) (u : MM) (K : Int32 → MM → Prop) : Prop := ((x1 < 0 → (K (-1) u)) ∧ (¬ x1 < 0 → (((u 62 1) ≤ x1 → (K (-1) u)) ∧ (¬ (u 62 1) ≤ x1 → (vp_in x1 100 ∧ (K (u 63 x1.toNatClampNeg) u))))))
set_option maxRecDepth 100000 in
set_option maxHeartbeats 4000000 in
theorem kX_X6_at (l : Launch) (D : va_G) (cI cZ : ClassId) (ad q : Nat → Nat) (N : Nat) {x1 : Int32} {u : MM} {K : Int32 → MM → Prop} (h : wX6_at N x1 u K) : CT l D cI cZ ad 72 q (entC q cI cZ) yX6_at cX6_at 2 (some .int) (rr 0 0) [.ref (q 62), .int x1] u (QI D 72 q (entC q cI cZ) K) := by
    refine ct_of (by decide +kernel) (Nat.le_of_ble_eq_true rfl) (fun p e s m args below meth c C => ?_)
    refine j_sub (lv' := [(0, .ref (q 62)), (1, .int x1)]) [0, 1] rfl ?_
    refine j_iload_n C 1 dX6_at_0 rfl ?_
    refine j_if_lt C 21 dX6_at_1 (by decide) (fun c1 => ?_) (fun c1 => ?_)
    · have h := h.1 c1
      refine j_iconst (v := (-1)) C dX6_at_21 (by decide) ?_
      exact j_iret C dX6_at_22 h
    · have h := h.2 c1
      refine j_iload_n C 1 dX6_at_4 rfl ?_
      refine j_aload_n C 0 dX6_at_5 rfl ?_
      refine j_get C 62 1 (ly_X6 C.2.2.2.2.2.2.2.1.1) q_52 rfl rfl (by decide) rfl rfl (by decide) rfl dX6_at_6 ?_
      refine j_icmp_ge C 21 dX6_at_9 (by decide) (fun c2 => ?_) (fun c2 => ?_)
      · have h := h.1 c2
        refine j_iconst (v := (-1)) C dX6_at_21 (by decide) ?_
        exact j_iret C dX6_at_22 h
      · have h := h.2 c2
        refine j_aload_n C 0 dX6_at_12 rfl ?_
        refine j_get C 62 0 (ly_X6 C.2.2.2.2.2.2.2.1.1) q_51 rfl rfl (by decide) rfl rfl (by decide) rfl dX6_at_13 ?_
        refine j_iload_n C 1 dX6_at_16 rfl ?_
        obtain ⟨hin, h⟩ := h
        refine j_ialoadK (N := 100) C 63 _ rfl hin (by decide) rfl rfl dX6_at_17 ?_
        refine j_goto C 22 dX6_at_18 (by decide) ?_
        exact j_iret C dX6_at_22 h

def wX3_skip (N : Nat) (x1 : Int32) (u : MM) (K : Int32 → MM → Prop) : Prop := (wX6_at N (u 6 2) u (fun r1 u2 => ((r1 = x1 → (∀ u4 : MM, u4 = up u2 6 2 ((u2 6 2) + 1) → (K 1 u4))) ∧ (¬ r1 = x1 → (K 0 u2)))))
set_option maxRecDepth 100000 in
set_option maxHeartbeats 4000000 in
theorem kX_X3_skip (l : Launch) (D : va_G) (cI cZ : ClassId) (ad q : Nat → Nat) (N : Nat) {x1 : Int32} {u : MM} {K : Int32 → MM → Prop} (h : wX3_skip N x1 u K) : CT l D cI cZ ad 72 q (entC q cI cZ) yX3_skip cX3_skip 2 (some .boolean) (rr 1 21) [.ref (q 6), .int x1] u (QI D 72 q (entC q cI cZ) K) := by
    refine ct_of (by decide +kernel) (Nat.le_of_ble_eq_true rfl) (fun p e s m args below meth c C => ?_)
    refine j_sub (lv' := [(0, .ref (q 6)), (1, .int x1)]) [0, 1] rfl ?_
    refine j_aload_n C 0 dX3_skip_0 rfl ?_
    refine j_get C 6 0 (ly_X3 C.2.2.2.2.2.2.2.1.1) q_201 rfl rfl (by decide) rfl rfl (by decide) rfl dX3_skip_1 ?_
    refine j_aload_n C 0 dX3_skip_4 rfl ?_
    refine j_get C 6 2 (ly_X3 C.2.2.2.2.2.2.2.1.1) q_204 rfl rfl (by decide) rfl rfl (by decide) rfl dX3_skip_5 ?_
    refine j_wi C (fun H locs ls hP hD hS hl => run_VN (Cn := "") (As := [.int (u 6 2)]) (st := []) C mf_X6_at 62 (kX_X6_at l D cI cZ ad q N h) q_254 (by decide) rfl rfl rfl rfl ⟨rfl, rfl, by decide, by decide⟩ (Nat.le_of_ble_eq_true rfl) dX3_skip_8 hP hD hS hl) (fun r1 u2 h => ?_)
    refine j_iload_n C 1 dX3_skip_11 rfl ?_
    refine j_icmp_eq C 17 dX3_skip_12 (by decide) (fun c3 => ?_) (fun c3 => ?_)
    · have h := h.1 c3
      refine j_aload_n C 0 dX3_skip_17 rfl ?_
      refine j_dup C dX3_skip_18 rfl ?_
      refine j_get C 6 2 (ly_X3 C.2.2.2.2.2.2.2.1.1) q_204 rfl rfl (by decide) rfl rfl (by decide) rfl dX3_skip_19 ?_
      refine j_iconst (v := 1) C dX3_skip_22 (by decide) ?_
      refine j_iadd C dX3_skip_23 ?_
      refine j_put C 6 2 (ly_X3 C.2.2.2.2.2.2.2.1.1) q_204 rfl rfl (by decide) rfl rfl (by decide) tyX3_ok nmX3 rfl rfl ⟨rfl, rfl⟩ (Nat.le_of_ble_eq_true rfl) rfl dX3_skip_24 ?_
      refine j_nmu (fun u4 eu4 => ?_)
      have h := h u4 eu4
      refine j_iconst (v := 1) C dX3_skip_27 (by decide) ?_
      exact j_zret C dX3_skip_28 rfl h
    · have h := h.2 c3
      refine j_iconst (v := 0) C dX3_skip_15 (by decide) ?_
      exact j_zret C dX3_skip_16 rfl h

def wX3_readWord_b2 (N : Nat) (K : Int32 → MM → Prop) (i : Nat) : Nat → Int32 → MM → Prop
  | 0, _, _ => False
  | n + 1, x2, u => (i < 8 ∧ (((nI (lenJ.getD i 0)) ≤ x2 → (K 1 u)) ∧ (¬ (nI (lenJ.getD i 0)) ≤ x2 → (i < 8 ∧ vp_in x2 (lenJ.getD i 0) ∧ (wX3_skip N (chJ i x2.toNatClampNeg) u (fun r4 u5 => ((¬ r4 = 0 → (∀ y7 : Int32, y7 = x2 + 1 → (wX3_readWord_b2 N K i n y7 u5))) ∧ (r4 = 0 → (K 0 u5)))))))))
def wX3_readWord (N : Nat) (i : Nat) (u : MM) (K : Int32 → MM → Prop) : Prop := (wX3_readWord_b2 N K i N 0 u)
set_option maxRecDepth 100000 in
set_option maxHeartbeats 4000000 in
theorem tX3_readWord_b2 (l : Launch) (D : va_G) (cI cZ : ClassId) (ad q : Nat → Nat) (N : Nat) {p : Program} {e : Env} {s : State} {m : MethodId} {args : Array Value} {below : List Frame} {meth : Method} {c : Code} {K : Int32 → MM → Prop} (C : CX p s m args meth c cX3_readWord 3 RX3 (some .boolean) D cI cZ ad (AJ 72 q s.heap.size)) {i : Nat} : ∀ (n : Nat) (x2 : Int32) (u : MM), wX3_readWord_b2 N K i n x2 u → JX p l e (rr 4 111) s m args below meth c D (AJ 72 q s.heap.size) 3 (MQ below ((QI D 72 q (entC q cI cZ) K) (AJ 72 q s.heap.size)) args s 0 0 (AJ 72 q s.heap.size)) 72 q (entC q cI cZ) u 2 [(0, .ref (q 6)), (1, .ref (ad (10 + i))), (2, .int x2)] [] := by
  intro n
  induction n with
  | zero => intro x2 u h; exact h.elim
  | succ n ih =>
    intro x2 u h
    refine j_iload_n C 2 dX3_readWord_2 rfl ?_
    refine j_aload_n C 1 dX3_readWord_3 rfl ?_
    obtain ⟨hi, h⟩ := h
    refine j_ui C (fun H locs ls hS hl => run_VS (As := []) (st := [.int x2]) C mf_J0_length_8abf5 i hi rfl (kX_J0_length l D cI cZ ad q (K := fun r => r = (nI (lenJ.getD i 0))) hi rfl) q_263 rfl rfl ⟨rfl, rfl, by decide, by decide⟩ (Nat.le_of_ble_eq_true rfl) dX3_readWord_4 hS hl) (fun r1 _ hr => ?_)
    subst hr
    refine j_icmp_ge C 30 dX3_readWord_7 (by decide) (fun c2 => ?_) (fun c2 => ?_)
    · have h := h.1 c2
      refine j_iconst (v := 1) C dX3_readWord_30 (by decide) ?_
      exact j_zret C dX3_readWord_31 rfl h
    · have h := h.2 c2
      refine j_aload_n C 0 dX3_readWord_10 rfl ?_
      refine j_aload_n C 1 dX3_readWord_11 rfl ?_
      refine j_iload_n C 2 dX3_readWord_12 rfl ?_
      obtain ⟨hi, hin, h⟩ := h
      refine j_ui C (fun H locs ls hS hl => run_VS (As := [.int x2]) (st := [.ref (q 6)]) C mf_J0_charAt_5068e i hi rfl (kX_J0_charAt l D cI cZ ad q (K := fun r => r = (chJ i x2.toNatClampNeg)) hi hin rfl) q_272 rfl rfl ⟨rfl, rfl, by decide, by decide⟩ (Nat.le_of_ble_eq_true rfl) dX3_readWord_13 hS hl) (fun r3 _ hr => ?_)
      subst hr
      refine j_wi C (fun H locs ls hP hD hS hl => run_V (Cn := "") (As := [.int (chJ i x2.toNatClampNeg)]) (st := []) C mf_X3_skip 6 (kX_X3_skip l D cI cZ ad q N h) q_306 (by decide) rfl rfl rfl rfl ⟨rfl, rfl, by decide, by decide⟩ (Nat.le_of_ble_eq_true rfl) dX3_readWord_16 hP hD hS hl) (fun r4 u5 h => ?_)
      refine j_if_ne C 24 dX3_readWord_19 (by decide) (fun c6 => ?_) (fun c6 => ?_)
      · have h := h.1 c6
        obtain ⟨y7, ey7⟩ : ∃ z : Int32, z = x2 + 1 := ⟨_, rfl⟩
        have h := h y7 ey7
        refine j_iinc (v := y7) (lv' := [(2, .int y7), (0, .ref (q 6)), (1, .ref (ad (10 + i)))]) C 2 dX3_readWord_24 rfl (by rw [ey7]; rfl) (by decide) rfl ?_
        refine j_goto C 2 dX3_readWord_27 (by decide) ?_
        refine j_sub (lv' := [(0, .ref (q 6)), (1, .ref (ad (10 + i))), (2, .int y7)]) [1, 2, 0] rfl ?_
        exact ih _ _ h
      · have h := h.2 c6
        refine j_iconst (v := 0) C dX3_readWord_22 (by decide) ?_
        exact j_zret C dX3_readWord_23 rfl h
set_option maxRecDepth 100000 in
set_option maxHeartbeats 4000000 in
theorem kX_X3_readWord (l : Launch) (D : va_G) (cI cZ : ClassId) (ad q : Nat → Nat) (N : Nat) {i : Nat} {u : MM} {K : Int32 → MM → Prop} (h : wX3_readWord N i u K) : CT l D cI cZ ad 72 q (entC q cI cZ) yX3_readWord cX3_readWord 3 (some .boolean) (rr 4 111) [.ref (q 6), .ref (ad (10 + i))] u (QI D 72 q (entC q cI cZ) K) := by
    refine ct_of (by decide +kernel) (Nat.le_of_ble_eq_true rfl) (fun p e s m args below meth c C => ?_)
    refine j_sub (lv' := [(0, .ref (q 6)), (1, .ref (ad (10 + i)))]) [0, 1] rfl ?_
    refine j_iconst (v := 0) C dX3_readWord_0 (by decide) ?_
    refine j_istore_n (lv' := [(2, .int 0), (0, .ref (q 6)), (1, .ref (ad (10 + i)))]) C dX3_readWord_1 (by decide) rfl ?_
    refine j_sub (lv' := [(0, .ref (q 6)), (1, .ref (ad (10 + i))), (2, .int 0)]) [1, 2, 0] rfl ?_
    exact tX3_readWord_b2 l D cI cZ ad q N C N _ _ h

def wX8_addClause (N : Nat) (x1 : Int32) (x2 : Int32) (u : MM) (K : MM → Prop) : Prop := ((10 ≤ (u 64 2) → (K u)) ∧ (¬ 10 ≤ (u 64 2) → (vp_in ((u 64 2)) 10 ∧ ∀ u2 : MM, u2 = up u 65 ((u 64 2).toNatClampNeg) x1 → (vp_in ((u2 64 2)) 10 ∧ ∀ u3 : MM, u3 = up u2 66 ((u2 64 2).toNatClampNeg) x2 → (vp_in ((u3 64 2)) 10 ∧ ∀ u4 : MM, u4 = up u3 67 ((u3 64 2).toNatClampNeg) (u3 64 3) → (vp_in ((u4 64 2)) 10 ∧ ∀ u5 : MM, u5 = up u4 68 ((u4 64 2).toNatClampNeg) (u4 64 3) → (∀ u6 : MM, u6 = up u5 64 2 ((u5 64 2) + 1) → (K u6))))))))
set_option maxRecDepth 100000 in
set_option maxHeartbeats 4000000 in
theorem kX_X8_addClause (l : Launch) (D : va_G) (cI cZ : ClassId) (ad q : Nat → Nat) (N : Nat) {x1 : Int32} {x2 : Int32} {u : MM} {K : MM → Prop} (h : wX8_addClause N x1 x2 u K) : CT l D cI cZ ad 72 q (entC q cI cZ) yX8_addClause cX8_addClause 3 none (rr 0 0) [.ref (q 64), .int x1, .int x2] u (QV D 72 q (entC q cI cZ) K) := by
    refine ct_of (by decide +kernel) (Nat.le_of_ble_eq_true rfl) (fun p e s m args below meth c C => ?_)
    refine j_sub (lv' := [(0, .ref (q 64)), (1, .int x1), (2, .int x2)]) [0, 1, 2] rfl ?_
    refine j_aload_n C 0 dX8_addClause_0 rfl ?_
    refine j_get C 64 2 (ly_X8 C.2.2.2.2.2.2.2.1.1) q_70 rfl rfl (by decide) rfl rfl (by decide) rfl dX8_addClause_1 ?_
    refine j_bipush (v := 10) C dX8_addClause_4 (by decide) ?_
    refine j_icmp_ge C 65 dX8_addClause_6 (by decide) (fun c1 => ?_) (fun c1 => ?_)
    · have h := h.1 c1
      exact j_vret C dX8_addClause_65 h
    · have h := h.2 c1
      refine j_aload_n C 0 dX8_addClause_9 rfl ?_
      refine j_get C 64 4 (ly_X8 C.2.2.2.2.2.2.2.1.1) q_72 rfl rfl (by decide) rfl rfl (by decide) rfl dX8_addClause_10 ?_
      refine j_aload_n C 0 dX8_addClause_13 rfl ?_
      refine j_get C 64 2 (ly_X8 C.2.2.2.2.2.2.2.1.1) q_70 rfl rfl (by decide) rfl rfl (by decide) rfl dX8_addClause_14 ?_
      refine j_iload_n C 1 dX8_addClause_17 rfl ?_
      obtain ⟨hin, h⟩ := h
      refine j_iastoreK (N := 10) C 65 _ rfl hin (by decide) (fun _ => rfl) rfl dX8_addClause_18 (fun u2 eu2 => ?_)
      have h := h u2 eu2
      refine j_aload_n C 0 dX8_addClause_19 rfl ?_
      refine j_get C 64 5 (ly_X8 C.2.2.2.2.2.2.2.1.1) q_73 rfl rfl (by decide) rfl rfl (by decide) rfl dX8_addClause_20 ?_
      refine j_aload_n C 0 dX8_addClause_23 rfl ?_
      refine j_get C 64 2 (ly_X8 C.2.2.2.2.2.2.2.1.1) q_70 rfl rfl (by decide) rfl rfl (by decide) rfl dX8_addClause_24 ?_
      refine j_iload_n C 2 dX8_addClause_27 rfl ?_
      obtain ⟨hin, h⟩ := h
      refine j_iastoreK (N := 10) C 66 _ rfl hin (by decide) (fun _ => rfl) rfl dX8_addClause_28 (fun u3 eu3 => ?_)
      have h := h u3 eu3
      refine j_aload_n C 0 dX8_addClause_29 rfl ?_
      refine j_get C 64 6 (ly_X8 C.2.2.2.2.2.2.2.1.1) q_74 rfl rfl (by decide) rfl rfl (by decide) rfl dX8_addClause_30 ?_
      refine j_aload_n C 0 dX8_addClause_33 rfl ?_
      refine j_get C 64 2 (ly_X8 C.2.2.2.2.2.2.2.1.1) q_70 rfl rfl (by decide) rfl rfl (by decide) rfl dX8_addClause_34 ?_
      refine j_aload_n C 0 dX8_addClause_37 rfl ?_
      refine j_get C 64 3 (ly_X8 C.2.2.2.2.2.2.2.1.1) q_71 rfl rfl (by decide) rfl rfl (by decide) rfl dX8_addClause_38 ?_
      obtain ⟨hin, h⟩ := h
      refine j_iastoreK (N := 10) C 67 _ rfl hin (by decide) (fun _ => rfl) rfl dX8_addClause_41 (fun u4 eu4 => ?_)
      have h := h u4 eu4
      refine j_aload_n C 0 dX8_addClause_42 rfl ?_
      refine j_get C 64 7 (ly_X8 C.2.2.2.2.2.2.2.1.1) q_75 rfl rfl (by decide) rfl rfl (by decide) rfl dX8_addClause_43 ?_
      refine j_aload_n C 0 dX8_addClause_46 rfl ?_
      refine j_get C 64 2 (ly_X8 C.2.2.2.2.2.2.2.1.1) q_70 rfl rfl (by decide) rfl rfl (by decide) rfl dX8_addClause_47 ?_
      refine j_aload_n C 0 dX8_addClause_50 rfl ?_
      refine j_get C 64 3 (ly_X8 C.2.2.2.2.2.2.2.1.1) q_71 rfl rfl (by decide) rfl rfl (by decide) rfl dX8_addClause_51 ?_
      obtain ⟨hin, h⟩ := h
      refine j_iastoreK (N := 10) C 68 _ rfl hin (by decide) (fun _ => rfl) rfl dX8_addClause_54 (fun u5 eu5 => ?_)
      have h := h u5 eu5
      refine j_aload_n C 0 dX8_addClause_55 rfl ?_
      refine j_dup C dX8_addClause_56 rfl ?_
      refine j_get C 64 2 (ly_X8 C.2.2.2.2.2.2.2.1.1) q_70 rfl rfl (by decide) rfl rfl (by decide) rfl dX8_addClause_57 ?_
      refine j_iconst (v := 1) C dX8_addClause_60 (by decide) ?_
      refine j_iadd C dX8_addClause_61 ?_
      refine j_put C 64 2 (ly_X8 C.2.2.2.2.2.2.2.1.1) q_70 rfl rfl (by decide) rfl rfl (by decide) tyX8_ok nmX8 rfl rfl ⟨rfl, rfl⟩ (Nat.le_of_ble_eq_true rfl) rfl dX8_addClause_62 ?_
      refine j_nmu (fun u6 eu6 => ?_)
      have h := h u6 eu6
      exact j_vret C dX8_addClause_65 h

def wX3_readShun (N : Nat) (u : MM) (K : Int32 → MM → Prop) : Prop := (wX3_readWord N 0 u (fun r1 u2 => ((¬ r1 = 0 → (wX8_addClause N 0 1 u2 (fun u5 => (∀ u6 : MM, u6 = up u5 6 4 1 → (K 1 u6))))) ∧ (r1 = 0 → (K 0 u2)))))
set_option maxRecDepth 100000 in
set_option maxHeartbeats 4000000 in
theorem kX_X3_readShun (l : Launch) (D : va_G) (cI cZ : ClassId) (ad q : Nat → Nat) (N : Nat) {u : MM} {K : Int32 → MM → Prop} (h : wX3_readShun N u K) : CT l D cI cZ ad 72 q (entC q cI cZ) yX3_readShun cX3_readShun 1 (some .boolean) (rr 5 133) [.ref (q 6)] u (QI D 72 q (entC q cI cZ) K) := by
    refine ct_of (by decide +kernel) (Nat.le_of_ble_eq_true rfl) (fun p e s m args below meth c C => ?_)
    refine j_sub (lv' := [(0, .ref (q 6))]) [0] rfl ?_
    refine j_aload_n C 0 dX3_readShun_0 rfl ?_
    refine j_ldcS (k := 0) C (List.mem_of_getElem? (i := 0) rfl) dX3_readShun_1 ?_
    refine j_wi C (fun H locs ls hP hD hS hl => run_V (Cn := "") (As := [.ref (ad (10 + 0))]) (st := []) C mf_X3_readWord 6 (kX_X3_readWord l D cI cZ ad q N h) q_260 (by decide) rfl rfl rfl rfl ⟨rfl, rfl, by decide, by decide⟩ (Nat.le_of_ble_eq_true rfl) dX3_readShun_3 hP hD hS hl) (fun r1 u2 h => ?_)
    refine j_if_ne C 11 dX3_readShun_6 (by decide) (fun c3 => ?_) (fun c3 => ?_)
    · have h := h.1 c3
      refine j_aload_n C 0 dX3_readShun_11 rfl ?_
      refine j_get C 6 1 (ly_X3 C.2.2.2.2.2.2.2.1.1) q_202 rfl rfl (by decide) rfl rfl (by decide) rfl dX3_readShun_12 ?_
      refine j_iconst (v := 0) C dX3_readShun_15 (by decide) ?_
      refine j_iconst (v := 1) C dX3_readShun_16 (by decide) ?_
      refine j_wv C (fun H locs ls hP hD hS hl => run_VN (Cn := "") (As := [.int 0, .int 1]) (st := []) C mf_X8_addClause 64 (kX_X8_addClause l D cI cZ ad q N h) q_309 (by decide) rfl rfl rfl rfl ⟨rfl, rfl, by decide, by decide⟩ (Nat.le_of_ble_eq_true rfl) dX3_readShun_17 hP hD hS hl) (fun u5 h => ?_)
      refine j_aload_n C 0 dX3_readShun_20 rfl ?_
      refine j_iconst (v := 1) C dX3_readShun_21 (by decide) ?_
      refine j_put C 6 4 (ly_X3 C.2.2.2.2.2.2.2.1.1) q_207 rfl rfl (by decide) rfl rfl (by decide) tyX3_ok nmX3 rfl rfl ⟨rfl, rfl⟩ (Nat.le_of_ble_eq_true rfl) rfl dX3_readShun_22 ?_
      refine j_nmu (fun u6 eu6 => ?_)
      have h := h u6 eu6
      refine j_iconst (v := 1) C dX3_readShun_25 (by decide) ?_
      exact j_zret C dX3_readShun_26 rfl h
    · have h := h.2 c3
      refine j_iconst (v := 0) C dX3_readShun_9 (by decide) ?_
      exact j_zret C dX3_readShun_10 rfl h

def wX3_readNumber (N : Nat) (u : MM) (K : Int32 → MM → Prop) : Prop := (wX6_at N (u 6 2) u (fun r1 u2 => ((r1 < 48 → (K 0 u2)) ∧ (¬ r1 < 48 → ((r1 ≤ 57 → (∀ u5 : MM, u5 = up u2 6 2 ((u2 6 2) + 1) → (∀ u6 : MM, u6 = up u5 6 3 (r1 - 48) → (wX6_at N (u6 6 2) u6 (fun r7 u8 => (((u8 6 3) = 0 → (K 1 u8)) ∧ (¬ (u8 6 3) = 0 → ((r7 < 48 → (K 1 u8)) ∧ (¬ r7 < 48 → ((57 < r7 → (K 1 u8)) ∧ (¬ 57 < r7 → (∀ u12 : MM, u12 = up u8 6 2 ((u8 6 2) + 1) → (∀ u13 : MM, u13 = up u12 6 3 (((10 * (u12 6 3)) + r7) - 48) → (K 1 u13)))))))))))))) ∧ (¬ r1 ≤ 57 → (K 0 u2)))))))
set_option maxRecDepth 100000 in
set_option maxHeartbeats 4000000 in
theorem kX_X3_readNumber (l : Launch) (D : va_G) (cI cZ : ClassId) (ad q : Nat → Nat) (N : Nat) {u : MM} {K : Int32 → MM → Prop} (h : wX3_readNumber N u K) : CT l D cI cZ ad 72 q (entC q cI cZ) yX3_readNumber cX3_readNumber 3 (some .boolean) (rr 1 21) [.ref (q 6)] u (QI D 72 q (entC q cI cZ) K) := by
    refine ct_of (by decide +kernel) (Nat.le_of_ble_eq_true rfl) (fun p e s m args below meth c C => ?_)
    refine j_sub (lv' := [(0, .ref (q 6))]) [0] rfl ?_
    refine j_aload_n C 0 dX3_readNumber_0 rfl ?_
    refine j_get C 6 0 (ly_X3 C.2.2.2.2.2.2.2.1.1) q_201 rfl rfl (by decide) rfl rfl (by decide) rfl dX3_readNumber_1 ?_
    refine j_aload_n C 0 dX3_readNumber_4 rfl ?_
    refine j_get C 6 2 (ly_X3 C.2.2.2.2.2.2.2.1.1) q_204 rfl rfl (by decide) rfl rfl (by decide) rfl dX3_readNumber_5 ?_
    refine j_wi C (fun H locs ls hP hD hS hl => run_VN (Cn := "") (As := [.int (u 6 2)]) (st := []) C mf_X6_at 62 (kX_X6_at l D cI cZ ad q N h) q_254 (by decide) rfl rfl rfl rfl ⟨rfl, rfl, by decide, by decide⟩ (Nat.le_of_ble_eq_true rfl) dX3_readNumber_8 hP hD hS hl) (fun r1 u2 h => ?_)
    refine j_istore_n (lv' := [(1, .int r1), (0, .ref (q 6))]) C dX3_readNumber_11 (by decide) rfl ?_
    refine j_iload_n C 0 dX3_readNumber_12 rfl ?_
    refine j_bipush (v := 48) C dX3_readNumber_13 (by decide) ?_
    refine j_icmp_lt C 24 dX3_readNumber_15 (by decide) (fun c3 => ?_) (fun c3 => ?_)
    · have h := h.1 c3
      refine j_iconst (v := 0) C dX3_readNumber_24 (by decide) ?_
      exact j_zret C dX3_readNumber_25 rfl h
    · have h := h.2 c3
      refine j_iload_n C 0 dX3_readNumber_18 rfl ?_
      refine j_bipush (v := 57) C dX3_readNumber_19 (by decide) ?_
      refine j_icmp_le C 26 dX3_readNumber_21 (by decide) (fun c4 => ?_) (fun c4 => ?_)
      · have h := h.1 c4
        refine j_aload_n C 1 dX3_readNumber_26 rfl ?_
        refine j_dup C dX3_readNumber_27 rfl ?_
        refine j_get C 6 2 (ly_X3 C.2.2.2.2.2.2.2.1.1) q_204 rfl rfl (by decide) rfl rfl (by decide) rfl dX3_readNumber_28 ?_
        refine j_iconst (v := 1) C dX3_readNumber_31 (by decide) ?_
        refine j_iadd C dX3_readNumber_32 ?_
        refine j_put C 6 2 (ly_X3 C.2.2.2.2.2.2.2.1.1) q_204 rfl rfl (by decide) rfl rfl (by decide) tyX3_ok nmX3 rfl rfl ⟨rfl, rfl⟩ (Nat.le_of_ble_eq_true rfl) rfl dX3_readNumber_33 ?_
        refine j_nmu (fun u5 eu5 => ?_)
        have h := h u5 eu5
        refine j_aload_n C 1 dX3_readNumber_36 rfl ?_
        refine j_iload_n C 0 dX3_readNumber_37 rfl ?_
        refine j_bipush (v := 48) C dX3_readNumber_38 (by decide) ?_
        refine j_isub C dX3_readNumber_40 ?_
        refine j_put C 6 3 (ly_X3 C.2.2.2.2.2.2.2.1.1) q_206 rfl rfl (by decide) rfl rfl (by decide) tyX3_ok nmX3 rfl rfl ⟨rfl, rfl⟩ (Nat.le_of_ble_eq_true rfl) rfl dX3_readNumber_41 ?_
        refine j_nmu (fun u6 eu6 => ?_)
        have h := h u6 eu6
        refine j_aload_n C 1 dX3_readNumber_44 rfl ?_
        refine j_get C 6 0 (ly_X3 C.2.2.2.2.2.2.2.1.1) q_201 rfl rfl (by decide) rfl rfl (by decide) rfl dX3_readNumber_45 ?_
        refine j_aload_n C 1 dX3_readNumber_48 rfl ?_
        refine j_get C 6 2 (ly_X3 C.2.2.2.2.2.2.2.1.1) q_204 rfl rfl (by decide) rfl rfl (by decide) rfl dX3_readNumber_49 ?_
        refine j_wi C (fun H locs ls hP hD hS hl => run_VN (Cn := "") (As := [.int (u6 6 2)]) (st := []) C mf_X6_at 62 (kX_X6_at l D cI cZ ad q N h) q_254 (by decide) rfl rfl rfl rfl ⟨rfl, rfl, by decide, by decide⟩ (Nat.le_of_ble_eq_true rfl) dX3_readNumber_52 hP hD hS hl) (fun r7 u8 h => ?_)
        refine j_istore_n (lv' := [(2, .int r7), (1, .int r1), (0, .ref (q 6))]) C dX3_readNumber_55 (by decide) rfl ?_
        refine j_aload_n C 2 dX3_readNumber_56 rfl ?_
        refine j_get C 6 3 (ly_X3 C.2.2.2.2.2.2.2.1.1) q_206 rfl rfl (by decide) rfl rfl (by decide) rfl dX3_readNumber_57 ?_
        refine j_if_eq C 101 dX3_readNumber_60 (by decide) (fun c9 => ?_) (fun c9 => ?_)
        · have h := h.1 c9
          refine j_iconst (v := 1) C dX3_readNumber_101 (by decide) ?_
          exact j_zret C dX3_readNumber_102 rfl h
        · have h := h.2 c9
          refine j_iload_n C 0 dX3_readNumber_63 rfl ?_
          refine j_bipush (v := 48) C dX3_readNumber_64 (by decide) ?_
          refine j_icmp_lt C 101 dX3_readNumber_66 (by decide) (fun c10 => ?_) (fun c10 => ?_)
          · have h := h.1 c10
            refine j_iconst (v := 1) C dX3_readNumber_101 (by decide) ?_
            exact j_zret C dX3_readNumber_102 rfl h
          · have h := h.2 c10
            refine j_iload_n C 0 dX3_readNumber_69 rfl ?_
            refine j_bipush (v := 57) C dX3_readNumber_70 (by decide) ?_
            refine j_icmp_gt C 101 dX3_readNumber_72 (by decide) (fun c11 => ?_) (fun c11 => ?_)
            · have h := h.1 c11
              refine j_iconst (v := 1) C dX3_readNumber_101 (by decide) ?_
              exact j_zret C dX3_readNumber_102 rfl h
            · have h := h.2 c11
              refine j_aload_n C 2 dX3_readNumber_75 rfl ?_
              refine j_dup C dX3_readNumber_76 rfl ?_
              refine j_get C 6 2 (ly_X3 C.2.2.2.2.2.2.2.1.1) q_204 rfl rfl (by decide) rfl rfl (by decide) rfl dX3_readNumber_77 ?_
              refine j_iconst (v := 1) C dX3_readNumber_80 (by decide) ?_
              refine j_iadd C dX3_readNumber_81 ?_
              refine j_put C 6 2 (ly_X3 C.2.2.2.2.2.2.2.1.1) q_204 rfl rfl (by decide) rfl rfl (by decide) tyX3_ok nmX3 rfl rfl ⟨rfl, rfl⟩ (Nat.le_of_ble_eq_true rfl) rfl dX3_readNumber_82 ?_
              refine j_nmu (fun u12 eu12 => ?_)
              have h := h u12 eu12
              refine j_aload_n C 2 dX3_readNumber_85 rfl ?_
              refine j_bipush (v := 10) C dX3_readNumber_86 (by decide) ?_
              refine j_aload_n C 2 dX3_readNumber_88 rfl ?_
              refine j_get C 6 3 (ly_X3 C.2.2.2.2.2.2.2.1.1) q_206 rfl rfl (by decide) rfl rfl (by decide) rfl dX3_readNumber_89 ?_
              refine j_imul C dX3_readNumber_92 ?_
              refine j_iload_n C 0 dX3_readNumber_93 rfl ?_
              refine j_iadd C dX3_readNumber_94 ?_
              refine j_bipush (v := 48) C dX3_readNumber_95 (by decide) ?_
              refine j_isub C dX3_readNumber_97 ?_
              refine j_put C 6 3 (ly_X3 C.2.2.2.2.2.2.2.1.1) q_206 rfl rfl (by decide) rfl rfl (by decide) tyX3_ok nmX3 rfl rfl ⟨rfl, rfl⟩ (Nat.le_of_ble_eq_true rfl) rfl dX3_readNumber_98 ?_
              refine j_nmu (fun u13 eu13 => ?_)
              have h := h u13 eu13
              refine j_iconst (v := 1) C dX3_readNumber_101 (by decide) ?_
              exact j_zret C dX3_readNumber_102 rfl h
      · have h := h.2 c4
        refine j_iconst (v := 0) C dX3_readNumber_24 (by decide) ?_
        exact j_zret C dX3_readNumber_25 rfl h

def wX3_readFewer (N : Nat) (u : MM) (K : Int32 → MM → Prop) : Prop := (wX3_readWord N 2 u (fun r1 u2 => ((r1 = 0 → (K 0 u2)) ∧ (¬ r1 = 0 → (wX3_readNumber N u2 (fun r4 u5 => ((¬ r4 = 0 → (∀ u7 : MM, u7 = up u5 64 0 (u5 6 3) → (∀ u8 : MM, u8 = up u7 6 4 0 → (K 1 u8)))) ∧ (r4 = 0 → (K 0 u5)))))))))
set_option maxRecDepth 100000 in
set_option maxHeartbeats 4000000 in
theorem kX_X3_readFewer (l : Launch) (D : va_G) (cI cZ : ClassId) (ad q : Nat → Nat) (N : Nat) {u : MM} {K : Int32 → MM → Prop} (h : wX3_readFewer N u K) : CT l D cI cZ ad 72 q (entC q cI cZ) yX3_readFewer cX3_readFewer 1 (some .boolean) (rr 5 133) [.ref (q 6)] u (QI D 72 q (entC q cI cZ) K) := by
    refine ct_of (by decide +kernel) (Nat.le_of_ble_eq_true rfl) (fun p e s m args below meth c C => ?_)
    refine j_sub (lv' := [(0, .ref (q 6))]) [0] rfl ?_
    refine j_aload_n C 0 dX3_readFewer_0 rfl ?_
    refine j_ldcS (k := 2) C (List.mem_of_getElem? (i := 1) rfl) dX3_readFewer_1 ?_
    refine j_wi C (fun H locs ls hP hD hS hl => run_V (Cn := "") (As := [.ref (ad (10 + 2))]) (st := []) C mf_X3_readWord 6 (kX_X3_readWord l D cI cZ ad q N h) q_260 (by decide) rfl rfl rfl rfl ⟨rfl, rfl, by decide, by decide⟩ (Nat.le_of_ble_eq_true rfl) dX3_readFewer_3 hP hD hS hl) (fun r1 u2 h => ?_)
    refine j_if_eq C 16 dX3_readFewer_6 (by decide) (fun c3 => ?_) (fun c3 => ?_)
    · have h := h.1 c3
      refine j_iconst (v := 0) C dX3_readFewer_16 (by decide) ?_
      exact j_zret C dX3_readFewer_17 rfl h
    · have h := h.2 c3
      refine j_aload_n C 0 dX3_readFewer_9 rfl ?_
      refine j_wi C (fun H locs ls hP hD hS hl => run_V (Cn := "") (As := []) (st := []) C mf_X3_readNumber 6 (kX_X3_readNumber l D cI cZ ad q N h) q_315 (by decide) rfl rfl rfl rfl ⟨rfl, rfl, by decide, by decide⟩ (Nat.le_of_ble_eq_true rfl) dX3_readFewer_10 hP hD hS hl) (fun r4 u5 h => ?_)
      refine j_if_ne C 18 dX3_readFewer_13 (by decide) (fun c6 => ?_) (fun c6 => ?_)
      · have h := h.1 c6
        refine j_aload_n C 0 dX3_readFewer_18 rfl ?_
        refine j_get C 6 1 (ly_X3 C.2.2.2.2.2.2.2.1.1) q_202 rfl rfl (by decide) rfl rfl (by decide) rfl dX3_readFewer_19 ?_
        refine j_aload_n C 0 dX3_readFewer_22 rfl ?_
        refine j_get C 6 3 (ly_X3 C.2.2.2.2.2.2.2.1.1) q_206 rfl rfl (by decide) rfl rfl (by decide) rfl dX3_readFewer_23 ?_
        refine j_putN C 64 0 (ly_X8 C.2.2.2.2.2.2.2.1.1) q_63 rfl rfl (by decide) rfl rfl (by decide) tyX8_ok nmX8 rfl rfl ⟨rfl, rfl⟩ (Nat.le_of_ble_eq_true rfl) rfl dX3_readFewer_26 ?_
        refine j_nmu (fun u7 eu7 => ?_)
        have h := h u7 eu7
        refine j_aload_n C 0 dX3_readFewer_29 rfl ?_
        refine j_iconst (v := 0) C dX3_readFewer_30 (by decide) ?_
        refine j_put C 6 4 (ly_X3 C.2.2.2.2.2.2.2.1.1) q_207 rfl rfl (by decide) rfl rfl (by decide) tyX3_ok nmX3 rfl rfl ⟨rfl, rfl⟩ (Nat.le_of_ble_eq_true rfl) rfl dX3_readFewer_31 ?_
        refine j_nmu (fun u8 eu8 => ?_)
        have h := h u8 eu8
        refine j_iconst (v := 1) C dX3_readFewer_34 (by decide) ?_
        exact j_zret C dX3_readFewer_35 rfl h
      · have h := h.2 c6
        refine j_iconst (v := 0) C dX3_readFewer_16 (by decide) ?_
        exact j_zret C dX3_readFewer_17 rfl h

def wX3_readFine (N : Nat) (u : MM) (K : Int32 → MM → Prop) : Prop := (wX3_readWord N 1 u (fun r1 u2 => ((r1 = 0 → (K 0 u2)) ∧ (¬ r1 = 0 → (wX3_readNumber N u2 (fun r4 u5 => ((r4 = 0 → (K 0 u5)) ∧ (¬ r4 = 0 → (wX3_skip N 32 u5 (fun r7 u8 => ((¬ r7 = 0 → (wX8_addClause N 1 (u8 6 3) u8 (fun u11 => (∀ u12 : MM, u12 = up u11 6 4 1 → (K 1 u12))))) ∧ (r7 = 0 → (K 0 u8)))))))))))))
set_option maxRecDepth 100000 in
set_option maxHeartbeats 4000000 in
theorem kX_X3_readFine (l : Launch) (D : va_G) (cI cZ : ClassId) (ad q : Nat → Nat) (N : Nat) {u : MM} {K : Int32 → MM → Prop} (h : wX3_readFine N u K) : CT l D cI cZ ad 72 q (entC q cI cZ) yX3_readFine cX3_readFine 1 (some .boolean) (rr 5 133) [.ref (q 6)] u (QI D 72 q (entC q cI cZ) K) := by
    refine ct_of (by decide +kernel) (Nat.le_of_ble_eq_true rfl) (fun p e s m args below meth c C => ?_)
    refine j_sub (lv' := [(0, .ref (q 6))]) [0] rfl ?_
    refine j_aload_n C 0 dX3_readFine_0 rfl ?_
    refine j_ldcS (k := 1) C (List.mem_of_getElem? (i := 2) rfl) dX3_readFine_1 ?_
    refine j_wi C (fun H locs ls hP hD hS hl => run_V (Cn := "") (As := [.ref (ad (10 + 1))]) (st := []) C mf_X3_readWord 6 (kX_X3_readWord l D cI cZ ad q N h) q_260 (by decide) rfl rfl rfl rfl ⟨rfl, rfl, by decide, by decide⟩ (Nat.le_of_ble_eq_true rfl) dX3_readFine_3 hP hD hS hl) (fun r1 u2 h => ?_)
    refine j_if_eq C 25 dX3_readFine_6 (by decide) (fun c3 => ?_) (fun c3 => ?_)
    · have h := h.1 c3
      refine j_iconst (v := 0) C dX3_readFine_25 (by decide) ?_
      exact j_zret C dX3_readFine_26 rfl h
    · have h := h.2 c3
      refine j_aload_n C 0 dX3_readFine_9 rfl ?_
      refine j_wi C (fun H locs ls hP hD hS hl => run_V (Cn := "") (As := []) (st := []) C mf_X3_readNumber 6 (kX_X3_readNumber l D cI cZ ad q N h) q_315 (by decide) rfl rfl rfl rfl ⟨rfl, rfl, by decide, by decide⟩ (Nat.le_of_ble_eq_true rfl) dX3_readFine_10 hP hD hS hl) (fun r4 u5 h => ?_)
      refine j_if_eq C 25 dX3_readFine_13 (by decide) (fun c6 => ?_) (fun c6 => ?_)
      · have h := h.1 c6
        refine j_iconst (v := 0) C dX3_readFine_25 (by decide) ?_
        exact j_zret C dX3_readFine_26 rfl h
      · have h := h.2 c6
        refine j_aload_n C 0 dX3_readFine_16 rfl ?_
        refine j_bipush (v := 32) C dX3_readFine_17 (by decide) ?_
        refine j_wi C (fun H locs ls hP hD hS hl => run_V (Cn := "") (As := [.int 32]) (st := []) C mf_X3_skip 6 (kX_X3_skip l D cI cZ ad q N h) q_306 (by decide) rfl rfl rfl rfl ⟨rfl, rfl, by decide, by decide⟩ (Nat.le_of_ble_eq_true rfl) dX3_readFine_19 hP hD hS hl) (fun r7 u8 h => ?_)
        refine j_if_ne C 27 dX3_readFine_22 (by decide) (fun c9 => ?_) (fun c9 => ?_)
        · have h := h.1 c9
          refine j_aload_n C 0 dX3_readFine_27 rfl ?_
          refine j_get C 6 1 (ly_X3 C.2.2.2.2.2.2.2.1.1) q_202 rfl rfl (by decide) rfl rfl (by decide) rfl dX3_readFine_28 ?_
          refine j_iconst (v := 1) C dX3_readFine_31 (by decide) ?_
          refine j_aload_n C 0 dX3_readFine_32 rfl ?_
          refine j_get C 6 3 (ly_X3 C.2.2.2.2.2.2.2.1.1) q_206 rfl rfl (by decide) rfl rfl (by decide) rfl dX3_readFine_33 ?_
          refine j_wv C (fun H locs ls hP hD hS hl => run_VN (Cn := "") (As := [.int 1, .int (u8 6 3)]) (st := []) C mf_X8_addClause 64 (kX_X8_addClause l D cI cZ ad q N h) q_309 (by decide) rfl rfl rfl rfl ⟨rfl, rfl, by decide, by decide⟩ (Nat.le_of_ble_eq_true rfl) dX3_readFine_36 hP hD hS hl) (fun u11 h => ?_)
          refine j_aload_n C 0 dX3_readFine_39 rfl ?_
          refine j_iconst (v := 1) C dX3_readFine_40 (by decide) ?_
          refine j_put C 6 4 (ly_X3 C.2.2.2.2.2.2.2.1.1) q_207 rfl rfl (by decide) rfl rfl (by decide) tyX3_ok nmX3 rfl rfl ⟨rfl, rfl⟩ (Nat.le_of_ble_eq_true rfl) rfl dX3_readFine_41 ?_
          refine j_nmu (fun u12 eu12 => ?_)
          have h := h u12 eu12
          refine j_iconst (v := 1) C dX3_readFine_44 (by decide) ?_
          exact j_zret C dX3_readFine_45 rfl h
        · have h := h.2 c9
          refine j_iconst (v := 0) C dX3_readFine_25 (by decide) ?_
          exact j_zret C dX3_readFine_26 rfl h

def wX3_readLaw (N : Nat) (u : MM) (K : Int32 → MM → Prop) : Prop := (wX3_readWord N 3 u (fun r1 u2 => ((r1 = 0 → (K 0 u2)) ∧ (¬ r1 = 0 → (wX3_readNumber N u2 (fun r4 u5 => ((¬ r4 = 0 → (∀ u7 : MM, u7 = up u5 64 1 ((u5 6 3) - (u5 6 3) / 2 * 2) → (∀ u8 : MM, u8 = up u7 6 4 0 → (K 1 u8)))) ∧ (r4 = 0 → (K 0 u5)))))))))
set_option maxRecDepth 100000 in
set_option maxHeartbeats 4000000 in
theorem kX_X3_readLaw (l : Launch) (D : va_G) (cI cZ : ClassId) (ad q : Nat → Nat) (N : Nat) {u : MM} {K : Int32 → MM → Prop} (h : wX3_readLaw N u K) : CT l D cI cZ ad 72 q (entC q cI cZ) yX3_readLaw cX3_readLaw 1 (some .boolean) (rr 5 133) [.ref (q 6)] u (QI D 72 q (entC q cI cZ) K) := by
    refine ct_of (by decide +kernel) (Nat.le_of_ble_eq_true rfl) (fun p e s m args below meth c C => ?_)
    refine j_sub (lv' := [(0, .ref (q 6))]) [0] rfl ?_
    refine j_aload_n C 0 dX3_readLaw_0 rfl ?_
    refine j_ldcS (k := 3) C (List.mem_of_getElem? (i := 3) rfl) dX3_readLaw_1 ?_
    refine j_wi C (fun H locs ls hP hD hS hl => run_V (Cn := "") (As := [.ref (ad (10 + 3))]) (st := []) C mf_X3_readWord 6 (kX_X3_readWord l D cI cZ ad q N h) q_260 (by decide) rfl rfl rfl rfl ⟨rfl, rfl, by decide, by decide⟩ (Nat.le_of_ble_eq_true rfl) dX3_readLaw_3 hP hD hS hl) (fun r1 u2 h => ?_)
    refine j_if_eq C 16 dX3_readLaw_6 (by decide) (fun c3 => ?_) (fun c3 => ?_)
    · have h := h.1 c3
      refine j_iconst (v := 0) C dX3_readLaw_16 (by decide) ?_
      exact j_zret C dX3_readLaw_17 rfl h
    · have h := h.2 c3
      refine j_aload_n C 0 dX3_readLaw_9 rfl ?_
      refine j_wi C (fun H locs ls hP hD hS hl => run_V (Cn := "") (As := []) (st := []) C mf_X3_readNumber 6 (kX_X3_readNumber l D cI cZ ad q N h) q_315 (by decide) rfl rfl rfl rfl ⟨rfl, rfl, by decide, by decide⟩ (Nat.le_of_ble_eq_true rfl) dX3_readLaw_10 hP hD hS hl) (fun r4 u5 h => ?_)
      refine j_if_ne C 18 dX3_readLaw_13 (by decide) (fun c6 => ?_) (fun c6 => ?_)
      · have h := h.1 c6
        refine j_aload_n C 0 dX3_readLaw_18 rfl ?_
        refine j_get C 6 1 (ly_X3 C.2.2.2.2.2.2.2.1.1) q_202 rfl rfl (by decide) rfl rfl (by decide) rfl dX3_readLaw_19 ?_
        refine j_aload_n C 0 dX3_readLaw_22 rfl ?_
        refine j_get C 6 3 (ly_X3 C.2.2.2.2.2.2.2.1.1) q_206 rfl rfl (by decide) rfl rfl (by decide) rfl dX3_readLaw_23 ?_
        refine j_iconst (v := 2) C dX3_readLaw_26 (by decide) ?_
        refine j_irem C dX3_readLaw_27 (by decide) ?_
        refine j_putN C 64 1 (ly_X8 C.2.2.2.2.2.2.2.1.1) q_67 rfl rfl (by decide) rfl rfl (by decide) tyX8_ok nmX8 rfl rfl ⟨rfl, rfl⟩ (Nat.le_of_ble_eq_true rfl) rfl dX3_readLaw_28 ?_
        refine j_nmu (fun u7 eu7 => ?_)
        have h := h u7 eu7
        refine j_aload_n C 0 dX3_readLaw_31 rfl ?_
        refine j_iconst (v := 0) C dX3_readLaw_32 (by decide) ?_
        refine j_put C 6 4 (ly_X3 C.2.2.2.2.2.2.2.1.1) q_207 rfl rfl (by decide) rfl rfl (by decide) tyX3_ok nmX3 rfl rfl ⟨rfl, rfl⟩ (Nat.le_of_ble_eq_true rfl) rfl dX3_readLaw_33 ?_
        refine j_nmu (fun u8 eu8 => ?_)
        have h := h u8 eu8
        refine j_iconst (v := 1) C dX3_readLaw_36 (by decide) ?_
        exact j_zret C dX3_readLaw_37 rfl h
      · have h := h.2 c6
        refine j_iconst (v := 0) C dX3_readLaw_16 (by decide) ?_
        exact j_zret C dX3_readLaw_17 rfl h

def wX3_readHead (N : Nat) (u : MM) (K : Int32 → MM → Prop) : Prop := (wX6_at N (u 6 2) u (fun r1 u2 => ((r1 = 102 → (wX6_at N ((u2 6 2) + 1) u2 (fun r4 u5 => ((¬ r4 = 101 → (wX3_readFine N u5 (fun r7 u8 => (bz r7 ∧ K r7 u8)))) ∧ (r4 = 101 → (wX3_readFewer N u5 (fun r9 u10 => (bz r9 ∧ K r9 u10)))))))) ∧ (¬ r1 = 102 → ((r1 = 108 → (wX3_readLaw N u2 (fun r12 u13 => (bz r12 ∧ K r12 u13)))) ∧ (¬ r1 = 108 → ((r1 = 115 → (wX3_readShun N u2 (fun r15 u16 => (bz r15 ∧ K r15 u16)))) ∧ (¬ r1 = 115 → (K 0 u2)))))))))
set_option maxRecDepth 100000 in
set_option maxHeartbeats 4000000 in
theorem kX_X3_readHead (l : Launch) (D : va_G) (cI cZ : ClassId) (ad q : Nat → Nat) (N : Nat) {u : MM} {K : Int32 → MM → Prop} (h : wX3_readHead N u K) : CT l D cI cZ ad 72 q (entC q cI cZ) yX3_readHead cX3_readHead 1 (some .boolean) (rr 6 153) [.ref (q 6)] u (QI D 72 q (entC q cI cZ) K) := by
    refine ct_of (by decide +kernel) (Nat.le_of_ble_eq_true rfl) (fun p e s m args below meth c C => ?_)
    refine j_sub (lv' := [(0, .ref (q 6))]) [0] rfl ?_
    refine j_aload_n C 0 dX3_readHead_0 rfl ?_
    refine j_get C 6 0 (ly_X3 C.2.2.2.2.2.2.2.1.1) q_201 rfl rfl (by decide) rfl rfl (by decide) rfl dX3_readHead_1 ?_
    refine j_aload_n C 0 dX3_readHead_4 rfl ?_
    refine j_get C 6 2 (ly_X3 C.2.2.2.2.2.2.2.1.1) q_204 rfl rfl (by decide) rfl rfl (by decide) rfl dX3_readHead_5 ?_
    refine j_wi C (fun H locs ls hP hD hS hl => run_VN (Cn := "") (As := [.int (u 6 2)]) (st := []) C mf_X6_at 62 (kX_X6_at l D cI cZ ad q N h) q_254 (by decide) rfl rfl rfl rfl ⟨rfl, rfl, by decide, by decide⟩ (Nat.le_of_ble_eq_true rfl) dX3_readHead_8 hP hD hS hl) (fun r1 u2 h => ?_)
    by_cases c3 : r1 = 102
    · have h := h.1 c3
      refine j_look C (off := 38) 49 dX3_readHead_11 (by decide) (by rw [c3]; decide) (by decide) ?_
      refine j_aload_n C 0 dX3_readHead_49 rfl ?_
      refine j_get C 6 0 (ly_X3 C.2.2.2.2.2.2.2.1.1) q_201 rfl rfl (by decide) rfl rfl (by decide) rfl dX3_readHead_50 ?_
      refine j_aload_n C 0 dX3_readHead_53 rfl ?_
      refine j_get C 6 2 (ly_X3 C.2.2.2.2.2.2.2.1.1) q_204 rfl rfl (by decide) rfl rfl (by decide) rfl dX3_readHead_54 ?_
      refine j_iconst (v := 1) C dX3_readHead_57 (by decide) ?_
      refine j_iadd C dX3_readHead_58 ?_
      refine j_wi C (fun H locs ls hP hD hS hl => run_VN (Cn := "") (As := [.int ((u2 6 2) + 1)]) (st := []) C mf_X6_at 62 (kX_X6_at l D cI cZ ad q N h) q_254 (by decide) rfl rfl rfl rfl ⟨rfl, rfl, by decide, by decide⟩ (Nat.le_of_ble_eq_true rfl) dX3_readHead_59 hP hD hS hl) (fun r4 u5 h => ?_)
      refine j_bipush (v := 101) C dX3_readHead_62 (by decide) ?_
      refine j_icmp_ne C 74 dX3_readHead_64 (by decide) (fun c6 => ?_) (fun c6 => ?_)
      · have h := h.1 c6
        refine j_aload_n C 0 dX3_readHead_74 rfl ?_
        refine j_wi C (fun H locs ls hP hD hS hl => run_V (Cn := "") (As := []) (st := []) C mf_X3_readFine 6 (kX_X3_readFine l D cI cZ ad q N h) q_318 (by decide) rfl rfl rfl rfl ⟨rfl, rfl, by decide, by decide⟩ (Nat.le_of_ble_eq_true rfl) dX3_readHead_75 hP hD hS hl) (fun r7 u8 h => ?_)
        exact j_zret C dX3_readHead_78 h.1.1 h.2
      · have h := h.2 c6
        refine j_aload_n C 0 dX3_readHead_67 rfl ?_
        refine j_wi C (fun H locs ls hP hD hS hl => run_V (Cn := "") (As := []) (st := []) C mf_X3_readFewer 6 (kX_X3_readFewer l D cI cZ ad q N h) q_312 (by decide) rfl rfl rfl rfl ⟨rfl, rfl, by decide, by decide⟩ (Nat.le_of_ble_eq_true rfl) dX3_readHead_68 hP hD hS hl) (fun r9 u10 h => ?_)
        refine j_goto C 78 dX3_readHead_71 (by decide) ?_
        exact j_zret C dX3_readHead_78 h.1.1 h.2
    · have h := h.2 c3
      by_cases c11 : r1 = 108
      · have h := h.1 c11
        refine j_look C (off := 68) 79 dX3_readHead_11 (by decide) (by rw [c11]; decide) (by decide) ?_
        refine j_aload_n C 0 dX3_readHead_79 rfl ?_
        refine j_wi C (fun H locs ls hP hD hS hl => run_V (Cn := "") (As := []) (st := []) C mf_X3_readLaw 6 (kX_X3_readLaw l D cI cZ ad q N h) q_321 (by decide) rfl rfl rfl rfl ⟨rfl, rfl, by decide, by decide⟩ (Nat.le_of_ble_eq_true rfl) dX3_readHead_80 hP hD hS hl) (fun r12 u13 h => ?_)
        exact j_zret C dX3_readHead_83 h.1.1 h.2
      · have h := h.2 c11
        by_cases c14 : r1 = 115
        · have h := h.1 c14
          refine j_look C (off := 33) 44 dX3_readHead_11 (by decide) (by rw [c14]; decide) (by decide) ?_
          refine j_aload_n C 0 dX3_readHead_44 rfl ?_
          refine j_wi C (fun H locs ls hP hD hS hl => run_V (Cn := "") (As := []) (st := []) C mf_X3_readShun 6 (kX_X3_readShun l D cI cZ ad q N h) q_257 (by decide) rfl rfl rfl rfl ⟨rfl, rfl, by decide, by decide⟩ (Nat.le_of_ble_eq_true rfl) dX3_readHead_45 hP hD hS hl) (fun r15 u16 h => ?_)
          exact j_zret C dX3_readHead_48 h.1.1 h.2
        · have h := h.2 c14
          refine j_look C (off := 73) 84 dX3_readHead_11 (by decide) (by have z0 : r1.toInt ≠ 102 := sw_ne c3; have z1 : r1.toInt ≠ 108 := sw_ne c11; have z2 : r1.toInt ≠ 115 := sw_ne c14; simp [Op.lookupswitch.offset, z0, z0.symm, z1, z1.symm, z2, z2.symm]) (by decide) ?_
          refine j_iconst (v := 0) C dX3_readHead_84 (by decide) ?_
          exact j_zret C dX3_readHead_85 rfl h

def wX3_factOf (N : Nat) (x1 : Int32) (u : MM) (K : Int32 → MM → Prop) : Prop := ((x1 = 100 → (K 4 u)) ∧ (¬ x1 = 100 → ((x1 = 101 → (K (-1) u)) ∧ (¬ x1 = 101 → ((x1 = 102 → (K (-1) u)) ∧ (¬ x1 = 102 → ((x1 = 103 → (K (-1) u)) ∧ (¬ x1 = 103 → ((x1 = 104 → (K (-1) u)) ∧ (¬ x1 = 104 → ((x1 = 105 → (K (-1) u)) ∧ (¬ x1 = 105 → ((x1 = 106 → (K (-1) u)) ∧ (¬ x1 = 106 → ((x1 = 107 → (K 2 u)) ∧ (¬ x1 = 107 → ((x1 = 108 → (K (-1) u)) ∧ (¬ x1 = 108 → ((x1 = 109 → (K (-1) u)) ∧ (¬ x1 = 109 → ((x1 = 110 → (K 3 u)) ∧ (¬ x1 = 110 → ((x1 = 111 → (K 1 u)) ∧ (¬ x1 = 111 → ((x1 = 112 → (K 0 u)) ∧ (¬ x1 = 112 → (K (-1) u)))))))))))))))))))))))))))
set_option maxRecDepth 100000 in
set_option maxHeartbeats 4000000 in
theorem kX_X3_factOf (l : Launch) (D : va_G) (cI cZ : ClassId) (ad q : Nat → Nat) (N : Nat) {x1 : Int32} {u : MM} {K : Int32 → MM → Prop} (h : wX3_factOf N x1 u K) : CT l D cI cZ ad 72 q (entC q cI cZ) yX3_factOf cX3_factOf 2 (some .int) (rr 0 0) [.ref (q 6), .int x1] u (QI D 72 q (entC q cI cZ) K) := by
    refine ct_of (by decide +kernel) (Nat.le_of_ble_eq_true rfl) (fun p e s m args below meth c C => ?_)
    refine j_sub (lv' := [(0, .ref (q 6)), (1, .int x1)]) [0, 1] rfl ?_
    refine j_iload_n C 1 dX3_factOf_0 rfl ?_
    by_cases c1 : x1 = 100
    · have h := h.1 c1
      refine j_tabIn C (v := 100) c1 (off := 75) 76 dX3_factOf_1 (by decide) (by decide) (by decide) (by decide) ?_
      refine j_iconst (v := 4) C dX3_factOf_76 (by decide) ?_
      exact j_iret C dX3_factOf_77 h
    · have h := h.2 c1
      by_cases c2 : x1 = 101
      · have h := h.1 c2
        refine j_tabIn C (v := 101) c2 (off := 77) 78 dX3_factOf_1 (by decide) (by decide) (by decide) (by decide) ?_
        refine j_iconst (v := (-1)) C dX3_factOf_78 (by decide) ?_
        exact j_iret C dX3_factOf_79 h
      · have h := h.2 c2
        by_cases c3 : x1 = 102
        · have h := h.1 c3
          refine j_tabIn C (v := 102) c3 (off := 77) 78 dX3_factOf_1 (by decide) (by decide) (by decide) (by decide) ?_
          refine j_iconst (v := (-1)) C dX3_factOf_78 (by decide) ?_
          exact j_iret C dX3_factOf_79 h
        · have h := h.2 c3
          by_cases c4 : x1 = 103
          · have h := h.1 c4
            refine j_tabIn C (v := 103) c4 (off := 77) 78 dX3_factOf_1 (by decide) (by decide) (by decide) (by decide) ?_
            refine j_iconst (v := (-1)) C dX3_factOf_78 (by decide) ?_
            exact j_iret C dX3_factOf_79 h
          · have h := h.2 c4
            by_cases c5 : x1 = 104
            · have h := h.1 c5
              refine j_tabIn C (v := 104) c5 (off := 77) 78 dX3_factOf_1 (by decide) (by decide) (by decide) (by decide) ?_
              refine j_iconst (v := (-1)) C dX3_factOf_78 (by decide) ?_
              exact j_iret C dX3_factOf_79 h
            · have h := h.2 c5
              by_cases c6 : x1 = 105
              · have h := h.1 c6
                refine j_tabIn C (v := 105) c6 (off := 77) 78 dX3_factOf_1 (by decide) (by decide) (by decide) (by decide) ?_
                refine j_iconst (v := (-1)) C dX3_factOf_78 (by decide) ?_
                exact j_iret C dX3_factOf_79 h
              · have h := h.2 c6
                by_cases c7 : x1 = 106
                · have h := h.1 c7
                  refine j_tabIn C (v := 106) c7 (off := 77) 78 dX3_factOf_1 (by decide) (by decide) (by decide) (by decide) ?_
                  refine j_iconst (v := (-1)) C dX3_factOf_78 (by decide) ?_
                  exact j_iret C dX3_factOf_79 h
                · have h := h.2 c7
                  by_cases c8 : x1 = 107
                  · have h := h.1 c8
                    refine j_tabIn C (v := 107) c8 (off := 71) 72 dX3_factOf_1 (by decide) (by decide) (by decide) (by decide) ?_
                    refine j_iconst (v := 2) C dX3_factOf_72 (by decide) ?_
                    exact j_iret C dX3_factOf_73 h
                  · have h := h.2 c8
                    by_cases c9 : x1 = 108
                    · have h := h.1 c9
                      refine j_tabIn C (v := 108) c9 (off := 77) 78 dX3_factOf_1 (by decide) (by decide) (by decide) (by decide) ?_
                      refine j_iconst (v := (-1)) C dX3_factOf_78 (by decide) ?_
                      exact j_iret C dX3_factOf_79 h
                    · have h := h.2 c9
                      by_cases c10 : x1 = 109
                      · have h := h.1 c10
                        refine j_tabIn C (v := 109) c10 (off := 77) 78 dX3_factOf_1 (by decide) (by decide) (by decide) (by decide) ?_
                        refine j_iconst (v := (-1)) C dX3_factOf_78 (by decide) ?_
                        exact j_iret C dX3_factOf_79 h
                      · have h := h.2 c10
                        by_cases c11 : x1 = 110
                        · have h := h.1 c11
                          refine j_tabIn C (v := 110) c11 (off := 73) 74 dX3_factOf_1 (by decide) (by decide) (by decide) (by decide) ?_
                          refine j_iconst (v := 3) C dX3_factOf_74 (by decide) ?_
                          exact j_iret C dX3_factOf_75 h
                        · have h := h.2 c11
                          by_cases c12 : x1 = 111
                          · have h := h.1 c12
                            refine j_tabIn C (v := 111) c12 (off := 69) 70 dX3_factOf_1 (by decide) (by decide) (by decide) (by decide) ?_
                            refine j_iconst (v := 1) C dX3_factOf_70 (by decide) ?_
                            exact j_iret C dX3_factOf_71 h
                          · have h := h.2 c12
                            by_cases c13 : x1 = 112
                            · have h := h.1 c13
                              refine j_tabIn C (v := 112) c13 (off := 67) 68 dX3_factOf_1 (by decide) (by decide) (by decide) (by decide) ?_
                              refine j_iconst (v := 0) C dX3_factOf_68 (by decide) ?_
                              exact j_iret C dX3_factOf_69 h
                            · have h := h.2 c13
                              refine j_tabOut C 78 dX3_factOf_1 (by have z0 : x1.toInt ≠ 100 := sw_ne c1; have z1 : x1.toInt ≠ 101 := sw_ne c2; have z2 : x1.toInt ≠ 102 := sw_ne c3; have z3 : x1.toInt ≠ 103 := sw_ne c4; have z4 : x1.toInt ≠ 104 := sw_ne c5; have z5 : x1.toInt ≠ 105 := sw_ne c6; have z6 : x1.toInt ≠ 106 := sw_ne c7; have z7 : x1.toInt ≠ 107 := sw_ne c8; have z8 : x1.toInt ≠ 108 := sw_ne c9; have z9 : x1.toInt ≠ 109 := sw_ne c10; have z10 : x1.toInt ≠ 110 := sw_ne c11; have z11 : x1.toInt ≠ 111 := sw_ne c12; have z12 : x1.toInt ≠ 112 := sw_ne c13; omega) (by decide) ?_
                              refine j_iconst (v := (-1)) C dX3_factOf_78 (by decide) ?_
                              exact j_iret C dX3_factOf_79 h

def wX8_addStep (N : Nat) (x1 : Int32) (x2 : Int32) (x3 : Int32) (u : MM) (K : MM → Prop) : Prop := ((100 ≤ (u 64 3) → (K u)) ∧ (¬ 100 ≤ (u 64 3) → (((u 64 2) ≤ 0 → (K u)) ∧ (¬ (u 64 2) ≤ 0 → (vp_in ((u 64 3)) 100 ∧ ∀ u3 : MM, u3 = up u 69 ((u 64 3).toNatClampNeg) x1 → (vp_in ((u3 64 3)) 100 ∧ ∀ u4 : MM, u4 = up u3 70 ((u3 64 3).toNatClampNeg) x2 → (vp_in ((u4 64 3)) 100 ∧ ∀ u5 : MM, u5 = up u4 71 ((u4 64 3).toNatClampNeg) x3 → (∀ u6 : MM, u6 = up u5 64 3 ((u5 64 3) + 1) → (vp_in (((u6 64 2) - 1)) 10 ∧ ∀ u7 : MM, u7 = up u6 68 (((u6 64 2) - 1).toNatClampNeg) (u6 64 3) → (K u7))))))))))
set_option maxRecDepth 100000 in
set_option maxHeartbeats 4000000 in
theorem kX_X8_addStep (l : Launch) (D : va_G) (cI cZ : ClassId) (ad q : Nat → Nat) (N : Nat) {x1 : Int32} {x2 : Int32} {x3 : Int32} {u : MM} {K : MM → Prop} (h : wX8_addStep N x1 x2 x3 u K) : CT l D cI cZ ad 72 q (entC q cI cZ) yX8_addStep cX8_addStep 4 none (rr 0 0) [.ref (q 64), .int x1, .int x2, .int x3] u (QV D 72 q (entC q cI cZ) K) := by
    refine ct_of (by decide +kernel) (Nat.le_of_ble_eq_true rfl) (fun p e s m args below meth c C => ?_)
    refine j_sub (lv' := [(0, .ref (q 64)), (1, .int x1), (2, .int x2), (3, .int x3)]) [0, 1, 2, 3] rfl ?_
    refine j_aload_n C 0 dX8_addStep_0 rfl ?_
    refine j_get C 64 3 (ly_X8 C.2.2.2.2.2.2.2.1.1) q_71 rfl rfl (by decide) rfl rfl (by decide) rfl dX8_addStep_1 ?_
    refine j_bipush (v := 100) C dX8_addStep_4 (by decide) ?_
    refine j_icmp_ge C 71 dX8_addStep_6 (by decide) (fun c1 => ?_) (fun c1 => ?_)
    · have h := h.1 c1
      exact j_vret C dX8_addStep_71 h
    · have h := h.2 c1
      refine j_aload_n C 0 dX8_addStep_9 rfl ?_
      refine j_get C 64 2 (ly_X8 C.2.2.2.2.2.2.2.1.1) q_70 rfl rfl (by decide) rfl rfl (by decide) rfl dX8_addStep_10 ?_
      refine j_if_le C 71 dX8_addStep_13 (by decide) (fun c2 => ?_) (fun c2 => ?_)
      · have h := h.1 c2
        exact j_vret C dX8_addStep_71 h
      · have h := h.2 c2
        refine j_aload_n C 0 dX8_addStep_16 rfl ?_
        refine j_get C 64 8 (ly_X8 C.2.2.2.2.2.2.2.1.1) q_76 rfl rfl (by decide) rfl rfl (by decide) rfl dX8_addStep_17 ?_
        refine j_aload_n C 0 dX8_addStep_20 rfl ?_
        refine j_get C 64 3 (ly_X8 C.2.2.2.2.2.2.2.1.1) q_71 rfl rfl (by decide) rfl rfl (by decide) rfl dX8_addStep_21 ?_
        refine j_iload_n C 1 dX8_addStep_24 rfl ?_
        obtain ⟨hin, h⟩ := h
        refine j_iastoreK (N := 100) C 69 _ rfl hin (by decide) (fun _ => rfl) rfl dX8_addStep_25 (fun u3 eu3 => ?_)
        have h := h u3 eu3
        refine j_aload_n C 0 dX8_addStep_26 rfl ?_
        refine j_get C 64 9 (ly_X8 C.2.2.2.2.2.2.2.1.1) q_77 rfl rfl (by decide) rfl rfl (by decide) rfl dX8_addStep_27 ?_
        refine j_aload_n C 0 dX8_addStep_30 rfl ?_
        refine j_get C 64 3 (ly_X8 C.2.2.2.2.2.2.2.1.1) q_71 rfl rfl (by decide) rfl rfl (by decide) rfl dX8_addStep_31 ?_
        refine j_iload_n C 2 dX8_addStep_34 rfl ?_
        obtain ⟨hin, h⟩ := h
        refine j_iastoreK (N := 100) C 70 _ rfl hin (by decide) (fun _ => rfl) rfl dX8_addStep_35 (fun u4 eu4 => ?_)
        have h := h u4 eu4
        refine j_aload_n C 0 dX8_addStep_36 rfl ?_
        refine j_get C 64 10 (ly_X8 C.2.2.2.2.2.2.2.1.1) q_78 rfl rfl (by decide) rfl rfl (by decide) rfl dX8_addStep_37 ?_
        refine j_aload_n C 0 dX8_addStep_40 rfl ?_
        refine j_get C 64 3 (ly_X8 C.2.2.2.2.2.2.2.1.1) q_71 rfl rfl (by decide) rfl rfl (by decide) rfl dX8_addStep_41 ?_
        refine j_iload_n C 3 dX8_addStep_44 rfl ?_
        obtain ⟨hin, h⟩ := h
        refine j_iastoreK (N := 100) C 71 _ rfl hin (by decide) (fun _ => rfl) rfl dX8_addStep_45 (fun u5 eu5 => ?_)
        have h := h u5 eu5
        refine j_aload_n C 0 dX8_addStep_46 rfl ?_
        refine j_dup C dX8_addStep_47 rfl ?_
        refine j_get C 64 3 (ly_X8 C.2.2.2.2.2.2.2.1.1) q_71 rfl rfl (by decide) rfl rfl (by decide) rfl dX8_addStep_48 ?_
        refine j_iconst (v := 1) C dX8_addStep_51 (by decide) ?_
        refine j_iadd C dX8_addStep_52 ?_
        refine j_put C 64 3 (ly_X8 C.2.2.2.2.2.2.2.1.1) q_71 rfl rfl (by decide) rfl rfl (by decide) tyX8_ok nmX8 rfl rfl ⟨rfl, rfl⟩ (Nat.le_of_ble_eq_true rfl) rfl dX8_addStep_53 ?_
        refine j_nmu (fun u6 eu6 => ?_)
        have h := h u6 eu6
        refine j_aload_n C 0 dX8_addStep_56 rfl ?_
        refine j_get C 64 7 (ly_X8 C.2.2.2.2.2.2.2.1.1) q_75 rfl rfl (by decide) rfl rfl (by decide) rfl dX8_addStep_57 ?_
        refine j_aload_n C 0 dX8_addStep_60 rfl ?_
        refine j_get C 64 2 (ly_X8 C.2.2.2.2.2.2.2.1.1) q_70 rfl rfl (by decide) rfl rfl (by decide) rfl dX8_addStep_61 ?_
        refine j_iconst (v := 1) C dX8_addStep_64 (by decide) ?_
        refine j_isub C dX8_addStep_65 ?_
        refine j_aload_n C 0 dX8_addStep_66 rfl ?_
        refine j_get C 64 3 (ly_X8 C.2.2.2.2.2.2.2.1.1) q_71 rfl rfl (by decide) rfl rfl (by decide) rfl dX8_addStep_67 ?_
        obtain ⟨hin, h⟩ := h
        refine j_iastoreK (N := 10) C 68 _ rfl hin (by decide) (fun _ => rfl) rfl dX8_addStep_70 (fun u7 eu7 => ?_)
        have h := h u7 eu7
        exact j_vret C dX8_addStep_71 h

def wX3_readEither_b97 (N : Nat) (rP : Int32 → MM → (Int32 → MM → Prop) → Prop) (K : Int32 → MM → Prop) (ro14 : Int32 → Int32 → Int32 → MM → Prop) (x1 : Int32) (x2 : Int32) (x3 : Int32) (u : MM) : Prop := (∀ y21 : Int32, y21 = x3 + 1 → (ro14 x1 x2 y21 u))
def wX3_readEither_b66 (N : Nat) (rP : Int32 → MM → (Int32 → MM → Prop) → Prop) (K : Int32 → MM → Prop) (ro14 : Int32 → Int32 → Int32 → MM → Prop) (x1 : Int32) (x2 : Int32) (x3 : Int32) (x4 : Int32) (u : MM) : Prop := (rP x1 u (fun r15 u16 => ((¬ r15 = 0 → ((x4 = 0 → (wX3_readEither_b97 N rP K ro14 x1 1 x3 u16)) ∧ (¬ x4 = 0 → (wX8_addStep N (-2) 0 0 u16 (fun u20 => (wX3_readEither_b97 N rP K ro14 x1 x2 x3 u20)))))) ∧ (r15 = 0 → (K 0 u16)))))
def wX3_readEither_b50 (N : Nat) (rP : Int32 → MM → (Int32 → MM → Prop) → Prop) (K : Int32 → MM → Prop) (ro14 : Int32 → Int32 → Int32 → MM → Prop) (x1 : Int32) (x2 : Int32) (x3 : Int32) (x4 : Int32) (u : MM) : Prop := ((¬ x4 = 0 → (wX3_readEither_b66 N rP K ro14 x1 x2 x3 x4 u)) ∧ (x4 = 0 → (wX3_skip N 124 u (fun r12 u13 => ((¬ r12 = 0 → (wX3_readEither_b66 N rP K ro14 x1 x2 x3 x4 u13)) ∧ (r12 = 0 → (K 1 u13)))))))
def wX3_readEither_b14 (N : Nat) (rP : Int32 → MM → (Int32 → MM → Prop) → Prop) (K : Int32 → MM → Prop) : Nat → Int32 → Int32 → Int32 → MM → Prop
  | 0, _, _, _, _ => False
  | n + 1, x1, x2, x3, u => ((100 < x3 → (K 0 u)) ∧ (¬ 100 < x3 → (wX3_skip N 38 u (fun r5 u6 => ((¬ r5 = 0 → (wX3_readEither_b50 N rP K (wX3_readEither_b14 N rP K n) x1 x2 x3 r5 u6)) ∧ (r5 = 0 → ((x2 = 0 → (wX3_readEither_b50 N rP K (wX3_readEither_b14 N rP K n) x1 x2 x3 r5 u6)) ∧ (¬ x2 = 0 → (wX8_addStep N (-3) 0 0 u6 (fun u10 => (wX3_readEither_b50 N rP K (wX3_readEither_b14 N rP K n) x1 0 x3 r5 u10)))))))))))
def wX3_readEither (N : Nat) (rP : Int32 → MM → (Int32 → MM → Prop) → Prop) (x1 : Int32) (u : MM) (K : Int32 → MM → Prop) : Prop := (rP x1 u (fun r1 u2 => ((¬ r1 = 0 → (wX3_readEither_b14 N rP K N x1 0 1 u2)) ∧ (r1 = 0 → (K 0 u2)))))
set_option maxRecDepth 100000 in
set_option maxHeartbeats 4000000 in
theorem tX3_readEither_b97 (l : Launch) (D : va_G) (cI cZ : ClassId) (ad q : Nat → Nat) (N : Nat) (d : Nat) {rP : Int32 → MM → (Int32 → MM → Prop) → Prop} (hrP : ∀ (x : Int32) (u : MM) (K : Int32 → MM → Prop), rP x u K → CT l D cI cZ ad 72 q (entC q cI cZ) yX3_readPart cX3_readPart 3 (some .boolean) (rr (4 + 2 * d) (200 + 100 * d)) [.ref (q 6), .int x] u (QI D 72 q (entC q cI cZ) K)) {p : Program} {e : Env} {s : State} {m : MethodId} {args : Array Value} {below : List Frame} {meth : Method} {c : Code} {K : Int32 → MM → Prop} (C : CX p s m args meth c cX3_readEither 5 RX3 (some .boolean) D cI cZ ad (AJ 72 q s.heap.size)) {ro14 : Int32 → Int32 → Int32 → MM → Prop} (hro14 : ∀ (x1 : Int32) (x2 : Int32) (x3 : Int32) (u : MM), ro14 x1 x2 x3 u → JX p l e (rr (5 + 2 * d) (250 + 100 * d)) s m args below meth c D (AJ 72 q s.heap.size) 5 (MQ below ((QI D 72 q (entC q cI cZ) K) (AJ 72 q s.heap.size)) args s 0 0 (AJ 72 q s.heap.size)) 72 q (entC q cI cZ) u 14 [(0, .ref (q 6)), (1, .int x1), (2, .int x2), (3, .int x3)] []) : ∀ (x1 : Int32) (x2 : Int32) (x3 : Int32) (u : MM), wX3_readEither_b97 N rP K ro14 x1 x2 x3 u → JX p l e (rr (5 + 2 * d) (250 + 100 * d)) s m args below meth c D (AJ 72 q s.heap.size) 5 (MQ below ((QI D 72 q (entC q cI cZ) K) (AJ 72 q s.heap.size)) args s 0 0 (AJ 72 q s.heap.size)) 72 q (entC q cI cZ) u 97 [(0, .ref (q 6)), (1, .int x1), (2, .int x2), (3, .int x3)] [] := by
    intro x1 x2 x3 u h
    obtain ⟨y21, ey21⟩ : ∃ z : Int32, z = x3 + 1 := ⟨_, rfl⟩
    have h := h y21 ey21
    refine j_iinc (v := y21) (lv' := [(3, .int y21), (0, .ref (q 6)), (1, .int x1), (2, .int x2)]) C 3 dX3_readEither_97 rfl (by rw [ey21]; rfl) (by decide) rfl ?_
    refine j_goto C 14 dX3_readEither_100 (by decide) ?_
    refine j_sub (lv' := [(0, .ref (q 6)), (1, .int x1), (2, .int x2), (3, .int y21)]) [1, 2, 3, 0] rfl ?_
    exact hro14 _ _ _ _ h
set_option maxRecDepth 100000 in
set_option maxHeartbeats 4000000 in
theorem tX3_readEither_b66 (l : Launch) (D : va_G) (cI cZ : ClassId) (ad q : Nat → Nat) (N : Nat) (d : Nat) {rP : Int32 → MM → (Int32 → MM → Prop) → Prop} (hrP : ∀ (x : Int32) (u : MM) (K : Int32 → MM → Prop), rP x u K → CT l D cI cZ ad 72 q (entC q cI cZ) yX3_readPart cX3_readPart 3 (some .boolean) (rr (4 + 2 * d) (200 + 100 * d)) [.ref (q 6), .int x] u (QI D 72 q (entC q cI cZ) K)) {p : Program} {e : Env} {s : State} {m : MethodId} {args : Array Value} {below : List Frame} {meth : Method} {c : Code} {K : Int32 → MM → Prop} (C : CX p s m args meth c cX3_readEither 5 RX3 (some .boolean) D cI cZ ad (AJ 72 q s.heap.size)) {ro14 : Int32 → Int32 → Int32 → MM → Prop} (hro14 : ∀ (x1 : Int32) (x2 : Int32) (x3 : Int32) (u : MM), ro14 x1 x2 x3 u → JX p l e (rr (5 + 2 * d) (250 + 100 * d)) s m args below meth c D (AJ 72 q s.heap.size) 5 (MQ below ((QI D 72 q (entC q cI cZ) K) (AJ 72 q s.heap.size)) args s 0 0 (AJ 72 q s.heap.size)) 72 q (entC q cI cZ) u 14 [(0, .ref (q 6)), (1, .int x1), (2, .int x2), (3, .int x3)] []) : ∀ (x1 : Int32) (x2 : Int32) (x3 : Int32) (x4 : Int32) (u : MM), wX3_readEither_b66 N rP K ro14 x1 x2 x3 x4 u → JX p l e (rr (5 + 2 * d) (250 + 100 * d)) s m args below meth c D (AJ 72 q s.heap.size) 5 (MQ below ((QI D 72 q (entC q cI cZ) K) (AJ 72 q s.heap.size)) args s 0 0 (AJ 72 q s.heap.size)) 72 q (entC q cI cZ) u 66 [(0, .ref (q 6)), (1, .int x1), (2, .int x2), (3, .int x3), (4, .int x4)] [] := by
    intro x1 x2 x3 x4 u h
    refine j_aload_n C 0 dX3_readEither_66 rfl ?_
    refine j_iload_n C 1 dX3_readEither_67 rfl ?_
    refine j_wi C (fun H locs ls hP hD hS hl => run_V (Cn := "") (As := [.int x1]) (st := []) C mf_X3_readPart 6 (hrP _ _ _ h) q_327 (by decide) rfl rfl rfl rfl ⟨rfl, rfl, by simp only [rr]; omega, by simp only [rr]; omega⟩ (Nat.le_of_ble_eq_true rfl) dX3_readEither_68 hP hD hS hl) (fun r15 u16 h => ?_)
    refine j_if_ne C 76 dX3_readEither_71 (by decide) (fun c17 => ?_) (fun c17 => ?_)
    · have h := h.1 c17
      refine j_iload C 4 dX3_readEither_76 rfl ?_
      refine j_if_eq C 95 dX3_readEither_78 (by decide) (fun c18 => ?_) (fun c18 => ?_)
      · have h := h.1 c18
        refine j_iconst (v := 1) C dX3_readEither_95 (by decide) ?_
        refine j_istore_n (lv' := [(2, .int 1), (0, .ref (q 6)), (1, .int x1), (3, .int x3), (4, .int x4)]) C dX3_readEither_96 (by decide) rfl ?_
        refine j_sub (lv' := [(0, .ref (q 6)), (1, .int x1), (2, .int 1), (3, .int x3)]) [1, 2, 0, 3] rfl ?_
        exact tX3_readEither_b97 l D cI cZ ad q N d hrP C (hro14) _ _ _ _ h
      · have h := h.2 c18
        refine j_aload_n C 0 dX3_readEither_81 rfl ?_
        refine j_get C 6 1 (ly_X3 C.2.2.2.2.2.2.2.1.1) q_202 rfl rfl (by decide) rfl rfl (by decide) rfl dX3_readEither_82 ?_
        refine j_bipush (v := (-2)) C dX3_readEither_85 (by decide) ?_
        refine j_iconst (v := 0) C dX3_readEither_87 (by decide) ?_
        refine j_iconst (v := 0) C dX3_readEither_88 (by decide) ?_
        refine j_wv C (fun H locs ls hP hD hS hl => run_VN (Cn := "") (As := [.int (-2), .int 0, .int 0]) (st := []) C mf_X8_addStep 64 (kX_X8_addStep l D cI cZ ad q N h) q_336 (by decide) rfl rfl rfl rfl ⟨rfl, rfl, by simp only [rr]; omega, by simp only [rr]; omega⟩ (Nat.le_of_ble_eq_true rfl) dX3_readEither_89 hP hD hS hl) (fun u20 h => ?_)
        refine j_goto C 97 dX3_readEither_92 (by decide) ?_
        refine j_sub (lv' := [(0, .ref (q 6)), (1, .int x1), (2, .int x2), (3, .int x3)]) [0, 1, 2, 3] rfl ?_
        exact tX3_readEither_b97 l D cI cZ ad q N d hrP C (hro14) _ _ _ _ h
    · have h := h.2 c17
      refine j_iconst (v := 0) C dX3_readEither_74 (by decide) ?_
      exact j_zret C dX3_readEither_75 rfl h
set_option maxRecDepth 100000 in
set_option maxHeartbeats 4000000 in
theorem tX3_readEither_b50 (l : Launch) (D : va_G) (cI cZ : ClassId) (ad q : Nat → Nat) (N : Nat) (d : Nat) {rP : Int32 → MM → (Int32 → MM → Prop) → Prop} (hrP : ∀ (x : Int32) (u : MM) (K : Int32 → MM → Prop), rP x u K → CT l D cI cZ ad 72 q (entC q cI cZ) yX3_readPart cX3_readPart 3 (some .boolean) (rr (4 + 2 * d) (200 + 100 * d)) [.ref (q 6), .int x] u (QI D 72 q (entC q cI cZ) K)) {p : Program} {e : Env} {s : State} {m : MethodId} {args : Array Value} {below : List Frame} {meth : Method} {c : Code} {K : Int32 → MM → Prop} (C : CX p s m args meth c cX3_readEither 5 RX3 (some .boolean) D cI cZ ad (AJ 72 q s.heap.size)) {ro14 : Int32 → Int32 → Int32 → MM → Prop} (hro14 : ∀ (x1 : Int32) (x2 : Int32) (x3 : Int32) (u : MM), ro14 x1 x2 x3 u → JX p l e (rr (5 + 2 * d) (250 + 100 * d)) s m args below meth c D (AJ 72 q s.heap.size) 5 (MQ below ((QI D 72 q (entC q cI cZ) K) (AJ 72 q s.heap.size)) args s 0 0 (AJ 72 q s.heap.size)) 72 q (entC q cI cZ) u 14 [(0, .ref (q 6)), (1, .int x1), (2, .int x2), (3, .int x3)] []) : ∀ (x1 : Int32) (x2 : Int32) (x3 : Int32) (x4 : Int32) (u : MM), wX3_readEither_b50 N rP K ro14 x1 x2 x3 x4 u → JX p l e (rr (5 + 2 * d) (250 + 100 * d)) s m args below meth c D (AJ 72 q s.heap.size) 5 (MQ below ((QI D 72 q (entC q cI cZ) K) (AJ 72 q s.heap.size)) args s 0 0 (AJ 72 q s.heap.size)) 72 q (entC q cI cZ) u 50 [(0, .ref (q 6)), (1, .int x1), (2, .int x2), (3, .int x3), (4, .int x4)] [] := by
    intro x1 x2 x3 x4 u h
    refine j_iload C 4 dX3_readEither_50 rfl ?_
    refine j_if_ne C 66 dX3_readEither_52 (by decide) (fun c11 => ?_) (fun c11 => ?_)
    · have h := h.1 c11
      exact tX3_readEither_b66 l D cI cZ ad q N d hrP C (hro14) _ _ _ _ _ h
    · have h := h.2 c11
      refine j_aload_n C 0 dX3_readEither_55 rfl ?_
      refine j_bipush (v := 124) C dX3_readEither_56 (by decide) ?_
      refine j_wi C (fun H locs ls hP hD hS hl => run_V (Cn := "") (As := [.int 124]) (st := []) C mf_X3_skip 6 (kX_X3_skip l D cI cZ ad q N h) q_306 (by decide) rfl rfl rfl rfl ⟨rfl, rfl, by simp only [rr]; omega, by simp only [rr]; omega⟩ (Nat.le_of_ble_eq_true rfl) dX3_readEither_58 hP hD hS hl) (fun r12 u13 h => ?_)
      refine j_if_ne C 66 dX3_readEither_61 (by decide) (fun c14 => ?_) (fun c14 => ?_)
      · have h := h.1 c14
        exact tX3_readEither_b66 l D cI cZ ad q N d hrP C (hro14) _ _ _ _ _ h
      · have h := h.2 c14
        refine j_iconst (v := 1) C dX3_readEither_64 (by decide) ?_
        exact j_zret C dX3_readEither_65 rfl h
set_option maxRecDepth 100000 in
set_option maxHeartbeats 4000000 in
theorem tX3_readEither_b14 (l : Launch) (D : va_G) (cI cZ : ClassId) (ad q : Nat → Nat) (N : Nat) (d : Nat) {rP : Int32 → MM → (Int32 → MM → Prop) → Prop} (hrP : ∀ (x : Int32) (u : MM) (K : Int32 → MM → Prop), rP x u K → CT l D cI cZ ad 72 q (entC q cI cZ) yX3_readPart cX3_readPart 3 (some .boolean) (rr (4 + 2 * d) (200 + 100 * d)) [.ref (q 6), .int x] u (QI D 72 q (entC q cI cZ) K)) {p : Program} {e : Env} {s : State} {m : MethodId} {args : Array Value} {below : List Frame} {meth : Method} {c : Code} {K : Int32 → MM → Prop} (C : CX p s m args meth c cX3_readEither 5 RX3 (some .boolean) D cI cZ ad (AJ 72 q s.heap.size)) : ∀ (n : Nat) (x1 : Int32) (x2 : Int32) (x3 : Int32) (u : MM), wX3_readEither_b14 N rP K n x1 x2 x3 u → JX p l e (rr (5 + 2 * d) (250 + 100 * d)) s m args below meth c D (AJ 72 q s.heap.size) 5 (MQ below ((QI D 72 q (entC q cI cZ) K) (AJ 72 q s.heap.size)) args s 0 0 (AJ 72 q s.heap.size)) 72 q (entC q cI cZ) u 14 [(0, .ref (q 6)), (1, .int x1), (2, .int x2), (3, .int x3)] [] := by
  intro n
  induction n with
  | zero => intro x1 x2 x3 u h; exact h.elim
  | succ n ih =>
    intro x1 x2 x3 u h
    refine j_iload_n C 3 dX3_readEither_14 rfl ?_
    refine j_bipush (v := 100) C dX3_readEither_15 (by decide) ?_
    refine j_icmp_gt C 103 dX3_readEither_17 (by decide) (fun c4 => ?_) (fun c4 => ?_)
    · have h := h.1 c4
      refine j_iconst (v := 0) C dX3_readEither_103 (by decide) ?_
      exact j_zret C dX3_readEither_104 rfl h
    · have h := h.2 c4
      refine j_aload_n C 0 dX3_readEither_20 rfl ?_
      refine j_bipush (v := 38) C dX3_readEither_21 (by decide) ?_
      refine j_wi C (fun H locs ls hP hD hS hl => run_V (Cn := "") (As := [.int 38]) (st := []) C mf_X3_skip 6 (kX_X3_skip l D cI cZ ad q N h) q_306 (by decide) rfl rfl rfl rfl ⟨rfl, rfl, by simp only [rr]; omega, by simp only [rr]; omega⟩ (Nat.le_of_ble_eq_true rfl) dX3_readEither_23 hP hD hS hl) (fun r5 u6 h => ?_)
      refine j_istore (lv' := [(4, .int r5), (0, .ref (q 6)), (1, .int x1), (2, .int x2), (3, .int x3)]) C dX3_readEither_26 (by decide) rfl ?_
      refine j_iload C 0 dX3_readEither_28 rfl ?_
      refine j_if_ne C 50 dX3_readEither_30 (by decide) (fun c7 => ?_) (fun c7 => ?_)
      · have h := h.1 c7
        refine j_sub (lv' := [(0, .ref (q 6)), (1, .int x1), (2, .int x2), (3, .int x3), (4, .int r5)]) [1, 2, 3, 4, 0] rfl ?_
        exact tX3_readEither_b50 l D cI cZ ad q N d hrP C ih _ _ _ _ _ h
      · have h := h.2 c7
        refine j_iload_n C 3 dX3_readEither_33 rfl ?_
        refine j_if_eq C 50 dX3_readEither_34 (by decide) (fun c8 => ?_) (fun c8 => ?_)
        · have h := h.1 c8
          refine j_sub (lv' := [(0, .ref (q 6)), (1, .int x1), (2, .int x2), (3, .int x3), (4, .int r5)]) [1, 2, 3, 4, 0] rfl ?_
          exact tX3_readEither_b50 l D cI cZ ad q N d hrP C ih _ _ _ _ _ h
        · have h := h.2 c8
          refine j_aload_n C 1 dX3_readEither_37 rfl ?_
          refine j_get C 6 1 (ly_X3 C.2.2.2.2.2.2.2.1.1) q_202 rfl rfl (by decide) rfl rfl (by decide) rfl dX3_readEither_38 ?_
          refine j_bipush (v := (-3)) C dX3_readEither_41 (by decide) ?_
          refine j_iconst (v := 0) C dX3_readEither_43 (by decide) ?_
          refine j_iconst (v := 0) C dX3_readEither_44 (by decide) ?_
          refine j_wv C (fun H locs ls hP hD hS hl => run_VN (Cn := "") (As := [.int (-3), .int 0, .int 0]) (st := []) C mf_X8_addStep 64 (kX_X8_addStep l D cI cZ ad q N h) q_336 (by decide) rfl rfl rfl rfl ⟨rfl, rfl, by simp only [rr]; omega, by simp only [rr]; omega⟩ (Nat.le_of_ble_eq_true rfl) dX3_readEither_45 hP hD hS hl) (fun u10 h => ?_)
          refine j_iconst (v := 0) C dX3_readEither_48 (by decide) ?_
          refine j_istore_n (lv' := [(2, .int 0), (4, .int r5), (0, .ref (q 6)), (1, .int x1), (3, .int x3)]) C dX3_readEither_49 (by decide) rfl ?_
          refine j_sub (lv' := [(0, .ref (q 6)), (1, .int x1), (2, .int 0), (3, .int x3), (4, .int r5)]) [2, 3, 0, 4, 1] rfl ?_
          exact tX3_readEither_b50 l D cI cZ ad q N d hrP C ih _ _ _ _ _ h
set_option maxRecDepth 100000 in
set_option maxHeartbeats 4000000 in
theorem kX_X3_readEither_o (l : Launch) (D : va_G) (cI cZ : ClassId) (ad q : Nat → Nat) (N : Nat) (d : Nat) {rP : Int32 → MM → (Int32 → MM → Prop) → Prop} (hrP : ∀ (x : Int32) (u : MM) (K : Int32 → MM → Prop), rP x u K → CT l D cI cZ ad 72 q (entC q cI cZ) yX3_readPart cX3_readPart 3 (some .boolean) (rr (4 + 2 * d) (200 + 100 * d)) [.ref (q 6), .int x] u (QI D 72 q (entC q cI cZ) K)) {x1 : Int32} {u : MM} {K : Int32 → MM → Prop} (h : wX3_readEither N rP x1 u K) : CT l D cI cZ ad 72 q (entC q cI cZ) yX3_readEither cX3_readEither 5 (some .boolean) (rr (5 + 2 * d) (250 + 100 * d)) [.ref (q 6), .int x1] u (QI D 72 q (entC q cI cZ) K) := by
    refine ct_of (by decide +kernel) (Nat.le_of_ble_eq_true rfl) (fun p e s m args below meth c C => ?_)
    refine j_sub (lv' := [(0, .ref (q 6)), (1, .int x1)]) [0, 1] rfl ?_
    refine j_aload_n C 0 dX3_readEither_0 rfl ?_
    refine j_iload_n C 1 dX3_readEither_1 rfl ?_
    refine j_wi C (fun H locs ls hP hD hS hl => run_V (Cn := "") (As := [.int x1]) (st := []) C mf_X3_readPart 6 (hrP _ _ _ h) q_327 (by decide) rfl rfl rfl rfl ⟨rfl, rfl, by simp only [rr]; omega, by simp only [rr]; omega⟩ (Nat.le_of_ble_eq_true rfl) dX3_readEither_2 hP hD hS hl) (fun r1 u2 h => ?_)
    refine j_if_ne C 10 dX3_readEither_5 (by decide) (fun c3 => ?_) (fun c3 => ?_)
    · have h := h.1 c3
      refine j_iconst (v := 0) C dX3_readEither_10 (by decide) ?_
      refine j_istore_n (lv' := [(2, .int 0), (0, .ref (q 6)), (1, .int x1)]) C dX3_readEither_11 (by decide) rfl ?_
      refine j_iconst (v := 1) C dX3_readEither_12 (by decide) ?_
      refine j_istore_n (lv' := [(3, .int 1), (2, .int 0), (0, .ref (q 6)), (1, .int x1)]) C dX3_readEither_13 (by decide) rfl ?_
      refine j_sub (lv' := [(0, .ref (q 6)), (1, .int x1), (2, .int 0), (3, .int 1)]) [2, 3, 1, 0] rfl ?_
      exact tX3_readEither_b14 l D cI cZ ad q N d hrP C N _ _ _ _ h
    · have h := h.2 c3
      refine j_iconst (v := 0) C dX3_readEither_8 (by decide) ?_
      exact j_zret C dX3_readEither_9 rfl h

def wX3_readTest_b65 (N : Nat) (K : Int32 → MM → Prop) (x1 : Int32) (x2 : Int32) (u : MM) : Prop := (∀ u12 : MM, u12 = up u 6 2 ((u 6 2) + 1) → (wX3_readNumber N u12 (fun r13 u14 => ((¬ r13 = 0 → ((¬ x2 = 60 → ((¬ x2 = 61 → (wX8_addStep N x1 ((u14 6 3) + 1) 99 u14 (fun u19 => (K 1 u19)))) ∧ (x2 = 61 → (wX8_addStep N x1 (u14 6 3) (u14 6 3) u14 (fun u21 => (K 1 u21)))))) ∧ (x2 = 60 → (wX8_addStep N x1 0 ((u14 6 3) - 1) u14 (fun u23 => (K 1 u23)))))) ∧ (r13 = 0 → (K 0 u14))))))
def wX3_readTest (N : Nat) (u : MM) (K : Int32 → MM → Prop) : Prop := (wX6_at N (u 6 2) u (fun r1 u2 => (wX3_factOf N r1 u2 (fun r3 u4 => ((¬ r3 = (-1) → (∀ u6 : MM, u6 = up u4 6 2 ((u4 6 2) + 1) → (wX6_at N (u6 6 2) u6 (fun r7 u8 => ((r7 = 60 → (wX3_readTest_b65 N K r3 r7 u8)) ∧ (¬ r7 = 60 → ((r7 = 61 → (wX3_readTest_b65 N K r3 r7 u8)) ∧ (¬ r7 = 61 → ((r7 = 62 → (wX3_readTest_b65 N K r3 r7 u8)) ∧ (¬ r7 = 62 → (K 0 u8))))))))))) ∧ (r3 = (-1) → (K 0 u4)))))))
set_option maxRecDepth 100000 in
set_option maxHeartbeats 4000000 in
theorem tX3_readTest_b65 (l : Launch) (D : va_G) (cI cZ : ClassId) (ad q : Nat → Nat) (N : Nat) {p : Program} {e : Env} {s : State} {m : MethodId} {args : Array Value} {below : List Frame} {meth : Method} {c : Code} {K : Int32 → MM → Prop} (C : CX p s m args meth c cX3_readTest 3 RX3 (some .boolean) D cI cZ ad (AJ 72 q s.heap.size)) : ∀ (x1 : Int32) (x2 : Int32) (u : MM), wX3_readTest_b65 N K x1 x2 u → JX p l e (rr 2 43) s m args below meth c D (AJ 72 q s.heap.size) 3 (MQ below ((QI D 72 q (entC q cI cZ) K) (AJ 72 q s.heap.size)) args s 0 0 (AJ 72 q s.heap.size)) 72 q (entC q cI cZ) u 65 [(0, .ref (q 6)), (1, .int x1), (2, .int x2)] [] := by
    intro x1 x2 u h
    refine j_aload_n C 0 dX3_readTest_65 rfl ?_
    refine j_dup C dX3_readTest_66 rfl ?_
    refine j_get C 6 2 (ly_X3 C.2.2.2.2.2.2.2.1.1) q_204 rfl rfl (by decide) rfl rfl (by decide) rfl dX3_readTest_67 ?_
    refine j_iconst (v := 1) C dX3_readTest_70 (by decide) ?_
    refine j_iadd C dX3_readTest_71 ?_
    refine j_put C 6 2 (ly_X3 C.2.2.2.2.2.2.2.1.1) q_204 rfl rfl (by decide) rfl rfl (by decide) tyX3_ok nmX3 rfl rfl ⟨rfl, rfl⟩ (Nat.le_of_ble_eq_true rfl) rfl dX3_readTest_72 ?_
    refine j_nmu (fun u12 eu12 => ?_)
    have h := h u12 eu12
    refine j_aload_n C 0 dX3_readTest_75 rfl ?_
    refine j_wi C (fun H locs ls hP hD hS hl => run_V (Cn := "") (As := []) (st := []) C mf_X3_readNumber 6 (kX_X3_readNumber l D cI cZ ad q N h) q_315 (by decide) rfl rfl rfl rfl ⟨rfl, rfl, by decide, by decide⟩ (Nat.le_of_ble_eq_true rfl) dX3_readTest_76 hP hD hS hl) (fun r13 u14 h => ?_)
    refine j_if_ne C 84 dX3_readTest_79 (by decide) (fun c15 => ?_) (fun c15 => ?_)
    · have h := h.1 c15
      refine j_iload_n C 2 dX3_readTest_84 rfl ?_
      refine j_bipush (v := 60) C dX3_readTest_85 (by decide) ?_
      refine j_icmp_ne C 108 dX3_readTest_87 (by decide) (fun c16 => ?_) (fun c16 => ?_)
      · have h := h.1 c16
        refine j_iload_n C 2 dX3_readTest_108 rfl ?_
        refine j_bipush (v := 61) C dX3_readTest_109 (by decide) ?_
        refine j_icmp_ne C 133 dX3_readTest_111 (by decide) (fun c17 => ?_) (fun c17 => ?_)
        · have h := h.1 c17
          refine j_aload_n C 0 dX3_readTest_133 rfl ?_
          refine j_get C 6 1 (ly_X3 C.2.2.2.2.2.2.2.1.1) q_202 rfl rfl (by decide) rfl rfl (by decide) rfl dX3_readTest_134 ?_
          refine j_iload_n C 1 dX3_readTest_137 rfl ?_
          refine j_aload_n C 0 dX3_readTest_138 rfl ?_
          refine j_get C 6 3 (ly_X3 C.2.2.2.2.2.2.2.1.1) q_206 rfl rfl (by decide) rfl rfl (by decide) rfl dX3_readTest_139 ?_
          refine j_iconst (v := 1) C dX3_readTest_142 (by decide) ?_
          refine j_iadd C dX3_readTest_143 ?_
          refine j_bipush (v := 99) C dX3_readTest_144 (by decide) ?_
          refine j_wv C (fun H locs ls hP hD hS hl => run_VN (Cn := "") (As := [.int x1, .int ((u14 6 3) + 1), .int 99]) (st := []) C mf_X8_addStep 64 (kX_X8_addStep l D cI cZ ad q N h) q_336 (by decide) rfl rfl rfl rfl ⟨rfl, rfl, by decide, by decide⟩ (Nat.le_of_ble_eq_true rfl) dX3_readTest_146 hP hD hS hl) (fun u19 h => ?_)
          refine j_iconst (v := 1) C dX3_readTest_149 (by decide) ?_
          exact j_zret C dX3_readTest_150 rfl h
        · have h := h.2 c17
          refine j_aload_n C 0 dX3_readTest_114 rfl ?_
          refine j_get C 6 1 (ly_X3 C.2.2.2.2.2.2.2.1.1) q_202 rfl rfl (by decide) rfl rfl (by decide) rfl dX3_readTest_115 ?_
          refine j_iload_n C 1 dX3_readTest_118 rfl ?_
          refine j_aload_n C 0 dX3_readTest_119 rfl ?_
          refine j_get C 6 3 (ly_X3 C.2.2.2.2.2.2.2.1.1) q_206 rfl rfl (by decide) rfl rfl (by decide) rfl dX3_readTest_120 ?_
          refine j_aload_n C 0 dX3_readTest_123 rfl ?_
          refine j_get C 6 3 (ly_X3 C.2.2.2.2.2.2.2.1.1) q_206 rfl rfl (by decide) rfl rfl (by decide) rfl dX3_readTest_124 ?_
          refine j_wv C (fun H locs ls hP hD hS hl => run_VN (Cn := "") (As := [.int x1, .int (u14 6 3), .int (u14 6 3)]) (st := []) C mf_X8_addStep 64 (kX_X8_addStep l D cI cZ ad q N h) q_336 (by decide) rfl rfl rfl rfl ⟨rfl, rfl, by decide, by decide⟩ (Nat.le_of_ble_eq_true rfl) dX3_readTest_127 hP hD hS hl) (fun u21 h => ?_)
          refine j_goto C 149 dX3_readTest_130 (by decide) ?_
          refine j_iconst (v := 1) C dX3_readTest_149 (by decide) ?_
          exact j_zret C dX3_readTest_150 rfl h
      · have h := h.2 c16
        refine j_aload_n C 0 dX3_readTest_90 rfl ?_
        refine j_get C 6 1 (ly_X3 C.2.2.2.2.2.2.2.1.1) q_202 rfl rfl (by decide) rfl rfl (by decide) rfl dX3_readTest_91 ?_
        refine j_iload_n C 1 dX3_readTest_94 rfl ?_
        refine j_iconst (v := 0) C dX3_readTest_95 (by decide) ?_
        refine j_aload_n C 0 dX3_readTest_96 rfl ?_
        refine j_get C 6 3 (ly_X3 C.2.2.2.2.2.2.2.1.1) q_206 rfl rfl (by decide) rfl rfl (by decide) rfl dX3_readTest_97 ?_
        refine j_iconst (v := 1) C dX3_readTest_100 (by decide) ?_
        refine j_isub C dX3_readTest_101 ?_
        refine j_wv C (fun H locs ls hP hD hS hl => run_VN (Cn := "") (As := [.int x1, .int 0, .int ((u14 6 3) - 1)]) (st := []) C mf_X8_addStep 64 (kX_X8_addStep l D cI cZ ad q N h) q_336 (by decide) rfl rfl rfl rfl ⟨rfl, rfl, by decide, by decide⟩ (Nat.le_of_ble_eq_true rfl) dX3_readTest_102 hP hD hS hl) (fun u23 h => ?_)
        refine j_goto C 149 dX3_readTest_105 (by decide) ?_
        refine j_iconst (v := 1) C dX3_readTest_149 (by decide) ?_
        exact j_zret C dX3_readTest_150 rfl h
    · have h := h.2 c15
      refine j_iconst (v := 0) C dX3_readTest_82 (by decide) ?_
      exact j_zret C dX3_readTest_83 rfl h
set_option maxRecDepth 100000 in
set_option maxHeartbeats 4000000 in
theorem kX_X3_readTest (l : Launch) (D : va_G) (cI cZ : ClassId) (ad q : Nat → Nat) (N : Nat) {u : MM} {K : Int32 → MM → Prop} (h : wX3_readTest N u K) : CT l D cI cZ ad 72 q (entC q cI cZ) yX3_readTest cX3_readTest 3 (some .boolean) (rr 2 43) [.ref (q 6)] u (QI D 72 q (entC q cI cZ) K) := by
    refine ct_of (by decide +kernel) (Nat.le_of_ble_eq_true rfl) (fun p e s m args below meth c C => ?_)
    refine j_sub (lv' := [(0, .ref (q 6))]) [0] rfl ?_
    refine j_aload_n C 0 dX3_readTest_0 rfl ?_
    refine j_aload_n C 0 dX3_readTest_1 rfl ?_
    refine j_get C 6 0 (ly_X3 C.2.2.2.2.2.2.2.1.1) q_201 rfl rfl (by decide) rfl rfl (by decide) rfl dX3_readTest_2 ?_
    refine j_aload_n C 0 dX3_readTest_5 rfl ?_
    refine j_get C 6 2 (ly_X3 C.2.2.2.2.2.2.2.1.1) q_204 rfl rfl (by decide) rfl rfl (by decide) rfl dX3_readTest_6 ?_
    refine j_wi C (fun H locs ls hP hD hS hl => run_VN (Cn := "") (As := [.int (u 6 2)]) (st := [.ref (q 6)]) C mf_X6_at 62 (kX_X6_at l D cI cZ ad q N h) q_254 (by decide) rfl rfl rfl rfl ⟨rfl, rfl, by decide, by decide⟩ (Nat.le_of_ble_eq_true rfl) dX3_readTest_9 hP hD hS hl) (fun r1 u2 h => ?_)
    refine j_wi C (fun H locs ls hP hD hS hl => run_V (Cn := "") (As := [.int r1]) (st := []) C mf_X3_factOf 6 (kX_X3_factOf l D cI cZ ad q N h) q_333 (by decide) rfl rfl rfl rfl ⟨rfl, rfl, by decide, by decide⟩ (Nat.le_of_ble_eq_true rfl) dX3_readTest_12 hP hD hS hl) (fun r3 u4 h => ?_)
    refine j_istore_n (lv' := [(1, .int r3), (0, .ref (q 6))]) C dX3_readTest_15 (by decide) rfl ?_
    refine j_iload_n C 0 dX3_readTest_16 rfl ?_
    refine j_iconst (v := (-1)) C dX3_readTest_17 (by decide) ?_
    refine j_icmp_ne C 23 dX3_readTest_18 (by decide) (fun c5 => ?_) (fun c5 => ?_)
    · have h := h.1 c5
      refine j_aload_n C 1 dX3_readTest_23 rfl ?_
      refine j_dup C dX3_readTest_24 rfl ?_
      refine j_get C 6 2 (ly_X3 C.2.2.2.2.2.2.2.1.1) q_204 rfl rfl (by decide) rfl rfl (by decide) rfl dX3_readTest_25 ?_
      refine j_iconst (v := 1) C dX3_readTest_28 (by decide) ?_
      refine j_iadd C dX3_readTest_29 ?_
      refine j_put C 6 2 (ly_X3 C.2.2.2.2.2.2.2.1.1) q_204 rfl rfl (by decide) rfl rfl (by decide) tyX3_ok nmX3 rfl rfl ⟨rfl, rfl⟩ (Nat.le_of_ble_eq_true rfl) rfl dX3_readTest_30 ?_
      refine j_nmu (fun u6 eu6 => ?_)
      have h := h u6 eu6
      refine j_aload_n C 1 dX3_readTest_33 rfl ?_
      refine j_get C 6 0 (ly_X3 C.2.2.2.2.2.2.2.1.1) q_201 rfl rfl (by decide) rfl rfl (by decide) rfl dX3_readTest_34 ?_
      refine j_aload_n C 1 dX3_readTest_37 rfl ?_
      refine j_get C 6 2 (ly_X3 C.2.2.2.2.2.2.2.1.1) q_204 rfl rfl (by decide) rfl rfl (by decide) rfl dX3_readTest_38 ?_
      refine j_wi C (fun H locs ls hP hD hS hl => run_VN (Cn := "") (As := [.int (u6 6 2)]) (st := []) C mf_X6_at 62 (kX_X6_at l D cI cZ ad q N h) q_254 (by decide) rfl rfl rfl rfl ⟨rfl, rfl, by decide, by decide⟩ (Nat.le_of_ble_eq_true rfl) dX3_readTest_41 hP hD hS hl) (fun r7 u8 h => ?_)
      refine j_istore_n (lv' := [(2, .int r7), (1, .int r3), (0, .ref (q 6))]) C dX3_readTest_44 (by decide) rfl ?_
      refine j_iload_n C 0 dX3_readTest_45 rfl ?_
      refine j_bipush (v := 60) C dX3_readTest_46 (by decide) ?_
      refine j_icmp_eq C 65 dX3_readTest_48 (by decide) (fun c9 => ?_) (fun c9 => ?_)
      · have h := h.1 c9
        refine j_sub (lv' := [(0, .ref (q 6)), (1, .int r3), (2, .int r7)]) [2, 1, 0] rfl ?_
        exact tX3_readTest_b65 l D cI cZ ad q N C _ _ _ h
      · have h := h.2 c9
        refine j_iload_n C 0 dX3_readTest_51 rfl ?_
        refine j_bipush (v := 61) C dX3_readTest_52 (by decide) ?_
        refine j_icmp_eq C 65 dX3_readTest_54 (by decide) (fun c10 => ?_) (fun c10 => ?_)
        · have h := h.1 c10
          refine j_sub (lv' := [(0, .ref (q 6)), (1, .int r3), (2, .int r7)]) [2, 1, 0] rfl ?_
          exact tX3_readTest_b65 l D cI cZ ad q N C _ _ _ h
        · have h := h.2 c10
          refine j_iload_n C 0 dX3_readTest_57 rfl ?_
          refine j_bipush (v := 62) C dX3_readTest_58 (by decide) ?_
          refine j_icmp_eq C 65 dX3_readTest_60 (by decide) (fun c11 => ?_) (fun c11 => ?_)
          · have h := h.1 c11
            refine j_sub (lv' := [(0, .ref (q 6)), (1, .int r3), (2, .int r7)]) [2, 1, 0] rfl ?_
            exact tX3_readTest_b65 l D cI cZ ad q N C _ _ _ h
          · have h := h.2 c11
            refine j_iconst (v := 0) C dX3_readTest_63 (by decide) ?_
            exact j_zret C dX3_readTest_64 rfl h
    · have h := h.2 c5
      refine j_iconst (v := 0) C dX3_readTest_21 (by decide) ?_
      exact j_zret C dX3_readTest_22 rfl h

def wX3_readPart_b29 (N : Nat) (rP : Int32 → MM → (Int32 → MM → Prop) → Prop) (rE : Int32 → MM → (Int32 → MM → Prop) → Prop) (K : Int32 → MM → Prop) (x1 : Int32) (x2 : Int32) (u : MM) : Prop := ((x1 < 5 → (∀ u8 : MM, u8 = up u 6 2 ((u 6 2) + 1) → ((¬ x2 = 40 → (rP (x1 + 1) u8 (fun r10 u11 => ((¬ r10 = 0 → (wX8_addStep N (-1) 0 0 u11 (fun u14 => (K 1 u14)))) ∧ (r10 = 0 → (K 0 u11)))))) ∧ (x2 = 40 → (rE (x1 + 1) u8 (fun r15 u16 => ((r15 = 0 → (K 0 u16)) ∧ (¬ r15 = 0 → (wX3_skip N 41 u16 (fun r18 u19 => ((r18 = 0 → (K 0 u19)) ∧ (¬ r18 = 0 → (K 1 u19))))))))))))) ∧ (¬ x1 < 5 → (K 0 u)))
def wX3_readPart (N : Nat) (rP : Int32 → MM → (Int32 → MM → Prop) → Prop) (rE : Int32 → MM → (Int32 → MM → Prop) → Prop) (x1 : Int32) (u : MM) (K : Int32 → MM → Prop) : Prop := (wX6_at N (u 6 2) u (fun r1 u2 => ((r1 = 33 → (wX3_readPart_b29 N rP rE K x1 r1 u2)) ∧ (¬ r1 = 33 → ((r1 = 40 → (wX3_readPart_b29 N rP rE K x1 r1 u2)) ∧ (¬ r1 = 40 → (wX3_readTest N u2 (fun r5 u6 => (bz r5 ∧ K r5 u6)))))))))
set_option maxRecDepth 100000 in
set_option maxHeartbeats 4000000 in
theorem tX3_readPart_b29 (l : Launch) (D : va_G) (cI cZ : ClassId) (ad q : Nat → Nat) (N : Nat) (d : Nat) {rP : Int32 → MM → (Int32 → MM → Prop) → Prop} (hrP : ∀ (x : Int32) (u : MM) (K : Int32 → MM → Prop), rP x u K → CT l D cI cZ ad 72 q (entC q cI cZ) yX3_readPart cX3_readPart 3 (some .boolean) (rr (4 + 2 * d) (200 + 100 * d)) [.ref (q 6), .int x] u (QI D 72 q (entC q cI cZ) K)) {rE : Int32 → MM → (Int32 → MM → Prop) → Prop} (hrE : ∀ (x : Int32) (u : MM) (K : Int32 → MM → Prop), rE x u K → CT l D cI cZ ad 72 q (entC q cI cZ) yX3_readEither cX3_readEither 5 (some .boolean) (rr (5 + 2 * d) (250 + 100 * d)) [.ref (q 6), .int x] u (QI D 72 q (entC q cI cZ) K)) {p : Program} {e : Env} {s : State} {m : MethodId} {args : Array Value} {below : List Frame} {meth : Method} {c : Code} {K : Int32 → MM → Prop} (C : CX p s m args meth c cX3_readPart 3 RX3 (some .boolean) D cI cZ ad (AJ 72 q s.heap.size)) : ∀ (x1 : Int32) (x2 : Int32) (u : MM), wX3_readPart_b29 N rP rE K x1 x2 u → JX p l e (rr (4 + 2 * (d + 1)) (200 + 100 * (d + 1))) s m args below meth c D (AJ 72 q s.heap.size) 3 (MQ below ((QI D 72 q (entC q cI cZ) K) (AJ 72 q s.heap.size)) args s 0 0 (AJ 72 q s.heap.size)) 72 q (entC q cI cZ) u 29 [(0, .ref (q 6)), (1, .int x1), (2, .int x2)] [] := by
    intro x1 x2 u h
    refine j_iload_n C 1 dX3_readPart_29 rfl ?_
    refine j_iconst (v := 5) C dX3_readPart_30 (by decide) ?_
    refine j_icmp_lt C 36 dX3_readPart_31 (by decide) (fun c7 => ?_) (fun c7 => ?_)
    · have h := h.1 c7
      refine j_aload_n C 0 dX3_readPart_36 rfl ?_
      refine j_dup C dX3_readPart_37 rfl ?_
      refine j_get C 6 2 (ly_X3 C.2.2.2.2.2.2.2.1.1) q_204 rfl rfl (by decide) rfl rfl (by decide) rfl dX3_readPart_38 ?_
      refine j_iconst (v := 1) C dX3_readPart_41 (by decide) ?_
      refine j_iadd C dX3_readPart_42 ?_
      refine j_put C 6 2 (ly_X3 C.2.2.2.2.2.2.2.1.1) q_204 rfl rfl (by decide) rfl rfl (by decide) tyX3_ok nmX3 rfl rfl ⟨rfl, rfl⟩ (Nat.le_of_ble_eq_true rfl) rfl dX3_readPart_43 ?_
      refine j_nmu (fun u8 eu8 => ?_)
      have h := h u8 eu8
      refine j_iload_n C 2 dX3_readPart_46 rfl ?_
      refine j_bipush (v := 40) C dX3_readPart_47 (by decide) ?_
      refine j_icmp_ne C 77 dX3_readPart_49 (by decide) (fun c9 => ?_) (fun c9 => ?_)
      · have h := h.1 c9
        refine j_aload_n C 0 dX3_readPart_77 rfl ?_
        refine j_iload_n C 1 dX3_readPart_78 rfl ?_
        refine j_iconst (v := 1) C dX3_readPart_79 (by decide) ?_
        refine j_iadd C dX3_readPart_80 ?_
        refine j_wi C (fun H locs ls hP hD hS hl => run_V (Cn := "") (As := [.int (x1 + 1)]) (st := []) C mf_X3_readPart 6 (hrP _ _ _ h) q_327 (by decide) rfl rfl rfl rfl ⟨rfl, rfl, by simp only [rr]; omega, by simp only [rr]; omega⟩ (Nat.le_of_ble_eq_true rfl) dX3_readPart_81 hP hD hS hl) (fun r10 u11 h => ?_)
        refine j_if_ne C 89 dX3_readPart_84 (by decide) (fun c12 => ?_) (fun c12 => ?_)
        · have h := h.1 c12
          refine j_aload_n C 0 dX3_readPart_89 rfl ?_
          refine j_get C 6 1 (ly_X3 C.2.2.2.2.2.2.2.1.1) q_202 rfl rfl (by decide) rfl rfl (by decide) rfl dX3_readPart_90 ?_
          refine j_iconst (v := (-1)) C dX3_readPart_93 (by decide) ?_
          refine j_iconst (v := 0) C dX3_readPart_94 (by decide) ?_
          refine j_iconst (v := 0) C dX3_readPart_95 (by decide) ?_
          refine j_wv C (fun H locs ls hP hD hS hl => run_VN (Cn := "") (As := [.int (-1), .int 0, .int 0]) (st := []) C mf_X8_addStep 64 (kX_X8_addStep l D cI cZ ad q N h) q_336 (by decide) rfl rfl rfl rfl ⟨rfl, rfl, by simp only [rr]; omega, by simp only [rr]; omega⟩ (Nat.le_of_ble_eq_true rfl) dX3_readPart_96 hP hD hS hl) (fun u14 h => ?_)
          refine j_iconst (v := 1) C dX3_readPart_99 (by decide) ?_
          exact j_zret C dX3_readPart_100 rfl h
        · have h := h.2 c12
          refine j_iconst (v := 0) C dX3_readPart_87 (by decide) ?_
          exact j_zret C dX3_readPart_88 rfl h
      · have h := h.2 c9
        refine j_aload_n C 0 dX3_readPart_52 rfl ?_
        refine j_iload_n C 1 dX3_readPart_53 rfl ?_
        refine j_iconst (v := 1) C dX3_readPart_54 (by decide) ?_
        refine j_iadd C dX3_readPart_55 ?_
        refine j_wi C (fun H locs ls hP hD hS hl => run_V (Cn := "") (As := [.int (x1 + 1)]) (st := []) C mf_X3_readEither 6 (hrE _ _ _ h) q_324 (by decide) rfl rfl rfl rfl ⟨rfl, rfl, by simp only [rr]; omega, by simp only [rr]; omega⟩ (Nat.le_of_ble_eq_true rfl) dX3_readPart_56 hP hD hS hl) (fun r15 u16 h => ?_)
        refine j_if_eq C 75 dX3_readPart_59 (by decide) (fun c17 => ?_) (fun c17 => ?_)
        · have h := h.1 c17
          refine j_iconst (v := 0) C dX3_readPart_75 (by decide) ?_
          exact j_zret C dX3_readPart_76 rfl h
        · have h := h.2 c17
          refine j_aload_n C 0 dX3_readPart_62 rfl ?_
          refine j_bipush (v := 41) C dX3_readPart_63 (by decide) ?_
          refine j_wi C (fun H locs ls hP hD hS hl => run_V (Cn := "") (As := [.int 41]) (st := []) C mf_X3_skip 6 (kX_X3_skip l D cI cZ ad q N h) q_306 (by decide) rfl rfl rfl rfl ⟨rfl, rfl, by simp only [rr]; omega, by simp only [rr]; omega⟩ (Nat.le_of_ble_eq_true rfl) dX3_readPart_65 hP hD hS hl) (fun r18 u19 h => ?_)
          refine j_if_eq C 75 dX3_readPart_68 (by decide) (fun c20 => ?_) (fun c20 => ?_)
          · have h := h.1 c20
            refine j_iconst (v := 0) C dX3_readPart_75 (by decide) ?_
            exact j_zret C dX3_readPart_76 rfl h
          · have h := h.2 c20
            refine j_iconst (v := 1) C dX3_readPart_71 (by decide) ?_
            refine j_goto C 76 dX3_readPart_72 (by decide) ?_
            exact j_zret C dX3_readPart_76 rfl h
    · have h := h.2 c7
      refine j_iconst (v := 0) C dX3_readPart_34 (by decide) ?_
      exact j_zret C dX3_readPart_35 rfl h
set_option maxRecDepth 100000 in
set_option maxHeartbeats 4000000 in
theorem kX_X3_readPart_o (l : Launch) (D : va_G) (cI cZ : ClassId) (ad q : Nat → Nat) (N : Nat) (d : Nat) {rP : Int32 → MM → (Int32 → MM → Prop) → Prop} (hrP : ∀ (x : Int32) (u : MM) (K : Int32 → MM → Prop), rP x u K → CT l D cI cZ ad 72 q (entC q cI cZ) yX3_readPart cX3_readPart 3 (some .boolean) (rr (4 + 2 * d) (200 + 100 * d)) [.ref (q 6), .int x] u (QI D 72 q (entC q cI cZ) K)) {rE : Int32 → MM → (Int32 → MM → Prop) → Prop} (hrE : ∀ (x : Int32) (u : MM) (K : Int32 → MM → Prop), rE x u K → CT l D cI cZ ad 72 q (entC q cI cZ) yX3_readEither cX3_readEither 5 (some .boolean) (rr (5 + 2 * d) (250 + 100 * d)) [.ref (q 6), .int x] u (QI D 72 q (entC q cI cZ) K)) {x1 : Int32} {u : MM} {K : Int32 → MM → Prop} (h : wX3_readPart N rP rE x1 u K) : CT l D cI cZ ad 72 q (entC q cI cZ) yX3_readPart cX3_readPart 3 (some .boolean) (rr (4 + 2 * (d + 1)) (200 + 100 * (d + 1))) [.ref (q 6), .int x1] u (QI D 72 q (entC q cI cZ) K) := by
    refine ct_of (by decide +kernel) (Nat.le_of_ble_eq_true rfl) (fun p e s m args below meth c C => ?_)
    refine j_sub (lv' := [(0, .ref (q 6)), (1, .int x1)]) [0, 1] rfl ?_
    refine j_aload_n C 0 dX3_readPart_0 rfl ?_
    refine j_get C 6 0 (ly_X3 C.2.2.2.2.2.2.2.1.1) q_201 rfl rfl (by decide) rfl rfl (by decide) rfl dX3_readPart_1 ?_
    refine j_aload_n C 0 dX3_readPart_4 rfl ?_
    refine j_get C 6 2 (ly_X3 C.2.2.2.2.2.2.2.1.1) q_204 rfl rfl (by decide) rfl rfl (by decide) rfl dX3_readPart_5 ?_
    refine j_wi C (fun H locs ls hP hD hS hl => run_VN (Cn := "") (As := [.int (u 6 2)]) (st := []) C mf_X6_at 62 (kX_X6_at l D cI cZ ad q N h) q_254 (by decide) rfl rfl rfl rfl ⟨rfl, rfl, by simp only [rr]; omega, by simp only [rr]; omega⟩ (Nat.le_of_ble_eq_true rfl) dX3_readPart_8 hP hD hS hl) (fun r1 u2 h => ?_)
    refine j_istore_n (lv' := [(2, .int r1), (0, .ref (q 6)), (1, .int x1)]) C dX3_readPart_11 (by decide) rfl ?_
    refine j_iload_n C 0 dX3_readPart_12 rfl ?_
    refine j_bipush (v := 33) C dX3_readPart_13 (by decide) ?_
    refine j_icmp_eq C 29 dX3_readPart_15 (by decide) (fun c3 => ?_) (fun c3 => ?_)
    · have h := h.1 c3
      refine j_sub (lv' := [(0, .ref (q 6)), (1, .int x1), (2, .int r1)]) [1, 2, 0] rfl ?_
      exact tX3_readPart_b29 l D cI cZ ad q N d hrP hrE C _ _ _ h
    · have h := h.2 c3
      refine j_iload_n C 0 dX3_readPart_18 rfl ?_
      refine j_bipush (v := 40) C dX3_readPart_19 (by decide) ?_
      refine j_icmp_eq C 29 dX3_readPart_21 (by decide) (fun c4 => ?_) (fun c4 => ?_)
      · have h := h.1 c4
        refine j_sub (lv' := [(0, .ref (q 6)), (1, .int x1), (2, .int r1)]) [1, 2, 0] rfl ?_
        exact tX3_readPart_b29 l D cI cZ ad q N d hrP hrE C _ _ _ h
      · have h := h.2 c4
        refine j_aload_n C 1 dX3_readPart_24 rfl ?_
        refine j_wi C (fun H locs ls hP hD hS hl => run_V (Cn := "") (As := []) (st := []) C mf_X3_readTest 6 (kX_X3_readTest l D cI cZ ad q N h) q_330 (by decide) rfl rfl rfl rfl ⟨rfl, rfl, by simp only [rr]; omega, by simp only [rr]; omega⟩ (Nat.le_of_ble_eq_true rfl) dX3_readPart_25 hP hD hS hl) (fun r5 u6 h => ?_)
        exact j_zret C dX3_readPart_28 h.1.1 h.2
def fP (N : Nat) : Nat → Int32 → MM → (Int32 → MM → Prop) → Prop
  | 0, _, _, _ => False
  | d + 1, x, u, K => wX3_readPart N (fP N d) (wX3_readEither N (fP N d)) x u K
theorem kX_fP (l : Launch) (D : va_G) (cI cZ : ClassId) (ad q : Nat → Nat) (N : Nat) : ∀ (d : Nat) (x : Int32) (u : MM) (K : Int32 → MM → Prop), fP N d x u K → CT l D cI cZ ad 72 q (entC q cI cZ) yX3_readPart cX3_readPart 3 (some .boolean) (rr (4 + 2 * d) (200 + 100 * d)) [.ref (q 6), .int x] u (QI D 72 q (entC q cI cZ) K) := by
  intro d
  induction d with
  | zero => intro x u K h; exact h.elim
  | succ d ih => intro x u K h; exact kX_X3_readPart_o l D cI cZ ad q N d ih (fun x u K h => kX_X3_readEither_o l D cI cZ ad q N d ih h) h
def wX3_readEither0 (N : Nat) (x : Int32) (u : MM) (K : Int32 → MM → Prop) : Prop := wX3_readEither N (fP N 8) x u K
theorem kX_X3_readEither (l : Launch) (D : va_G) (cI cZ : ClassId) (ad q : Nat → Nat) (N : Nat) {x : Int32} {u : MM} {K : Int32 → MM → Prop} (h : wX3_readEither0 N x u K) : CT l D cI cZ ad 72 q (entC q cI cZ) yX3_readEither cX3_readEither 5 (some .boolean) (rr 21 1050) [.ref (q 6), .int x] u (QI D 72 q (entC q cI cZ) K) :=
  kX_X3_readEither_o l D cI cZ ad q N 8 (kX_fP l D cI cZ ad q N 8) h

def wX4_add (N : Nat) (t : Nat) (x1 : Int32) (x2 : Int32) (u : MM) (K : Int32 → MM → Prop) : Prop := ((6 ≤ (u t 0) → (K 0 u)) ∧ (¬ 6 ≤ (u t 0) → (((u t 0) < 6 → (vp_in ((u t 0)) 6 ∧ ∀ u3 : MM, u3 = up u (t + 1) ((u t 0).toNatClampNeg) x1 → (vp_in ((u3 t 0)) 6 ∧ ∀ u4 : MM, u4 = up u3 (t + 2) ((u3 t 0).toNatClampNeg) x2 → (∀ u5 : MM, u5 = up u4 t 0 ((u4 t 0) + 1) → (K 1 u5))))) ∧ (¬ (u t 0) < 6 → (K 0 u)))))
def wX4_add8 (N : Nat) (t : Nat) (x1 : Int32) (x2 : Int32) (u : MM) (K : Int32 → MM → Prop) : Prop := ((8 ≤ (u t 0) → (K 0 u)) ∧ (¬ 8 ≤ (u t 0) → (((u t 0) < 8 → (vp_in ((u t 0)) 8 ∧ ∀ u3 : MM, u3 = up u (t + 1) ((u t 0).toNatClampNeg) x1 → (vp_in ((u3 t 0)) 8 ∧ ∀ u4 : MM, u4 = up u3 (t + 2) ((u3 t 0).toNatClampNeg) x2 → (∀ u5 : MM, u5 = up u4 t 0 ((u4 t 0) + 1) → (K 1 u5))))) ∧ (¬ (u t 0) < 8 → (K 0 u)))))
set_option maxRecDepth 100000 in
set_option maxHeartbeats 4000000 in
theorem kX_X4_add_30 (l : Launch) (D : va_G) (cI cZ : ClassId) (ad q : Nat → Nat) (N : Nat) {x1 : Int32} {x2 : Int32} {u : MM} {K : Int32 → MM → Prop} (h : wX4_add N 30 x1 x2 u K) : CT l D cI cZ ad 72 q (entC q cI cZ) yX4_add cX4_add 3 (some .boolean) (rr 0 0) [.ref (q 30), .int x1, .int x2] u (QI D 72 q (entC q cI cZ) K) := by
    refine ct_of (by decide +kernel) (Nat.le_of_ble_eq_true rfl) (fun p e s m args below meth c C => ?_)
    refine j_sub (lv' := [(0, .ref (q 30)), (1, .int x1), (2, .int x2)]) [0, 1, 2] rfl ?_
    refine j_aload_n C 0 dX4_add_0 rfl ?_
    refine j_get C 30 0 (ly_X4 C.2.2.2.2.2.2.2.1.1) q_137 rfl rfl (by decide) rfl rfl (by decide) rfl dX4_add_1 ?_
    refine j_aload_n C 0 dX4_add_4 rfl ?_
    refine j_get C 30 1 (ly_X4 C.2.2.2.2.2.2.2.1.1) q_140 rfl rfl (by decide) rfl rfl (by decide) rfl dX4_add_5 ?_
    refine j_alen (v := 6) C 31 (by decide) rfl (t0 := 0) rfl rfl dX4_add_8 ?_
    refine j_icmp_ge C 24 dX4_add_9 (by decide) (fun c1 => ?_) (fun c1 => ?_)
    · have h := h.1 c1
      refine j_iconst (v := 0) C dX4_add_24 (by decide) ?_
      exact j_zret C dX4_add_25 rfl h
    · have h := h.2 c1
      refine j_aload_n C 0 dX4_add_12 rfl ?_
      refine j_get C 30 0 (ly_X4 C.2.2.2.2.2.2.2.1.1) q_137 rfl rfl (by decide) rfl rfl (by decide) rfl dX4_add_13 ?_
      refine j_aload_n C 0 dX4_add_16 rfl ?_
      refine j_get C 30 2 (ly_X4 C.2.2.2.2.2.2.2.1.1) q_143 rfl rfl (by decide) rfl rfl (by decide) rfl dX4_add_17 ?_
      refine j_alen (v := 6) C 32 (by decide) rfl (t0 := 0) rfl rfl dX4_add_20 ?_
      refine j_icmp_lt C 26 dX4_add_21 (by decide) (fun c2 => ?_) (fun c2 => ?_)
      · have h := h.1 c2
        refine j_aload_n C 0 dX4_add_26 rfl ?_
        refine j_get C 30 1 (ly_X4 C.2.2.2.2.2.2.2.1.1) q_140 rfl rfl (by decide) rfl rfl (by decide) rfl dX4_add_27 ?_
        refine j_aload_n C 0 dX4_add_30 rfl ?_
        refine j_get C 30 0 (ly_X4 C.2.2.2.2.2.2.2.1.1) q_137 rfl rfl (by decide) rfl rfl (by decide) rfl dX4_add_31 ?_
        refine j_iload_n C 1 dX4_add_34 rfl ?_
        obtain ⟨hin, h⟩ := h
        refine j_iastoreK (N := 6) C 31 _ rfl hin (by decide) (fun _ => rfl) rfl dX4_add_35 (fun u3 eu3 => ?_)
        have h := h u3 eu3
        refine j_aload_n C 0 dX4_add_36 rfl ?_
        refine j_get C 30 2 (ly_X4 C.2.2.2.2.2.2.2.1.1) q_143 rfl rfl (by decide) rfl rfl (by decide) rfl dX4_add_37 ?_
        refine j_aload_n C 0 dX4_add_40 rfl ?_
        refine j_get C 30 0 (ly_X4 C.2.2.2.2.2.2.2.1.1) q_137 rfl rfl (by decide) rfl rfl (by decide) rfl dX4_add_41 ?_
        refine j_iload_n C 2 dX4_add_44 rfl ?_
        obtain ⟨hin, h⟩ := h
        refine j_iastoreK (N := 6) C 32 _ rfl hin (by decide) (fun _ => rfl) rfl dX4_add_45 (fun u4 eu4 => ?_)
        have h := h u4 eu4
        refine j_aload_n C 0 dX4_add_46 rfl ?_
        refine j_dup C dX4_add_47 rfl ?_
        refine j_get C 30 0 (ly_X4 C.2.2.2.2.2.2.2.1.1) q_137 rfl rfl (by decide) rfl rfl (by decide) rfl dX4_add_48 ?_
        refine j_iconst (v := 1) C dX4_add_51 (by decide) ?_
        refine j_iadd C dX4_add_52 ?_
        refine j_put C 30 0 (ly_X4 C.2.2.2.2.2.2.2.1.1) q_137 rfl rfl (by decide) rfl rfl (by decide) tyX4_ok nmX4 rfl rfl ⟨rfl, rfl⟩ (Nat.le_of_ble_eq_true rfl) rfl dX4_add_53 ?_
        refine j_nmu (fun u5 eu5 => ?_)
        have h := h u5 eu5
        refine j_iconst (v := 1) C dX4_add_56 (by decide) ?_
        exact j_zret C dX4_add_57 rfl h
      · have h := h.2 c2
        refine j_iconst (v := 0) C dX4_add_24 (by decide) ?_
        exact j_zret C dX4_add_25 rfl h
set_option maxRecDepth 100000 in
set_option maxHeartbeats 4000000 in
theorem kX_X4_add_33 (l : Launch) (D : va_G) (cI cZ : ClassId) (ad q : Nat → Nat) (N : Nat) {x1 : Int32} {x2 : Int32} {u : MM} {K : Int32 → MM → Prop} (h : wX4_add8 N 33 x1 x2 u K) : CT l D cI cZ ad 72 q (entC q cI cZ) yX4_add cX4_add 3 (some .boolean) (rr 0 0) [.ref (q 33), .int x1, .int x2] u (QI D 72 q (entC q cI cZ) K) := by
    refine ct_of (by decide +kernel) (Nat.le_of_ble_eq_true rfl) (fun p e s m args below meth c C => ?_)
    refine j_sub (lv' := [(0, .ref (q 33)), (1, .int x1), (2, .int x2)]) [0, 1, 2] rfl ?_
    refine j_aload_n C 0 dX4_add_0 rfl ?_
    refine j_get C 33 0 (ly_X4 C.2.2.2.2.2.2.2.1.1) q_137 rfl rfl (by decide) rfl rfl (by decide) rfl dX4_add_1 ?_
    refine j_aload_n C 0 dX4_add_4 rfl ?_
    refine j_get C 33 1 (ly_X4 C.2.2.2.2.2.2.2.1.1) q_140 rfl rfl (by decide) rfl rfl (by decide) rfl dX4_add_5 ?_
    refine j_alen (v := 8) C 34 (by decide) rfl (t0 := 0) rfl rfl dX4_add_8 ?_
    refine j_icmp_ge C 24 dX4_add_9 (by decide) (fun c1 => ?_) (fun c1 => ?_)
    · have h := h.1 c1
      refine j_iconst (v := 0) C dX4_add_24 (by decide) ?_
      exact j_zret C dX4_add_25 rfl h
    · have h := h.2 c1
      refine j_aload_n C 0 dX4_add_12 rfl ?_
      refine j_get C 33 0 (ly_X4 C.2.2.2.2.2.2.2.1.1) q_137 rfl rfl (by decide) rfl rfl (by decide) rfl dX4_add_13 ?_
      refine j_aload_n C 0 dX4_add_16 rfl ?_
      refine j_get C 33 2 (ly_X4 C.2.2.2.2.2.2.2.1.1) q_143 rfl rfl (by decide) rfl rfl (by decide) rfl dX4_add_17 ?_
      refine j_alen (v := 8) C 35 (by decide) rfl (t0 := 0) rfl rfl dX4_add_20 ?_
      refine j_icmp_lt C 26 dX4_add_21 (by decide) (fun c2 => ?_) (fun c2 => ?_)
      · have h := h.1 c2
        refine j_aload_n C 0 dX4_add_26 rfl ?_
        refine j_get C 33 1 (ly_X4 C.2.2.2.2.2.2.2.1.1) q_140 rfl rfl (by decide) rfl rfl (by decide) rfl dX4_add_27 ?_
        refine j_aload_n C 0 dX4_add_30 rfl ?_
        refine j_get C 33 0 (ly_X4 C.2.2.2.2.2.2.2.1.1) q_137 rfl rfl (by decide) rfl rfl (by decide) rfl dX4_add_31 ?_
        refine j_iload_n C 1 dX4_add_34 rfl ?_
        obtain ⟨hin, h⟩ := h
        refine j_iastoreK (N := 8) C 34 _ rfl hin (by decide) (fun _ => rfl) rfl dX4_add_35 (fun u3 eu3 => ?_)
        have h := h u3 eu3
        refine j_aload_n C 0 dX4_add_36 rfl ?_
        refine j_get C 33 2 (ly_X4 C.2.2.2.2.2.2.2.1.1) q_143 rfl rfl (by decide) rfl rfl (by decide) rfl dX4_add_37 ?_
        refine j_aload_n C 0 dX4_add_40 rfl ?_
        refine j_get C 33 0 (ly_X4 C.2.2.2.2.2.2.2.1.1) q_137 rfl rfl (by decide) rfl rfl (by decide) rfl dX4_add_41 ?_
        refine j_iload_n C 2 dX4_add_44 rfl ?_
        obtain ⟨hin, h⟩ := h
        refine j_iastoreK (N := 8) C 35 _ rfl hin (by decide) (fun _ => rfl) rfl dX4_add_45 (fun u4 eu4 => ?_)
        have h := h u4 eu4
        refine j_aload_n C 0 dX4_add_46 rfl ?_
        refine j_dup C dX4_add_47 rfl ?_
        refine j_get C 33 0 (ly_X4 C.2.2.2.2.2.2.2.1.1) q_137 rfl rfl (by decide) rfl rfl (by decide) rfl dX4_add_48 ?_
        refine j_iconst (v := 1) C dX4_add_51 (by decide) ?_
        refine j_iadd C dX4_add_52 ?_
        refine j_put C 33 0 (ly_X4 C.2.2.2.2.2.2.2.1.1) q_137 rfl rfl (by decide) rfl rfl (by decide) tyX4_ok nmX4 rfl rfl ⟨rfl, rfl⟩ (Nat.le_of_ble_eq_true rfl) rfl dX4_add_53 ?_
        refine j_nmu (fun u5 eu5 => ?_)
        have h := h u5 eu5
        refine j_iconst (v := 1) C dX4_add_56 (by decide) ?_
        exact j_zret C dX4_add_57 rfl h
      · have h := h.2 c2
        refine j_iconst (v := 0) C dX4_add_24 (by decide) ?_
        exact j_zret C dX4_add_25 rfl h
set_option maxRecDepth 100000 in
set_option maxHeartbeats 4000000 in
theorem kX_X4_add_56 (l : Launch) (D : va_G) (cI cZ : ClassId) (ad q : Nat → Nat) (N : Nat) {x1 : Int32} {x2 : Int32} {u : MM} {K : Int32 → MM → Prop} (h : wX4_add N 56 x1 x2 u K) : CT l D cI cZ ad 72 q (entC q cI cZ) yX4_add cX4_add 3 (some .boolean) (rr 0 0) [.ref (q 56), .int x1, .int x2] u (QI D 72 q (entC q cI cZ) K) := by
    refine ct_of (by decide +kernel) (Nat.le_of_ble_eq_true rfl) (fun p e s m args below meth c C => ?_)
    refine j_sub (lv' := [(0, .ref (q 56)), (1, .int x1), (2, .int x2)]) [0, 1, 2] rfl ?_
    refine j_aload_n C 0 dX4_add_0 rfl ?_
    refine j_get C 56 0 (ly_X4 C.2.2.2.2.2.2.2.1.1) q_137 rfl rfl (by decide) rfl rfl (by decide) rfl dX4_add_1 ?_
    refine j_aload_n C 0 dX4_add_4 rfl ?_
    refine j_get C 56 1 (ly_X4 C.2.2.2.2.2.2.2.1.1) q_140 rfl rfl (by decide) rfl rfl (by decide) rfl dX4_add_5 ?_
    refine j_alen (v := 6) C 57 (by decide) rfl (t0 := 0) rfl rfl dX4_add_8 ?_
    refine j_icmp_ge C 24 dX4_add_9 (by decide) (fun c1 => ?_) (fun c1 => ?_)
    · have h := h.1 c1
      refine j_iconst (v := 0) C dX4_add_24 (by decide) ?_
      exact j_zret C dX4_add_25 rfl h
    · have h := h.2 c1
      refine j_aload_n C 0 dX4_add_12 rfl ?_
      refine j_get C 56 0 (ly_X4 C.2.2.2.2.2.2.2.1.1) q_137 rfl rfl (by decide) rfl rfl (by decide) rfl dX4_add_13 ?_
      refine j_aload_n C 0 dX4_add_16 rfl ?_
      refine j_get C 56 2 (ly_X4 C.2.2.2.2.2.2.2.1.1) q_143 rfl rfl (by decide) rfl rfl (by decide) rfl dX4_add_17 ?_
      refine j_alen (v := 6) C 58 (by decide) rfl (t0 := 0) rfl rfl dX4_add_20 ?_
      refine j_icmp_lt C 26 dX4_add_21 (by decide) (fun c2 => ?_) (fun c2 => ?_)
      · have h := h.1 c2
        refine j_aload_n C 0 dX4_add_26 rfl ?_
        refine j_get C 56 1 (ly_X4 C.2.2.2.2.2.2.2.1.1) q_140 rfl rfl (by decide) rfl rfl (by decide) rfl dX4_add_27 ?_
        refine j_aload_n C 0 dX4_add_30 rfl ?_
        refine j_get C 56 0 (ly_X4 C.2.2.2.2.2.2.2.1.1) q_137 rfl rfl (by decide) rfl rfl (by decide) rfl dX4_add_31 ?_
        refine j_iload_n C 1 dX4_add_34 rfl ?_
        obtain ⟨hin, h⟩ := h
        refine j_iastoreK (N := 6) C 57 _ rfl hin (by decide) (fun _ => rfl) rfl dX4_add_35 (fun u3 eu3 => ?_)
        have h := h u3 eu3
        refine j_aload_n C 0 dX4_add_36 rfl ?_
        refine j_get C 56 2 (ly_X4 C.2.2.2.2.2.2.2.1.1) q_143 rfl rfl (by decide) rfl rfl (by decide) rfl dX4_add_37 ?_
        refine j_aload_n C 0 dX4_add_40 rfl ?_
        refine j_get C 56 0 (ly_X4 C.2.2.2.2.2.2.2.1.1) q_137 rfl rfl (by decide) rfl rfl (by decide) rfl dX4_add_41 ?_
        refine j_iload_n C 2 dX4_add_44 rfl ?_
        obtain ⟨hin, h⟩ := h
        refine j_iastoreK (N := 6) C 58 _ rfl hin (by decide) (fun _ => rfl) rfl dX4_add_45 (fun u4 eu4 => ?_)
        have h := h u4 eu4
        refine j_aload_n C 0 dX4_add_46 rfl ?_
        refine j_dup C dX4_add_47 rfl ?_
        refine j_get C 56 0 (ly_X4 C.2.2.2.2.2.2.2.1.1) q_137 rfl rfl (by decide) rfl rfl (by decide) rfl dX4_add_48 ?_
        refine j_iconst (v := 1) C dX4_add_51 (by decide) ?_
        refine j_iadd C dX4_add_52 ?_
        refine j_put C 56 0 (ly_X4 C.2.2.2.2.2.2.2.1.1) q_137 rfl rfl (by decide) rfl rfl (by decide) tyX4_ok nmX4 rfl rfl ⟨rfl, rfl⟩ (Nat.le_of_ble_eq_true rfl) rfl dX4_add_53 ?_
        refine j_nmu (fun u5 eu5 => ?_)
        have h := h u5 eu5
        refine j_iconst (v := 1) C dX4_add_56 (by decide) ?_
        exact j_zret C dX4_add_57 rfl h
      · have h := h.2 c2
        refine j_iconst (v := 0) C dX4_add_24 (by decide) ?_
        exact j_zret C dX4_add_25 rfl h
set_option maxRecDepth 100000 in
set_option maxHeartbeats 4000000 in
theorem kX_X4_add_59 (l : Launch) (D : va_G) (cI cZ : ClassId) (ad q : Nat → Nat) (N : Nat) {x1 : Int32} {x2 : Int32} {u : MM} {K : Int32 → MM → Prop} (h : wX4_add8 N 59 x1 x2 u K) : CT l D cI cZ ad 72 q (entC q cI cZ) yX4_add cX4_add 3 (some .boolean) (rr 0 0) [.ref (q 59), .int x1, .int x2] u (QI D 72 q (entC q cI cZ) K) := by
    refine ct_of (by decide +kernel) (Nat.le_of_ble_eq_true rfl) (fun p e s m args below meth c C => ?_)
    refine j_sub (lv' := [(0, .ref (q 59)), (1, .int x1), (2, .int x2)]) [0, 1, 2] rfl ?_
    refine j_aload_n C 0 dX4_add_0 rfl ?_
    refine j_get C 59 0 (ly_X4 C.2.2.2.2.2.2.2.1.1) q_137 rfl rfl (by decide) rfl rfl (by decide) rfl dX4_add_1 ?_
    refine j_aload_n C 0 dX4_add_4 rfl ?_
    refine j_get C 59 1 (ly_X4 C.2.2.2.2.2.2.2.1.1) q_140 rfl rfl (by decide) rfl rfl (by decide) rfl dX4_add_5 ?_
    refine j_alen (v := 8) C 60 (by decide) rfl (t0 := 0) rfl rfl dX4_add_8 ?_
    refine j_icmp_ge C 24 dX4_add_9 (by decide) (fun c1 => ?_) (fun c1 => ?_)
    · have h := h.1 c1
      refine j_iconst (v := 0) C dX4_add_24 (by decide) ?_
      exact j_zret C dX4_add_25 rfl h
    · have h := h.2 c1
      refine j_aload_n C 0 dX4_add_12 rfl ?_
      refine j_get C 59 0 (ly_X4 C.2.2.2.2.2.2.2.1.1) q_137 rfl rfl (by decide) rfl rfl (by decide) rfl dX4_add_13 ?_
      refine j_aload_n C 0 dX4_add_16 rfl ?_
      refine j_get C 59 2 (ly_X4 C.2.2.2.2.2.2.2.1.1) q_143 rfl rfl (by decide) rfl rfl (by decide) rfl dX4_add_17 ?_
      refine j_alen (v := 8) C 61 (by decide) rfl (t0 := 0) rfl rfl dX4_add_20 ?_
      refine j_icmp_lt C 26 dX4_add_21 (by decide) (fun c2 => ?_) (fun c2 => ?_)
      · have h := h.1 c2
        refine j_aload_n C 0 dX4_add_26 rfl ?_
        refine j_get C 59 1 (ly_X4 C.2.2.2.2.2.2.2.1.1) q_140 rfl rfl (by decide) rfl rfl (by decide) rfl dX4_add_27 ?_
        refine j_aload_n C 0 dX4_add_30 rfl ?_
        refine j_get C 59 0 (ly_X4 C.2.2.2.2.2.2.2.1.1) q_137 rfl rfl (by decide) rfl rfl (by decide) rfl dX4_add_31 ?_
        refine j_iload_n C 1 dX4_add_34 rfl ?_
        obtain ⟨hin, h⟩ := h
        refine j_iastoreK (N := 8) C 60 _ rfl hin (by decide) (fun _ => rfl) rfl dX4_add_35 (fun u3 eu3 => ?_)
        have h := h u3 eu3
        refine j_aload_n C 0 dX4_add_36 rfl ?_
        refine j_get C 59 2 (ly_X4 C.2.2.2.2.2.2.2.1.1) q_143 rfl rfl (by decide) rfl rfl (by decide) rfl dX4_add_37 ?_
        refine j_aload_n C 0 dX4_add_40 rfl ?_
        refine j_get C 59 0 (ly_X4 C.2.2.2.2.2.2.2.1.1) q_137 rfl rfl (by decide) rfl rfl (by decide) rfl dX4_add_41 ?_
        refine j_iload_n C 2 dX4_add_44 rfl ?_
        obtain ⟨hin, h⟩ := h
        refine j_iastoreK (N := 8) C 61 _ rfl hin (by decide) (fun _ => rfl) rfl dX4_add_45 (fun u4 eu4 => ?_)
        have h := h u4 eu4
        refine j_aload_n C 0 dX4_add_46 rfl ?_
        refine j_dup C dX4_add_47 rfl ?_
        refine j_get C 59 0 (ly_X4 C.2.2.2.2.2.2.2.1.1) q_137 rfl rfl (by decide) rfl rfl (by decide) rfl dX4_add_48 ?_
        refine j_iconst (v := 1) C dX4_add_51 (by decide) ?_
        refine j_iadd C dX4_add_52 ?_
        refine j_put C 59 0 (ly_X4 C.2.2.2.2.2.2.2.1.1) q_137 rfl rfl (by decide) rfl rfl (by decide) tyX4_ok nmX4 rfl rfl ⟨rfl, rfl⟩ (Nat.le_of_ble_eq_true rfl) rfl dX4_add_53 ?_
        refine j_nmu (fun u5 eu5 => ?_)
        have h := h u5 eu5
        refine j_iconst (v := 1) C dX4_add_56 (by decide) ?_
        exact j_zret C dX4_add_57 rfl h
      · have h := h.2 c2
        refine j_iconst (v := 0) C dX4_add_24 (by decide) ?_
        exact j_zret C dX4_add_25 rfl h

def wX4_copyFrom_b7 (N : Nat) (K : MM → Prop) (t : Nat) (o : Nat) : Nat → Int32 → MM → Prop
  | 0, _, _ => False
  | n + 1, x2, u => (((u o 0) ≤ x2 → (K u)) ∧ (¬ (u o 0) ≤ x2 → (vp_in x2 6 ∧ (vp_in x2 6 ∧ (wX4_add N t (u (o + 1) x2.toNatClampNeg) (u (o + 2) x2.toNatClampNeg) u (fun r3 u4 => (∀ y5 : Int32, y5 = x2 + 1 → (wX4_copyFrom_b7 N K t o n y5 u4))))))))
def wX4_copyFrom (N : Nat) (t : Nat) (o : Nat) (u : MM) (K : MM → Prop) : Prop := (∀ u1 : MM, u1 = up u t 0 0 → (wX4_copyFrom_b7 N K t o N 0 u1))
def wX4_copyFrom8_b7 (N : Nat) (K : MM → Prop) (t : Nat) (o : Nat) : Nat → Int32 → MM → Prop
  | 0, _, _ => False
  | n + 1, x2, u => (((u o 0) ≤ x2 → (K u)) ∧ (¬ (u o 0) ≤ x2 → (vp_in x2 8 ∧ (vp_in x2 8 ∧ (wX4_add8 N t (u (o + 1) x2.toNatClampNeg) (u (o + 2) x2.toNatClampNeg) u (fun r3 u4 => (∀ y5 : Int32, y5 = x2 + 1 → (wX4_copyFrom8_b7 N K t o n y5 u4))))))))
def wX4_copyFrom8 (N : Nat) (t : Nat) (o : Nat) (u : MM) (K : MM → Prop) : Prop := (∀ u1 : MM, u1 = up u t 0 0 → (wX4_copyFrom8_b7 N K t o N 0 u1))
set_option maxRecDepth 100000 in
set_option maxHeartbeats 4000000 in
theorem tX4_copyFrom_b7_56_30 (l : Launch) (D : va_G) (cI cZ : ClassId) (ad q : Nat → Nat) (N : Nat) {p : Program} {e : Env} {s : State} {m : MethodId} {args : Array Value} {below : List Frame} {meth : Method} {c : Code} {K : MM → Prop} (C : CX p s m args meth c cX4_copyFrom 3 RX4 none D cI cZ ad (AJ 72 q s.heap.size)) : ∀ (n : Nat) (x2 : Int32) (u : MM), wX4_copyFrom_b7 N K 56 30 n x2 u → JX p l e (rr 1 22) s m args below meth c D (AJ 72 q s.heap.size) 3 (MQ below ((QV D 72 q (entC q cI cZ) K) (AJ 72 q s.heap.size)) args s 0 0 (AJ 72 q s.heap.size)) 72 q (entC q cI cZ) u 7 [(0, .ref (q 56)), (1, .ref (q 30)), (2, .int x2)] [] := by
  intro n
  induction n with
  | zero => intro x2 u h; exact h.elim
  | succ n ih =>
    intro x2 u h
    refine j_iload_n C 2 dX4_copyFrom_7 rfl ?_
    refine j_aload_n C 1 dX4_copyFrom_8 rfl ?_
    refine j_get C 30 0 (ly_X4 C.2.2.2.2.2.2.2.1.1) q_137 rfl rfl (by decide) rfl rfl (by decide) rfl dX4_copyFrom_9 ?_
    refine j_icmp_ge C 38 dX4_copyFrom_12 (by decide) (fun c2 => ?_) (fun c2 => ?_)
    · have h := h.1 c2
      exact j_vret C dX4_copyFrom_38 h
    · have h := h.2 c2
      refine j_aload_n C 0 dX4_copyFrom_15 rfl ?_
      refine j_aload_n C 1 dX4_copyFrom_16 rfl ?_
      refine j_get C 30 1 (ly_X4 C.2.2.2.2.2.2.2.1.1) q_140 rfl rfl (by decide) rfl rfl (by decide) rfl dX4_copyFrom_17 ?_
      refine j_iload_n C 2 dX4_copyFrom_20 rfl ?_
      obtain ⟨hin, h⟩ := h
      refine j_ialoadK (N := 6) C 31 _ rfl hin (by decide) rfl rfl dX4_copyFrom_21 ?_
      refine j_aload_n C 1 dX4_copyFrom_22 rfl ?_
      refine j_get C 30 2 (ly_X4 C.2.2.2.2.2.2.2.1.1) q_143 rfl rfl (by decide) rfl rfl (by decide) rfl dX4_copyFrom_23 ?_
      refine j_iload_n C 2 dX4_copyFrom_26 rfl ?_
      obtain ⟨hin, h⟩ := h
      refine j_ialoadK (N := 6) C 32 _ rfl hin (by decide) rfl rfl dX4_copyFrom_27 ?_
      refine j_wi C (fun H locs ls hP hD hS hl => run_V (Cn := "") (As := [.int (u (30 + 1) x2.toNatClampNeg), .int (u (30 + 2) x2.toNatClampNeg)]) (st := []) C mf_X4_add 56 (kX_X4_add_56 l D cI cZ ad q N h) q_621 (by decide) rfl rfl rfl rfl ⟨rfl, rfl, by decide, by decide⟩ (Nat.le_of_ble_eq_true rfl) dX4_copyFrom_28 hP hD hS hl) (fun r3 u4 h => ?_)
      refine j_pop C dX4_copyFrom_31 rfl ?_
      obtain ⟨y5, ey5⟩ : ∃ z : Int32, z = x2 + 1 := ⟨_, rfl⟩
      have h := h y5 ey5
      refine j_iinc (v := y5) (lv' := [(2, .int y5), (0, .ref (q 56)), (1, .ref (q 30))]) C 2 dX4_copyFrom_32 rfl (by rw [ey5]; rfl) (by decide) rfl ?_
      refine j_goto C 7 dX4_copyFrom_35 (by decide) ?_
      refine j_sub (lv' := [(0, .ref (q 56)), (1, .ref (q 30)), (2, .int y5)]) [1, 2, 0] rfl ?_
      exact ih _ _ h
set_option maxRecDepth 100000 in
set_option maxHeartbeats 4000000 in
theorem kX_X4_copyFrom_56_30 (l : Launch) (D : va_G) (cI cZ : ClassId) (ad q : Nat → Nat) (N : Nat) {u : MM} {K : MM → Prop} (h : wX4_copyFrom N 56 30 u K) : CT l D cI cZ ad 72 q (entC q cI cZ) yX4_copyFrom cX4_copyFrom 3 none (rr 1 22) [.ref (q 56), .ref (q 30)] u (QV D 72 q (entC q cI cZ) K) := by
    refine ct_of (by decide +kernel) (Nat.le_of_ble_eq_true rfl) (fun p e s m args below meth c C => ?_)
    refine j_sub (lv' := [(0, .ref (q 56)), (1, .ref (q 30))]) [0, 1] rfl ?_
    refine j_aload_n C 0 dX4_copyFrom_0 rfl ?_
    refine j_iconst (v := 0) C dX4_copyFrom_1 (by decide) ?_
    refine j_put C 56 0 (ly_X4 C.2.2.2.2.2.2.2.1.1) q_137 rfl rfl (by decide) rfl rfl (by decide) tyX4_ok nmX4 rfl rfl ⟨rfl, rfl⟩ (Nat.le_of_ble_eq_true rfl) rfl dX4_copyFrom_2 ?_
    refine j_nmu (fun u1 eu1 => ?_)
    have h := h u1 eu1
    refine j_iconst (v := 0) C dX4_copyFrom_5 (by decide) ?_
    refine j_istore_n (lv' := [(2, .int 0), (0, .ref (q 56)), (1, .ref (q 30))]) C dX4_copyFrom_6 (by decide) rfl ?_
    refine j_sub (lv' := [(0, .ref (q 56)), (1, .ref (q 30)), (2, .int 0)]) [1, 2, 0] rfl ?_
    exact tX4_copyFrom_b7_56_30 l D cI cZ ad q N C N _ _ h
set_option maxRecDepth 100000 in
set_option maxHeartbeats 4000000 in
theorem tX4_copyFrom_b7_59_33 (l : Launch) (D : va_G) (cI cZ : ClassId) (ad q : Nat → Nat) (N : Nat) {p : Program} {e : Env} {s : State} {m : MethodId} {args : Array Value} {below : List Frame} {meth : Method} {c : Code} {K : MM → Prop} (C : CX p s m args meth c cX4_copyFrom 3 RX4 none D cI cZ ad (AJ 72 q s.heap.size)) : ∀ (n : Nat) (x2 : Int32) (u : MM), wX4_copyFrom8_b7 N K 59 33 n x2 u → JX p l e (rr 1 22) s m args below meth c D (AJ 72 q s.heap.size) 3 (MQ below ((QV D 72 q (entC q cI cZ) K) (AJ 72 q s.heap.size)) args s 0 0 (AJ 72 q s.heap.size)) 72 q (entC q cI cZ) u 7 [(0, .ref (q 59)), (1, .ref (q 33)), (2, .int x2)] [] := by
  intro n
  induction n with
  | zero => intro x2 u h; exact h.elim
  | succ n ih =>
    intro x2 u h
    refine j_iload_n C 2 dX4_copyFrom_7 rfl ?_
    refine j_aload_n C 1 dX4_copyFrom_8 rfl ?_
    refine j_get C 33 0 (ly_X4 C.2.2.2.2.2.2.2.1.1) q_137 rfl rfl (by decide) rfl rfl (by decide) rfl dX4_copyFrom_9 ?_
    refine j_icmp_ge C 38 dX4_copyFrom_12 (by decide) (fun c2 => ?_) (fun c2 => ?_)
    · have h := h.1 c2
      exact j_vret C dX4_copyFrom_38 h
    · have h := h.2 c2
      refine j_aload_n C 0 dX4_copyFrom_15 rfl ?_
      refine j_aload_n C 1 dX4_copyFrom_16 rfl ?_
      refine j_get C 33 1 (ly_X4 C.2.2.2.2.2.2.2.1.1) q_140 rfl rfl (by decide) rfl rfl (by decide) rfl dX4_copyFrom_17 ?_
      refine j_iload_n C 2 dX4_copyFrom_20 rfl ?_
      obtain ⟨hin, h⟩ := h
      refine j_ialoadK (N := 8) C 34 _ rfl hin (by decide) rfl rfl dX4_copyFrom_21 ?_
      refine j_aload_n C 1 dX4_copyFrom_22 rfl ?_
      refine j_get C 33 2 (ly_X4 C.2.2.2.2.2.2.2.1.1) q_143 rfl rfl (by decide) rfl rfl (by decide) rfl dX4_copyFrom_23 ?_
      refine j_iload_n C 2 dX4_copyFrom_26 rfl ?_
      obtain ⟨hin, h⟩ := h
      refine j_ialoadK (N := 8) C 35 _ rfl hin (by decide) rfl rfl dX4_copyFrom_27 ?_
      refine j_wi C (fun H locs ls hP hD hS hl => run_V (Cn := "") (As := [.int (u (33 + 1) x2.toNatClampNeg), .int (u (33 + 2) x2.toNatClampNeg)]) (st := []) C mf_X4_add 59 (kX_X4_add_59 l D cI cZ ad q N h) q_621 (by decide) rfl rfl rfl rfl ⟨rfl, rfl, by decide, by decide⟩ (Nat.le_of_ble_eq_true rfl) dX4_copyFrom_28 hP hD hS hl) (fun r3 u4 h => ?_)
      refine j_pop C dX4_copyFrom_31 rfl ?_
      obtain ⟨y5, ey5⟩ : ∃ z : Int32, z = x2 + 1 := ⟨_, rfl⟩
      have h := h y5 ey5
      refine j_iinc (v := y5) (lv' := [(2, .int y5), (0, .ref (q 59)), (1, .ref (q 33))]) C 2 dX4_copyFrom_32 rfl (by rw [ey5]; rfl) (by decide) rfl ?_
      refine j_goto C 7 dX4_copyFrom_35 (by decide) ?_
      refine j_sub (lv' := [(0, .ref (q 59)), (1, .ref (q 33)), (2, .int y5)]) [1, 2, 0] rfl ?_
      exact ih _ _ h
set_option maxRecDepth 100000 in
set_option maxHeartbeats 4000000 in
theorem kX_X4_copyFrom_59_33 (l : Launch) (D : va_G) (cI cZ : ClassId) (ad q : Nat → Nat) (N : Nat) {u : MM} {K : MM → Prop} (h : wX4_copyFrom8 N 59 33 u K) : CT l D cI cZ ad 72 q (entC q cI cZ) yX4_copyFrom cX4_copyFrom 3 none (rr 1 22) [.ref (q 59), .ref (q 33)] u (QV D 72 q (entC q cI cZ) K) := by
    refine ct_of (by decide +kernel) (Nat.le_of_ble_eq_true rfl) (fun p e s m args below meth c C => ?_)
    refine j_sub (lv' := [(0, .ref (q 59)), (1, .ref (q 33))]) [0, 1] rfl ?_
    refine j_aload_n C 0 dX4_copyFrom_0 rfl ?_
    refine j_iconst (v := 0) C dX4_copyFrom_1 (by decide) ?_
    refine j_put C 59 0 (ly_X4 C.2.2.2.2.2.2.2.1.1) q_137 rfl rfl (by decide) rfl rfl (by decide) tyX4_ok nmX4 rfl rfl ⟨rfl, rfl⟩ (Nat.le_of_ble_eq_true rfl) rfl dX4_copyFrom_2 ?_
    refine j_nmu (fun u1 eu1 => ?_)
    have h := h u1 eu1
    refine j_iconst (v := 0) C dX4_copyFrom_5 (by decide) ?_
    refine j_istore_n (lv' := [(2, .int 0), (0, .ref (q 59)), (1, .ref (q 33))]) C dX4_copyFrom_6 (by decide) rfl ?_
    refine j_sub (lv' := [(0, .ref (q 59)), (1, .ref (q 33)), (2, .int 0)]) [1, 2, 0] rfl ?_
    exact tX4_copyFrom_b7_59_33 l D cI cZ ad q N C N _ _ h
set_option maxRecDepth 100000 in
set_option maxHeartbeats 4000000 in
theorem tX4_copyFrom_b7_30_56 (l : Launch) (D : va_G) (cI cZ : ClassId) (ad q : Nat → Nat) (N : Nat) {p : Program} {e : Env} {s : State} {m : MethodId} {args : Array Value} {below : List Frame} {meth : Method} {c : Code} {K : MM → Prop} (C : CX p s m args meth c cX4_copyFrom 3 RX4 none D cI cZ ad (AJ 72 q s.heap.size)) : ∀ (n : Nat) (x2 : Int32) (u : MM), wX4_copyFrom_b7 N K 30 56 n x2 u → JX p l e (rr 1 22) s m args below meth c D (AJ 72 q s.heap.size) 3 (MQ below ((QV D 72 q (entC q cI cZ) K) (AJ 72 q s.heap.size)) args s 0 0 (AJ 72 q s.heap.size)) 72 q (entC q cI cZ) u 7 [(0, .ref (q 30)), (1, .ref (q 56)), (2, .int x2)] [] := by
  intro n
  induction n with
  | zero => intro x2 u h; exact h.elim
  | succ n ih =>
    intro x2 u h
    refine j_iload_n C 2 dX4_copyFrom_7 rfl ?_
    refine j_aload_n C 1 dX4_copyFrom_8 rfl ?_
    refine j_get C 56 0 (ly_X4 C.2.2.2.2.2.2.2.1.1) q_137 rfl rfl (by decide) rfl rfl (by decide) rfl dX4_copyFrom_9 ?_
    refine j_icmp_ge C 38 dX4_copyFrom_12 (by decide) (fun c2 => ?_) (fun c2 => ?_)
    · have h := h.1 c2
      exact j_vret C dX4_copyFrom_38 h
    · have h := h.2 c2
      refine j_aload_n C 0 dX4_copyFrom_15 rfl ?_
      refine j_aload_n C 1 dX4_copyFrom_16 rfl ?_
      refine j_get C 56 1 (ly_X4 C.2.2.2.2.2.2.2.1.1) q_140 rfl rfl (by decide) rfl rfl (by decide) rfl dX4_copyFrom_17 ?_
      refine j_iload_n C 2 dX4_copyFrom_20 rfl ?_
      obtain ⟨hin, h⟩ := h
      refine j_ialoadK (N := 6) C 57 _ rfl hin (by decide) rfl rfl dX4_copyFrom_21 ?_
      refine j_aload_n C 1 dX4_copyFrom_22 rfl ?_
      refine j_get C 56 2 (ly_X4 C.2.2.2.2.2.2.2.1.1) q_143 rfl rfl (by decide) rfl rfl (by decide) rfl dX4_copyFrom_23 ?_
      refine j_iload_n C 2 dX4_copyFrom_26 rfl ?_
      obtain ⟨hin, h⟩ := h
      refine j_ialoadK (N := 6) C 58 _ rfl hin (by decide) rfl rfl dX4_copyFrom_27 ?_
      refine j_wi C (fun H locs ls hP hD hS hl => run_V (Cn := "") (As := [.int (u (56 + 1) x2.toNatClampNeg), .int (u (56 + 2) x2.toNatClampNeg)]) (st := []) C mf_X4_add 30 (kX_X4_add_30 l D cI cZ ad q N h) q_621 (by decide) rfl rfl rfl rfl ⟨rfl, rfl, by decide, by decide⟩ (Nat.le_of_ble_eq_true rfl) dX4_copyFrom_28 hP hD hS hl) (fun r3 u4 h => ?_)
      refine j_pop C dX4_copyFrom_31 rfl ?_
      obtain ⟨y5, ey5⟩ : ∃ z : Int32, z = x2 + 1 := ⟨_, rfl⟩
      have h := h y5 ey5
      refine j_iinc (v := y5) (lv' := [(2, .int y5), (0, .ref (q 30)), (1, .ref (q 56))]) C 2 dX4_copyFrom_32 rfl (by rw [ey5]; rfl) (by decide) rfl ?_
      refine j_goto C 7 dX4_copyFrom_35 (by decide) ?_
      refine j_sub (lv' := [(0, .ref (q 30)), (1, .ref (q 56)), (2, .int y5)]) [1, 2, 0] rfl ?_
      exact ih _ _ h
set_option maxRecDepth 100000 in
set_option maxHeartbeats 4000000 in
theorem kX_X4_copyFrom_30_56 (l : Launch) (D : va_G) (cI cZ : ClassId) (ad q : Nat → Nat) (N : Nat) {u : MM} {K : MM → Prop} (h : wX4_copyFrom N 30 56 u K) : CT l D cI cZ ad 72 q (entC q cI cZ) yX4_copyFrom cX4_copyFrom 3 none (rr 1 22) [.ref (q 30), .ref (q 56)] u (QV D 72 q (entC q cI cZ) K) := by
    refine ct_of (by decide +kernel) (Nat.le_of_ble_eq_true rfl) (fun p e s m args below meth c C => ?_)
    refine j_sub (lv' := [(0, .ref (q 30)), (1, .ref (q 56))]) [0, 1] rfl ?_
    refine j_aload_n C 0 dX4_copyFrom_0 rfl ?_
    refine j_iconst (v := 0) C dX4_copyFrom_1 (by decide) ?_
    refine j_put C 30 0 (ly_X4 C.2.2.2.2.2.2.2.1.1) q_137 rfl rfl (by decide) rfl rfl (by decide) tyX4_ok nmX4 rfl rfl ⟨rfl, rfl⟩ (Nat.le_of_ble_eq_true rfl) rfl dX4_copyFrom_2 ?_
    refine j_nmu (fun u1 eu1 => ?_)
    have h := h u1 eu1
    refine j_iconst (v := 0) C dX4_copyFrom_5 (by decide) ?_
    refine j_istore_n (lv' := [(2, .int 0), (0, .ref (q 30)), (1, .ref (q 56))]) C dX4_copyFrom_6 (by decide) rfl ?_
    refine j_sub (lv' := [(0, .ref (q 30)), (1, .ref (q 56)), (2, .int 0)]) [1, 2, 0] rfl ?_
    exact tX4_copyFrom_b7_30_56 l D cI cZ ad q N C N _ _ h
set_option maxRecDepth 100000 in
set_option maxHeartbeats 4000000 in
theorem tX4_copyFrom_b7_33_59 (l : Launch) (D : va_G) (cI cZ : ClassId) (ad q : Nat → Nat) (N : Nat) {p : Program} {e : Env} {s : State} {m : MethodId} {args : Array Value} {below : List Frame} {meth : Method} {c : Code} {K : MM → Prop} (C : CX p s m args meth c cX4_copyFrom 3 RX4 none D cI cZ ad (AJ 72 q s.heap.size)) : ∀ (n : Nat) (x2 : Int32) (u : MM), wX4_copyFrom8_b7 N K 33 59 n x2 u → JX p l e (rr 1 22) s m args below meth c D (AJ 72 q s.heap.size) 3 (MQ below ((QV D 72 q (entC q cI cZ) K) (AJ 72 q s.heap.size)) args s 0 0 (AJ 72 q s.heap.size)) 72 q (entC q cI cZ) u 7 [(0, .ref (q 33)), (1, .ref (q 59)), (2, .int x2)] [] := by
  intro n
  induction n with
  | zero => intro x2 u h; exact h.elim
  | succ n ih =>
    intro x2 u h
    refine j_iload_n C 2 dX4_copyFrom_7 rfl ?_
    refine j_aload_n C 1 dX4_copyFrom_8 rfl ?_
    refine j_get C 59 0 (ly_X4 C.2.2.2.2.2.2.2.1.1) q_137 rfl rfl (by decide) rfl rfl (by decide) rfl dX4_copyFrom_9 ?_
    refine j_icmp_ge C 38 dX4_copyFrom_12 (by decide) (fun c2 => ?_) (fun c2 => ?_)
    · have h := h.1 c2
      exact j_vret C dX4_copyFrom_38 h
    · have h := h.2 c2
      refine j_aload_n C 0 dX4_copyFrom_15 rfl ?_
      refine j_aload_n C 1 dX4_copyFrom_16 rfl ?_
      refine j_get C 59 1 (ly_X4 C.2.2.2.2.2.2.2.1.1) q_140 rfl rfl (by decide) rfl rfl (by decide) rfl dX4_copyFrom_17 ?_
      refine j_iload_n C 2 dX4_copyFrom_20 rfl ?_
      obtain ⟨hin, h⟩ := h
      refine j_ialoadK (N := 8) C 60 _ rfl hin (by decide) rfl rfl dX4_copyFrom_21 ?_
      refine j_aload_n C 1 dX4_copyFrom_22 rfl ?_
      refine j_get C 59 2 (ly_X4 C.2.2.2.2.2.2.2.1.1) q_143 rfl rfl (by decide) rfl rfl (by decide) rfl dX4_copyFrom_23 ?_
      refine j_iload_n C 2 dX4_copyFrom_26 rfl ?_
      obtain ⟨hin, h⟩ := h
      refine j_ialoadK (N := 8) C 61 _ rfl hin (by decide) rfl rfl dX4_copyFrom_27 ?_
      refine j_wi C (fun H locs ls hP hD hS hl => run_V (Cn := "") (As := [.int (u (59 + 1) x2.toNatClampNeg), .int (u (59 + 2) x2.toNatClampNeg)]) (st := []) C mf_X4_add 33 (kX_X4_add_33 l D cI cZ ad q N h) q_621 (by decide) rfl rfl rfl rfl ⟨rfl, rfl, by decide, by decide⟩ (Nat.le_of_ble_eq_true rfl) dX4_copyFrom_28 hP hD hS hl) (fun r3 u4 h => ?_)
      refine j_pop C dX4_copyFrom_31 rfl ?_
      obtain ⟨y5, ey5⟩ : ∃ z : Int32, z = x2 + 1 := ⟨_, rfl⟩
      have h := h y5 ey5
      refine j_iinc (v := y5) (lv' := [(2, .int y5), (0, .ref (q 33)), (1, .ref (q 59))]) C 2 dX4_copyFrom_32 rfl (by rw [ey5]; rfl) (by decide) rfl ?_
      refine j_goto C 7 dX4_copyFrom_35 (by decide) ?_
      refine j_sub (lv' := [(0, .ref (q 33)), (1, .ref (q 59)), (2, .int y5)]) [1, 2, 0] rfl ?_
      exact ih _ _ h
set_option maxRecDepth 100000 in
set_option maxHeartbeats 4000000 in
theorem kX_X4_copyFrom_33_59 (l : Launch) (D : va_G) (cI cZ : ClassId) (ad q : Nat → Nat) (N : Nat) {u : MM} {K : MM → Prop} (h : wX4_copyFrom8 N 33 59 u K) : CT l D cI cZ ad 72 q (entC q cI cZ) yX4_copyFrom cX4_copyFrom 3 none (rr 1 22) [.ref (q 33), .ref (q 59)] u (QV D 72 q (entC q cI cZ) K) := by
    refine ct_of (by decide +kernel) (Nat.le_of_ble_eq_true rfl) (fun p e s m args below meth c C => ?_)
    refine j_sub (lv' := [(0, .ref (q 33)), (1, .ref (q 59))]) [0, 1] rfl ?_
    refine j_aload_n C 0 dX4_copyFrom_0 rfl ?_
    refine j_iconst (v := 0) C dX4_copyFrom_1 (by decide) ?_
    refine j_put C 33 0 (ly_X4 C.2.2.2.2.2.2.2.1.1) q_137 rfl rfl (by decide) rfl rfl (by decide) tyX4_ok nmX4 rfl rfl ⟨rfl, rfl⟩ (Nat.le_of_ble_eq_true rfl) rfl dX4_copyFrom_2 ?_
    refine j_nmu (fun u1 eu1 => ?_)
    have h := h u1 eu1
    refine j_iconst (v := 0) C dX4_copyFrom_5 (by decide) ?_
    refine j_istore_n (lv' := [(2, .int 0), (0, .ref (q 33)), (1, .ref (q 59))]) C dX4_copyFrom_6 (by decide) rfl ?_
    refine j_sub (lv' := [(0, .ref (q 33)), (1, .ref (q 59)), (2, .int 0)]) [1, 2, 0] rfl ?_
    exact tX4_copyFrom_b7_33_59 l D cI cZ ad q N C N _ _ h

def wX8_copyFrom (N : Nat) (t : Nat) (o : Nat) (u : MM) (K : MM → Prop) : Prop := (∀ u1 : MM, u1 = up u t 0 (u o 0) → (∀ u2 : MM, u2 = up u1 t 1 (u1 o 1) → (∀ u3 : MM, u3 = up u2 t 2 (u2 o 2) → (∀ u4 : MM, u4 = up u3 t 3 (u3 o 3) → (∀ u5 : MM, u5 = upR u4 (t + 1) (va_cpy (u4 (o + 1)) (u4 (t + 1)) 0 0 10) → (∀ u6 : MM, u6 = upR u5 (t + 2) (va_cpy (u5 (o + 2)) (u5 (t + 2)) 0 0 10) → (∀ u7 : MM, u7 = upR u6 (t + 3) (va_cpy (u6 (o + 3)) (u6 (t + 3)) 0 0 10) → (∀ u8 : MM, u8 = upR u7 (t + 4) (va_cpy (u7 (o + 4)) (u7 (t + 4)) 0 0 10) → (∀ u9 : MM, u9 = upR u8 (t + 5) (va_cpy (u8 (o + 5)) (u8 (t + 5)) 0 0 100) → (∀ u10 : MM, u10 = upR u9 (t + 6) (va_cpy (u9 (o + 6)) (u9 (t + 6)) 0 0 100) → (∀ u11 : MM, u11 = upR u10 (t + 7) (va_cpy (u10 (o + 7)) (u10 (t + 7)) 0 0 100) → (K u11))))))))))))
set_option maxRecDepth 100000 in
set_option maxHeartbeats 4000000 in
theorem kX_X8_copyFrom_13_64 (l : Launch) (D : va_G) (cI cZ : ClassId) (ad q : Nat → Nat) (N : Nat) {u : MM} {K : MM → Prop} (h : wX8_copyFrom N 13 64 u K) : CT l D cI cZ ad 72 q (entC q cI cZ) yX8_copyFrom cX8_copyFrom 2 none (rr 1 60) [.ref (q 13), .ref (q 64)] u (QV D 72 q (entC q cI cZ) K) := by
    refine ct_of (by decide +kernel) (Nat.le_of_ble_eq_true rfl) (fun p e s m args below meth c C => ?_)
    refine j_sub (lv' := [(0, .ref (q 13)), (1, .ref (q 64))]) [0, 1] rfl ?_
    refine j_aload_n C 0 dX8_copyFrom_0 rfl ?_
    refine j_aload_n C 1 dX8_copyFrom_1 rfl ?_
    refine j_get C 64 0 (ly_X8 C.2.2.2.2.2.2.2.1.1) q_62 rfl rfl (by decide) rfl rfl (by decide) rfl dX8_copyFrom_2 ?_
    refine j_put C 13 0 (ly_X8 C.2.2.2.2.2.2.2.1.1) q_62 rfl rfl (by decide) rfl rfl (by decide) tyX8_ok nmX8 rfl rfl ⟨rfl, rfl⟩ (Nat.le_of_ble_eq_true rfl) rfl dX8_copyFrom_5 ?_
    refine j_nmu (fun u1 eu1 => ?_)
    have h := h u1 eu1
    refine j_aload_n C 0 dX8_copyFrom_8 rfl ?_
    refine j_aload_n C 1 dX8_copyFrom_9 rfl ?_
    refine j_get C 64 1 (ly_X8 C.2.2.2.2.2.2.2.1.1) q_66 rfl rfl (by decide) rfl rfl (by decide) rfl dX8_copyFrom_10 ?_
    refine j_put C 13 1 (ly_X8 C.2.2.2.2.2.2.2.1.1) q_66 rfl rfl (by decide) rfl rfl (by decide) tyX8_ok nmX8 rfl rfl ⟨rfl, rfl⟩ (Nat.le_of_ble_eq_true rfl) rfl dX8_copyFrom_13 ?_
    refine j_nmu (fun u2 eu2 => ?_)
    have h := h u2 eu2
    refine j_aload_n C 0 dX8_copyFrom_16 rfl ?_
    refine j_aload_n C 1 dX8_copyFrom_17 rfl ?_
    refine j_get C 64 2 (ly_X8 C.2.2.2.2.2.2.2.1.1) q_70 rfl rfl (by decide) rfl rfl (by decide) rfl dX8_copyFrom_18 ?_
    refine j_put C 13 2 (ly_X8 C.2.2.2.2.2.2.2.1.1) q_70 rfl rfl (by decide) rfl rfl (by decide) tyX8_ok nmX8 rfl rfl ⟨rfl, rfl⟩ (Nat.le_of_ble_eq_true rfl) rfl dX8_copyFrom_21 ?_
    refine j_nmu (fun u3 eu3 => ?_)
    have h := h u3 eu3
    refine j_aload_n C 0 dX8_copyFrom_24 rfl ?_
    refine j_aload_n C 1 dX8_copyFrom_25 rfl ?_
    refine j_get C 64 3 (ly_X8 C.2.2.2.2.2.2.2.1.1) q_71 rfl rfl (by decide) rfl rfl (by decide) rfl dX8_copyFrom_26 ?_
    refine j_put C 13 3 (ly_X8 C.2.2.2.2.2.2.2.1.1) q_71 rfl rfl (by decide) rfl rfl (by decide) tyX8_ok nmX8 rfl rfl ⟨rfl, rfl⟩ (Nat.le_of_ble_eq_true rfl) rfl dX8_copyFrom_29 ?_
    refine j_nmu (fun u4 eu4 => ?_)
    have h := h u4 eu4
    refine j_aload_n C 1 dX8_copyFrom_32 rfl ?_
    refine j_get C 64 4 (ly_X8 C.2.2.2.2.2.2.2.1.1) q_72 rfl rfl (by decide) rfl rfl (by decide) rfl dX8_copyFrom_33 ?_
    refine j_iconst (v := 0) C dX8_copyFrom_36 (by decide) ?_
    refine j_aload_n C 0 dX8_copyFrom_37 rfl ?_
    refine j_get C 13 4 (ly_X8 C.2.2.2.2.2.2.2.1.1) q_72 rfl rfl (by decide) rfl rfl (by decide) rfl dX8_copyFrom_38 ?_
    refine j_iconst (v := 0) C dX8_copyFrom_41 (by decide) ?_
    refine j_bipush (v := 10) C dX8_copyFrom_42 (by decide) ?_
    refine j_copy (N0 := 10) (N1 := 10) C 10 65 14 q_342 q_247 q_246 q_14 (by decide) (by decide) rfl rfl (fun _ => rfl) rfl (by decide) (by decide) (by decide) (by decide) (by decide) (Nat.le_of_ble_eq_true rfl) dX8_copyFrom_44 (fun u5 eu5 => ?_)
    have h := h u5 eu5
    refine j_aload_n C 1 dX8_copyFrom_47 rfl ?_
    refine j_get C 64 5 (ly_X8 C.2.2.2.2.2.2.2.1.1) q_73 rfl rfl (by decide) rfl rfl (by decide) rfl dX8_copyFrom_48 ?_
    refine j_iconst (v := 0) C dX8_copyFrom_51 (by decide) ?_
    refine j_aload_n C 0 dX8_copyFrom_52 rfl ?_
    refine j_get C 13 5 (ly_X8 C.2.2.2.2.2.2.2.1.1) q_73 rfl rfl (by decide) rfl rfl (by decide) rfl dX8_copyFrom_53 ?_
    refine j_iconst (v := 0) C dX8_copyFrom_56 (by decide) ?_
    refine j_bipush (v := 10) C dX8_copyFrom_57 (by decide) ?_
    refine j_copy (N0 := 10) (N1 := 10) C 10 66 15 q_342 q_247 q_246 q_14 (by decide) (by decide) rfl rfl (fun _ => rfl) rfl (by decide) (by decide) (by decide) (by decide) (by decide) (Nat.le_of_ble_eq_true rfl) dX8_copyFrom_59 (fun u6 eu6 => ?_)
    have h := h u6 eu6
    refine j_aload_n C 1 dX8_copyFrom_62 rfl ?_
    refine j_get C 64 6 (ly_X8 C.2.2.2.2.2.2.2.1.1) q_74 rfl rfl (by decide) rfl rfl (by decide) rfl dX8_copyFrom_63 ?_
    refine j_iconst (v := 0) C dX8_copyFrom_66 (by decide) ?_
    refine j_aload_n C 0 dX8_copyFrom_67 rfl ?_
    refine j_get C 13 6 (ly_X8 C.2.2.2.2.2.2.2.1.1) q_74 rfl rfl (by decide) rfl rfl (by decide) rfl dX8_copyFrom_68 ?_
    refine j_iconst (v := 0) C dX8_copyFrom_71 (by decide) ?_
    refine j_bipush (v := 10) C dX8_copyFrom_72 (by decide) ?_
    refine j_copy (N0 := 10) (N1 := 10) C 10 67 16 q_342 q_247 q_246 q_14 (by decide) (by decide) rfl rfl (fun _ => rfl) rfl (by decide) (by decide) (by decide) (by decide) (by decide) (Nat.le_of_ble_eq_true rfl) dX8_copyFrom_74 (fun u7 eu7 => ?_)
    have h := h u7 eu7
    refine j_aload_n C 1 dX8_copyFrom_77 rfl ?_
    refine j_get C 64 7 (ly_X8 C.2.2.2.2.2.2.2.1.1) q_75 rfl rfl (by decide) rfl rfl (by decide) rfl dX8_copyFrom_78 ?_
    refine j_iconst (v := 0) C dX8_copyFrom_81 (by decide) ?_
    refine j_aload_n C 0 dX8_copyFrom_82 rfl ?_
    refine j_get C 13 7 (ly_X8 C.2.2.2.2.2.2.2.1.1) q_75 rfl rfl (by decide) rfl rfl (by decide) rfl dX8_copyFrom_83 ?_
    refine j_iconst (v := 0) C dX8_copyFrom_86 (by decide) ?_
    refine j_bipush (v := 10) C dX8_copyFrom_87 (by decide) ?_
    refine j_copy (N0 := 10) (N1 := 10) C 10 68 17 q_342 q_247 q_246 q_14 (by decide) (by decide) rfl rfl (fun _ => rfl) rfl (by decide) (by decide) (by decide) (by decide) (by decide) (Nat.le_of_ble_eq_true rfl) dX8_copyFrom_89 (fun u8 eu8 => ?_)
    have h := h u8 eu8
    refine j_aload_n C 1 dX8_copyFrom_92 rfl ?_
    refine j_get C 64 8 (ly_X8 C.2.2.2.2.2.2.2.1.1) q_76 rfl rfl (by decide) rfl rfl (by decide) rfl dX8_copyFrom_93 ?_
    refine j_iconst (v := 0) C dX8_copyFrom_96 (by decide) ?_
    refine j_aload_n C 0 dX8_copyFrom_97 rfl ?_
    refine j_get C 13 8 (ly_X8 C.2.2.2.2.2.2.2.1.1) q_76 rfl rfl (by decide) rfl rfl (by decide) rfl dX8_copyFrom_98 ?_
    refine j_iconst (v := 0) C dX8_copyFrom_101 (by decide) ?_
    refine j_bipush (v := 100) C dX8_copyFrom_102 (by decide) ?_
    refine j_copy (N0 := 100) (N1 := 100) C 100 69 18 q_342 q_247 q_246 q_14 (by decide) (by decide) rfl rfl (fun _ => rfl) rfl (by decide) (by decide) (by decide) (by decide) (by decide) (Nat.le_of_ble_eq_true rfl) dX8_copyFrom_104 (fun u9 eu9 => ?_)
    have h := h u9 eu9
    refine j_aload_n C 1 dX8_copyFrom_107 rfl ?_
    refine j_get C 64 9 (ly_X8 C.2.2.2.2.2.2.2.1.1) q_77 rfl rfl (by decide) rfl rfl (by decide) rfl dX8_copyFrom_108 ?_
    refine j_iconst (v := 0) C dX8_copyFrom_111 (by decide) ?_
    refine j_aload_n C 0 dX8_copyFrom_112 rfl ?_
    refine j_get C 13 9 (ly_X8 C.2.2.2.2.2.2.2.1.1) q_77 rfl rfl (by decide) rfl rfl (by decide) rfl dX8_copyFrom_113 ?_
    refine j_iconst (v := 0) C dX8_copyFrom_116 (by decide) ?_
    refine j_bipush (v := 100) C dX8_copyFrom_117 (by decide) ?_
    refine j_copy (N0 := 100) (N1 := 100) C 100 70 19 q_342 q_247 q_246 q_14 (by decide) (by decide) rfl rfl (fun _ => rfl) rfl (by decide) (by decide) (by decide) (by decide) (by decide) (Nat.le_of_ble_eq_true rfl) dX8_copyFrom_119 (fun u10 eu10 => ?_)
    have h := h u10 eu10
    refine j_aload_n C 1 dX8_copyFrom_122 rfl ?_
    refine j_get C 64 10 (ly_X8 C.2.2.2.2.2.2.2.1.1) q_78 rfl rfl (by decide) rfl rfl (by decide) rfl dX8_copyFrom_123 ?_
    refine j_iconst (v := 0) C dX8_copyFrom_126 (by decide) ?_
    refine j_aload_n C 0 dX8_copyFrom_127 rfl ?_
    refine j_get C 13 10 (ly_X8 C.2.2.2.2.2.2.2.1.1) q_78 rfl rfl (by decide) rfl rfl (by decide) rfl dX8_copyFrom_128 ?_
    refine j_iconst (v := 0) C dX8_copyFrom_131 (by decide) ?_
    refine j_bipush (v := 100) C dX8_copyFrom_132 (by decide) ?_
    refine j_copy (N0 := 100) (N1 := 100) C 100 71 20 q_342 q_247 q_246 q_14 (by decide) (by decide) rfl rfl (fun _ => rfl) rfl (by decide) (by decide) (by decide) (by decide) (by decide) (Nat.le_of_ble_eq_true rfl) dX8_copyFrom_134 (fun u11 eu11 => ?_)
    have h := h u11 eu11
    exact j_vret C dX8_copyFrom_137 h
set_option maxRecDepth 100000 in
set_option maxHeartbeats 4000000 in
theorem kX_X8_copyFrom_39_13 (l : Launch) (D : va_G) (cI cZ : ClassId) (ad q : Nat → Nat) (N : Nat) {u : MM} {K : MM → Prop} (h : wX8_copyFrom N 39 13 u K) : CT l D cI cZ ad 72 q (entC q cI cZ) yX8_copyFrom cX8_copyFrom 2 none (rr 1 60) [.ref (q 39), .ref (q 13)] u (QV D 72 q (entC q cI cZ) K) := by
    refine ct_of (by decide +kernel) (Nat.le_of_ble_eq_true rfl) (fun p e s m args below meth c C => ?_)
    refine j_sub (lv' := [(0, .ref (q 39)), (1, .ref (q 13))]) [0, 1] rfl ?_
    refine j_aload_n C 0 dX8_copyFrom_0 rfl ?_
    refine j_aload_n C 1 dX8_copyFrom_1 rfl ?_
    refine j_get C 13 0 (ly_X8 C.2.2.2.2.2.2.2.1.1) q_62 rfl rfl (by decide) rfl rfl (by decide) rfl dX8_copyFrom_2 ?_
    refine j_put C 39 0 (ly_X8 C.2.2.2.2.2.2.2.1.1) q_62 rfl rfl (by decide) rfl rfl (by decide) tyX8_ok nmX8 rfl rfl ⟨rfl, rfl⟩ (Nat.le_of_ble_eq_true rfl) rfl dX8_copyFrom_5 ?_
    refine j_nmu (fun u1 eu1 => ?_)
    have h := h u1 eu1
    refine j_aload_n C 0 dX8_copyFrom_8 rfl ?_
    refine j_aload_n C 1 dX8_copyFrom_9 rfl ?_
    refine j_get C 13 1 (ly_X8 C.2.2.2.2.2.2.2.1.1) q_66 rfl rfl (by decide) rfl rfl (by decide) rfl dX8_copyFrom_10 ?_
    refine j_put C 39 1 (ly_X8 C.2.2.2.2.2.2.2.1.1) q_66 rfl rfl (by decide) rfl rfl (by decide) tyX8_ok nmX8 rfl rfl ⟨rfl, rfl⟩ (Nat.le_of_ble_eq_true rfl) rfl dX8_copyFrom_13 ?_
    refine j_nmu (fun u2 eu2 => ?_)
    have h := h u2 eu2
    refine j_aload_n C 0 dX8_copyFrom_16 rfl ?_
    refine j_aload_n C 1 dX8_copyFrom_17 rfl ?_
    refine j_get C 13 2 (ly_X8 C.2.2.2.2.2.2.2.1.1) q_70 rfl rfl (by decide) rfl rfl (by decide) rfl dX8_copyFrom_18 ?_
    refine j_put C 39 2 (ly_X8 C.2.2.2.2.2.2.2.1.1) q_70 rfl rfl (by decide) rfl rfl (by decide) tyX8_ok nmX8 rfl rfl ⟨rfl, rfl⟩ (Nat.le_of_ble_eq_true rfl) rfl dX8_copyFrom_21 ?_
    refine j_nmu (fun u3 eu3 => ?_)
    have h := h u3 eu3
    refine j_aload_n C 0 dX8_copyFrom_24 rfl ?_
    refine j_aload_n C 1 dX8_copyFrom_25 rfl ?_
    refine j_get C 13 3 (ly_X8 C.2.2.2.2.2.2.2.1.1) q_71 rfl rfl (by decide) rfl rfl (by decide) rfl dX8_copyFrom_26 ?_
    refine j_put C 39 3 (ly_X8 C.2.2.2.2.2.2.2.1.1) q_71 rfl rfl (by decide) rfl rfl (by decide) tyX8_ok nmX8 rfl rfl ⟨rfl, rfl⟩ (Nat.le_of_ble_eq_true rfl) rfl dX8_copyFrom_29 ?_
    refine j_nmu (fun u4 eu4 => ?_)
    have h := h u4 eu4
    refine j_aload_n C 1 dX8_copyFrom_32 rfl ?_
    refine j_get C 13 4 (ly_X8 C.2.2.2.2.2.2.2.1.1) q_72 rfl rfl (by decide) rfl rfl (by decide) rfl dX8_copyFrom_33 ?_
    refine j_iconst (v := 0) C dX8_copyFrom_36 (by decide) ?_
    refine j_aload_n C 0 dX8_copyFrom_37 rfl ?_
    refine j_get C 39 4 (ly_X8 C.2.2.2.2.2.2.2.1.1) q_72 rfl rfl (by decide) rfl rfl (by decide) rfl dX8_copyFrom_38 ?_
    refine j_iconst (v := 0) C dX8_copyFrom_41 (by decide) ?_
    refine j_bipush (v := 10) C dX8_copyFrom_42 (by decide) ?_
    refine j_copy (N0 := 10) (N1 := 10) C 10 14 40 q_342 q_247 q_246 q_14 (by decide) (by decide) rfl rfl (fun _ => rfl) rfl (by decide) (by decide) (by decide) (by decide) (by decide) (Nat.le_of_ble_eq_true rfl) dX8_copyFrom_44 (fun u5 eu5 => ?_)
    have h := h u5 eu5
    refine j_aload_n C 1 dX8_copyFrom_47 rfl ?_
    refine j_get C 13 5 (ly_X8 C.2.2.2.2.2.2.2.1.1) q_73 rfl rfl (by decide) rfl rfl (by decide) rfl dX8_copyFrom_48 ?_
    refine j_iconst (v := 0) C dX8_copyFrom_51 (by decide) ?_
    refine j_aload_n C 0 dX8_copyFrom_52 rfl ?_
    refine j_get C 39 5 (ly_X8 C.2.2.2.2.2.2.2.1.1) q_73 rfl rfl (by decide) rfl rfl (by decide) rfl dX8_copyFrom_53 ?_
    refine j_iconst (v := 0) C dX8_copyFrom_56 (by decide) ?_
    refine j_bipush (v := 10) C dX8_copyFrom_57 (by decide) ?_
    refine j_copy (N0 := 10) (N1 := 10) C 10 15 41 q_342 q_247 q_246 q_14 (by decide) (by decide) rfl rfl (fun _ => rfl) rfl (by decide) (by decide) (by decide) (by decide) (by decide) (Nat.le_of_ble_eq_true rfl) dX8_copyFrom_59 (fun u6 eu6 => ?_)
    have h := h u6 eu6
    refine j_aload_n C 1 dX8_copyFrom_62 rfl ?_
    refine j_get C 13 6 (ly_X8 C.2.2.2.2.2.2.2.1.1) q_74 rfl rfl (by decide) rfl rfl (by decide) rfl dX8_copyFrom_63 ?_
    refine j_iconst (v := 0) C dX8_copyFrom_66 (by decide) ?_
    refine j_aload_n C 0 dX8_copyFrom_67 rfl ?_
    refine j_get C 39 6 (ly_X8 C.2.2.2.2.2.2.2.1.1) q_74 rfl rfl (by decide) rfl rfl (by decide) rfl dX8_copyFrom_68 ?_
    refine j_iconst (v := 0) C dX8_copyFrom_71 (by decide) ?_
    refine j_bipush (v := 10) C dX8_copyFrom_72 (by decide) ?_
    refine j_copy (N0 := 10) (N1 := 10) C 10 16 42 q_342 q_247 q_246 q_14 (by decide) (by decide) rfl rfl (fun _ => rfl) rfl (by decide) (by decide) (by decide) (by decide) (by decide) (Nat.le_of_ble_eq_true rfl) dX8_copyFrom_74 (fun u7 eu7 => ?_)
    have h := h u7 eu7
    refine j_aload_n C 1 dX8_copyFrom_77 rfl ?_
    refine j_get C 13 7 (ly_X8 C.2.2.2.2.2.2.2.1.1) q_75 rfl rfl (by decide) rfl rfl (by decide) rfl dX8_copyFrom_78 ?_
    refine j_iconst (v := 0) C dX8_copyFrom_81 (by decide) ?_
    refine j_aload_n C 0 dX8_copyFrom_82 rfl ?_
    refine j_get C 39 7 (ly_X8 C.2.2.2.2.2.2.2.1.1) q_75 rfl rfl (by decide) rfl rfl (by decide) rfl dX8_copyFrom_83 ?_
    refine j_iconst (v := 0) C dX8_copyFrom_86 (by decide) ?_
    refine j_bipush (v := 10) C dX8_copyFrom_87 (by decide) ?_
    refine j_copy (N0 := 10) (N1 := 10) C 10 17 43 q_342 q_247 q_246 q_14 (by decide) (by decide) rfl rfl (fun _ => rfl) rfl (by decide) (by decide) (by decide) (by decide) (by decide) (Nat.le_of_ble_eq_true rfl) dX8_copyFrom_89 (fun u8 eu8 => ?_)
    have h := h u8 eu8
    refine j_aload_n C 1 dX8_copyFrom_92 rfl ?_
    refine j_get C 13 8 (ly_X8 C.2.2.2.2.2.2.2.1.1) q_76 rfl rfl (by decide) rfl rfl (by decide) rfl dX8_copyFrom_93 ?_
    refine j_iconst (v := 0) C dX8_copyFrom_96 (by decide) ?_
    refine j_aload_n C 0 dX8_copyFrom_97 rfl ?_
    refine j_get C 39 8 (ly_X8 C.2.2.2.2.2.2.2.1.1) q_76 rfl rfl (by decide) rfl rfl (by decide) rfl dX8_copyFrom_98 ?_
    refine j_iconst (v := 0) C dX8_copyFrom_101 (by decide) ?_
    refine j_bipush (v := 100) C dX8_copyFrom_102 (by decide) ?_
    refine j_copy (N0 := 100) (N1 := 100) C 100 18 44 q_342 q_247 q_246 q_14 (by decide) (by decide) rfl rfl (fun _ => rfl) rfl (by decide) (by decide) (by decide) (by decide) (by decide) (Nat.le_of_ble_eq_true rfl) dX8_copyFrom_104 (fun u9 eu9 => ?_)
    have h := h u9 eu9
    refine j_aload_n C 1 dX8_copyFrom_107 rfl ?_
    refine j_get C 13 9 (ly_X8 C.2.2.2.2.2.2.2.1.1) q_77 rfl rfl (by decide) rfl rfl (by decide) rfl dX8_copyFrom_108 ?_
    refine j_iconst (v := 0) C dX8_copyFrom_111 (by decide) ?_
    refine j_aload_n C 0 dX8_copyFrom_112 rfl ?_
    refine j_get C 39 9 (ly_X8 C.2.2.2.2.2.2.2.1.1) q_77 rfl rfl (by decide) rfl rfl (by decide) rfl dX8_copyFrom_113 ?_
    refine j_iconst (v := 0) C dX8_copyFrom_116 (by decide) ?_
    refine j_bipush (v := 100) C dX8_copyFrom_117 (by decide) ?_
    refine j_copy (N0 := 100) (N1 := 100) C 100 19 45 q_342 q_247 q_246 q_14 (by decide) (by decide) rfl rfl (fun _ => rfl) rfl (by decide) (by decide) (by decide) (by decide) (by decide) (Nat.le_of_ble_eq_true rfl) dX8_copyFrom_119 (fun u10 eu10 => ?_)
    have h := h u10 eu10
    refine j_aload_n C 1 dX8_copyFrom_122 rfl ?_
    refine j_get C 13 10 (ly_X8 C.2.2.2.2.2.2.2.1.1) q_78 rfl rfl (by decide) rfl rfl (by decide) rfl dX8_copyFrom_123 ?_
    refine j_iconst (v := 0) C dX8_copyFrom_126 (by decide) ?_
    refine j_aload_n C 0 dX8_copyFrom_127 rfl ?_
    refine j_get C 39 10 (ly_X8 C.2.2.2.2.2.2.2.1.1) q_78 rfl rfl (by decide) rfl rfl (by decide) rfl dX8_copyFrom_128 ?_
    refine j_iconst (v := 0) C dX8_copyFrom_131 (by decide) ?_
    refine j_bipush (v := 100) C dX8_copyFrom_132 (by decide) ?_
    refine j_copy (N0 := 100) (N1 := 100) C 100 20 46 q_342 q_247 q_246 q_14 (by decide) (by decide) rfl rfl (fun _ => rfl) rfl (by decide) (by decide) (by decide) (by decide) (by decide) (Nat.le_of_ble_eq_true rfl) dX8_copyFrom_134 (fun u11 eu11 => ?_)
    have h := h u11 eu11
    exact j_vret C dX8_copyFrom_137 h
set_option maxRecDepth 100000 in
set_option maxHeartbeats 4000000 in
theorem kX_X8_copyFrom_13_39 (l : Launch) (D : va_G) (cI cZ : ClassId) (ad q : Nat → Nat) (N : Nat) {u : MM} {K : MM → Prop} (h : wX8_copyFrom N 13 39 u K) : CT l D cI cZ ad 72 q (entC q cI cZ) yX8_copyFrom cX8_copyFrom 2 none (rr 1 60) [.ref (q 13), .ref (q 39)] u (QV D 72 q (entC q cI cZ) K) := by
    refine ct_of (by decide +kernel) (Nat.le_of_ble_eq_true rfl) (fun p e s m args below meth c C => ?_)
    refine j_sub (lv' := [(0, .ref (q 13)), (1, .ref (q 39))]) [0, 1] rfl ?_
    refine j_aload_n C 0 dX8_copyFrom_0 rfl ?_
    refine j_aload_n C 1 dX8_copyFrom_1 rfl ?_
    refine j_get C 39 0 (ly_X8 C.2.2.2.2.2.2.2.1.1) q_62 rfl rfl (by decide) rfl rfl (by decide) rfl dX8_copyFrom_2 ?_
    refine j_put C 13 0 (ly_X8 C.2.2.2.2.2.2.2.1.1) q_62 rfl rfl (by decide) rfl rfl (by decide) tyX8_ok nmX8 rfl rfl ⟨rfl, rfl⟩ (Nat.le_of_ble_eq_true rfl) rfl dX8_copyFrom_5 ?_
    refine j_nmu (fun u1 eu1 => ?_)
    have h := h u1 eu1
    refine j_aload_n C 0 dX8_copyFrom_8 rfl ?_
    refine j_aload_n C 1 dX8_copyFrom_9 rfl ?_
    refine j_get C 39 1 (ly_X8 C.2.2.2.2.2.2.2.1.1) q_66 rfl rfl (by decide) rfl rfl (by decide) rfl dX8_copyFrom_10 ?_
    refine j_put C 13 1 (ly_X8 C.2.2.2.2.2.2.2.1.1) q_66 rfl rfl (by decide) rfl rfl (by decide) tyX8_ok nmX8 rfl rfl ⟨rfl, rfl⟩ (Nat.le_of_ble_eq_true rfl) rfl dX8_copyFrom_13 ?_
    refine j_nmu (fun u2 eu2 => ?_)
    have h := h u2 eu2
    refine j_aload_n C 0 dX8_copyFrom_16 rfl ?_
    refine j_aload_n C 1 dX8_copyFrom_17 rfl ?_
    refine j_get C 39 2 (ly_X8 C.2.2.2.2.2.2.2.1.1) q_70 rfl rfl (by decide) rfl rfl (by decide) rfl dX8_copyFrom_18 ?_
    refine j_put C 13 2 (ly_X8 C.2.2.2.2.2.2.2.1.1) q_70 rfl rfl (by decide) rfl rfl (by decide) tyX8_ok nmX8 rfl rfl ⟨rfl, rfl⟩ (Nat.le_of_ble_eq_true rfl) rfl dX8_copyFrom_21 ?_
    refine j_nmu (fun u3 eu3 => ?_)
    have h := h u3 eu3
    refine j_aload_n C 0 dX8_copyFrom_24 rfl ?_
    refine j_aload_n C 1 dX8_copyFrom_25 rfl ?_
    refine j_get C 39 3 (ly_X8 C.2.2.2.2.2.2.2.1.1) q_71 rfl rfl (by decide) rfl rfl (by decide) rfl dX8_copyFrom_26 ?_
    refine j_put C 13 3 (ly_X8 C.2.2.2.2.2.2.2.1.1) q_71 rfl rfl (by decide) rfl rfl (by decide) tyX8_ok nmX8 rfl rfl ⟨rfl, rfl⟩ (Nat.le_of_ble_eq_true rfl) rfl dX8_copyFrom_29 ?_
    refine j_nmu (fun u4 eu4 => ?_)
    have h := h u4 eu4
    refine j_aload_n C 1 dX8_copyFrom_32 rfl ?_
    refine j_get C 39 4 (ly_X8 C.2.2.2.2.2.2.2.1.1) q_72 rfl rfl (by decide) rfl rfl (by decide) rfl dX8_copyFrom_33 ?_
    refine j_iconst (v := 0) C dX8_copyFrom_36 (by decide) ?_
    refine j_aload_n C 0 dX8_copyFrom_37 rfl ?_
    refine j_get C 13 4 (ly_X8 C.2.2.2.2.2.2.2.1.1) q_72 rfl rfl (by decide) rfl rfl (by decide) rfl dX8_copyFrom_38 ?_
    refine j_iconst (v := 0) C dX8_copyFrom_41 (by decide) ?_
    refine j_bipush (v := 10) C dX8_copyFrom_42 (by decide) ?_
    refine j_copy (N0 := 10) (N1 := 10) C 10 40 14 q_342 q_247 q_246 q_14 (by decide) (by decide) rfl rfl (fun _ => rfl) rfl (by decide) (by decide) (by decide) (by decide) (by decide) (Nat.le_of_ble_eq_true rfl) dX8_copyFrom_44 (fun u5 eu5 => ?_)
    have h := h u5 eu5
    refine j_aload_n C 1 dX8_copyFrom_47 rfl ?_
    refine j_get C 39 5 (ly_X8 C.2.2.2.2.2.2.2.1.1) q_73 rfl rfl (by decide) rfl rfl (by decide) rfl dX8_copyFrom_48 ?_
    refine j_iconst (v := 0) C dX8_copyFrom_51 (by decide) ?_
    refine j_aload_n C 0 dX8_copyFrom_52 rfl ?_
    refine j_get C 13 5 (ly_X8 C.2.2.2.2.2.2.2.1.1) q_73 rfl rfl (by decide) rfl rfl (by decide) rfl dX8_copyFrom_53 ?_
    refine j_iconst (v := 0) C dX8_copyFrom_56 (by decide) ?_
    refine j_bipush (v := 10) C dX8_copyFrom_57 (by decide) ?_
    refine j_copy (N0 := 10) (N1 := 10) C 10 41 15 q_342 q_247 q_246 q_14 (by decide) (by decide) rfl rfl (fun _ => rfl) rfl (by decide) (by decide) (by decide) (by decide) (by decide) (Nat.le_of_ble_eq_true rfl) dX8_copyFrom_59 (fun u6 eu6 => ?_)
    have h := h u6 eu6
    refine j_aload_n C 1 dX8_copyFrom_62 rfl ?_
    refine j_get C 39 6 (ly_X8 C.2.2.2.2.2.2.2.1.1) q_74 rfl rfl (by decide) rfl rfl (by decide) rfl dX8_copyFrom_63 ?_
    refine j_iconst (v := 0) C dX8_copyFrom_66 (by decide) ?_
    refine j_aload_n C 0 dX8_copyFrom_67 rfl ?_
    refine j_get C 13 6 (ly_X8 C.2.2.2.2.2.2.2.1.1) q_74 rfl rfl (by decide) rfl rfl (by decide) rfl dX8_copyFrom_68 ?_
    refine j_iconst (v := 0) C dX8_copyFrom_71 (by decide) ?_
    refine j_bipush (v := 10) C dX8_copyFrom_72 (by decide) ?_
    refine j_copy (N0 := 10) (N1 := 10) C 10 42 16 q_342 q_247 q_246 q_14 (by decide) (by decide) rfl rfl (fun _ => rfl) rfl (by decide) (by decide) (by decide) (by decide) (by decide) (Nat.le_of_ble_eq_true rfl) dX8_copyFrom_74 (fun u7 eu7 => ?_)
    have h := h u7 eu7
    refine j_aload_n C 1 dX8_copyFrom_77 rfl ?_
    refine j_get C 39 7 (ly_X8 C.2.2.2.2.2.2.2.1.1) q_75 rfl rfl (by decide) rfl rfl (by decide) rfl dX8_copyFrom_78 ?_
    refine j_iconst (v := 0) C dX8_copyFrom_81 (by decide) ?_
    refine j_aload_n C 0 dX8_copyFrom_82 rfl ?_
    refine j_get C 13 7 (ly_X8 C.2.2.2.2.2.2.2.1.1) q_75 rfl rfl (by decide) rfl rfl (by decide) rfl dX8_copyFrom_83 ?_
    refine j_iconst (v := 0) C dX8_copyFrom_86 (by decide) ?_
    refine j_bipush (v := 10) C dX8_copyFrom_87 (by decide) ?_
    refine j_copy (N0 := 10) (N1 := 10) C 10 43 17 q_342 q_247 q_246 q_14 (by decide) (by decide) rfl rfl (fun _ => rfl) rfl (by decide) (by decide) (by decide) (by decide) (by decide) (Nat.le_of_ble_eq_true rfl) dX8_copyFrom_89 (fun u8 eu8 => ?_)
    have h := h u8 eu8
    refine j_aload_n C 1 dX8_copyFrom_92 rfl ?_
    refine j_get C 39 8 (ly_X8 C.2.2.2.2.2.2.2.1.1) q_76 rfl rfl (by decide) rfl rfl (by decide) rfl dX8_copyFrom_93 ?_
    refine j_iconst (v := 0) C dX8_copyFrom_96 (by decide) ?_
    refine j_aload_n C 0 dX8_copyFrom_97 rfl ?_
    refine j_get C 13 8 (ly_X8 C.2.2.2.2.2.2.2.1.1) q_76 rfl rfl (by decide) rfl rfl (by decide) rfl dX8_copyFrom_98 ?_
    refine j_iconst (v := 0) C dX8_copyFrom_101 (by decide) ?_
    refine j_bipush (v := 100) C dX8_copyFrom_102 (by decide) ?_
    refine j_copy (N0 := 100) (N1 := 100) C 100 44 18 q_342 q_247 q_246 q_14 (by decide) (by decide) rfl rfl (fun _ => rfl) rfl (by decide) (by decide) (by decide) (by decide) (by decide) (Nat.le_of_ble_eq_true rfl) dX8_copyFrom_104 (fun u9 eu9 => ?_)
    have h := h u9 eu9
    refine j_aload_n C 1 dX8_copyFrom_107 rfl ?_
    refine j_get C 39 9 (ly_X8 C.2.2.2.2.2.2.2.1.1) q_77 rfl rfl (by decide) rfl rfl (by decide) rfl dX8_copyFrom_108 ?_
    refine j_iconst (v := 0) C dX8_copyFrom_111 (by decide) ?_
    refine j_aload_n C 0 dX8_copyFrom_112 rfl ?_
    refine j_get C 13 9 (ly_X8 C.2.2.2.2.2.2.2.1.1) q_77 rfl rfl (by decide) rfl rfl (by decide) rfl dX8_copyFrom_113 ?_
    refine j_iconst (v := 0) C dX8_copyFrom_116 (by decide) ?_
    refine j_bipush (v := 100) C dX8_copyFrom_117 (by decide) ?_
    refine j_copy (N0 := 100) (N1 := 100) C 100 45 19 q_342 q_247 q_246 q_14 (by decide) (by decide) rfl rfl (fun _ => rfl) rfl (by decide) (by decide) (by decide) (by decide) (by decide) (Nat.le_of_ble_eq_true rfl) dX8_copyFrom_119 (fun u10 eu10 => ?_)
    have h := h u10 eu10
    refine j_aload_n C 1 dX8_copyFrom_122 rfl ?_
    refine j_get C 39 10 (ly_X8 C.2.2.2.2.2.2.2.1.1) q_78 rfl rfl (by decide) rfl rfl (by decide) rfl dX8_copyFrom_123 ?_
    refine j_iconst (v := 0) C dX8_copyFrom_126 (by decide) ?_
    refine j_aload_n C 0 dX8_copyFrom_127 rfl ?_
    refine j_get C 13 10 (ly_X8 C.2.2.2.2.2.2.2.1.1) q_78 rfl rfl (by decide) rfl rfl (by decide) rfl dX8_copyFrom_128 ?_
    refine j_iconst (v := 0) C dX8_copyFrom_131 (by decide) ?_
    refine j_bipush (v := 100) C dX8_copyFrom_132 (by decide) ?_
    refine j_copy (N0 := 100) (N1 := 100) C 100 46 20 q_342 q_247 q_246 q_14 (by decide) (by decide) rfl rfl (fun _ => rfl) rfl (by decide) (by decide) (by decide) (by decide) (by decide) (Nat.le_of_ble_eq_true rfl) dX8_copyFrom_134 (fun u11 eu11 => ?_)
    have h := h u11 eu11
    exact j_vret C dX8_copyFrom_137 h

def wX5_copyFrom (N : Nat) (t : Nat) (o : Nat) (u : MM) (K : MM → Prop) : Prop := (wX6_copyFrom N (t + 1) (o + 1) u (fun u2 => (wX8_copyFrom N (t + 3) (o + 3) u2 (fun u4 => (∀ u5 : MM, u5 = up u4 t 2 (u4 o 2) → (wX2_copyFrom N (t + 11) (o + 11) u5 (fun u7 => (wX9_copyFrom N (t + 17) (o + 17) u7 (fun u9 => (wX4_copyFrom N (t + 20) (o + 20) u9 (fun u11 => (wX4_copyFrom8 N (t + 23) (o + 23) u11 (fun u13 => (K u13))))))))))))))
set_option maxRecDepth 100000 in
set_option maxHeartbeats 4000000 in
theorem kX_X5_copyFrom_36_10 (l : Launch) (D : va_G) (cI cZ : ClassId) (ad q : Nat → Nat) (N : Nat) {u : MM} {K : MM → Prop} (h : wX5_copyFrom N 36 10 u K) : CT l D cI cZ ad 72 q (entC q cI cZ) yX5_copyFrom cX5_copyFrom 2 none (rr 2 81) [.ref (q 36), .ref (q 10)] u (QV D 72 q (entC q cI cZ) K) := by
    refine ct_of (by decide +kernel) (Nat.le_of_ble_eq_true rfl) (fun p e s m args below meth c C => ?_)
    refine j_sub (lv' := [(0, .ref (q 36)), (1, .ref (q 10))]) [0, 1] rfl ?_
    refine j_aload_n C 0 dX5_copyFrom_0 rfl ?_
    refine j_get C 36 0 (ly_X5 C.2.2.2.2.2.2.2.1.1) q_146 rfl rfl (by decide) rfl rfl (by decide) rfl dX5_copyFrom_1 ?_
    refine j_aload_n C 1 dX5_copyFrom_4 rfl ?_
    refine j_get C 10 0 (ly_X5 C.2.2.2.2.2.2.2.1.1) q_146 rfl rfl (by decide) rfl rfl (by decide) rfl dX5_copyFrom_5 ?_
    refine j_wv C (fun H locs ls hP hD hS hl => run_VN (Cn := "") (As := [.ref (q 11)]) (st := []) C mf_X6_copyFrom 37 (kX_X6_copyFrom_37_11 l D cI cZ ad q N h) q_611 (by decide) rfl rfl rfl rfl ⟨rfl, rfl, by decide, by decide⟩ (Nat.le_of_ble_eq_true rfl) dX5_copyFrom_8 hP hD hS hl) (fun u2 h => ?_)
    refine j_aload_n C 0 dX5_copyFrom_11 rfl ?_
    refine j_get C 36 1 (ly_X5 C.2.2.2.2.2.2.2.1.1) q_148 rfl rfl (by decide) rfl rfl (by decide) rfl dX5_copyFrom_12 ?_
    refine j_aload_n C 1 dX5_copyFrom_15 rfl ?_
    refine j_get C 10 1 (ly_X5 C.2.2.2.2.2.2.2.1.1) q_148 rfl rfl (by decide) rfl rfl (by decide) rfl dX5_copyFrom_16 ?_
    refine j_wv C (fun H locs ls hP hD hS hl => run_VN (Cn := "") (As := [.ref (q 13)]) (st := []) C mf_X8_copyFrom 39 (kX_X8_copyFrom_39_13 l D cI cZ ad q N h) q_612 (by decide) rfl rfl rfl rfl ⟨rfl, rfl, by decide, by decide⟩ (Nat.le_of_ble_eq_true rfl) dX5_copyFrom_19 hP hD hS hl) (fun u4 h => ?_)
    refine j_aload_n C 0 dX5_copyFrom_22 rfl ?_
    refine j_aload_n C 1 dX5_copyFrom_23 rfl ?_
    refine j_get C 10 2 (ly_X5 C.2.2.2.2.2.2.2.1.1) q_151 rfl rfl (by decide) rfl rfl (by decide) rfl dX5_copyFrom_24 ?_
    refine j_put C 36 2 (ly_X5 C.2.2.2.2.2.2.2.1.1) q_151 rfl rfl (by decide) rfl rfl (by decide) tyX5_ok nmX5 rfl rfl ⟨rfl, rfl⟩ (Nat.le_of_ble_eq_true rfl) rfl dX5_copyFrom_27 ?_
    refine j_nmu (fun u5 eu5 => ?_)
    have h := h u5 eu5
    refine j_aload_n C 0 dX5_copyFrom_30 rfl ?_
    refine j_get C 36 3 (ly_X5 C.2.2.2.2.2.2.2.1.1) q_153 rfl rfl (by decide) rfl rfl (by decide) rfl dX5_copyFrom_31 ?_
    refine j_aload_n C 1 dX5_copyFrom_34 rfl ?_
    refine j_get C 10 3 (ly_X5 C.2.2.2.2.2.2.2.1.1) q_153 rfl rfl (by decide) rfl rfl (by decide) rfl dX5_copyFrom_35 ?_
    refine j_wv C (fun H locs ls hP hD hS hl => run_VN (Cn := "") (As := [.ref (q 21)]) (st := []) C mf_X2_copyFrom 47 (kX_X2_copyFrom_47_21 l D cI cZ ad q N h) q_613 (by decide) rfl rfl rfl rfl ⟨rfl, rfl, by decide, by decide⟩ (Nat.le_of_ble_eq_true rfl) dX5_copyFrom_38 hP hD hS hl) (fun u7 h => ?_)
    refine j_aload_n C 0 dX5_copyFrom_41 rfl ?_
    refine j_get C 36 4 (ly_X5 C.2.2.2.2.2.2.2.1.1) q_157 rfl rfl (by decide) rfl rfl (by decide) rfl dX5_copyFrom_42 ?_
    refine j_aload_n C 1 dX5_copyFrom_45 rfl ?_
    refine j_get C 10 4 (ly_X5 C.2.2.2.2.2.2.2.1.1) q_157 rfl rfl (by decide) rfl rfl (by decide) rfl dX5_copyFrom_46 ?_
    refine j_wv C (fun H locs ls hP hD hS hl => run_VN (Cn := "") (As := [.ref (q 27)]) (st := []) C mf_X9_copyFrom 53 (kX_X9_copyFrom_53_27 l D cI cZ ad q N h) q_617 (by decide) rfl rfl rfl rfl ⟨rfl, rfl, by decide, by decide⟩ (Nat.le_of_ble_eq_true rfl) dX5_copyFrom_49 hP hD hS hl) (fun u9 h => ?_)
    refine j_aload_n C 0 dX5_copyFrom_52 rfl ?_
    refine j_get C 36 5 (ly_X5 C.2.2.2.2.2.2.2.1.1) q_160 rfl rfl (by decide) rfl rfl (by decide) rfl dX5_copyFrom_53 ?_
    refine j_aload_n C 1 dX5_copyFrom_56 rfl ?_
    refine j_get C 10 5 (ly_X5 C.2.2.2.2.2.2.2.1.1) q_160 rfl rfl (by decide) rfl rfl (by decide) rfl dX5_copyFrom_57 ?_
    refine j_wv C (fun H locs ls hP hD hS hl => run_VN (Cn := "") (As := [.ref (q 30)]) (st := []) C mf_X4_copyFrom 56 (kX_X4_copyFrom_56_30 l D cI cZ ad q N h) q_618 (by decide) rfl rfl rfl rfl ⟨rfl, rfl, by decide, by decide⟩ (Nat.le_of_ble_eq_true rfl) dX5_copyFrom_60 hP hD hS hl) (fun u11 h => ?_)
    refine j_aload_n C 0 dX5_copyFrom_63 rfl ?_
    refine j_get C 36 6 (ly_X5 C.2.2.2.2.2.2.2.1.1) q_163 rfl rfl (by decide) rfl rfl (by decide) rfl dX5_copyFrom_64 ?_
    refine j_aload_n C 1 dX5_copyFrom_67 rfl ?_
    refine j_get C 10 6 (ly_X5 C.2.2.2.2.2.2.2.1.1) q_163 rfl rfl (by decide) rfl rfl (by decide) rfl dX5_copyFrom_68 ?_
    refine j_wv C (fun H locs ls hP hD hS hl => run_VN (Cn := "") (As := [.ref (q 33)]) (st := []) C mf_X4_copyFrom 59 (kX_X4_copyFrom_59_33 l D cI cZ ad q N h) q_618 (by decide) rfl rfl rfl rfl ⟨rfl, rfl, by decide, by decide⟩ (Nat.le_of_ble_eq_true rfl) dX5_copyFrom_71 hP hD hS hl) (fun u13 h => ?_)
    exact j_vret C dX5_copyFrom_74 h
set_option maxRecDepth 100000 in
set_option maxHeartbeats 4000000 in
theorem kX_X5_copyFrom_10_36 (l : Launch) (D : va_G) (cI cZ : ClassId) (ad q : Nat → Nat) (N : Nat) {u : MM} {K : MM → Prop} (h : wX5_copyFrom N 10 36 u K) : CT l D cI cZ ad 72 q (entC q cI cZ) yX5_copyFrom cX5_copyFrom 2 none (rr 2 81) [.ref (q 10), .ref (q 36)] u (QV D 72 q (entC q cI cZ) K) := by
    refine ct_of (by decide +kernel) (Nat.le_of_ble_eq_true rfl) (fun p e s m args below meth c C => ?_)
    refine j_sub (lv' := [(0, .ref (q 10)), (1, .ref (q 36))]) [0, 1] rfl ?_
    refine j_aload_n C 0 dX5_copyFrom_0 rfl ?_
    refine j_get C 10 0 (ly_X5 C.2.2.2.2.2.2.2.1.1) q_146 rfl rfl (by decide) rfl rfl (by decide) rfl dX5_copyFrom_1 ?_
    refine j_aload_n C 1 dX5_copyFrom_4 rfl ?_
    refine j_get C 36 0 (ly_X5 C.2.2.2.2.2.2.2.1.1) q_146 rfl rfl (by decide) rfl rfl (by decide) rfl dX5_copyFrom_5 ?_
    refine j_wv C (fun H locs ls hP hD hS hl => run_VN (Cn := "") (As := [.ref (q 37)]) (st := []) C mf_X6_copyFrom 11 (kX_X6_copyFrom_11_37 l D cI cZ ad q N h) q_611 (by decide) rfl rfl rfl rfl ⟨rfl, rfl, by decide, by decide⟩ (Nat.le_of_ble_eq_true rfl) dX5_copyFrom_8 hP hD hS hl) (fun u2 h => ?_)
    refine j_aload_n C 0 dX5_copyFrom_11 rfl ?_
    refine j_get C 10 1 (ly_X5 C.2.2.2.2.2.2.2.1.1) q_148 rfl rfl (by decide) rfl rfl (by decide) rfl dX5_copyFrom_12 ?_
    refine j_aload_n C 1 dX5_copyFrom_15 rfl ?_
    refine j_get C 36 1 (ly_X5 C.2.2.2.2.2.2.2.1.1) q_148 rfl rfl (by decide) rfl rfl (by decide) rfl dX5_copyFrom_16 ?_
    refine j_wv C (fun H locs ls hP hD hS hl => run_VN (Cn := "") (As := [.ref (q 39)]) (st := []) C mf_X8_copyFrom 13 (kX_X8_copyFrom_13_39 l D cI cZ ad q N h) q_612 (by decide) rfl rfl rfl rfl ⟨rfl, rfl, by decide, by decide⟩ (Nat.le_of_ble_eq_true rfl) dX5_copyFrom_19 hP hD hS hl) (fun u4 h => ?_)
    refine j_aload_n C 0 dX5_copyFrom_22 rfl ?_
    refine j_aload_n C 1 dX5_copyFrom_23 rfl ?_
    refine j_get C 36 2 (ly_X5 C.2.2.2.2.2.2.2.1.1) q_151 rfl rfl (by decide) rfl rfl (by decide) rfl dX5_copyFrom_24 ?_
    refine j_put C 10 2 (ly_X5 C.2.2.2.2.2.2.2.1.1) q_151 rfl rfl (by decide) rfl rfl (by decide) tyX5_ok nmX5 rfl rfl ⟨rfl, rfl⟩ (Nat.le_of_ble_eq_true rfl) rfl dX5_copyFrom_27 ?_
    refine j_nmu (fun u5 eu5 => ?_)
    have h := h u5 eu5
    refine j_aload_n C 0 dX5_copyFrom_30 rfl ?_
    refine j_get C 10 3 (ly_X5 C.2.2.2.2.2.2.2.1.1) q_153 rfl rfl (by decide) rfl rfl (by decide) rfl dX5_copyFrom_31 ?_
    refine j_aload_n C 1 dX5_copyFrom_34 rfl ?_
    refine j_get C 36 3 (ly_X5 C.2.2.2.2.2.2.2.1.1) q_153 rfl rfl (by decide) rfl rfl (by decide) rfl dX5_copyFrom_35 ?_
    refine j_wv C (fun H locs ls hP hD hS hl => run_VN (Cn := "") (As := [.ref (q 47)]) (st := []) C mf_X2_copyFrom 21 (kX_X2_copyFrom_21_47 l D cI cZ ad q N h) q_613 (by decide) rfl rfl rfl rfl ⟨rfl, rfl, by decide, by decide⟩ (Nat.le_of_ble_eq_true rfl) dX5_copyFrom_38 hP hD hS hl) (fun u7 h => ?_)
    refine j_aload_n C 0 dX5_copyFrom_41 rfl ?_
    refine j_get C 10 4 (ly_X5 C.2.2.2.2.2.2.2.1.1) q_157 rfl rfl (by decide) rfl rfl (by decide) rfl dX5_copyFrom_42 ?_
    refine j_aload_n C 1 dX5_copyFrom_45 rfl ?_
    refine j_get C 36 4 (ly_X5 C.2.2.2.2.2.2.2.1.1) q_157 rfl rfl (by decide) rfl rfl (by decide) rfl dX5_copyFrom_46 ?_
    refine j_wv C (fun H locs ls hP hD hS hl => run_VN (Cn := "") (As := [.ref (q 53)]) (st := []) C mf_X9_copyFrom 27 (kX_X9_copyFrom_27_53 l D cI cZ ad q N h) q_617 (by decide) rfl rfl rfl rfl ⟨rfl, rfl, by decide, by decide⟩ (Nat.le_of_ble_eq_true rfl) dX5_copyFrom_49 hP hD hS hl) (fun u9 h => ?_)
    refine j_aload_n C 0 dX5_copyFrom_52 rfl ?_
    refine j_get C 10 5 (ly_X5 C.2.2.2.2.2.2.2.1.1) q_160 rfl rfl (by decide) rfl rfl (by decide) rfl dX5_copyFrom_53 ?_
    refine j_aload_n C 1 dX5_copyFrom_56 rfl ?_
    refine j_get C 36 5 (ly_X5 C.2.2.2.2.2.2.2.1.1) q_160 rfl rfl (by decide) rfl rfl (by decide) rfl dX5_copyFrom_57 ?_
    refine j_wv C (fun H locs ls hP hD hS hl => run_VN (Cn := "") (As := [.ref (q 56)]) (st := []) C mf_X4_copyFrom 30 (kX_X4_copyFrom_30_56 l D cI cZ ad q N h) q_618 (by decide) rfl rfl rfl rfl ⟨rfl, rfl, by decide, by decide⟩ (Nat.le_of_ble_eq_true rfl) dX5_copyFrom_60 hP hD hS hl) (fun u11 h => ?_)
    refine j_aload_n C 0 dX5_copyFrom_63 rfl ?_
    refine j_get C 10 6 (ly_X5 C.2.2.2.2.2.2.2.1.1) q_163 rfl rfl (by decide) rfl rfl (by decide) rfl dX5_copyFrom_64 ?_
    refine j_aload_n C 1 dX5_copyFrom_67 rfl ?_
    refine j_get C 36 6 (ly_X5 C.2.2.2.2.2.2.2.1.1) q_163 rfl rfl (by decide) rfl rfl (by decide) rfl dX5_copyFrom_68 ?_
    refine j_wv C (fun H locs ls hP hD hS hl => run_VN (Cn := "") (As := [.ref (q 59)]) (st := []) C mf_X4_copyFrom 33 (kX_X4_copyFrom_33_59 l D cI cZ ad q N h) q_618 (by decide) rfl rfl rfl rfl ⟨rfl, rfl, by decide, by decide⟩ (Nat.le_of_ble_eq_true rfl) dX5_copyFrom_71 hP hD hS hl) (fun u13 h => ?_)
    exact j_vret C dX5_copyFrom_74 h

def wX6_add (N : Nat) (x1 : Int32) (u : MM) (K : Int32 → MM → Prop) : Prop := (((u 11 1) < 100 → (vp_in ((u 11 1)) 100 ∧ ∀ u2 : MM, u2 = up u 12 ((u 11 1).toNatClampNeg) x1 → (∀ u3 : MM, u3 = up u2 11 1 ((u2 11 1) + 1) → (K 1 u3)))) ∧ (¬ (u 11 1) < 100 → (K 0 u)))
set_option maxRecDepth 100000 in
set_option maxHeartbeats 4000000 in
theorem kX_X6_add (l : Launch) (D : va_G) (cI cZ : ClassId) (ad q : Nat → Nat) (N : Nat) {x1 : Int32} {u : MM} {K : Int32 → MM → Prop} (h : wX6_add N x1 u K) : CT l D cI cZ ad 72 q (entC q cI cZ) yX6_add cX6_add 2 (some .boolean) (rr 0 0) [.ref (q 11), .int x1] u (QI D 72 q (entC q cI cZ) K) := by
    refine ct_of (by decide +kernel) (Nat.le_of_ble_eq_true rfl) (fun p e s m args below meth c C => ?_)
    refine j_sub (lv' := [(0, .ref (q 11)), (1, .int x1)]) [0, 1] rfl ?_
    refine j_aload_n C 0 dX6_add_0 rfl ?_
    refine j_get C 11 1 (ly_X6 C.2.2.2.2.2.2.2.1.1) q_52 rfl rfl (by decide) rfl rfl (by decide) rfl dX6_add_1 ?_
    refine j_bipush (v := 100) C dX6_add_4 (by decide) ?_
    refine j_icmp_lt C 11 dX6_add_6 (by decide) (fun c1 => ?_) (fun c1 => ?_)
    · have h := h.1 c1
      refine j_aload_n C 0 dX6_add_11 rfl ?_
      refine j_get C 11 0 (ly_X6 C.2.2.2.2.2.2.2.1.1) q_51 rfl rfl (by decide) rfl rfl (by decide) rfl dX6_add_12 ?_
      refine j_aload_n C 0 dX6_add_15 rfl ?_
      refine j_get C 11 1 (ly_X6 C.2.2.2.2.2.2.2.1.1) q_52 rfl rfl (by decide) rfl rfl (by decide) rfl dX6_add_16 ?_
      refine j_iload_n C 1 dX6_add_19 rfl ?_
      obtain ⟨hin, h⟩ := h
      refine j_iastoreK (N := 100) C 12 _ rfl hin (by decide) (fun _ => rfl) rfl dX6_add_20 (fun u2 eu2 => ?_)
      have h := h u2 eu2
      refine j_aload_n C 0 dX6_add_21 rfl ?_
      refine j_dup C dX6_add_22 rfl ?_
      refine j_get C 11 1 (ly_X6 C.2.2.2.2.2.2.2.1.1) q_52 rfl rfl (by decide) rfl rfl (by decide) rfl dX6_add_23 ?_
      refine j_iconst (v := 1) C dX6_add_26 (by decide) ?_
      refine j_iadd C dX6_add_27 ?_
      refine j_put C 11 1 (ly_X6 C.2.2.2.2.2.2.2.1.1) q_52 rfl rfl (by decide) rfl rfl (by decide) tyX6_ok nmX6 rfl rfl ⟨rfl, rfl⟩ (Nat.le_of_ble_eq_true rfl) rfl dX6_add_28 ?_
      refine j_nmu (fun u3 eu3 => ?_)
      have h := h u3 eu3
      refine j_iconst (v := 1) C dX6_add_31 (by decide) ?_
      exact j_zret C dX6_add_32 rfl h
    · have h := h.2 c1
      refine j_iconst (v := 0) C dX6_add_9 (by decide) ?_
      exact j_zret C dX6_add_10 rfl h

def wX8_sumOf_b43 (N : Nat) (K : Int64 → MM → Prop) (ro15 : Int32 → Int64 → Int32 → MM → Prop) (x1 : Int32) (x2 : Int64) (x4 : Int32) (u : MM) : Prop := (∀ y5 : Int32, y5 = x4 + 1 → (ro15 x1 x2 y5 u))
def wX8_sumOf_b15 (N : Nat) (K : Int64 → MM → Prop) : Nat → Int32 → Int64 → Int32 → MM → Prop
  | 0, _, _, _, _ => False
  | n + 1, x1, x2, x4, u => ((x1 < x4 → (K x2 u)) ∧ (¬ x1 < x4 → (¬ (u 13 0) = 0 ∧ ((¬ ((x1 - x4) - (x1 - x4) / (u 13 0) * (u 13 0)) = 0 → (wX8_sumOf_b43 N K (wX8_sumOf_b15 N K n) x1 x2 x4 u)) ∧ (((x1 - x4) - (x1 - x4) / (u 13 0) * (u 13 0)) = 0 → (∀ y4 : Int64, y4 = ((Int32.toInt64 x4) + ((Int32.toInt64 x4) * x2)) → (wX8_sumOf_b43 N K (wX8_sumOf_b15 N K n) x1 y4 x4 u)))))))
def wX8_sumOf (N : Nat) (x1 : Int32) (u : MM) (K : Int64 → MM → Prop) : Prop := ((0 < (u 13 0) → (wX8_sumOf_b15 N K N x1 0 1 u)) ∧ (¬ 0 < (u 13 0) → (K (Int32.toInt64 x1) u)))
set_option maxRecDepth 100000 in
set_option maxHeartbeats 4000000 in
theorem tX8_sumOf_b43 (l : Launch) (D : va_G) (cI cZ : ClassId) (ad q : Nat → Nat) (N : Nat) {p : Program} {e : Env} {s : State} {m : MethodId} {args : Array Value} {below : List Frame} {meth : Method} {c : Code} {K : Int64 → MM → Prop} (C : CX p s m args meth c cX8_sumOf 5 RX8 (some .long) D cI cZ ad (AJ 72 q s.heap.size)) {ro15 : Int32 → Int64 → Int32 → MM → Prop} (hro15 : ∀ (x1 : Int32) (x2 : Int64) (x4 : Int32) (u : MM), ro15 x1 x2 x4 u → JX p l e (rr 0 0) s m args below meth c D (AJ 72 q s.heap.size) 5 (MQ below ((QL D 72 q (entC q cI cZ) K) (AJ 72 q s.heap.size)) args s 0 0 (AJ 72 q s.heap.size)) 72 q (entC q cI cZ) u 15 [(0, .ref (q 13)), (1, .int x1), (2, .long x2), (4, .int x4)] []) : ∀ (x1 : Int32) (x2 : Int64) (x4 : Int32) (u : MM), wX8_sumOf_b43 N K ro15 x1 x2 x4 u → JX p l e (rr 0 0) s m args below meth c D (AJ 72 q s.heap.size) 5 (MQ below ((QL D 72 q (entC q cI cZ) K) (AJ 72 q s.heap.size)) args s 0 0 (AJ 72 q s.heap.size)) 72 q (entC q cI cZ) u 43 [(0, .ref (q 13)), (1, .int x1), (2, .long x2), (4, .int x4)] [] := by
    intro x1 x2 x4 u h
    obtain ⟨y5, ey5⟩ : ∃ z : Int32, z = x4 + 1 := ⟨_, rfl⟩
    have h := h y5 ey5
    refine j_iinc (v := y5) (lv' := [(4, .int y5), (0, .ref (q 13)), (1, .int x1), (2, .long x2)]) C 3 dX8_sumOf_43 rfl (by rw [ey5]; rfl) (by decide) rfl ?_
    refine j_goto C 15 dX8_sumOf_46 (by decide) ?_
    refine j_sub (lv' := [(0, .ref (q 13)), (1, .int x1), (2, .long x2), (4, .int y5)]) [1, 2, 3, 0] rfl ?_
    exact hro15 _ _ _ _ h
set_option maxRecDepth 100000 in
set_option maxHeartbeats 4000000 in
theorem tX8_sumOf_b15 (l : Launch) (D : va_G) (cI cZ : ClassId) (ad q : Nat → Nat) (N : Nat) {p : Program} {e : Env} {s : State} {m : MethodId} {args : Array Value} {below : List Frame} {meth : Method} {c : Code} {K : Int64 → MM → Prop} (C : CX p s m args meth c cX8_sumOf 5 RX8 (some .long) D cI cZ ad (AJ 72 q s.heap.size)) : ∀ (n : Nat) (x1 : Int32) (x2 : Int64) (x4 : Int32) (u : MM), wX8_sumOf_b15 N K n x1 x2 x4 u → JX p l e (rr 0 0) s m args below meth c D (AJ 72 q s.heap.size) 5 (MQ below ((QL D 72 q (entC q cI cZ) K) (AJ 72 q s.heap.size)) args s 0 0 (AJ 72 q s.heap.size)) 72 q (entC q cI cZ) u 15 [(0, .ref (q 13)), (1, .int x1), (2, .long x2), (4, .int x4)] [] := by
  intro n
  induction n with
  | zero => intro x1 x2 x4 u h; exact h.elim
  | succ n ih =>
    intro x1 x2 x4 u h
    refine j_iload C 3 dX8_sumOf_15 rfl ?_
    refine j_iload_n C 1 dX8_sumOf_17 rfl ?_
    refine j_icmp_gt C 49 dX8_sumOf_18 (by decide) (fun c2 => ?_) (fun c2 => ?_)
    · have h := h.1 c2
      refine j_lload_n C 2 dX8_sumOf_49 rfl ?_
      exact j_lret C dX8_sumOf_50 h
    · have h := h.2 c2
      refine j_iload_n C 1 dX8_sumOf_21 rfl ?_
      refine j_iload C 3 dX8_sumOf_22 rfl ?_
      refine j_isub C dX8_sumOf_24 ?_
      refine j_aload_n C 0 dX8_sumOf_25 rfl ?_
      refine j_get C 13 0 (ly_X8 C.2.2.2.2.2.2.2.1.1) q_62 rfl rfl (by decide) rfl rfl (by decide) rfl dX8_sumOf_26 ?_
      obtain ⟨hne, h⟩ := h
      refine j_irem C dX8_sumOf_29 hne ?_
      refine j_if_ne C 43 dX8_sumOf_30 (by decide) (fun c3 => ?_) (fun c3 => ?_)
      · have h := h.1 c3
        exact tX8_sumOf_b43 l D cI cZ ad q N C ih _ _ _ _ h
      · have h := h.2 c3
        refine j_iload C 3 dX8_sumOf_33 rfl ?_
        refine j_i2l C dX8_sumOf_35 ?_
        refine j_iload C 3 dX8_sumOf_36 rfl ?_
        refine j_i2l C dX8_sumOf_38 ?_
        refine j_lload_n C 2 dX8_sumOf_39 rfl ?_
        refine j_lmul C dX8_sumOf_40 ?_
        refine j_ladd C dX8_sumOf_41 ?_
        refine j_nml (fun y4 ey4 => ?_)
        have h := h y4 ey4
        refine j_lstore_n (lv' := [(2, .long y4), (0, .ref (q 13)), (1, .int x1), (4, .int x4)]) C dX8_sumOf_42 (by decide) rfl ?_
        refine j_sub (lv' := [(0, .ref (q 13)), (1, .int x1), (2, .long y4), (4, .int x4)]) [1, 2, 0, 3] rfl ?_
        exact tX8_sumOf_b43 l D cI cZ ad q N C ih _ _ _ _ h
set_option maxRecDepth 100000 in
set_option maxHeartbeats 4000000 in
theorem kX_X8_sumOf (l : Launch) (D : va_G) (cI cZ : ClassId) (ad q : Nat → Nat) (N : Nat) {x1 : Int32} {u : MM} {K : Int64 → MM → Prop} (h : wX8_sumOf N x1 u K) : CT l D cI cZ ad 72 q (entC q cI cZ) yX8_sumOf cX8_sumOf 5 (some .long) (rr 0 0) [.ref (q 13), .int x1] u (QL D 72 q (entC q cI cZ) K) := by
    refine ct_of (by decide +kernel) (Nat.le_of_ble_eq_true rfl) (fun p e s m args below meth c C => ?_)
    refine j_sub (lv' := [(0, .ref (q 13)), (1, .int x1)]) [0, 1] rfl ?_
    refine j_aload_n C 0 dX8_sumOf_0 rfl ?_
    refine j_get C 13 0 (ly_X8 C.2.2.2.2.2.2.2.1.1) q_62 rfl rfl (by decide) rfl rfl (by decide) rfl dX8_sumOf_1 ?_
    refine j_if_gt C 10 dX8_sumOf_4 (by decide) (fun c1 => ?_) (fun c1 => ?_)
    · have h := h.1 c1
      refine j_lconst (v := 0) C dX8_sumOf_10 (by decide) ?_
      refine j_lstore_n (lv' := [(2, .long 0), (0, .ref (q 13)), (1, .int x1)]) C dX8_sumOf_11 (by decide) rfl ?_
      refine j_iconst (v := 1) C dX8_sumOf_12 (by decide) ?_
      refine j_istore (lv' := [(4, .int 1), (2, .long 0), (0, .ref (q 13)), (1, .int x1)]) C dX8_sumOf_13 (by decide) rfl ?_
      refine j_sub (lv' := [(0, .ref (q 13)), (1, .int x1), (2, .long 0), (4, .int 1)]) [2, 3, 1, 0] rfl ?_
      exact tX8_sumOf_b15 l D cI cZ ad q N C N _ _ _ _ h
    · have h := h.2 c1
      refine j_iload_n C 1 dX8_sumOf_7 rfl ?_
      refine j_i2l C dX8_sumOf_8 ?_
      exact j_lret C dX8_sumOf_9 h

def wX10_feed (N : Nat) (x1 : Int32) (u : MM) (K : Int32 → MM → Prop) : Prop := ((x1 < 0 → (K (-2) u)) ∧ (¬ x1 < 0 → ((x1 ≤ 127 → (wX6_add N x1 u (fun r3 u4 => ((r3 = 0 → (K (-4) u4)) ∧ (¬ r3 = 0 → (K (u4 11 1) u4)))))) ∧ (¬ x1 ≤ 127 → (K (-2) u)))))
set_option maxRecDepth 100000 in
set_option maxHeartbeats 4000000 in
theorem kX_X10_feed (l : Launch) (D : va_G) (cI cZ : ClassId) (ad q : Nat → Nat) (N : Nat) {x1 : Int32} {u : MM} {K : Int32 → MM → Prop} (h : wX10_feed N x1 u K) : CT l D cI cZ ad 72 q (entC q cI cZ) yX10_feed cX10_feed 2 (some .int) (rr 1 21) [.ref (q 0), .int x1] u (QI D 72 q (entC q cI cZ) K) := by
    refine ct_of (by decide +kernel) (Nat.le_of_ble_eq_true rfl) (fun p e s m args below meth c C => ?_)
    refine j_sub (lv' := [(0, .ref (q 0)), (1, .int x1)]) [0, 1] rfl ?_
    refine j_iload_n C 1 dX10_feed_0 rfl ?_
    refine j_if_lt C 10 dX10_feed_1 (by decide) (fun c1 => ?_) (fun c1 => ?_)
    · have h := h.1 c1
      refine j_bipush (v := (-2)) C dX10_feed_10 (by decide) ?_
      exact j_iret C dX10_feed_12 h
    · have h := h.2 c1
      refine j_iload_n C 1 dX10_feed_4 rfl ?_
      refine j_bipush (v := 127) C dX10_feed_5 (by decide) ?_
      refine j_icmp_le C 13 dX10_feed_7 (by decide) (fun c2 => ?_) (fun c2 => ?_)
      · have h := h.1 c2
        refine j_aload_n C 0 dX10_feed_13 rfl ?_
        refine j_get C 0 2 (ly_X10 C.2.2.2.2.2.2.2.1.1) q_223 rfl rfl (by decide) rfl rfl (by decide) rfl dX10_feed_14 ?_
        refine j_getN C 10 0 (ly_X5 C.2.2.2.2.2.2.2.1.1) q_147 rfl rfl (by decide) rfl rfl (by decide) rfl dX10_feed_17 ?_
        refine j_iload_n C 1 dX10_feed_20 rfl ?_
        refine j_wi C (fun H locs ls hP hD hS hl => run_VN (Cn := "") (As := [.int x1]) (st := []) C mf_X6_add 11 (kX_X6_add l D cI cZ ad q N h) q_232 (by decide) rfl rfl rfl rfl ⟨rfl, rfl, by decide, by decide⟩ (Nat.le_of_ble_eq_true rfl) dX10_feed_21 hP hD hS hl) (fun r3 u4 h => ?_)
        refine j_if_eq C 40 dX10_feed_24 (by decide) (fun c5 => ?_) (fun c5 => ?_)
        · have h := h.1 c5
          refine j_bipush (v := (-4)) C dX10_feed_40 (by decide) ?_
          exact j_iret C dX10_feed_42 h
        · have h := h.2 c5
          refine j_aload_n C 0 dX10_feed_27 rfl ?_
          refine j_get C 0 2 (ly_X10 C.2.2.2.2.2.2.2.1.1) q_223 rfl rfl (by decide) rfl rfl (by decide) rfl dX10_feed_28 ?_
          refine j_getN C 10 0 (ly_X5 C.2.2.2.2.2.2.2.1.1) q_147 rfl rfl (by decide) rfl rfl (by decide) rfl dX10_feed_31 ?_
          refine j_getN C 11 1 (ly_X6 C.2.2.2.2.2.2.2.1.1) q_53 rfl rfl (by decide) rfl rfl (by decide) rfl dX10_feed_34 ?_
          refine j_goto C 42 dX10_feed_37 (by decide) ?_
          exact j_iret C dX10_feed_42 h
      · have h := h.2 c2
        refine j_bipush (v := (-2)) C dX10_feed_10 (by decide) ?_
        exact j_iret C dX10_feed_12 h

def wX10_isNumber (N : Nat) (x0 : Int32) (K : Int32 → Prop) : Prop := ((x0 < 0 → (K 0)) ∧ (¬ x0 < 0 → ((9 < x0 → (K 0)) ∧ (¬ 9 < x0 → (K 1)))))
set_option maxRecDepth 100000 in
set_option maxHeartbeats 4000000 in
theorem kX_X10_isNumber (l : Launch) (D : va_G) (cI cZ : ClassId) (ad q : Nat → Nat) (N : Nat) {x0 : Int32} {K : Int32 → Prop} (h : wX10_isNumber N x0 K) : CT l D cI cZ ad 0 q (entM q cI cZ) yX10_isNumber cX10_isNumber 1 (some .boolean) (rr 0 0) [.int x0] u00 (QI D 0 q (entM q cI cZ) (fun r _ => K r)) := by
    refine ct_of (by decide +kernel) (Nat.le_of_ble_eq_true rfl) (fun p e s m args below meth c C => ?_)
    refine j_sub (lv' := [(0, .int x0)]) [0] rfl ?_
    refine j_iload_n C 0 dX10_isNumber_0 rfl ?_
    refine j_if_lt C 14 dX10_isNumber_1 (by decide) (fun c1 => ?_) (fun c1 => ?_)
    · have h := h.1 c1
      refine j_iconst (v := 0) C dX10_isNumber_14 (by decide) ?_
      exact j_zret (K := fun r _ => K r) C dX10_isNumber_15 rfl h
    · have h := h.2 c1
      refine j_iload_n C 0 dX10_isNumber_4 rfl ?_
      refine j_bipush (v := 9) C dX10_isNumber_5 (by decide) ?_
      refine j_icmp_gt C 14 dX10_isNumber_7 (by decide) (fun c2 => ?_) (fun c2 => ?_)
      · have h := h.1 c2
        refine j_iconst (v := 0) C dX10_isNumber_14 (by decide) ?_
        exact j_zret (K := fun r _ => K r) C dX10_isNumber_15 rfl h
      · have h := h.2 c2
        refine j_iconst (v := 1) C dX10_isNumber_10 (by decide) ?_
        refine j_goto C 15 dX10_isNumber_11 (by decide) ?_
        exact j_zret (K := fun r _ => K r) C dX10_isNumber_15 rfl h

def wX10_person (N : Nat) (x1 : Int32) (x2 : Int32) (u : MM) (K : Int32 → MM → Prop) : Prop := (wX10_isIn N x1 7 (fun r1 => ((¬ r1 = 0 → (wX10_isNumber N x2 (fun r3 => ((¬ r3 = 0 → (wX2_add N x1 x2 u (fun r5 u6 => ((r5 = 0 → (K (-4) u6)) ∧ (¬ r5 = 0 → (K ((u6 21 0) - 1) u6)))))) ∧ (r3 = 0 → (K (-2) u)))))) ∧ (r1 = 0 → (K (-1) u)))))
set_option maxRecDepth 100000 in
set_option maxHeartbeats 4000000 in
theorem kX_X10_person (l : Launch) (D : va_G) (cI cZ : ClassId) (ad q : Nat → Nat) (N : Nat) {x1 : Int32} {x2 : Int32} {u : MM} {K : Int32 → MM → Prop} (h : wX10_person N x1 x2 u K) : CT l D cI cZ ad 72 q (entC q cI cZ) yX10_person cX10_person 3 (some .int) (rr 1 22) [.ref (q 0), .int x1, .int x2] u (QI D 72 q (entC q cI cZ) K) := by
    refine ct_of (by decide +kernel) (Nat.le_of_ble_eq_true rfl) (fun p e s m args below meth c C => ?_)
    refine j_sub (lv' := [(0, .ref (q 0)), (1, .int x1), (2, .int x2)]) [0, 1, 2] rfl ?_
    refine j_iload_n C 1 dX10_person_0 rfl ?_
    refine j_bipush (v := 7) C dX10_person_1 (by decide) ?_
    refine j_ui C (fun H locs ls hP hD => run_S (As := [.int x1, .int 7]) (st := []) C mf_X10_isIn (kX_X10_isIn l D cI cZ ad q N h) q_348 rfl rfl ⟨rfl, rfl, by decide, by decide⟩ (Nat.le_of_ble_eq_true rfl) dX10_person_3 hP hD) (fun r1 _ h => ?_)
    refine j_if_ne C 11 dX10_person_6 (by decide) (fun c2 => ?_) (fun c2 => ?_)
    · have h := h.1 c2
      refine j_iload_n C 2 dX10_person_11 rfl ?_
      refine j_ui C (fun H locs ls hP hD => run_S (As := [.int x2]) (st := []) C mf_X10_isNumber (kX_X10_isNumber l D cI cZ ad q N h) q_351 rfl rfl ⟨rfl, rfl, by decide, by decide⟩ (Nat.le_of_ble_eq_true rfl) dX10_person_12 hP hD) (fun r3 _ h => ?_)
      refine j_if_ne C 21 dX10_person_15 (by decide) (fun c4 => ?_) (fun c4 => ?_)
      · have h := h.1 c4
        refine j_aload_n C 0 dX10_person_21 rfl ?_
        refine j_get C 0 2 (ly_X10 C.2.2.2.2.2.2.2.1.1) q_223 rfl rfl (by decide) rfl rfl (by decide) rfl dX10_person_22 ?_
        refine j_getN C 10 3 (ly_X5 C.2.2.2.2.2.2.2.1.1) q_156 rfl rfl (by decide) rfl rfl (by decide) rfl dX10_person_25 ?_
        refine j_iload_n C 1 dX10_person_28 rfl ?_
        refine j_iload_n C 2 dX10_person_29 rfl ?_
        refine j_wi C (fun H locs ls hP hD hS hl => run_VN (Cn := "") (As := [.int x1, .int x2]) (st := []) C mf_X2_add 21 (kX_X2_add l D cI cZ ad q N h) q_354 (by decide) rfl rfl rfl rfl ⟨rfl, rfl, by decide, by decide⟩ (Nat.le_of_ble_eq_true rfl) dX10_person_30 hP hD hS hl) (fun r5 u6 h => ?_)
        refine j_if_eq C 51 dX10_person_33 (by decide) (fun c7 => ?_) (fun c7 => ?_)
        · have h := h.1 c7
          refine j_bipush (v := (-4)) C dX10_person_51 (by decide) ?_
          exact j_iret C dX10_person_53 h
        · have h := h.2 c7
          refine j_aload_n C 0 dX10_person_36 rfl ?_
          refine j_get C 0 2 (ly_X10 C.2.2.2.2.2.2.2.1.1) q_223 rfl rfl (by decide) rfl rfl (by decide) rfl dX10_person_37 ?_
          refine j_getN C 10 3 (ly_X5 C.2.2.2.2.2.2.2.1.1) q_156 rfl rfl (by decide) rfl rfl (by decide) rfl dX10_person_40 ?_
          refine j_getN C 21 0 (ly_X2 C.2.2.2.2.2.2.2.1.1) q_88 rfl rfl (by decide) rfl rfl (by decide) rfl dX10_person_43 ?_
          refine j_iconst (v := 1) C dX10_person_46 (by decide) ?_
          refine j_isub C dX10_person_47 ?_
          refine j_goto C 53 dX10_person_48 (by decide) ?_
          exact j_iret C dX10_person_53 h
      · have h := h.2 c4
        refine j_bipush (v := (-2)) C dX10_person_18 (by decide) ?_
        exact j_iret C dX10_person_20 h
    · have h := h.2 c2
      refine j_iconst (v := (-1)) C dX10_person_9 (by decide) ?_
      exact j_iret C dX10_person_10 h

def wX10_ofTeller_b74 (N : Nat) (K : Int32 → MM → Prop) (x2 : Int32) (u : MM) : Prop := (wX7_mayOf N 27 x2 u (fun r11 u12 => (wX7_askedOf N 27 x2 u12 (fun r13 u14 => (wX2_pick N x2 r11 r13 u14 (fun r15 u16 => (K r15 u16)))))))
def wX10_ofTeller (N : Nat) (x2 : Int32) (x3 : Int32) (u : MM) (K : Int32 → MM → Prop) : Prop := ((x3 = 3 → (vp_in x2 7 ∧ (K (u 28 x2.toNatClampNeg) u))) ∧ (¬ x3 = 3 → ((x3 = 4 → (wX10_ofTeller_b74 N K x2 u)) ∧ (¬ x3 = 4 → ((x3 = 5 → (vp_in x2 7 ∧ (K (u 29 x2.toNatClampNeg) u))) ∧ (¬ x3 = 5 → ((x3 = 6 → (wX10_ofTeller_b74 N K x2 u)) ∧ (¬ x3 = 6 → ((x3 = 7 → (wX7_mayOf N 27 x2 u (fun r6 u7 => (K r6 u7)))) ∧ (¬ x3 = 7 → ((x3 = 8 → (wX7_askedOf N 27 x2 u (fun r9 u10 => (K r9 u10)))) ∧ (¬ x3 = 8 → (wX10_ofTeller_b74 N K x2 u)))))))))))))
set_option maxRecDepth 100000 in
set_option maxHeartbeats 4000000 in
theorem tX10_ofTeller_b74 (l : Launch) (D : va_G) (cI cZ : ClassId) (ad q : Nat → Nat) (N : Nat) {p : Program} {e : Env} {s : State} {m : MethodId} {args : Array Value} {below : List Frame} {meth : Method} {c : Code} {K : Int32 → MM → Prop} (C : CX p s m args meth c cX10_ofTeller 5 RX10 (some .int) D cI cZ ad (AJ 72 q s.heap.size)) : ∀ (x2 : Int32) (u : MM), wX10_ofTeller_b74 N K x2 u → JX p l e (rr 4 93) s m args below meth c D (AJ 72 q s.heap.size) 5 (MQ below ((QI D 72 q (entC q cI cZ) K) (AJ 72 q s.heap.size)) args s 0 0 (AJ 72 q s.heap.size)) 72 q (entC q cI cZ) u 74 [(0, .ref (q 0)), (1, .ref (q 27)), (2, .int x2)] [] := by
    intro x2 u h
    refine j_aload_n C 0 dX10_ofTeller_74 rfl ?_
    refine j_get C 0 1 (ly_X10 C.2.2.2.2.2.2.2.1.1) q_222 rfl rfl (by decide) rfl rfl (by decide) rfl dX10_ofTeller_75 ?_
    refine j_aload_n C 1 dX10_ofTeller_78 rfl ?_
    refine j_iload_n C 2 dX10_ofTeller_79 rfl ?_
    refine j_wi C (fun H locs ls hP hD hS hl => run_VN (Cn := "") (As := [.ref (q 27), .int x2]) (st := []) C mf_X7_mayOf 2 (kX_X7_mayOf_27 l D cI cZ ad q N h) q_384 (by decide) rfl rfl rfl rfl ⟨rfl, rfl, by decide, by decide⟩ (Nat.le_of_ble_eq_true rfl) dX10_ofTeller_80 hP hD hS hl) (fun r11 u12 h => ?_)
    refine j_istore (lv' := [(4, .int r11), (0, .ref (q 0)), (1, .ref (q 27)), (2, .int x2)]) C dX10_ofTeller_83 (by decide) rfl ?_
    refine j_aload_n C 1 dX10_ofTeller_85 rfl ?_
    refine j_get C 0 2 (ly_X10 C.2.2.2.2.2.2.2.1.1) q_223 rfl rfl (by decide) rfl rfl (by decide) rfl dX10_ofTeller_86 ?_
    refine j_getN C 10 3 (ly_X5 C.2.2.2.2.2.2.2.1.1) q_156 rfl rfl (by decide) rfl rfl (by decide) rfl dX10_ofTeller_89 ?_
    refine j_iload_n C 3 dX10_ofTeller_92 rfl ?_
    refine j_iload C 0 dX10_ofTeller_93 rfl ?_
    refine j_aload_n C 1 dX10_ofTeller_95 rfl ?_
    refine j_get C 0 1 (ly_X10 C.2.2.2.2.2.2.2.1.1) q_222 rfl rfl (by decide) rfl rfl (by decide) rfl dX10_ofTeller_96 ?_
    refine j_aload_n C 2 dX10_ofTeller_99 rfl ?_
    refine j_iload_n C 3 dX10_ofTeller_100 rfl ?_
    refine j_wi C (fun H locs ls hP hD hS hl => run_VN (Cn := "") (As := [.ref (q 27), .int x2]) (st := [.int r11, .int x2, .ref (q 21)]) C mf_X7_askedOf 2 (kX_X7_askedOf_27 l D cI cZ ad q N h) q_387 (by decide) rfl rfl rfl rfl ⟨rfl, rfl, by decide, by decide⟩ (Nat.le_of_ble_eq_true rfl) dX10_ofTeller_101 hP hD hS hl) (fun r13 u14 h => ?_)
    refine j_wi C (fun H locs ls hP hD hS hl => run_VN (Cn := "") (As := [.int x2, .int r11, .int r13]) (st := []) C mf_X2_pick 21 (kX_X2_pick l D cI cZ ad q N h) q_390 (by decide) rfl rfl rfl rfl ⟨rfl, rfl, by decide, by decide⟩ (Nat.le_of_ble_eq_true rfl) dX10_ofTeller_104 hP hD hS hl) (fun r15 u16 h => ?_)
    exact j_iret C dX10_ofTeller_107 h
set_option maxRecDepth 100000 in
set_option maxHeartbeats 4000000 in
theorem kX_X10_ofTeller (l : Launch) (D : va_G) (cI cZ : ClassId) (ad q : Nat → Nat) (N : Nat) {x2 : Int32} {x3 : Int32} {u : MM} {K : Int32 → MM → Prop} (h : wX10_ofTeller N x2 x3 u K) : CT l D cI cZ ad 72 q (entC q cI cZ) yX10_ofTeller cX10_ofTeller 5 (some .int) (rr 4 93) [.ref (q 0), .ref (q 27), .int x2, .int x3] u (QI D 72 q (entC q cI cZ) K) := by
    refine ct_of (by decide +kernel) (Nat.le_of_ble_eq_true rfl) (fun p e s m args below meth c C => ?_)
    refine j_sub (lv' := [(0, .ref (q 0)), (1, .ref (q 27)), (2, .int x2), (3, .int x3)]) [0, 1, 2, 3] rfl ?_
    refine j_iload_n C 3 dX10_ofTeller_0 rfl ?_
    by_cases c1 : x3 = 3
    · have h := h.1 c1
      refine j_tabIn C (v := 3) c1 (off := 39) 40 dX10_ofTeller_1 (by decide) (by decide) (by decide) (by decide) ?_
      refine j_aload_n C 1 dX10_ofTeller_40 rfl ?_
      refine j_getN C 27 4 (ly_X9 C.2.2.2.2.2.2.2.1.1) q_124 rfl rfl (by decide) rfl rfl (by decide) rfl dX10_ofTeller_41 ?_
      refine j_iload_n C 2 dX10_ofTeller_44 rfl ?_
      obtain ⟨hin, h⟩ := h
      refine j_ialoadK (N := 7) C 28 _ rfl hin (by decide) rfl rfl dX10_ofTeller_45 ?_
      exact j_iret C dX10_ofTeller_46 h
    · have h := h.2 c1
      by_cases c2 : x3 = 4
      · have h := h.1 c2
        refine j_tabIn C (v := 4) c2 (off := 73) 74 dX10_ofTeller_1 (by decide) (by decide) (by decide) (by decide) ?_
        refine j_sub (lv' := [(0, .ref (q 0)), (1, .ref (q 27)), (2, .int x2)]) [0, 1, 2] rfl ?_
        exact tX10_ofTeller_b74 l D cI cZ ad q N C _ _ h
      · have h := h.2 c2
        by_cases c3 : x3 = 5
        · have h := h.1 c3
          refine j_tabIn C (v := 5) c3 (off := 46) 47 dX10_ofTeller_1 (by decide) (by decide) (by decide) (by decide) ?_
          refine j_aload_n C 1 dX10_ofTeller_47 rfl ?_
          refine j_getN C 27 5 (ly_X9 C.2.2.2.2.2.2.2.1.1) q_126 rfl rfl (by decide) rfl rfl (by decide) rfl dX10_ofTeller_48 ?_
          refine j_iload_n C 2 dX10_ofTeller_51 rfl ?_
          obtain ⟨hin, h⟩ := h
          refine j_ialoadK (N := 7) C 29 _ rfl hin (by decide) rfl rfl dX10_ofTeller_52 ?_
          exact j_iret C dX10_ofTeller_53 h
        · have h := h.2 c3
          by_cases c4 : x3 = 6
          · have h := h.1 c4
            refine j_tabIn C (v := 6) c4 (off := 73) 74 dX10_ofTeller_1 (by decide) (by decide) (by decide) (by decide) ?_
            refine j_sub (lv' := [(0, .ref (q 0)), (1, .ref (q 27)), (2, .int x2)]) [0, 1, 2] rfl ?_
            exact tX10_ofTeller_b74 l D cI cZ ad q N C _ _ h
          · have h := h.2 c4
            by_cases c5 : x3 = 7
            · have h := h.1 c5
              refine j_tabIn C (v := 7) c5 (off := 53) 54 dX10_ofTeller_1 (by decide) (by decide) (by decide) (by decide) ?_
              refine j_aload_n C 0 dX10_ofTeller_54 rfl ?_
              refine j_get C 0 1 (ly_X10 C.2.2.2.2.2.2.2.1.1) q_222 rfl rfl (by decide) rfl rfl (by decide) rfl dX10_ofTeller_55 ?_
              refine j_aload_n C 1 dX10_ofTeller_58 rfl ?_
              refine j_iload_n C 2 dX10_ofTeller_59 rfl ?_
              refine j_wi C (fun H locs ls hP hD hS hl => run_VN (Cn := "") (As := [.ref (q 27), .int x2]) (st := []) C mf_X7_mayOf 2 (kX_X7_mayOf_27 l D cI cZ ad q N h) q_384 (by decide) rfl rfl rfl rfl ⟨rfl, rfl, by decide, by decide⟩ (Nat.le_of_ble_eq_true rfl) dX10_ofTeller_60 hP hD hS hl) (fun r6 u7 h => ?_)
              exact j_iret C dX10_ofTeller_63 h
            · have h := h.2 c5
              by_cases c8 : x3 = 8
              · have h := h.1 c8
                refine j_tabIn C (v := 8) c8 (off := 63) 64 dX10_ofTeller_1 (by decide) (by decide) (by decide) (by decide) ?_
                refine j_aload_n C 0 dX10_ofTeller_64 rfl ?_
                refine j_get C 0 1 (ly_X10 C.2.2.2.2.2.2.2.1.1) q_222 rfl rfl (by decide) rfl rfl (by decide) rfl dX10_ofTeller_65 ?_
                refine j_aload_n C 1 dX10_ofTeller_68 rfl ?_
                refine j_iload_n C 2 dX10_ofTeller_69 rfl ?_
                refine j_wi C (fun H locs ls hP hD hS hl => run_VN (Cn := "") (As := [.ref (q 27), .int x2]) (st := []) C mf_X7_askedOf 2 (kX_X7_askedOf_27 l D cI cZ ad q N h) q_387 (by decide) rfl rfl rfl rfl ⟨rfl, rfl, by decide, by decide⟩ (Nat.le_of_ble_eq_true rfl) dX10_ofTeller_70 hP hD hS hl) (fun r9 u10 h => ?_)
                exact j_iret C dX10_ofTeller_73 h
              · have h := h.2 c8
                refine j_tabOut C 74 dX10_ofTeller_1 (by have z0 : x3.toInt ≠ 3 := sw_ne c1; have z1 : x3.toInt ≠ 4 := sw_ne c2; have z2 : x3.toInt ≠ 5 := sw_ne c3; have z3 : x3.toInt ≠ 6 := sw_ne c4; have z4 : x3.toInt ≠ 7 := sw_ne c5; have z5 : x3.toInt ≠ 8 := sw_ne c8; omega) (by decide) ?_
                refine j_sub (lv' := [(0, .ref (q 0)), (1, .ref (q 27)), (2, .int x2)]) [0, 1, 2] rfl ?_
                exact tX10_ofTeller_b74 l D cI cZ ad q N C _ _ h

def wX10_of_b184 (N : Nat) (K : Int32 → MM → Prop) (x1 : Int32) (x2 : Int32) (u : MM) : Prop := (wX10_hasBit N (u 27 2) x1 (fun r22 => ((r22 = 0 → (K (-5) u)) ∧ (¬ r22 = 0 → (wX10_ofTeller N x1 x2 u (fun r24 u25 => (K r24 u25)))))))
def wX10_of (N : Nat) (x1 : Int32) (x2 : Int32) (u : MM) (K : Int32 → MM → Prop) : Prop := (wX2_has N x1 u (fun r1 u2 => ((¬ r1 = 0 → ((x2 = 0 → (vp_in x1 7 ∧ (K (u2 22 x1.toNatClampNeg) u2))) ∧ (¬ x2 = 0 → ((x2 = 1 → (vp_in x1 7 ∧ (K (u2 23 x1.toNatClampNeg) u2))) ∧ (¬ x2 = 1 → ((x2 = 2 → (wX10_hasBit N (u2 27 2) x1 (fun r7 => ((r7 = 0 → (K 0 u2)) ∧ (¬ r7 = 0 → (K 1 u2)))))) ∧ (¬ x2 = 2 → ((x2 = 3 → (wX10_of_b184 N K x1 x2 u2)) ∧ (¬ x2 = 3 → ((x2 = 4 → (wX10_hasBit N (u2 27 3) x1 (fun r11 => ((r11 = 0 → (K 0 u2)) ∧ (¬ r11 = 0 → (K 1 u2)))))) ∧ (¬ x2 = 4 → ((x2 = 5 → (wX10_of_b184 N K x1 x2 u2)) ∧ (¬ x2 = 5 → ((x2 = 6 → (vp_in x1 7 ∧ (K (u2 24 x1.toNatClampNeg) u2))) ∧ (¬ x2 = 6 → ((x2 = 7 → (wX10_of_b184 N K x1 x2 u2)) ∧ (¬ x2 = 7 → ((x2 = 8 → (wX10_of_b184 N K x1 x2 u2)) ∧ (¬ x2 = 8 → ((x2 = 9 → (wX10_of_b184 N K x1 x2 u2)) ∧ (¬ x2 = 9 → ((x2 = 10 → (wX7_fineOf N 27 x1 u2 (fun r19 u20 => (K r19 u20)))) ∧ (¬ x2 = 10 → ((x2 = 11 → (vp_in x1 7 ∧ (K (u2 25 x1.toNatClampNeg) u2))) ∧ (¬ x2 = 11 → (K (-1) u2)))))))))))))))))))))))))) ∧ (r1 = 0 → (K (-1) u2)))))
set_option maxRecDepth 100000 in
set_option maxHeartbeats 4000000 in
theorem tX10_of_b184 (l : Launch) (D : va_G) (cI cZ : ClassId) (ad q : Nat → Nat) (N : Nat) {p : Program} {e : Env} {s : State} {m : MethodId} {args : Array Value} {below : List Frame} {meth : Method} {c : Code} {K : Int32 → MM → Prop} (C : CX p s m args meth c cX10_of 4 RX10 (some .int) D cI cZ ad (AJ 72 q s.heap.size)) : ∀ (x1 : Int32) (x2 : Int32) (u : MM), wX10_of_b184 N K x1 x2 u → JX p l e (rr 5 117) s m args below meth c D (AJ 72 q s.heap.size) 4 (MQ below ((QI D 72 q (entC q cI cZ) K) (AJ 72 q s.heap.size)) args s 0 0 (AJ 72 q s.heap.size)) 72 q (entC q cI cZ) u 184 [(0, .ref (q 0)), (1, .int x1), (2, .int x2), (3, .ref (q 27))] [] := by
    intro x1 x2 u h
    refine j_aload_n C 3 dX10_of_184 rfl ?_
    refine j_getN C 27 2 (ly_X9 C.2.2.2.2.2.2.2.1.1) q_118 rfl rfl (by decide) rfl rfl (by decide) rfl dX10_of_185 ?_
    refine j_iload_n C 1 dX10_of_188 rfl ?_
    refine j_ui C (fun H locs ls hP hD => run_S (As := [.int (u 27 2), .int x1]) (st := []) C mf_X10_hasBit (kX_X10_hasBit l D cI cZ ad q N h) q_365 rfl rfl ⟨rfl, rfl, by decide, by decide⟩ (Nat.le_of_ble_eq_true rfl) dX10_of_189 hP hD) (fun r22 _ h => ?_)
    refine j_if_eq C 205 dX10_of_192 (by decide) (fun c23 => ?_) (fun c23 => ?_)
    · have h := h.1 c23
      refine j_bipush (v := (-5)) C dX10_of_205 (by decide) ?_
      exact j_iret C dX10_of_207 h
    · have h := h.2 c23
      refine j_aload_n C 0 dX10_of_195 rfl ?_
      refine j_aload_n C 3 dX10_of_196 rfl ?_
      refine j_iload_n C 1 dX10_of_197 rfl ?_
      refine j_iload_n C 2 dX10_of_198 rfl ?_
      refine j_wi C (fun H locs ls hP hD hS hl => run_V (Cn := "") (As := [.ref (q 27), .int x1, .int x2]) (st := []) C mf_X10_ofTeller 0 (kX_X10_ofTeller l D cI cZ ad q N h) q_381 (by decide) rfl rfl rfl rfl ⟨rfl, rfl, by decide, by decide⟩ (Nat.le_of_ble_eq_true rfl) dX10_of_199 hP hD hS hl) (fun r24 u25 h => ?_)
      refine j_goto C 207 dX10_of_202 (by decide) ?_
      exact j_iret C dX10_of_207 h
set_option maxRecDepth 100000 in
set_option maxHeartbeats 4000000 in
theorem kX_X10_of (l : Launch) (D : va_G) (cI cZ : ClassId) (ad q : Nat → Nat) (N : Nat) {x1 : Int32} {x2 : Int32} {u : MM} {K : Int32 → MM → Prop} (h : wX10_of N x1 x2 u K) : CT l D cI cZ ad 72 q (entC q cI cZ) yX10_of cX10_of 4 (some .int) (rr 5 117) [.ref (q 0), .int x1, .int x2] u (QI D 72 q (entC q cI cZ) K) := by
    refine ct_of (by decide +kernel) (Nat.le_of_ble_eq_true rfl) (fun p e s m args below meth c C => ?_)
    refine j_sub (lv' := [(0, .ref (q 0)), (1, .int x1), (2, .int x2)]) [0, 1, 2] rfl ?_
    refine j_aload_n C 0 dX10_of_0 rfl ?_
    refine j_get C 0 2 (ly_X10 C.2.2.2.2.2.2.2.1.1) q_223 rfl rfl (by decide) rfl rfl (by decide) rfl dX10_of_1 ?_
    refine j_getN C 10 3 (ly_X5 C.2.2.2.2.2.2.2.1.1) q_156 rfl rfl (by decide) rfl rfl (by decide) rfl dX10_of_4 ?_
    refine j_iload_n C 1 dX10_of_7 rfl ?_
    refine j_wi C (fun H locs ls hP hD hS hl => run_VN (Cn := "") (As := [.int x1]) (st := []) C mf_X2_has 21 (kX_X2_has l D cI cZ ad q N h) q_361 (by decide) rfl rfl rfl rfl ⟨rfl, rfl, by decide, by decide⟩ (Nat.le_of_ble_eq_true rfl) dX10_of_8 hP hD hS hl) (fun r1 u2 h => ?_)
    refine j_if_ne C 16 dX10_of_11 (by decide) (fun c3 => ?_) (fun c3 => ?_)
    · have h := h.1 c3
      refine j_aload_n C 0 dX10_of_16 rfl ?_
      refine j_get C 0 2 (ly_X10 C.2.2.2.2.2.2.2.1.1) q_223 rfl rfl (by decide) rfl rfl (by decide) rfl dX10_of_17 ?_
      refine j_getN C 10 4 (ly_X5 C.2.2.2.2.2.2.2.1.1) q_159 rfl rfl (by decide) rfl rfl (by decide) rfl dX10_of_20 ?_
      refine j_astore_n (lv' := [(3, .ref (q 27)), (0, .ref (q 0)), (1, .int x1), (2, .int x2)]) C dX10_of_23 (by decide) rfl ?_
      refine j_iload_n C 3 dX10_of_24 rfl ?_
      by_cases c4 : x2 = 0
      · have h := h.1 c4
        refine j_tabIn C (v := 0) c4 (off := 63) 88 dX10_of_25 (by decide) (by decide) (by decide) (by decide) ?_
        refine j_aload_n C 1 dX10_of_88 rfl ?_
        refine j_get C 0 2 (ly_X10 C.2.2.2.2.2.2.2.1.1) q_223 rfl rfl (by decide) rfl rfl (by decide) rfl dX10_of_89 ?_
        refine j_getN C 10 3 (ly_X5 C.2.2.2.2.2.2.2.1.1) q_156 rfl rfl (by decide) rfl rfl (by decide) rfl dX10_of_92 ?_
        refine j_getN C 21 1 (ly_X2 C.2.2.2.2.2.2.2.1.1) q_91 rfl rfl (by decide) rfl rfl (by decide) rfl dX10_of_95 ?_
        refine j_iload_n C 2 dX10_of_98 rfl ?_
        obtain ⟨hin, h⟩ := h
        refine j_ialoadK (N := 7) C 22 _ rfl hin (by decide) rfl rfl dX10_of_99 ?_
        exact j_iret C dX10_of_100 h
      · have h := h.2 c4
        by_cases c5 : x2 = 1
        · have h := h.1 c5
          refine j_tabIn C (v := 1) c5 (off := 76) 101 dX10_of_25 (by decide) (by decide) (by decide) (by decide) ?_
          refine j_aload_n C 1 dX10_of_101 rfl ?_
          refine j_get C 0 2 (ly_X10 C.2.2.2.2.2.2.2.1.1) q_223 rfl rfl (by decide) rfl rfl (by decide) rfl dX10_of_102 ?_
          refine j_getN C 10 3 (ly_X5 C.2.2.2.2.2.2.2.1.1) q_156 rfl rfl (by decide) rfl rfl (by decide) rfl dX10_of_105 ?_
          refine j_getN C 21 2 (ly_X2 C.2.2.2.2.2.2.2.1.1) q_94 rfl rfl (by decide) rfl rfl (by decide) rfl dX10_of_108 ?_
          refine j_iload_n C 2 dX10_of_111 rfl ?_
          obtain ⟨hin, h⟩ := h
          refine j_ialoadK (N := 7) C 23 _ rfl hin (by decide) rfl rfl dX10_of_112 ?_
          exact j_iret C dX10_of_113 h
        · have h := h.2 c5
          by_cases c6 : x2 = 2
          · have h := h.1 c6
            refine j_tabIn C (v := 2) c6 (off := 89) 114 dX10_of_25 (by decide) (by decide) (by decide) (by decide) ?_
            refine j_aload_n C 0 dX10_of_114 rfl ?_
            refine j_getN C 27 2 (ly_X9 C.2.2.2.2.2.2.2.1.1) q_118 rfl rfl (by decide) rfl rfl (by decide) rfl dX10_of_115 ?_
            refine j_iload_n C 2 dX10_of_118 rfl ?_
            refine j_ui C (fun H locs ls hP hD => run_S (As := [.int (u2 27 2), .int x1]) (st := []) C mf_X10_hasBit (kX_X10_hasBit l D cI cZ ad q N h) q_365 rfl rfl ⟨rfl, rfl, by decide, by decide⟩ (Nat.le_of_ble_eq_true rfl) dX10_of_119 hP hD) (fun r7 _ h => ?_)
            refine j_if_eq C 129 dX10_of_122 (by decide) (fun c8 => ?_) (fun c8 => ?_)
            · have h := h.1 c8
              refine j_iconst (v := 0) C dX10_of_129 (by decide) ?_
              exact j_iret C dX10_of_130 h
            · have h := h.2 c8
              refine j_iconst (v := 1) C dX10_of_125 (by decide) ?_
              refine j_goto C 130 dX10_of_126 (by decide) ?_
              exact j_iret C dX10_of_130 h
          · have h := h.2 c6
            by_cases c9 : x2 = 3
            · have h := h.1 c9
              refine j_tabIn C (v := 3) c9 (off := 159) 184 dX10_of_25 (by decide) (by decide) (by decide) (by decide) ?_
              refine j_sub (lv' := [(0, .ref (q 0)), (1, .int x1), (2, .int x2), (3, .ref (q 27))]) [1, 2, 3, 0] rfl ?_
              exact tX10_of_b184 l D cI cZ ad q N C _ _ _ h
            · have h := h.2 c9
              by_cases c10 : x2 = 4
              · have h := h.1 c10
                refine j_tabIn C (v := 4) c10 (off := 106) 131 dX10_of_25 (by decide) (by decide) (by decide) (by decide) ?_
                refine j_aload_n C 0 dX10_of_131 rfl ?_
                refine j_getN C 27 3 (ly_X9 C.2.2.2.2.2.2.2.1.1) q_120 rfl rfl (by decide) rfl rfl (by decide) rfl dX10_of_132 ?_
                refine j_iload_n C 2 dX10_of_135 rfl ?_
                refine j_ui C (fun H locs ls hP hD => run_S (As := [.int (u2 27 3), .int x1]) (st := []) C mf_X10_hasBit (kX_X10_hasBit l D cI cZ ad q N h) q_365 rfl rfl ⟨rfl, rfl, by decide, by decide⟩ (Nat.le_of_ble_eq_true rfl) dX10_of_136 hP hD) (fun r11 _ h => ?_)
                refine j_if_eq C 146 dX10_of_139 (by decide) (fun c12 => ?_) (fun c12 => ?_)
                · have h := h.1 c12
                  refine j_iconst (v := 0) C dX10_of_146 (by decide) ?_
                  exact j_iret C dX10_of_147 h
                · have h := h.2 c12
                  refine j_iconst (v := 1) C dX10_of_142 (by decide) ?_
                  refine j_goto C 147 dX10_of_143 (by decide) ?_
                  exact j_iret C dX10_of_147 h
              · have h := h.2 c10
                by_cases c13 : x2 = 5
                · have h := h.1 c13
                  refine j_tabIn C (v := 5) c13 (off := 159) 184 dX10_of_25 (by decide) (by decide) (by decide) (by decide) ?_
                  refine j_sub (lv' := [(0, .ref (q 0)), (1, .int x1), (2, .int x2), (3, .ref (q 27))]) [1, 2, 3, 0] rfl ?_
                  exact tX10_of_b184 l D cI cZ ad q N C _ _ _ h
                · have h := h.2 c13
                  by_cases c14 : x2 = 6
                  · have h := h.1 c14
                    refine j_tabIn C (v := 6) c14 (off := 123) 148 dX10_of_25 (by decide) (by decide) (by decide) (by decide) ?_
                    refine j_aload_n C 1 dX10_of_148 rfl ?_
                    refine j_get C 0 2 (ly_X10 C.2.2.2.2.2.2.2.1.1) q_223 rfl rfl (by decide) rfl rfl (by decide) rfl dX10_of_149 ?_
                    refine j_getN C 10 3 (ly_X5 C.2.2.2.2.2.2.2.1.1) q_156 rfl rfl (by decide) rfl rfl (by decide) rfl dX10_of_152 ?_
                    refine j_getN C 21 3 (ly_X2 C.2.2.2.2.2.2.2.1.1) q_97 rfl rfl (by decide) rfl rfl (by decide) rfl dX10_of_155 ?_
                    refine j_iload_n C 2 dX10_of_158 rfl ?_
                    obtain ⟨hin, h⟩ := h
                    refine j_ialoadK (N := 7) C 24 _ rfl hin (by decide) rfl rfl dX10_of_159 ?_
                    exact j_iret C dX10_of_160 h
                  · have h := h.2 c14
                    by_cases c15 : x2 = 7
                    · have h := h.1 c15
                      refine j_tabIn C (v := 7) c15 (off := 159) 184 dX10_of_25 (by decide) (by decide) (by decide) (by decide) ?_
                      refine j_sub (lv' := [(0, .ref (q 0)), (1, .int x1), (2, .int x2), (3, .ref (q 27))]) [1, 2, 3, 0] rfl ?_
                      exact tX10_of_b184 l D cI cZ ad q N C _ _ _ h
                    · have h := h.2 c15
                      by_cases c16 : x2 = 8
                      · have h := h.1 c16
                        refine j_tabIn C (v := 8) c16 (off := 159) 184 dX10_of_25 (by decide) (by decide) (by decide) (by decide) ?_
                        refine j_sub (lv' := [(0, .ref (q 0)), (1, .int x1), (2, .int x2), (3, .ref (q 27))]) [1, 2, 3, 0] rfl ?_
                        exact tX10_of_b184 l D cI cZ ad q N C _ _ _ h
                      · have h := h.2 c16
                        by_cases c17 : x2 = 9
                        · have h := h.1 c17
                          refine j_tabIn C (v := 9) c17 (off := 159) 184 dX10_of_25 (by decide) (by decide) (by decide) (by decide) ?_
                          refine j_sub (lv' := [(0, .ref (q 0)), (1, .int x1), (2, .int x2), (3, .ref (q 27))]) [1, 2, 3, 0] rfl ?_
                          exact tX10_of_b184 l D cI cZ ad q N C _ _ _ h
                        · have h := h.2 c17
                          by_cases c18 : x2 = 10
                          · have h := h.1 c18
                            refine j_tabIn C (v := 10) c18 (off := 136) 161 dX10_of_25 (by decide) (by decide) (by decide) (by decide) ?_
                            refine j_aload_n C 1 dX10_of_161 rfl ?_
                            refine j_get C 0 1 (ly_X10 C.2.2.2.2.2.2.2.1.1) q_222 rfl rfl (by decide) rfl rfl (by decide) rfl dX10_of_162 ?_
                            refine j_aload_n C 0 dX10_of_165 rfl ?_
                            refine j_iload_n C 2 dX10_of_166 rfl ?_
                            refine j_wi C (fun H locs ls hP hD hS hl => run_VN (Cn := "") (As := [.ref (q 27), .int x1]) (st := []) C mf_X7_fineOf 2 (kX_X7_fineOf_27 l D cI cZ ad q N h) q_368 (by decide) rfl rfl rfl rfl ⟨rfl, rfl, by decide, by decide⟩ (Nat.le_of_ble_eq_true rfl) dX10_of_167 hP hD hS hl) (fun r19 u20 h => ?_)
                            exact j_iret C dX10_of_170 h
                          · have h := h.2 c18
                            by_cases c21 : x2 = 11
                            · have h := h.1 c21
                              refine j_tabIn C (v := 11) c21 (off := 146) 171 dX10_of_25 (by decide) (by decide) (by decide) (by decide) ?_
                              refine j_aload_n C 1 dX10_of_171 rfl ?_
                              refine j_get C 0 2 (ly_X10 C.2.2.2.2.2.2.2.1.1) q_223 rfl rfl (by decide) rfl rfl (by decide) rfl dX10_of_172 ?_
                              refine j_getN C 10 3 (ly_X5 C.2.2.2.2.2.2.2.1.1) q_156 rfl rfl (by decide) rfl rfl (by decide) rfl dX10_of_175 ?_
                              refine j_getN C 21 4 (ly_X2 C.2.2.2.2.2.2.2.1.1) q_99 rfl rfl (by decide) rfl rfl (by decide) rfl dX10_of_178 ?_
                              refine j_iload_n C 2 dX10_of_181 rfl ?_
                              obtain ⟨hin, h⟩ := h
                              refine j_ialoadK (N := 7) C 25 _ rfl hin (by decide) rfl rfl dX10_of_182 ?_
                              exact j_iret C dX10_of_183 h
                            · have h := h.2 c21
                              refine j_tabOut C 208 dX10_of_25 (by have z0 : x2.toInt ≠ 0 := sw_ne c4; have z1 : x2.toInt ≠ 1 := sw_ne c5; have z2 : x2.toInt ≠ 2 := sw_ne c6; have z3 : x2.toInt ≠ 3 := sw_ne c9; have z4 : x2.toInt ≠ 4 := sw_ne c10; have z5 : x2.toInt ≠ 5 := sw_ne c13; have z6 : x2.toInt ≠ 6 := sw_ne c14; have z7 : x2.toInt ≠ 7 := sw_ne c15; have z8 : x2.toInt ≠ 8 := sw_ne c16; have z9 : x2.toInt ≠ 9 := sw_ne c17; have z10 : x2.toInt ≠ 10 := sw_ne c18; have z11 : x2.toInt ≠ 11 := sw_ne c21; omega) (by decide) ?_
                              refine j_iconst (v := (-1)) C dX10_of_208 (by decide) ?_
                              exact j_iret C dX10_of_209 h
    · have h := h.2 c3
      refine j_iconst (v := (-1)) C dX10_of_14 (by decide) ?_
      exact j_iret C dX10_of_15 h

def wX10_know (N : Nat) (x1 : Int32) (x2 : Int32) (x3 : Int32) (u : MM) (K : Int32 → MM → Prop) : Prop := (wX2_has N x1 u (fun r1 u2 => ((r1 = 0 → (K (-1) u2)) ∧ (¬ r1 = 0 → (wX2_has N x2 u2 (fun r4 u5 => ((¬ r4 = 0 → ((¬ x1 = x2 → (vp_in x1 7 ∧ (wX10_hasBit N (u5 24 x1.toNatClampNeg) x2 (fun r8 => (wX2_acquaint N x1 x2 x3 u5 (fun u10 => ((r8 = 0 → (K 0 u10)) ∧ (¬ r8 = 0 → (K 1 u10))))))))) ∧ (x1 = x2 → (K (-2) u5)))) ∧ (r4 = 0 → (K (-1) u5)))))))))
set_option maxRecDepth 100000 in
set_option maxHeartbeats 4000000 in
theorem kX_X10_know (l : Launch) (D : va_G) (cI cZ : ClassId) (ad q : Nat → Nat) (N : Nat) {x1 : Int32} {x2 : Int32} {x3 : Int32} {u : MM} {K : Int32 → MM → Prop} (h : wX10_know N x1 x2 x3 u K) : CT l D cI cZ ad 72 q (entC q cI cZ) yX10_know cX10_know 5 (some .int) (rr 2 42) [.ref (q 0), .int x1, .int x2, .int x3] u (QI D 72 q (entC q cI cZ) K) := by
    refine ct_of (by decide +kernel) (Nat.le_of_ble_eq_true rfl) (fun p e s m args below meth c C => ?_)
    refine j_sub (lv' := [(0, .ref (q 0)), (1, .int x1), (2, .int x2), (3, .int x3)]) [0, 1, 2, 3] rfl ?_
    refine j_aload_n C 0 dX10_know_0 rfl ?_
    refine j_get C 0 2 (ly_X10 C.2.2.2.2.2.2.2.1.1) q_223 rfl rfl (by decide) rfl rfl (by decide) rfl dX10_know_1 ?_
    refine j_getN C 10 3 (ly_X5 C.2.2.2.2.2.2.2.1.1) q_156 rfl rfl (by decide) rfl rfl (by decide) rfl dX10_know_4 ?_
    refine j_iload_n C 1 dX10_know_7 rfl ?_
    refine j_wi C (fun H locs ls hP hD hS hl => run_VN (Cn := "") (As := [.int x1]) (st := []) C mf_X2_has 21 (kX_X2_has l D cI cZ ad q N h) q_361 (by decide) rfl rfl rfl rfl ⟨rfl, rfl, by decide, by decide⟩ (Nat.le_of_ble_eq_true rfl) dX10_know_8 hP hD hS hl) (fun r1 u2 h => ?_)
    refine j_if_eq C 28 dX10_know_11 (by decide) (fun c3 => ?_) (fun c3 => ?_)
    · have h := h.1 c3
      refine j_iconst (v := (-1)) C dX10_know_28 (by decide) ?_
      exact j_iret C dX10_know_29 h
    · have h := h.2 c3
      refine j_aload_n C 0 dX10_know_14 rfl ?_
      refine j_get C 0 2 (ly_X10 C.2.2.2.2.2.2.2.1.1) q_223 rfl rfl (by decide) rfl rfl (by decide) rfl dX10_know_15 ?_
      refine j_getN C 10 3 (ly_X5 C.2.2.2.2.2.2.2.1.1) q_156 rfl rfl (by decide) rfl rfl (by decide) rfl dX10_know_18 ?_
      refine j_iload_n C 2 dX10_know_21 rfl ?_
      refine j_wi C (fun H locs ls hP hD hS hl => run_VN (Cn := "") (As := [.int x2]) (st := []) C mf_X2_has 21 (kX_X2_has l D cI cZ ad q N h) q_361 (by decide) rfl rfl rfl rfl ⟨rfl, rfl, by decide, by decide⟩ (Nat.le_of_ble_eq_true rfl) dX10_know_22 hP hD hS hl) (fun r4 u5 h => ?_)
      refine j_if_ne C 30 dX10_know_25 (by decide) (fun c6 => ?_) (fun c6 => ?_)
      · have h := h.1 c6
        refine j_iload_n C 1 dX10_know_30 rfl ?_
        refine j_iload_n C 2 dX10_know_31 rfl ?_
        refine j_icmp_ne C 38 dX10_know_32 (by decide) (fun c7 => ?_) (fun c7 => ?_)
        · have h := h.1 c7
          refine j_aload_n C 0 dX10_know_38 rfl ?_
          refine j_get C 0 2 (ly_X10 C.2.2.2.2.2.2.2.1.1) q_223 rfl rfl (by decide) rfl rfl (by decide) rfl dX10_know_39 ?_
          refine j_getN C 10 3 (ly_X5 C.2.2.2.2.2.2.2.1.1) q_156 rfl rfl (by decide) rfl rfl (by decide) rfl dX10_know_42 ?_
          refine j_getN C 21 3 (ly_X2 C.2.2.2.2.2.2.2.1.1) q_97 rfl rfl (by decide) rfl rfl (by decide) rfl dX10_know_45 ?_
          refine j_iload_n C 1 dX10_know_48 rfl ?_
          obtain ⟨hin, h⟩ := h
          refine j_ialoadK (N := 7) C 24 _ rfl hin (by decide) rfl rfl dX10_know_49 ?_
          refine j_iload_n C 2 dX10_know_50 rfl ?_
          refine j_ui C (fun H locs ls hP hD => run_S (As := [.int (u5 24 x1.toNatClampNeg), .int x2]) (st := []) C mf_X10_hasBit (kX_X10_hasBit l D cI cZ ad q N h) q_365 rfl rfl ⟨rfl, rfl, by decide, by decide⟩ (Nat.le_of_ble_eq_true rfl) dX10_know_51 hP hD) (fun r8 _ h => ?_)
          refine j_istore (lv' := [(4, .int r8), (0, .ref (q 0)), (1, .int x1), (2, .int x2), (3, .int x3)]) C dX10_know_54 (by decide) rfl ?_
          refine j_aload_n C 1 dX10_know_56 rfl ?_
          refine j_get C 0 2 (ly_X10 C.2.2.2.2.2.2.2.1.1) q_223 rfl rfl (by decide) rfl rfl (by decide) rfl dX10_know_57 ?_
          refine j_getN C 10 3 (ly_X5 C.2.2.2.2.2.2.2.1.1) q_156 rfl rfl (by decide) rfl rfl (by decide) rfl dX10_know_60 ?_
          refine j_iload_n C 2 dX10_know_63 rfl ?_
          refine j_iload_n C 3 dX10_know_64 rfl ?_
          refine j_iload_n C 4 dX10_know_65 rfl ?_
          refine j_wv C (fun H locs ls hP hD hS hl => run_VN (Cn := "") (As := [.int x1, .int x2, .int x3]) (st := []) C mf_X2_acquaint 21 (kX_X2_acquaint l D cI cZ ad q N h) q_416 (by decide) rfl rfl rfl rfl ⟨rfl, rfl, by decide, by decide⟩ (Nat.le_of_ble_eq_true rfl) dX10_know_66 hP hD hS hl) (fun u10 h => ?_)
          refine j_iload C 0 dX10_know_69 rfl ?_
          refine j_if_eq C 78 dX10_know_71 (by decide) (fun c11 => ?_) (fun c11 => ?_)
          · have h := h.1 c11
            refine j_iconst (v := 0) C dX10_know_78 (by decide) ?_
            exact j_iret C dX10_know_79 h
          · have h := h.2 c11
            refine j_iconst (v := 1) C dX10_know_74 (by decide) ?_
            refine j_goto C 79 dX10_know_75 (by decide) ?_
            exact j_iret C dX10_know_79 h
        · have h := h.2 c7
          refine j_bipush (v := (-2)) C dX10_know_35 (by decide) ?_
          exact j_iret C dX10_know_37 h
      · have h := h.2 c6
        refine j_iconst (v := (-1)) C dX10_know_28 (by decide) ?_
        exact j_iret C dX10_know_29 h

def wX10_row_b31 (N : Nat) (K : Int32 → MM → Prop) (x1 : Int32) (x2 : Int32) (u : MM) : Prop := (vp_in x1 7 ∧ (((u 22 x1.toNatClampNeg) = 6 → ((¬ x2 = (-1) → (wX2_addToRow N x1 x2 u (fun r10 u11 => ((r10 = 0 → (K (-4) u11)) ∧ (¬ r10 = 0 → (vp_in x1 7 ∧ (K (u11 25 x1.toNatClampNeg) u11))))))) ∧ (x2 = (-1) → (vp_in x1 7 ∧ ∀ u13 : MM, u13 = up u 25 (x1.toNatClampNeg) 0 → (K 0 u13))))) ∧ (¬ (u 22 x1.toNatClampNeg) = 6 → (K (-3) u))))
def wX10_row (N : Nat) (x1 : Int32) (x2 : Int32) (u : MM) (K : Int32 → MM → Prop) : Prop := (wX2_has N x1 u (fun r1 u2 => ((r1 = 0 → (K (-1) u2)) ∧ (¬ r1 = 0 → ((x2 = (-1) → (wX10_row_b31 N K x1 x2 u2)) ∧ (¬ x2 = (-1) → (wX2_has N x2 u2 (fun r5 u6 => ((¬ r5 = 0 → (wX10_row_b31 N K x1 x2 u6)) ∧ (r5 = 0 → (K (-1) u6)))))))))))
set_option maxRecDepth 100000 in
set_option maxHeartbeats 4000000 in
theorem tX10_row_b31 (l : Launch) (D : va_G) (cI cZ : ClassId) (ad q : Nat → Nat) (N : Nat) {p : Program} {e : Env} {s : State} {m : MethodId} {args : Array Value} {below : List Frame} {meth : Method} {c : Code} {K : Int32 → MM → Prop} (C : CX p s m args meth c cX10_row 4 RX10 (some .int) D cI cZ ad (AJ 72 q s.heap.size)) : ∀ (x1 : Int32) (x2 : Int32) (u : MM), wX10_row_b31 N K x1 x2 u → JX p l e (rr 2 42) s m args below meth c D (AJ 72 q s.heap.size) 4 (MQ below ((QI D 72 q (entC q cI cZ) K) (AJ 72 q s.heap.size)) args s 0 0 (AJ 72 q s.heap.size)) 72 q (entC q cI cZ) u 31 [(1, .int x1), (2, .int x2), (3, .ref (q 21))] [] := by
    intro x1 x2 u h
    refine j_aload_n C 2 dX10_row_31 rfl ?_
    refine j_getN C 21 1 (ly_X2 C.2.2.2.2.2.2.2.1.1) q_91 rfl rfl (by decide) rfl rfl (by decide) rfl dX10_row_32 ?_
    refine j_iload_n C 0 dX10_row_35 rfl ?_
    obtain ⟨hin, h⟩ := h
    refine j_ialoadK (N := 7) C 22 _ rfl hin (by decide) rfl rfl dX10_row_36 ?_
    refine j_bipush (v := 6) C dX10_row_37 (by decide) ?_
    refine j_icmp_eq C 45 dX10_row_39 (by decide) (fun c8 => ?_) (fun c8 => ?_)
    · have h := h.1 c8
      refine j_iload_n C 1 dX10_row_45 rfl ?_
      refine j_iconst (v := (-1)) C dX10_row_46 (by decide) ?_
      refine j_icmp_ne C 59 dX10_row_47 (by decide) (fun c9 => ?_) (fun c9 => ?_)
      · have h := h.1 c9
        refine j_aload_n C 2 dX10_row_59 rfl ?_
        refine j_iload_n C 0 dX10_row_60 rfl ?_
        refine j_iload_n C 1 dX10_row_61 rfl ?_
        refine j_wi C (fun H locs ls hP hD hS hl => run_VN (Cn := "") (As := [.int x1, .int x2]) (st := []) C mf_X2_addToRow 21 (kX_X2_addToRow l D cI cZ ad q N h) q_423 (by decide) rfl rfl rfl rfl ⟨rfl, rfl, by decide, by decide⟩ (Nat.le_of_ble_eq_true rfl) dX10_row_62 hP hD hS hl) (fun r10 u11 h => ?_)
        refine j_if_eq C 77 dX10_row_65 (by decide) (fun c12 => ?_) (fun c12 => ?_)
        · have h := h.1 c12
          refine j_bipush (v := (-4)) C dX10_row_77 (by decide) ?_
          exact j_iret C dX10_row_79 h
        · have h := h.2 c12
          refine j_aload_n C 2 dX10_row_68 rfl ?_
          refine j_getN C 21 4 (ly_X2 C.2.2.2.2.2.2.2.1.1) q_99 rfl rfl (by decide) rfl rfl (by decide) rfl dX10_row_69 ?_
          refine j_iload_n C 0 dX10_row_72 rfl ?_
          obtain ⟨hin, h⟩ := h
          refine j_ialoadK (N := 7) C 25 _ rfl hin (by decide) rfl rfl dX10_row_73 ?_
          refine j_goto C 79 dX10_row_74 (by decide) ?_
          exact j_iret C dX10_row_79 h
      · have h := h.2 c9
        refine j_aload_n C 2 dX10_row_50 rfl ?_
        refine j_getN C 21 4 (ly_X2 C.2.2.2.2.2.2.2.1.1) q_99 rfl rfl (by decide) rfl rfl (by decide) rfl dX10_row_51 ?_
        refine j_iload_n C 0 dX10_row_54 rfl ?_
        refine j_iconst (v := 0) C dX10_row_55 (by decide) ?_
        obtain ⟨hin, h⟩ := h
        refine j_iastoreK (N := 7) C 25 _ rfl hin (by decide) (fun _ => rfl) rfl dX10_row_56 (fun u13 eu13 => ?_)
        have h := h u13 eu13
        refine j_iconst (v := 0) C dX10_row_57 (by decide) ?_
        exact j_iret C dX10_row_58 h
    · have h := h.2 c8
      refine j_bipush (v := (-3)) C dX10_row_42 (by decide) ?_
      exact j_iret C dX10_row_44 h
set_option maxRecDepth 100000 in
set_option maxHeartbeats 4000000 in
theorem kX_X10_row (l : Launch) (D : va_G) (cI cZ : ClassId) (ad q : Nat → Nat) (N : Nat) {x1 : Int32} {x2 : Int32} {u : MM} {K : Int32 → MM → Prop} (h : wX10_row N x1 x2 u K) : CT l D cI cZ ad 72 q (entC q cI cZ) yX10_row cX10_row 4 (some .int) (rr 2 42) [.ref (q 0), .int x1, .int x2] u (QI D 72 q (entC q cI cZ) K) := by
    refine ct_of (by decide +kernel) (Nat.le_of_ble_eq_true rfl) (fun p e s m args below meth c C => ?_)
    refine j_sub (lv' := [(0, .ref (q 0)), (1, .int x1), (2, .int x2)]) [0, 1, 2] rfl ?_
    refine j_aload_n C 0 dX10_row_0 rfl ?_
    refine j_get C 0 2 (ly_X10 C.2.2.2.2.2.2.2.1.1) q_223 rfl rfl (by decide) rfl rfl (by decide) rfl dX10_row_1 ?_
    refine j_getN C 10 3 (ly_X5 C.2.2.2.2.2.2.2.1.1) q_156 rfl rfl (by decide) rfl rfl (by decide) rfl dX10_row_4 ?_
    refine j_astore_n (lv' := [(3, .ref (q 21)), (0, .ref (q 0)), (1, .int x1), (2, .int x2)]) C dX10_row_7 (by decide) rfl ?_
    refine j_aload_n C 0 dX10_row_8 rfl ?_
    refine j_iload_n C 2 dX10_row_9 rfl ?_
    refine j_wi C (fun H locs ls hP hD hS hl => run_VN (Cn := "") (As := [.int x1]) (st := []) C mf_X2_has 21 (kX_X2_has l D cI cZ ad q N h) q_361 (by decide) rfl rfl rfl rfl ⟨rfl, rfl, by decide, by decide⟩ (Nat.le_of_ble_eq_true rfl) dX10_row_10 hP hD hS hl) (fun r1 u2 h => ?_)
    refine j_if_eq C 29 dX10_row_13 (by decide) (fun c3 => ?_) (fun c3 => ?_)
    · have h := h.1 c3
      refine j_iconst (v := (-1)) C dX10_row_29 (by decide) ?_
      exact j_iret C dX10_row_30 h
    · have h := h.2 c3
      refine j_iload_n C 3 dX10_row_16 rfl ?_
      refine j_iconst (v := (-1)) C dX10_row_17 (by decide) ?_
      refine j_icmp_eq C 31 dX10_row_18 (by decide) (fun c4 => ?_) (fun c4 => ?_)
      · have h := h.1 c4
        refine j_sub (lv' := [(1, .int x1), (2, .int x2), (3, .ref (q 21))]) [2, 3, 0] rfl ?_
        exact tX10_row_b31 l D cI cZ ad q N C _ _ _ h
      · have h := h.2 c4
        refine j_aload_n C 0 dX10_row_21 rfl ?_
        refine j_iload_n C 3 dX10_row_22 rfl ?_
        refine j_wi C (fun H locs ls hP hD hS hl => run_VN (Cn := "") (As := [.int x2]) (st := []) C mf_X2_has 21 (kX_X2_has l D cI cZ ad q N h) q_361 (by decide) rfl rfl rfl rfl ⟨rfl, rfl, by decide, by decide⟩ (Nat.le_of_ble_eq_true rfl) dX10_row_23 hP hD hS hl) (fun r5 u6 h => ?_)
        refine j_if_ne C 31 dX10_row_26 (by decide) (fun c7 => ?_) (fun c7 => ?_)
        · have h := h.1 c7
          refine j_sub (lv' := [(1, .int x1), (2, .int x2), (3, .ref (q 21))]) [2, 3, 0] rfl ?_
          exact tX10_row_b31 l D cI cZ ad q N C _ _ _ h
        · have h := h.2 c7
          refine j_iconst (v := (-1)) C dX10_row_29 (by decide) ?_
          exact j_iret C dX10_row_30 h

def wX10_told (N : Nat) (x1 : Int32) (u : MM) (K : Int32 → MM → Prop) : Prop := ((x1 = 0 → (K (u 27 0) u)) ∧ (¬ x1 = 0 → ((x1 = 1 → (K (u 27 1) u)) ∧ (¬ x1 = 1 → ((x1 = 2 → (K (u 13 0) u)) ∧ (¬ x1 = 2 → ((x1 = 3 → (K (u 13 1) u)) ∧ (¬ x1 = 3 → ((x1 = 4 → (K (u 27 2) u)) ∧ (¬ x1 = 4 → (K (-1) u)))))))))))
set_option maxRecDepth 100000 in
set_option maxHeartbeats 4000000 in
theorem kX_X10_told (l : Launch) (D : va_G) (cI cZ : ClassId) (ad q : Nat → Nat) (N : Nat) {x1 : Int32} {u : MM} {K : Int32 → MM → Prop} (h : wX10_told N x1 u K) : CT l D cI cZ ad 72 q (entC q cI cZ) yX10_told cX10_told 2 (some .int) (rr 0 0) [.ref (q 0), .int x1] u (QI D 72 q (entC q cI cZ) K) := by
    refine ct_of (by decide +kernel) (Nat.le_of_ble_eq_true rfl) (fun p e s m args below meth c C => ?_)
    refine j_sub (lv' := [(0, .ref (q 0)), (1, .int x1)]) [0, 1] rfl ?_
    refine j_iload_n C 1 dX10_told_0 rfl ?_
    by_cases c1 : x1 = 0
    · have h := h.1 c1
      refine j_tabIn C (v := 0) c1 (off := 35) 36 dX10_told_1 (by decide) (by decide) (by decide) (by decide) ?_
      refine j_aload_n C 0 dX10_told_36 rfl ?_
      refine j_get C 0 2 (ly_X10 C.2.2.2.2.2.2.2.1.1) q_223 rfl rfl (by decide) rfl rfl (by decide) rfl dX10_told_37 ?_
      refine j_getN C 10 4 (ly_X5 C.2.2.2.2.2.2.2.1.1) q_159 rfl rfl (by decide) rfl rfl (by decide) rfl dX10_told_40 ?_
      refine j_getN C 27 0 (ly_X9 C.2.2.2.2.2.2.2.1.1) q_110 rfl rfl (by decide) rfl rfl (by decide) rfl dX10_told_43 ?_
      exact j_iret C dX10_told_46 h
    · have h := h.2 c1
      by_cases c2 : x1 = 1
      · have h := h.1 c2
        refine j_tabIn C (v := 1) c2 (off := 46) 47 dX10_told_1 (by decide) (by decide) (by decide) (by decide) ?_
        refine j_aload_n C 0 dX10_told_47 rfl ?_
        refine j_get C 0 2 (ly_X10 C.2.2.2.2.2.2.2.1.1) q_223 rfl rfl (by decide) rfl rfl (by decide) rfl dX10_told_48 ?_
        refine j_getN C 10 4 (ly_X5 C.2.2.2.2.2.2.2.1.1) q_159 rfl rfl (by decide) rfl rfl (by decide) rfl dX10_told_51 ?_
        refine j_getN C 27 1 (ly_X9 C.2.2.2.2.2.2.2.1.1) q_114 rfl rfl (by decide) rfl rfl (by decide) rfl dX10_told_54 ?_
        exact j_iret C dX10_told_57 h
      · have h := h.2 c2
        by_cases c3 : x1 = 2
        · have h := h.1 c3
          refine j_tabIn C (v := 2) c3 (off := 57) 58 dX10_told_1 (by decide) (by decide) (by decide) (by decide) ?_
          refine j_aload_n C 0 dX10_told_58 rfl ?_
          refine j_get C 0 2 (ly_X10 C.2.2.2.2.2.2.2.1.1) q_223 rfl rfl (by decide) rfl rfl (by decide) rfl dX10_told_59 ?_
          refine j_getN C 10 1 (ly_X5 C.2.2.2.2.2.2.2.1.1) q_149 rfl rfl (by decide) rfl rfl (by decide) rfl dX10_told_62 ?_
          refine j_getN C 13 0 (ly_X8 C.2.2.2.2.2.2.2.1.1) q_65 rfl rfl (by decide) rfl rfl (by decide) rfl dX10_told_65 ?_
          exact j_iret C dX10_told_68 h
        · have h := h.2 c3
          by_cases c4 : x1 = 3
          · have h := h.1 c4
            refine j_tabIn C (v := 3) c4 (off := 68) 69 dX10_told_1 (by decide) (by decide) (by decide) (by decide) ?_
            refine j_aload_n C 0 dX10_told_69 rfl ?_
            refine j_get C 0 2 (ly_X10 C.2.2.2.2.2.2.2.1.1) q_223 rfl rfl (by decide) rfl rfl (by decide) rfl dX10_told_70 ?_
            refine j_getN C 10 1 (ly_X5 C.2.2.2.2.2.2.2.1.1) q_149 rfl rfl (by decide) rfl rfl (by decide) rfl dX10_told_73 ?_
            refine j_getN C 13 1 (ly_X8 C.2.2.2.2.2.2.2.1.1) q_69 rfl rfl (by decide) rfl rfl (by decide) rfl dX10_told_76 ?_
            exact j_iret C dX10_told_79 h
          · have h := h.2 c4
            by_cases c5 : x1 = 4
            · have h := h.1 c5
              refine j_tabIn C (v := 4) c5 (off := 79) 80 dX10_told_1 (by decide) (by decide) (by decide) (by decide) ?_
              refine j_aload_n C 0 dX10_told_80 rfl ?_
              refine j_get C 0 2 (ly_X10 C.2.2.2.2.2.2.2.1.1) q_223 rfl rfl (by decide) rfl rfl (by decide) rfl dX10_told_81 ?_
              refine j_getN C 10 4 (ly_X5 C.2.2.2.2.2.2.2.1.1) q_159 rfl rfl (by decide) rfl rfl (by decide) rfl dX10_told_84 ?_
              refine j_getN C 27 2 (ly_X9 C.2.2.2.2.2.2.2.1.1) q_118 rfl rfl (by decide) rfl rfl (by decide) rfl dX10_told_87 ?_
              exact j_iret C dX10_told_90 h
            · have h := h.2 c5
              refine j_tabOut C 91 dX10_told_1 (by have z0 : x1.toInt ≠ 0 := sw_ne c1; have z1 : x1.toInt ≠ 1 := sw_ne c2; have z2 : x1.toInt ≠ 2 := sw_ne c3; have z3 : x1.toInt ≠ 3 := sw_ne c4; have z4 : x1.toInt ≠ 4 := sw_ne c5; omega) (by decide) ?_
              refine j_iconst (v := (-1)) C dX10_told_91 (by decide) ?_
              exact j_iret C dX10_told_92 h

def wX10_begin (N : Nat) (x1 : Int32) (x2 : Int32) (u : MM) (K : Int32 → MM → Prop) : Prop := (wX2_has N x1 u (fun r1 u2 => ((¬ r1 = 0 → (wX10_isNumber N x2 (fun r4 => ((¬ r4 = 0 → (wX9_startWith N 27 x1 x2 (u2 27 0) u2 (fun u7 => (K 1 u7)))) ∧ (r4 = 0 → (K (-2) u2)))))) ∧ (r1 = 0 → (K (-1) u2)))))
set_option maxRecDepth 100000 in
set_option maxHeartbeats 4000000 in
theorem kX_X10_begin (l : Launch) (D : va_G) (cI cZ : ClassId) (ad q : Nat → Nat) (N : Nat) {x1 : Int32} {x2 : Int32} {u : MM} {K : Int32 → MM → Prop} (h : wX10_begin N x1 x2 u K) : CT l D cI cZ ad 72 q (entC q cI cZ) yX10_begin cX10_begin 3 (some .int) (rr 2 42) [.ref (q 0), .int x1, .int x2] u (QI D 72 q (entC q cI cZ) K) := by
    refine ct_of (by decide +kernel) (Nat.le_of_ble_eq_true rfl) (fun p e s m args below meth c C => ?_)
    refine j_sub (lv' := [(0, .ref (q 0)), (1, .int x1), (2, .int x2)]) [0, 1, 2] rfl ?_
    refine j_aload_n C 0 dX10_begin_0 rfl ?_
    refine j_get C 0 2 (ly_X10 C.2.2.2.2.2.2.2.1.1) q_223 rfl rfl (by decide) rfl rfl (by decide) rfl dX10_begin_1 ?_
    refine j_getN C 10 3 (ly_X5 C.2.2.2.2.2.2.2.1.1) q_156 rfl rfl (by decide) rfl rfl (by decide) rfl dX10_begin_4 ?_
    refine j_iload_n C 1 dX10_begin_7 rfl ?_
    refine j_wi C (fun H locs ls hP hD hS hl => run_VN (Cn := "") (As := [.int x1]) (st := []) C mf_X2_has 21 (kX_X2_has l D cI cZ ad q N h) q_361 (by decide) rfl rfl rfl rfl ⟨rfl, rfl, by decide, by decide⟩ (Nat.le_of_ble_eq_true rfl) dX10_begin_8 hP hD hS hl) (fun r1 u2 h => ?_)
    refine j_if_ne C 16 dX10_begin_11 (by decide) (fun c3 => ?_) (fun c3 => ?_)
    · have h := h.1 c3
      refine j_iload_n C 2 dX10_begin_16 rfl ?_
      refine j_ui C (fun H locs ls hP hD => run_S (As := [.int x2]) (st := []) C mf_X10_isNumber (kX_X10_isNumber l D cI cZ ad q N h) q_351 rfl rfl ⟨rfl, rfl, by decide, by decide⟩ (Nat.le_of_ble_eq_true rfl) dX10_begin_17 hP hD) (fun r4 _ h => ?_)
      refine j_if_ne C 26 dX10_begin_20 (by decide) (fun c5 => ?_) (fun c5 => ?_)
      · have h := h.1 c5
        refine j_aload_n C 0 dX10_begin_26 rfl ?_
        refine j_get C 0 2 (ly_X10 C.2.2.2.2.2.2.2.1.1) q_223 rfl rfl (by decide) rfl rfl (by decide) rfl dX10_begin_27 ?_
        refine j_getN C 10 4 (ly_X5 C.2.2.2.2.2.2.2.1.1) q_159 rfl rfl (by decide) rfl rfl (by decide) rfl dX10_begin_30 ?_
        refine j_iload_n C 1 dX10_begin_33 rfl ?_
        refine j_iload_n C 2 dX10_begin_34 rfl ?_
        refine j_aload_n C 0 dX10_begin_35 rfl ?_
        refine j_get C 0 2 (ly_X10 C.2.2.2.2.2.2.2.1.1) q_223 rfl rfl (by decide) rfl rfl (by decide) rfl dX10_begin_36 ?_
        refine j_getN C 10 4 (ly_X5 C.2.2.2.2.2.2.2.1.1) q_159 rfl rfl (by decide) rfl rfl (by decide) rfl dX10_begin_39 ?_
        refine j_getN C 27 0 (ly_X9 C.2.2.2.2.2.2.2.1.1) q_110 rfl rfl (by decide) rfl rfl (by decide) rfl dX10_begin_42 ?_
        refine j_wv C (fun H locs ls hP hD hS hl => run_VN (Cn := "") (As := [.int x1, .int x2, .int (u2 27 0)]) (st := []) C mf_X9_startWith 27 (kX_X9_startWith_27 l D cI cZ ad q N h) q_434 (by decide) rfl rfl rfl rfl ⟨rfl, rfl, by decide, by decide⟩ (Nat.le_of_ble_eq_true rfl) dX10_begin_45 hP hD hS hl) (fun u7 h => ?_)
        refine j_iconst (v := 1) C dX10_begin_48 (by decide) ?_
        exact j_iret C dX10_begin_49 h
      · have h := h.2 c5
        refine j_bipush (v := (-2)) C dX10_begin_23 (by decide) ?_
        exact j_iret C dX10_begin_25 h
    · have h := h.2 c3
      refine j_iconst (v := (-1)) C dX10_begin_14 (by decide) ?_
      exact j_iret C dX10_begin_15 h

def wX10_day (N : Nat) (u : MM) (K : Int32 → MM → Prop) : Prop := (((u 27 0) < 999 → (wX7_goDay N 27 (-1) 0 (-1) u (fun r2 u3 => (K r2 u3)))) ∧ (¬ (u 27 0) < 999 → (K (-3) u)))
set_option maxRecDepth 100000 in
set_option maxHeartbeats 4000000 in
theorem kX_X10_day (l : Launch) (D : va_G) (cI cZ : ClassId) (ad q : Nat → Nat) (N : Nat) {u : MM} {K : Int32 → MM → Prop} (h : wX10_day N u K) : CT l D cI cZ ad 72 q (entC q cI cZ) yX10_day cX10_day 1 (some .int) (rr 5 124) [.ref (q 0)] u (QI D 72 q (entC q cI cZ) K) := by
    refine ct_of (by decide +kernel) (Nat.le_of_ble_eq_true rfl) (fun p e s m args below meth c C => ?_)
    refine j_sub (lv' := [(0, .ref (q 0))]) [0] rfl ?_
    refine j_aload_n C 0 dX10_day_0 rfl ?_
    refine j_get C 0 2 (ly_X10 C.2.2.2.2.2.2.2.1.1) q_223 rfl rfl (by decide) rfl rfl (by decide) rfl dX10_day_1 ?_
    refine j_getN C 10 4 (ly_X5 C.2.2.2.2.2.2.2.1.1) q_159 rfl rfl (by decide) rfl rfl (by decide) rfl dX10_day_4 ?_
    refine j_getN C 27 0 (ly_X9 C.2.2.2.2.2.2.2.1.1) q_110 rfl rfl (by decide) rfl rfl (by decide) rfl dX10_day_7 ?_
    refine j_sipush (v := 999) C dX10_day_10 (by decide) ?_
    refine j_icmp_lt C 19 dX10_day_13 (by decide) (fun c1 => ?_) (fun c1 => ?_)
    · have h := h.1 c1
      refine j_aload_n C 0 dX10_day_19 rfl ?_
      refine j_get C 0 1 (ly_X10 C.2.2.2.2.2.2.2.1.1) q_222 rfl rfl (by decide) rfl rfl (by decide) rfl dX10_day_20 ?_
      refine j_aload_n C 0 dX10_day_23 rfl ?_
      refine j_get C 0 2 (ly_X10 C.2.2.2.2.2.2.2.1.1) q_223 rfl rfl (by decide) rfl rfl (by decide) rfl dX10_day_24 ?_
      refine j_getN C 10 4 (ly_X5 C.2.2.2.2.2.2.2.1.1) q_159 rfl rfl (by decide) rfl rfl (by decide) rfl dX10_day_27 ?_
      refine j_iconst (v := (-1)) C dX10_day_30 (by decide) ?_
      refine j_iconst (v := 0) C dX10_day_31 (by decide) ?_
      refine j_iconst (v := (-1)) C dX10_day_32 (by decide) ?_
      refine j_wi C (fun H locs ls hP hD hS hl => run_VN (Cn := "") (As := [.ref (q 27), .int (-1), .int 0, .int (-1)]) (st := []) C mf_X7_goDay 2 (kX_X7_goDay_27 l D cI cZ ad q N h) q_441 (by decide) rfl rfl rfl rfl ⟨rfl, rfl, by decide, by decide⟩ (Nat.le_of_ble_eq_true rfl) dX10_day_33 hP hD hS hl) (fun r2 u3 h => ?_)
      exact j_iret C dX10_day_36 h
    · have h := h.2 c1
      refine j_bipush (v := (-3)) C dX10_day_16 (by decide) ?_
      exact j_iret C dX10_day_18 h

def wX10_sum (N : Nat) (x1 : Int32) (u : MM) (K : Int64 → MM → Prop) : Prop := (wX10_isIn N x1 13 (fun r1 => ((¬ r1 = 0 → (wX8_sumOf N x1 u (fun r3 u4 => (K r3 u4)))) ∧ (r1 = 0 → (K (-9223372036854775808) u)))))
set_option maxRecDepth 100000 in
set_option maxHeartbeats 4000000 in
theorem kX_X10_sum (l : Launch) (D : va_G) (cI cZ : ClassId) (ad q : Nat → Nat) (N : Nat) {x1 : Int32} {u : MM} {K : Int64 → MM → Prop} (h : wX10_sum N x1 u K) : CT l D cI cZ ad 72 q (entC q cI cZ) yX10_sum cX10_sum 2 (some .long) (rr 1 24) [.ref (q 0), .int x1] u (QL D 72 q (entC q cI cZ) K) := by
    refine ct_of (by decide +kernel) (Nat.le_of_ble_eq_true rfl) (fun p e s m args below meth c C => ?_)
    refine j_sub (lv' := [(0, .ref (q 0)), (1, .int x1)]) [0, 1] rfl ?_
    refine j_iload_n C 1 dX10_sum_0 rfl ?_
    refine j_bipush (v := 13) C dX10_sum_1 (by decide) ?_
    refine j_ui C (fun H locs ls hP hD => run_S (As := [.int x1, .int 13]) (st := []) C mf_X10_isIn (kX_X10_isIn l D cI cZ ad q N h) q_348 rfl rfl ⟨rfl, rfl, by decide, by decide⟩ (Nat.le_of_ble_eq_true rfl) dX10_sum_3 hP hD) (fun r1 _ h => ?_)
    refine j_if_ne C 13 dX10_sum_6 (by decide) (fun c2 => ?_) (fun c2 => ?_)
    · have h := h.1 c2
      refine j_aload_n C 0 dX10_sum_13 rfl ?_
      refine j_get C 0 2 (ly_X10 C.2.2.2.2.2.2.2.1.1) q_223 rfl rfl (by decide) rfl rfl (by decide) rfl dX10_sum_14 ?_
      refine j_getN C 10 1 (ly_X5 C.2.2.2.2.2.2.2.1.1) q_149 rfl rfl (by decide) rfl rfl (by decide) rfl dX10_sum_17 ?_
      refine j_iload_n C 1 dX10_sum_20 rfl ?_
      refine j_wl C (fun H locs ls hP hD hS hl => run_VN (Cn := "") (As := [.int x1]) (st := []) C mf_X8_sumOf 13 (kX_X8_sumOf l D cI cZ ad q N h) q_465 (by decide) rfl rfl rfl rfl ⟨rfl, rfl, by decide, by decide⟩ (Nat.le_of_ble_eq_true rfl) dX10_sum_21 hP hD hS hl) (fun r3 u4 h => ?_)
      exact j_lret C dX10_sum_24 h
    · have h := h.2 c2
      refine j_ldc2 C (-9223372036854775808) q_464 dX10_sum_9 ?_
      exact j_lret C dX10_sum_12 h

def wX10_enough_b15 (N : Nat) (K : Int32 → MM → Prop) : Nat → Int32 → Int32 → MM → Prop
  | 0, _, _, _ => False
  | n + 1, x1, x2, u => ((12 < x2 → (K (-5) u)) ∧ (¬ 12 < x2 → (wX8_sumOf N x2 u (fun r4 u5 => (((lg_cmp r4 (Int32.toInt64 x1)) < 0 → (∀ y7 : Int32, y7 = x2 + 1 → (wX10_enough_b15 N K n x1 y7 u5))) ∧ (¬ (lg_cmp r4 (Int32.toInt64 x1)) < 0 → (K x2 u5)))))))
def wX10_enough (N : Nat) (x1 : Int32) (u : MM) (K : Int32 → MM → Prop) : Prop := ((x1 < 0 → (K (-2) u)) ∧ (¬ x1 < 0 → ((x1 ≤ 999999999 → (wX10_enough_b15 N K N x1 0 u)) ∧ (¬ x1 ≤ 999999999 → (K (-2) u)))))
set_option maxRecDepth 100000 in
set_option maxHeartbeats 4000000 in
theorem tX10_enough_b15 (l : Launch) (D : va_G) (cI cZ : ClassId) (ad q : Nat → Nat) (N : Nat) {p : Program} {e : Env} {s : State} {m : MethodId} {args : Array Value} {below : List Frame} {meth : Method} {c : Code} {K : Int32 → MM → Prop} (C : CX p s m args meth c cX10_enough 3 RX10 (some .int) D cI cZ ad (AJ 72 q s.heap.size)) : ∀ (n : Nat) (x1 : Int32) (x2 : Int32) (u : MM), wX10_enough_b15 N K n x1 x2 u → JX p l e (rr 1 24) s m args below meth c D (AJ 72 q s.heap.size) 3 (MQ below ((QI D 72 q (entC q cI cZ) K) (AJ 72 q s.heap.size)) args s 0 0 (AJ 72 q s.heap.size)) 72 q (entC q cI cZ) u 15 [(0, .ref (q 0)), (1, .int x1), (2, .int x2)] [] := by
  intro n
  induction n with
  | zero => intro x1 x2 u h; exact h.elim
  | succ n ih =>
    intro x1 x2 u h
    refine j_iload_n C 2 dX10_enough_15 rfl ?_
    refine j_bipush (v := 12) C dX10_enough_16 (by decide) ?_
    refine j_icmp_gt C 46 dX10_enough_18 (by decide) (fun c3 => ?_) (fun c3 => ?_)
    · have h := h.1 c3
      refine j_bipush (v := (-5)) C dX10_enough_46 (by decide) ?_
      exact j_iret C dX10_enough_48 h
    · have h := h.2 c3
      refine j_aload_n C 0 dX10_enough_21 rfl ?_
      refine j_get C 0 2 (ly_X10 C.2.2.2.2.2.2.2.1.1) q_223 rfl rfl (by decide) rfl rfl (by decide) rfl dX10_enough_22 ?_
      refine j_getN C 10 1 (ly_X5 C.2.2.2.2.2.2.2.1.1) q_149 rfl rfl (by decide) rfl rfl (by decide) rfl dX10_enough_25 ?_
      refine j_iload_n C 2 dX10_enough_28 rfl ?_
      refine j_wl C (fun H locs ls hP hD hS hl => run_VN (Cn := "") (As := [.int x2]) (st := []) C mf_X8_sumOf 13 (kX_X8_sumOf l D cI cZ ad q N h) q_465 (by decide) rfl rfl rfl rfl ⟨rfl, rfl, by decide, by decide⟩ (Nat.le_of_ble_eq_true rfl) dX10_enough_29 hP hD hS hl) (fun r4 u5 h => ?_)
      refine j_iload_n C 1 dX10_enough_32 rfl ?_
      refine j_i2l C dX10_enough_33 ?_
      refine j_lcmp C dX10_enough_34 ?_
      refine j_if_lt C 40 dX10_enough_35 (by decide) (fun c6 => ?_) (fun c6 => ?_)
      · have h := h.1 c6
        obtain ⟨y7, ey7⟩ : ∃ z : Int32, z = x2 + 1 := ⟨_, rfl⟩
        have h := h y7 ey7
        refine j_iinc (v := y7) (lv' := [(2, .int y7), (0, .ref (q 0)), (1, .int x1)]) C 2 dX10_enough_40 rfl (by rw [ey7]; rfl) (by decide) rfl ?_
        refine j_goto C 15 dX10_enough_43 (by decide) ?_
        refine j_sub (lv' := [(0, .ref (q 0)), (1, .int x1), (2, .int y7)]) [1, 2, 0] rfl ?_
        exact ih _ _ _ h
      · have h := h.2 c6
        refine j_iload_n C 2 dX10_enough_38 rfl ?_
        exact j_iret C dX10_enough_39 h
set_option maxRecDepth 100000 in
set_option maxHeartbeats 4000000 in
theorem kX_X10_enough (l : Launch) (D : va_G) (cI cZ : ClassId) (ad q : Nat → Nat) (N : Nat) {x1 : Int32} {u : MM} {K : Int32 → MM → Prop} (h : wX10_enough N x1 u K) : CT l D cI cZ ad 72 q (entC q cI cZ) yX10_enough cX10_enough 3 (some .int) (rr 1 24) [.ref (q 0), .int x1] u (QI D 72 q (entC q cI cZ) K) := by
    refine ct_of (by decide +kernel) (Nat.le_of_ble_eq_true rfl) (fun p e s m args below meth c C => ?_)
    refine j_sub (lv' := [(0, .ref (q 0)), (1, .int x1)]) [0, 1] rfl ?_
    refine j_iload_n C 1 dX10_enough_0 rfl ?_
    refine j_if_lt C 10 dX10_enough_1 (by decide) (fun c1 => ?_) (fun c1 => ?_)
    · have h := h.1 c1
      refine j_bipush (v := (-2)) C dX10_enough_10 (by decide) ?_
      exact j_iret C dX10_enough_12 h
    · have h := h.2 c1
      refine j_iload_n C 1 dX10_enough_4 rfl ?_
      refine j_ldc C 999999999 q_472 dX10_enough_5 ?_
      refine j_icmp_le C 13 dX10_enough_7 (by decide) (fun c2 => ?_) (fun c2 => ?_)
      · have h := h.1 c2
        refine j_iconst (v := 0) C dX10_enough_13 (by decide) ?_
        refine j_istore_n (lv' := [(2, .int 0), (0, .ref (q 0)), (1, .int x1)]) C dX10_enough_14 (by decide) rfl ?_
        refine j_sub (lv' := [(0, .ref (q 0)), (1, .int x1), (2, .int 0)]) [1, 2, 0] rfl ?_
        exact tX10_enough_b15 l D cI cZ ad q N C N _ _ _ h
      · have h := h.2 c2
        refine j_bipush (v := (-2)) C dX10_enough_10 (by decide) ?_
        exact j_iret C dX10_enough_12 h

def wX10_end (N : Nat) (x1 : Int32) (u : MM) (K : Int32 → MM → Prop) : Prop := (wX9_copyFrom N 7 27 u (fun u2 => (wX7_goOn N (-1) 0 (-1) u2 (fun r3 u4 => ((x1 = 0 → (K r3 u4)) ∧ (¬ x1 = 0 → ((x1 = 1 → (wJ6_bitCount_0f7a4 N (u4 7 2) (fun r7 => (K r7 u4)))) ∧ (¬ x1 = 1 → ((x1 = 2 → (K (u4 7 1) u4)) ∧ (¬ x1 = 2 → ((x1 = 3 → (wX2_all N u4 (fun r10 u11 => (K (r10 &&& ((u11 7 2) ^^^ ((-1) : Int32))) u11)))) ∧ (¬ x1 = 3 → (K (-1) u4)))))))))))))
set_option maxRecDepth 100000 in
set_option maxHeartbeats 4000000 in
theorem kX_X10_end (l : Launch) (D : va_G) (cI cZ : ClassId) (ad q : Nat → Nat) (N : Nat) {x1 : Int32} {u : MM} {K : Int32 → MM → Prop} (h : wX10_end N x1 u K) : CT l D cI cZ ad 72 q (entC q cI cZ) yX10_end cX10_end 4 (some .int) (rr 6 149) [.ref (q 0), .int x1] u (QI D 72 q (entC q cI cZ) K) := by
    refine ct_of (by decide +kernel) (Nat.le_of_ble_eq_true rfl) (fun p e s m args below meth c C => ?_)
    refine j_sub (lv' := [(0, .ref (q 0)), (1, .int x1)]) [0, 1] rfl ?_
    refine j_aload_n C 0 dX10_end_0 rfl ?_
    refine j_get C 0 0 (ly_X10 C.2.2.2.2.2.2.2.1.1) q_221 rfl rfl (by decide) rfl rfl (by decide) rfl dX10_end_1 ?_
    refine j_getN C 1 1 (ly_X1 C.2.2.2.2.2.2.2.1.1) q_174 rfl rfl (by decide) rfl rfl (by decide) rfl dX10_end_4 ?_
    refine j_astore_n (lv' := [(2, .ref (q 7)), (0, .ref (q 0)), (1, .int x1)]) C dX10_end_7 (by decide) rfl ?_
    refine j_aload_n C 0 dX10_end_8 rfl ?_
    refine j_aload_n C 1 dX10_end_9 rfl ?_
    refine j_get C 0 2 (ly_X10 C.2.2.2.2.2.2.2.1.1) q_223 rfl rfl (by decide) rfl rfl (by decide) rfl dX10_end_10 ?_
    refine j_getN C 10 4 (ly_X5 C.2.2.2.2.2.2.2.1.1) q_159 rfl rfl (by decide) rfl rfl (by decide) rfl dX10_end_13 ?_
    refine j_wv C (fun H locs ls hP hD hS hl => run_VN (Cn := "") (As := [.ref (q 27)]) (st := []) C mf_X9_copyFrom 7 (kX_X9_copyFrom_7_27 l D cI cZ ad q N h) q_477 (by decide) rfl rfl rfl rfl ⟨rfl, rfl, by decide, by decide⟩ (Nat.le_of_ble_eq_true rfl) dX10_end_16 hP hD hS hl) (fun u2 h => ?_)
    refine j_aload_n C 1 dX10_end_19 rfl ?_
    refine j_get C 0 1 (ly_X10 C.2.2.2.2.2.2.2.1.1) q_222 rfl rfl (by decide) rfl rfl (by decide) rfl dX10_end_20 ?_
    refine j_aload_n C 0 dX10_end_23 rfl ?_
    refine j_iconst (v := (-1)) C dX10_end_24 (by decide) ?_
    refine j_iconst (v := 0) C dX10_end_25 (by decide) ?_
    refine j_iconst (v := (-1)) C dX10_end_26 (by decide) ?_
    refine j_wi C (fun H locs ls hP hD hS hl => run_VN (Cn := "") (As := [.ref (q 7), .int (-1), .int 0, .int (-1)]) (st := []) C mf_X7_goOn 2 (kX_X7_goOn l D cI cZ ad q N h) q_481 (by decide) rfl rfl rfl rfl ⟨rfl, rfl, by decide, by decide⟩ (Nat.le_of_ble_eq_true rfl) dX10_end_27 hP hD hS hl) (fun r3 u4 h => ?_)
    refine j_istore_n (lv' := [(3, .int r3), (2, .ref (q 7)), (0, .ref (q 0)), (1, .int x1)]) C dX10_end_30 (by decide) rfl ?_
    refine j_iload_n C 3 dX10_end_31 rfl ?_
    by_cases c5 : x1 = 0
    · have h := h.1 c5
      refine j_tabIn C (v := 0) c5 (off := 32) 64 dX10_end_32 (by decide) (by decide) (by decide) (by decide) ?_
      refine j_iload_n C 0 dX10_end_64 rfl ?_
      exact j_iret C dX10_end_65 h
    · have h := h.2 c5
      by_cases c6 : x1 = 1
      · have h := h.1 c6
        refine j_tabIn C (v := 1) c6 (off := 34) 66 dX10_end_32 (by decide) (by decide) (by decide) (by decide) ?_
        refine j_aload_n C 1 dX10_end_66 rfl ?_
        refine j_getN C 7 2 (ly_X9 C.2.2.2.2.2.2.2.1.1) q_118 rfl rfl (by decide) rfl rfl (by decide) rfl dX10_end_67 ?_
        refine j_ui C (fun H locs ls hP hD => run_S (As := [.int (u4 7 2)]) (st := []) C mf_J6_bitCount_0f7a4 (kX_J6_bitCount_0f7a4 l D cI cZ ad q N h) q_485 rfl rfl ⟨rfl, rfl, by decide, by decide⟩ (Nat.le_of_ble_eq_true rfl) dX10_end_70 hP hD) (fun r7 _ h => ?_)
        exact j_iret C dX10_end_73 h
      · have h := h.2 c6
        by_cases c8 : x1 = 2
        · have h := h.1 c8
          refine j_tabIn C (v := 2) c8 (off := 42) 74 dX10_end_32 (by decide) (by decide) (by decide) (by decide) ?_
          refine j_aload_n C 1 dX10_end_74 rfl ?_
          refine j_getN C 7 1 (ly_X9 C.2.2.2.2.2.2.2.1.1) q_114 rfl rfl (by decide) rfl rfl (by decide) rfl dX10_end_75 ?_
          exact j_iret C dX10_end_78 h
        · have h := h.2 c8
          by_cases c9 : x1 = 3
          · have h := h.1 c9
            refine j_tabIn C (v := 3) c9 (off := 47) 79 dX10_end_32 (by decide) (by decide) (by decide) (by decide) ?_
            refine j_aload_n C 2 dX10_end_79 rfl ?_
            refine j_get C 0 2 (ly_X10 C.2.2.2.2.2.2.2.1.1) q_223 rfl rfl (by decide) rfl rfl (by decide) rfl dX10_end_80 ?_
            refine j_getN C 10 3 (ly_X5 C.2.2.2.2.2.2.2.1.1) q_156 rfl rfl (by decide) rfl rfl (by decide) rfl dX10_end_83 ?_
            refine j_wi C (fun H locs ls hP hD hS hl => run_VN (Cn := "") (As := []) (st := []) C mf_X2_all 21 (kX_X2_all l D cI cZ ad q N h) q_486 (by decide) rfl rfl rfl rfl ⟨rfl, rfl, by decide, by decide⟩ (Nat.le_of_ble_eq_true rfl) dX10_end_86 hP hD hS hl) (fun r10 u11 h => ?_)
            refine j_aload_n C 1 dX10_end_89 rfl ?_
            refine j_getN C 7 2 (ly_X9 C.2.2.2.2.2.2.2.1.1) q_118 rfl rfl (by decide) rfl rfl (by decide) rfl dX10_end_90 ?_
            refine j_iconst (v := (-1)) C dX10_end_93 (by decide) ?_
            refine j_ixor C dX10_end_94 ?_
            refine j_iand C dX10_end_95 ?_
            exact j_iret C dX10_end_96 h
          · have h := h.2 c9
            refine j_tabOut C 97 dX10_end_32 (by have z0 : x1.toInt ≠ 0 := sw_ne c5; have z1 : x1.toInt ≠ 1 := sw_ne c6; have z2 : x1.toInt ≠ 2 := sw_ne c8; have z3 : x1.toInt ≠ 3 := sw_ne c9; omega) (by decide) ?_
            refine j_iconst (v := (-1)) C dX10_end_97 (by decide) ?_
            exact j_iret C dX10_end_98 h

def wX10_best (N : Nat) (x1 : Int32) (x2 : Int32) (u : MM) (K : Int32 → MM → Prop) : Prop := (wX10_isIn N x2 3 (fun r1 => ((¬ r1 = 0 → (wX10_isNumber N x1 (fun r3 => ((¬ r3 = 0 → ((¬ (u 21 0) = 0 → (wX1_findBest N x1 u (fun u7 => ((x2 = 0 → (K (u7 1 2) u7)) ∧ (¬ x2 = 0 → ((x2 = 1 → (K (u7 1 3) u7)) ∧ (¬ x2 = 1 → (K (u7 1 4) u7)))))))) ∧ ((u 21 0) = 0 → (K (-3) u)))) ∧ (r3 = 0 → (K (-2) u)))))) ∧ (r1 = 0 → (K (-1) u)))))
set_option maxRecDepth 100000 in
set_option maxHeartbeats 4000000 in
theorem kX_X10_best (l : Launch) (D : va_G) (cI cZ : ClassId) (ad q : Nat → Nat) (N : Nat) {x1 : Int32} {x2 : Int32} {u : MM} {K : Int32 → MM → Prop} (h : wX10_best N x1 x2 u K) : CT l D cI cZ ad 72 q (entC q cI cZ) yX10_best cX10_best 3 (some .int) (rr 7 173) [.ref (q 0), .int x1, .int x2] u (QI D 72 q (entC q cI cZ) K) := by
    refine ct_of (by decide +kernel) (Nat.le_of_ble_eq_true rfl) (fun p e s m args below meth c C => ?_)
    refine j_sub (lv' := [(0, .ref (q 0)), (1, .int x1), (2, .int x2)]) [0, 1, 2] rfl ?_
    refine j_iload_n C 2 dX10_best_0 rfl ?_
    refine j_iconst (v := 3) C dX10_best_1 (by decide) ?_
    refine j_ui C (fun H locs ls hP hD => run_S (As := [.int x2, .int 3]) (st := []) C mf_X10_isIn (kX_X10_isIn l D cI cZ ad q N h) q_348 rfl rfl ⟨rfl, rfl, by decide, by decide⟩ (Nat.le_of_ble_eq_true rfl) dX10_best_2 hP hD) (fun r1 _ h => ?_)
    refine j_if_ne C 10 dX10_best_5 (by decide) (fun c2 => ?_) (fun c2 => ?_)
    · have h := h.1 c2
      refine j_iload_n C 1 dX10_best_10 rfl ?_
      refine j_ui C (fun H locs ls hP hD => run_S (As := [.int x1]) (st := []) C mf_X10_isNumber (kX_X10_isNumber l D cI cZ ad q N h) q_351 rfl rfl ⟨rfl, rfl, by decide, by decide⟩ (Nat.le_of_ble_eq_true rfl) dX10_best_11 hP hD) (fun r3 _ h => ?_)
      refine j_if_ne C 20 dX10_best_14 (by decide) (fun c4 => ?_) (fun c4 => ?_)
      · have h := h.1 c4
        refine j_aload_n C 0 dX10_best_20 rfl ?_
        refine j_get C 0 2 (ly_X10 C.2.2.2.2.2.2.2.1.1) q_223 rfl rfl (by decide) rfl rfl (by decide) rfl dX10_best_21 ?_
        refine j_getN C 10 3 (ly_X5 C.2.2.2.2.2.2.2.1.1) q_156 rfl rfl (by decide) rfl rfl (by decide) rfl dX10_best_24 ?_
        refine j_getN C 21 0 (ly_X2 C.2.2.2.2.2.2.2.1.1) q_88 rfl rfl (by decide) rfl rfl (by decide) rfl dX10_best_27 ?_
        refine j_if_ne C 36 dX10_best_30 (by decide) (fun c5 => ?_) (fun c5 => ?_)
        · have h := h.1 c5
          refine j_aload_n C 0 dX10_best_36 rfl ?_
          refine j_get C 0 0 (ly_X10 C.2.2.2.2.2.2.2.1.1) q_221 rfl rfl (by decide) rfl rfl (by decide) rfl dX10_best_37 ?_
          refine j_iload_n C 1 dX10_best_40 rfl ?_
          refine j_wv C (fun H locs ls hP hD hS hl => run_VN (Cn := "") (As := [.int x1]) (st := []) C mf_X1_findBest 1 (kX_X1_findBest l D cI cZ ad q N h) q_493 (by decide) rfl rfl rfl rfl ⟨rfl, rfl, by decide, by decide⟩ (Nat.le_of_ble_eq_true rfl) dX10_best_41 hP hD hS hl) (fun u7 h => ?_)
          refine j_iload_n C 2 dX10_best_44 rfl ?_
          by_cases c8 : x2 = 0
          · have h := h.1 c8
            refine j_look C (off := 27) 72 dX10_best_45 (by decide) (by rw [c8]; decide) (by decide) ?_
            refine j_aload_n C 0 dX10_best_72 rfl ?_
            refine j_get C 0 0 (ly_X10 C.2.2.2.2.2.2.2.1.1) q_221 rfl rfl (by decide) rfl rfl (by decide) rfl dX10_best_73 ?_
            refine j_getN C 1 2 (ly_X1 C.2.2.2.2.2.2.2.1.1) q_176 rfl rfl (by decide) rfl rfl (by decide) rfl dX10_best_76 ?_
            exact j_iret C dX10_best_79 h
          · have h := h.2 c8
            by_cases c9 : x2 = 1
            · have h := h.1 c9
              refine j_look C (off := 35) 80 dX10_best_45 (by decide) (by rw [c9]; decide) (by decide) ?_
              refine j_aload_n C 0 dX10_best_80 rfl ?_
              refine j_get C 0 0 (ly_X10 C.2.2.2.2.2.2.2.1.1) q_221 rfl rfl (by decide) rfl rfl (by decide) rfl dX10_best_81 ?_
              refine j_getN C 1 3 (ly_X1 C.2.2.2.2.2.2.2.1.1) q_178 rfl rfl (by decide) rfl rfl (by decide) rfl dX10_best_84 ?_
              exact j_iret C dX10_best_87 h
            · have h := h.2 c9
              refine j_look C (off := 43) 88 dX10_best_45 (by decide) (by have z0 : x2.toInt ≠ 0 := sw_ne c8; have z1 : x2.toInt ≠ 1 := sw_ne c9; simp [Op.lookupswitch.offset, z0, z0.symm, z1, z1.symm]) (by decide) ?_
              refine j_aload_n C 0 dX10_best_88 rfl ?_
              refine j_get C 0 0 (ly_X10 C.2.2.2.2.2.2.2.1.1) q_221 rfl rfl (by decide) rfl rfl (by decide) rfl dX10_best_89 ?_
              refine j_getN C 1 4 (ly_X1 C.2.2.2.2.2.2.2.1.1) q_180 rfl rfl (by decide) rfl rfl (by decide) rfl dX10_best_92 ?_
              exact j_iret C dX10_best_95 h
        · have h := h.2 c5
          refine j_bipush (v := (-3)) C dX10_best_33 (by decide) ?_
          exact j_iret C dX10_best_35 h
      · have h := h.2 c4
        refine j_bipush (v := (-2)) C dX10_best_17 (by decide) ?_
        exact j_iret C dX10_best_19 h
    · have h := h.2 c2
      refine j_iconst (v := (-1)) C dX10_best_8 (by decide) ?_
      exact j_iret C dX10_best_9 h

def wX10_choice (N : Nat) (x1 : Int32) (x2 : Int32) (u : MM) (K : Int32 → MM → Prop) : Prop := (wX2_has N x1 u (fun r1 u2 => ((r1 = 0 → (K (-1) u2)) ∧ (¬ r1 = 0 → (wX10_isIn N x2 2 (fun r4 => ((¬ r4 = 0 → (wX9_yetToTell N 27 u2 (fun r6 u7 => (wX10_hasBit N r6 x1 (fun r8 => ((¬ r8 = 0 → (wX1_findChoice N x1 u7 (fun u11 => ((¬ x2 = 0 → (K (u11 1 6) u11)) ∧ (x2 = 0 → (K (u11 1 5) u11)))))) ∧ (r8 = 0 → (K (-3) u7)))))))) ∧ (r4 = 0 → (K (-1) u2)))))))))
set_option maxRecDepth 100000 in
set_option maxHeartbeats 4000000 in
theorem kX_X10_choice (l : Launch) (D : va_G) (cI cZ : ClassId) (ad q : Nat → Nat) (N : Nat) {x1 : Int32} {x2 : Int32} {u : MM} {K : Int32 → MM → Prop} (h : wX10_choice N x1 x2 u K) : CT l D cI cZ ad 72 q (entC q cI cZ) yX10_choice cX10_choice 3 (some .int) (rr 7 175) [.ref (q 0), .int x1, .int x2] u (QI D 72 q (entC q cI cZ) K) := by
    refine ct_of (by decide +kernel) (Nat.le_of_ble_eq_true rfl) (fun p e s m args below meth c C => ?_)
    refine j_sub (lv' := [(0, .ref (q 0)), (1, .int x1), (2, .int x2)]) [0, 1, 2] rfl ?_
    refine j_aload_n C 0 dX10_choice_0 rfl ?_
    refine j_get C 0 2 (ly_X10 C.2.2.2.2.2.2.2.1.1) q_223 rfl rfl (by decide) rfl rfl (by decide) rfl dX10_choice_1 ?_
    refine j_getN C 10 3 (ly_X5 C.2.2.2.2.2.2.2.1.1) q_156 rfl rfl (by decide) rfl rfl (by decide) rfl dX10_choice_4 ?_
    refine j_iload_n C 1 dX10_choice_7 rfl ?_
    refine j_wi C (fun H locs ls hP hD hS hl => run_VN (Cn := "") (As := [.int x1]) (st := []) C mf_X2_has 21 (kX_X2_has l D cI cZ ad q N h) q_361 (by decide) rfl rfl rfl rfl ⟨rfl, rfl, by decide, by decide⟩ (Nat.le_of_ble_eq_true rfl) dX10_choice_8 hP hD hS hl) (fun r1 u2 h => ?_)
    refine j_if_eq C 22 dX10_choice_11 (by decide) (fun c3 => ?_) (fun c3 => ?_)
    · have h := h.1 c3
      refine j_iconst (v := (-1)) C dX10_choice_22 (by decide) ?_
      exact j_iret C dX10_choice_23 h
    · have h := h.2 c3
      refine j_iload_n C 2 dX10_choice_14 rfl ?_
      refine j_iconst (v := 2) C dX10_choice_15 (by decide) ?_
      refine j_ui C (fun H locs ls hP hD => run_S (As := [.int x2, .int 2]) (st := []) C mf_X10_isIn (kX_X10_isIn l D cI cZ ad q N h) q_348 rfl rfl ⟨rfl, rfl, by decide, by decide⟩ (Nat.le_of_ble_eq_true rfl) dX10_choice_16 hP hD) (fun r4 _ h => ?_)
      refine j_if_ne C 24 dX10_choice_19 (by decide) (fun c5 => ?_) (fun c5 => ?_)
      · have h := h.1 c5
        refine j_aload_n C 0 dX10_choice_24 rfl ?_
        refine j_get C 0 2 (ly_X10 C.2.2.2.2.2.2.2.1.1) q_223 rfl rfl (by decide) rfl rfl (by decide) rfl dX10_choice_25 ?_
        refine j_getN C 10 4 (ly_X5 C.2.2.2.2.2.2.2.1.1) q_159 rfl rfl (by decide) rfl rfl (by decide) rfl dX10_choice_28 ?_
        refine j_wi C (fun H locs ls hP hD hS hl => run_VN (Cn := "") (As := []) (st := []) C mf_X9_yetToTell 27 (kX_X9_yetToTell_27 l D cI cZ ad q N h) q_503 (by decide) rfl rfl rfl rfl ⟨rfl, rfl, by decide, by decide⟩ (Nat.le_of_ble_eq_true rfl) dX10_choice_31 hP hD hS hl) (fun r6 u7 h => ?_)
        refine j_iload_n C 1 dX10_choice_34 rfl ?_
        refine j_ui C (fun H locs ls hP hD => run_S (As := [.int r6, .int x1]) (st := []) C mf_X10_hasBit (kX_X10_hasBit l D cI cZ ad q N h) q_365 rfl rfl ⟨rfl, rfl, by decide, by decide⟩ (Nat.le_of_ble_eq_true rfl) dX10_choice_35 hP hD) (fun r8 _ h => ?_)
        refine j_if_ne C 44 dX10_choice_38 (by decide) (fun c9 => ?_) (fun c9 => ?_)
        · have h := h.1 c9
          refine j_aload_n C 0 dX10_choice_44 rfl ?_
          refine j_get C 0 0 (ly_X10 C.2.2.2.2.2.2.2.1.1) q_221 rfl rfl (by decide) rfl rfl (by decide) rfl dX10_choice_45 ?_
          refine j_iload_n C 1 dX10_choice_48 rfl ?_
          refine j_wv C (fun H locs ls hP hD hS hl => run_VN (Cn := "") (As := [.int x1]) (st := []) C mf_X1_findChoice 1 (kX_X1_findChoice l D cI cZ ad q N h) q_504 (by decide) rfl rfl rfl rfl ⟨rfl, rfl, by decide, by decide⟩ (Nat.le_of_ble_eq_true rfl) dX10_choice_49 hP hD hS hl) (fun u11 h => ?_)
          refine j_iload_n C 2 dX10_choice_52 rfl ?_
          refine j_if_ne C 66 dX10_choice_53 (by decide) (fun c12 => ?_) (fun c12 => ?_)
          · have h := h.1 c12
            refine j_aload_n C 0 dX10_choice_66 rfl ?_
            refine j_get C 0 0 (ly_X10 C.2.2.2.2.2.2.2.1.1) q_221 rfl rfl (by decide) rfl rfl (by decide) rfl dX10_choice_67 ?_
            refine j_getN C 1 6 (ly_X1 C.2.2.2.2.2.2.2.1.1) q_184 rfl rfl (by decide) rfl rfl (by decide) rfl dX10_choice_70 ?_
            exact j_iret C dX10_choice_73 h
          · have h := h.2 c12
            refine j_aload_n C 0 dX10_choice_56 rfl ?_
            refine j_get C 0 0 (ly_X10 C.2.2.2.2.2.2.2.1.1) q_221 rfl rfl (by decide) rfl rfl (by decide) rfl dX10_choice_57 ?_
            refine j_getN C 1 5 (ly_X1 C.2.2.2.2.2.2.2.1.1) q_182 rfl rfl (by decide) rfl rfl (by decide) rfl dX10_choice_60 ?_
            refine j_goto C 73 dX10_choice_63 (by decide) ?_
            exact j_iret C dX10_choice_73 h
        · have h := h.2 c9
          refine j_bipush (v := (-3)) C dX10_choice_41 (by decide) ?_
          exact j_iret C dX10_choice_43 h
      · have h := h.2 c5
        refine j_iconst (v := (-1)) C dX10_choice_22 (by decide) ?_
        exact j_iret C dX10_choice_23 h

def wX10_reach (N : Nat) (x1 : Int32) (x2 : Int32) (u : MM) (K : Int32 → MM → Prop) : Prop := (wX2_has N x1 u (fun r1 u2 => ((r1 = 0 → (K (-1) u2)) ∧ (¬ r1 = 0 → (wX2_has N x2 u2 (fun r4 u5 => ((¬ r4 = 0 → (wX9_yetToTell N 27 u5 (fun r7 u8 => (wX10_hasBit N r7 x1 (fun r9 => ((¬ r9 = 0 → (wX1_findReach N x1 x2 u8 (fun r11 u12 => (K r11 u12)))) ∧ (r9 = 0 → (K (-3) u8)))))))) ∧ (r4 = 0 → (K (-1) u5)))))))))
set_option maxRecDepth 100000 in
set_option maxHeartbeats 4000000 in
theorem kX_X10_reach (l : Launch) (D : va_G) (cI cZ : ClassId) (ad q : Nat → Nat) (N : Nat) {x1 : Int32} {x2 : Int32} {u : MM} {K : Int32 → MM → Prop} (h : wX10_reach N x1 x2 u K) : CT l D cI cZ ad 72 q (entC q cI cZ) yX10_reach cX10_reach 3 (some .int) (rr 7 175) [.ref (q 0), .int x1, .int x2] u (QI D 72 q (entC q cI cZ) K) := by
    refine ct_of (by decide +kernel) (Nat.le_of_ble_eq_true rfl) (fun p e s m args below meth c C => ?_)
    refine j_sub (lv' := [(0, .ref (q 0)), (1, .int x1), (2, .int x2)]) [0, 1, 2] rfl ?_
    refine j_aload_n C 0 dX10_reach_0 rfl ?_
    refine j_get C 0 2 (ly_X10 C.2.2.2.2.2.2.2.1.1) q_223 rfl rfl (by decide) rfl rfl (by decide) rfl dX10_reach_1 ?_
    refine j_getN C 10 3 (ly_X5 C.2.2.2.2.2.2.2.1.1) q_156 rfl rfl (by decide) rfl rfl (by decide) rfl dX10_reach_4 ?_
    refine j_iload_n C 1 dX10_reach_7 rfl ?_
    refine j_wi C (fun H locs ls hP hD hS hl => run_VN (Cn := "") (As := [.int x1]) (st := []) C mf_X2_has 21 (kX_X2_has l D cI cZ ad q N h) q_361 (by decide) rfl rfl rfl rfl ⟨rfl, rfl, by decide, by decide⟩ (Nat.le_of_ble_eq_true rfl) dX10_reach_8 hP hD hS hl) (fun r1 u2 h => ?_)
    refine j_if_eq C 28 dX10_reach_11 (by decide) (fun c3 => ?_) (fun c3 => ?_)
    · have h := h.1 c3
      refine j_iconst (v := (-1)) C dX10_reach_28 (by decide) ?_
      exact j_iret C dX10_reach_29 h
    · have h := h.2 c3
      refine j_aload_n C 0 dX10_reach_14 rfl ?_
      refine j_get C 0 2 (ly_X10 C.2.2.2.2.2.2.2.1.1) q_223 rfl rfl (by decide) rfl rfl (by decide) rfl dX10_reach_15 ?_
      refine j_getN C 10 3 (ly_X5 C.2.2.2.2.2.2.2.1.1) q_156 rfl rfl (by decide) rfl rfl (by decide) rfl dX10_reach_18 ?_
      refine j_iload_n C 2 dX10_reach_21 rfl ?_
      refine j_wi C (fun H locs ls hP hD hS hl => run_VN (Cn := "") (As := [.int x2]) (st := []) C mf_X2_has 21 (kX_X2_has l D cI cZ ad q N h) q_361 (by decide) rfl rfl rfl rfl ⟨rfl, rfl, by decide, by decide⟩ (Nat.le_of_ble_eq_true rfl) dX10_reach_22 hP hD hS hl) (fun r4 u5 h => ?_)
      refine j_if_ne C 30 dX10_reach_25 (by decide) (fun c6 => ?_) (fun c6 => ?_)
      · have h := h.1 c6
        refine j_aload_n C 0 dX10_reach_30 rfl ?_
        refine j_get C 0 2 (ly_X10 C.2.2.2.2.2.2.2.1.1) q_223 rfl rfl (by decide) rfl rfl (by decide) rfl dX10_reach_31 ?_
        refine j_getN C 10 4 (ly_X5 C.2.2.2.2.2.2.2.1.1) q_159 rfl rfl (by decide) rfl rfl (by decide) rfl dX10_reach_34 ?_
        refine j_wi C (fun H locs ls hP hD hS hl => run_VN (Cn := "") (As := []) (st := []) C mf_X9_yetToTell 27 (kX_X9_yetToTell_27 l D cI cZ ad q N h) q_503 (by decide) rfl rfl rfl rfl ⟨rfl, rfl, by decide, by decide⟩ (Nat.le_of_ble_eq_true rfl) dX10_reach_37 hP hD hS hl) (fun r7 u8 h => ?_)
        refine j_iload_n C 1 dX10_reach_40 rfl ?_
        refine j_ui C (fun H locs ls hP hD => run_S (As := [.int r7, .int x1]) (st := []) C mf_X10_hasBit (kX_X10_hasBit l D cI cZ ad q N h) q_365 rfl rfl ⟨rfl, rfl, by decide, by decide⟩ (Nat.le_of_ble_eq_true rfl) dX10_reach_41 hP hD) (fun r9 _ h => ?_)
        refine j_if_ne C 50 dX10_reach_44 (by decide) (fun c10 => ?_) (fun c10 => ?_)
        · have h := h.1 c10
          refine j_aload_n C 0 dX10_reach_50 rfl ?_
          refine j_get C 0 0 (ly_X10 C.2.2.2.2.2.2.2.1.1) q_221 rfl rfl (by decide) rfl rfl (by decide) rfl dX10_reach_51 ?_
          refine j_iload_n C 1 dX10_reach_54 rfl ?_
          refine j_iload_n C 2 dX10_reach_55 rfl ?_
          refine j_wi C (fun H locs ls hP hD hS hl => run_VN (Cn := "") (As := [.int x1, .int x2]) (st := []) C mf_X1_findReach 1 (kX_X1_findReach l D cI cZ ad q N h) q_518 (by decide) rfl rfl rfl rfl ⟨rfl, rfl, by decide, by decide⟩ (Nat.le_of_ble_eq_true rfl) dX10_reach_56 hP hD hS hl) (fun r11 u12 h => ?_)
          exact j_iret C dX10_reach_59 h
        · have h := h.2 c10
          refine j_bipush (v := (-3)) C dX10_reach_47 (by decide) ?_
          exact j_iret C dX10_reach_49 h
      · have h := h.2 c6
        refine j_iconst (v := (-1)) C dX10_reach_28 (by decide) ?_
        exact j_iret C dX10_reach_29 h

def wX10_see (N : Nat) (x1 : Int32) (x2 : Int32) (u : MM) (K : Int32 → MM → Prop) : Prop := ((¬ x1 = (-1) → ((x1 < 0 → (K (-2) u)) ∧ (¬ x1 < 0 → (wX2_all N u (fun r3 u4 => ((r3 < x1 → (K (-2) u4)) ∧ (¬ r3 < x1 → (wX10_isIn N x2 7 (fun r6 => ((¬ r6 = 0 → (wX4_add N 30 x1 x2 u4 (fun r8 u9 => ((r8 = 0 → (K (-4) u9)) ∧ (¬ r8 = 0 → (K (u9 30 0) u9)))))) ∧ (r6 = 0 → (K (-2) u4)))))))))))) ∧ (x1 = (-1) → (∀ u11 : MM, u11 = up u 30 0 0 → (K 0 u11))))
set_option maxRecDepth 100000 in
set_option maxHeartbeats 4000000 in
theorem kX_X10_see (l : Launch) (D : va_G) (cI cZ : ClassId) (ad q : Nat → Nat) (N : Nat) {x1 : Int32} {x2 : Int32} {u : MM} {K : Int32 → MM → Prop} (h : wX10_see N x1 x2 u K) : CT l D cI cZ ad 72 q (entC q cI cZ) yX10_see cX10_see 3 (some .int) (rr 1 22) [.ref (q 0), .int x1, .int x2] u (QI D 72 q (entC q cI cZ) K) := by
    refine ct_of (by decide +kernel) (Nat.le_of_ble_eq_true rfl) (fun p e s m args below meth c C => ?_)
    refine j_sub (lv' := [(0, .ref (q 0)), (1, .int x1), (2, .int x2)]) [0, 1, 2] rfl ?_
    refine j_iload_n C 1 dX10_see_0 rfl ?_
    refine j_iconst (v := (-1)) C dX10_see_1 (by decide) ?_
    refine j_icmp_ne C 18 dX10_see_2 (by decide) (fun c1 => ?_) (fun c1 => ?_)
    · have h := h.1 c1
      refine j_iload_n C 1 dX10_see_18 rfl ?_
      refine j_if_lt C 45 dX10_see_19 (by decide) (fun c2 => ?_) (fun c2 => ?_)
      · have h := h.1 c2
        refine j_bipush (v := (-2)) C dX10_see_45 (by decide) ?_
        exact j_iret C dX10_see_47 h
      · have h := h.2 c2
        refine j_iload_n C 1 dX10_see_22 rfl ?_
        refine j_aload_n C 0 dX10_see_23 rfl ?_
        refine j_get C 0 2 (ly_X10 C.2.2.2.2.2.2.2.1.1) q_223 rfl rfl (by decide) rfl rfl (by decide) rfl dX10_see_24 ?_
        refine j_getN C 10 3 (ly_X5 C.2.2.2.2.2.2.2.1.1) q_156 rfl rfl (by decide) rfl rfl (by decide) rfl dX10_see_27 ?_
        refine j_wi C (fun H locs ls hP hD hS hl => run_VN (Cn := "") (As := []) (st := [.int x1]) C mf_X2_all 21 (kX_X2_all l D cI cZ ad q N h) q_486 (by decide) rfl rfl rfl rfl ⟨rfl, rfl, by decide, by decide⟩ (Nat.le_of_ble_eq_true rfl) dX10_see_30 hP hD hS hl) (fun r3 u4 h => ?_)
        refine j_icmp_gt C 45 dX10_see_33 (by decide) (fun c5 => ?_) (fun c5 => ?_)
        · have h := h.1 c5
          refine j_bipush (v := (-2)) C dX10_see_45 (by decide) ?_
          exact j_iret C dX10_see_47 h
        · have h := h.2 c5
          refine j_iload_n C 2 dX10_see_36 rfl ?_
          refine j_bipush (v := 7) C dX10_see_37 (by decide) ?_
          refine j_ui C (fun H locs ls hP hD => run_S (As := [.int x2, .int 7]) (st := []) C mf_X10_isIn (kX_X10_isIn l D cI cZ ad q N h) q_348 rfl rfl ⟨rfl, rfl, by decide, by decide⟩ (Nat.le_of_ble_eq_true rfl) dX10_see_39 hP hD) (fun r6 _ h => ?_)
          refine j_if_ne C 48 dX10_see_42 (by decide) (fun c7 => ?_) (fun c7 => ?_)
          · have h := h.1 c7
            refine j_aload_n C 0 dX10_see_48 rfl ?_
            refine j_get C 0 2 (ly_X10 C.2.2.2.2.2.2.2.1.1) q_223 rfl rfl (by decide) rfl rfl (by decide) rfl dX10_see_49 ?_
            refine j_getN C 10 5 (ly_X5 C.2.2.2.2.2.2.2.1.1) q_162 rfl rfl (by decide) rfl rfl (by decide) rfl dX10_see_52 ?_
            refine j_iload_n C 1 dX10_see_55 rfl ?_
            refine j_iload_n C 2 dX10_see_56 rfl ?_
            refine j_wi C (fun H locs ls hP hD hS hl => run_VN (Cn := "") (As := [.int x1, .int x2]) (st := []) C mf_X4_add 30 (kX_X4_add_30 l D cI cZ ad q N h) q_526 (by decide) rfl rfl rfl rfl ⟨rfl, rfl, by decide, by decide⟩ (Nat.le_of_ble_eq_true rfl) dX10_see_57 hP hD hS hl) (fun r8 u9 h => ?_)
            refine j_if_eq C 76 dX10_see_60 (by decide) (fun c10 => ?_) (fun c10 => ?_)
            · have h := h.1 c10
              refine j_bipush (v := (-4)) C dX10_see_76 (by decide) ?_
              exact j_iret C dX10_see_78 h
            · have h := h.2 c10
              refine j_aload_n C 0 dX10_see_63 rfl ?_
              refine j_get C 0 2 (ly_X10 C.2.2.2.2.2.2.2.1.1) q_223 rfl rfl (by decide) rfl rfl (by decide) rfl dX10_see_64 ?_
              refine j_getN C 10 5 (ly_X5 C.2.2.2.2.2.2.2.1.1) q_162 rfl rfl (by decide) rfl rfl (by decide) rfl dX10_see_67 ?_
              refine j_getN C 30 0 (ly_X4 C.2.2.2.2.2.2.2.1.1) q_139 rfl rfl (by decide) rfl rfl (by decide) rfl dX10_see_70 ?_
              refine j_goto C 78 dX10_see_73 (by decide) ?_
              exact j_iret C dX10_see_78 h
          · have h := h.2 c7
            refine j_bipush (v := (-2)) C dX10_see_45 (by decide) ?_
            exact j_iret C dX10_see_47 h
    · have h := h.2 c1
      refine j_aload_n C 0 dX10_see_5 rfl ?_
      refine j_get C 0 2 (ly_X10 C.2.2.2.2.2.2.2.1.1) q_223 rfl rfl (by decide) rfl rfl (by decide) rfl dX10_see_6 ?_
      refine j_getN C 10 5 (ly_X5 C.2.2.2.2.2.2.2.1.1) q_162 rfl rfl (by decide) rfl rfl (by decide) rfl dX10_see_9 ?_
      refine j_iconst (v := 0) C dX10_see_12 (by decide) ?_
      refine j_putN C 30 0 (ly_X4 C.2.2.2.2.2.2.2.1.1) q_139 rfl rfl (by decide) rfl rfl (by decide) tyX4_ok nmX4 rfl rfl ⟨rfl, rfl⟩ (Nat.le_of_ble_eq_true rfl) rfl dX10_see_13 ?_
      refine j_nmu (fun u11 eu11 => ?_)
      have h := h u11 eu11
      refine j_iconst (v := 0) C dX10_see_16 (by decide) ?_
      exact j_iret C dX10_see_17 h

def wX10_began (N : Nat) (x1 : Int32) (u : MM) (K : Int32 → MM → Prop) : Prop := (wX10_isIn N x1 2 (fun r1 => ((¬ r1 = 0 → (wX1_findBegan N u (fun u4 => ((¬ x1 = 0 → (K (u4 1 8) u4)) ∧ (x1 = 0 → (K (u4 1 7) u4)))))) ∧ (r1 = 0 → (K (-1) u)))))
set_option maxRecDepth 100000 in
set_option maxHeartbeats 4000000 in
theorem kX_X10_began (l : Launch) (D : va_G) (cI cZ : ClassId) (ad q : Nat → Nat) (N : Nat) {x1 : Int32} {u : MM} {K : Int32 → MM → Prop} (h : wX10_began N x1 u K) : CT l D cI cZ ad 72 q (entC q cI cZ) yX10_began cX10_began 2 (some .int) (rr 7 171) [.ref (q 0), .int x1] u (QI D 72 q (entC q cI cZ) K) := by
    refine ct_of (by decide +kernel) (Nat.le_of_ble_eq_true rfl) (fun p e s m args below meth c C => ?_)
    refine j_sub (lv' := [(0, .ref (q 0)), (1, .int x1)]) [0, 1] rfl ?_
    refine j_iload_n C 1 dX10_began_0 rfl ?_
    refine j_iconst (v := 2) C dX10_began_1 (by decide) ?_
    refine j_ui C (fun H locs ls hP hD => run_S (As := [.int x1, .int 2]) (st := []) C mf_X10_isIn (kX_X10_isIn l D cI cZ ad q N h) q_348 rfl rfl ⟨rfl, rfl, by decide, by decide⟩ (Nat.le_of_ble_eq_true rfl) dX10_began_2 hP hD) (fun r1 _ h => ?_)
    refine j_if_ne C 10 dX10_began_5 (by decide) (fun c2 => ?_) (fun c2 => ?_)
    · have h := h.1 c2
      refine j_aload_n C 0 dX10_began_10 rfl ?_
      refine j_get C 0 0 (ly_X10 C.2.2.2.2.2.2.2.1.1) q_221 rfl rfl (by decide) rfl rfl (by decide) rfl dX10_began_11 ?_
      refine j_wv C (fun H locs ls hP hD hS hl => run_VN (Cn := "") (As := []) (st := []) C mf_X1_findBegan 1 (kX_X1_findBegan l D cI cZ ad q N h) q_533 (by decide) rfl rfl rfl rfl ⟨rfl, rfl, by decide, by decide⟩ (Nat.le_of_ble_eq_true rfl) dX10_began_14 hP hD hS hl) (fun u4 h => ?_)
      refine j_iload_n C 1 dX10_began_17 rfl ?_
      refine j_if_ne C 31 dX10_began_18 (by decide) (fun c5 => ?_) (fun c5 => ?_)
      · have h := h.1 c5
        refine j_aload_n C 0 dX10_began_31 rfl ?_
        refine j_get C 0 0 (ly_X10 C.2.2.2.2.2.2.2.1.1) q_221 rfl rfl (by decide) rfl rfl (by decide) rfl dX10_began_32 ?_
        refine j_getN C 1 8 (ly_X1 C.2.2.2.2.2.2.2.1.1) q_188 rfl rfl (by decide) rfl rfl (by decide) rfl dX10_began_35 ?_
        exact j_iret C dX10_began_38 h
      · have h := h.2 c5
        refine j_aload_n C 0 dX10_began_21 rfl ?_
        refine j_get C 0 0 (ly_X10 C.2.2.2.2.2.2.2.1.1) q_221 rfl rfl (by decide) rfl rfl (by decide) rfl dX10_began_22 ?_
        refine j_getN C 1 7 (ly_X1 C.2.2.2.2.2.2.2.1.1) q_186 rfl rfl (by decide) rfl rfl (by decide) rfl dX10_began_25 ?_
        refine j_goto C 38 dX10_began_28 (by decide) ?_
        exact j_iret C dX10_began_38 h
    · have h := h.2 c2
      refine j_iconst (v := (-1)) C dX10_began_8 (by decide) ?_
      exact j_iret C dX10_began_9 h

def wX10_stops (N : Nat) (x1 : Int32) (u : MM) (K : Int32 → MM → Prop) : Prop := (wX2_has N x1 u (fun r1 u2 => ((¬ r1 = 0 → (wX10_hasBit N (u2 27 2) x1 (fun r4 => ((r4 = 0 → (wX9_copyFrom N 7 27 u2 (fun u7 => (wX7_goOn N (-1) 0 (-1) u7 (fun r8 u9 => (wJ6_bitCount_0f7a4 N ((u9 7 2) &&& (((1 : Int32) <<< (x1 &&& 31)) ^^^ ((-1) : Int32))) (fun r10 => (wX9_copyFrom N 7 27 u9 (fun u12 => (wX7_goOn N (-1) 0 x1 u12 (fun r13 u14 => (wJ6_bitCount_0f7a4 N (u14 7 2) (fun r15 => (K (r10 - r15) u14)))))))))))))) ∧ (¬ r4 = 0 → (K (-1002) u2)))))) ∧ (r1 = 0 → (K (-1001) u2)))))
set_option maxRecDepth 100000 in
set_option maxHeartbeats 4000000 in
theorem kX_X10_stops (l : Launch) (D : va_G) (cI cZ : ClassId) (ad q : Nat → Nat) (N : Nat) {x1 : Int32} {u : MM} {K : Int32 → MM → Prop} (h : wX10_stops N x1 u K) : CT l D cI cZ ad 72 q (entC q cI cZ) yX10_stops cX10_stops 4 (some .int) (rr 6 149) [.ref (q 0), .int x1] u (QI D 72 q (entC q cI cZ) K) := by
    refine ct_of (by decide +kernel) (Nat.le_of_ble_eq_true rfl) (fun p e s m args below meth c C => ?_)
    refine j_sub (lv' := [(0, .ref (q 0)), (1, .int x1)]) [0, 1] rfl ?_
    refine j_aload_n C 0 dX10_stops_0 rfl ?_
    refine j_get C 0 2 (ly_X10 C.2.2.2.2.2.2.2.1.1) q_223 rfl rfl (by decide) rfl rfl (by decide) rfl dX10_stops_1 ?_
    refine j_getN C 10 3 (ly_X5 C.2.2.2.2.2.2.2.1.1) q_156 rfl rfl (by decide) rfl rfl (by decide) rfl dX10_stops_4 ?_
    refine j_iload_n C 1 dX10_stops_7 rfl ?_
    refine j_wi C (fun H locs ls hP hD hS hl => run_VN (Cn := "") (As := [.int x1]) (st := []) C mf_X2_has 21 (kX_X2_has l D cI cZ ad q N h) q_361 (by decide) rfl rfl rfl rfl ⟨rfl, rfl, by decide, by decide⟩ (Nat.le_of_ble_eq_true rfl) dX10_stops_8 hP hD hS hl) (fun r1 u2 h => ?_)
    refine j_if_ne C 18 dX10_stops_11 (by decide) (fun c3 => ?_) (fun c3 => ?_)
    · have h := h.1 c3
      refine j_aload_n C 0 dX10_stops_18 rfl ?_
      refine j_get C 0 2 (ly_X10 C.2.2.2.2.2.2.2.1.1) q_223 rfl rfl (by decide) rfl rfl (by decide) rfl dX10_stops_19 ?_
      refine j_getN C 10 4 (ly_X5 C.2.2.2.2.2.2.2.1.1) q_159 rfl rfl (by decide) rfl rfl (by decide) rfl dX10_stops_22 ?_
      refine j_getN C 27 2 (ly_X9 C.2.2.2.2.2.2.2.1.1) q_118 rfl rfl (by decide) rfl rfl (by decide) rfl dX10_stops_25 ?_
      refine j_iload_n C 1 dX10_stops_28 rfl ?_
      refine j_ui C (fun H locs ls hP hD => run_S (As := [.int (u2 27 2), .int x1]) (st := []) C mf_X10_hasBit (kX_X10_hasBit l D cI cZ ad q N h) q_365 rfl rfl ⟨rfl, rfl, by decide, by decide⟩ (Nat.le_of_ble_eq_true rfl) dX10_stops_29 hP hD) (fun r4 _ h => ?_)
      refine j_if_eq C 39 dX10_stops_32 (by decide) (fun c5 => ?_) (fun c5 => ?_)
      · have h := h.1 c5
        refine j_aload_n C 0 dX10_stops_39 rfl ?_
        refine j_get C 0 0 (ly_X10 C.2.2.2.2.2.2.2.1.1) q_221 rfl rfl (by decide) rfl rfl (by decide) rfl dX10_stops_40 ?_
        refine j_getN C 1 1 (ly_X1 C.2.2.2.2.2.2.2.1.1) q_174 rfl rfl (by decide) rfl rfl (by decide) rfl dX10_stops_43 ?_
        refine j_astore_n (lv' := [(2, .ref (q 7)), (0, .ref (q 0)), (1, .int x1)]) C dX10_stops_46 (by decide) rfl ?_
        refine j_aload_n C 0 dX10_stops_47 rfl ?_
        refine j_aload_n C 1 dX10_stops_48 rfl ?_
        refine j_get C 0 2 (ly_X10 C.2.2.2.2.2.2.2.1.1) q_223 rfl rfl (by decide) rfl rfl (by decide) rfl dX10_stops_49 ?_
        refine j_getN C 10 4 (ly_X5 C.2.2.2.2.2.2.2.1.1) q_159 rfl rfl (by decide) rfl rfl (by decide) rfl dX10_stops_52 ?_
        refine j_wv C (fun H locs ls hP hD hS hl => run_VN (Cn := "") (As := [.ref (q 27)]) (st := []) C mf_X9_copyFrom 7 (kX_X9_copyFrom_7_27 l D cI cZ ad q N h) q_477 (by decide) rfl rfl rfl rfl ⟨rfl, rfl, by decide, by decide⟩ (Nat.le_of_ble_eq_true rfl) dX10_stops_55 hP hD hS hl) (fun u7 h => ?_)
        refine j_aload_n C 1 dX10_stops_58 rfl ?_
        refine j_get C 0 1 (ly_X10 C.2.2.2.2.2.2.2.1.1) q_222 rfl rfl (by decide) rfl rfl (by decide) rfl dX10_stops_59 ?_
        refine j_aload_n C 0 dX10_stops_62 rfl ?_
        refine j_iconst (v := (-1)) C dX10_stops_63 (by decide) ?_
        refine j_iconst (v := 0) C dX10_stops_64 (by decide) ?_
        refine j_iconst (v := (-1)) C dX10_stops_65 (by decide) ?_
        refine j_wi C (fun H locs ls hP hD hS hl => run_VN (Cn := "") (As := [.ref (q 7), .int (-1), .int 0, .int (-1)]) (st := []) C mf_X7_goOn 2 (kX_X7_goOn l D cI cZ ad q N h) q_481 (by decide) rfl rfl rfl rfl ⟨rfl, rfl, by decide, by decide⟩ (Nat.le_of_ble_eq_true rfl) dX10_stops_66 hP hD hS hl) (fun r8 u9 h => ?_)
        refine j_pop C dX10_stops_69 rfl ?_
        refine j_aload_n C 0 dX10_stops_70 rfl ?_
        refine j_getN C 7 2 (ly_X9 C.2.2.2.2.2.2.2.1.1) q_118 rfl rfl (by decide) rfl rfl (by decide) rfl dX10_stops_71 ?_
        refine j_iconst (v := 1) C dX10_stops_74 (by decide) ?_
        refine j_iload_n C 2 dX10_stops_75 rfl ?_
        refine j_ishl C dX10_stops_76 ?_
        refine j_iconst (v := (-1)) C dX10_stops_77 (by decide) ?_
        refine j_ixor C dX10_stops_78 ?_
        refine j_iand C dX10_stops_79 ?_
        refine j_ui C (fun H locs ls hP hD => run_S (As := [.int ((u9 7 2) &&& (((1 : Int32) <<< (x1 &&& 31)) ^^^ ((-1) : Int32)))]) (st := []) C mf_J6_bitCount_0f7a4 (kX_J6_bitCount_0f7a4 l D cI cZ ad q N h) q_485 rfl rfl ⟨rfl, rfl, by decide, by decide⟩ (Nat.le_of_ble_eq_true rfl) dX10_stops_80 hP hD) (fun r10 _ h => ?_)
        refine j_istore_n (lv' := [(3, .int r10), (2, .ref (q 7)), (0, .ref (q 0)), (1, .int x1)]) C dX10_stops_83 (by decide) rfl ?_
        refine j_aload_n C 1 dX10_stops_84 rfl ?_
        refine j_aload_n C 2 dX10_stops_85 rfl ?_
        refine j_get C 0 2 (ly_X10 C.2.2.2.2.2.2.2.1.1) q_223 rfl rfl (by decide) rfl rfl (by decide) rfl dX10_stops_86 ?_
        refine j_getN C 10 4 (ly_X5 C.2.2.2.2.2.2.2.1.1) q_159 rfl rfl (by decide) rfl rfl (by decide) rfl dX10_stops_89 ?_
        refine j_wv C (fun H locs ls hP hD hS hl => run_VN (Cn := "") (As := [.ref (q 27)]) (st := []) C mf_X9_copyFrom 7 (kX_X9_copyFrom_7_27 l D cI cZ ad q N h) q_477 (by decide) rfl rfl rfl rfl ⟨rfl, rfl, by decide, by decide⟩ (Nat.le_of_ble_eq_true rfl) dX10_stops_92 hP hD hS hl) (fun u12 h => ?_)
        refine j_aload_n C 2 dX10_stops_95 rfl ?_
        refine j_get C 0 1 (ly_X10 C.2.2.2.2.2.2.2.1.1) q_222 rfl rfl (by decide) rfl rfl (by decide) rfl dX10_stops_96 ?_
        refine j_aload_n C 1 dX10_stops_99 rfl ?_
        refine j_iconst (v := (-1)) C dX10_stops_100 (by decide) ?_
        refine j_iconst (v := 0) C dX10_stops_101 (by decide) ?_
        refine j_iload_n C 3 dX10_stops_102 rfl ?_
        refine j_wi C (fun H locs ls hP hD hS hl => run_VN (Cn := "") (As := [.ref (q 7), .int (-1), .int 0, .int x1]) (st := []) C mf_X7_goOn 2 (kX_X7_goOn l D cI cZ ad q N h) q_481 (by decide) rfl rfl rfl rfl ⟨rfl, rfl, by decide, by decide⟩ (Nat.le_of_ble_eq_true rfl) dX10_stops_103 hP hD hS hl) (fun r13 u14 h => ?_)
        refine j_pop C dX10_stops_106 rfl ?_
        refine j_iload_n C 0 dX10_stops_107 rfl ?_
        refine j_aload_n C 1 dX10_stops_108 rfl ?_
        refine j_getN C 7 2 (ly_X9 C.2.2.2.2.2.2.2.1.1) q_118 rfl rfl (by decide) rfl rfl (by decide) rfl dX10_stops_109 ?_
        refine j_ui C (fun H locs ls hP hD => run_S (As := [.int (u14 7 2)]) (st := [.int r10]) C mf_J6_bitCount_0f7a4 (kX_J6_bitCount_0f7a4 l D cI cZ ad q N h) q_485 rfl rfl ⟨rfl, rfl, by decide, by decide⟩ (Nat.le_of_ble_eq_true rfl) dX10_stops_112 hP hD) (fun r15 _ h => ?_)
        refine j_isub C dX10_stops_115 ?_
        exact j_iret C dX10_stops_116 h
      · have h := h.2 c5
        refine j_sipush (v := (-1002)) C dX10_stops_35 (by decide) ?_
        exact j_iret C dX10_stops_38 h
    · have h := h.2 c3
      refine j_sipush (v := (-1001)) C dX10_stops_14 (by decide) ?_
      exact j_iret C dX10_stops_17 h

def wX10_partOf_b45 (N : Nat) (K : Int64 → Prop) (x0 : Int64) (x2 : Int64) (x4 : Int32) (x5 : Int64) : Prop := ((¬ (lg_cmp x5 0) = 0 → ((¬ x4 = 0 → (¬ x5 = 0 ∧ (K (x2 / x5)))) ∧ (x4 = 0 → (¬ x5 = 0 ∧ (K (x0 / x5)))))) ∧ ((lg_cmp x5 0) = 0 → (K (-9223372036854775808))))
def wX10_partOf_b9 (N : Nat) (K : Int64 → Prop) : Nat → Int64 → Int64 → Int32 → Int64 → Int64 → Int32 → Prop
  | 0, _, _, _, _, _, _ => False
  | n + 1, x0, x2, x4, x5, x7, x9 => ((200 ≤ x9 → (wX10_partOf_b45 N K x0 x2 x4 x5)) ∧ (¬ 200 ≤ x9 → (((lg_cmp x7 0) = 0 → (wX10_partOf_b45 N K x0 x2 x4 x5)) ∧ (¬ (lg_cmp x7 0) = 0 → (¬ x7 = 0 ∧ (∀ y3 : Int64, y3 = (x5 - x5 / x7 * x7) → (∀ y4 : Int32, y4 = x9 + 1 → (wX10_partOf_b9 N K n x0 x2 x4 x7 y3 y4))))))))
def wX10_partOf (N : Nat) (x0 : Int64) (x2 : Int64) (x4 : Int32) (K : Int64 → Prop) : Prop := (wX10_partOf_b9 N K N x0 x2 x4 x2 x0 0)
set_option maxRecDepth 100000 in
set_option maxHeartbeats 4000000 in
theorem tX10_partOf_b45 (l : Launch) (D : va_G) (cI cZ : ClassId) (ad q : Nat → Nat) (N : Nat) {p : Program} {e : Env} {s : State} {m : MethodId} {args : Array Value} {below : List Frame} {meth : Method} {c : Code} {K : Int64 → Prop} (C : CX p s m args meth c cX10_partOf 12 RX10 (some .long) D cI cZ ad (AJ 0 q s.heap.size)) : ∀ (x0 : Int64) (x2 : Int64) (x4 : Int32) (x5 : Int64), wX10_partOf_b45 N K x0 x2 x4 x5 → JX p l e (rr 0 0) s m args below meth c D (AJ 0 q s.heap.size) 12 (MQ below ((QL D 0 q (entM q cI cZ) (fun r _ => K r)) (AJ 0 q s.heap.size)) args s 0 0 (AJ 0 q s.heap.size)) 0 q (entM q cI cZ) u00 45 [(0, .long x0), (2, .long x2), (4, .int x4), (5, .long x5)] [] := by
    intro x0 x2 x4 x5 h
    refine j_lload C 3 dX10_partOf_45 rfl ?_
    refine j_lconst (v := 0) C dX10_partOf_47 (by decide) ?_
    refine j_lcmp C dX10_partOf_48 ?_
    refine j_if_ne C 56 dX10_partOf_49 (by decide) (fun c5 => ?_) (fun c5 => ?_)
    · have h := h.1 c5
      refine j_iload C 2 dX10_partOf_56 rfl ?_
      refine j_if_ne C 65 dX10_partOf_58 (by decide) (fun c6 => ?_) (fun c6 => ?_)
      · have h := h.1 c6
        refine j_lload_n C 1 dX10_partOf_65 rfl ?_
        refine j_lload C 3 dX10_partOf_66 rfl ?_
        obtain ⟨hne, h⟩ := h
        refine j_ldiv C dX10_partOf_68 hne ?_
        exact j_lret (K := fun r _ => K r) C dX10_partOf_69 h
      · have h := h.2 c6
        refine j_lload_n C 0 dX10_partOf_61 rfl ?_
        refine j_goto C 66 dX10_partOf_62 (by decide) ?_
        refine j_lload C 3 dX10_partOf_66 rfl ?_
        obtain ⟨hne, h⟩ := h
        refine j_ldiv C dX10_partOf_68 hne ?_
        exact j_lret (K := fun r _ => K r) C dX10_partOf_69 h
    · have h := h.2 c5
      refine j_ldc2 C (-9223372036854775808) q_464 dX10_partOf_52 ?_
      exact j_lret (K := fun r _ => K r) C dX10_partOf_55 h
set_option maxRecDepth 100000 in
set_option maxHeartbeats 4000000 in
theorem tX10_partOf_b9 (l : Launch) (D : va_G) (cI cZ : ClassId) (ad q : Nat → Nat) (N : Nat) {p : Program} {e : Env} {s : State} {m : MethodId} {args : Array Value} {below : List Frame} {meth : Method} {c : Code} {K : Int64 → Prop} (C : CX p s m args meth c cX10_partOf 12 RX10 (some .long) D cI cZ ad (AJ 0 q s.heap.size)) : ∀ (n : Nat) (x0 : Int64) (x2 : Int64) (x4 : Int32) (x5 : Int64) (x7 : Int64) (x9 : Int32), wX10_partOf_b9 N K n x0 x2 x4 x5 x7 x9 → JX p l e (rr 0 0) s m args below meth c D (AJ 0 q s.heap.size) 12 (MQ below ((QL D 0 q (entM q cI cZ) (fun r _ => K r)) (AJ 0 q s.heap.size)) args s 0 0 (AJ 0 q s.heap.size)) 0 q (entM q cI cZ) u00 9 [(0, .long x0), (2, .long x2), (4, .int x4), (5, .long x5), (7, .long x7), (9, .int x9)] [] := by
  intro n
  induction n with
  | zero => intro x0 x2 x4 x5 x7 x9 h; exact h.elim
  | succ n ih =>
    intro x0 x2 x4 x5 x7 x9 h
    refine j_iload C 5 dX10_partOf_9 rfl ?_
    refine j_sipush (v := 200) C dX10_partOf_11 (by decide) ?_
    refine j_icmp_ge C 45 dX10_partOf_14 (by decide) (fun c1 => ?_) (fun c1 => ?_)
    · have h := h.1 c1
      refine j_sub (lv' := [(0, .long x0), (2, .long x2), (4, .int x4), (5, .long x5)]) [0, 1, 2, 3] rfl ?_
      exact tX10_partOf_b45 l D cI cZ ad q N C _ _ _ _ h
    · have h := h.2 c1
      refine j_lload C 4 dX10_partOf_17 rfl ?_
      refine j_lconst (v := 0) C dX10_partOf_19 (by decide) ?_
      refine j_lcmp C dX10_partOf_20 ?_
      refine j_if_eq C 45 dX10_partOf_21 (by decide) (fun c2 => ?_) (fun c2 => ?_)
      · have h := h.1 c2
        refine j_sub (lv' := [(0, .long x0), (2, .long x2), (4, .int x4), (5, .long x5)]) [0, 1, 2, 3] rfl ?_
        exact tX10_partOf_b45 l D cI cZ ad q N C _ _ _ _ h
      · have h := h.2 c2
        refine j_lload C 3 dX10_partOf_24 rfl ?_
        refine j_lload C 4 dX10_partOf_26 rfl ?_
        obtain ⟨hne, h⟩ := h
        refine j_lrem C dX10_partOf_28 hne ?_
        refine j_nml (fun y3 ey3 => ?_)
        have h := h y3 ey3
        refine j_lstore (lv' := [(10, .long y3), (0, .long x0), (2, .long x2), (4, .int x4), (5, .long x5), (7, .long x7), (9, .int x9)]) C dX10_partOf_29 (by decide) rfl ?_
        refine j_lload C 5 dX10_partOf_31 rfl ?_
        refine j_lstore (lv' := [(5, .long x7), (10, .long y3), (0, .long x0), (2, .long x2), (4, .int x4), (7, .long x7), (9, .int x9)]) C dX10_partOf_33 (by decide) rfl ?_
        refine j_lload C 1 dX10_partOf_35 rfl ?_
        refine j_lstore (lv' := [(7, .long y3), (5, .long x7), (10, .long y3), (0, .long x0), (2, .long x2), (4, .int x4), (9, .int x9)]) C dX10_partOf_37 (by decide) rfl ?_
        obtain ⟨y4, ey4⟩ : ∃ z : Int32, z = x9 + 1 := ⟨_, rfl⟩
        have h := h y4 ey4
        refine j_iinc (v := y4) (lv' := [(9, .int y4), (7, .long y3), (5, .long x7), (10, .long y3), (0, .long x0), (2, .long x2), (4, .int x4)]) C 6 dX10_partOf_39 rfl (by rw [ey4]; rfl) (by decide) rfl ?_
        refine j_goto C 9 dX10_partOf_42 (by decide) ?_
        refine j_sub (lv' := [(0, .long x0), (2, .long x2), (4, .int x4), (5, .long x7), (7, .long y3), (9, .int y4)]) [4, 5, 6, 2, 1, 0] rfl ?_
        exact ih _ _ _ _ _ _ h
set_option maxRecDepth 100000 in
set_option maxHeartbeats 4000000 in
theorem kX_X10_partOf (l : Launch) (D : va_G) (cI cZ : ClassId) (ad q : Nat → Nat) (N : Nat) {x0 : Int64} {x2 : Int64} {x4 : Int32} {K : Int64 → Prop} (h : wX10_partOf N x0 x2 x4 K) : CT l D cI cZ ad 0 q (entM q cI cZ) yX10_partOf cX10_partOf 12 (some .long) (rr 0 0) [.long x0, .long x2, .int x4] u00 (QL D 0 q (entM q cI cZ) (fun r _ => K r)) := by
    refine ct_of (by decide +kernel) (Nat.le_of_ble_eq_true rfl) (fun p e s m args below meth c C => ?_)
    refine j_sub (lv' := [(0, .long x0), (2, .long x2), (4, .int x4)]) [0, 1, 2] rfl ?_
    refine j_lload_n C 1 dX10_partOf_0 rfl ?_
    refine j_lstore (lv' := [(5, .long x2), (0, .long x0), (2, .long x2), (4, .int x4)]) C dX10_partOf_1 (by decide) rfl ?_
    refine j_lload_n C 1 dX10_partOf_3 rfl ?_
    refine j_lstore (lv' := [(7, .long x0), (5, .long x2), (0, .long x0), (2, .long x2), (4, .int x4)]) C dX10_partOf_4 (by decide) rfl ?_
    refine j_iconst (v := 0) C dX10_partOf_6 (by decide) ?_
    refine j_istore (lv' := [(9, .int 0), (7, .long x0), (5, .long x2), (0, .long x0), (2, .long x2), (4, .int x4)]) C dX10_partOf_7 (by decide) rfl ?_
    refine j_sub (lv' := [(0, .long x0), (2, .long x2), (4, .int x4), (5, .long x2), (7, .long x0), (9, .int 0)]) [3, 4, 5, 2, 1, 0] rfl ?_
    exact tX10_partOf_b9 l D cI cZ ad q N C N _ _ _ _ _ _ h

def wX10_odds (N : Nat) (x1 : Int32) (x2 : Int32) (x3 : Int32) (u : MM) (K : Int64 → MM → Prop) : Prop := (wX2_has N x1 u (fun r1 u2 => ((r1 = 0 → (K (-9223372036854775808) u2)) ∧ (¬ r1 = 0 → (wX10_isNumber N x2 (fun r4 => ((r4 = 0 → (K (-9223372036854775808) u2)) ∧ (¬ r4 = 0 → (wX10_isIn N x3 2 (fun r6 => ((r6 = 0 → (K (-9223372036854775808) u2)) ∧ (¬ r6 = 0 → ((2 ≤ (u2 21 0) → (wX1_waysToHear N x1 x2 u2 (fun r9 u10 => (wX10_partOf N (Int32.toInt64 r9) (Int32.toInt64 ((u10 21 0) - 1)) x3 (fun r11 => (K r11 u10)))))) ∧ (¬ 2 ≤ (u2 21 0) → (K (-9223372036854775808) u2)))))))))))))))
set_option maxRecDepth 100000 in
set_option maxHeartbeats 4000000 in
theorem kX_X10_odds (l : Launch) (D : va_G) (cI cZ : ClassId) (ad q : Nat → Nat) (N : Nat) {x1 : Int32} {x2 : Int32} {x3 : Int32} {u : MM} {K : Int64 → MM → Prop} (h : wX10_odds N x1 x2 x3 u K) : CT l D cI cZ ad 72 q (entC q cI cZ) yX10_odds cX10_odds 4 (some .long) (rr 7 173) [.ref (q 0), .int x1, .int x2, .int x3] u (QL D 72 q (entC q cI cZ) K) := by
    refine ct_of (by decide +kernel) (Nat.le_of_ble_eq_true rfl) (fun p e s m args below meth c C => ?_)
    refine j_sub (lv' := [(0, .ref (q 0)), (1, .int x1), (2, .int x2), (3, .int x3)]) [0, 1, 2, 3] rfl ?_
    refine j_aload_n C 0 dX10_odds_0 rfl ?_
    refine j_get C 0 2 (ly_X10 C.2.2.2.2.2.2.2.1.1) q_223 rfl rfl (by decide) rfl rfl (by decide) rfl dX10_odds_1 ?_
    refine j_getN C 10 3 (ly_X5 C.2.2.2.2.2.2.2.1.1) q_156 rfl rfl (by decide) rfl rfl (by decide) rfl dX10_odds_4 ?_
    refine j_iload_n C 1 dX10_odds_7 rfl ?_
    refine j_wi C (fun H locs ls hP hD hS hl => run_VN (Cn := "") (As := [.int x1]) (st := []) C mf_X2_has 21 (kX_X2_has l D cI cZ ad q N h) q_361 (by decide) rfl rfl rfl rfl ⟨rfl, rfl, by decide, by decide⟩ (Nat.le_of_ble_eq_true rfl) dX10_odds_8 hP hD hS hl) (fun r1 u2 h => ?_)
    refine j_if_eq C 43 dX10_odds_11 (by decide) (fun c3 => ?_) (fun c3 => ?_)
    · have h := h.1 c3
      refine j_ldc2 C (-9223372036854775808) q_464 dX10_odds_43 ?_
      exact j_lret C dX10_odds_46 h
    · have h := h.2 c3
      refine j_iload_n C 2 dX10_odds_14 rfl ?_
      refine j_ui C (fun H locs ls hP hD => run_S (As := [.int x2]) (st := []) C mf_X10_isNumber (kX_X10_isNumber l D cI cZ ad q N h) q_351 rfl rfl ⟨rfl, rfl, by decide, by decide⟩ (Nat.le_of_ble_eq_true rfl) dX10_odds_15 hP hD) (fun r4 _ h => ?_)
      refine j_if_eq C 43 dX10_odds_18 (by decide) (fun c5 => ?_) (fun c5 => ?_)
      · have h := h.1 c5
        refine j_ldc2 C (-9223372036854775808) q_464 dX10_odds_43 ?_
        exact j_lret C dX10_odds_46 h
      · have h := h.2 c5
        refine j_iload_n C 3 dX10_odds_21 rfl ?_
        refine j_iconst (v := 2) C dX10_odds_22 (by decide) ?_
        refine j_ui C (fun H locs ls hP hD => run_S (As := [.int x3, .int 2]) (st := []) C mf_X10_isIn (kX_X10_isIn l D cI cZ ad q N h) q_348 rfl rfl ⟨rfl, rfl, by decide, by decide⟩ (Nat.le_of_ble_eq_true rfl) dX10_odds_23 hP hD) (fun r6 _ h => ?_)
        refine j_if_eq C 43 dX10_odds_26 (by decide) (fun c7 => ?_) (fun c7 => ?_)
        · have h := h.1 c7
          refine j_ldc2 C (-9223372036854775808) q_464 dX10_odds_43 ?_
          exact j_lret C dX10_odds_46 h
        · have h := h.2 c7
          refine j_aload_n C 0 dX10_odds_29 rfl ?_
          refine j_get C 0 2 (ly_X10 C.2.2.2.2.2.2.2.1.1) q_223 rfl rfl (by decide) rfl rfl (by decide) rfl dX10_odds_30 ?_
          refine j_getN C 10 3 (ly_X5 C.2.2.2.2.2.2.2.1.1) q_156 rfl rfl (by decide) rfl rfl (by decide) rfl dX10_odds_33 ?_
          refine j_getN C 21 0 (ly_X2 C.2.2.2.2.2.2.2.1.1) q_88 rfl rfl (by decide) rfl rfl (by decide) rfl dX10_odds_36 ?_
          refine j_iconst (v := 2) C dX10_odds_39 (by decide) ?_
          refine j_icmp_ge C 47 dX10_odds_40 (by decide) (fun c8 => ?_) (fun c8 => ?_)
          · have h := h.1 c8
            refine j_aload_n C 0 dX10_odds_47 rfl ?_
            refine j_get C 0 0 (ly_X10 C.2.2.2.2.2.2.2.1.1) q_221 rfl rfl (by decide) rfl rfl (by decide) rfl dX10_odds_48 ?_
            refine j_iload_n C 1 dX10_odds_51 rfl ?_
            refine j_iload_n C 2 dX10_odds_52 rfl ?_
            refine j_wi C (fun H locs ls hP hD hS hl => run_VN (Cn := "") (As := [.int x1, .int x2]) (st := []) C mf_X1_waysToHear 1 (kX_X1_waysToHear l D cI cZ ad q N h) q_548 (by decide) rfl rfl rfl rfl ⟨rfl, rfl, by decide, by decide⟩ (Nat.le_of_ble_eq_true rfl) dX10_odds_53 hP hD hS hl) (fun r9 u10 h => ?_)
            refine j_i2l C dX10_odds_56 ?_
            refine j_aload_n C 0 dX10_odds_57 rfl ?_
            refine j_get C 0 2 (ly_X10 C.2.2.2.2.2.2.2.1.1) q_223 rfl rfl (by decide) rfl rfl (by decide) rfl dX10_odds_58 ?_
            refine j_getN C 10 3 (ly_X5 C.2.2.2.2.2.2.2.1.1) q_156 rfl rfl (by decide) rfl rfl (by decide) rfl dX10_odds_61 ?_
            refine j_getN C 21 0 (ly_X2 C.2.2.2.2.2.2.2.1.1) q_88 rfl rfl (by decide) rfl rfl (by decide) rfl dX10_odds_64 ?_
            refine j_iconst (v := 1) C dX10_odds_67 (by decide) ?_
            refine j_isub C dX10_odds_68 ?_
            refine j_i2l C dX10_odds_69 ?_
            refine j_iload_n C 3 dX10_odds_70 rfl ?_
            refine j_ul C (fun H locs ls hP hD => run_S (As := [.long (Int32.toInt64 r9), .long (Int32.toInt64 ((u10 21 0) - 1)), .int x3]) (st := []) C mf_X10_partOf (kX_X10_partOf l D cI cZ ad q N h) q_551 rfl rfl ⟨rfl, rfl, by decide, by decide⟩ (Nat.le_of_ble_eq_true rfl) dX10_odds_71 hP hD) (fun r11 _ h => ?_)
            exact j_lret C dX10_odds_74 h
          · have h := h.2 c8
            refine j_ldc2 C (-9223372036854775808) q_464 dX10_odds_43 ?_
            exact j_lret C dX10_odds_46 h

def wX10_mean (N : Nat) (x1 : Int32) (x2 : Int32) (u : MM) (K : Int64 → MM → Prop) : Prop := (wX10_isNumber N x1 (fun r1 => ((r1 = 0 → (K (-9223372036854775808) u)) ∧ (¬ r1 = 0 → (wX10_isIn N x2 2 (fun r3 => ((r3 = 0 → (K (-9223372036854775808) u)) ∧ (¬ r3 = 0 → ((1 ≤ (u 21 0) → (wX1_finesOfAll N x1 u (fun r6 u7 => (wX10_partOf N r6 (Int32.toInt64 (u7 21 0)) x2 (fun r8 => (K r8 u7)))))) ∧ (¬ 1 ≤ (u 21 0) → (K (-9223372036854775808) u)))))))))))
set_option maxRecDepth 100000 in
set_option maxHeartbeats 4000000 in
theorem kX_X10_mean (l : Launch) (D : va_G) (cI cZ : ClassId) (ad q : Nat → Nat) (N : Nat) {x1 : Int32} {x2 : Int32} {u : MM} {K : Int64 → MM → Prop} (h : wX10_mean N x1 x2 u K) : CT l D cI cZ ad 72 q (entC q cI cZ) yX10_mean cX10_mean 3 (some .long) (rr 7 173) [.ref (q 0), .int x1, .int x2] u (QL D 72 q (entC q cI cZ) K) := by
    refine ct_of (by decide +kernel) (Nat.le_of_ble_eq_true rfl) (fun p e s m args below meth c C => ?_)
    refine j_sub (lv' := [(0, .ref (q 0)), (1, .int x1), (2, .int x2)]) [0, 1, 2] rfl ?_
    refine j_iload_n C 1 dX10_mean_0 rfl ?_
    refine j_ui C (fun H locs ls hP hD => run_S (As := [.int x1]) (st := []) C mf_X10_isNumber (kX_X10_isNumber l D cI cZ ad q N h) q_351 rfl rfl ⟨rfl, rfl, by decide, by decide⟩ (Nat.le_of_ble_eq_true rfl) dX10_mean_1 hP hD) (fun r1 _ h => ?_)
    refine j_if_eq C 29 dX10_mean_4 (by decide) (fun c2 => ?_) (fun c2 => ?_)
    · have h := h.1 c2
      refine j_ldc2 C (-9223372036854775808) q_464 dX10_mean_29 ?_
      exact j_lret C dX10_mean_32 h
    · have h := h.2 c2
      refine j_iload_n C 2 dX10_mean_7 rfl ?_
      refine j_iconst (v := 2) C dX10_mean_8 (by decide) ?_
      refine j_ui C (fun H locs ls hP hD => run_S (As := [.int x2, .int 2]) (st := []) C mf_X10_isIn (kX_X10_isIn l D cI cZ ad q N h) q_348 rfl rfl ⟨rfl, rfl, by decide, by decide⟩ (Nat.le_of_ble_eq_true rfl) dX10_mean_9 hP hD) (fun r3 _ h => ?_)
      refine j_if_eq C 29 dX10_mean_12 (by decide) (fun c4 => ?_) (fun c4 => ?_)
      · have h := h.1 c4
        refine j_ldc2 C (-9223372036854775808) q_464 dX10_mean_29 ?_
        exact j_lret C dX10_mean_32 h
      · have h := h.2 c4
        refine j_aload_n C 0 dX10_mean_15 rfl ?_
        refine j_get C 0 2 (ly_X10 C.2.2.2.2.2.2.2.1.1) q_223 rfl rfl (by decide) rfl rfl (by decide) rfl dX10_mean_16 ?_
        refine j_getN C 10 3 (ly_X5 C.2.2.2.2.2.2.2.1.1) q_156 rfl rfl (by decide) rfl rfl (by decide) rfl dX10_mean_19 ?_
        refine j_getN C 21 0 (ly_X2 C.2.2.2.2.2.2.2.1.1) q_88 rfl rfl (by decide) rfl rfl (by decide) rfl dX10_mean_22 ?_
        refine j_iconst (v := 1) C dX10_mean_25 (by decide) ?_
        refine j_icmp_ge C 33 dX10_mean_26 (by decide) (fun c5 => ?_) (fun c5 => ?_)
        · have h := h.1 c5
          refine j_aload_n C 0 dX10_mean_33 rfl ?_
          refine j_get C 0 0 (ly_X10 C.2.2.2.2.2.2.2.1.1) q_221 rfl rfl (by decide) rfl rfl (by decide) rfl dX10_mean_34 ?_
          refine j_iload_n C 1 dX10_mean_37 rfl ?_
          refine j_wl C (fun H locs ls hP hD hS hl => run_VN (Cn := "") (As := [.int x1]) (st := []) C mf_X1_finesOfAll 1 (kX_X1_finesOfAll l D cI cZ ad q N h) q_558 (by decide) rfl rfl rfl rfl ⟨rfl, rfl, by decide, by decide⟩ (Nat.le_of_ble_eq_true rfl) dX10_mean_38 hP hD hS hl) (fun r6 u7 h => ?_)
          refine j_aload_n C 0 dX10_mean_41 rfl ?_
          refine j_get C 0 2 (ly_X10 C.2.2.2.2.2.2.2.1.1) q_223 rfl rfl (by decide) rfl rfl (by decide) rfl dX10_mean_42 ?_
          refine j_getN C 10 3 (ly_X5 C.2.2.2.2.2.2.2.1.1) q_156 rfl rfl (by decide) rfl rfl (by decide) rfl dX10_mean_45 ?_
          refine j_getN C 21 0 (ly_X2 C.2.2.2.2.2.2.2.1.1) q_88 rfl rfl (by decide) rfl rfl (by decide) rfl dX10_mean_48 ?_
          refine j_i2l C dX10_mean_51 ?_
          refine j_iload_n C 2 dX10_mean_52 rfl ?_
          refine j_ul C (fun H locs ls hP hD => run_S (As := [.long r6, .long (Int32.toInt64 (u7 21 0)), .int x2]) (st := []) C mf_X10_partOf (kX_X10_partOf l D cI cZ ad q N h) q_551 rfl rfl ⟨rfl, rfl, by decide, by decide⟩ (Nat.le_of_ble_eq_true rfl) dX10_mean_53 hP hD) (fun r8 _ h => ?_)
          exact j_lret C dX10_mean_56 h
        · have h := h.2 c5
          refine j_ldc2 C (-9223372036854775808) q_464 dX10_mean_29 ?_
          exact j_lret C dX10_mean_32 h

def wX10_book (N : Nat) (x1 : Int32) (x2 : Int32) (u : MM) (K : Int32 → MM → Prop) : Prop := ((¬ x1 = (-1) → (wX2_has N x1 u (fun r2 u3 => ((¬ r2 = 0 → (wX10_isIn N x2 1000 (fun r5 => ((¬ r5 = 0 → (wX4_add8 N 33 x1 x2 u3 (fun r7 u8 => ((r7 = 0 → (K (-4) u8)) ∧ (¬ r7 = 0 → (K (u8 33 0) u8)))))) ∧ (r5 = 0 → (K (-2) u3)))))) ∧ (r2 = 0 → (K (-1) u3)))))) ∧ (x1 = (-1) → (∀ u10 : MM, u10 = up u 33 0 0 → (K 0 u10))))
set_option maxRecDepth 100000 in
set_option maxHeartbeats 4000000 in
theorem kX_X10_book (l : Launch) (D : va_G) (cI cZ : ClassId) (ad q : Nat → Nat) (N : Nat) {x1 : Int32} {x2 : Int32} {u : MM} {K : Int32 → MM → Prop} (h : wX10_book N x1 x2 u K) : CT l D cI cZ ad 72 q (entC q cI cZ) yX10_book cX10_book 3 (some .int) (rr 2 42) [.ref (q 0), .int x1, .int x2] u (QI D 72 q (entC q cI cZ) K) := by
    refine ct_of (by decide +kernel) (Nat.le_of_ble_eq_true rfl) (fun p e s m args below meth c C => ?_)
    refine j_sub (lv' := [(0, .ref (q 0)), (1, .int x1), (2, .int x2)]) [0, 1, 2] rfl ?_
    refine j_iload_n C 1 dX10_book_0 rfl ?_
    refine j_iconst (v := (-1)) C dX10_book_1 (by decide) ?_
    refine j_icmp_ne C 18 dX10_book_2 (by decide) (fun c1 => ?_) (fun c1 => ?_)
    · have h := h.1 c1
      refine j_aload_n C 0 dX10_book_18 rfl ?_
      refine j_get C 0 2 (ly_X10 C.2.2.2.2.2.2.2.1.1) q_223 rfl rfl (by decide) rfl rfl (by decide) rfl dX10_book_19 ?_
      refine j_getN C 10 3 (ly_X5 C.2.2.2.2.2.2.2.1.1) q_156 rfl rfl (by decide) rfl rfl (by decide) rfl dX10_book_22 ?_
      refine j_iload_n C 1 dX10_book_25 rfl ?_
      refine j_wi C (fun H locs ls hP hD hS hl => run_VN (Cn := "") (As := [.int x1]) (st := []) C mf_X2_has 21 (kX_X2_has l D cI cZ ad q N h) q_361 (by decide) rfl rfl rfl rfl ⟨rfl, rfl, by decide, by decide⟩ (Nat.le_of_ble_eq_true rfl) dX10_book_26 hP hD hS hl) (fun r2 u3 h => ?_)
      refine j_if_ne C 34 dX10_book_29 (by decide) (fun c4 => ?_) (fun c4 => ?_)
      · have h := h.1 c4
        refine j_iload_n C 2 dX10_book_34 rfl ?_
        refine j_sipush (v := 1000) C dX10_book_35 (by decide) ?_
        refine j_ui C (fun H locs ls hP hD => run_S (As := [.int x2, .int 1000]) (st := []) C mf_X10_isIn (kX_X10_isIn l D cI cZ ad q N h) q_348 rfl rfl ⟨rfl, rfl, by decide, by decide⟩ (Nat.le_of_ble_eq_true rfl) dX10_book_38 hP hD) (fun r5 _ h => ?_)
        refine j_if_ne C 47 dX10_book_41 (by decide) (fun c6 => ?_) (fun c6 => ?_)
        · have h := h.1 c6
          refine j_aload_n C 0 dX10_book_47 rfl ?_
          refine j_get C 0 2 (ly_X10 C.2.2.2.2.2.2.2.1.1) q_223 rfl rfl (by decide) rfl rfl (by decide) rfl dX10_book_48 ?_
          refine j_getN C 10 6 (ly_X5 C.2.2.2.2.2.2.2.1.1) q_164 rfl rfl (by decide) rfl rfl (by decide) rfl dX10_book_51 ?_
          refine j_iload_n C 1 dX10_book_54 rfl ?_
          refine j_iload_n C 2 dX10_book_55 rfl ?_
          refine j_wi C (fun H locs ls hP hD hS hl => run_VN (Cn := "") (As := [.int x1, .int x2]) (st := []) C mf_X4_add 33 (kX_X4_add_33 l D cI cZ ad q N h) q_526 (by decide) rfl rfl rfl rfl ⟨rfl, rfl, by decide, by decide⟩ (Nat.le_of_ble_eq_true rfl) dX10_book_56 hP hD hS hl) (fun r7 u8 h => ?_)
          refine j_if_eq C 75 dX10_book_59 (by decide) (fun c9 => ?_) (fun c9 => ?_)
          · have h := h.1 c9
            refine j_bipush (v := (-4)) C dX10_book_75 (by decide) ?_
            exact j_iret C dX10_book_77 h
          · have h := h.2 c9
            refine j_aload_n C 0 dX10_book_62 rfl ?_
            refine j_get C 0 2 (ly_X10 C.2.2.2.2.2.2.2.1.1) q_223 rfl rfl (by decide) rfl rfl (by decide) rfl dX10_book_63 ?_
            refine j_getN C 10 6 (ly_X5 C.2.2.2.2.2.2.2.1.1) q_164 rfl rfl (by decide) rfl rfl (by decide) rfl dX10_book_66 ?_
            refine j_getN C 33 0 (ly_X4 C.2.2.2.2.2.2.2.1.1) q_139 rfl rfl (by decide) rfl rfl (by decide) rfl dX10_book_69 ?_
            refine j_goto C 77 dX10_book_72 (by decide) ?_
            exact j_iret C dX10_book_77 h
        · have h := h.2 c6
          refine j_bipush (v := (-2)) C dX10_book_44 (by decide) ?_
          exact j_iret C dX10_book_46 h
      · have h := h.2 c4
        refine j_iconst (v := (-1)) C dX10_book_32 (by decide) ?_
        exact j_iret C dX10_book_33 h
    · have h := h.2 c1
      refine j_aload_n C 0 dX10_book_5 rfl ?_
      refine j_get C 0 2 (ly_X10 C.2.2.2.2.2.2.2.1.1) q_223 rfl rfl (by decide) rfl rfl (by decide) rfl dX10_book_6 ?_
      refine j_getN C 10 6 (ly_X5 C.2.2.2.2.2.2.2.1.1) q_164 rfl rfl (by decide) rfl rfl (by decide) rfl dX10_book_9 ?_
      refine j_iconst (v := 0) C dX10_book_12 (by decide) ?_
      refine j_putN C 33 0 (ly_X4 C.2.2.2.2.2.2.2.1.1) q_139 rfl rfl (by decide) rfl rfl (by decide) tyX4_ok nmX4 rfl rfl ⟨rfl, rfl⟩ (Nat.le_of_ble_eq_true rfl) rfl dX10_book_13 ?_
      refine j_nmu (fun u10 eu10 => ?_)
      have h := h u10 eu10
      refine j_iconst (v := 0) C dX10_book_16 (by decide) ?_
      exact j_iret C dX10_book_17 h

def wX10_looked_b10 (N : Nat) (K : Int32 → MM → Prop) : Nat → Int32 → MM → Prop
  | 0, _, _ => False
  | n + 1, x2, u => (((u 33 0) ≤ x2 → (K (-5) u)) ∧ (¬ (u 33 0) ≤ x2 → (vp_in x2 8 ∧ (∀ y2 : Int32, y2 = (u 34 x2.toNatClampNeg) → (wX10_hasBit N (u 27 2) y2 (fun r3 => ((r3 = 0 → (K x2 u)) ∧ (¬ r3 = 0 → (vp_in y2 7 ∧ (vp_in x2 8 ∧ (((u 29 y2.toNatClampNeg) = (u 35 x2.toNatClampNeg) → (∀ y6 : Int32, y6 = x2 + 1 → (wX10_looked_b10 N K n y6 u))) ∧ (¬ (u 29 y2.toNatClampNeg) = (u 35 x2.toNatClampNeg) → (K x2 u)))))))))))))
def wX10_looked (N : Nat) (u : MM) (K : Int32 → MM → Prop) : Prop := (wX10_looked_b10 N K N 0 u)
set_option maxRecDepth 100000 in
set_option maxHeartbeats 4000000 in
theorem tX10_looked_b10 (l : Launch) (D : va_G) (cI cZ : ClassId) (ad q : Nat → Nat) (N : Nat) {p : Program} {e : Env} {s : State} {m : MethodId} {args : Array Value} {below : List Frame} {meth : Method} {c : Code} {K : Int32 → MM → Prop} (C : CX p s m args meth c cX10_looked 4 RX10 (some .int) D cI cZ ad (AJ 72 q s.heap.size)) : ∀ (n : Nat) (x2 : Int32) (u : MM), wX10_looked_b10 N K n x2 u → JX p l e (rr 1 21) s m args below meth c D (AJ 72 q s.heap.size) 4 (MQ below ((QI D 72 q (entC q cI cZ) K) (AJ 72 q s.heap.size)) args s 0 0 (AJ 72 q s.heap.size)) 72 q (entC q cI cZ) u 10 [(0, .ref (q 0)), (1, .ref (q 27)), (2, .int x2)] [] := by
  intro n
  induction n with
  | zero => intro x2 u h; exact h.elim
  | succ n ih =>
    intro x2 u h
    refine j_iload_n C 2 dX10_looked_10 rfl ?_
    refine j_aload_n C 0 dX10_looked_11 rfl ?_
    refine j_get C 0 2 (ly_X10 C.2.2.2.2.2.2.2.1.1) q_223 rfl rfl (by decide) rfl rfl (by decide) rfl dX10_looked_12 ?_
    refine j_getN C 10 6 (ly_X5 C.2.2.2.2.2.2.2.1.1) q_164 rfl rfl (by decide) rfl rfl (by decide) rfl dX10_looked_15 ?_
    refine j_getN C 33 0 (ly_X4 C.2.2.2.2.2.2.2.1.1) q_139 rfl rfl (by decide) rfl rfl (by decide) rfl dX10_looked_18 ?_
    refine j_icmp_ge C 77 dX10_looked_21 (by decide) (fun c1 => ?_) (fun c1 => ?_)
    · have h := h.1 c1
      refine j_bipush (v := (-5)) C dX10_looked_77 (by decide) ?_
      exact j_iret C dX10_looked_79 h
    · have h := h.2 c1
      refine j_aload_n C 0 dX10_looked_24 rfl ?_
      refine j_get C 0 2 (ly_X10 C.2.2.2.2.2.2.2.1.1) q_223 rfl rfl (by decide) rfl rfl (by decide) rfl dX10_looked_25 ?_
      refine j_getN C 10 6 (ly_X5 C.2.2.2.2.2.2.2.1.1) q_164 rfl rfl (by decide) rfl rfl (by decide) rfl dX10_looked_28 ?_
      refine j_getN C 33 1 (ly_X4 C.2.2.2.2.2.2.2.1.1) q_142 rfl rfl (by decide) rfl rfl (by decide) rfl dX10_looked_31 ?_
      refine j_iload_n C 2 dX10_looked_34 rfl ?_
      obtain ⟨hin, h⟩ := h
      refine j_ialoadK (N := 8) C 34 _ rfl hin (by decide) rfl rfl dX10_looked_35 ?_
      refine j_nmi (fun y2 ey2 => ?_)
      have h := h y2 ey2
      refine j_istore_n (lv' := [(3, .int y2), (0, .ref (q 0)), (1, .ref (q 27)), (2, .int x2)]) C dX10_looked_36 (by decide) rfl ?_
      refine j_aload_n C 2 dX10_looked_37 rfl ?_
      refine j_getN C 27 2 (ly_X9 C.2.2.2.2.2.2.2.1.1) q_118 rfl rfl (by decide) rfl rfl (by decide) rfl dX10_looked_38 ?_
      refine j_iload_n C 0 dX10_looked_41 rfl ?_
      refine j_ui C (fun H locs ls hP hD => run_S (As := [.int (u 27 2), .int y2]) (st := []) C mf_X10_hasBit (kX_X10_hasBit l D cI cZ ad q N h) q_365 rfl rfl ⟨rfl, rfl, by decide, by decide⟩ (Nat.le_of_ble_eq_true rfl) dX10_looked_42 hP hD) (fun r3 _ h => ?_)
      refine j_if_eq C 69 dX10_looked_45 (by decide) (fun c4 => ?_) (fun c4 => ?_)
      · have h := h.1 c4
        refine j_iload_n C 3 dX10_looked_69 rfl ?_
        exact j_iret C dX10_looked_70 h
      · have h := h.2 c4
        refine j_aload_n C 2 dX10_looked_48 rfl ?_
        refine j_getN C 27 5 (ly_X9 C.2.2.2.2.2.2.2.1.1) q_126 rfl rfl (by decide) rfl rfl (by decide) rfl dX10_looked_49 ?_
        refine j_iload_n C 0 dX10_looked_52 rfl ?_
        obtain ⟨hin, h⟩ := h
        refine j_ialoadK (N := 7) C 29 _ rfl hin (by decide) rfl rfl dX10_looked_53 ?_
        refine j_aload_n C 1 dX10_looked_54 rfl ?_
        refine j_get C 0 2 (ly_X10 C.2.2.2.2.2.2.2.1.1) q_223 rfl rfl (by decide) rfl rfl (by decide) rfl dX10_looked_55 ?_
        refine j_getN C 10 6 (ly_X5 C.2.2.2.2.2.2.2.1.1) q_164 rfl rfl (by decide) rfl rfl (by decide) rfl dX10_looked_58 ?_
        refine j_getN C 33 2 (ly_X4 C.2.2.2.2.2.2.2.1.1) q_145 rfl rfl (by decide) rfl rfl (by decide) rfl dX10_looked_61 ?_
        refine j_iload_n C 3 dX10_looked_64 rfl ?_
        obtain ⟨hin, h⟩ := h
        refine j_ialoadK (N := 8) C 35 _ rfl hin (by decide) rfl rfl dX10_looked_65 ?_
        refine j_icmp_eq C 71 dX10_looked_66 (by decide) (fun c5 => ?_) (fun c5 => ?_)
        · have h := h.1 c5
          obtain ⟨y6, ey6⟩ : ∃ z : Int32, z = x2 + 1 := ⟨_, rfl⟩
          have h := h y6 ey6
          refine j_iinc (v := y6) (lv' := [(2, .int y6), (3, .int y2), (0, .ref (q 0)), (1, .ref (q 27))]) C 3 dX10_looked_71 rfl (by rw [ey6]; rfl) (by decide) rfl ?_
          refine j_goto C 10 dX10_looked_74 (by decide) ?_
          refine j_sub (lv' := [(0, .ref (q 0)), (1, .ref (q 27)), (2, .int y6)]) [2, 3, 0] rfl ?_
          exact ih _ _ h
        · have h := h.2 c5
          refine j_iload_n C 3 dX10_looked_69 rfl ?_
          exact j_iret C dX10_looked_70 h
set_option maxRecDepth 100000 in
set_option maxHeartbeats 4000000 in
theorem kX_X10_looked (l : Launch) (D : va_G) (cI cZ : ClassId) (ad q : Nat → Nat) (N : Nat) {u : MM} {K : Int32 → MM → Prop} (h : wX10_looked N u K) : CT l D cI cZ ad 72 q (entC q cI cZ) yX10_looked cX10_looked 4 (some .int) (rr 1 21) [.ref (q 0)] u (QI D 72 q (entC q cI cZ) K) := by
    refine ct_of (by decide +kernel) (Nat.le_of_ble_eq_true rfl) (fun p e s m args below meth c C => ?_)
    refine j_sub (lv' := [(0, .ref (q 0))]) [0] rfl ?_
    refine j_aload_n C 0 dX10_looked_0 rfl ?_
    refine j_get C 0 2 (ly_X10 C.2.2.2.2.2.2.2.1.1) q_223 rfl rfl (by decide) rfl rfl (by decide) rfl dX10_looked_1 ?_
    refine j_getN C 10 4 (ly_X5 C.2.2.2.2.2.2.2.1.1) q_159 rfl rfl (by decide) rfl rfl (by decide) rfl dX10_looked_4 ?_
    refine j_astore_n (lv' := [(1, .ref (q 27)), (0, .ref (q 0))]) C dX10_looked_7 (by decide) rfl ?_
    refine j_iconst (v := 0) C dX10_looked_8 (by decide) ?_
    refine j_istore_n (lv' := [(2, .int 0), (1, .ref (q 27)), (0, .ref (q 0))]) C dX10_looked_9 (by decide) rfl ?_
    refine j_sub (lv' := [(0, .ref (q 0)), (1, .ref (q 27)), (2, .int 0)]) [2, 1, 0] rfl ?_
    exact tX10_looked_b10 l D cI cZ ad q N C N _ _ h

def wX10_act (N : Nat) (x1 : Int32) (x2 : Int32) (x3 : Int32) (u : MM) (K : Int32 → MM → Prop) : Prop := (∀ u1 : MM, u1 = up u 4 3 0 → (wX2_has N x1 u1 (fun r2 u3 => ((¬ r2 = 0 → (vp_in x1 7 ∧ (vp_in x1 7 ∧ (wX0_setOne N (u3 22 x1.toNatClampNeg) x1 (u3 23 x1.toNatClampNeg) u3 (fun u6 => ((x2 = 0 → (wX0_hears N x3 u6 (fun r8 u9 => (K r8 u9)))) ∧ (¬ x2 = 0 → ((x2 = 1 → (wX0_tells N x3 u6 (fun r11 u12 => (K r11 u12)))) ∧ (¬ x2 = 1 → ((x2 = 2 → (wX0_pays N x3 u6 (fun r14 u15 => (K r14 u15)))) ∧ (¬ x2 = 2 → (K 0 u6)))))))))))) ∧ (r2 = 0 → (K 0 u3))))))
set_option maxRecDepth 100000 in
set_option maxHeartbeats 4000000 in
theorem kX_X10_act (l : Launch) (D : va_G) (cI cZ : ClassId) (ad q : Nat → Nat) (N : Nat) {x1 : Int32} {x2 : Int32} {x3 : Int32} {u : MM} {K : Int32 → MM → Prop} (h : wX10_act N x1 x2 x3 u K) : CT l D cI cZ ad 72 q (entC q cI cZ) yX10_act cX10_act 4 (some .int) (rr 5 107) [.ref (q 0), .int x1, .int x2, .int x3] u (QI D 72 q (entC q cI cZ) K) := by
    refine ct_of (by decide +kernel) (Nat.le_of_ble_eq_true rfl) (fun p e s m args below meth c C => ?_)
    refine j_sub (lv' := [(0, .ref (q 0)), (1, .int x1), (2, .int x2), (3, .int x3)]) [0, 1, 2, 3] rfl ?_
    refine j_aload_n C 0 dX10_act_0 rfl ?_
    refine j_get C 0 5 (ly_X10 C.2.2.2.2.2.2.2.1.1) q_226 rfl rfl (by decide) rfl rfl (by decide) rfl dX10_act_1 ?_
    refine j_iconst (v := 0) C dX10_act_4 (by decide) ?_
    refine j_putN C 4 3 (ly_X0 C.2.2.2.2.2.2.2.1.1) q_218 rfl rfl (by decide) rfl rfl (by decide) tyX0_ok nmX0 rfl rfl ⟨rfl, rfl⟩ (Nat.le_of_ble_eq_true rfl) rfl dX10_act_5 ?_
    refine j_nmu (fun u1 eu1 => ?_)
    have h := h u1 eu1
    refine j_aload_n C 0 dX10_act_8 rfl ?_
    refine j_get C 0 2 (ly_X10 C.2.2.2.2.2.2.2.1.1) q_223 rfl rfl (by decide) rfl rfl (by decide) rfl dX10_act_9 ?_
    refine j_getN C 10 3 (ly_X5 C.2.2.2.2.2.2.2.1.1) q_156 rfl rfl (by decide) rfl rfl (by decide) rfl dX10_act_12 ?_
    refine j_iload_n C 1 dX10_act_15 rfl ?_
    refine j_wi C (fun H locs ls hP hD hS hl => run_VN (Cn := "") (As := [.int x1]) (st := []) C mf_X2_has 21 (kX_X2_has l D cI cZ ad q N h) q_361 (by decide) rfl rfl rfl rfl ⟨rfl, rfl, by decide, by decide⟩ (Nat.le_of_ble_eq_true rfl) dX10_act_16 hP hD hS hl) (fun r2 u3 h => ?_)
    refine j_if_ne C 24 dX10_act_19 (by decide) (fun c4 => ?_) (fun c4 => ?_)
    · have h := h.1 c4
      refine j_aload_n C 0 dX10_act_24 rfl ?_
      refine j_get C 0 5 (ly_X10 C.2.2.2.2.2.2.2.1.1) q_226 rfl rfl (by decide) rfl rfl (by decide) rfl dX10_act_25 ?_
      refine j_aload_n C 0 dX10_act_28 rfl ?_
      refine j_get C 0 2 (ly_X10 C.2.2.2.2.2.2.2.1.1) q_223 rfl rfl (by decide) rfl rfl (by decide) rfl dX10_act_29 ?_
      refine j_getN C 10 3 (ly_X5 C.2.2.2.2.2.2.2.1.1) q_156 rfl rfl (by decide) rfl rfl (by decide) rfl dX10_act_32 ?_
      refine j_getN C 21 1 (ly_X2 C.2.2.2.2.2.2.2.1.1) q_91 rfl rfl (by decide) rfl rfl (by decide) rfl dX10_act_35 ?_
      refine j_iload_n C 1 dX10_act_38 rfl ?_
      obtain ⟨hin, h⟩ := h
      refine j_ialoadK (N := 7) C 22 _ rfl hin (by decide) rfl rfl dX10_act_39 ?_
      refine j_iload_n C 1 dX10_act_40 rfl ?_
      refine j_aload_n C 0 dX10_act_41 rfl ?_
      refine j_get C 0 2 (ly_X10 C.2.2.2.2.2.2.2.1.1) q_223 rfl rfl (by decide) rfl rfl (by decide) rfl dX10_act_42 ?_
      refine j_getN C 10 3 (ly_X5 C.2.2.2.2.2.2.2.1.1) q_156 rfl rfl (by decide) rfl rfl (by decide) rfl dX10_act_45 ?_
      refine j_getN C 21 2 (ly_X2 C.2.2.2.2.2.2.2.1.1) q_94 rfl rfl (by decide) rfl rfl (by decide) rfl dX10_act_48 ?_
      refine j_iload_n C 1 dX10_act_51 rfl ?_
      obtain ⟨hin, h⟩ := h
      refine j_ialoadK (N := 7) C 23 _ rfl hin (by decide) rfl rfl dX10_act_52 ?_
      refine j_wv C (fun H locs ls hP hD hS hl => run_VN (Cn := "") (As := [.int (u3 22 x1.toNatClampNeg), .int x1, .int (u3 23 x1.toNatClampNeg)]) (st := []) C mf_X0_setOne 4 (kX_X0_setOne l D cI cZ ad q N h) q_573 (by decide) rfl rfl rfl rfl ⟨rfl, rfl, by decide, by decide⟩ (Nat.le_of_ble_eq_true rfl) dX10_act_53 hP hD hS hl) (fun u6 h => ?_)
      refine j_iload_n C 2 dX10_act_56 rfl ?_
      by_cases c7 : x2 = 0
      · have h := h.1 c7
        refine j_tabIn C (v := 0) c7 (off := 27) 84 dX10_act_57 (by decide) (by decide) (by decide) (by decide) ?_
        refine j_aload_n C 0 dX10_act_84 rfl ?_
        refine j_get C 0 5 (ly_X10 C.2.2.2.2.2.2.2.1.1) q_226 rfl rfl (by decide) rfl rfl (by decide) rfl dX10_act_85 ?_
        refine j_iload_n C 3 dX10_act_88 rfl ?_
        refine j_wi C (fun H locs ls hP hD hS hl => run_VN (Cn := "") (As := [.int x3]) (st := []) C mf_X0_hears 4 (kX_X0_hears l D cI cZ ad q N h) q_576 (by decide) rfl rfl rfl rfl ⟨rfl, rfl, by decide, by decide⟩ (Nat.le_of_ble_eq_true rfl) dX10_act_89 hP hD hS hl) (fun r8 u9 h => ?_)
        exact j_iret C dX10_act_92 h
      · have h := h.2 c7
        by_cases c10 : x2 = 1
        · have h := h.1 c10
          refine j_tabIn C (v := 1) c10 (off := 36) 93 dX10_act_57 (by decide) (by decide) (by decide) (by decide) ?_
          refine j_aload_n C 0 dX10_act_93 rfl ?_
          refine j_get C 0 5 (ly_X10 C.2.2.2.2.2.2.2.1.1) q_226 rfl rfl (by decide) rfl rfl (by decide) rfl dX10_act_94 ?_
          refine j_iload_n C 3 dX10_act_97 rfl ?_
          refine j_wi C (fun H locs ls hP hD hS hl => run_VN (Cn := "") (As := [.int x3]) (st := []) C mf_X0_tells 4 (kX_X0_tells l D cI cZ ad q N h) q_586 (by decide) rfl rfl rfl rfl ⟨rfl, rfl, by decide, by decide⟩ (Nat.le_of_ble_eq_true rfl) dX10_act_98 hP hD hS hl) (fun r11 u12 h => ?_)
          exact j_iret C dX10_act_101 h
        · have h := h.2 c10
          by_cases c13 : x2 = 2
          · have h := h.1 c13
            refine j_tabIn C (v := 2) c13 (off := 45) 102 dX10_act_57 (by decide) (by decide) (by decide) (by decide) ?_
            refine j_aload_n C 0 dX10_act_102 rfl ?_
            refine j_get C 0 5 (ly_X10 C.2.2.2.2.2.2.2.1.1) q_226 rfl rfl (by decide) rfl rfl (by decide) rfl dX10_act_103 ?_
            refine j_iload_n C 3 dX10_act_106 rfl ?_
            refine j_wi C (fun H locs ls hP hD hS hl => run_VN (Cn := "") (As := [.int x3]) (st := []) C mf_X0_pays 4 (kX_X0_pays l D cI cZ ad q N h) q_590 (by decide) rfl rfl rfl rfl ⟨rfl, rfl, by decide, by decide⟩ (Nat.le_of_ble_eq_true rfl) dX10_act_107 hP hD hS hl) (fun r14 u15 h => ?_)
            exact j_iret C dX10_act_110 h
          · have h := h.2 c13
            refine j_tabOut C 111 dX10_act_57 (by have z0 : x2.toInt ≠ 0 := sw_ne c7; have z1 : x2.toInt ≠ 1 := sw_ne c10; have z2 : x2.toInt ≠ 2 := sw_ne c13; omega) (by decide) ?_
            refine j_iconst (v := 0) C dX10_act_111 (by decide) ?_
            exact j_iret C dX10_act_112 h
    · have h := h.2 c4
      refine j_iconst (v := 0) C dX10_act_22 (by decide) ?_
      exact j_iret C dX10_act_23 h

def wX10_trace (N : Nat) (x1 : Int32) (u : MM) (K : Int32 → MM → Prop) : Prop := (wX10_isIn N x1 (if (20 : Int32) < (u 4 3) then 20 else (u 4 3)) (fun r1 => ((r1 = 0 → (K (-1) u)) ∧ (¬ r1 = 0 → (vp_in x1 20 ∧ (K (u 5 x1.toNatClampNeg) u))))))
set_option maxRecDepth 100000 in
set_option maxHeartbeats 4000000 in
theorem kX_X10_trace (l : Launch) (D : va_G) (cI cZ : ClassId) (ad q : Nat → Nat) (N : Nat) {x1 : Int32} {u : MM} {K : Int32 → MM → Prop} (h : wX10_trace N x1 u K) : CT l D cI cZ ad 72 q (entC q cI cZ) yX10_trace cX10_trace 2 (some .int) (rr 1 21) [.ref (q 0), .int x1] u (QI D 72 q (entC q cI cZ) K) := by
    refine ct_of (by decide +kernel) (Nat.le_of_ble_eq_true rfl) (fun p e s m args below meth c C => ?_)
    refine j_sub (lv' := [(0, .ref (q 0)), (1, .int x1)]) [0, 1] rfl ?_
    refine j_iload_n C 1 dX10_trace_0 rfl ?_
    refine j_aload_n C 0 dX10_trace_1 rfl ?_
    refine j_get C 0 5 (ly_X10 C.2.2.2.2.2.2.2.1.1) q_226 rfl rfl (by decide) rfl rfl (by decide) rfl dX10_trace_2 ?_
    refine j_getN C 4 3 (ly_X0 C.2.2.2.2.2.2.2.1.1) q_218 rfl rfl (by decide) rfl rfl (by decide) rfl dX10_trace_5 ?_
    refine j_bipush (v := 20) C dX10_trace_8 (by decide) ?_
    refine j_mmin C q_598 q_400 q_10 q_codeM_min (by decide) (Nat.le_of_ble_eq_true rfl) dX10_trace_10 ?_
    refine j_ui C (fun H locs ls hP hD => run_S (As := [.int x1, .int (if (20 : Int32) < (u 4 3) then 20 else (u 4 3))]) (st := []) C mf_X10_isIn (kX_X10_isIn l D cI cZ ad q N h) q_348 rfl rfl ⟨rfl, rfl, by decide, by decide⟩ (Nat.le_of_ble_eq_true rfl) dX10_trace_13 hP hD) (fun r1 _ h => ?_)
    refine j_if_eq C 31 dX10_trace_16 (by decide) (fun c2 => ?_) (fun c2 => ?_)
    · have h := h.1 c2
      refine j_iconst (v := (-1)) C dX10_trace_31 (by decide) ?_
      exact j_iret C dX10_trace_32 h
    · have h := h.2 c2
      refine j_aload_n C 0 dX10_trace_19 rfl ?_
      refine j_get C 0 5 (ly_X10 C.2.2.2.2.2.2.2.1.1) q_226 rfl rfl (by decide) rfl rfl (by decide) rfl dX10_trace_20 ?_
      refine j_getN C 4 4 (ly_X0 C.2.2.2.2.2.2.2.1.1) q_220 rfl rfl (by decide) rfl rfl (by decide) rfl dX10_trace_23 ?_
      refine j_iload_n C 1 dX10_trace_26 rfl ?_
      obtain ⟨hin, h⟩ := h
      refine j_ialoadK (N := 20) C 5 _ rfl hin (by decide) rfl rfl dX10_trace_27 ?_
      refine j_goto C 32 dX10_trace_28 (by decide) ?_
      exact j_iret C dX10_trace_32 h

def wX10_as (N : Nat) (x1 : Int32) (x2 : Int32) (u : MM) (K : Int32 → MM → Prop) : Prop := (wX2_has N x1 u (fun r1 u2 => ((r1 = 0 → (K (-1) u2)) ∧ (¬ r1 = 0 → (wX10_isIn N x2 7 (fun r4 => ((¬ r4 = 0 → (vp_in x1 7 ∧ (wX10_isUnder N (u2 22 x1.toNatClampNeg) x2 (fun r6 => ((r6 = 0 → (K (-6) u2)) ∧ (¬ r6 = 0 → (vp_in x1 7 ∧ (K (u2 23 x1.toNatClampNeg) u2)))))))) ∧ (r4 = 0 → (K (-1) u2)))))))))
set_option maxRecDepth 100000 in
set_option maxHeartbeats 4000000 in
theorem kX_X10_as (l : Launch) (D : va_G) (cI cZ : ClassId) (ad q : Nat → Nat) (N : Nat) {x1 : Int32} {x2 : Int32} {u : MM} {K : Int32 → MM → Prop} (h : wX10_as N x1 x2 u K) : CT l D cI cZ ad 72 q (entC q cI cZ) yX10_as cX10_as 3 (some .int) (rr 2 44) [.ref (q 0), .int x1, .int x2] u (QI D 72 q (entC q cI cZ) K) := by
    refine ct_of (by decide +kernel) (Nat.le_of_ble_eq_true rfl) (fun p e s m args below meth c C => ?_)
    refine j_sub (lv' := [(0, .ref (q 0)), (1, .int x1), (2, .int x2)]) [0, 1, 2] rfl ?_
    refine j_aload_n C 0 dX10_as_0 rfl ?_
    refine j_get C 0 2 (ly_X10 C.2.2.2.2.2.2.2.1.1) q_223 rfl rfl (by decide) rfl rfl (by decide) rfl dX10_as_1 ?_
    refine j_getN C 10 3 (ly_X5 C.2.2.2.2.2.2.2.1.1) q_156 rfl rfl (by decide) rfl rfl (by decide) rfl dX10_as_4 ?_
    refine j_iload_n C 1 dX10_as_7 rfl ?_
    refine j_wi C (fun H locs ls hP hD hS hl => run_VN (Cn := "") (As := [.int x1]) (st := []) C mf_X2_has 21 (kX_X2_has l D cI cZ ad q N h) q_361 (by decide) rfl rfl rfl rfl ⟨rfl, rfl, by decide, by decide⟩ (Nat.le_of_ble_eq_true rfl) dX10_as_8 hP hD hS hl) (fun r1 u2 h => ?_)
    refine j_if_eq C 23 dX10_as_11 (by decide) (fun c3 => ?_) (fun c3 => ?_)
    · have h := h.1 c3
      refine j_iconst (v := (-1)) C dX10_as_23 (by decide) ?_
      exact j_iret C dX10_as_24 h
    · have h := h.2 c3
      refine j_iload_n C 2 dX10_as_14 rfl ?_
      refine j_bipush (v := 7) C dX10_as_15 (by decide) ?_
      refine j_ui C (fun H locs ls hP hD => run_S (As := [.int x2, .int 7]) (st := []) C mf_X10_isIn (kX_X10_isIn l D cI cZ ad q N h) q_348 rfl rfl ⟨rfl, rfl, by decide, by decide⟩ (Nat.le_of_ble_eq_true rfl) dX10_as_17 hP hD) (fun r4 _ h => ?_)
      refine j_if_ne C 25 dX10_as_20 (by decide) (fun c5 => ?_) (fun c5 => ?_)
      · have h := h.1 c5
        refine j_aload_n C 0 dX10_as_25 rfl ?_
        refine j_get C 0 2 (ly_X10 C.2.2.2.2.2.2.2.1.1) q_223 rfl rfl (by decide) rfl rfl (by decide) rfl dX10_as_26 ?_
        refine j_getN C 10 3 (ly_X5 C.2.2.2.2.2.2.2.1.1) q_156 rfl rfl (by decide) rfl rfl (by decide) rfl dX10_as_29 ?_
        refine j_getN C 21 1 (ly_X2 C.2.2.2.2.2.2.2.1.1) q_91 rfl rfl (by decide) rfl rfl (by decide) rfl dX10_as_32 ?_
        refine j_iload_n C 1 dX10_as_35 rfl ?_
        obtain ⟨hin, h⟩ := h
        refine j_ialoadK (N := 7) C 22 _ rfl hin (by decide) rfl rfl dX10_as_36 ?_
        refine j_iload_n C 2 dX10_as_37 rfl ?_
        refine j_ui C (fun H locs ls hP hD => run_S (As := [.int (u2 22 x1.toNatClampNeg), .int x2]) (st := []) C mf_X10_isUnder (kX_X10_isUnder l D cI cZ ad q N h) q_603 rfl rfl ⟨rfl, rfl, by decide, by decide⟩ (Nat.le_of_ble_eq_true rfl) dX10_as_38 hP hD) (fun r6 _ h => ?_)
        refine j_if_eq C 59 dX10_as_41 (by decide) (fun c7 => ?_) (fun c7 => ?_)
        · have h := h.1 c7
          refine j_bipush (v := (-6)) C dX10_as_59 (by decide) ?_
          exact j_iret C dX10_as_61 h
        · have h := h.2 c7
          refine j_aload_n C 0 dX10_as_44 rfl ?_
          refine j_get C 0 2 (ly_X10 C.2.2.2.2.2.2.2.1.1) q_223 rfl rfl (by decide) rfl rfl (by decide) rfl dX10_as_45 ?_
          refine j_getN C 10 3 (ly_X5 C.2.2.2.2.2.2.2.1.1) q_156 rfl rfl (by decide) rfl rfl (by decide) rfl dX10_as_48 ?_
          refine j_getN C 21 2 (ly_X2 C.2.2.2.2.2.2.2.1.1) q_94 rfl rfl (by decide) rfl rfl (by decide) rfl dX10_as_51 ?_
          refine j_iload_n C 1 dX10_as_54 rfl ?_
          obtain ⟨hin, h⟩ := h
          refine j_ialoadK (N := 7) C 23 _ rfl hin (by decide) rfl rfl dX10_as_55 ?_
          refine j_goto C 61 dX10_as_56 (by decide) ?_
          exact j_iret C dX10_as_61 h
      · have h := h.2 c5
        refine j_iconst (v := (-1)) C dX10_as_23 (by decide) ?_
        exact j_iret C dX10_as_24 h

def wX10_image (N : Nat) (u : MM) (K : Int32 → MM → Prop) : Prop := (wX5_copyFrom N 36 10 u (fun u2 => (∀ u3 : MM, u3 = up u2 0 6 1 → (K (u3 21 0) u3))))
set_option maxRecDepth 100000 in
set_option maxHeartbeats 4000000 in
theorem kX_X10_image (l : Launch) (D : va_G) (cI cZ : ClassId) (ad q : Nat → Nat) (N : Nat) {u : MM} {K : Int32 → MM → Prop} (h : wX10_image N u K) : CT l D cI cZ ad 72 q (entC q cI cZ) yX10_image cX10_image 1 (some .int) (rr 3 102) [.ref (q 0)] u (QI D 72 q (entC q cI cZ) K) := by
    refine ct_of (by decide +kernel) (Nat.le_of_ble_eq_true rfl) (fun p e s m args below meth c C => ?_)
    refine j_sub (lv' := [(0, .ref (q 0))]) [0] rfl ?_
    refine j_aload_n C 0 dX10_image_0 rfl ?_
    refine j_get C 0 3 (ly_X10 C.2.2.2.2.2.2.2.1.1) q_224 rfl rfl (by decide) rfl rfl (by decide) rfl dX10_image_1 ?_
    refine j_aload_n C 0 dX10_image_4 rfl ?_
    refine j_get C 0 2 (ly_X10 C.2.2.2.2.2.2.2.1.1) q_223 rfl rfl (by decide) rfl rfl (by decide) rfl dX10_image_5 ?_
    refine j_wv C (fun H locs ls hP hD hS hl => run_VN (Cn := "") (As := [.ref (q 10)]) (st := []) C mf_X5_copyFrom 36 (kX_X5_copyFrom_36_10 l D cI cZ ad q N h) q_608 (by decide) rfl rfl rfl rfl ⟨rfl, rfl, by decide, by decide⟩ (Nat.le_of_ble_eq_true rfl) dX10_image_8 hP hD hS hl) (fun u2 h => ?_)
    refine j_aload_n C 0 dX10_image_11 rfl ?_
    refine j_iconst (v := 1) C dX10_image_12 (by decide) ?_
    refine j_put C 0 6 (ly_X10 C.2.2.2.2.2.2.2.1.1) q_227 rfl rfl (by decide) rfl rfl (by decide) tyX10_ok nmX10 rfl rfl ⟨rfl, rfl⟩ (Nat.le_of_ble_eq_true rfl) rfl dX10_image_13 ?_
    refine j_nmu (fun u3 eu3 => ?_)
    have h := h u3 eu3
    refine j_aload_n C 0 dX10_image_16 rfl ?_
    refine j_get C 0 2 (ly_X10 C.2.2.2.2.2.2.2.1.1) q_223 rfl rfl (by decide) rfl rfl (by decide) rfl dX10_image_17 ?_
    refine j_getN C 10 3 (ly_X5 C.2.2.2.2.2.2.2.1.1) q_156 rfl rfl (by decide) rfl rfl (by decide) rfl dX10_image_20 ?_
    refine j_getN C 21 0 (ly_X2 C.2.2.2.2.2.2.2.1.1) q_88 rfl rfl (by decide) rfl rfl (by decide) rfl dX10_image_23 ?_
    exact j_iret C dX10_image_26 h

def wX10_undo (N : Nat) (u : MM) (K : Int32 → MM → Prop) : Prop := ((¬ (u 0 6) = 0 → (wX5_copyFrom N 10 36 u (fun u3 => (K (u3 21 0) u3)))) ∧ ((u 0 6) = 0 → (K (-3) u)))
set_option maxRecDepth 100000 in
set_option maxHeartbeats 4000000 in
theorem kX_X10_undo (l : Launch) (D : va_G) (cI cZ : ClassId) (ad q : Nat → Nat) (N : Nat) {u : MM} {K : Int32 → MM → Prop} (h : wX10_undo N u K) : CT l D cI cZ ad 72 q (entC q cI cZ) yX10_undo cX10_undo 1 (some .int) (rr 3 102) [.ref (q 0)] u (QI D 72 q (entC q cI cZ) K) := by
    refine ct_of (by decide +kernel) (Nat.le_of_ble_eq_true rfl) (fun p e s m args below meth c C => ?_)
    refine j_sub (lv' := [(0, .ref (q 0))]) [0] rfl ?_
    refine j_aload_n C 0 dX10_undo_0 rfl ?_
    refine j_get C 0 6 (ly_X10 C.2.2.2.2.2.2.2.1.1) q_227 rfl rfl (by decide) rfl rfl (by decide) rfl dX10_undo_1 ?_
    refine j_if_ne C 10 dX10_undo_4 (by decide) (fun c1 => ?_) (fun c1 => ?_)
    · have h := h.1 c1
      refine j_aload_n C 0 dX10_undo_10 rfl ?_
      refine j_get C 0 2 (ly_X10 C.2.2.2.2.2.2.2.1.1) q_223 rfl rfl (by decide) rfl rfl (by decide) rfl dX10_undo_11 ?_
      refine j_aload_n C 0 dX10_undo_14 rfl ?_
      refine j_get C 0 3 (ly_X10 C.2.2.2.2.2.2.2.1.1) q_224 rfl rfl (by decide) rfl rfl (by decide) rfl dX10_undo_15 ?_
      refine j_wv C (fun H locs ls hP hD hS hl => run_VN (Cn := "") (As := [.ref (q 36)]) (st := []) C mf_X5_copyFrom 10 (kX_X5_copyFrom_10_36 l D cI cZ ad q N h) q_608 (by decide) rfl rfl rfl rfl ⟨rfl, rfl, by decide, by decide⟩ (Nat.le_of_ble_eq_true rfl) dX10_undo_18 hP hD hS hl) (fun u3 h => ?_)
      refine j_aload_n C 0 dX10_undo_21 rfl ?_
      refine j_get C 0 2 (ly_X10 C.2.2.2.2.2.2.2.1.1) q_223 rfl rfl (by decide) rfl rfl (by decide) rfl dX10_undo_22 ?_
      refine j_getN C 10 3 (ly_X5 C.2.2.2.2.2.2.2.1.1) q_156 rfl rfl (by decide) rfl rfl (by decide) rfl dX10_undo_25 ?_
      refine j_getN C 21 0 (ly_X2 C.2.2.2.2.2.2.2.1.1) q_88 rfl rfl (by decide) rfl rfl (by decide) rfl dX10_undo_28 ?_
      exact j_iret C dX10_undo_31 h
    · have h := h.2 c1
      refine j_bipush (v := (-3)) C dX10_undo_7 (by decide) ?_
      exact j_iret C dX10_undo_9 h

def wX10_count (N : Nat) (x1 : Int32) (u : MM) (K : Int32 → MM → Prop) : Prop := ((x1 = 0 → (K (u 21 0) u)) ∧ (¬ x1 = 0 → ((x1 = 1 → (K (u 10 2) u)) ∧ (¬ x1 = 1 → ((x1 = 2 → (K (u 30 0) u)) ∧ (¬ x1 = 2 → ((x1 = 3 → (K (u 33 0) u)) ∧ (¬ x1 = 3 → ((x1 = 4 → (K (u 11 1) u)) ∧ (¬ x1 = 4 → ((x1 = 5 → (K (u 4 3) u)) ∧ (¬ x1 = 5 → (K (-1) u)))))))))))))
set_option maxRecDepth 100000 in
set_option maxHeartbeats 4000000 in
theorem kX_X10_count (l : Launch) (D : va_G) (cI cZ : ClassId) (ad q : Nat → Nat) (N : Nat) {x1 : Int32} {u : MM} {K : Int32 → MM → Prop} (h : wX10_count N x1 u K) : CT l D cI cZ ad 72 q (entC q cI cZ) yX10_count cX10_count 2 (some .int) (rr 0 0) [.ref (q 0), .int x1] u (QI D 72 q (entC q cI cZ) K) := by
    refine ct_of (by decide +kernel) (Nat.le_of_ble_eq_true rfl) (fun p e s m args below meth c C => ?_)
    refine j_sub (lv' := [(0, .ref (q 0)), (1, .int x1)]) [0, 1] rfl ?_
    refine j_iload_n C 1 dX10_count_0 rfl ?_
    by_cases c1 : x1 = 0
    · have h := h.1 c1
      refine j_tabIn C (v := 0) c1 (off := 39) 40 dX10_count_1 (by decide) (by decide) (by decide) (by decide) ?_
      refine j_aload_n C 0 dX10_count_40 rfl ?_
      refine j_get C 0 2 (ly_X10 C.2.2.2.2.2.2.2.1.1) q_223 rfl rfl (by decide) rfl rfl (by decide) rfl dX10_count_41 ?_
      refine j_getN C 10 3 (ly_X5 C.2.2.2.2.2.2.2.1.1) q_156 rfl rfl (by decide) rfl rfl (by decide) rfl dX10_count_44 ?_
      refine j_getN C 21 0 (ly_X2 C.2.2.2.2.2.2.2.1.1) q_88 rfl rfl (by decide) rfl rfl (by decide) rfl dX10_count_47 ?_
      exact j_iret C dX10_count_50 h
    · have h := h.2 c1
      by_cases c2 : x1 = 1
      · have h := h.1 c2
        refine j_tabIn C (v := 1) c2 (off := 50) 51 dX10_count_1 (by decide) (by decide) (by decide) (by decide) ?_
        refine j_aload_n C 0 dX10_count_51 rfl ?_
        refine j_get C 0 2 (ly_X10 C.2.2.2.2.2.2.2.1.1) q_223 rfl rfl (by decide) rfl rfl (by decide) rfl dX10_count_52 ?_
        refine j_getN C 10 2 (ly_X5 C.2.2.2.2.2.2.2.1.1) q_152 rfl rfl (by decide) rfl rfl (by decide) rfl dX10_count_55 ?_
        exact j_iret C dX10_count_58 h
      · have h := h.2 c2
        by_cases c3 : x1 = 2
        · have h := h.1 c3
          refine j_tabIn C (v := 2) c3 (off := 58) 59 dX10_count_1 (by decide) (by decide) (by decide) (by decide) ?_
          refine j_aload_n C 0 dX10_count_59 rfl ?_
          refine j_get C 0 2 (ly_X10 C.2.2.2.2.2.2.2.1.1) q_223 rfl rfl (by decide) rfl rfl (by decide) rfl dX10_count_60 ?_
          refine j_getN C 10 5 (ly_X5 C.2.2.2.2.2.2.2.1.1) q_162 rfl rfl (by decide) rfl rfl (by decide) rfl dX10_count_63 ?_
          refine j_getN C 30 0 (ly_X4 C.2.2.2.2.2.2.2.1.1) q_139 rfl rfl (by decide) rfl rfl (by decide) rfl dX10_count_66 ?_
          exact j_iret C dX10_count_69 h
        · have h := h.2 c3
          by_cases c4 : x1 = 3
          · have h := h.1 c4
            refine j_tabIn C (v := 3) c4 (off := 69) 70 dX10_count_1 (by decide) (by decide) (by decide) (by decide) ?_
            refine j_aload_n C 0 dX10_count_70 rfl ?_
            refine j_get C 0 2 (ly_X10 C.2.2.2.2.2.2.2.1.1) q_223 rfl rfl (by decide) rfl rfl (by decide) rfl dX10_count_71 ?_
            refine j_getN C 10 6 (ly_X5 C.2.2.2.2.2.2.2.1.1) q_164 rfl rfl (by decide) rfl rfl (by decide) rfl dX10_count_74 ?_
            refine j_getN C 33 0 (ly_X4 C.2.2.2.2.2.2.2.1.1) q_139 rfl rfl (by decide) rfl rfl (by decide) rfl dX10_count_77 ?_
            exact j_iret C dX10_count_80 h
          · have h := h.2 c4
            by_cases c5 : x1 = 4
            · have h := h.1 c5
              refine j_tabIn C (v := 4) c5 (off := 80) 81 dX10_count_1 (by decide) (by decide) (by decide) (by decide) ?_
              refine j_aload_n C 0 dX10_count_81 rfl ?_
              refine j_get C 0 2 (ly_X10 C.2.2.2.2.2.2.2.1.1) q_223 rfl rfl (by decide) rfl rfl (by decide) rfl dX10_count_82 ?_
              refine j_getN C 10 0 (ly_X5 C.2.2.2.2.2.2.2.1.1) q_147 rfl rfl (by decide) rfl rfl (by decide) rfl dX10_count_85 ?_
              refine j_getN C 11 1 (ly_X6 C.2.2.2.2.2.2.2.1.1) q_53 rfl rfl (by decide) rfl rfl (by decide) rfl dX10_count_88 ?_
              exact j_iret C dX10_count_91 h
            · have h := h.2 c5
              by_cases c6 : x1 = 5
              · have h := h.1 c6
                refine j_tabIn C (v := 5) c6 (off := 91) 92 dX10_count_1 (by decide) (by decide) (by decide) (by decide) ?_
                refine j_aload_n C 0 dX10_count_92 rfl ?_
                refine j_get C 0 5 (ly_X10 C.2.2.2.2.2.2.2.1.1) q_226 rfl rfl (by decide) rfl rfl (by decide) rfl dX10_count_93 ?_
                refine j_getN C 4 3 (ly_X0 C.2.2.2.2.2.2.2.1.1) q_218 rfl rfl (by decide) rfl rfl (by decide) rfl dX10_count_96 ?_
                exact j_iret C dX10_count_99 h
              · have h := h.2 c6
                refine j_tabOut C 100 dX10_count_1 (by have z0 : x1.toInt ≠ 0 := sw_ne c1; have z1 : x1.toInt ≠ 1 := sw_ne c2; have z2 : x1.toInt ≠ 2 := sw_ne c3; have z3 : x1.toInt ≠ 3 := sw_ne c4; have z4 : x1.toInt ≠ 4 := sw_ne c5; have z5 : x1.toInt ≠ 5 := sw_ne c6; omega) (by decide) ?_
                refine j_iconst (v := (-1)) C dX10_count_100 (by decide) ?_
                exact j_iret C dX10_count_101 h

def wX3_read_b52 (N : Nat) (K : Int32 → MM → Prop) (ro22 : Int32 → MM → Prop) (x2 : Int32) (u : MM) : Prop := (((u 6 2) < (u 62 1) → ((x2 = 10 → (K 0 u)) ∧ (¬ x2 = 10 → (wX3_skip N 59 u (fun r16 u17 => ((¬ r16 = 0 → (∀ y19 : Int32, y19 = x2 + 1 → (ro22 y19 u17))) ∧ (r16 = 0 → (K 0 u17)))))))) ∧ (¬ (u 6 2) < (u 62 1) → (K 1 u)))
def wX3_read_b22 (N : Nat) (K : Int32 → MM → Prop) : Nat → Int32 → MM → Prop
  | 0, _, _ => False
  | n + 1, x2, u => ((10 < x2 → (K 0 u)) ∧ (¬ 10 < x2 → (wX3_readHead N u (fun r7 u8 => ((r7 = 0 → (K 0 u8)) ∧ (¬ r7 = 0 → (((u8 6 4) = 0 → (wX3_read_b52 N K (wX3_read_b22 N K n) x2 u8)) ∧ (¬ (u8 6 4) = 0 → (wX3_readEither0 N 0 u8 (fun r11 u12 => ((¬ r11 = 0 → (wX3_read_b52 N K (wX3_read_b22 N K n) x2 u12)) ∧ (r11 = 0 → (K 0 u12)))))))))))))
def wX3_read (N : Nat) (u : MM) (K : Int32 → MM → Prop) : Prop := (wX6_copyFrom N 62 11 u (fun u2 => (wX8_clear N u2 (fun u4 => (∀ u5 : MM, u5 = up u4 6 2 0 → (wX3_read_b22 N K N 1 u5))))))
set_option maxRecDepth 100000 in
set_option maxHeartbeats 4000000 in
theorem tX3_read_b52 (l : Launch) (D : va_G) (cI cZ : ClassId) (ad q : Nat → Nat) (N : Nat) {p : Program} {e : Env} {s : State} {m : MethodId} {args : Array Value} {below : List Frame} {meth : Method} {c : Code} {K : Int32 → MM → Prop} (C : CX p s m args meth c cX3_read 3 RX3 (some .boolean) D cI cZ ad (AJ 72 q s.heap.size)) {ro22 : Int32 → MM → Prop} (hro22 : ∀ (x2 : Int32) (u : MM), ro22 x2 u → JX p l e (rr 22 1074) s m args below meth c D (AJ 72 q s.heap.size) 3 (MQ below ((QI D 72 q (entC q cI cZ) K) (AJ 72 q s.heap.size)) args s 0 0 (AJ 72 q s.heap.size)) 72 q (entC q cI cZ) u 22 [(0, .ref (q 6)), (2, .int x2)] []) : ∀ (x2 : Int32) (u : MM), wX3_read_b52 N K ro22 x2 u → JX p l e (rr 22 1074) s m args below meth c D (AJ 72 q s.heap.size) 3 (MQ below ((QI D 72 q (entC q cI cZ) K) (AJ 72 q s.heap.size)) args s 0 0 (AJ 72 q s.heap.size)) 72 q (entC q cI cZ) u 52 [(0, .ref (q 6)), (2, .int x2)] [] := by
    intro x2 u h
    refine j_aload_n C 0 dX3_read_52 rfl ?_
    refine j_get C 6 2 (ly_X3 C.2.2.2.2.2.2.2.1.1) q_204 rfl rfl (by decide) rfl rfl (by decide) rfl dX3_read_53 ?_
    refine j_aload_n C 0 dX3_read_56 rfl ?_
    refine j_get C 6 0 (ly_X3 C.2.2.2.2.2.2.2.1.1) q_201 rfl rfl (by decide) rfl rfl (by decide) rfl dX3_read_57 ?_
    refine j_getN C 62 1 (ly_X6 C.2.2.2.2.2.2.2.1.1) q_54 rfl rfl (by decide) rfl rfl (by decide) rfl dX3_read_60 ?_
    refine j_icmp_lt C 68 dX3_read_63 (by decide) (fun c14 => ?_) (fun c14 => ?_)
    · have h := h.1 c14
      refine j_iload_n C 1 dX3_read_68 rfl ?_
      refine j_bipush (v := 10) C dX3_read_69 (by decide) ?_
      refine j_icmp_eq C 83 dX3_read_71 (by decide) (fun c15 => ?_) (fun c15 => ?_)
      · have h := h.1 c15
        refine j_iconst (v := 0) C dX3_read_83 (by decide) ?_
        exact j_zret C dX3_read_84 rfl h
      · have h := h.2 c15
        refine j_aload_n C 0 dX3_read_74 rfl ?_
        refine j_bipush (v := 59) C dX3_read_75 (by decide) ?_
        refine j_wi C (fun H locs ls hP hD hS hl => run_V (Cn := "") (As := [.int 59]) (st := []) C mf_X3_skip 6 (kX_X3_skip l D cI cZ ad q N h) q_306 (by decide) rfl rfl rfl rfl ⟨rfl, rfl, by decide, by decide⟩ (Nat.le_of_ble_eq_true rfl) dX3_read_77 hP hD hS hl) (fun r16 u17 h => ?_)
        refine j_if_ne C 85 dX3_read_80 (by decide) (fun c18 => ?_) (fun c18 => ?_)
        · have h := h.1 c18
          obtain ⟨y19, ey19⟩ : ∃ z : Int32, z = x2 + 1 := ⟨_, rfl⟩
          have h := h y19 ey19
          refine j_iinc (v := y19) (lv' := [(2, .int y19), (0, .ref (q 6))]) C 1 dX3_read_85 rfl (by rw [ey19]; rfl) (by decide) rfl ?_
          refine j_goto C 22 dX3_read_88 (by decide) ?_
          refine j_sub (lv' := [(0, .ref (q 6)), (2, .int y19)]) [1, 0] rfl ?_
          exact hro22 _ _ h
        · have h := h.2 c18
          refine j_iconst (v := 0) C dX3_read_83 (by decide) ?_
          exact j_zret C dX3_read_84 rfl h
    · have h := h.2 c14
      refine j_iconst (v := 1) C dX3_read_66 (by decide) ?_
      exact j_zret C dX3_read_67 rfl h
set_option maxRecDepth 100000 in
set_option maxHeartbeats 4000000 in
theorem tX3_read_b22 (l : Launch) (D : va_G) (cI cZ : ClassId) (ad q : Nat → Nat) (N : Nat) {p : Program} {e : Env} {s : State} {m : MethodId} {args : Array Value} {below : List Frame} {meth : Method} {c : Code} {K : Int32 → MM → Prop} (C : CX p s m args meth c cX3_read 3 RX3 (some .boolean) D cI cZ ad (AJ 72 q s.heap.size)) : ∀ (n : Nat) (x2 : Int32) (u : MM), wX3_read_b22 N K n x2 u → JX p l e (rr 22 1074) s m args below meth c D (AJ 72 q s.heap.size) 3 (MQ below ((QI D 72 q (entC q cI cZ) K) (AJ 72 q s.heap.size)) args s 0 0 (AJ 72 q s.heap.size)) 72 q (entC q cI cZ) u 22 [(0, .ref (q 6)), (2, .int x2)] [] := by
  intro n
  induction n with
  | zero => intro x2 u h; exact h.elim
  | succ n ih =>
    intro x2 u h
    refine j_iload_n C 1 dX3_read_22 rfl ?_
    refine j_bipush (v := 10) C dX3_read_23 (by decide) ?_
    refine j_icmp_gt C 91 dX3_read_25 (by decide) (fun c6 => ?_) (fun c6 => ?_)
    · have h := h.1 c6
      refine j_iconst (v := 0) C dX3_read_91 (by decide) ?_
      exact j_zret C dX3_read_92 rfl h
    · have h := h.2 c6
      refine j_aload_n C 0 dX3_read_28 rfl ?_
      refine j_wi C (fun H locs ls hP hD hS hl => run_V (Cn := "") (As := []) (st := []) C mf_X3_readHead 6 (kX_X3_readHead l D cI cZ ad q N h) q_251 (by decide) rfl rfl rfl rfl ⟨rfl, rfl, by decide, by decide⟩ (Nat.le_of_ble_eq_true rfl) dX3_read_29 hP hD hS hl) (fun r7 u8 h => ?_)
      refine j_if_eq C 50 dX3_read_32 (by decide) (fun c9 => ?_) (fun c9 => ?_)
      · have h := h.1 c9
        refine j_iconst (v := 0) C dX3_read_50 (by decide) ?_
        exact j_zret C dX3_read_51 rfl h
      · have h := h.2 c9
        refine j_aload_n C 0 dX3_read_35 rfl ?_
        refine j_get C 6 4 (ly_X3 C.2.2.2.2.2.2.2.1.1) q_207 rfl rfl (by decide) rfl rfl (by decide) rfl dX3_read_36 ?_
        refine j_if_eq C 52 dX3_read_39 (by decide) (fun c10 => ?_) (fun c10 => ?_)
        · have h := h.1 c10
          exact tX3_read_b52 l D cI cZ ad q N C ih _ _ h
        · have h := h.2 c10
          refine j_aload_n C 0 dX3_read_42 rfl ?_
          refine j_iconst (v := 0) C dX3_read_43 (by decide) ?_
          refine j_wi C (fun H locs ls hP hD hS hl => run_V (Cn := "") (As := [.int 0]) (st := []) C mf_X3_readEither 6 (kX_X3_readEither l D cI cZ ad q N h) q_324 (by decide) rfl rfl rfl rfl ⟨rfl, rfl, by decide, by decide⟩ (Nat.le_of_ble_eq_true rfl) dX3_read_44 hP hD hS hl) (fun r11 u12 h => ?_)
          refine j_if_ne C 52 dX3_read_47 (by decide) (fun c13 => ?_) (fun c13 => ?_)
          · have h := h.1 c13
            exact tX3_read_b52 l D cI cZ ad q N C ih _ _ h
          · have h := h.2 c13
            refine j_iconst (v := 0) C dX3_read_50 (by decide) ?_
            exact j_zret C dX3_read_51 rfl h
set_option maxRecDepth 100000 in
set_option maxHeartbeats 4000000 in
theorem kX_X3_read (l : Launch) (D : va_G) (cI cZ : ClassId) (ad q : Nat → Nat) (N : Nat) {u : MM} {K : Int32 → MM → Prop} (h : wX3_read N u K) : CT l D cI cZ ad 72 q (entC q cI cZ) yX3_read cX3_read 3 (some .boolean) (rr 22 1074) [.ref (q 6), .ref (q 11)] u (QI D 72 q (entC q cI cZ) K) := by
    refine ct_of (by decide +kernel) (Nat.le_of_ble_eq_true rfl) (fun p e s m args below meth c C => ?_)
    refine j_sub (lv' := [(0, .ref (q 6)), (1, .ref (q 11))]) [0, 1] rfl ?_
    refine j_aload_n C 0 dX3_read_0 rfl ?_
    refine j_get C 6 0 (ly_X3 C.2.2.2.2.2.2.2.1.1) q_201 rfl rfl (by decide) rfl rfl (by decide) rfl dX3_read_1 ?_
    refine j_aload_n C 1 dX3_read_4 rfl ?_
    refine j_wv C (fun H locs ls hP hD hS hl => run_VN (Cn := "") (As := [.ref (q 11)]) (st := []) C mf_X6_copyFrom 62 (kX_X6_copyFrom_62_11 l D cI cZ ad q N h) q_242 (by decide) rfl rfl rfl rfl ⟨rfl, rfl, by decide, by decide⟩ (Nat.le_of_ble_eq_true rfl) dX3_read_5 hP hD hS hl) (fun u2 h => ?_)
    refine j_aload_n C 0 dX3_read_8 rfl ?_
    refine j_get C 6 1 (ly_X3 C.2.2.2.2.2.2.2.1.1) q_202 rfl rfl (by decide) rfl rfl (by decide) rfl dX3_read_9 ?_
    refine j_wv C (fun H locs ls hP hD hS hl => run_VN (Cn := "") (As := []) (st := []) C mf_X8_clear 64 (kX_X8_clear l D cI cZ ad q N h) q_248 (by decide) rfl rfl rfl rfl ⟨rfl, rfl, by decide, by decide⟩ (Nat.le_of_ble_eq_true rfl) dX3_read_12 hP hD hS hl) (fun u4 h => ?_)
    refine j_aload_n C 0 dX3_read_15 rfl ?_
    refine j_iconst (v := 0) C dX3_read_16 (by decide) ?_
    refine j_put C 6 2 (ly_X3 C.2.2.2.2.2.2.2.1.1) q_204 rfl rfl (by decide) rfl rfl (by decide) tyX3_ok nmX3 rfl rfl ⟨rfl, rfl⟩ (Nat.le_of_ble_eq_true rfl) rfl dX3_read_17 ?_
    refine j_nmu (fun u5 eu5 => ?_)
    have h := h u5 eu5
    refine j_iconst (v := 1) C dX3_read_20 (by decide) ?_
    refine j_istore_n (lv' := [(2, .int 1), (0, .ref (q 6)), (1, .ref (q 11))]) C dX3_read_21 (by decide) rfl ?_
    refine j_sub (lv' := [(0, .ref (q 6)), (2, .int 1)]) [1, 0] rfl ?_
    exact tX3_read_b22 l D cI cZ ad q N C N _ _ h

def wX10_town (N : Nat) (u : MM) (K : Int32 → MM → Prop) : Prop := (((u 10 2) < 5 → (wX3_read N u (fun r2 u3 => (∀ u4 : MM, u4 = up u3 11 1 0 → ((¬ r2 = 0 → (wX8_copyFrom N 13 64 u4 (fun u7 => (∀ u8 : MM, u8 = up u7 10 2 ((u7 10 2) + 1) → (K ((u8 10 2) - 1) u8))))) ∧ (r2 = 0 → (K (((-10) : Int32) - (u4 6 2)) u4))))))) ∧ (¬ (u 10 2) < 5 → (K (-4) u)))
set_option maxRecDepth 100000 in
set_option maxHeartbeats 4000000 in
theorem kX_X10_town (l : Launch) (D : va_G) (cI cZ : ClassId) (ad q : Nat → Nat) (N : Nat) {u : MM} {K : Int32 → MM → Prop} (h : wX10_town N u K) : CT l D cI cZ ad 72 q (entC q cI cZ) yX10_town cX10_town 2 (some .int) (rr 23 1096) [.ref (q 0)] u (QI D 72 q (entC q cI cZ) K) := by
    refine ct_of (by decide +kernel) (Nat.le_of_ble_eq_true rfl) (fun p e s m args below meth c C => ?_)
    refine j_sub (lv' := [(0, .ref (q 0))]) [0] rfl ?_
    refine j_aload_n C 0 dX10_town_0 rfl ?_
    refine j_get C 0 2 (ly_X10 C.2.2.2.2.2.2.2.1.1) q_223 rfl rfl (by decide) rfl rfl (by decide) rfl dX10_town_1 ?_
    refine j_getN C 10 2 (ly_X5 C.2.2.2.2.2.2.2.1.1) q_152 rfl rfl (by decide) rfl rfl (by decide) rfl dX10_town_4 ?_
    refine j_iconst (v := 5) C dX10_town_7 (by decide) ?_
    refine j_icmp_lt C 14 dX10_town_8 (by decide) (fun c1 => ?_) (fun c1 => ?_)
    · have h := h.1 c1
      refine j_aload_n C 0 dX10_town_14 rfl ?_
      refine j_get C 0 4 (ly_X10 C.2.2.2.2.2.2.2.1.1) q_225 rfl rfl (by decide) rfl rfl (by decide) rfl dX10_town_15 ?_
      refine j_aload_n C 0 dX10_town_18 rfl ?_
      refine j_get C 0 2 (ly_X10 C.2.2.2.2.2.2.2.1.1) q_223 rfl rfl (by decide) rfl rfl (by decide) rfl dX10_town_19 ?_
      refine j_getN C 10 0 (ly_X5 C.2.2.2.2.2.2.2.1.1) q_147 rfl rfl (by decide) rfl rfl (by decide) rfl dX10_town_22 ?_
      refine j_wi C (fun H locs ls hP hD hS hl => run_VN (Cn := "") (As := [.ref (q 11)]) (st := []) C mf_X3_read 6 (kX_X3_read l D cI cZ ad q N h) q_239 (by decide) rfl rfl rfl rfl ⟨rfl, rfl, by decide, by decide⟩ (Nat.le_of_ble_eq_true rfl) dX10_town_25 hP hD hS hl) (fun r2 u3 h => ?_)
      refine j_istore_n (lv' := [(1, .int r2), (0, .ref (q 0))]) C dX10_town_28 (by decide) rfl ?_
      refine j_aload_n C 1 dX10_town_29 rfl ?_
      refine j_get C 0 2 (ly_X10 C.2.2.2.2.2.2.2.1.1) q_223 rfl rfl (by decide) rfl rfl (by decide) rfl dX10_town_30 ?_
      refine j_getN C 10 0 (ly_X5 C.2.2.2.2.2.2.2.1.1) q_147 rfl rfl (by decide) rfl rfl (by decide) rfl dX10_town_33 ?_
      refine j_iconst (v := 0) C dX10_town_36 (by decide) ?_
      refine j_putN C 11 1 (ly_X6 C.2.2.2.2.2.2.2.1.1) q_53 rfl rfl (by decide) rfl rfl (by decide) tyX6_ok nmX6 rfl rfl ⟨rfl, rfl⟩ (Nat.le_of_ble_eq_true rfl) rfl dX10_town_37 ?_
      refine j_nmu (fun u4 eu4 => ?_)
      have h := h u4 eu4
      refine j_iload_n C 0 dX10_town_40 rfl ?_
      refine j_if_ne C 55 dX10_town_41 (by decide) (fun c5 => ?_) (fun c5 => ?_)
      · have h := h.1 c5
        refine j_aload_n C 1 dX10_town_55 rfl ?_
        refine j_get C 0 2 (ly_X10 C.2.2.2.2.2.2.2.1.1) q_223 rfl rfl (by decide) rfl rfl (by decide) rfl dX10_town_56 ?_
        refine j_getN C 10 1 (ly_X5 C.2.2.2.2.2.2.2.1.1) q_149 rfl rfl (by decide) rfl rfl (by decide) rfl dX10_town_59 ?_
        refine j_aload_n C 1 dX10_town_62 rfl ?_
        refine j_get C 0 4 (ly_X10 C.2.2.2.2.2.2.2.1.1) q_225 rfl rfl (by decide) rfl rfl (by decide) rfl dX10_town_63 ?_
        refine j_getN C 6 1 (ly_X3 C.2.2.2.2.2.2.2.1.1) q_203 rfl rfl (by decide) rfl rfl (by decide) rfl dX10_town_66 ?_
        refine j_wv C (fun H locs ls hP hD hS hl => run_VN (Cn := "") (As := [.ref (q 64)]) (st := []) C mf_X8_copyFrom 13 (kX_X8_copyFrom_13_64 l D cI cZ ad q N h) q_339 (by decide) rfl rfl rfl rfl ⟨rfl, rfl, by decide, by decide⟩ (Nat.le_of_ble_eq_true rfl) dX10_town_69 hP hD hS hl) (fun u7 h => ?_)
        refine j_aload_n C 1 dX10_town_72 rfl ?_
        refine j_get C 0 2 (ly_X10 C.2.2.2.2.2.2.2.1.1) q_223 rfl rfl (by decide) rfl rfl (by decide) rfl dX10_town_73 ?_
        refine j_dup C dX10_town_76 rfl ?_
        refine j_getN C 10 2 (ly_X5 C.2.2.2.2.2.2.2.1.1) q_152 rfl rfl (by decide) rfl rfl (by decide) rfl dX10_town_77 ?_
        refine j_iconst (v := 1) C dX10_town_80 (by decide) ?_
        refine j_iadd C dX10_town_81 ?_
        refine j_putN C 10 2 (ly_X5 C.2.2.2.2.2.2.2.1.1) q_152 rfl rfl (by decide) rfl rfl (by decide) tyX5_ok nmX5 rfl rfl ⟨rfl, rfl⟩ (Nat.le_of_ble_eq_true rfl) rfl dX10_town_82 ?_
        refine j_nmu (fun u8 eu8 => ?_)
        have h := h u8 eu8
        refine j_aload_n C 1 dX10_town_85 rfl ?_
        refine j_get C 0 2 (ly_X10 C.2.2.2.2.2.2.2.1.1) q_223 rfl rfl (by decide) rfl rfl (by decide) rfl dX10_town_86 ?_
        refine j_getN C 10 2 (ly_X5 C.2.2.2.2.2.2.2.1.1) q_152 rfl rfl (by decide) rfl rfl (by decide) rfl dX10_town_89 ?_
        refine j_iconst (v := 1) C dX10_town_92 (by decide) ?_
        refine j_isub C dX10_town_93 ?_
        exact j_iret C dX10_town_94 h
      · have h := h.2 c5
        refine j_bipush (v := (-10)) C dX10_town_44 (by decide) ?_
        refine j_aload_n C 1 dX10_town_46 rfl ?_
        refine j_get C 0 4 (ly_X10 C.2.2.2.2.2.2.2.1.1) q_225 rfl rfl (by decide) rfl rfl (by decide) rfl dX10_town_47 ?_
        refine j_getN C 6 2 (ly_X3 C.2.2.2.2.2.2.2.1.1) q_205 rfl rfl (by decide) rfl rfl (by decide) rfl dX10_town_50 ?_
        refine j_isub C dX10_town_53 ?_
        exact j_iret C dX10_town_54 h
    · have h := h.2 c1
      refine j_bipush (v := (-4)) C dX10_town_11 (by decide) ?_
      exact j_iret C dX10_town_13 h
