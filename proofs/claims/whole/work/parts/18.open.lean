theorem two_sub {A : Nat → Prop} {D : va_G} {cl : List vw_C} {a b a' b' : va_W} {H : Heap} (ia ib : List Nat) (ha : ia.filterMap (fun i => a[i]?) = a') (ha2 : ia.map (fun i => a[i]?) = a'.map some) (hna : va_nd ia = true) (hb : ib.filterMap (fun i => b[i]?) = b') (hb2 : ib.map (fun i => b[i]?) = b'.map some) (hnb : va_nd ib = true) (hP : va_P D cl (a ++ b) H) (hD : va_D A (a ++ b)) : va_P D cl (a' ++ b') H ∧ va_D A (a' ++ b') := by
  obtain ⟨p1, p2⟩ := two_P hP
  obtain ⟨d1, d2, d3⟩ := two_D hD
  refine ⟨va_P.app (p1.sub ia ha) (p2.sub ib hb), va_D.app (d1.sub ia hna ha2) (d2.sub ib hnb hb2) (fun i j x y hx hy e => ?_)⟩
  have hx2 : x ∈ a' := List.mem_of_getElem? hx
  have hy2 : y ∈ b' := List.mem_of_getElem? hy
  rw [← ha] at hx2
  rw [← hb] at hy2
  obtain ⟨i2, -, e1⟩ := List.mem_filterMap.mp hx2
  obtain ⟨j2, -, e2⟩ := List.mem_filterMap.mp hy2
  exact d3 i2 j2 x y e1 e2 e
theorem l_istore_n {p : Program} {l : Launch} {e : Env} {R : Room} {s : State} {m : MethodId} {args : Array Value} {below : List Frame} {meth : Method} {c : Code} {D : va_G} {A : Nat → Prop} {nL : Nat} {Q : State → Prop} {n1 n2 : Nat} {q1 q2 : Nat → Nat} {ent1 ent2 : Nat → (Nat → Int32) → va_E} {u v : MM} {cells slots : Nat} {pc : Nat} {lv lv' : List (Nat × Value)} {st : List Value} {cc : ByteArray} {own : String} {ret : Option FieldType} {cI cZ : ClassId} {ad : Nat → Nat} (C : CX p s m args meth c cc nL own ret D cI cZ ad A) {i : Fin 4} {x : Int32} (hd : decode cc pc = .ok (.istore_n i, 1)) (hn : (i : Nat) < nL) (hl2 : ((i : Nat), Value.int x) :: lv.filter (fun q => !(q.1 == (i : Nat)) && !(q.1 + 1 == (i : Nat) && q.2.category == 2)) = lv') (kk : J2 p l e R s m args below meth c D A nL Q n1 q1 ent1 n2 q2 ent2 cells slots u v (pc + 1) lv' st) : J2 p l e R s m args below meth c D A nL Q n1 q1 ent1 n2 q2 ent2 cells slots u v pc lv (.int x :: st) :=
  fun H locs ls hP hD hS hl => lv_istore_n C.1 C.2.1 hd rfl hl hn hl2 (fun ls hl => kk H locs ls hP hD hS hl)
set_option maxRecDepth 100000 in
set_option maxHeartbeats 4000000 in
/-- the law, from its entry, out of the relation of the two states -/
theorem whole_open {N : Nat} {R : MM → MM → Prop} (HR : RelAll N R) (H0 : R uC0 vM0) {p : Program} {e : Env} {s : State} {m : MethodId} {below : List Frame} {meth : Method} {c : Code} (l : Launch) {b L : Nat} {xs : Nat → Int32} (hL : L ≤ 2048) (C0 : lw_At p s m meth c b L xs) : W p l e room_1 s m #[Value.ref b] below meth c s.heap [] 0 0 (lw_Z below #[Value.ref b] s) (entryFrame m ([Value.ref b] : List Value).toArray 4) := by
  obtain ⟨hx, hb, hr, hml, hown, hts, hX, hbl, hlocks, hgv⟩ := id C0
  obtain ⟨ad, hE⟩ := ev_start hts hgv
  obtain ⟨D, cI, cZ, hK⟩ := k_start hts
  have C : CX p s m #[Value.ref b] meth c cL_law 4 RL ret D cI cZ ad (fun a : Nat => s.heap.size ≤ a) := ⟨hx, hb, hml, hown, hr, hlocks, hK, hE, fun _ h => h⟩
  have hl := lv_entry ([.ref b]) (n := 4) (Nat.le_of_ble_eq_true rfl)
  rw [lg_entry_eq]
  have K : JA p l e room_1 s m #[Value.ref b] below meth c D (fun a : Nat => s.heap.size ≤ a) 4 (lw_Z below #[Value.ref b] s) [] 0 0 0 [(0, .ref b)] [] := by
    refine a_new (ci := 10) (fs := [.null, .null, .null, .null, .null, .null, .int 0]) C (ly_X10 hE.1) tyX10_ok q_20 q_21 q_1 rfl (by decide) (Nat.le_of_ble_eq_true rfl) (Nat.le_of_ble_eq_true rfl) dL_law_0 (fun h0 => ?_)
    refine a_eq (ws2 := [(h0, .inr (10, [.null, .null, .null, .null, .null, .null, .int 0]))]) rfl ?_
    refine a_dup C dL_law_3 rfl ?_
    refine a_call (st := [.ref h0]) (av := []) C mfI_X10 rfl q_23 0 [] [] (cmkX10 l D cI cZ ad h0) q_22 rfl rfl rfl (by decide) rfl rfl ⟨rfl, rfl, (Nat.le_of_ble_eq_true rfl), (Nat.le_of_ble_eq_true rfl)⟩ (Nat.le_of_ble_eq_true rfl) dL_law_4 ⟨(Nat.le_of_ble_eq_true rfl), (Nat.le_of_ble_eq_true rfl)⟩ (fun a => ?_)
    refine a_eq (ws2 := mkX10 cI cZ h0 a) rfl ?_
    refine a_astore_n (lv' := [(1, .ref h0), (0, .ref b)]) C dL_law_7 (by decide) rfl ?_
    refine a_new (ci := 11) (fs := [.int 0, .null, .null, .null, .int 0, .int 0, .int 0, .int 0, .int 0, .int 0, .null, .null, .int 0, .int 0, .null, .null, .int 0, .int 0, .int 0, .int 0, .int 0, .int 0, .null, .int 0, .int 0, .int 0, .int 0]) C (ly_X11 hE.1) tyX11_ok q_630 q_631 q_13 rfl (by decide) (Nat.le_of_ble_eq_true rfl) (Nat.le_of_ble_eq_true rfl) dL_law_8 (fun g0 => ?_)
    refine a_dup C dL_law_11 rfl ?_
    refine a_call (st := [.ref g0]) (av := []) C mfI_X11 rfl q_633 72 [0, 1, 2, 3, 4, 5, 6, 7, 8, 9, 10, 11, 12, 13, 14, 15, 16, 17, 18, 19, 20, 21, 22, 23, 24, 25, 26, 27, 28, 29, 30, 31, 32, 33, 34, 35, 36, 37, 38, 39, 40, 41, 42, 43, 44, 45, 46, 47, 48, 49, 50, 51, 52, 53, 54, 55, 56, 57, 58, 59, 60, 61, 62, 63, 64, 65, 66, 67, 68, 69, 70, 71] (mkX10 cI cZ h0 a) (cmkX11 l D cI cZ ad g0) q_632 rfl rfl rfl (by decide) rfl rfl ⟨rfl, rfl, (Nat.le_of_ble_eq_true rfl), (Nat.le_of_ble_eq_true rfl)⟩ (Nat.le_of_ble_eq_true rfl) dL_law_12 ⟨(Nat.le_of_ble_eq_true rfl), (Nat.le_of_ble_eq_true rfl)⟩ (fun a2 => ?_)
    refine a_astore_n (lv' := [(2, .ref g0), (1, .ref h0), (0, .ref b)]) C dL_law_15 (by decide) rfl ?_
    have hJ : J2 p l e room_1 s m #[Value.ref b] below meth c D (fun a : Nat => s.heap.size ≤ a) 4 (lw_Z below #[Value.ref b] s) 72 (qC h0 a) (entC (qC h0 a) cI cZ) 9 (qM g0 a2) (entM (qM g0 a2) cI cZ) 81 3756 uC0 vM0 16 [(2, .ref g0), (1, .ref h0), (0, .ref b)] [] := by
      refine l_iconst (x := 0) C dL_law_16 (by decide) ?_
      refine l_istore_n (lv' := [(3, .int 0), (2, .ref g0), (1, .ref h0), (0, .ref b)]) C dL_law_17 (by decide) rfl ?_
      refine l_sub (lv' := [(0, .ref b), (1, .ref (qC h0 a 0)), (2, .ref (qM g0 a2 0)), (3, .int (nI 0))]) [3, 2, 1, 0] rfl ?_
      refine law_loop l N C hX hbl hL HR (fun u v i _ => ?_) (L + 1) 0 uC0 vM0 (by omega) (by omega) H0
      refine l_iconst (x := 1) C dL_law_949 (by decide) ?_
      intro H locs ls hP hD hS hl
      refine va_forget (fun q hq => hS.2.2 q hq) ?_
      refine W.widen (k := 600000) (n := 7302250) (Nat.le_of_ble_eq_true rfl) (Nat.le_of_ble_eq_true rfl) ?_
      exact lw_ret hx hb hr hlocks dL_law_950
    intro H locs ls hP hD hS hl
    obtain ⟨hP2, hD2⟩ := two_sub [0, 1, 2, 29, 70, 71, 59, 30, 31, 32, 3, 4, 5, 6, 7, 8, 9, 10, 11, 12, 13, 14, 15, 16, 17, 18, 19, 20, 21, 22, 23, 24, 25, 26, 27, 28, 33, 34, 35, 36, 37, 38, 39, 40, 41, 42, 43, 44, 45, 46, 47, 48, 49, 50, 51, 52, 53, 54, 55, 56, 57, 58, 60, 61, 62, 63, 64, 65, 66, 67, 68, 69] [0, 1, 2, 3, 4, 5, 6, 7, 8] (made_C cI cZ h0 a) (made2_C cI cZ h0 a) nd_C (made_M cI cZ g0 a2) (made2_M cI cZ g0 a2) nd_M hP hD
    exact hJ H locs ls hP2 hD2 hS hl
  refine K s.heap [] _ (fun k x h => by simp at h) ⟨fun i j x y h => by simp at h, fun k x h => by simp at h⟩ va_S.rf hl
