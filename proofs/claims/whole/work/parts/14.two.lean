/-! The law's walk: two worlds side by side -/
def J2 (p : Program) (l : Launch) (e : Env) (R : Room) (s : State) (m : MethodId) (args : Array Value) (below : List Frame) (meth : Method) (c : Code) (D : va_G) (A : Nat → Prop) (nL : Nat) (Q : State → Prop) (n1 : Nat) (q1 : Nat → Nat) (ent1 : Nat → (Nat → Int32) → va_E) (n2 : Nat) (q2 : Nat → Nat) (ent2 : Nat → (Nat → Int32) → va_E) (cells slots : Nat) (u v : MM) (pc : Nat) (lv : List (Nat × Value)) (st : List Value) : Prop :=
  ∀ (H : Heap) (locs : List Loc) (ls : Array Slot), va_P D vwCl (jw n1 q1 ent1 u ++ jw n2 q2 ent2 v) H → va_D A (jw n1 q1 ent1 u ++ jw n2 q2 ent2 v) → va_S A s.heap H locs → lv_has ls nL lv → W p l e R s m args below meth c H locs cells slots Q (F0 m pc ls st)
theorem two_P {D : va_G} {cl : List vw_C} {a b : va_W} {H : Heap} (h : va_P D cl (a ++ b) H) : va_P D cl a H ∧ va_P D cl b H := by
  refine ⟨fun k x hx => ?_, fun k x hx => ?_⟩
  · exact h k x (by rw [List.getElem?_append_left (List.getElem?_eq_some_iff.mp hx).1]; exact hx)
  · exact h (a.length + k) x (by rw [List.getElem?_append_right (Nat.le_add_right _ _), Nat.add_sub_cancel_left]; exact hx)
theorem two_D {A : Nat → Prop} {a b : va_W} (h : va_D A (a ++ b)) : va_D A a ∧ va_D A b ∧ ∀ (i j : Nat) (x y : Nat × va_E), a[i]? = some x → b[j]? = some y → x.1 ≠ y.1 := by
  have hl : ∀ {k : Nat} {x : Nat × va_E}, a[k]? = some x → (a ++ b)[k]? = some x := fun {k x} hx => by rw [List.getElem?_append_left (List.getElem?_eq_some_iff.mp hx).1]; exact hx
  have hr : ∀ {k : Nat} {x : Nat × va_E}, b[k]? = some x → (a ++ b)[a.length + k]? = some x := fun {k x} hx => by rw [List.getElem?_append_right (Nat.le_add_right _ _), Nat.add_sub_cancel_left]; exact hx
  refine ⟨⟨fun i j x y hx hy e => h.1 i j x y (hl hx) (hl hy) e, fun k x hx => h.2 k x (hl hx)⟩, ⟨fun i j x y hx hy e => by have := h.1 _ _ x y (hr hx) (hr hy) e; omega, fun k x hx => h.2 _ x (hr hx)⟩, fun i j x y hx hy e => ?_⟩
  have h1 := h.1 _ _ x y (hl hx) (hr hy) e
  have h2 := (List.getElem?_eq_some_iff.mp hx).1
  omega
theorem two_jw {A : Nat → Prop} {n1 n2 : Nat} {q1 q2 : Nat → Nat} {ent1 ent2 : Nat → (Nat → Int32) → va_E} {u v : MM} (u' v' : MM) (h : va_D A (jw n1 q1 ent1 u ++ jw n2 q2 ent2 v)) : va_D A (jw n1 q1 ent1 u' ++ jw n2 q2 ent2 v') := by
  obtain ⟨h1, h2, h3⟩ := two_D h
  refine va_D.app (jw_D u' h1) (jw_D v' h2) (fun i j x y hx hy e => ?_)
  obtain ⟨hi, rfl⟩ := jw_in hx
  obtain ⟨hj, rfl⟩ := jw_in hy
  exact h3 i j _ _ (jw_at hi) (jw_at hj) e

section JLW
variable {p : Program} {l : Launch} {e : Env} {R : Room} {s : State} {m : MethodId} {args : Array Value} {below : List Frame} {meth : Method} {c : Code} {D : va_G} {A : Nat → Prop} {nL : Nat} {Q : State → Prop} {n1 n2 : Nat} {q1 q2 : Nat → Nat} {ent1 ent2 : Nat → (Nat → Int32) → va_E} {u v : MM} {cells slots : Nat} {pc : Nat} {lv : List (Nat × Value)} {st : List Value} {cc : ByteArray} {own : String} {ret : Option FieldType} {cI cZ : ClassId} {ad : Nat → Nat}

theorem l_iconst (C : CX p s m args meth c cc nL own ret D cI cZ ad A) {k : Int} {x : Int32} (hd : decode cc pc = .ok (.iconst k, 1)) (hv : Int32.ofInt k = x) (kk : J2 p l e R s m args below meth c D A nL Q n1 q1 ent1 n2 q2 ent2 cells slots u v (pc + 1) lv (.int x :: st)) : J2 p l e R s m args below meth c D A nL Q n1 q1 ent1 n2 q2 ent2 cells slots u v pc lv st :=
  fun H locs ls hP hD hS hl => lv_iconst C.1 C.2.1 hd hv (kk H locs ls hP hD hS hl)
theorem l_bipush (C : CX p s m args meth c cc nL own ret D cI cZ ad A) {k : Int} {x : Int32} (hd : decode cc pc = .ok (.bipush k, 2)) (hv : (Int8.ofInt k).toInt32 = x) (kk : J2 p l e R s m args below meth c D A nL Q n1 q1 ent1 n2 q2 ent2 cells slots u v (pc + 2) lv (.int x :: st)) : J2 p l e R s m args below meth c D A nL Q n1 q1 ent1 n2 q2 ent2 cells slots u v pc lv st :=
  fun H locs ls hP hD hS hl => lv_bipush C.1 C.2.1 hd hv (kk H locs ls hP hD hS hl)
theorem l_aload_n (C : CX p s m args meth c cc nL own ret D cI cZ ad A) (k : Nat) {i : Fin 4} {x : Nat} (hd : decode cc pc = .ok (.aload_n i, 1)) (hk : lv[k]? = some ((i : Nat), .ref x)) (kk : J2 p l e R s m args below meth c D A nL Q n1 q1 ent1 n2 q2 ent2 cells slots u v (pc + 1) lv (.ref x :: st)) : J2 p l e R s m args below meth c D A nL Q n1 q1 ent1 n2 q2 ent2 cells slots u v pc lv st :=
  fun H locs ls hP hD hS hl => lv_aload_n C.1 C.2.1 hd rfl (lv_at hl k hk) (kk H locs ls hP hD hS hl)
theorem l_iload_n (C : CX p s m args meth c cc nL own ret D cI cZ ad A) (k : Nat) {i : Fin 4} {x : Int32} (hd : decode cc pc = .ok (.iload_n i, 1)) (hk : lv[k]? = some ((i : Nat), .int x)) (kk : J2 p l e R s m args below meth c D A nL Q n1 q1 ent1 n2 q2 ent2 cells slots u v (pc + 1) lv (.int x :: st)) : J2 p l e R s m args below meth c D A nL Q n1 q1 ent1 n2 q2 ent2 cells slots u v pc lv st :=
  fun H locs ls hP hD hS hl => lv_iload_n C.1 C.2.1 hd rfl (lv_at hl k hk) (kk H locs ls hP hD hS hl)
theorem l_iadd (C : CX p s m args meth c cc nL own ret D cI cZ ad A) {x y : Int32} (hd : decode cc pc = .ok (.iadd, 1)) (kk : J2 p l e R s m args below meth c D A nL Q n1 q1 ent1 n2 q2 ent2 cells slots u v (pc + 1) lv (.int (x + y) :: st)) : J2 p l e R s m args below meth c D A nL Q n1 q1 ent1 n2 q2 ent2 cells slots u v pc lv (.int y :: .int x :: st) :=
  fun H locs ls hP hD hS hl => lv_iadd C.1 C.2.1 hd (kk H locs ls hP hD hS hl)
theorem l_isub (C : CX p s m args meth c cc nL own ret D cI cZ ad A) {x y : Int32} (hd : decode cc pc = .ok (.isub, 1)) (kk : J2 p l e R s m args below meth c D A nL Q n1 q1 ent1 n2 q2 ent2 cells slots u v (pc + 1) lv (.int (x - y) :: st)) : J2 p l e R s m args below meth c D A nL Q n1 q1 ent1 n2 q2 ent2 cells slots u v pc lv (.int y :: .int x :: st) :=
  fun H locs ls hP hD hS hl => lv_isub C.1 C.2.1 hd (kk H locs ls hP hD hS hl)
theorem l_iand (C : CX p s m args meth c cc nL own ret D cI cZ ad A) {x y : Int32} (hd : decode cc pc = .ok (.iand, 1)) (kk : J2 p l e R s m args below meth c D A nL Q n1 q1 ent1 n2 q2 ent2 cells slots u v (pc + 1) lv (.int (x &&& y) :: st)) : J2 p l e R s m args below meth c D A nL Q n1 q1 ent1 n2 q2 ent2 cells slots u v pc lv (.int y :: .int x :: st) :=
  fun H locs ls hP hD hS hl => lv_iand C.1 C.2.1 hd (kk H locs ls hP hD hS hl)
theorem l_lcmp (C : CX p s m args meth c cc nL own ret D cI cZ ad A) {x y : Int64} (hd : decode cc pc = .ok (.lcmp, 1)) (kk : J2 p l e R s m args below meth c D A nL Q n1 q1 ent1 n2 q2 ent2 cells slots u v (pc + 1) lv (.int (lg_cmp x y) :: st)) : J2 p l e R s m args below meth c D A nL Q n1 q1 ent1 n2 q2 ent2 cells slots u v pc lv (.long y :: .long x :: st) :=
  fun H locs ls hP hD hS hl => W.lcmp C.1 C.2.1 hd (kk H locs ls hP hD hS hl)
theorem l_goto (C : CX p s m args meth c cc nL own ret D cI cZ ad A) {off : Int} (tgt : Nat) (hd : decode cc pc = .ok (.goto off, 3)) (ht : (pc : Int) + off = (tgt : Int)) (kk : J2 p l e R s m args below meth c D A nL Q n1 q1 ent1 n2 q2 ent2 cells slots u v tgt lv st) : J2 p l e R s m args below meth c D A nL Q n1 q1 ent1 n2 q2 ent2 cells slots u v pc lv st :=
  fun H locs ls hP hD hS hl => lv_goto C.1 C.2.1 hd ht (kk H locs ls hP hD hS hl)
theorem l_iinc (C : CX p s m args meth c cc nL own ret D cI cZ ad A) (k : Nat) {lv' : List (Nat × Value)} {i : Nat} {d : Int} {x y : Int32} (hd : decode cc pc = .ok (.iinc i d, 3)) (hk : lv[k]? = some (i, .int x)) (hv : x + Int32.ofInt d = y) (hn : i < nL) (hl2 : (i, Value.int y) :: lv.filter (fun q => !(q.1 == (i : Nat)) && !(q.1 + 1 == (i : Nat) && q.2.category == 2)) = lv') (kk : J2 p l e R s m args below meth c D A nL Q n1 q1 ent1 n2 q2 ent2 cells slots u v (pc + 3) lv' st) : J2 p l e R s m args below meth c D A nL Q n1 q1 ent1 n2 q2 ent2 cells slots u v pc lv st :=
  fun H locs ls hP hD hS hl => lv_iinc C.1 C.2.1 hd hl hk hv hn hl2 (fun ls hl => (kk H locs ls hP hD hS hl))
theorem l_icmp_eq (C : CX p s m args meth c cc nL own ret D cI cZ ad A) {x y : Int32} {off : Int} (tgt : Nat) (hd : decode cc pc = .ok (.if_icmp .eq off, 3)) (ht : (pc : Int) + off = (tgt : Int)) (kt : x = y → J2 p l e R s m args below meth c D A nL Q n1 q1 ent1 n2 q2 ent2 cells slots u v tgt lv st) (kf : ¬ x = y → J2 p l e R s m args below meth c D A nL Q n1 q1 ent1 n2 q2 ent2 cells slots u v (pc + 3) lv st) : J2 p l e R s m args below meth c D A nL Q n1 q1 ent1 n2 q2 ent2 cells slots u v pc lv (.int y :: .int x :: st) :=
  fun H locs ls hP hD hS hl => lv_icmp_eq C.1 C.2.1 hd ht (fun h => kt h H locs ls hP hD hS hl) (fun h => kf h H locs ls hP hD hS hl)
theorem l_icmp_gt (C : CX p s m args meth c cc nL own ret D cI cZ ad A) {x y : Int32} {off : Int} (tgt : Nat) (hd : decode cc pc = .ok (.if_icmp .gt off, 3)) (ht : (pc : Int) + off = (tgt : Int)) (kt : y < x → J2 p l e R s m args below meth c D A nL Q n1 q1 ent1 n2 q2 ent2 cells slots u v tgt lv st) (kf : ¬ y < x → J2 p l e R s m args below meth c D A nL Q n1 q1 ent1 n2 q2 ent2 cells slots u v (pc + 3) lv st) : J2 p l e R s m args below meth c D A nL Q n1 q1 ent1 n2 q2 ent2 cells slots u v pc lv (.int y :: .int x :: st) :=
  fun H locs ls hP hD hS hl => lv_icmp_gt C.1 C.2.1 hd ht (fun h => kt h H locs ls hP hD hS hl) (fun h => kf h H locs ls hP hD hS hl)
theorem l_if_eq (C : CX p s m args meth c cc nL own ret D cI cZ ad A) {x : Int32} {off : Int} (tgt : Nat) (hd : decode cc pc = .ok (.ifCond .eq off, 3)) (ht : (pc : Int) + off = (tgt : Int)) (kt : x = 0 → J2 p l e R s m args below meth c D A nL Q n1 q1 ent1 n2 q2 ent2 cells slots u v tgt lv st) (kf : ¬ x = 0 → J2 p l e R s m args below meth c D A nL Q n1 q1 ent1 n2 q2 ent2 cells slots u v (pc + 3) lv st) : J2 p l e R s m args below meth c D A nL Q n1 q1 ent1 n2 q2 ent2 cells slots u v pc lv (.int x :: st) :=
  fun H locs ls hP hD hS hl => lv_if_eq C.1 C.2.1 hd ht (fun h => kt h H locs ls hP hD hS hl) (fun h => kf h H locs ls hP hD hS hl)
theorem l_tabIn (C : CX p s m args meth c cc nL own ret D cI cZ ad A) {x y : Int32} (cx : x = y) {dflt lo hi off : Int} {offs : Array Int} {len : Nat} (tgt : Nat) (hd : decode cc pc = .ok (.tableswitch dflt lo hi offs, len)) (h1 : ¬ y.toInt < lo) (h2 : ¬ hi < y.toInt) (ho : offs[(y.toInt - lo).toNat]? = some off) (ht : (pc : Int) + off = (tgt : Int)) (kk : J2 p l e R s m args below meth c D A nL Q n1 q1 ent1 n2 q2 ent2 cells slots u v tgt lv st) : J2 p l e R s m args below meth c D A nL Q n1 q1 ent1 n2 q2 ent2 cells slots u v pc lv (.int x :: st) :=
  fun H locs ls hP hD hS hl => by subst cx; exact lv_tableIn C.1 C.2.1 hd h1 h2 ho ht (kk H locs ls hP hD hS hl)
theorem l_tabOut (C : CX p s m args meth c cc nL own ret D cI cZ ad A) {x : Int32} {dflt lo hi : Int} {offs : Array Int} {len : Nat} (tgt : Nat) (hd : decode cc pc = .ok (.tableswitch dflt lo hi offs, len)) (h : x.toInt < lo ∨ hi < x.toInt) (ht : (pc : Int) + dflt = (tgt : Int)) (kk : J2 p l e R s m args below meth c D A nL Q n1 q1 ent1 n2 q2 ent2 cells slots u v tgt lv st) : J2 p l e R s m args below meth c D A nL Q n1 q1 ent1 n2 q2 ent2 cells slots u v pc lv (.int x :: st) :=
  fun H locs ls hP hD hS hl => lv_tableOut C.1 C.2.1 hd h ht (kk H locs ls hP hD hS hl)
theorem l_sub {lv' : List (Nat × Value)} (ks : List Nat) (h : lv_pick lv ks = lv') (kk : J2 p l e R s m args below meth c D A nL Q n1 q1 ent1 n2 q2 ent2 cells slots u v pc lv' st) : J2 p l e R s m args below meth c D A nL Q n1 q1 ent1 n2 q2 ent2 cells slots u v pc lv st :=
  fun H locs ls hP hD hS hl => kk H locs ls hP hD hS (lv_sub hl ks h)
theorem l_slen (C : CX p s m args meth c cc nL own ret D cI cZ ad A) {b L : Nat} {xs : Nat → Int32} (hX : va_X b L xs s s.heap) (hbl : b < s.heap.size) (hbA : ¬ A b) (hd : decode cc pc = .ok (.arraylength, 1)) (kk : J2 p l e R s m args below meth c D A nL Q n1 q1 ent1 n2 q2 ent2 cells slots u v (pc + 1) lv (.int (nI L) :: st)) : J2 p l e R s m args below meth c D A nL Q n1 q1 ent1 n2 q2 ent2 cells slots u v pc lv (.ref b :: st) :=
  fun H locs ls hP hD hS hl => va_slen C.1 C.2.1 hX hbl hbA hS hd (kk H locs ls hP hD hS hl)
theorem l_sld (C : CX p s m args meth c cc nL own ret D cI cZ ad A) {b L : Nat} {xs : Nat → Int32} {i : Int32} (hX : va_X b L xs s s.heap) (hbl : b < s.heap.size) (hbA : ¬ A b) (hin : vp_in i L) (hd : decode cc pc = .ok (.iaload, 1)) (kk : J2 p l e R s m args below meth c D A nL Q n1 q1 ent1 n2 q2 ent2 cells slots u v (pc + 1) lv (.int (xs i.toNatClampNeg) :: st)) : J2 p l e R s m args below meth c D A nL Q n1 q1 ent1 n2 q2 ent2 cells slots u v pc lv (.int i :: .ref b :: st) :=
  fun H locs ls hP hD hS hl => va_sld C.1 C.2.1 hX hbl hbA hS hin hd (kk H locs ls hP hD hS hl)
theorem l_c1i (C : CX p s m args meth c cc nL own ret D cI cZ ad A) {y : MethodName} {bytes : ByteArray} {maxL na i : Nat} {ret2 : Option FieldType} {rm : Room} {As st0 : List Value} {K : Int32 → MM → Prop} (F : MFV y bytes maxL ret2 na) {T : u_T} {N ci : Nat} {fs : List Value} (hM : CT l D cI cZ ad n1 q1 ent1 y bytes maxL ret2 rm (.ref (q1 0) :: As) u (QI D n1 q1 ent1 K)) (hlink : Cond.methodLink own i y ∈ lw_tbl) (hn0 : 0 < n1) (he : ent1 0 (u 0) = .inr (ci, fs)) (hc : vwCl[ci]? = some (y.cls, T, N)) (hna : As.length = na) (hst : st0 = As.reverse ++ .ref (q1 0) :: st) (hR : rm.cells = 0 ∧ rm.slots = 0 ∧ rm.frames + 1 ≤ R.frames ∧ 8 + (maxL + 11) + rm.locals ≤ R.locals) (hw8 : (st.map fun v => v.category).sum ≤ 8) (hd : decode cc pc = .ok (.invokevirtual i, 3)) (hcs : cells ≤ R.cells ∧ slots ≤ R.slots) (kk : ∀ (r : Int32) (w : MM), K r w → J2 p l e R s m args below meth c D A nL Q n1 q1 ent1 n2 q2 ent2 cells slots w v (pc + 3) lv (.int r :: st)) : J2 p l e R s m args below meth c D A nL Q n1 q1 ent1 n2 q2 ent2 cells slots u v pc lv st0 :=
  fun H locs ls hP hD hS hl => by
    subst hst
    obtain ⟨hP1, hP2⟩ := two_P hP
    obtain ⟨hD1, hD2, hap0⟩ := two_D hD
    have hPs := hP1
    have hPo := hP2
    have hDs := hD1
    have hfr := jw_free hDs hS C.2.2.2.2.2.2.2.2
    have hap : ∀ (k : Nat) (x : Nat × va_E), (jw n2 q2 ent2 v)[k]? = some x → ¬ AJ n1 q1 H.size x.1 := fun k x hx h => by
      rcases h with ⟨j, hj, e⟩ | h
      · exact absurd e (fun e => hap0 j k _ x (jw_at hj) hx e.symm)
      · exact absurd (hPo k x hx).lt (Nat.not_lt.mpr h)
    refine va_calli (va_runV (As := As) (rest := st) (C := y.cls) (own := own) (Ts := []) ⟨C.1, C.2.1, C.2.2.1, C.2.2.2.1, fun _ h => absurd h List.not_mem_nil⟩ (hM H.size) ⟨⟨hR.1, hR.2.1, hR.2.2.1, hR.2.2.2, fun w hw a2 U hW => by rw [List.mem_singleton] at hw; subst hw; exact gw_warm F.1.2.1 hW (C.w F.1.1 F.1.2.1), List.mem_singleton.mpr rfl, C.w F.1.1 F.1.2.1, C.w F.1.2.2.1, F.1.2.2.2.1, mf_na F.1, C.w hlink⟩, C.w F.2.1, C.w F.2.2⟩ ⟨(fun a U g mk h => by obtain ⟨h1, h2, h3, h4, h5, h6⟩ := h; exact ⟨h1, h2, h3, va_K.moved (u := U) (U := U.calling g mk a) (Vm.Alike.refl U.vm) h4, h5, h6.calling g mk a⟩), va_recv (ci := ci) (q0 := 0) C.2.2.2.2.2.2.1 hPs hc ((jw_at hn0).trans (by rw [he])), fun U hU hW => ⟨rfl, by rw [hU], by rw [hU]; exact hPs, va_K.moved hW.alike C.2.2.2.2.2.2.1, hDs.weaken (fun _ _ _ _ => trivial), C.2.2.2.2.2.2.2.1.call hW hU hS hfr⟩⟩ rfl hna hl.1 rfl (lv_room hw8) hd hcs) hS (fun a _ h => hfr a h) hfr (fun r w t H1 locs1 ht hvm hK hB hz hk hS1 => ?_)
    exact kk r w hK H1 locs1 ls (va_P.app (by rw [← ht]; exact hB) (hPo.kept (fun k x hx => hk x.1 (hPo k x hx).lt (hap k x hx)))) (two_jw w v hD) hS1 hl
theorem l_c1l (C : CX p s m args meth c cc nL own ret D cI cZ ad A) {y : MethodName} {bytes : ByteArray} {maxL na i : Nat} {ret2 : Option FieldType} {rm : Room} {As st0 : List Value} {K : Int64 → MM → Prop} (F : MFV y bytes maxL ret2 na) {T : u_T} {N ci : Nat} {fs : List Value} (hM : CT l D cI cZ ad n1 q1 ent1 y bytes maxL ret2 rm (.ref (q1 0) :: As) u (QL D n1 q1 ent1 K)) (hlink : Cond.methodLink own i y ∈ lw_tbl) (hn0 : 0 < n1) (he : ent1 0 (u 0) = .inr (ci, fs)) (hc : vwCl[ci]? = some (y.cls, T, N)) (hna : As.length = na) (hst : st0 = As.reverse ++ .ref (q1 0) :: st) (hR : rm.cells = 0 ∧ rm.slots = 0 ∧ rm.frames + 1 ≤ R.frames ∧ 8 + (maxL + 11) + rm.locals ≤ R.locals) (hw8 : (st.map fun v => v.category).sum ≤ 8) (hd : decode cc pc = .ok (.invokevirtual i, 3)) (hcs : cells ≤ R.cells ∧ slots ≤ R.slots) (kk : ∀ (r : Int64) (w : MM), K r w → J2 p l e R s m args below meth c D A nL Q n1 q1 ent1 n2 q2 ent2 cells slots w v (pc + 3) lv (.long r :: st)) : J2 p l e R s m args below meth c D A nL Q n1 q1 ent1 n2 q2 ent2 cells slots u v pc lv st0 :=
  fun H locs ls hP hD hS hl => by
    subst hst
    obtain ⟨hP1, hP2⟩ := two_P hP
    obtain ⟨hD1, hD2, hap0⟩ := two_D hD
    have hPs := hP1
    have hPo := hP2
    have hDs := hD1
    have hfr := jw_free hDs hS C.2.2.2.2.2.2.2.2
    have hap : ∀ (k : Nat) (x : Nat × va_E), (jw n2 q2 ent2 v)[k]? = some x → ¬ AJ n1 q1 H.size x.1 := fun k x hx h => by
      rcases h with ⟨j, hj, e⟩ | h
      · exact absurd e (fun e => hap0 j k _ x (jw_at hj) hx e.symm)
      · exact absurd (hPo k x hx).lt (Nat.not_lt.mpr h)
    refine va_calll (va_runV (As := As) (rest := st) (C := y.cls) (own := own) (Ts := []) ⟨C.1, C.2.1, C.2.2.1, C.2.2.2.1, fun _ h => absurd h List.not_mem_nil⟩ (hM H.size) ⟨⟨hR.1, hR.2.1, hR.2.2.1, hR.2.2.2, fun w hw a2 U hW => by rw [List.mem_singleton] at hw; subst hw; exact gw_warm F.1.2.1 hW (C.w F.1.1 F.1.2.1), List.mem_singleton.mpr rfl, C.w F.1.1 F.1.2.1, C.w F.1.2.2.1, F.1.2.2.2.1, mf_na F.1, C.w hlink⟩, C.w F.2.1, C.w F.2.2⟩ ⟨(fun a U g mk h => by obtain ⟨h1, h2, h3, h4, h5, h6⟩ := h; exact ⟨h1, h2, h3, va_K.moved (u := U) (U := U.calling g mk a) (Vm.Alike.refl U.vm) h4, h5, h6.calling g mk a⟩), va_recv (ci := ci) (q0 := 0) C.2.2.2.2.2.2.1 hPs hc ((jw_at hn0).trans (by rw [he])), fun U hU hW => ⟨rfl, by rw [hU], by rw [hU]; exact hPs, va_K.moved hW.alike C.2.2.2.2.2.2.1, hDs.weaken (fun _ _ _ _ => trivial), C.2.2.2.2.2.2.2.1.call hW hU hS hfr⟩⟩ rfl hna hl.1 rfl (lv_room hw8) hd hcs) hS (fun a _ h => hfr a h) hfr (fun r w t H1 locs1 ht hvm hK hB hz hk hS1 => ?_)
    exact kk r w hK H1 locs1 ls (va_P.app (by rw [← ht]; exact hB) (hPo.kept (fun k x hx => hk x.1 (hPo k x hx).lt (hap k x hx)))) (two_jw w v hD) hS1 hl
theorem l_c2i (C : CX p s m args meth c cc nL own ret D cI cZ ad A) {y : MethodName} {bytes : ByteArray} {maxL na i : Nat} {ret2 : Option FieldType} {rm : Room} {As st0 : List Value} {K : Int32 → MM → Prop} (F : MFV y bytes maxL ret2 na) {T : u_T} {N ci : Nat} {fs : List Value} (hM : CT l D cI cZ ad n2 q2 ent2 y bytes maxL ret2 rm (.ref (q2 0) :: As) v (QI D n2 q2 ent2 K)) (hlink : Cond.methodLink own i y ∈ lw_tbl) (hn0 : 0 < n2) (he : ent2 0 (v 0) = .inr (ci, fs)) (hc : vwCl[ci]? = some (y.cls, T, N)) (hna : As.length = na) (hst : st0 = As.reverse ++ .ref (q2 0) :: st) (hR : rm.cells = 0 ∧ rm.slots = 0 ∧ rm.frames + 1 ≤ R.frames ∧ 8 + (maxL + 11) + rm.locals ≤ R.locals) (hw8 : (st.map fun v => v.category).sum ≤ 8) (hd : decode cc pc = .ok (.invokevirtual i, 3)) (hcs : cells ≤ R.cells ∧ slots ≤ R.slots) (kk : ∀ (r : Int32) (w : MM), K r w → J2 p l e R s m args below meth c D A nL Q n1 q1 ent1 n2 q2 ent2 cells slots u w (pc + 3) lv (.int r :: st)) : J2 p l e R s m args below meth c D A nL Q n1 q1 ent1 n2 q2 ent2 cells slots u v pc lv st0 :=
  fun H locs ls hP hD hS hl => by
    subst hst
    obtain ⟨hP1, hP2⟩ := two_P hP
    obtain ⟨hD1, hD2, hap0⟩ := two_D hD
    have hPs := hP2
    have hPo := hP1
    have hDs := hD2
    have hfr := jw_free hDs hS C.2.2.2.2.2.2.2.2
    have hap : ∀ (k : Nat) (x : Nat × va_E), (jw n1 q1 ent1 u)[k]? = some x → ¬ AJ n2 q2 H.size x.1 := fun k x hx h => by
      rcases h with ⟨j, hj, e⟩ | h
      · exact absurd e (fun e => hap0 k j x _ hx (jw_at hj) e)
      · exact absurd (hPo k x hx).lt (Nat.not_lt.mpr h)
    refine va_calli (va_runV (As := As) (rest := st) (C := y.cls) (own := own) (Ts := []) ⟨C.1, C.2.1, C.2.2.1, C.2.2.2.1, fun _ h => absurd h List.not_mem_nil⟩ (hM H.size) ⟨⟨hR.1, hR.2.1, hR.2.2.1, hR.2.2.2, fun w hw a2 U hW => by rw [List.mem_singleton] at hw; subst hw; exact gw_warm F.1.2.1 hW (C.w F.1.1 F.1.2.1), List.mem_singleton.mpr rfl, C.w F.1.1 F.1.2.1, C.w F.1.2.2.1, F.1.2.2.2.1, mf_na F.1, C.w hlink⟩, C.w F.2.1, C.w F.2.2⟩ ⟨(fun a U g mk h => by obtain ⟨h1, h2, h3, h4, h5, h6⟩ := h; exact ⟨h1, h2, h3, va_K.moved (u := U) (U := U.calling g mk a) (Vm.Alike.refl U.vm) h4, h5, h6.calling g mk a⟩), va_recv (ci := ci) (q0 := 0) C.2.2.2.2.2.2.1 hPs hc ((jw_at hn0).trans (by rw [he])), fun U hU hW => ⟨rfl, by rw [hU], by rw [hU]; exact hPs, va_K.moved hW.alike C.2.2.2.2.2.2.1, hDs.weaken (fun _ _ _ _ => trivial), C.2.2.2.2.2.2.2.1.call hW hU hS hfr⟩⟩ rfl hna hl.1 rfl (lv_room hw8) hd hcs) hS (fun a _ h => hfr a h) hfr (fun r w t H1 locs1 ht hvm hK hB hz hk hS1 => ?_)
    exact kk r w hK H1 locs1 ls (va_P.app (hPo.kept (fun k x hx => hk x.1 (hPo k x hx).lt (hap k x hx))) (by rw [← ht]; exact hB)) (two_jw u w hD) hS1 hl
theorem l_c2l (C : CX p s m args meth c cc nL own ret D cI cZ ad A) {y : MethodName} {bytes : ByteArray} {maxL na i : Nat} {ret2 : Option FieldType} {rm : Room} {As st0 : List Value} {K : Int64 → MM → Prop} (F : MFV y bytes maxL ret2 na) {T : u_T} {N ci : Nat} {fs : List Value} (hM : CT l D cI cZ ad n2 q2 ent2 y bytes maxL ret2 rm (.ref (q2 0) :: As) v (QL D n2 q2 ent2 K)) (hlink : Cond.methodLink own i y ∈ lw_tbl) (hn0 : 0 < n2) (he : ent2 0 (v 0) = .inr (ci, fs)) (hc : vwCl[ci]? = some (y.cls, T, N)) (hna : As.length = na) (hst : st0 = As.reverse ++ .ref (q2 0) :: st) (hR : rm.cells = 0 ∧ rm.slots = 0 ∧ rm.frames + 1 ≤ R.frames ∧ 8 + (maxL + 11) + rm.locals ≤ R.locals) (hw8 : (st.map fun v => v.category).sum ≤ 8) (hd : decode cc pc = .ok (.invokevirtual i, 3)) (hcs : cells ≤ R.cells ∧ slots ≤ R.slots) (kk : ∀ (r : Int64) (w : MM), K r w → J2 p l e R s m args below meth c D A nL Q n1 q1 ent1 n2 q2 ent2 cells slots u w (pc + 3) lv (.long r :: st)) : J2 p l e R s m args below meth c D A nL Q n1 q1 ent1 n2 q2 ent2 cells slots u v pc lv st0 :=
  fun H locs ls hP hD hS hl => by
    subst hst
    obtain ⟨hP1, hP2⟩ := two_P hP
    obtain ⟨hD1, hD2, hap0⟩ := two_D hD
    have hPs := hP2
    have hPo := hP1
    have hDs := hD2
    have hfr := jw_free hDs hS C.2.2.2.2.2.2.2.2
    have hap : ∀ (k : Nat) (x : Nat × va_E), (jw n1 q1 ent1 u)[k]? = some x → ¬ AJ n2 q2 H.size x.1 := fun k x hx h => by
      rcases h with ⟨j, hj, e⟩ | h
      · exact absurd e (fun e => hap0 k j x _ hx (jw_at hj) e)
      · exact absurd (hPo k x hx).lt (Nat.not_lt.mpr h)
    refine va_calll (va_runV (As := As) (rest := st) (C := y.cls) (own := own) (Ts := []) ⟨C.1, C.2.1, C.2.2.1, C.2.2.2.1, fun _ h => absurd h List.not_mem_nil⟩ (hM H.size) ⟨⟨hR.1, hR.2.1, hR.2.2.1, hR.2.2.2, fun w hw a2 U hW => by rw [List.mem_singleton] at hw; subst hw; exact gw_warm F.1.2.1 hW (C.w F.1.1 F.1.2.1), List.mem_singleton.mpr rfl, C.w F.1.1 F.1.2.1, C.w F.1.2.2.1, F.1.2.2.2.1, mf_na F.1, C.w hlink⟩, C.w F.2.1, C.w F.2.2⟩ ⟨(fun a U g mk h => by obtain ⟨h1, h2, h3, h4, h5, h6⟩ := h; exact ⟨h1, h2, h3, va_K.moved (u := U) (U := U.calling g mk a) (Vm.Alike.refl U.vm) h4, h5, h6.calling g mk a⟩), va_recv (ci := ci) (q0 := 0) C.2.2.2.2.2.2.1 hPs hc ((jw_at hn0).trans (by rw [he])), fun U hU hW => ⟨rfl, by rw [hU], by rw [hU]; exact hPs, va_K.moved hW.alike C.2.2.2.2.2.2.1, hDs.weaken (fun _ _ _ _ => trivial), C.2.2.2.2.2.2.2.1.call hW hU hS hfr⟩⟩ rfl hna hl.1 rfl (lv_room hw8) hd hcs) hS (fun a _ h => hfr a h) hfr (fun r w t H1 locs1 ht hvm hK hB hz hk hS1 => ?_)
    exact kk r w hK H1 locs1 ls (va_P.app (hPo.kept (fun k x hx => hk x.1 (hPo k x hx).lt (hap k x hx))) (by rw [← ht]; exact hB)) (two_jw u w hD) hS1 hl
end JLW
