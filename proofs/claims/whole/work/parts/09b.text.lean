/-! Texts: String.length, String.charAt on the claim's own constants -/
def chJ (i k : Nat) : Int32 := (bytJ.getD i []).getD k 0
theorem chJ_ok : ∀ i, i < 8 → ∀ k, k < lenJ.getD i 0 → ((chJ i k &&& 255).toUInt32 % 65536).toInt32 = chJ i k ∧ narrow .char (.int (chJ i k)) = .int (chJ i k) := by decide +kernel
theorem lenJ_ok : ∀ i, i < 8 → lenJ.getD i 0 < 7 := by decide +kernel
section JT
variable {p : Program} {l : Launch} {e : Env} {R : Room} {s : State} {m : MethodId} {args : Array Value} {below : List Frame} {meth : Method} {c : Code} {D : va_G} {A : Nat → Prop} {nL : Nat} {Q : State → Prop} {n : Nat} {q : Nat → Nat} {ent : Nat → (Nat → Int32) → va_E} {u : MM} {pc : Nat} {lv : List (Nat × Value)} {st : List Value} {cc : ByteArray} {own : String} {ret : Option FieldType} {cI cZ : ClassId} {ad : Nat → Nat}
theorem j_getZ (C : CX p s m args meth c cc nL own ret D cI cZ ad A) {i : Nat} (w1 : Cond.fieldLink own i "java/lang/String" "COMPACT_STRINGS" "Z" ∈ lw_tbl) (hd : decode cc pc = .ok (.getstatic i, 3)) (kk : JX p l e R s m args below meth c D A nL Q n q ent u (pc + 3) lv (.int 1 :: st)) : JX p l e R s m args below meth c D A nL Q n q ent u pc lv st :=
  fun H locs ls hP hD hS hl => va_gets C.1 C.2.1 C.2.2.2.2.2.2.2.1.2.2.2.2.1 hS C.2.2.2.1 (C.w w1) (fun _ h => h) hd (kk H locs ls hP hD hS hl)
theorem j_getq (C : CX p s m args meth c cc nL own ret D cI cZ ad A) {i : Nat} (w1 : Cond.fieldLink own i "jdk/internal/util/Preconditions" "SIOOBE_FORMATTER" "Ljava/util/function/BiFunction;" ∈ lw_tbl) (hd : decode cc pc = .ok (.getstatic i, 3)) (kk : ∀ v : Value, (v = .null ∨ ∃ t, v = .ref t) → JX p l e R s m args below meth c D A nL Q n q ent u (pc + 3) lv (v :: st)) : JX p l e R s m args below meth c D A nL Q n q ent u pc lv st :=
  fun H locs ls hP hD hS hl => by
    rcases C.2.2.2.2.2.2.2.1.2.2.2.2.2 with h | ⟨t, h⟩
    · exact va_gets C.1 C.2.1 h hS C.2.2.2.1 (C.w w1) (fun _ h => h) hd (kk _ (Or.inl rfl) H locs ls hP hD hS hl)
    · exact va_gets C.1 C.2.1 h hS C.2.2.2.1 (C.w w1) (fun _ h => h) hd (kk _ (Or.inr ⟨t, rfl⟩) H locs ls hP hD hS hl)
theorem j_coder (C : CX p s m args meth c cc nL own ret D cI cZ ad A) {i k : Nat} (hk : k < 8) (w1 : Cond.fieldLink own i "java/lang/String" "coder" "B" ∈ lw_tbl) (hd : decode cc pc = .ok (.getfield i, 3)) (kk : JX p l e R s m args below meth c D A nL Q n q ent u (pc + 3) lv (.int 0 :: st)) : JX p l e R s m args below meth c D A nL Q n q ent u pc lv (.ref (ad (10 + k)) :: st) :=
  fun H locs ls hP hD hS hl => vk_getf C.1 C.2.1 (C.2.2.2.2.2.2.2.1.2.2.1.1 k hk).2.1 hS C.2.2.2.1 (C.w w1) (fun _ h => h) hd (kk H locs ls hP hD hS hl)
theorem j_value (C : CX p s m args meth c cc nL own ret D cI cZ ad A) {i k : Nat} (hk : k < 8) (w1 : Cond.fieldLink own i "java/lang/String" "value" "[B" ∈ lw_tbl) (hd : decode cc pc = .ok (.getfield i, 3)) (kk : JX p l e R s m args below meth c D A nL Q n q ent u (pc + 3) lv (.ref (ad (30 + k)) :: st)) : JX p l e R s m args below meth c D A nL Q n q ent u pc lv (.ref (ad (10 + k)) :: st) :=
  fun H locs ls hP hD hS hl => vk_getf C.1 C.2.1 (C.2.2.2.2.2.2.2.1.2.2.1.1 k hk).2.2.1 hS C.2.2.2.1 (C.w w1) (fun _ h => h) hd (kk H locs ls hP hD hS hl)
theorem j_tlen (C : CX p s m args meth c cc nL own ret D cI cZ ad A) {k : Nat} (hk : k < 8) (hd : decode cc pc = .ok (.arraylength, 1)) (kk : JX p l e R s m args below meth c D A nL Q n q ent u (pc + 1) lv (.int (nI (lenJ.getD k 0)) :: st)) : JX p l e R s m args below meth c D A nL Q n q ent u pc lv (.ref (ad (30 + k)) :: st) :=
  fun H locs ls hP hD hS hl => va_tlen C.1 C.2.1 (C.2.2.2.2.2.2.2.1.2.2.1.1 k hk).2.2.2 hS rfl hd (kk H locs ls hP hD hS hl)
theorem j_tb (C : CX p s m args meth c cc nL own ret D cI cZ ad A) {k : Nat} {i : Int32} (hk : k < 8) (hin : vp_in i (lenJ.getD k 0)) (hd : decode cc pc = .ok (.baload, 1)) (kk : JX p l e R s m args below meth c D A nL Q n q ent u (pc + 1) lv (.int (chJ k i.toNatClampNeg) :: st)) : JX p l e R s m args below meth c D A nL Q n q ent u pc lv (.int i :: .ref (ad (30 + k)) :: st) :=
  fun H locs ls hP hD hS hl => va_tb C.1 C.2.1 (C.2.2.2.2.2.2.2.1.2.2.1.1 k hk).2.2.2 hS hin rfl hd (kk H locs ls hP hD hS hl)
theorem run_VS (C : CX p s m args meth c cc nL own ret D cI cZ ad A) {y : MethodName} {bytes : ByteArray} {maxL na i : Nat} {ret2 : Option FieldType} {rm : Room} {As st0 : List Value} {Qc : (Nat → Prop) → Array Value → State → Outcome → State → Prop} (F : MFV y bytes maxL ret2 na) {q2 : Nat → Nat} {ent2 : Nat → (Nat → Int32) → va_E} {u2 : MM} (k : Nat) (hk : k < 8) (hy : y.cls = "java/lang/String") (hM : CT l D cI cZ ad 0 q2 ent2 y bytes maxL ret2 rm (.ref (ad (10 + k)) :: As) u2 Qc) (hlink : Cond.methodLink own i y ∈ lw_tbl) (hna : As.length = na) (hst : st0 = As.reverse ++ .ref (ad (10 + k)) :: st) (hR : rm.cells = 0 ∧ rm.slots = 0 ∧ rm.frames + 1 ≤ R.frames ∧ 8 + (maxL + 11) + rm.locals ≤ R.locals) (hw8 : (st.map fun v => v.category).sum ≤ 8) (hd : decode cc pc = .ok (.invokevirtual i, 3)) {H : Heap} {locs : List Loc} {ls : Array Slot} (hS : va_S A s.heap H locs) (hl : lv_has ls nL lv) :
    va_Run p l e R s m args below meth c H locs 0 0 0 0 (F0 m pc ls st0) st (Qc (AJ 0 q2 H.size) (Value.ref (ad (10 + k)) :: As).toArray) (AJ 0 q2 H.size) := by
  subst hst
  exact va_runV (As := As) (rest := st) (C := y.cls) (own := own) (Ts := []) ⟨C.1, C.2.1, C.2.2.1, C.2.2.2.1, fun _ h => absurd h List.not_mem_nil⟩ (hM H.size) ⟨⟨hR.1, hR.2.1, hR.2.2.1, hR.2.2.2, fun w hw a2 U hW => by rw [List.mem_singleton] at hw; subst hw; exact gw_warm F.1.2.1 hW (C.w F.1.1 F.1.2.1), List.mem_singleton.mpr rfl, C.w F.1.1 F.1.2.1, C.w F.1.2.2.1, F.1.2.2.2.1, mf_na F.1, C.w hlink⟩, C.w F.2.1, C.w F.2.2⟩
    ⟨(fun a U g mk h => by obtain ⟨h1, h2, h3, h4, h5, h6⟩ := h; exact ⟨h1, h2, h3, va_K.moved (u := U) (U := U.calling g mk a) (Vm.Alike.refl U.vm) h4, h5, h6.calling g mk a⟩), by rw [hy]; exact vk_recv (adK := fun i => ad (10 + i)) (i := k) C.2.2.2.2.2.2.2.1.2.2.1 hk hS, fun U hU hW => ⟨rfl, by rw [hU], fun k x h => by simp [jw] at h, va_K.moved hW.alike C.2.2.2.2.2.2.1, ⟨fun i j x y h => by simp [jw] at h, fun k x h => by simp [jw] at h⟩, C.2.2.2.2.2.2.2.1.call hW hU hS (fun a h => by rcases h with ⟨k, hk, _⟩ | h; exact absurd hk (Nat.not_lt_zero k); exact C.2.2.2.2.2.2.2.2 a (Nat.le_trans hS.1 h))⟩⟩ rfl hna hl.1 rfl (lv_room hw8) hd ⟨Nat.zero_le _, Nat.zero_le _⟩
theorem j_uv (C : CX p s m args meth c cc nL own ret D cI cZ ad A) {K : MM → Prop} {st0 : List Value} {a : Array Value} {q2 : Nat → Nat} {ent2 : Nat → (Nat → Int32) → va_E} (hr : ∀ (H : Heap) (locs : List Loc) (ls : Array Slot), va_S A s.heap H locs → lv_has ls nL lv → va_Run p l e R s m args below meth c H locs 0 0 0 0 (F0 m pc ls st0) st (QV D 0 q2 ent2 K (AJ 0 q2 H.size) a) (AJ 0 q2 H.size)) (kk : ∀ (u2 : MM), K u2 → JX p l e R s m args below meth c D A nL Q n q ent u (pc + 3) lv st) : JX p l e R s m args below meth c D A nL Q n q ent u pc lv st0 :=
  fun H locs ls hP hD hS hl => by
    have hf : ∀ x, AJ 0 q2 H.size x → H.size ≤ x := fun x h => by
      rcases h with ⟨k, hk, _⟩ | h
      · exact absurd hk (Nat.not_lt_zero k)
      · exact h
    exact va_callv (hr H locs ls hS hl) hS (fun a h1 h => absurd (hf a h) (Nat.not_le.mpr h1)) (fun a h => C.2.2.2.2.2.2.2.2 a (Nat.le_trans hS.1 (hf a h))) (fun u2 t H1 locs1 ht hvm hK hB hz hk hS1 => kk u2 hK H1 locs1 ls (hP.kept (fun k x hx => hk x.1 (hP k x hx).lt (fun h => absurd (hf _ h) (Nat.not_le.mpr (hP k x hx).lt)))) hD hS1 hl)
end JT
theorem kX_J0_coder (l : Launch) (D : va_G) (cI cZ : ClassId) (ad q : Nat → Nat) {i : Nat} (hi : i < 8) {K : Int32 → Prop} (h : K 0) : CT l D cI cZ ad 0 q (entM q cI cZ) yJ0_coder_7d493 cJ0_coder_7d493 1 (some .byte) (rr 0 0) [.ref (ad (10 + i))] u00 (QI D 0 q (entM q cI cZ) (fun r _ => K r)) := by
  refine ct_of (by decide +kernel) (Nat.le_of_ble_eq_true rfl) (fun p e s m args below meth c C => ?_)
  refine j_sub (lv' := [(0, .ref (ad (10 + i)))]) [0] rfl ?_
  refine j_getZ C q_271 dJ0_coder_7d493_0 ?_
  refine j_if_eq C 13 dJ0_coder_7d493_3 (by decide) (fun c1 => absurd c1 (by decide)) (fun c1 => ?_)
  refine j_aload_n C 0 dJ0_coder_7d493_6 rfl ?_
  refine j_coder C hi q_921 dJ0_coder_7d493_7 ?_
  refine j_goto C 14 dJ0_coder_7d493_10 (by decide) ?_
  exact j_zret (K := fun r _ => K r) C dJ0_coder_7d493_14 rfl h
theorem kX_J0_isLatin1 (l : Launch) (D : va_G) (cI cZ : ClassId) (ad q : Nat → Nat) {i : Nat} (hi : i < 8) {K : Int32 → Prop} (h : K 1) : CT l D cI cZ ad 0 q (entM q cI cZ) yJ0_isLatin1_aae02 cJ0_isLatin1_aae02 1 (some .boolean) (rr 0 0) [.ref (ad (10 + i))] u00 (QI D 0 q (entM q cI cZ) (fun r _ => K r)) := by
  refine ct_of (by decide +kernel) (Nat.le_of_ble_eq_true rfl) (fun p e s m args below meth c C => ?_)
  refine j_sub (lv' := [(0, .ref (ad (10 + i)))]) [0] rfl ?_
  refine j_getZ C q_271 dJ0_isLatin1_aae02_0 ?_
  refine j_if_eq C 17 dJ0_isLatin1_aae02_3 (by decide) (fun c1 => absurd c1 (by decide)) (fun c1 => ?_)
  refine j_aload_n C 0 dJ0_isLatin1_aae02_6 rfl ?_
  refine j_coder C hi q_921 dJ0_isLatin1_aae02_7 ?_
  refine j_if_ne C 17 dJ0_isLatin1_aae02_10 (by decide) (fun c1 => absurd rfl c1) (fun c1 => ?_)
  refine j_iconst (v := 1) C dJ0_isLatin1_aae02_13 (by decide) ?_
  refine j_goto C 18 dJ0_isLatin1_aae02_14 (by decide) ?_
  exact j_zret (K := fun r _ => K r) C dJ0_isLatin1_aae02_18 rfl h
theorem kX_J0_length (l : Launch) (D : va_G) (cI cZ : ClassId) (ad q : Nat → Nat) {i : Nat} (hi : i < 8) {K : Int32 → Prop} (h : K (nI (lenJ.getD i 0))) : CT l D cI cZ ad 0 q (entM q cI cZ) yJ0_length_8abf5 cJ0_length_8abf5 1 (some .int) (rr 1 30) [.ref (ad (10 + i))] u00 (QI D 0 q (entM q cI cZ) (fun r _ => K r)) := by
  refine ct_of (by decide +kernel) (Nat.le_of_ble_eq_true rfl) (fun p e s m args below meth c C => ?_)
  refine j_sub (lv' := [(0, .ref (ad (10 + i)))]) [0] rfl ?_
  refine j_aload_n C 0 dJ0_length_8abf5_0 rfl ?_
  refine j_value C hi q_920 dJ0_length_8abf5_1 ?_
  refine j_tlen C hi dJ0_length_8abf5_4 ?_
  refine j_aload_n C 0 dJ0_length_8abf5_5 rfl ?_
  refine j_ui C (fun H locs ls hS hl => run_VS (As := []) (st := [.int (nI (lenJ.getD i 0))]) C mf_J0_coder_7d493 i hi rfl (kX_J0_coder l D cI cZ ad q (K := fun r => r = 0) hi rfl) q_267 rfl rfl ⟨rfl, rfl, by decide, by decide⟩ (Nat.le_of_ble_eq_true rfl) dJ0_length_8abf5_6 hS hl) (fun r _ hr => ?_)
  subst hr
  refine j_ishr C dJ0_length_8abf5_9 ?_
  have e0 : nI (lenJ.getD i 0) >>> ((0 : Int32) &&& 31) = nI (lenJ.getD i 0) := by
    have := lenJ_ok i hi
    rw [show ((0 : Int32) &&& 31) = 0 from rfl]
    rw [pk_shrN (by omega) 0 0 (by decide), Nat.pow_zero, Nat.div_one]
  rw [e0]
  exact j_iret (K := fun r _ => K r) C dJ0_length_8abf5_10 h
theorem kX_J3_checkIndex (l : Launch) (D : va_G) (cI cZ : ClassId) (ad q : Nat → Nat) {x0 x1 : Int32} {v : Value} (hv : v = .null ∨ ∃ t, v = .ref t) (h0 : ¬ x0 < 0) (h1 : x0 < x1) : CT l D cI cZ ad 0 q (entM q cI cZ) yJ3_checkIndex_8e157 cJ3_checkIndex_8e157 3 (some .int) (rr 0 0) [.int x0, .int x1, v] u00 (QI D 0 q (entM q cI cZ) (fun _ _ => True)) := by
  rcases hv with rfl | ⟨t, rfl⟩
  · refine ct_of (by decide +kernel) (Nat.le_of_ble_eq_true rfl) (fun p e s m args below meth c C => ?_)
    refine j_sub (lv' := [(0, .int x0), (1, .int x1)]) [0, 1] rfl ?_
    refine j_iload_n C 0 dJ3_checkIndex_8e157_0 rfl ?_
    refine j_if_lt C 9 dJ3_checkIndex_8e157_1 (by decide) (fun c1 => absurd c1 h0) (fun c1 => ?_)
    refine j_iload_n C 0 dJ3_checkIndex_8e157_4 rfl ?_
    refine j_iload_n C 1 dJ3_checkIndex_8e157_5 rfl ?_
    refine j_icmp_lt C 16 dJ3_checkIndex_8e157_6 (by decide) (fun c1 => ?_) (fun c1 => absurd h1 c1)
    refine j_iload_n C 0 dJ3_checkIndex_8e157_16 rfl ?_
    exact j_iret (K := fun _ _ => True) C dJ3_checkIndex_8e157_17 trivial
  · refine ct_of (by decide +kernel) (Nat.le_of_ble_eq_true rfl) (fun p e s m args below meth c C => ?_)
    refine j_sub (lv' := [(0, .int x0), (1, .int x1)]) [0, 1] rfl ?_
    refine j_iload_n C 0 dJ3_checkIndex_8e157_0 rfl ?_
    refine j_if_lt C 9 dJ3_checkIndex_8e157_1 (by decide) (fun c1 => absurd c1 h0) (fun c1 => ?_)
    refine j_iload_n C 0 dJ3_checkIndex_8e157_4 rfl ?_
    refine j_iload_n C 1 dJ3_checkIndex_8e157_5 rfl ?_
    refine j_icmp_lt C 16 dJ3_checkIndex_8e157_6 (by decide) (fun c1 => ?_) (fun c1 => absurd h1 c1)
    refine j_iload_n C 0 dJ3_checkIndex_8e157_16 rfl ?_
    exact j_iret (K := fun _ _ => True) C dJ3_checkIndex_8e157_17 trivial
theorem kX_J0_checkIndex (l : Launch) (D : va_G) (cI cZ : ClassId) (ad q : Nat → Nat) {x0 x1 : Int32} (h0 : ¬ x0 < 0) (h1 : x0 < x1) : CT l D cI cZ ad 0 q (entM q cI cZ) yJ0_checkIndex_df160 cJ0_checkIndex_df160 2 none (rr 1 30) [.int x0, .int x1] u00 (QV D 0 q (entM q cI cZ) (fun _ => True)) := by
  refine ct_of (by decide +kernel) (Nat.le_of_ble_eq_true rfl) (fun p e s m args below meth c C => ?_)
  refine j_sub (lv' := [(0, .int x0), (1, .int x1)]) [0, 1] rfl ?_
  refine j_iload_n C 0 dJ0_checkIndex_df160_0 rfl ?_
  refine j_iload_n C 1 dJ0_checkIndex_df160_1 rfl ?_
  refine j_getq C q_286 dJ0_checkIndex_df160_2 (fun v hv => ?_)
  refine j_ui C (fun H locs ls hS hl => run_S (As := [.int x0, .int x1, v]) (st := []) C mf_J3_checkIndex_8e157 (kX_J3_checkIndex l D cI cZ ad q hv h0 h1) q_287 rfl rfl ⟨rfl, rfl, by decide, by decide⟩ (Nat.le_of_ble_eq_true rfl) dJ0_checkIndex_df160_5 hS hl) (fun r _ _ => ?_)
  refine j_pop C dJ0_checkIndex_df160_8 rfl ?_
  exact j_vret (K := fun _ => True) C dJ0_checkIndex_df160_9 trivial
theorem kX_J1_charAt (l : Launch) (D : va_G) (cI cZ : ClassId) (ad q : Nat → Nat) {i : Nat} (hi : i < 8) {x1 : Int32} (hin : vp_in x1 (lenJ.getD i 0)) {K : Int32 → Prop} (h : K (chJ i x1.toNatClampNeg)) : CT l D cI cZ ad 0 q (entM q cI cZ) yJ1_charAt_3b067 cJ1_charAt_3b067 2 (some .char) (rr 2 60) [.ref (ad (30 + i)), .int x1] u00 (QI D 0 q (entM q cI cZ) (fun r _ => K r)) := by
  have hlen := lenJ_ok i hi
  obtain ⟨j, hj, rfl⟩ := vp_in_of hin (by omega)
  rw [nI_clamp (by omega)] at h
  refine ct_of (by decide +kernel) (Nat.le_of_ble_eq_true rfl) (fun p e s m args below meth c C => ?_)
  refine j_sub (lv' := [(0, .ref (ad (30 + i))), (1, .int (nI j))]) [0, 1] rfl ?_
  refine j_iload_n C 1 dJ1_charAt_3b067_0 rfl ?_
  refine j_aload_n C 0 dJ1_charAt_3b067_1 rfl ?_
  refine j_tlen C hi dJ1_charAt_3b067_2 ?_
  refine j_uv C (fun H locs ls hS hl => run_S (As := [.int (nI j), .int (nI (lenJ.getD i 0))]) (st := []) C mf_J0_checkIndex_df160 (kX_J0_checkIndex l D cI cZ ad q (nI_pos (by omega)) (nI_lt hj (by omega))) q_283 rfl rfl ⟨rfl, rfl, by decide, by decide⟩ (Nat.le_of_ble_eq_true rfl) dJ1_charAt_3b067_3 hS hl) (fun _ _ => ?_)
  refine j_aload_n C 0 dJ1_charAt_3b067_6 rfl ?_
  refine j_iload_n C 1 dJ1_charAt_3b067_7 rfl ?_
  refine j_tb C hi hin dJ1_charAt_3b067_8 ?_
  rw [nI_clamp (by omega)]
  refine j_sipush (v := 255) C dJ1_charAt_3b067_9 (by decide) ?_
  refine j_iand C dJ1_charAt_3b067_12 ?_
  refine j_i2c C dJ1_charAt_3b067_13 ?_
  rw [(chJ_ok i hi j hj).1]
  exact j_zret (K := fun r _ => K r) C dJ1_charAt_3b067_14 (chJ_ok i hi j hj).2 h
theorem kX_J0_charAt (l : Launch) (D : va_G) (cI cZ : ClassId) (ad q : Nat → Nat) {i : Nat} (hi : i < 8) {x1 : Int32} (hin : vp_in x1 (lenJ.getD i 0)) {K : Int32 → Prop} (h : K (chJ i x1.toNatClampNeg)) : CT l D cI cZ ad 0 q (entM q cI cZ) yJ0_charAt_5068e cJ0_charAt_5068e 2 (some .char) (rr 3 90) [.ref (ad (10 + i)), .int x1] u00 (QI D 0 q (entM q cI cZ) (fun r _ => K r)) := by
  have hlen := lenJ_ok i hi
  have hn : narrow .char (.int (chJ i x1.toNatClampNeg)) = .int (chJ i x1.toNatClampNeg) := by
    obtain ⟨j, hj, rfl⟩ := vp_in_of hin (by omega)
    rw [nI_clamp (by omega)]
    exact (chJ_ok i hi j hj).2
  refine ct_of (by decide +kernel) (Nat.le_of_ble_eq_true rfl) (fun p e s m args below meth c C => ?_)
  refine j_sub (lv' := [(0, .ref (ad (10 + i))), (1, .int x1)]) [0, 1] rfl ?_
  refine j_aload_n C 0 dJ0_charAt_5068e_0 rfl ?_
  refine j_ui C (fun H locs ls hS hl => run_VS (As := []) (st := []) C mf_J0_isLatin1_aae02 i hi rfl (kX_J0_isLatin1 l D cI cZ ad q (K := fun r => r = 1) hi rfl) q_276 rfl rfl ⟨rfl, rfl, by decide, by decide⟩ (Nat.le_of_ble_eq_true rfl) dJ0_charAt_5068e_1 hS hl) (fun r _ hr => ?_)
  subst hr
  refine j_if_eq C 16 dJ0_charAt_5068e_4 (by decide) (fun c1 => absurd c1 (by decide)) (fun c1 => ?_)
  refine j_aload_n C 0 dJ0_charAt_5068e_7 rfl ?_
  refine j_value C hi q_920 dJ0_charAt_5068e_8 ?_
  refine j_iload_n C 1 dJ0_charAt_5068e_11 rfl ?_
  refine j_ui C (fun H locs ls hS hl => run_S (As := [.ref (ad (30 + i)), .int x1]) (st := []) C mf_J1_charAt_3b067 (kX_J1_charAt l D cI cZ ad q (K := fun r => r = chJ i x1.toNatClampNeg) hi hin rfl) q_280 rfl rfl ⟨rfl, rfl, by decide, by decide⟩ (Nat.le_of_ble_eq_true rfl) dJ0_charAt_5068e_12 hS hl) (fun r _ hr => ?_)
  subst hr
  exact j_zret (K := fun r _ => K r) C dJ0_charAt_5068e_15 hn h
