theorem lg_same (x : Int64) : lg_cmp x x = 0 := by
  unfold lg_cmp
  rw [if_neg (by intro h; exact absurd (Int64.lt_iff_toInt_lt.mp h) (Int.lt_irrefl _)), if_pos rfl]
theorem l_in1 {i L : Nat} (h : i + 4 ≤ L) (hL : L ≤ 2048) : vp_in (nI i + 1) L := by rw [nI_1]; exact vp_in_nI (by omega) (by omega)
theorem l_in2 {i L : Nat} (h : i + 4 ≤ L) (hL : L ≤ 2048) : vp_in (nI i + 2) L := by rw [show (2 : Int32) = nI 2 from rfl, nI_add]; exact vp_in_nI (by omega) (by omega)
theorem l_in3 {i L : Nat} (h : i + 4 ≤ L) (hL : L ≤ 2048) : vp_in (nI i + 3) L := by rw [show (3 : Int32) = nI 3 from rfl, nI_add]; exact vp_in_nI (by omega) (by omega)
theorem l_go {i L : Nat} (hi : i ≤ 2100) (hL : L ≤ 2048) (h : ¬ nI L - 4 < nI i) : i + 4 ≤ L := by
  have h1 : (nI L - nI 4).toInt = (L : Int) - 4 := pk_sub_toInt (by omega) (by omega)
  have h2 : (nI i).toInt = (i : Int) := nI_toInt (by omega)
  rw [Int32.lt_iff_toInt_lt, show (4 : Int32) = nI 4 from rfl, h1, h2] at h
  omega
set_option maxRecDepth 100000 in
set_option maxHeartbeats 4000000 in
theorem law_c0 {p : Program} {e : Env} {s : State} {m : MethodId} {below : List Frame} {meth : Method} {c : Code} (l : Launch) {D : va_G} {cI cZ : ClassId} {ad q1 q2 : Nat → Nat} (N : Nat) {R : MM → MM → Prop} {b L : Nat} {xs : Nat → Int32} {Q : State → Prop} (C : CX p s m #[Value.ref b] meth c cL_law 4 RL ret D cI cZ ad (fun a : Nat => s.heap.size ≤ a)) (hX : va_X b L xs s s.heap) (hbl : b < s.heap.size) (hL : L ≤ 2048) {i : Nat} (hi : i + 4 ≤ L) (hrel : ∀ (u v : MM) (x1 : Int32), R u v → wX10_feed N x1 u (fun r u2 => wX11_feed N x1 v (fun r2 v2 => r = r2 ∧ R u2 v2))) {u v : MM} (hR : R u v) (kf : ∀ (u2 v2 : MM), R u2 v2 → J2 p l e room_1 s m #[Value.ref b] below meth c D (fun a : Nat => s.heap.size ≤ a) 4 Q 72 q1 (entC q1 cI cZ) 9 q2 (entM q2 cI cZ) 81 3756 u2 v2 943 [(0, .ref b), (1, .ref (q1 0)), (2, .ref (q2 0)), (3, .int (nI i))] []) : J2 p l e room_1 s m #[Value.ref b] below meth c D (fun a : Nat => s.heap.size ≤ a) 4 Q 72 q1 (entC q1 cI cZ) 9 q2 (entM q2 cI cZ) 81 3756 u v 160 [(0, .ref b), (1, .ref (q1 0)), (2, .ref (q2 0)), (3, .int (nI i))] [] := by
  refine l_aload_n C 1 dL_law_160 rfl ?_
  refine l_aload_n C 0 dL_law_161 rfl ?_
  refine l_iload_n C 3 dL_law_162 rfl ?_
  refine l_iconst (x := 1) C dL_law_163 (by decide) ?_
  refine l_iadd C dL_law_164 ?_
  refine l_sld C hX hbl (Nat.not_le.mpr hbl) (l_in1 hi hL) dL_law_165 ?_
  have h := hrel u v (xs (nI i + 1).toNatClampNeg) hR
  refine l_c1i (As := [.int (xs (nI i + 1).toNatClampNeg)]) (st := []) C mf_X10_feed (kX_X10_feed l D cI cZ ad q1 N h) q_228 (by decide) rfl rfl rfl rfl ⟨rfl, rfl, Nat.le_of_ble_eq_true rfl, Nat.le_of_ble_eq_true rfl⟩ (Nat.le_of_ble_eq_true rfl) dL_law_166 ⟨Nat.le_of_ble_eq_true rfl, Nat.le_of_ble_eq_true rfl⟩ (fun r1 u1 h => ?_)
  refine l_aload_n C 2 dL_law_169 rfl ?_
  refine l_aload_n C 0 dL_law_170 rfl ?_
  refine l_iload_n C 3 dL_law_171 rfl ?_
  refine l_iconst (x := 1) C dL_law_172 (by decide) ?_
  refine l_iadd C dL_law_173 ?_
  refine l_sld C hX hbl (Nat.not_le.mpr hbl) (l_in1 hi hL) dL_law_174 ?_
  refine l_c2i (As := [.int (xs (nI i + 1).toNatClampNeg)]) (st := [.int r1]) C mf_X11_feed (kX_X11_feed l D cI cZ ad q2 N h) q_663 (by decide) rfl rfl rfl rfl ⟨rfl, rfl, Nat.le_of_ble_eq_true rfl, Nat.le_of_ble_eq_true rfl⟩ (Nat.le_of_ble_eq_true rfl) dL_law_175 ⟨Nat.le_of_ble_eq_true rfl, Nat.le_of_ble_eq_true rfl⟩ (fun r2 v1 h => ?_)
  obtain ⟨rfl, hR1⟩ := h
  refine l_icmp_eq C 943 dL_law_178 (by decide) (fun _ => ?_) (fun c9 => absurd rfl c9)
  exact kf u1 v1 hR1
set_option maxRecDepth 100000 in
set_option maxHeartbeats 4000000 in
theorem law_c1 {p : Program} {e : Env} {s : State} {m : MethodId} {below : List Frame} {meth : Method} {c : Code} (l : Launch) {D : va_G} {cI cZ : ClassId} {ad q1 q2 : Nat → Nat} (N : Nat) {R : MM → MM → Prop} {b L : Nat} {xs : Nat → Int32} {Q : State → Prop} (C : CX p s m #[Value.ref b] meth c cL_law 4 RL ret D cI cZ ad (fun a : Nat => s.heap.size ≤ a)) (hX : va_X b L xs s s.heap) (hbl : b < s.heap.size) (hL : L ≤ 2048) {i : Nat} (hi : i + 4 ≤ L) (hrel : ∀ (u v : MM), R u v → wX10_town N u (fun r u2 => wX11_town N v (fun r2 v2 => r = r2 ∧ R u2 v2))) {u v : MM} (hR : R u v) (kf : ∀ (u2 v2 : MM), R u2 v2 → J2 p l e room_1 s m #[Value.ref b] below meth c D (fun a : Nat => s.heap.size ≤ a) 4 Q 72 q1 (entC q1 cI cZ) 9 q2 (entM q2 cI cZ) 81 3756 u2 v2 943 [(0, .ref b), (1, .ref (q1 0)), (2, .ref (q2 0)), (3, .int (nI i))] []) : J2 p l e room_1 s m #[Value.ref b] below meth c D (fun a : Nat => s.heap.size ≤ a) 4 Q 72 q1 (entC q1 cI cZ) 9 q2 (entM q2 cI cZ) 81 3756 u v 183 [(0, .ref b), (1, .ref (q1 0)), (2, .ref (q2 0)), (3, .int (nI i))] [] := by
  refine l_aload_n C 1 dL_law_183 rfl ?_
  have h := hrel u v hR
  refine l_c1i (As := []) (st := []) C mf_X10_town (kX_X10_town l D cI cZ ad q1 N h) q_235 (by decide) rfl rfl rfl rfl ⟨rfl, rfl, Nat.le_of_ble_eq_true rfl, Nat.le_of_ble_eq_true rfl⟩ (Nat.le_of_ble_eq_true rfl) dL_law_184 ⟨Nat.le_of_ble_eq_true rfl, Nat.le_of_ble_eq_true rfl⟩ (fun r1 u1 h => ?_)
  refine l_aload_n C 2 dL_law_187 rfl ?_
  refine l_c2i (As := []) (st := [.int r1]) C mf_X11_town (kX_X11_town l D cI cZ ad q2 N h) q_670 (by decide) rfl rfl rfl rfl ⟨rfl, rfl, Nat.le_of_ble_eq_true rfl, Nat.le_of_ble_eq_true rfl⟩ (Nat.le_of_ble_eq_true rfl) dL_law_188 ⟨Nat.le_of_ble_eq_true rfl, Nat.le_of_ble_eq_true rfl⟩ (fun r2 v1 h => ?_)
  obtain ⟨rfl, hR1⟩ := h
  refine l_icmp_eq C 943 dL_law_191 (by decide) (fun _ => ?_) (fun c9 => absurd rfl c9)
  exact kf u1 v1 hR1
set_option maxRecDepth 100000 in
set_option maxHeartbeats 4000000 in
theorem law_c2 {p : Program} {e : Env} {s : State} {m : MethodId} {below : List Frame} {meth : Method} {c : Code} (l : Launch) {D : va_G} {cI cZ : ClassId} {ad q1 q2 : Nat → Nat} (N : Nat) {R : MM → MM → Prop} {b L : Nat} {xs : Nat → Int32} {Q : State → Prop} (C : CX p s m #[Value.ref b] meth c cL_law 4 RL ret D cI cZ ad (fun a : Nat => s.heap.size ≤ a)) (hX : va_X b L xs s s.heap) (hbl : b < s.heap.size) (hL : L ≤ 2048) {i : Nat} (hi : i + 4 ≤ L) (hrel : ∀ (u v : MM) (x1 : Int32) (x2 : Int32), R u v → wX10_person N x1 x2 u (fun r u2 => wX11_person N x1 x2 v (fun r2 v2 => r = r2 ∧ R u2 v2))) {u v : MM} (hR : R u v) (kf : ∀ (u2 v2 : MM), R u2 v2 → J2 p l e room_1 s m #[Value.ref b] below meth c D (fun a : Nat => s.heap.size ≤ a) 4 Q 72 q1 (entC q1 cI cZ) 9 q2 (entM q2 cI cZ) 81 3756 u2 v2 943 [(0, .ref b), (1, .ref (q1 0)), (2, .ref (q2 0)), (3, .int (nI i))] []) : J2 p l e room_1 s m #[Value.ref b] below meth c D (fun a : Nat => s.heap.size ≤ a) 4 Q 72 q1 (entC q1 cI cZ) 9 q2 (entM q2 cI cZ) 81 3756 u v 196 [(0, .ref b), (1, .ref (q1 0)), (2, .ref (q2 0)), (3, .int (nI i))] [] := by
  refine l_aload_n C 1 dL_law_196 rfl ?_
  refine l_aload_n C 0 dL_law_197 rfl ?_
  refine l_iload_n C 3 dL_law_198 rfl ?_
  refine l_iconst (x := 1) C dL_law_199 (by decide) ?_
  refine l_iadd C dL_law_200 ?_
  refine l_sld C hX hbl (Nat.not_le.mpr hbl) (l_in1 hi hL) dL_law_201 ?_
  refine l_aload_n C 0 dL_law_202 rfl ?_
  refine l_iload_n C 3 dL_law_203 rfl ?_
  refine l_iconst (x := 2) C dL_law_204 (by decide) ?_
  refine l_iadd C dL_law_205 ?_
  refine l_sld C hX hbl (Nat.not_le.mpr hbl) (l_in2 hi hL) dL_law_206 ?_
  have h := hrel u v (xs (nI i + 1).toNatClampNeg) (xs (nI i + 2).toNatClampNeg) hR
  refine l_c1i (As := [.int (xs (nI i + 1).toNatClampNeg), .int (xs (nI i + 2).toNatClampNeg)]) (st := []) C mf_X10_person (kX_X10_person l D cI cZ ad q1 N h) q_344 (by decide) rfl rfl rfl rfl ⟨rfl, rfl, Nat.le_of_ble_eq_true rfl, Nat.le_of_ble_eq_true rfl⟩ (Nat.le_of_ble_eq_true rfl) dL_law_207 ⟨Nat.le_of_ble_eq_true rfl, Nat.le_of_ble_eq_true rfl⟩ (fun r1 u1 h => ?_)
  refine l_aload_n C 2 dL_law_210 rfl ?_
  refine l_aload_n C 0 dL_law_211 rfl ?_
  refine l_iload_n C 3 dL_law_212 rfl ?_
  refine l_iconst (x := 1) C dL_law_213 (by decide) ?_
  refine l_iadd C dL_law_214 ?_
  refine l_sld C hX hbl (Nat.not_le.mpr hbl) (l_in1 hi hL) dL_law_215 ?_
  refine l_aload_n C 0 dL_law_216 rfl ?_
  refine l_iload_n C 3 dL_law_217 rfl ?_
  refine l_iconst (x := 2) C dL_law_218 (by decide) ?_
  refine l_iadd C dL_law_219 ?_
  refine l_sld C hX hbl (Nat.not_le.mpr hbl) (l_in2 hi hL) dL_law_220 ?_
  refine l_c2i (As := [.int (xs (nI i + 1).toNatClampNeg), .int (xs (nI i + 2).toNatClampNeg)]) (st := [.int r1]) C mf_X11_person (kX_X11_person l D cI cZ ad q2 N h) q_712 (by decide) rfl rfl rfl rfl ⟨rfl, rfl, Nat.le_of_ble_eq_true rfl, Nat.le_of_ble_eq_true rfl⟩ (Nat.le_of_ble_eq_true rfl) dL_law_221 ⟨Nat.le_of_ble_eq_true rfl, Nat.le_of_ble_eq_true rfl⟩ (fun r2 v1 h => ?_)
  obtain ⟨rfl, hR1⟩ := h
  refine l_icmp_eq C 943 dL_law_224 (by decide) (fun _ => ?_) (fun c9 => absurd rfl c9)
  exact kf u1 v1 hR1
set_option maxRecDepth 100000 in
set_option maxHeartbeats 4000000 in
theorem law_c3 {p : Program} {e : Env} {s : State} {m : MethodId} {below : List Frame} {meth : Method} {c : Code} (l : Launch) {D : va_G} {cI cZ : ClassId} {ad q1 q2 : Nat → Nat} (N : Nat) {R : MM → MM → Prop} {b L : Nat} {xs : Nat → Int32} {Q : State → Prop} (C : CX p s m #[Value.ref b] meth c cL_law 4 RL ret D cI cZ ad (fun a : Nat => s.heap.size ≤ a)) (hX : va_X b L xs s s.heap) (hbl : b < s.heap.size) (hL : L ≤ 2048) {i : Nat} (hi : i + 4 ≤ L) (hrel : ∀ (u v : MM) (x1 : Int32) (x2 : Int32), R u v → wX10_of N x1 x2 u (fun r u2 => wX11_of N x1 x2 v (fun r2 v2 => r = r2 ∧ R u2 v2))) {u v : MM} (hR : R u v) (kf : ∀ (u2 v2 : MM), R u2 v2 → J2 p l e room_1 s m #[Value.ref b] below meth c D (fun a : Nat => s.heap.size ≤ a) 4 Q 72 q1 (entC q1 cI cZ) 9 q2 (entM q2 cI cZ) 81 3756 u2 v2 943 [(0, .ref b), (1, .ref (q1 0)), (2, .ref (q2 0)), (3, .int (nI i))] []) : J2 p l e room_1 s m #[Value.ref b] below meth c D (fun a : Nat => s.heap.size ≤ a) 4 Q 72 q1 (entC q1 cI cZ) 9 q2 (entM q2 cI cZ) 81 3756 u v 229 [(0, .ref b), (1, .ref (q1 0)), (2, .ref (q2 0)), (3, .int (nI i))] [] := by
  refine l_aload_n C 1 dL_law_229 rfl ?_
  refine l_aload_n C 0 dL_law_230 rfl ?_
  refine l_iload_n C 3 dL_law_231 rfl ?_
  refine l_iconst (x := 1) C dL_law_232 (by decide) ?_
  refine l_iadd C dL_law_233 ?_
  refine l_sld C hX hbl (Nat.not_le.mpr hbl) (l_in1 hi hL) dL_law_234 ?_
  refine l_aload_n C 0 dL_law_235 rfl ?_
  refine l_iload_n C 3 dL_law_236 rfl ?_
  refine l_iconst (x := 2) C dL_law_237 (by decide) ?_
  refine l_iadd C dL_law_238 ?_
  refine l_sld C hX hbl (Nat.not_le.mpr hbl) (l_in2 hi hL) dL_law_239 ?_
  have h := hrel u v (xs (nI i + 1).toNatClampNeg) (xs (nI i + 2).toNatClampNeg) hR
  refine l_c1i (As := [.int (xs (nI i + 1).toNatClampNeg), .int (xs (nI i + 2).toNatClampNeg)]) (st := []) C mf_X10_of (kX_X10_of l D cI cZ ad q1 N h) q_357 (by decide) rfl rfl rfl rfl ⟨rfl, rfl, Nat.le_of_ble_eq_true rfl, Nat.le_of_ble_eq_true rfl⟩ (Nat.le_of_ble_eq_true rfl) dL_law_240 ⟨Nat.le_of_ble_eq_true rfl, Nat.le_of_ble_eq_true rfl⟩ (fun r1 u1 h => ?_)
  refine l_aload_n C 2 dL_law_243 rfl ?_
  refine l_aload_n C 0 dL_law_244 rfl ?_
  refine l_iload_n C 3 dL_law_245 rfl ?_
  refine l_iconst (x := 1) C dL_law_246 (by decide) ?_
  refine l_iadd C dL_law_247 ?_
  refine l_sld C hX hbl (Nat.not_le.mpr hbl) (l_in1 hi hL) dL_law_248 ?_
  refine l_aload_n C 0 dL_law_249 rfl ?_
  refine l_iload_n C 3 dL_law_250 rfl ?_
  refine l_iconst (x := 2) C dL_law_251 (by decide) ?_
  refine l_iadd C dL_law_252 ?_
  refine l_sld C hX hbl (Nat.not_le.mpr hbl) (l_in2 hi hL) dL_law_253 ?_
  refine l_c2i (As := [.int (xs (nI i + 1).toNatClampNeg), .int (xs (nI i + 2).toNatClampNeg)]) (st := [.int r1]) C mf_X11_of (kX_X11_of l D cI cZ ad q2 N h) q_716 (by decide) rfl rfl rfl rfl ⟨rfl, rfl, Nat.le_of_ble_eq_true rfl, Nat.le_of_ble_eq_true rfl⟩ (Nat.le_of_ble_eq_true rfl) dL_law_254 ⟨Nat.le_of_ble_eq_true rfl, Nat.le_of_ble_eq_true rfl⟩ (fun r2 v1 h => ?_)
  obtain ⟨rfl, hR1⟩ := h
  refine l_icmp_eq C 943 dL_law_257 (by decide) (fun _ => ?_) (fun c9 => absurd rfl c9)
  exact kf u1 v1 hR1
set_option maxRecDepth 100000 in
set_option maxHeartbeats 4000000 in
theorem law_c4 {p : Program} {e : Env} {s : State} {m : MethodId} {below : List Frame} {meth : Method} {c : Code} (l : Launch) {D : va_G} {cI cZ : ClassId} {ad q1 q2 : Nat → Nat} (N : Nat) {R : MM → MM → Prop} {b L : Nat} {xs : Nat → Int32} {Q : State → Prop} (C : CX p s m #[Value.ref b] meth c cL_law 4 RL ret D cI cZ ad (fun a : Nat => s.heap.size ≤ a)) (hX : va_X b L xs s s.heap) (hbl : b < s.heap.size) (hL : L ≤ 2048) {i : Nat} (hi : i + 4 ≤ L) (hrel : ∀ (u v : MM) (x1 : Int32) (x2 : Int32) (x3 : Int32), (x3 = 0 ∨ x3 = 1) → R u v → wX10_know N x1 x2 x3 u (fun r u2 => wX11_know N x1 x2 x3 v (fun r2 v2 => r = r2 ∧ R u2 v2))) {u v : MM} (hR : R u v) (kf : ∀ (u2 v2 : MM), R u2 v2 → J2 p l e room_1 s m #[Value.ref b] below meth c D (fun a : Nat => s.heap.size ≤ a) 4 Q 72 q1 (entC q1 cI cZ) 9 q2 (entM q2 cI cZ) 81 3756 u2 v2 943 [(0, .ref b), (1, .ref (q1 0)), (2, .ref (q2 0)), (3, .int (nI i))] []) : J2 p l e room_1 s m #[Value.ref b] below meth c D (fun a : Nat => s.heap.size ≤ a) 4 Q 72 q1 (entC q1 cI cZ) 9 q2 (entM q2 cI cZ) 81 3756 u v 262 [(0, .ref b), (1, .ref (q1 0)), (2, .ref (q2 0)), (3, .int (nI i))] [] := by
  refine l_aload_n C 1 dL_law_262 rfl ?_
  refine l_aload_n C 0 dL_law_263 rfl ?_
  refine l_iload_n C 3 dL_law_264 rfl ?_
  refine l_iconst (x := 1) C dL_law_265 (by decide) ?_
  refine l_iadd C dL_law_266 ?_
  refine l_sld C hX hbl (Nat.not_le.mpr hbl) (l_in1 hi hL) dL_law_267 ?_
  refine l_aload_n C 0 dL_law_268 rfl ?_
  refine l_iload_n C 3 dL_law_269 rfl ?_
  refine l_iconst (x := 2) C dL_law_270 (by decide) ?_
  refine l_iadd C dL_law_271 ?_
  refine l_sld C hX hbl (Nat.not_le.mpr hbl) (l_in2 hi hL) dL_law_272 ?_
  refine l_aload_n C 0 dL_law_273 rfl ?_
  refine l_iload_n C 3 dL_law_274 rfl ?_
  refine l_iconst (x := 3) C dL_law_275 (by decide) ?_
  refine l_iadd C dL_law_276 ?_
  refine l_sld C hX hbl (Nat.not_le.mpr hbl) (l_in3 hi hL) dL_law_277 ?_
  refine l_if_eq C 285 dL_law_278 (by decide) (fun c1 => ?_) (fun c1 => ?_)
  · skip
    refine l_iconst (x := 0) C dL_law_285 (by decide) ?_
    have h := hrel u v (xs (nI i + 1).toNatClampNeg) (xs (nI i + 2).toNatClampNeg) 0 (by first | exact Or.inl rfl | exact Or.inr rfl) hR
    refine l_c1i (As := [.int (xs (nI i + 1).toNatClampNeg), .int (xs (nI i + 2).toNatClampNeg), .int 0]) (st := []) C mf_X10_know (kX_X10_know l D cI cZ ad q1 N h) q_412 (by decide) rfl rfl rfl rfl ⟨rfl, rfl, Nat.le_of_ble_eq_true rfl, Nat.le_of_ble_eq_true rfl⟩ (Nat.le_of_ble_eq_true rfl) dL_law_286 ⟨Nat.le_of_ble_eq_true rfl, Nat.le_of_ble_eq_true rfl⟩ (fun r1 u1 h => ?_)
    refine l_aload_n C 2 dL_law_289 rfl ?_
    refine l_aload_n C 0 dL_law_290 rfl ?_
    refine l_iload_n C 3 dL_law_291 rfl ?_
    refine l_iconst (x := 1) C dL_law_292 (by decide) ?_
    refine l_iadd C dL_law_293 ?_
    refine l_sld C hX hbl (Nat.not_le.mpr hbl) (l_in1 hi hL) dL_law_294 ?_
    refine l_aload_n C 0 dL_law_295 rfl ?_
    refine l_iload_n C 3 dL_law_296 rfl ?_
    refine l_iconst (x := 2) C dL_law_297 (by decide) ?_
    refine l_iadd C dL_law_298 ?_
    refine l_sld C hX hbl (Nat.not_le.mpr hbl) (l_in2 hi hL) dL_law_299 ?_
    refine l_aload_n C 0 dL_law_300 rfl ?_
    refine l_iload_n C 3 dL_law_301 rfl ?_
    refine l_iconst (x := 3) C dL_law_302 (by decide) ?_
    refine l_iadd C dL_law_303 ?_
    refine l_sld C hX hbl (Nat.not_le.mpr hbl) (l_in3 hi hL) dL_law_304 ?_
    refine l_if_eq C 312 dL_law_305 (by decide) (fun c9 => ?_) (fun c9 => absurd c1 c9)
    refine l_iconst (x := 0) C dL_law_312 (by decide) ?_
    refine l_c2i (As := [.int (xs (nI i + 1).toNatClampNeg), .int (xs (nI i + 2).toNatClampNeg), .int 0]) (st := [.int r1]) C mf_X11_know (kX_X11_know l D cI cZ ad q2 N h) q_753 (by decide) rfl rfl rfl rfl ⟨rfl, rfl, Nat.le_of_ble_eq_true rfl, Nat.le_of_ble_eq_true rfl⟩ (Nat.le_of_ble_eq_true rfl) dL_law_313 ⟨Nat.le_of_ble_eq_true rfl, Nat.le_of_ble_eq_true rfl⟩ (fun r2 v1 h => ?_)
    obtain ⟨rfl, hR1⟩ := h
    refine l_icmp_eq C 943 dL_law_316 (by decide) (fun _ => ?_) (fun c9 => absurd rfl c9)
    exact kf u1 v1 hR1
  · skip
    refine l_iconst (x := 1) C dL_law_281 (by decide) ?_
    refine l_goto C 286 dL_law_282 (by decide) ?_
    have h := hrel u v (xs (nI i + 1).toNatClampNeg) (xs (nI i + 2).toNatClampNeg) 1 (by first | exact Or.inl rfl | exact Or.inr rfl) hR
    refine l_c1i (As := [.int (xs (nI i + 1).toNatClampNeg), .int (xs (nI i + 2).toNatClampNeg), .int 1]) (st := []) C mf_X10_know (kX_X10_know l D cI cZ ad q1 N h) q_412 (by decide) rfl rfl rfl rfl ⟨rfl, rfl, Nat.le_of_ble_eq_true rfl, Nat.le_of_ble_eq_true rfl⟩ (Nat.le_of_ble_eq_true rfl) dL_law_286 ⟨Nat.le_of_ble_eq_true rfl, Nat.le_of_ble_eq_true rfl⟩ (fun r1 u1 h => ?_)
    refine l_aload_n C 2 dL_law_289 rfl ?_
    refine l_aload_n C 0 dL_law_290 rfl ?_
    refine l_iload_n C 3 dL_law_291 rfl ?_
    refine l_iconst (x := 1) C dL_law_292 (by decide) ?_
    refine l_iadd C dL_law_293 ?_
    refine l_sld C hX hbl (Nat.not_le.mpr hbl) (l_in1 hi hL) dL_law_294 ?_
    refine l_aload_n C 0 dL_law_295 rfl ?_
    refine l_iload_n C 3 dL_law_296 rfl ?_
    refine l_iconst (x := 2) C dL_law_297 (by decide) ?_
    refine l_iadd C dL_law_298 ?_
    refine l_sld C hX hbl (Nat.not_le.mpr hbl) (l_in2 hi hL) dL_law_299 ?_
    refine l_aload_n C 0 dL_law_300 rfl ?_
    refine l_iload_n C 3 dL_law_301 rfl ?_
    refine l_iconst (x := 3) C dL_law_302 (by decide) ?_
    refine l_iadd C dL_law_303 ?_
    refine l_sld C hX hbl (Nat.not_le.mpr hbl) (l_in3 hi hL) dL_law_304 ?_
    refine l_if_eq C 312 dL_law_305 (by decide) (fun c9 => absurd c9 c1) (fun c9 => ?_)
    refine l_iconst (x := 1) C dL_law_308 (by decide) ?_
    refine l_goto C 313 dL_law_309 (by decide) ?_
    refine l_c2i (As := [.int (xs (nI i + 1).toNatClampNeg), .int (xs (nI i + 2).toNatClampNeg), .int 1]) (st := [.int r1]) C mf_X11_know (kX_X11_know l D cI cZ ad q2 N h) q_753 (by decide) rfl rfl rfl rfl ⟨rfl, rfl, Nat.le_of_ble_eq_true rfl, Nat.le_of_ble_eq_true rfl⟩ (Nat.le_of_ble_eq_true rfl) dL_law_313 ⟨Nat.le_of_ble_eq_true rfl, Nat.le_of_ble_eq_true rfl⟩ (fun r2 v1 h => ?_)
    obtain ⟨rfl, hR1⟩ := h
    refine l_icmp_eq C 943 dL_law_316 (by decide) (fun _ => ?_) (fun c9 => absurd rfl c9)
    exact kf u1 v1 hR1
set_option maxRecDepth 100000 in
set_option maxHeartbeats 4000000 in
theorem law_c5 {p : Program} {e : Env} {s : State} {m : MethodId} {below : List Frame} {meth : Method} {c : Code} (l : Launch) {D : va_G} {cI cZ : ClassId} {ad q1 q2 : Nat → Nat} (N : Nat) {R : MM → MM → Prop} {b L : Nat} {xs : Nat → Int32} {Q : State → Prop} (C : CX p s m #[Value.ref b] meth c cL_law 4 RL ret D cI cZ ad (fun a : Nat => s.heap.size ≤ a)) (hX : va_X b L xs s s.heap) (hbl : b < s.heap.size) (hL : L ≤ 2048) {i : Nat} (hi : i + 4 ≤ L) (hrel : ∀ (u v : MM) (x1 : Int32) (x2 : Int32), R u v → wX10_row N x1 x2 u (fun r u2 => wX11_row N x1 x2 v (fun r2 v2 => r = r2 ∧ R u2 v2))) {u v : MM} (hR : R u v) (kf : ∀ (u2 v2 : MM), R u2 v2 → J2 p l e room_1 s m #[Value.ref b] below meth c D (fun a : Nat => s.heap.size ≤ a) 4 Q 72 q1 (entC q1 cI cZ) 9 q2 (entM q2 cI cZ) 81 3756 u2 v2 943 [(0, .ref b), (1, .ref (q1 0)), (2, .ref (q2 0)), (3, .int (nI i))] []) : J2 p l e room_1 s m #[Value.ref b] below meth c D (fun a : Nat => s.heap.size ≤ a) 4 Q 72 q1 (entC q1 cI cZ) 9 q2 (entM q2 cI cZ) 81 3756 u v 321 [(0, .ref b), (1, .ref (q1 0)), (2, .ref (q2 0)), (3, .int (nI i))] [] := by
  refine l_aload_n C 1 dL_law_321 rfl ?_
  refine l_aload_n C 0 dL_law_322 rfl ?_
  refine l_iload_n C 3 dL_law_323 rfl ?_
  refine l_iconst (x := 1) C dL_law_324 (by decide) ?_
  refine l_iadd C dL_law_325 ?_
  refine l_sld C hX hbl (Nat.not_le.mpr hbl) (l_in1 hi hL) dL_law_326 ?_
  refine l_aload_n C 0 dL_law_327 rfl ?_
  refine l_iload_n C 3 dL_law_328 rfl ?_
  refine l_iconst (x := 2) C dL_law_329 (by decide) ?_
  refine l_iadd C dL_law_330 ?_
  refine l_sld C hX hbl (Nat.not_le.mpr hbl) (l_in2 hi hL) dL_law_331 ?_
  have h := hrel u v (xs (nI i + 1).toNatClampNeg) (xs (nI i + 2).toNatClampNeg) hR
  refine l_c1i (As := [.int (xs (nI i + 1).toNatClampNeg), .int (xs (nI i + 2).toNatClampNeg)]) (st := []) C mf_X10_row (kX_X10_row l D cI cZ ad q1 N h) q_419 (by decide) rfl rfl rfl rfl ⟨rfl, rfl, Nat.le_of_ble_eq_true rfl, Nat.le_of_ble_eq_true rfl⟩ (Nat.le_of_ble_eq_true rfl) dL_law_332 ⟨Nat.le_of_ble_eq_true rfl, Nat.le_of_ble_eq_true rfl⟩ (fun r1 u1 h => ?_)
  refine l_aload_n C 2 dL_law_335 rfl ?_
  refine l_aload_n C 0 dL_law_336 rfl ?_
  refine l_iload_n C 3 dL_law_337 rfl ?_
  refine l_iconst (x := 1) C dL_law_338 (by decide) ?_
  refine l_iadd C dL_law_339 ?_
  refine l_sld C hX hbl (Nat.not_le.mpr hbl) (l_in1 hi hL) dL_law_340 ?_
  refine l_aload_n C 0 dL_law_341 rfl ?_
  refine l_iload_n C 3 dL_law_342 rfl ?_
  refine l_iconst (x := 2) C dL_law_343 (by decide) ?_
  refine l_iadd C dL_law_344 ?_
  refine l_sld C hX hbl (Nat.not_le.mpr hbl) (l_in2 hi hL) dL_law_345 ?_
  refine l_c2i (As := [.int (xs (nI i + 1).toNatClampNeg), .int (xs (nI i + 2).toNatClampNeg)]) (st := [.int r1]) C mf_X11_row (kX_X11_row l D cI cZ ad q2 N h) q_757 (by decide) rfl rfl rfl rfl ⟨rfl, rfl, Nat.le_of_ble_eq_true rfl, Nat.le_of_ble_eq_true rfl⟩ (Nat.le_of_ble_eq_true rfl) dL_law_346 ⟨Nat.le_of_ble_eq_true rfl, Nat.le_of_ble_eq_true rfl⟩ (fun r2 v1 h => ?_)
  obtain ⟨rfl, hR1⟩ := h
  refine l_icmp_eq C 943 dL_law_349 (by decide) (fun _ => ?_) (fun c9 => absurd rfl c9)
  exact kf u1 v1 hR1
set_option maxRecDepth 100000 in
set_option maxHeartbeats 4000000 in
theorem law_c6 {p : Program} {e : Env} {s : State} {m : MethodId} {below : List Frame} {meth : Method} {c : Code} (l : Launch) {D : va_G} {cI cZ : ClassId} {ad q1 q2 : Nat → Nat} (N : Nat) {R : MM → MM → Prop} {b L : Nat} {xs : Nat → Int32} {Q : State → Prop} (C : CX p s m #[Value.ref b] meth c cL_law 4 RL ret D cI cZ ad (fun a : Nat => s.heap.size ≤ a)) (hX : va_X b L xs s s.heap) (hbl : b < s.heap.size) (hL : L ≤ 2048) {i : Nat} (hi : i + 4 ≤ L) (hrel : ∀ (u v : MM) (x1 : Int32), R u v → wX10_told N x1 u (fun r u2 => wX11_told N x1 v (fun r2 v2 => r = r2 ∧ R u2 v2))) {u v : MM} (hR : R u v) (kf : ∀ (u2 v2 : MM), R u2 v2 → J2 p l e room_1 s m #[Value.ref b] below meth c D (fun a : Nat => s.heap.size ≤ a) 4 Q 72 q1 (entC q1 cI cZ) 9 q2 (entM q2 cI cZ) 81 3756 u2 v2 943 [(0, .ref b), (1, .ref (q1 0)), (2, .ref (q2 0)), (3, .int (nI i))] []) : J2 p l e room_1 s m #[Value.ref b] below meth c D (fun a : Nat => s.heap.size ≤ a) 4 Q 72 q1 (entC q1 cI cZ) 9 q2 (entM q2 cI cZ) 81 3756 u v 354 [(0, .ref b), (1, .ref (q1 0)), (2, .ref (q2 0)), (3, .int (nI i))] [] := by
  refine l_aload_n C 1 dL_law_354 rfl ?_
  refine l_aload_n C 0 dL_law_355 rfl ?_
  refine l_iload_n C 3 dL_law_356 rfl ?_
  refine l_iconst (x := 1) C dL_law_357 (by decide) ?_
  refine l_iadd C dL_law_358 ?_
  refine l_sld C hX hbl (Nat.not_le.mpr hbl) (l_in1 hi hL) dL_law_359 ?_
  have h := hrel u v (xs (nI i + 1).toNatClampNeg) hR
  refine l_c1i (As := [.int (xs (nI i + 1).toNatClampNeg)]) (st := []) C mf_X10_told (kX_X10_told l D cI cZ ad q1 N h) q_426 (by decide) rfl rfl rfl rfl ⟨rfl, rfl, Nat.le_of_ble_eq_true rfl, Nat.le_of_ble_eq_true rfl⟩ (Nat.le_of_ble_eq_true rfl) dL_law_360 ⟨Nat.le_of_ble_eq_true rfl, Nat.le_of_ble_eq_true rfl⟩ (fun r1 u1 h => ?_)
  refine l_aload_n C 2 dL_law_363 rfl ?_
  refine l_aload_n C 0 dL_law_364 rfl ?_
  refine l_iload_n C 3 dL_law_365 rfl ?_
  refine l_iconst (x := 1) C dL_law_366 (by decide) ?_
  refine l_iadd C dL_law_367 ?_
  refine l_sld C hX hbl (Nat.not_le.mpr hbl) (l_in1 hi hL) dL_law_368 ?_
  refine l_c2i (As := [.int (xs (nI i + 1).toNatClampNeg)]) (st := [.int r1]) C mf_X11_told (kX_X11_told l D cI cZ ad q2 N h) q_761 (by decide) rfl rfl rfl rfl ⟨rfl, rfl, Nat.le_of_ble_eq_true rfl, Nat.le_of_ble_eq_true rfl⟩ (Nat.le_of_ble_eq_true rfl) dL_law_369 ⟨Nat.le_of_ble_eq_true rfl, Nat.le_of_ble_eq_true rfl⟩ (fun r2 v1 h => ?_)
  obtain ⟨rfl, hR1⟩ := h
  refine l_icmp_eq C 943 dL_law_372 (by decide) (fun _ => ?_) (fun c9 => absurd rfl c9)
  exact kf u1 v1 hR1
set_option maxRecDepth 100000 in
set_option maxHeartbeats 4000000 in
theorem law_c7 {p : Program} {e : Env} {s : State} {m : MethodId} {below : List Frame} {meth : Method} {c : Code} (l : Launch) {D : va_G} {cI cZ : ClassId} {ad q1 q2 : Nat → Nat} (N : Nat) {R : MM → MM → Prop} {b L : Nat} {xs : Nat → Int32} {Q : State → Prop} (C : CX p s m #[Value.ref b] meth c cL_law 4 RL ret D cI cZ ad (fun a : Nat => s.heap.size ≤ a)) (hX : va_X b L xs s s.heap) (hbl : b < s.heap.size) (hL : L ≤ 2048) {i : Nat} (hi : i + 4 ≤ L) (hrel : ∀ (u v : MM) (x1 : Int32) (x2 : Int32), R u v → wX10_begin N x1 x2 u (fun r u2 => wX11_begin N x1 x2 v (fun r2 v2 => r = r2 ∧ R u2 v2))) {u v : MM} (hR : R u v) (kf : ∀ (u2 v2 : MM), R u2 v2 → J2 p l e room_1 s m #[Value.ref b] below meth c D (fun a : Nat => s.heap.size ≤ a) 4 Q 72 q1 (entC q1 cI cZ) 9 q2 (entM q2 cI cZ) 81 3756 u2 v2 943 [(0, .ref b), (1, .ref (q1 0)), (2, .ref (q2 0)), (3, .int (nI i))] []) : J2 p l e room_1 s m #[Value.ref b] below meth c D (fun a : Nat => s.heap.size ≤ a) 4 Q 72 q1 (entC q1 cI cZ) 9 q2 (entM q2 cI cZ) 81 3756 u v 377 [(0, .ref b), (1, .ref (q1 0)), (2, .ref (q2 0)), (3, .int (nI i))] [] := by
  refine l_aload_n C 1 dL_law_377 rfl ?_
  refine l_aload_n C 0 dL_law_378 rfl ?_
  refine l_iload_n C 3 dL_law_379 rfl ?_
  refine l_iconst (x := 1) C dL_law_380 (by decide) ?_
  refine l_iadd C dL_law_381 ?_
  refine l_sld C hX hbl (Nat.not_le.mpr hbl) (l_in1 hi hL) dL_law_382 ?_
  refine l_aload_n C 0 dL_law_383 rfl ?_
  refine l_iload_n C 3 dL_law_384 rfl ?_
  refine l_iconst (x := 2) C dL_law_385 (by decide) ?_
  refine l_iadd C dL_law_386 ?_
  refine l_sld C hX hbl (Nat.not_le.mpr hbl) (l_in2 hi hL) dL_law_387 ?_
  have h := hrel u v (xs (nI i + 1).toNatClampNeg) (xs (nI i + 2).toNatClampNeg) hR
  refine l_c1i (As := [.int (xs (nI i + 1).toNatClampNeg), .int (xs (nI i + 2).toNatClampNeg)]) (st := []) C mf_X10_begin (kX_X10_begin l D cI cZ ad q1 N h) q_430 (by decide) rfl rfl rfl rfl ⟨rfl, rfl, Nat.le_of_ble_eq_true rfl, Nat.le_of_ble_eq_true rfl⟩ (Nat.le_of_ble_eq_true rfl) dL_law_388 ⟨Nat.le_of_ble_eq_true rfl, Nat.le_of_ble_eq_true rfl⟩ (fun r1 u1 h => ?_)
  refine l_aload_n C 2 dL_law_391 rfl ?_
  refine l_aload_n C 0 dL_law_392 rfl ?_
  refine l_iload_n C 3 dL_law_393 rfl ?_
  refine l_iconst (x := 1) C dL_law_394 (by decide) ?_
  refine l_iadd C dL_law_395 ?_
  refine l_sld C hX hbl (Nat.not_le.mpr hbl) (l_in1 hi hL) dL_law_396 ?_
  refine l_aload_n C 0 dL_law_397 rfl ?_
  refine l_iload_n C 3 dL_law_398 rfl ?_
  refine l_iconst (x := 2) C dL_law_399 (by decide) ?_
  refine l_iadd C dL_law_400 ?_
  refine l_sld C hX hbl (Nat.not_le.mpr hbl) (l_in2 hi hL) dL_law_401 ?_
  refine l_c2i (As := [.int (xs (nI i + 1).toNatClampNeg), .int (xs (nI i + 2).toNatClampNeg)]) (st := [.int r1]) C mf_X11_begin (kX_X11_begin l D cI cZ ad q2 N h) q_765 (by decide) rfl rfl rfl rfl ⟨rfl, rfl, Nat.le_of_ble_eq_true rfl, Nat.le_of_ble_eq_true rfl⟩ (Nat.le_of_ble_eq_true rfl) dL_law_402 ⟨Nat.le_of_ble_eq_true rfl, Nat.le_of_ble_eq_true rfl⟩ (fun r2 v1 h => ?_)
  obtain ⟨rfl, hR1⟩ := h
  refine l_icmp_eq C 943 dL_law_405 (by decide) (fun _ => ?_) (fun c9 => absurd rfl c9)
  exact kf u1 v1 hR1
set_option maxRecDepth 100000 in
set_option maxHeartbeats 4000000 in
theorem law_c8 {p : Program} {e : Env} {s : State} {m : MethodId} {below : List Frame} {meth : Method} {c : Code} (l : Launch) {D : va_G} {cI cZ : ClassId} {ad q1 q2 : Nat → Nat} (N : Nat) {R : MM → MM → Prop} {b L : Nat} {xs : Nat → Int32} {Q : State → Prop} (C : CX p s m #[Value.ref b] meth c cL_law 4 RL ret D cI cZ ad (fun a : Nat => s.heap.size ≤ a)) (hX : va_X b L xs s s.heap) (hbl : b < s.heap.size) (hL : L ≤ 2048) {i : Nat} (hi : i + 4 ≤ L) (hrel : ∀ (u v : MM), R u v → wX10_day N u (fun r u2 => wX11_day N v (fun r2 v2 => r = r2 ∧ R u2 v2))) {u v : MM} (hR : R u v) (kf : ∀ (u2 v2 : MM), R u2 v2 → J2 p l e room_1 s m #[Value.ref b] below meth c D (fun a : Nat => s.heap.size ≤ a) 4 Q 72 q1 (entC q1 cI cZ) 9 q2 (entM q2 cI cZ) 81 3756 u2 v2 943 [(0, .ref b), (1, .ref (q1 0)), (2, .ref (q2 0)), (3, .int (nI i))] []) : J2 p l e room_1 s m #[Value.ref b] below meth c D (fun a : Nat => s.heap.size ≤ a) 4 Q 72 q1 (entC q1 cI cZ) 9 q2 (entM q2 cI cZ) 81 3756 u v 410 [(0, .ref b), (1, .ref (q1 0)), (2, .ref (q2 0)), (3, .int (nI i))] [] := by
  refine l_aload_n C 1 dL_law_410 rfl ?_
  have h := hrel u v hR
  refine l_c1i (As := []) (st := []) C mf_X10_day (kX_X10_day l D cI cZ ad q1 N h) q_437 (by decide) rfl rfl rfl rfl ⟨rfl, rfl, Nat.le_of_ble_eq_true rfl, Nat.le_of_ble_eq_true rfl⟩ (Nat.le_of_ble_eq_true rfl) dL_law_411 ⟨Nat.le_of_ble_eq_true rfl, Nat.le_of_ble_eq_true rfl⟩ (fun r1 u1 h => ?_)
  refine l_aload_n C 2 dL_law_414 rfl ?_
  refine l_c2i (As := []) (st := [.int r1]) C mf_X11_day (kX_X11_day l D cI cZ ad q2 N h) q_772 (by decide) rfl rfl rfl rfl ⟨rfl, rfl, Nat.le_of_ble_eq_true rfl, Nat.le_of_ble_eq_true rfl⟩ (Nat.le_of_ble_eq_true rfl) dL_law_415 ⟨Nat.le_of_ble_eq_true rfl, Nat.le_of_ble_eq_true rfl⟩ (fun r2 v1 h => ?_)
  obtain ⟨rfl, hR1⟩ := h
  refine l_icmp_eq C 943 dL_law_418 (by decide) (fun _ => ?_) (fun c9 => absurd rfl c9)
  exact kf u1 v1 hR1
set_option maxRecDepth 100000 in
set_option maxHeartbeats 4000000 in
theorem law_c9 {p : Program} {e : Env} {s : State} {m : MethodId} {below : List Frame} {meth : Method} {c : Code} (l : Launch) {D : va_G} {cI cZ : ClassId} {ad q1 q2 : Nat → Nat} (N : Nat) {R : MM → MM → Prop} {b L : Nat} {xs : Nat → Int32} {Q : State → Prop} (C : CX p s m #[Value.ref b] meth c cL_law 4 RL ret D cI cZ ad (fun a : Nat => s.heap.size ≤ a)) (hX : va_X b L xs s s.heap) (hbl : b < s.heap.size) (hL : L ≤ 2048) {i : Nat} (hi : i + 4 ≤ L) (hrel : ∀ (u v : MM) (x1 : Int32), R u v → wX10_sum N x1 u (fun r u2 => wX11_sum N x1 v (fun r2 v2 => r = r2 ∧ R u2 v2))) {u v : MM} (hR : R u v) (kf : ∀ (u2 v2 : MM), R u2 v2 → J2 p l e room_1 s m #[Value.ref b] below meth c D (fun a : Nat => s.heap.size ≤ a) 4 Q 72 q1 (entC q1 cI cZ) 9 q2 (entM q2 cI cZ) 81 3756 u2 v2 943 [(0, .ref b), (1, .ref (q1 0)), (2, .ref (q2 0)), (3, .int (nI i))] []) : J2 p l e room_1 s m #[Value.ref b] below meth c D (fun a : Nat => s.heap.size ≤ a) 4 Q 72 q1 (entC q1 cI cZ) 9 q2 (entM q2 cI cZ) 81 3756 u v 423 [(0, .ref b), (1, .ref (q1 0)), (2, .ref (q2 0)), (3, .int (nI i))] [] := by
  refine l_aload_n C 1 dL_law_423 rfl ?_
  refine l_aload_n C 0 dL_law_424 rfl ?_
  refine l_iload_n C 3 dL_law_425 rfl ?_
  refine l_iconst (x := 1) C dL_law_426 (by decide) ?_
  refine l_iadd C dL_law_427 ?_
  refine l_sld C hX hbl (Nat.not_le.mpr hbl) (l_in1 hi hL) dL_law_428 ?_
  have h := hrel u v (xs (nI i + 1).toNatClampNeg) hR
  refine l_c1l (As := [.int (xs (nI i + 1).toNatClampNeg)]) (st := []) C mf_X10_sum (kX_X10_sum l D cI cZ ad q1 N h) q_460 (by decide) rfl rfl rfl rfl ⟨rfl, rfl, Nat.le_of_ble_eq_true rfl, Nat.le_of_ble_eq_true rfl⟩ (Nat.le_of_ble_eq_true rfl) dL_law_429 ⟨Nat.le_of_ble_eq_true rfl, Nat.le_of_ble_eq_true rfl⟩ (fun r1 u1 h => ?_)
  refine l_aload_n C 2 dL_law_432 rfl ?_
  refine l_aload_n C 0 dL_law_433 rfl ?_
  refine l_iload_n C 3 dL_law_434 rfl ?_
  refine l_iconst (x := 1) C dL_law_435 (by decide) ?_
  refine l_iadd C dL_law_436 ?_
  refine l_sld C hX hbl (Nat.not_le.mpr hbl) (l_in1 hi hL) dL_law_437 ?_
  refine l_c2l (As := [.int (xs (nI i + 1).toNatClampNeg)]) (st := [.long r1]) C mf_X11_sum (kX_X11_sum l D cI cZ ad q2 N h) q_794 (by decide) rfl rfl rfl rfl ⟨rfl, rfl, Nat.le_of_ble_eq_true rfl, Nat.le_of_ble_eq_true rfl⟩ (Nat.le_of_ble_eq_true rfl) dL_law_438 ⟨Nat.le_of_ble_eq_true rfl, Nat.le_of_ble_eq_true rfl⟩ (fun r2 v1 h => ?_)
  obtain ⟨rfl, hR1⟩ := h
  refine l_lcmp C dL_law_441 ?_
  refine l_if_eq C 943 dL_law_442 (by decide) (fun _ => ?_) (fun c9 => absurd (lg_same _) c9)
  exact kf u1 v1 hR1
set_option maxRecDepth 100000 in
set_option maxHeartbeats 4000000 in
theorem law_c10 {p : Program} {e : Env} {s : State} {m : MethodId} {below : List Frame} {meth : Method} {c : Code} (l : Launch) {D : va_G} {cI cZ : ClassId} {ad q1 q2 : Nat → Nat} (N : Nat) {R : MM → MM → Prop} {b L : Nat} {xs : Nat → Int32} {Q : State → Prop} (C : CX p s m #[Value.ref b] meth c cL_law 4 RL ret D cI cZ ad (fun a : Nat => s.heap.size ≤ a)) (hX : va_X b L xs s s.heap) (hbl : b < s.heap.size) (hL : L ≤ 2048) {i : Nat} (hi : i + 4 ≤ L) (hrel : ∀ (u v : MM) (x1 : Int32), R u v → wX10_enough N x1 u (fun r u2 => wX11_enough N x1 v (fun r2 v2 => r = r2 ∧ R u2 v2))) {u v : MM} (hR : R u v) (kf : ∀ (u2 v2 : MM), R u2 v2 → J2 p l e room_1 s m #[Value.ref b] below meth c D (fun a : Nat => s.heap.size ≤ a) 4 Q 72 q1 (entC q1 cI cZ) 9 q2 (entM q2 cI cZ) 81 3756 u2 v2 943 [(0, .ref b), (1, .ref (q1 0)), (2, .ref (q2 0)), (3, .int (nI i))] []) : J2 p l e room_1 s m #[Value.ref b] below meth c D (fun a : Nat => s.heap.size ≤ a) 4 Q 72 q1 (entC q1 cI cZ) 9 q2 (entM q2 cI cZ) 81 3756 u v 447 [(0, .ref b), (1, .ref (q1 0)), (2, .ref (q2 0)), (3, .int (nI i))] [] := by
  refine l_aload_n C 1 dL_law_447 rfl ?_
  refine l_aload_n C 0 dL_law_448 rfl ?_
  refine l_iload_n C 3 dL_law_449 rfl ?_
  refine l_iconst (x := 1) C dL_law_450 (by decide) ?_
  refine l_iadd C dL_law_451 ?_
  refine l_sld C hX hbl (Nat.not_le.mpr hbl) (l_in1 hi hL) dL_law_452 ?_
  have h := hrel u v (xs (nI i + 1).toNatClampNeg) hR
  refine l_c1i (As := [.int (xs (nI i + 1).toNatClampNeg)]) (st := []) C mf_X10_enough (kX_X10_enough l D cI cZ ad q1 N h) q_468 (by decide) rfl rfl rfl rfl ⟨rfl, rfl, Nat.le_of_ble_eq_true rfl, Nat.le_of_ble_eq_true rfl⟩ (Nat.le_of_ble_eq_true rfl) dL_law_453 ⟨Nat.le_of_ble_eq_true rfl, Nat.le_of_ble_eq_true rfl⟩ (fun r1 u1 h => ?_)
  refine l_aload_n C 2 dL_law_456 rfl ?_
  refine l_aload_n C 0 dL_law_457 rfl ?_
  refine l_iload_n C 3 dL_law_458 rfl ?_
  refine l_iconst (x := 1) C dL_law_459 (by decide) ?_
  refine l_iadd C dL_law_460 ?_
  refine l_sld C hX hbl (Nat.not_le.mpr hbl) (l_in1 hi hL) dL_law_461 ?_
  refine l_c2i (As := [.int (xs (nI i + 1).toNatClampNeg)]) (st := [.int r1]) C mf_X11_enough (kX_X11_enough l D cI cZ ad q2 N h) q_802 (by decide) rfl rfl rfl rfl ⟨rfl, rfl, Nat.le_of_ble_eq_true rfl, Nat.le_of_ble_eq_true rfl⟩ (Nat.le_of_ble_eq_true rfl) dL_law_462 ⟨Nat.le_of_ble_eq_true rfl, Nat.le_of_ble_eq_true rfl⟩ (fun r2 v1 h => ?_)
  obtain ⟨rfl, hR1⟩ := h
  refine l_icmp_eq C 943 dL_law_465 (by decide) (fun _ => ?_) (fun c9 => absurd rfl c9)
  exact kf u1 v1 hR1
set_option maxRecDepth 100000 in
set_option maxHeartbeats 4000000 in
theorem law_c11 {p : Program} {e : Env} {s : State} {m : MethodId} {below : List Frame} {meth : Method} {c : Code} (l : Launch) {D : va_G} {cI cZ : ClassId} {ad q1 q2 : Nat → Nat} (N : Nat) {R : MM → MM → Prop} {b L : Nat} {xs : Nat → Int32} {Q : State → Prop} (C : CX p s m #[Value.ref b] meth c cL_law 4 RL ret D cI cZ ad (fun a : Nat => s.heap.size ≤ a)) (hX : va_X b L xs s s.heap) (hbl : b < s.heap.size) (hL : L ≤ 2048) {i : Nat} (hi : i + 4 ≤ L) (hrel : ∀ (u v : MM) (x1 : Int32), R u v → wX10_end N x1 u (fun r u2 => wX11_end N x1 v (fun r2 v2 => r = r2 ∧ R u2 v2))) {u v : MM} (hR : R u v) (kf : ∀ (u2 v2 : MM), R u2 v2 → J2 p l e room_1 s m #[Value.ref b] below meth c D (fun a : Nat => s.heap.size ≤ a) 4 Q 72 q1 (entC q1 cI cZ) 9 q2 (entM q2 cI cZ) 81 3756 u2 v2 943 [(0, .ref b), (1, .ref (q1 0)), (2, .ref (q2 0)), (3, .int (nI i))] []) : J2 p l e room_1 s m #[Value.ref b] below meth c D (fun a : Nat => s.heap.size ≤ a) 4 Q 72 q1 (entC q1 cI cZ) 9 q2 (entM q2 cI cZ) 81 3756 u v 470 [(0, .ref b), (1, .ref (q1 0)), (2, .ref (q2 0)), (3, .int (nI i))] [] := by
  refine l_aload_n C 1 dL_law_470 rfl ?_
  refine l_aload_n C 0 dL_law_471 rfl ?_
  refine l_iload_n C 3 dL_law_472 rfl ?_
  refine l_iconst (x := 1) C dL_law_473 (by decide) ?_
  refine l_iadd C dL_law_474 ?_
  refine l_sld C hX hbl (Nat.not_le.mpr hbl) (l_in1 hi hL) dL_law_475 ?_
  have h := hrel u v (xs (nI i + 1).toNatClampNeg) hR
  refine l_c1i (As := [.int (xs (nI i + 1).toNatClampNeg)]) (st := []) C mf_X10_end (kX_X10_end l D cI cZ ad q1 N h) q_473 (by decide) rfl rfl rfl rfl ⟨rfl, rfl, Nat.le_of_ble_eq_true rfl, Nat.le_of_ble_eq_true rfl⟩ (Nat.le_of_ble_eq_true rfl) dL_law_476 ⟨Nat.le_of_ble_eq_true rfl, Nat.le_of_ble_eq_true rfl⟩ (fun r1 u1 h => ?_)
  refine l_aload_n C 2 dL_law_479 rfl ?_
  refine l_aload_n C 0 dL_law_480 rfl ?_
  refine l_iload_n C 3 dL_law_481 rfl ?_
  refine l_iconst (x := 1) C dL_law_482 (by decide) ?_
  refine l_iadd C dL_law_483 ?_
  refine l_sld C hX hbl (Nat.not_le.mpr hbl) (l_in1 hi hL) dL_law_484 ?_
  refine l_c2i (As := [.int (xs (nI i + 1).toNatClampNeg)]) (st := [.int r1]) C mf_X11_end (kX_X11_end l D cI cZ ad q2 N h) q_807 (by decide) rfl rfl rfl rfl ⟨rfl, rfl, Nat.le_of_ble_eq_true rfl, Nat.le_of_ble_eq_true rfl⟩ (Nat.le_of_ble_eq_true rfl) dL_law_485 ⟨Nat.le_of_ble_eq_true rfl, Nat.le_of_ble_eq_true rfl⟩ (fun r2 v1 h => ?_)
  obtain ⟨rfl, hR1⟩ := h
  refine l_icmp_eq C 943 dL_law_488 (by decide) (fun _ => ?_) (fun c9 => absurd rfl c9)
  exact kf u1 v1 hR1
set_option maxRecDepth 100000 in
set_option maxHeartbeats 4000000 in
theorem law_c12 {p : Program} {e : Env} {s : State} {m : MethodId} {below : List Frame} {meth : Method} {c : Code} (l : Launch) {D : va_G} {cI cZ : ClassId} {ad q1 q2 : Nat → Nat} (N : Nat) {R : MM → MM → Prop} {b L : Nat} {xs : Nat → Int32} {Q : State → Prop} (C : CX p s m #[Value.ref b] meth c cL_law 4 RL ret D cI cZ ad (fun a : Nat => s.heap.size ≤ a)) (hX : va_X b L xs s s.heap) (hbl : b < s.heap.size) (hL : L ≤ 2048) {i : Nat} (hi : i + 4 ≤ L) (hrel : ∀ (u v : MM) (x1 : Int32) (x2 : Int32), R u v → wX10_best N x1 x2 u (fun r u2 => wX11_best N x1 x2 v (fun r2 v2 => r = r2 ∧ R u2 v2))) {u v : MM} (hR : R u v) (kf : ∀ (u2 v2 : MM), R u2 v2 → J2 p l e room_1 s m #[Value.ref b] below meth c D (fun a : Nat => s.heap.size ≤ a) 4 Q 72 q1 (entC q1 cI cZ) 9 q2 (entM q2 cI cZ) 81 3756 u2 v2 943 [(0, .ref b), (1, .ref (q1 0)), (2, .ref (q2 0)), (3, .int (nI i))] []) : J2 p l e room_1 s m #[Value.ref b] below meth c D (fun a : Nat => s.heap.size ≤ a) 4 Q 72 q1 (entC q1 cI cZ) 9 q2 (entM q2 cI cZ) 81 3756 u v 493 [(0, .ref b), (1, .ref (q1 0)), (2, .ref (q2 0)), (3, .int (nI i))] [] := by
  refine l_aload_n C 1 dL_law_493 rfl ?_
  refine l_aload_n C 0 dL_law_494 rfl ?_
  refine l_iload_n C 3 dL_law_495 rfl ?_
  refine l_iconst (x := 1) C dL_law_496 (by decide) ?_
  refine l_iadd C dL_law_497 ?_
  refine l_sld C hX hbl (Nat.not_le.mpr hbl) (l_in1 hi hL) dL_law_498 ?_
  refine l_aload_n C 0 dL_law_499 rfl ?_
  refine l_iload_n C 3 dL_law_500 rfl ?_
  refine l_iconst (x := 2) C dL_law_501 (by decide) ?_
  refine l_iadd C dL_law_502 ?_
  refine l_sld C hX hbl (Nat.not_le.mpr hbl) (l_in2 hi hL) dL_law_503 ?_
  have h := hrel u v (xs (nI i + 1).toNatClampNeg) (xs (nI i + 2).toNatClampNeg) hR
  refine l_c1i (As := [.int (xs (nI i + 1).toNatClampNeg), .int (xs (nI i + 2).toNatClampNeg)]) (st := []) C mf_X10_best (kX_X10_best l D cI cZ ad q1 N h) q_489 (by decide) rfl rfl rfl rfl ⟨rfl, rfl, Nat.le_of_ble_eq_true rfl, Nat.le_of_ble_eq_true rfl⟩ (Nat.le_of_ble_eq_true rfl) dL_law_504 ⟨Nat.le_of_ble_eq_true rfl, Nat.le_of_ble_eq_true rfl⟩ (fun r1 u1 h => ?_)
  refine l_aload_n C 2 dL_law_507 rfl ?_
  refine l_aload_n C 0 dL_law_508 rfl ?_
  refine l_iload_n C 3 dL_law_509 rfl ?_
  refine l_iconst (x := 1) C dL_law_510 (by decide) ?_
  refine l_iadd C dL_law_511 ?_
  refine l_sld C hX hbl (Nat.not_le.mpr hbl) (l_in1 hi hL) dL_law_512 ?_
  refine l_aload_n C 0 dL_law_513 rfl ?_
  refine l_iload_n C 3 dL_law_514 rfl ?_
  refine l_iconst (x := 2) C dL_law_515 (by decide) ?_
  refine l_iadd C dL_law_516 ?_
  refine l_sld C hX hbl (Nat.not_le.mpr hbl) (l_in2 hi hL) dL_law_517 ?_
  refine l_c2i (As := [.int (xs (nI i + 1).toNatClampNeg), .int (xs (nI i + 2).toNatClampNeg)]) (st := [.int r1]) C mf_X11_best (kX_X11_best l D cI cZ ad q2 N h) q_820 (by decide) rfl rfl rfl rfl ⟨rfl, rfl, Nat.le_of_ble_eq_true rfl, Nat.le_of_ble_eq_true rfl⟩ (Nat.le_of_ble_eq_true rfl) dL_law_518 ⟨Nat.le_of_ble_eq_true rfl, Nat.le_of_ble_eq_true rfl⟩ (fun r2 v1 h => ?_)
  obtain ⟨rfl, hR1⟩ := h
  refine l_icmp_eq C 943 dL_law_521 (by decide) (fun _ => ?_) (fun c9 => absurd rfl c9)
  exact kf u1 v1 hR1
set_option maxRecDepth 100000 in
set_option maxHeartbeats 4000000 in
theorem law_c13 {p : Program} {e : Env} {s : State} {m : MethodId} {below : List Frame} {meth : Method} {c : Code} (l : Launch) {D : va_G} {cI cZ : ClassId} {ad q1 q2 : Nat → Nat} (N : Nat) {R : MM → MM → Prop} {b L : Nat} {xs : Nat → Int32} {Q : State → Prop} (C : CX p s m #[Value.ref b] meth c cL_law 4 RL ret D cI cZ ad (fun a : Nat => s.heap.size ≤ a)) (hX : va_X b L xs s s.heap) (hbl : b < s.heap.size) (hL : L ≤ 2048) {i : Nat} (hi : i + 4 ≤ L) (hrel : ∀ (u v : MM) (x1 : Int32) (x2 : Int32), R u v → wX10_choice N x1 x2 u (fun r u2 => wX11_choice N x1 x2 v (fun r2 v2 => r = r2 ∧ R u2 v2))) {u v : MM} (hR : R u v) (kf : ∀ (u2 v2 : MM), R u2 v2 → J2 p l e room_1 s m #[Value.ref b] below meth c D (fun a : Nat => s.heap.size ≤ a) 4 Q 72 q1 (entC q1 cI cZ) 9 q2 (entM q2 cI cZ) 81 3756 u2 v2 943 [(0, .ref b), (1, .ref (q1 0)), (2, .ref (q2 0)), (3, .int (nI i))] []) : J2 p l e room_1 s m #[Value.ref b] below meth c D (fun a : Nat => s.heap.size ≤ a) 4 Q 72 q1 (entC q1 cI cZ) 9 q2 (entM q2 cI cZ) 81 3756 u v 526 [(0, .ref b), (1, .ref (q1 0)), (2, .ref (q2 0)), (3, .int (nI i))] [] := by
  refine l_aload_n C 1 dL_law_526 rfl ?_
  refine l_aload_n C 0 dL_law_527 rfl ?_
  refine l_iload_n C 3 dL_law_528 rfl ?_
  refine l_iconst (x := 1) C dL_law_529 (by decide) ?_
  refine l_iadd C dL_law_530 ?_
  refine l_sld C hX hbl (Nat.not_le.mpr hbl) (l_in1 hi hL) dL_law_531 ?_
  refine l_aload_n C 0 dL_law_532 rfl ?_
  refine l_iload_n C 3 dL_law_533 rfl ?_
  refine l_iconst (x := 2) C dL_law_534 (by decide) ?_
  refine l_iadd C dL_law_535 ?_
  refine l_sld C hX hbl (Nat.not_le.mpr hbl) (l_in2 hi hL) dL_law_536 ?_
  have h := hrel u v (xs (nI i + 1).toNatClampNeg) (xs (nI i + 2).toNatClampNeg) hR
  refine l_c1i (As := [.int (xs (nI i + 1).toNatClampNeg), .int (xs (nI i + 2).toNatClampNeg)]) (st := []) C mf_X10_choice (kX_X10_choice l D cI cZ ad q1 N h) q_499 (by decide) rfl rfl rfl rfl ⟨rfl, rfl, Nat.le_of_ble_eq_true rfl, Nat.le_of_ble_eq_true rfl⟩ (Nat.le_of_ble_eq_true rfl) dL_law_537 ⟨Nat.le_of_ble_eq_true rfl, Nat.le_of_ble_eq_true rfl⟩ (fun r1 u1 h => ?_)
  refine l_aload_n C 2 dL_law_540 rfl ?_
  refine l_aload_n C 0 dL_law_541 rfl ?_
  refine l_iload_n C 3 dL_law_542 rfl ?_
  refine l_iconst (x := 1) C dL_law_543 (by decide) ?_
  refine l_iadd C dL_law_544 ?_
  refine l_sld C hX hbl (Nat.not_le.mpr hbl) (l_in1 hi hL) dL_law_545 ?_
  refine l_aload_n C 0 dL_law_546 rfl ?_
  refine l_iload_n C 3 dL_law_547 rfl ?_
  refine l_iconst (x := 2) C dL_law_548 (by decide) ?_
  refine l_iadd C dL_law_549 ?_
  refine l_sld C hX hbl (Nat.not_le.mpr hbl) (l_in2 hi hL) dL_law_550 ?_
  refine l_c2i (As := [.int (xs (nI i + 1).toNatClampNeg), .int (xs (nI i + 2).toNatClampNeg)]) (st := [.int r1]) C mf_X11_choice (kX_X11_choice l D cI cZ ad q2 N h) q_824 (by decide) rfl rfl rfl rfl ⟨rfl, rfl, Nat.le_of_ble_eq_true rfl, Nat.le_of_ble_eq_true rfl⟩ (Nat.le_of_ble_eq_true rfl) dL_law_551 ⟨Nat.le_of_ble_eq_true rfl, Nat.le_of_ble_eq_true rfl⟩ (fun r2 v1 h => ?_)
  obtain ⟨rfl, hR1⟩ := h
  refine l_icmp_eq C 943 dL_law_554 (by decide) (fun _ => ?_) (fun c9 => absurd rfl c9)
  exact kf u1 v1 hR1
set_option maxRecDepth 100000 in
set_option maxHeartbeats 4000000 in
theorem law_c14 {p : Program} {e : Env} {s : State} {m : MethodId} {below : List Frame} {meth : Method} {c : Code} (l : Launch) {D : va_G} {cI cZ : ClassId} {ad q1 q2 : Nat → Nat} (N : Nat) {R : MM → MM → Prop} {b L : Nat} {xs : Nat → Int32} {Q : State → Prop} (C : CX p s m #[Value.ref b] meth c cL_law 4 RL ret D cI cZ ad (fun a : Nat => s.heap.size ≤ a)) (hX : va_X b L xs s s.heap) (hbl : b < s.heap.size) (hL : L ≤ 2048) {i : Nat} (hi : i + 4 ≤ L) (hrel : ∀ (u v : MM) (x1 : Int32) (x2 : Int32), R u v → wX10_reach N x1 x2 u (fun r u2 => wX11_reach N x1 x2 v (fun r2 v2 => r = r2 ∧ R u2 v2))) {u v : MM} (hR : R u v) (kf : ∀ (u2 v2 : MM), R u2 v2 → J2 p l e room_1 s m #[Value.ref b] below meth c D (fun a : Nat => s.heap.size ≤ a) 4 Q 72 q1 (entC q1 cI cZ) 9 q2 (entM q2 cI cZ) 81 3756 u2 v2 943 [(0, .ref b), (1, .ref (q1 0)), (2, .ref (q2 0)), (3, .int (nI i))] []) : J2 p l e room_1 s m #[Value.ref b] below meth c D (fun a : Nat => s.heap.size ≤ a) 4 Q 72 q1 (entC q1 cI cZ) 9 q2 (entM q2 cI cZ) 81 3756 u v 559 [(0, .ref b), (1, .ref (q1 0)), (2, .ref (q2 0)), (3, .int (nI i))] [] := by
  refine l_aload_n C 1 dL_law_559 rfl ?_
  refine l_aload_n C 0 dL_law_560 rfl ?_
  refine l_iload_n C 3 dL_law_561 rfl ?_
  refine l_iconst (x := 1) C dL_law_562 (by decide) ?_
  refine l_iadd C dL_law_563 ?_
  refine l_sld C hX hbl (Nat.not_le.mpr hbl) (l_in1 hi hL) dL_law_564 ?_
  refine l_aload_n C 0 dL_law_565 rfl ?_
  refine l_iload_n C 3 dL_law_566 rfl ?_
  refine l_iconst (x := 2) C dL_law_567 (by decide) ?_
  refine l_iadd C dL_law_568 ?_
  refine l_sld C hX hbl (Nat.not_le.mpr hbl) (l_in2 hi hL) dL_law_569 ?_
  have h := hrel u v (xs (nI i + 1).toNatClampNeg) (xs (nI i + 2).toNatClampNeg) hR
  refine l_c1i (As := [.int (xs (nI i + 1).toNatClampNeg), .int (xs (nI i + 2).toNatClampNeg)]) (st := []) C mf_X10_reach (kX_X10_reach l D cI cZ ad q1 N h) q_514 (by decide) rfl rfl rfl rfl ⟨rfl, rfl, Nat.le_of_ble_eq_true rfl, Nat.le_of_ble_eq_true rfl⟩ (Nat.le_of_ble_eq_true rfl) dL_law_570 ⟨Nat.le_of_ble_eq_true rfl, Nat.le_of_ble_eq_true rfl⟩ (fun r1 u1 h => ?_)
  refine l_aload_n C 2 dL_law_573 rfl ?_
  refine l_aload_n C 0 dL_law_574 rfl ?_
  refine l_iload_n C 3 dL_law_575 rfl ?_
  refine l_iconst (x := 1) C dL_law_576 (by decide) ?_
  refine l_iadd C dL_law_577 ?_
  refine l_sld C hX hbl (Nat.not_le.mpr hbl) (l_in1 hi hL) dL_law_578 ?_
  refine l_aload_n C 0 dL_law_579 rfl ?_
  refine l_iload_n C 3 dL_law_580 rfl ?_
  refine l_iconst (x := 2) C dL_law_581 (by decide) ?_
  refine l_iadd C dL_law_582 ?_
  refine l_sld C hX hbl (Nat.not_le.mpr hbl) (l_in2 hi hL) dL_law_583 ?_
  refine l_c2i (As := [.int (xs (nI i + 1).toNatClampNeg), .int (xs (nI i + 2).toNatClampNeg)]) (st := [.int r1]) C mf_X11_reach (kX_X11_reach l D cI cZ ad q2 N h) q_831 (by decide) rfl rfl rfl rfl ⟨rfl, rfl, Nat.le_of_ble_eq_true rfl, Nat.le_of_ble_eq_true rfl⟩ (Nat.le_of_ble_eq_true rfl) dL_law_584 ⟨Nat.le_of_ble_eq_true rfl, Nat.le_of_ble_eq_true rfl⟩ (fun r2 v1 h => ?_)
  obtain ⟨rfl, hR1⟩ := h
  refine l_icmp_eq C 943 dL_law_587 (by decide) (fun _ => ?_) (fun c9 => absurd rfl c9)
  exact kf u1 v1 hR1
set_option maxRecDepth 100000 in
set_option maxHeartbeats 4000000 in
theorem law_c15 {p : Program} {e : Env} {s : State} {m : MethodId} {below : List Frame} {meth : Method} {c : Code} (l : Launch) {D : va_G} {cI cZ : ClassId} {ad q1 q2 : Nat → Nat} (N : Nat) {R : MM → MM → Prop} {b L : Nat} {xs : Nat → Int32} {Q : State → Prop} (C : CX p s m #[Value.ref b] meth c cL_law 4 RL ret D cI cZ ad (fun a : Nat => s.heap.size ≤ a)) (hX : va_X b L xs s s.heap) (hbl : b < s.heap.size) (hL : L ≤ 2048) {i : Nat} (hi : i + 4 ≤ L) (hrel : ∀ (u v : MM) (x1 : Int32) (x2 : Int32), R u v → wX10_see N x1 x2 u (fun r u2 => wX11_see N x1 x2 v (fun r2 v2 => r = r2 ∧ R u2 v2))) {u v : MM} (hR : R u v) (kf : ∀ (u2 v2 : MM), R u2 v2 → J2 p l e room_1 s m #[Value.ref b] below meth c D (fun a : Nat => s.heap.size ≤ a) 4 Q 72 q1 (entC q1 cI cZ) 9 q2 (entM q2 cI cZ) 81 3756 u2 v2 943 [(0, .ref b), (1, .ref (q1 0)), (2, .ref (q2 0)), (3, .int (nI i))] []) : J2 p l e room_1 s m #[Value.ref b] below meth c D (fun a : Nat => s.heap.size ≤ a) 4 Q 72 q1 (entC q1 cI cZ) 9 q2 (entM q2 cI cZ) 81 3756 u v 592 [(0, .ref b), (1, .ref (q1 0)), (2, .ref (q2 0)), (3, .int (nI i))] [] := by
  refine l_aload_n C 1 dL_law_592 rfl ?_
  refine l_aload_n C 0 dL_law_593 rfl ?_
  refine l_iload_n C 3 dL_law_594 rfl ?_
  refine l_iconst (x := 1) C dL_law_595 (by decide) ?_
  refine l_iadd C dL_law_596 ?_
  refine l_sld C hX hbl (Nat.not_le.mpr hbl) (l_in1 hi hL) dL_law_597 ?_
  refine l_aload_n C 0 dL_law_598 rfl ?_
  refine l_iload_n C 3 dL_law_599 rfl ?_
  refine l_iconst (x := 2) C dL_law_600 (by decide) ?_
  refine l_iadd C dL_law_601 ?_
  refine l_sld C hX hbl (Nat.not_le.mpr hbl) (l_in2 hi hL) dL_law_602 ?_
  have h := hrel u v (xs (nI i + 1).toNatClampNeg) (xs (nI i + 2).toNatClampNeg) hR
  refine l_c1i (As := [.int (xs (nI i + 1).toNatClampNeg), .int (xs (nI i + 2).toNatClampNeg)]) (st := []) C mf_X10_see (kX_X10_see l D cI cZ ad q1 N h) q_522 (by decide) rfl rfl rfl rfl ⟨rfl, rfl, Nat.le_of_ble_eq_true rfl, Nat.le_of_ble_eq_true rfl⟩ (Nat.le_of_ble_eq_true rfl) dL_law_603 ⟨Nat.le_of_ble_eq_true rfl, Nat.le_of_ble_eq_true rfl⟩ (fun r1 u1 h => ?_)
  refine l_aload_n C 2 dL_law_606 rfl ?_
  refine l_aload_n C 0 dL_law_607 rfl ?_
  refine l_iload_n C 3 dL_law_608 rfl ?_
  refine l_iconst (x := 1) C dL_law_609 (by decide) ?_
  refine l_iadd C dL_law_610 ?_
  refine l_sld C hX hbl (Nat.not_le.mpr hbl) (l_in1 hi hL) dL_law_611 ?_
  refine l_aload_n C 0 dL_law_612 rfl ?_
  refine l_iload_n C 3 dL_law_613 rfl ?_
  refine l_iconst (x := 2) C dL_law_614 (by decide) ?_
  refine l_iadd C dL_law_615 ?_
  refine l_sld C hX hbl (Nat.not_le.mpr hbl) (l_in2 hi hL) dL_law_616 ?_
  refine l_c2i (As := [.int (xs (nI i + 1).toNatClampNeg), .int (xs (nI i + 2).toNatClampNeg)]) (st := [.int r1]) C mf_X11_see (kX_X11_see l D cI cZ ad q2 N h) q_835 (by decide) rfl rfl rfl rfl ⟨rfl, rfl, Nat.le_of_ble_eq_true rfl, Nat.le_of_ble_eq_true rfl⟩ (Nat.le_of_ble_eq_true rfl) dL_law_617 ⟨Nat.le_of_ble_eq_true rfl, Nat.le_of_ble_eq_true rfl⟩ (fun r2 v1 h => ?_)
  obtain ⟨rfl, hR1⟩ := h
  refine l_icmp_eq C 943 dL_law_620 (by decide) (fun _ => ?_) (fun c9 => absurd rfl c9)
  exact kf u1 v1 hR1
set_option maxRecDepth 100000 in
set_option maxHeartbeats 4000000 in
theorem law_c16 {p : Program} {e : Env} {s : State} {m : MethodId} {below : List Frame} {meth : Method} {c : Code} (l : Launch) {D : va_G} {cI cZ : ClassId} {ad q1 q2 : Nat → Nat} (N : Nat) {R : MM → MM → Prop} {b L : Nat} {xs : Nat → Int32} {Q : State → Prop} (C : CX p s m #[Value.ref b] meth c cL_law 4 RL ret D cI cZ ad (fun a : Nat => s.heap.size ≤ a)) (hX : va_X b L xs s s.heap) (hbl : b < s.heap.size) (hL : L ≤ 2048) {i : Nat} (hi : i + 4 ≤ L) (hrel : ∀ (u v : MM) (x1 : Int32), R u v → wX10_began N x1 u (fun r u2 => wX11_began N x1 v (fun r2 v2 => r = r2 ∧ R u2 v2))) {u v : MM} (hR : R u v) (kf : ∀ (u2 v2 : MM), R u2 v2 → J2 p l e room_1 s m #[Value.ref b] below meth c D (fun a : Nat => s.heap.size ≤ a) 4 Q 72 q1 (entC q1 cI cZ) 9 q2 (entM q2 cI cZ) 81 3756 u2 v2 943 [(0, .ref b), (1, .ref (q1 0)), (2, .ref (q2 0)), (3, .int (nI i))] []) : J2 p l e room_1 s m #[Value.ref b] below meth c D (fun a : Nat => s.heap.size ≤ a) 4 Q 72 q1 (entC q1 cI cZ) 9 q2 (entM q2 cI cZ) 81 3756 u v 625 [(0, .ref b), (1, .ref (q1 0)), (2, .ref (q2 0)), (3, .int (nI i))] [] := by
  refine l_aload_n C 1 dL_law_625 rfl ?_
  refine l_aload_n C 0 dL_law_626 rfl ?_
  refine l_iload_n C 3 dL_law_627 rfl ?_
  refine l_iconst (x := 1) C dL_law_628 (by decide) ?_
  refine l_iadd C dL_law_629 ?_
  refine l_sld C hX hbl (Nat.not_le.mpr hbl) (l_in1 hi hL) dL_law_630 ?_
  have h := hrel u v (xs (nI i + 1).toNatClampNeg) hR
  refine l_c1i (As := [.int (xs (nI i + 1).toNatClampNeg)]) (st := []) C mf_X10_began (kX_X10_began l D cI cZ ad q1 N h) q_529 (by decide) rfl rfl rfl rfl ⟨rfl, rfl, Nat.le_of_ble_eq_true rfl, Nat.le_of_ble_eq_true rfl⟩ (Nat.le_of_ble_eq_true rfl) dL_law_631 ⟨Nat.le_of_ble_eq_true rfl, Nat.le_of_ble_eq_true rfl⟩ (fun r1 u1 h => ?_)
  refine l_aload_n C 2 dL_law_634 rfl ?_
  refine l_aload_n C 0 dL_law_635 rfl ?_
  refine l_iload_n C 3 dL_law_636 rfl ?_
  refine l_iconst (x := 1) C dL_law_637 (by decide) ?_
  refine l_iadd C dL_law_638 ?_
  refine l_sld C hX hbl (Nat.not_le.mpr hbl) (l_in1 hi hL) dL_law_639 ?_
  refine l_c2i (As := [.int (xs (nI i + 1).toNatClampNeg)]) (st := [.int r1]) C mf_X11_began (kX_X11_began l D cI cZ ad q2 N h) q_839 (by decide) rfl rfl rfl rfl ⟨rfl, rfl, Nat.le_of_ble_eq_true rfl, Nat.le_of_ble_eq_true rfl⟩ (Nat.le_of_ble_eq_true rfl) dL_law_640 ⟨Nat.le_of_ble_eq_true rfl, Nat.le_of_ble_eq_true rfl⟩ (fun r2 v1 h => ?_)
  obtain ⟨rfl, hR1⟩ := h
  refine l_icmp_eq C 943 dL_law_643 (by decide) (fun _ => ?_) (fun c9 => absurd rfl c9)
  exact kf u1 v1 hR1
set_option maxRecDepth 100000 in
set_option maxHeartbeats 4000000 in
theorem law_c17 {p : Program} {e : Env} {s : State} {m : MethodId} {below : List Frame} {meth : Method} {c : Code} (l : Launch) {D : va_G} {cI cZ : ClassId} {ad q1 q2 : Nat → Nat} (N : Nat) {R : MM → MM → Prop} {b L : Nat} {xs : Nat → Int32} {Q : State → Prop} (C : CX p s m #[Value.ref b] meth c cL_law 4 RL ret D cI cZ ad (fun a : Nat => s.heap.size ≤ a)) (hX : va_X b L xs s s.heap) (hbl : b < s.heap.size) (hL : L ≤ 2048) {i : Nat} (hi : i + 4 ≤ L) (hrel : ∀ (u v : MM) (x1 : Int32), R u v → wX10_stops N x1 u (fun r u2 => wX11_stops N x1 v (fun r2 v2 => r = r2 ∧ R u2 v2))) {u v : MM} (hR : R u v) (kf : ∀ (u2 v2 : MM), R u2 v2 → J2 p l e room_1 s m #[Value.ref b] below meth c D (fun a : Nat => s.heap.size ≤ a) 4 Q 72 q1 (entC q1 cI cZ) 9 q2 (entM q2 cI cZ) 81 3756 u2 v2 943 [(0, .ref b), (1, .ref (q1 0)), (2, .ref (q2 0)), (3, .int (nI i))] []) : J2 p l e room_1 s m #[Value.ref b] below meth c D (fun a : Nat => s.heap.size ≤ a) 4 Q 72 q1 (entC q1 cI cZ) 9 q2 (entM q2 cI cZ) 81 3756 u v 648 [(0, .ref b), (1, .ref (q1 0)), (2, .ref (q2 0)), (3, .int (nI i))] [] := by
  refine l_aload_n C 1 dL_law_648 rfl ?_
  refine l_aload_n C 0 dL_law_649 rfl ?_
  refine l_iload_n C 3 dL_law_650 rfl ?_
  refine l_iconst (x := 1) C dL_law_651 (by decide) ?_
  refine l_iadd C dL_law_652 ?_
  refine l_sld C hX hbl (Nat.not_le.mpr hbl) (l_in1 hi hL) dL_law_653 ?_
  have h := hrel u v (xs (nI i + 1).toNatClampNeg) hR
  refine l_c1i (As := [.int (xs (nI i + 1).toNatClampNeg)]) (st := []) C mf_X10_stops (kX_X10_stops l D cI cZ ad q1 N h) q_540 (by decide) rfl rfl rfl rfl ⟨rfl, rfl, Nat.le_of_ble_eq_true rfl, Nat.le_of_ble_eq_true rfl⟩ (Nat.le_of_ble_eq_true rfl) dL_law_654 ⟨Nat.le_of_ble_eq_true rfl, Nat.le_of_ble_eq_true rfl⟩ (fun r1 u1 h => ?_)
  refine l_aload_n C 2 dL_law_657 rfl ?_
  refine l_aload_n C 0 dL_law_658 rfl ?_
  refine l_iload_n C 3 dL_law_659 rfl ?_
  refine l_iconst (x := 1) C dL_law_660 (by decide) ?_
  refine l_iadd C dL_law_661 ?_
  refine l_sld C hX hbl (Nat.not_le.mpr hbl) (l_in1 hi hL) dL_law_662 ?_
  refine l_c2i (As := [.int (xs (nI i + 1).toNatClampNeg)]) (st := [.int r1]) C mf_X11_stops (kX_X11_stops l D cI cZ ad q2 N h) q_846 (by decide) rfl rfl rfl rfl ⟨rfl, rfl, Nat.le_of_ble_eq_true rfl, Nat.le_of_ble_eq_true rfl⟩ (Nat.le_of_ble_eq_true rfl) dL_law_663 ⟨Nat.le_of_ble_eq_true rfl, Nat.le_of_ble_eq_true rfl⟩ (fun r2 v1 h => ?_)
  obtain ⟨rfl, hR1⟩ := h
  refine l_icmp_eq C 943 dL_law_666 (by decide) (fun _ => ?_) (fun c9 => absurd rfl c9)
  exact kf u1 v1 hR1
set_option maxRecDepth 100000 in
set_option maxHeartbeats 4000000 in
theorem law_c18 {p : Program} {e : Env} {s : State} {m : MethodId} {below : List Frame} {meth : Method} {c : Code} (l : Launch) {D : va_G} {cI cZ : ClassId} {ad q1 q2 : Nat → Nat} (N : Nat) {R : MM → MM → Prop} {b L : Nat} {xs : Nat → Int32} {Q : State → Prop} (C : CX p s m #[Value.ref b] meth c cL_law 4 RL ret D cI cZ ad (fun a : Nat => s.heap.size ≤ a)) (hX : va_X b L xs s s.heap) (hbl : b < s.heap.size) (hL : L ≤ 2048) {i : Nat} (hi : i + 4 ≤ L) (hrel : ∀ (u v : MM) (x1 : Int32) (x2 : Int32) (x3 : Int32), R u v → wX10_odds N x1 x2 x3 u (fun r u2 => wX11_odds N x1 x2 x3 v (fun r2 v2 => r = r2 ∧ R u2 v2))) {u v : MM} (hR : R u v) (kf : ∀ (u2 v2 : MM), R u2 v2 → J2 p l e room_1 s m #[Value.ref b] below meth c D (fun a : Nat => s.heap.size ≤ a) 4 Q 72 q1 (entC q1 cI cZ) 9 q2 (entM q2 cI cZ) 81 3756 u2 v2 943 [(0, .ref b), (1, .ref (q1 0)), (2, .ref (q2 0)), (3, .int (nI i))] []) : J2 p l e room_1 s m #[Value.ref b] below meth c D (fun a : Nat => s.heap.size ≤ a) 4 Q 72 q1 (entC q1 cI cZ) 9 q2 (entM q2 cI cZ) 81 3756 u v 671 [(0, .ref b), (1, .ref (q1 0)), (2, .ref (q2 0)), (3, .int (nI i))] [] := by
  refine l_aload_n C 1 dL_law_671 rfl ?_
  refine l_aload_n C 0 dL_law_672 rfl ?_
  refine l_iload_n C 3 dL_law_673 rfl ?_
  refine l_iconst (x := 1) C dL_law_674 (by decide) ?_
  refine l_iadd C dL_law_675 ?_
  refine l_sld C hX hbl (Nat.not_le.mpr hbl) (l_in1 hi hL) dL_law_676 ?_
  refine l_aload_n C 0 dL_law_677 rfl ?_
  refine l_iload_n C 3 dL_law_678 rfl ?_
  refine l_iconst (x := 2) C dL_law_679 (by decide) ?_
  refine l_iadd C dL_law_680 ?_
  refine l_sld C hX hbl (Nat.not_le.mpr hbl) (l_in2 hi hL) dL_law_681 ?_
  refine l_aload_n C 0 dL_law_682 rfl ?_
  refine l_iload_n C 3 dL_law_683 rfl ?_
  refine l_iconst (x := 3) C dL_law_684 (by decide) ?_
  refine l_iadd C dL_law_685 ?_
  refine l_sld C hX hbl (Nat.not_le.mpr hbl) (l_in3 hi hL) dL_law_686 ?_
  have h := hrel u v (xs (nI i + 1).toNatClampNeg) (xs (nI i + 2).toNatClampNeg) (xs (nI i + 3).toNatClampNeg) hR
  refine l_c1l (As := [.int (xs (nI i + 1).toNatClampNeg), .int (xs (nI i + 2).toNatClampNeg), .int (xs (nI i + 3).toNatClampNeg)]) (st := []) C mf_X10_odds (kX_X10_odds l D cI cZ ad q1 N h) q_544 (by decide) rfl rfl rfl rfl ⟨rfl, rfl, Nat.le_of_ble_eq_true rfl, Nat.le_of_ble_eq_true rfl⟩ (Nat.le_of_ble_eq_true rfl) dL_law_687 ⟨Nat.le_of_ble_eq_true rfl, Nat.le_of_ble_eq_true rfl⟩ (fun r1 u1 h => ?_)
  refine l_aload_n C 2 dL_law_690 rfl ?_
  refine l_aload_n C 0 dL_law_691 rfl ?_
  refine l_iload_n C 3 dL_law_692 rfl ?_
  refine l_iconst (x := 1) C dL_law_693 (by decide) ?_
  refine l_iadd C dL_law_694 ?_
  refine l_sld C hX hbl (Nat.not_le.mpr hbl) (l_in1 hi hL) dL_law_695 ?_
  refine l_aload_n C 0 dL_law_696 rfl ?_
  refine l_iload_n C 3 dL_law_697 rfl ?_
  refine l_iconst (x := 2) C dL_law_698 (by decide) ?_
  refine l_iadd C dL_law_699 ?_
  refine l_sld C hX hbl (Nat.not_le.mpr hbl) (l_in2 hi hL) dL_law_700 ?_
  refine l_aload_n C 0 dL_law_701 rfl ?_
  refine l_iload_n C 3 dL_law_702 rfl ?_
  refine l_iconst (x := 3) C dL_law_703 (by decide) ?_
  refine l_iadd C dL_law_704 ?_
  refine l_sld C hX hbl (Nat.not_le.mpr hbl) (l_in3 hi hL) dL_law_705 ?_
  refine l_c2l (As := [.int (xs (nI i + 1).toNatClampNeg), .int (xs (nI i + 2).toNatClampNeg), .int (xs (nI i + 3).toNatClampNeg)]) (st := [.long r1]) C mf_X11_odds (kX_X11_odds l D cI cZ ad q2 N h) q_853 (by decide) rfl rfl rfl rfl ⟨rfl, rfl, Nat.le_of_ble_eq_true rfl, Nat.le_of_ble_eq_true rfl⟩ (Nat.le_of_ble_eq_true rfl) dL_law_706 ⟨Nat.le_of_ble_eq_true rfl, Nat.le_of_ble_eq_true rfl⟩ (fun r2 v1 h => ?_)
  obtain ⟨rfl, hR1⟩ := h
  refine l_lcmp C dL_law_709 ?_
  refine l_if_eq C 943 dL_law_710 (by decide) (fun _ => ?_) (fun c9 => absurd (lg_same _) c9)
  exact kf u1 v1 hR1
set_option maxRecDepth 100000 in
set_option maxHeartbeats 4000000 in
theorem law_c19 {p : Program} {e : Env} {s : State} {m : MethodId} {below : List Frame} {meth : Method} {c : Code} (l : Launch) {D : va_G} {cI cZ : ClassId} {ad q1 q2 : Nat → Nat} (N : Nat) {R : MM → MM → Prop} {b L : Nat} {xs : Nat → Int32} {Q : State → Prop} (C : CX p s m #[Value.ref b] meth c cL_law 4 RL ret D cI cZ ad (fun a : Nat => s.heap.size ≤ a)) (hX : va_X b L xs s s.heap) (hbl : b < s.heap.size) (hL : L ≤ 2048) {i : Nat} (hi : i + 4 ≤ L) (hrel : ∀ (u v : MM) (x1 : Int32) (x2 : Int32), R u v → wX10_mean N x1 x2 u (fun r u2 => wX11_mean N x1 x2 v (fun r2 v2 => r = r2 ∧ R u2 v2))) {u v : MM} (hR : R u v) (kf : ∀ (u2 v2 : MM), R u2 v2 → J2 p l e room_1 s m #[Value.ref b] below meth c D (fun a : Nat => s.heap.size ≤ a) 4 Q 72 q1 (entC q1 cI cZ) 9 q2 (entM q2 cI cZ) 81 3756 u2 v2 943 [(0, .ref b), (1, .ref (q1 0)), (2, .ref (q2 0)), (3, .int (nI i))] []) : J2 p l e room_1 s m #[Value.ref b] below meth c D (fun a : Nat => s.heap.size ≤ a) 4 Q 72 q1 (entC q1 cI cZ) 9 q2 (entM q2 cI cZ) 81 3756 u v 715 [(0, .ref b), (1, .ref (q1 0)), (2, .ref (q2 0)), (3, .int (nI i))] [] := by
  refine l_aload_n C 1 dL_law_715 rfl ?_
  refine l_aload_n C 0 dL_law_716 rfl ?_
  refine l_iload_n C 3 dL_law_717 rfl ?_
  refine l_iconst (x := 1) C dL_law_718 (by decide) ?_
  refine l_iadd C dL_law_719 ?_
  refine l_sld C hX hbl (Nat.not_le.mpr hbl) (l_in1 hi hL) dL_law_720 ?_
  refine l_aload_n C 0 dL_law_721 rfl ?_
  refine l_iload_n C 3 dL_law_722 rfl ?_
  refine l_iconst (x := 2) C dL_law_723 (by decide) ?_
  refine l_iadd C dL_law_724 ?_
  refine l_sld C hX hbl (Nat.not_le.mpr hbl) (l_in2 hi hL) dL_law_725 ?_
  have h := hrel u v (xs (nI i + 1).toNatClampNeg) (xs (nI i + 2).toNatClampNeg) hR
  refine l_c1l (As := [.int (xs (nI i + 1).toNatClampNeg), .int (xs (nI i + 2).toNatClampNeg)]) (st := []) C mf_X10_mean (kX_X10_mean l D cI cZ ad q1 N h) q_554 (by decide) rfl rfl rfl rfl ⟨rfl, rfl, Nat.le_of_ble_eq_true rfl, Nat.le_of_ble_eq_true rfl⟩ (Nat.le_of_ble_eq_true rfl) dL_law_726 ⟨Nat.le_of_ble_eq_true rfl, Nat.le_of_ble_eq_true rfl⟩ (fun r1 u1 h => ?_)
  refine l_aload_n C 2 dL_law_729 rfl ?_
  refine l_aload_n C 0 dL_law_730 rfl ?_
  refine l_iload_n C 3 dL_law_731 rfl ?_
  refine l_iconst (x := 1) C dL_law_732 (by decide) ?_
  refine l_iadd C dL_law_733 ?_
  refine l_sld C hX hbl (Nat.not_le.mpr hbl) (l_in1 hi hL) dL_law_734 ?_
  refine l_aload_n C 0 dL_law_735 rfl ?_
  refine l_iload_n C 3 dL_law_736 rfl ?_
  refine l_iconst (x := 2) C dL_law_737 (by decide) ?_
  refine l_iadd C dL_law_738 ?_
  refine l_sld C hX hbl (Nat.not_le.mpr hbl) (l_in2 hi hL) dL_law_739 ?_
  refine l_c2l (As := [.int (xs (nI i + 1).toNatClampNeg), .int (xs (nI i + 2).toNatClampNeg)]) (st := [.long r1]) C mf_X11_mean (kX_X11_mean l D cI cZ ad q2 N h) q_860 (by decide) rfl rfl rfl rfl ⟨rfl, rfl, Nat.le_of_ble_eq_true rfl, Nat.le_of_ble_eq_true rfl⟩ (Nat.le_of_ble_eq_true rfl) dL_law_740 ⟨Nat.le_of_ble_eq_true rfl, Nat.le_of_ble_eq_true rfl⟩ (fun r2 v1 h => ?_)
  obtain ⟨rfl, hR1⟩ := h
  refine l_lcmp C dL_law_743 ?_
  refine l_if_eq C 943 dL_law_744 (by decide) (fun _ => ?_) (fun c9 => absurd (lg_same _) c9)
  exact kf u1 v1 hR1
set_option maxRecDepth 100000 in
set_option maxHeartbeats 4000000 in
theorem law_c20 {p : Program} {e : Env} {s : State} {m : MethodId} {below : List Frame} {meth : Method} {c : Code} (l : Launch) {D : va_G} {cI cZ : ClassId} {ad q1 q2 : Nat → Nat} (N : Nat) {R : MM → MM → Prop} {b L : Nat} {xs : Nat → Int32} {Q : State → Prop} (C : CX p s m #[Value.ref b] meth c cL_law 4 RL ret D cI cZ ad (fun a : Nat => s.heap.size ≤ a)) (hX : va_X b L xs s s.heap) (hbl : b < s.heap.size) (hL : L ≤ 2048) {i : Nat} (hi : i + 4 ≤ L) (hrel : ∀ (u v : MM) (x1 : Int32) (x2 : Int32), R u v → wX10_book N x1 x2 u (fun r u2 => wX11_book N x1 x2 v (fun r2 v2 => r = r2 ∧ R u2 v2))) {u v : MM} (hR : R u v) (kf : ∀ (u2 v2 : MM), R u2 v2 → J2 p l e room_1 s m #[Value.ref b] below meth c D (fun a : Nat => s.heap.size ≤ a) 4 Q 72 q1 (entC q1 cI cZ) 9 q2 (entM q2 cI cZ) 81 3756 u2 v2 943 [(0, .ref b), (1, .ref (q1 0)), (2, .ref (q2 0)), (3, .int (nI i))] []) : J2 p l e room_1 s m #[Value.ref b] below meth c D (fun a : Nat => s.heap.size ≤ a) 4 Q 72 q1 (entC q1 cI cZ) 9 q2 (entM q2 cI cZ) 81 3756 u v 749 [(0, .ref b), (1, .ref (q1 0)), (2, .ref (q2 0)), (3, .int (nI i))] [] := by
  refine l_aload_n C 1 dL_law_749 rfl ?_
  refine l_aload_n C 0 dL_law_750 rfl ?_
  refine l_iload_n C 3 dL_law_751 rfl ?_
  refine l_iconst (x := 1) C dL_law_752 (by decide) ?_
  refine l_iadd C dL_law_753 ?_
  refine l_sld C hX hbl (Nat.not_le.mpr hbl) (l_in1 hi hL) dL_law_754 ?_
  refine l_aload_n C 0 dL_law_755 rfl ?_
  refine l_iload_n C 3 dL_law_756 rfl ?_
  refine l_iconst (x := 2) C dL_law_757 (by decide) ?_
  refine l_iadd C dL_law_758 ?_
  refine l_sld C hX hbl (Nat.not_le.mpr hbl) (l_in2 hi hL) dL_law_759 ?_
  have h := hrel u v (xs (nI i + 1).toNatClampNeg) (xs (nI i + 2).toNatClampNeg) hR
  refine l_c1i (As := [.int (xs (nI i + 1).toNatClampNeg), .int (xs (nI i + 2).toNatClampNeg)]) (st := []) C mf_X10_book (kX_X10_book l D cI cZ ad q1 N h) q_561 (by decide) rfl rfl rfl rfl ⟨rfl, rfl, Nat.le_of_ble_eq_true rfl, Nat.le_of_ble_eq_true rfl⟩ (Nat.le_of_ble_eq_true rfl) dL_law_760 ⟨Nat.le_of_ble_eq_true rfl, Nat.le_of_ble_eq_true rfl⟩ (fun r1 u1 h => ?_)
  refine l_aload_n C 2 dL_law_763 rfl ?_
  refine l_aload_n C 0 dL_law_764 rfl ?_
  refine l_iload_n C 3 dL_law_765 rfl ?_
  refine l_iconst (x := 1) C dL_law_766 (by decide) ?_
  refine l_iadd C dL_law_767 ?_
  refine l_sld C hX hbl (Nat.not_le.mpr hbl) (l_in1 hi hL) dL_law_768 ?_
  refine l_aload_n C 0 dL_law_769 rfl ?_
  refine l_iload_n C 3 dL_law_770 rfl ?_
  refine l_iconst (x := 2) C dL_law_771 (by decide) ?_
  refine l_iadd C dL_law_772 ?_
  refine l_sld C hX hbl (Nat.not_le.mpr hbl) (l_in2 hi hL) dL_law_773 ?_
  refine l_c2i (As := [.int (xs (nI i + 1).toNatClampNeg), .int (xs (nI i + 2).toNatClampNeg)]) (st := [.int r1]) C mf_X11_book (kX_X11_book l D cI cZ ad q2 N h) q_864 (by decide) rfl rfl rfl rfl ⟨rfl, rfl, Nat.le_of_ble_eq_true rfl, Nat.le_of_ble_eq_true rfl⟩ (Nat.le_of_ble_eq_true rfl) dL_law_774 ⟨Nat.le_of_ble_eq_true rfl, Nat.le_of_ble_eq_true rfl⟩ (fun r2 v1 h => ?_)
  obtain ⟨rfl, hR1⟩ := h
  refine l_icmp_eq C 943 dL_law_777 (by decide) (fun _ => ?_) (fun c9 => absurd rfl c9)
  exact kf u1 v1 hR1
set_option maxRecDepth 100000 in
set_option maxHeartbeats 4000000 in
theorem law_c21 {p : Program} {e : Env} {s : State} {m : MethodId} {below : List Frame} {meth : Method} {c : Code} (l : Launch) {D : va_G} {cI cZ : ClassId} {ad q1 q2 : Nat → Nat} (N : Nat) {R : MM → MM → Prop} {b L : Nat} {xs : Nat → Int32} {Q : State → Prop} (C : CX p s m #[Value.ref b] meth c cL_law 4 RL ret D cI cZ ad (fun a : Nat => s.heap.size ≤ a)) (hX : va_X b L xs s s.heap) (hbl : b < s.heap.size) (hL : L ≤ 2048) {i : Nat} (hi : i + 4 ≤ L) (hrel : ∀ (u v : MM), R u v → wX10_looked N u (fun r u2 => wX11_looked N v (fun r2 v2 => r = r2 ∧ R u2 v2))) {u v : MM} (hR : R u v) (kf : ∀ (u2 v2 : MM), R u2 v2 → J2 p l e room_1 s m #[Value.ref b] below meth c D (fun a : Nat => s.heap.size ≤ a) 4 Q 72 q1 (entC q1 cI cZ) 9 q2 (entM q2 cI cZ) 81 3756 u2 v2 943 [(0, .ref b), (1, .ref (q1 0)), (2, .ref (q2 0)), (3, .int (nI i))] []) : J2 p l e room_1 s m #[Value.ref b] below meth c D (fun a : Nat => s.heap.size ≤ a) 4 Q 72 q1 (entC q1 cI cZ) 9 q2 (entM q2 cI cZ) 81 3756 u v 782 [(0, .ref b), (1, .ref (q1 0)), (2, .ref (q2 0)), (3, .int (nI i))] [] := by
  refine l_aload_n C 1 dL_law_782 rfl ?_
  have h := hrel u v hR
  refine l_c1i (As := []) (st := []) C mf_X10_looked (kX_X10_looked l D cI cZ ad q1 N h) q_565 (by decide) rfl rfl rfl rfl ⟨rfl, rfl, Nat.le_of_ble_eq_true rfl, Nat.le_of_ble_eq_true rfl⟩ (Nat.le_of_ble_eq_true rfl) dL_law_783 ⟨Nat.le_of_ble_eq_true rfl, Nat.le_of_ble_eq_true rfl⟩ (fun r1 u1 h => ?_)
  refine l_aload_n C 2 dL_law_786 rfl ?_
  refine l_c2i (As := []) (st := [.int r1]) C mf_X11_looked (kX_X11_looked l D cI cZ ad q2 N h) q_868 (by decide) rfl rfl rfl rfl ⟨rfl, rfl, Nat.le_of_ble_eq_true rfl, Nat.le_of_ble_eq_true rfl⟩ (Nat.le_of_ble_eq_true rfl) dL_law_787 ⟨Nat.le_of_ble_eq_true rfl, Nat.le_of_ble_eq_true rfl⟩ (fun r2 v1 h => ?_)
  obtain ⟨rfl, hR1⟩ := h
  refine l_icmp_eq C 943 dL_law_790 (by decide) (fun _ => ?_) (fun c9 => absurd rfl c9)
  exact kf u1 v1 hR1
set_option maxRecDepth 100000 in
set_option maxHeartbeats 4000000 in
theorem law_c22 {p : Program} {e : Env} {s : State} {m : MethodId} {below : List Frame} {meth : Method} {c : Code} (l : Launch) {D : va_G} {cI cZ : ClassId} {ad q1 q2 : Nat → Nat} (N : Nat) {R : MM → MM → Prop} {b L : Nat} {xs : Nat → Int32} {Q : State → Prop} (C : CX p s m #[Value.ref b] meth c cL_law 4 RL ret D cI cZ ad (fun a : Nat => s.heap.size ≤ a)) (hX : va_X b L xs s s.heap) (hbl : b < s.heap.size) (hL : L ≤ 2048) {i : Nat} (hi : i + 4 ≤ L) (hrel : ∀ (u v : MM) (x1 : Int32) (x2 : Int32) (x3 : Int32), R u v → wX10_act N x1 x2 x3 u (fun r u2 => wX11_act N x1 x2 x3 v (fun r2 v2 => r = r2 ∧ R u2 v2))) {u v : MM} (hR : R u v) (kf : ∀ (u2 v2 : MM), R u2 v2 → J2 p l e room_1 s m #[Value.ref b] below meth c D (fun a : Nat => s.heap.size ≤ a) 4 Q 72 q1 (entC q1 cI cZ) 9 q2 (entM q2 cI cZ) 81 3756 u2 v2 943 [(0, .ref b), (1, .ref (q1 0)), (2, .ref (q2 0)), (3, .int (nI i))] []) : J2 p l e room_1 s m #[Value.ref b] below meth c D (fun a : Nat => s.heap.size ≤ a) 4 Q 72 q1 (entC q1 cI cZ) 9 q2 (entM q2 cI cZ) 81 3756 u v 795 [(0, .ref b), (1, .ref (q1 0)), (2, .ref (q2 0)), (3, .int (nI i))] [] := by
  refine l_aload_n C 1 dL_law_795 rfl ?_
  refine l_aload_n C 0 dL_law_796 rfl ?_
  refine l_iload_n C 3 dL_law_797 rfl ?_
  refine l_iconst (x := 1) C dL_law_798 (by decide) ?_
  refine l_iadd C dL_law_799 ?_
  refine l_sld C hX hbl (Nat.not_le.mpr hbl) (l_in1 hi hL) dL_law_800 ?_
  refine l_aload_n C 0 dL_law_801 rfl ?_
  refine l_iload_n C 3 dL_law_802 rfl ?_
  refine l_iconst (x := 2) C dL_law_803 (by decide) ?_
  refine l_iadd C dL_law_804 ?_
  refine l_sld C hX hbl (Nat.not_le.mpr hbl) (l_in2 hi hL) dL_law_805 ?_
  refine l_aload_n C 0 dL_law_806 rfl ?_
  refine l_iload_n C 3 dL_law_807 rfl ?_
  refine l_iconst (x := 3) C dL_law_808 (by decide) ?_
  refine l_iadd C dL_law_809 ?_
  refine l_sld C hX hbl (Nat.not_le.mpr hbl) (l_in3 hi hL) dL_law_810 ?_
  have h := hrel u v (xs (nI i + 1).toNatClampNeg) (xs (nI i + 2).toNatClampNeg) (xs (nI i + 3).toNatClampNeg) hR
  refine l_c1i (As := [.int (xs (nI i + 1).toNatClampNeg), .int (xs (nI i + 2).toNatClampNeg), .int (xs (nI i + 3).toNatClampNeg)]) (st := []) C mf_X10_act (kX_X10_act l D cI cZ ad q1 N h) q_569 (by decide) rfl rfl rfl rfl ⟨rfl, rfl, Nat.le_of_ble_eq_true rfl, Nat.le_of_ble_eq_true rfl⟩ (Nat.le_of_ble_eq_true rfl) dL_law_811 ⟨Nat.le_of_ble_eq_true rfl, Nat.le_of_ble_eq_true rfl⟩ (fun r1 u1 h => ?_)
  refine l_aload_n C 2 dL_law_814 rfl ?_
  refine l_aload_n C 0 dL_law_815 rfl ?_
  refine l_iload_n C 3 dL_law_816 rfl ?_
  refine l_iconst (x := 1) C dL_law_817 (by decide) ?_
  refine l_iadd C dL_law_818 ?_
  refine l_sld C hX hbl (Nat.not_le.mpr hbl) (l_in1 hi hL) dL_law_819 ?_
  refine l_aload_n C 0 dL_law_820 rfl ?_
  refine l_iload_n C 3 dL_law_821 rfl ?_
  refine l_iconst (x := 2) C dL_law_822 (by decide) ?_
  refine l_iadd C dL_law_823 ?_
  refine l_sld C hX hbl (Nat.not_le.mpr hbl) (l_in2 hi hL) dL_law_824 ?_
  refine l_aload_n C 0 dL_law_825 rfl ?_
  refine l_iload_n C 3 dL_law_826 rfl ?_
  refine l_iconst (x := 3) C dL_law_827 (by decide) ?_
  refine l_iadd C dL_law_828 ?_
  refine l_sld C hX hbl (Nat.not_le.mpr hbl) (l_in3 hi hL) dL_law_829 ?_
  refine l_c2i (As := [.int (xs (nI i + 1).toNatClampNeg), .int (xs (nI i + 2).toNatClampNeg), .int (xs (nI i + 3).toNatClampNeg)]) (st := [.int r1]) C mf_X11_act (kX_X11_act l D cI cZ ad q2 N h) q_872 (by decide) rfl rfl rfl rfl ⟨rfl, rfl, Nat.le_of_ble_eq_true rfl, Nat.le_of_ble_eq_true rfl⟩ (Nat.le_of_ble_eq_true rfl) dL_law_830 ⟨Nat.le_of_ble_eq_true rfl, Nat.le_of_ble_eq_true rfl⟩ (fun r2 v1 h => ?_)
  obtain ⟨rfl, hR1⟩ := h
  refine l_icmp_eq C 943 dL_law_833 (by decide) (fun _ => ?_) (fun c9 => absurd rfl c9)
  exact kf u1 v1 hR1
set_option maxRecDepth 100000 in
set_option maxHeartbeats 4000000 in
theorem law_c23 {p : Program} {e : Env} {s : State} {m : MethodId} {below : List Frame} {meth : Method} {c : Code} (l : Launch) {D : va_G} {cI cZ : ClassId} {ad q1 q2 : Nat → Nat} (N : Nat) {R : MM → MM → Prop} {b L : Nat} {xs : Nat → Int32} {Q : State → Prop} (C : CX p s m #[Value.ref b] meth c cL_law 4 RL ret D cI cZ ad (fun a : Nat => s.heap.size ≤ a)) (hX : va_X b L xs s s.heap) (hbl : b < s.heap.size) (hL : L ≤ 2048) {i : Nat} (hi : i + 4 ≤ L) (hrel : ∀ (u v : MM) (x1 : Int32), R u v → wX10_trace N x1 u (fun r u2 => wX11_trace N x1 v (fun r2 v2 => r = r2 ∧ R u2 v2))) {u v : MM} (hR : R u v) (kf : ∀ (u2 v2 : MM), R u2 v2 → J2 p l e room_1 s m #[Value.ref b] below meth c D (fun a : Nat => s.heap.size ≤ a) 4 Q 72 q1 (entC q1 cI cZ) 9 q2 (entM q2 cI cZ) 81 3756 u2 v2 943 [(0, .ref b), (1, .ref (q1 0)), (2, .ref (q2 0)), (3, .int (nI i))] []) : J2 p l e room_1 s m #[Value.ref b] below meth c D (fun a : Nat => s.heap.size ≤ a) 4 Q 72 q1 (entC q1 cI cZ) 9 q2 (entM q2 cI cZ) 81 3756 u v 838 [(0, .ref b), (1, .ref (q1 0)), (2, .ref (q2 0)), (3, .int (nI i))] [] := by
  refine l_aload_n C 1 dL_law_838 rfl ?_
  refine l_aload_n C 0 dL_law_839 rfl ?_
  refine l_iload_n C 3 dL_law_840 rfl ?_
  refine l_iconst (x := 1) C dL_law_841 (by decide) ?_
  refine l_iadd C dL_law_842 ?_
  refine l_sld C hX hbl (Nat.not_le.mpr hbl) (l_in1 hi hL) dL_law_843 ?_
  have h := hrel u v (xs (nI i + 1).toNatClampNeg) hR
  refine l_c1i (As := [.int (xs (nI i + 1).toNatClampNeg)]) (st := []) C mf_X10_trace (kX_X10_trace l D cI cZ ad q1 N h) q_594 (by decide) rfl rfl rfl rfl ⟨rfl, rfl, Nat.le_of_ble_eq_true rfl, Nat.le_of_ble_eq_true rfl⟩ (Nat.le_of_ble_eq_true rfl) dL_law_844 ⟨Nat.le_of_ble_eq_true rfl, Nat.le_of_ble_eq_true rfl⟩ (fun r1 u1 h => ?_)
  refine l_aload_n C 2 dL_law_847 rfl ?_
  refine l_aload_n C 0 dL_law_848 rfl ?_
  refine l_iload_n C 3 dL_law_849 rfl ?_
  refine l_iconst (x := 1) C dL_law_850 (by decide) ?_
  refine l_iadd C dL_law_851 ?_
  refine l_sld C hX hbl (Nat.not_le.mpr hbl) (l_in1 hi hL) dL_law_852 ?_
  refine l_c2i (As := [.int (xs (nI i + 1).toNatClampNeg)]) (st := [.int r1]) C mf_X11_trace (kX_X11_trace l D cI cZ ad q2 N h) q_900 (by decide) rfl rfl rfl rfl ⟨rfl, rfl, Nat.le_of_ble_eq_true rfl, Nat.le_of_ble_eq_true rfl⟩ (Nat.le_of_ble_eq_true rfl) dL_law_853 ⟨Nat.le_of_ble_eq_true rfl, Nat.le_of_ble_eq_true rfl⟩ (fun r2 v1 h => ?_)
  obtain ⟨rfl, hR1⟩ := h
  refine l_icmp_eq C 943 dL_law_856 (by decide) (fun _ => ?_) (fun c9 => absurd rfl c9)
  exact kf u1 v1 hR1
set_option maxRecDepth 100000 in
set_option maxHeartbeats 4000000 in
theorem law_c24 {p : Program} {e : Env} {s : State} {m : MethodId} {below : List Frame} {meth : Method} {c : Code} (l : Launch) {D : va_G} {cI cZ : ClassId} {ad q1 q2 : Nat → Nat} (N : Nat) {R : MM → MM → Prop} {b L : Nat} {xs : Nat → Int32} {Q : State → Prop} (C : CX p s m #[Value.ref b] meth c cL_law 4 RL ret D cI cZ ad (fun a : Nat => s.heap.size ≤ a)) (hX : va_X b L xs s s.heap) (hbl : b < s.heap.size) (hL : L ≤ 2048) {i : Nat} (hi : i + 4 ≤ L) (hrel : ∀ (u v : MM) (x1 : Int32) (x2 : Int32), R u v → wX10_as N x1 x2 u (fun r u2 => wX11_as N x1 x2 v (fun r2 v2 => r = r2 ∧ R u2 v2))) {u v : MM} (hR : R u v) (kf : ∀ (u2 v2 : MM), R u2 v2 → J2 p l e room_1 s m #[Value.ref b] below meth c D (fun a : Nat => s.heap.size ≤ a) 4 Q 72 q1 (entC q1 cI cZ) 9 q2 (entM q2 cI cZ) 81 3756 u2 v2 943 [(0, .ref b), (1, .ref (q1 0)), (2, .ref (q2 0)), (3, .int (nI i))] []) : J2 p l e room_1 s m #[Value.ref b] below meth c D (fun a : Nat => s.heap.size ≤ a) 4 Q 72 q1 (entC q1 cI cZ) 9 q2 (entM q2 cI cZ) 81 3756 u v 861 [(0, .ref b), (1, .ref (q1 0)), (2, .ref (q2 0)), (3, .int (nI i))] [] := by
  refine l_aload_n C 1 dL_law_861 rfl ?_
  refine l_aload_n C 0 dL_law_862 rfl ?_
  refine l_iload_n C 3 dL_law_863 rfl ?_
  refine l_iconst (x := 1) C dL_law_864 (by decide) ?_
  refine l_iadd C dL_law_865 ?_
  refine l_sld C hX hbl (Nat.not_le.mpr hbl) (l_in1 hi hL) dL_law_866 ?_
  refine l_aload_n C 0 dL_law_867 rfl ?_
  refine l_iload_n C 3 dL_law_868 rfl ?_
  refine l_iconst (x := 2) C dL_law_869 (by decide) ?_
  refine l_iadd C dL_law_870 ?_
  refine l_sld C hX hbl (Nat.not_le.mpr hbl) (l_in2 hi hL) dL_law_871 ?_
  have h := hrel u v (xs (nI i + 1).toNatClampNeg) (xs (nI i + 2).toNatClampNeg) hR
  refine l_c1i (As := [.int (xs (nI i + 1).toNatClampNeg), .int (xs (nI i + 2).toNatClampNeg)]) (st := []) C mf_X10_as (kX_X10_as l D cI cZ ad q1 N h) q_599 (by decide) rfl rfl rfl rfl ⟨rfl, rfl, Nat.le_of_ble_eq_true rfl, Nat.le_of_ble_eq_true rfl⟩ (Nat.le_of_ble_eq_true rfl) dL_law_872 ⟨Nat.le_of_ble_eq_true rfl, Nat.le_of_ble_eq_true rfl⟩ (fun r1 u1 h => ?_)
  refine l_aload_n C 2 dL_law_875 rfl ?_
  refine l_aload_n C 0 dL_law_876 rfl ?_
  refine l_iload_n C 3 dL_law_877 rfl ?_
  refine l_iconst (x := 1) C dL_law_878 (by decide) ?_
  refine l_iadd C dL_law_879 ?_
  refine l_sld C hX hbl (Nat.not_le.mpr hbl) (l_in1 hi hL) dL_law_880 ?_
  refine l_aload_n C 0 dL_law_881 rfl ?_
  refine l_iload_n C 3 dL_law_882 rfl ?_
  refine l_iconst (x := 2) C dL_law_883 (by decide) ?_
  refine l_iadd C dL_law_884 ?_
  refine l_sld C hX hbl (Nat.not_le.mpr hbl) (l_in2 hi hL) dL_law_885 ?_
  refine l_c2i (As := [.int (xs (nI i + 1).toNatClampNeg), .int (xs (nI i + 2).toNatClampNeg)]) (st := [.int r1]) C mf_X11_as (kX_X11_as l D cI cZ ad q2 N h) q_904 (by decide) rfl rfl rfl rfl ⟨rfl, rfl, Nat.le_of_ble_eq_true rfl, Nat.le_of_ble_eq_true rfl⟩ (Nat.le_of_ble_eq_true rfl) dL_law_886 ⟨Nat.le_of_ble_eq_true rfl, Nat.le_of_ble_eq_true rfl⟩ (fun r2 v1 h => ?_)
  obtain ⟨rfl, hR1⟩ := h
  refine l_icmp_eq C 943 dL_law_889 (by decide) (fun _ => ?_) (fun c9 => absurd rfl c9)
  exact kf u1 v1 hR1
set_option maxRecDepth 100000 in
set_option maxHeartbeats 4000000 in
theorem law_c25 {p : Program} {e : Env} {s : State} {m : MethodId} {below : List Frame} {meth : Method} {c : Code} (l : Launch) {D : va_G} {cI cZ : ClassId} {ad q1 q2 : Nat → Nat} (N : Nat) {R : MM → MM → Prop} {b L : Nat} {xs : Nat → Int32} {Q : State → Prop} (C : CX p s m #[Value.ref b] meth c cL_law 4 RL ret D cI cZ ad (fun a : Nat => s.heap.size ≤ a)) (hX : va_X b L xs s s.heap) (hbl : b < s.heap.size) (hL : L ≤ 2048) {i : Nat} (hi : i + 4 ≤ L) (hrel : ∀ (u v : MM), R u v → wX10_image N u (fun r u2 => wX11_image N v (fun r2 v2 => r = r2 ∧ R u2 v2))) {u v : MM} (hR : R u v) (kf : ∀ (u2 v2 : MM), R u2 v2 → J2 p l e room_1 s m #[Value.ref b] below meth c D (fun a : Nat => s.heap.size ≤ a) 4 Q 72 q1 (entC q1 cI cZ) 9 q2 (entM q2 cI cZ) 81 3756 u2 v2 943 [(0, .ref b), (1, .ref (q1 0)), (2, .ref (q2 0)), (3, .int (nI i))] []) : J2 p l e room_1 s m #[Value.ref b] below meth c D (fun a : Nat => s.heap.size ≤ a) 4 Q 72 q1 (entC q1 cI cZ) 9 q2 (entM q2 cI cZ) 81 3756 u v 894 [(0, .ref b), (1, .ref (q1 0)), (2, .ref (q2 0)), (3, .int (nI i))] [] := by
  refine l_aload_n C 1 dL_law_894 rfl ?_
  have h := hrel u v hR
  refine l_c1i (As := []) (st := []) C mf_X10_image (kX_X10_image l D cI cZ ad q1 N h) q_604 (by decide) rfl rfl rfl rfl ⟨rfl, rfl, Nat.le_of_ble_eq_true rfl, Nat.le_of_ble_eq_true rfl⟩ (Nat.le_of_ble_eq_true rfl) dL_law_895 ⟨Nat.le_of_ble_eq_true rfl, Nat.le_of_ble_eq_true rfl⟩ (fun r1 u1 h => ?_)
  refine l_aload_n C 2 dL_law_898 rfl ?_
  refine l_c2i (As := []) (st := [.int r1]) C mf_X11_image (kX_X11_image l D cI cZ ad q2 N h) q_908 (by decide) rfl rfl rfl rfl ⟨rfl, rfl, Nat.le_of_ble_eq_true rfl, Nat.le_of_ble_eq_true rfl⟩ (Nat.le_of_ble_eq_true rfl) dL_law_899 ⟨Nat.le_of_ble_eq_true rfl, Nat.le_of_ble_eq_true rfl⟩ (fun r2 v1 h => ?_)
  obtain ⟨rfl, hR1⟩ := h
  refine l_icmp_eq C 943 dL_law_902 (by decide) (fun _ => ?_) (fun c9 => absurd rfl c9)
  exact kf u1 v1 hR1
set_option maxRecDepth 100000 in
set_option maxHeartbeats 4000000 in
theorem law_c26 {p : Program} {e : Env} {s : State} {m : MethodId} {below : List Frame} {meth : Method} {c : Code} (l : Launch) {D : va_G} {cI cZ : ClassId} {ad q1 q2 : Nat → Nat} (N : Nat) {R : MM → MM → Prop} {b L : Nat} {xs : Nat → Int32} {Q : State → Prop} (C : CX p s m #[Value.ref b] meth c cL_law 4 RL ret D cI cZ ad (fun a : Nat => s.heap.size ≤ a)) (hX : va_X b L xs s s.heap) (hbl : b < s.heap.size) (hL : L ≤ 2048) {i : Nat} (hi : i + 4 ≤ L) (hrel : ∀ (u v : MM), R u v → wX10_undo N u (fun r u2 => wX11_undo N v (fun r2 v2 => r = r2 ∧ R u2 v2))) {u v : MM} (hR : R u v) (kf : ∀ (u2 v2 : MM), R u2 v2 → J2 p l e room_1 s m #[Value.ref b] below meth c D (fun a : Nat => s.heap.size ≤ a) 4 Q 72 q1 (entC q1 cI cZ) 9 q2 (entM q2 cI cZ) 81 3756 u2 v2 943 [(0, .ref b), (1, .ref (q1 0)), (2, .ref (q2 0)), (3, .int (nI i))] []) : J2 p l e room_1 s m #[Value.ref b] below meth c D (fun a : Nat => s.heap.size ≤ a) 4 Q 72 q1 (entC q1 cI cZ) 9 q2 (entM q2 cI cZ) 81 3756 u v 907 [(0, .ref b), (1, .ref (q1 0)), (2, .ref (q2 0)), (3, .int (nI i))] [] := by
  refine l_aload_n C 1 dL_law_907 rfl ?_
  have h := hrel u v hR
  refine l_c1i (As := []) (st := []) C mf_X10_undo (kX_X10_undo l D cI cZ ad q1 N h) q_622 (by decide) rfl rfl rfl rfl ⟨rfl, rfl, Nat.le_of_ble_eq_true rfl, Nat.le_of_ble_eq_true rfl⟩ (Nat.le_of_ble_eq_true rfl) dL_law_908 ⟨Nat.le_of_ble_eq_true rfl, Nat.le_of_ble_eq_true rfl⟩ (fun r1 u1 h => ?_)
  refine l_aload_n C 2 dL_law_911 rfl ?_
  refine l_c2i (As := []) (st := [.int r1]) C mf_X11_undo (kX_X11_undo l D cI cZ ad q2 N h) q_912 (by decide) rfl rfl rfl rfl ⟨rfl, rfl, Nat.le_of_ble_eq_true rfl, Nat.le_of_ble_eq_true rfl⟩ (Nat.le_of_ble_eq_true rfl) dL_law_912 ⟨Nat.le_of_ble_eq_true rfl, Nat.le_of_ble_eq_true rfl⟩ (fun r2 v1 h => ?_)
  obtain ⟨rfl, hR1⟩ := h
  refine l_icmp_eq C 943 dL_law_915 (by decide) (fun _ => ?_) (fun c9 => absurd rfl c9)
  exact kf u1 v1 hR1
set_option maxRecDepth 100000 in
set_option maxHeartbeats 4000000 in
theorem law_c27 {p : Program} {e : Env} {s : State} {m : MethodId} {below : List Frame} {meth : Method} {c : Code} (l : Launch) {D : va_G} {cI cZ : ClassId} {ad q1 q2 : Nat → Nat} (N : Nat) {R : MM → MM → Prop} {b L : Nat} {xs : Nat → Int32} {Q : State → Prop} (C : CX p s m #[Value.ref b] meth c cL_law 4 RL ret D cI cZ ad (fun a : Nat => s.heap.size ≤ a)) (hX : va_X b L xs s s.heap) (hbl : b < s.heap.size) (hL : L ≤ 2048) {i : Nat} (hi : i + 4 ≤ L) (hrel : ∀ (u v : MM) (x1 : Int32), R u v → wX10_count N x1 u (fun r u2 => wX11_count N x1 v (fun r2 v2 => r = r2 ∧ R u2 v2))) {u v : MM} (hR : R u v) (kf : ∀ (u2 v2 : MM), R u2 v2 → J2 p l e room_1 s m #[Value.ref b] below meth c D (fun a : Nat => s.heap.size ≤ a) 4 Q 72 q1 (entC q1 cI cZ) 9 q2 (entM q2 cI cZ) 81 3756 u2 v2 943 [(0, .ref b), (1, .ref (q1 0)), (2, .ref (q2 0)), (3, .int (nI i))] []) : J2 p l e room_1 s m #[Value.ref b] below meth c D (fun a : Nat => s.heap.size ≤ a) 4 Q 72 q1 (entC q1 cI cZ) 9 q2 (entM q2 cI cZ) 81 3756 u v 920 [(0, .ref b), (1, .ref (q1 0)), (2, .ref (q2 0)), (3, .int (nI i))] [] := by
  refine l_aload_n C 1 dL_law_920 rfl ?_
  refine l_aload_n C 0 dL_law_921 rfl ?_
  refine l_iload_n C 3 dL_law_922 rfl ?_
  refine l_iconst (x := 1) C dL_law_923 (by decide) ?_
  refine l_iadd C dL_law_924 ?_
  refine l_sld C hX hbl (Nat.not_le.mpr hbl) (l_in1 hi hL) dL_law_925 ?_
  have h := hrel u v (xs (nI i + 1).toNatClampNeg) hR
  refine l_c1i (As := [.int (xs (nI i + 1).toNatClampNeg)]) (st := []) C mf_X10_count (kX_X10_count l D cI cZ ad q1 N h) q_626 (by decide) rfl rfl rfl rfl ⟨rfl, rfl, Nat.le_of_ble_eq_true rfl, Nat.le_of_ble_eq_true rfl⟩ (Nat.le_of_ble_eq_true rfl) dL_law_926 ⟨Nat.le_of_ble_eq_true rfl, Nat.le_of_ble_eq_true rfl⟩ (fun r1 u1 h => ?_)
  refine l_aload_n C 2 dL_law_929 rfl ?_
  refine l_aload_n C 0 dL_law_930 rfl ?_
  refine l_iload_n C 3 dL_law_931 rfl ?_
  refine l_iconst (x := 1) C dL_law_932 (by decide) ?_
  refine l_iadd C dL_law_933 ?_
  refine l_sld C hX hbl (Nat.not_le.mpr hbl) (l_in1 hi hL) dL_law_934 ?_
  refine l_c2i (As := [.int (xs (nI i + 1).toNatClampNeg)]) (st := [.int r1]) C mf_X11_count (kX_X11_count l D cI cZ ad q2 N h) q_916 (by decide) rfl rfl rfl rfl ⟨rfl, rfl, Nat.le_of_ble_eq_true rfl, Nat.le_of_ble_eq_true rfl⟩ (Nat.le_of_ble_eq_true rfl) dL_law_935 ⟨Nat.le_of_ble_eq_true rfl, Nat.le_of_ble_eq_true rfl⟩ (fun r2 v1 h => ?_)
  obtain ⟨rfl, hR1⟩ := h
  refine l_icmp_eq C 943 dL_law_938 (by decide) (fun _ => ?_) (fun c9 => absurd rfl c9)
  exact kf u1 v1 hR1
def RelAll (N : Nat) (R : MM → MM → Prop) : Prop :=
  (∀ (u v : MM) (x1 : Int32), R u v → wX10_feed N x1 u (fun r u2 => wX11_feed N x1 v (fun r2 v2 => r = r2 ∧ R u2 v2))) ∧
  (∀ (u v : MM), R u v → wX10_town N u (fun r u2 => wX11_town N v (fun r2 v2 => r = r2 ∧ R u2 v2))) ∧
  (∀ (u v : MM) (x1 : Int32) (x2 : Int32), R u v → wX10_person N x1 x2 u (fun r u2 => wX11_person N x1 x2 v (fun r2 v2 => r = r2 ∧ R u2 v2))) ∧
  (∀ (u v : MM) (x1 : Int32) (x2 : Int32), R u v → wX10_of N x1 x2 u (fun r u2 => wX11_of N x1 x2 v (fun r2 v2 => r = r2 ∧ R u2 v2))) ∧
  (∀ (u v : MM) (x1 : Int32) (x2 : Int32) (x3 : Int32), (x3 = 0 ∨ x3 = 1) → R u v → wX10_know N x1 x2 x3 u (fun r u2 => wX11_know N x1 x2 x3 v (fun r2 v2 => r = r2 ∧ R u2 v2))) ∧
  (∀ (u v : MM) (x1 : Int32) (x2 : Int32), R u v → wX10_row N x1 x2 u (fun r u2 => wX11_row N x1 x2 v (fun r2 v2 => r = r2 ∧ R u2 v2))) ∧
  (∀ (u v : MM) (x1 : Int32), R u v → wX10_told N x1 u (fun r u2 => wX11_told N x1 v (fun r2 v2 => r = r2 ∧ R u2 v2))) ∧
  (∀ (u v : MM) (x1 : Int32) (x2 : Int32), R u v → wX10_begin N x1 x2 u (fun r u2 => wX11_begin N x1 x2 v (fun r2 v2 => r = r2 ∧ R u2 v2))) ∧
  (∀ (u v : MM), R u v → wX10_day N u (fun r u2 => wX11_day N v (fun r2 v2 => r = r2 ∧ R u2 v2))) ∧
  (∀ (u v : MM) (x1 : Int32), R u v → wX10_sum N x1 u (fun r u2 => wX11_sum N x1 v (fun r2 v2 => r = r2 ∧ R u2 v2))) ∧
  (∀ (u v : MM) (x1 : Int32), R u v → wX10_enough N x1 u (fun r u2 => wX11_enough N x1 v (fun r2 v2 => r = r2 ∧ R u2 v2))) ∧
  (∀ (u v : MM) (x1 : Int32), R u v → wX10_end N x1 u (fun r u2 => wX11_end N x1 v (fun r2 v2 => r = r2 ∧ R u2 v2))) ∧
  (∀ (u v : MM) (x1 : Int32) (x2 : Int32), R u v → wX10_best N x1 x2 u (fun r u2 => wX11_best N x1 x2 v (fun r2 v2 => r = r2 ∧ R u2 v2))) ∧
  (∀ (u v : MM) (x1 : Int32) (x2 : Int32), R u v → wX10_choice N x1 x2 u (fun r u2 => wX11_choice N x1 x2 v (fun r2 v2 => r = r2 ∧ R u2 v2))) ∧
  (∀ (u v : MM) (x1 : Int32) (x2 : Int32), R u v → wX10_reach N x1 x2 u (fun r u2 => wX11_reach N x1 x2 v (fun r2 v2 => r = r2 ∧ R u2 v2))) ∧
  (∀ (u v : MM) (x1 : Int32) (x2 : Int32), R u v → wX10_see N x1 x2 u (fun r u2 => wX11_see N x1 x2 v (fun r2 v2 => r = r2 ∧ R u2 v2))) ∧
  (∀ (u v : MM) (x1 : Int32), R u v → wX10_began N x1 u (fun r u2 => wX11_began N x1 v (fun r2 v2 => r = r2 ∧ R u2 v2))) ∧
  (∀ (u v : MM) (x1 : Int32), R u v → wX10_stops N x1 u (fun r u2 => wX11_stops N x1 v (fun r2 v2 => r = r2 ∧ R u2 v2))) ∧
  (∀ (u v : MM) (x1 : Int32) (x2 : Int32) (x3 : Int32), R u v → wX10_odds N x1 x2 x3 u (fun r u2 => wX11_odds N x1 x2 x3 v (fun r2 v2 => r = r2 ∧ R u2 v2))) ∧
  (∀ (u v : MM) (x1 : Int32) (x2 : Int32), R u v → wX10_mean N x1 x2 u (fun r u2 => wX11_mean N x1 x2 v (fun r2 v2 => r = r2 ∧ R u2 v2))) ∧
  (∀ (u v : MM) (x1 : Int32) (x2 : Int32), R u v → wX10_book N x1 x2 u (fun r u2 => wX11_book N x1 x2 v (fun r2 v2 => r = r2 ∧ R u2 v2))) ∧
  (∀ (u v : MM), R u v → wX10_looked N u (fun r u2 => wX11_looked N v (fun r2 v2 => r = r2 ∧ R u2 v2))) ∧
  (∀ (u v : MM) (x1 : Int32) (x2 : Int32) (x3 : Int32), R u v → wX10_act N x1 x2 x3 u (fun r u2 => wX11_act N x1 x2 x3 v (fun r2 v2 => r = r2 ∧ R u2 v2))) ∧
  (∀ (u v : MM) (x1 : Int32), R u v → wX10_trace N x1 u (fun r u2 => wX11_trace N x1 v (fun r2 v2 => r = r2 ∧ R u2 v2))) ∧
  (∀ (u v : MM) (x1 : Int32) (x2 : Int32), R u v → wX10_as N x1 x2 u (fun r u2 => wX11_as N x1 x2 v (fun r2 v2 => r = r2 ∧ R u2 v2))) ∧
  (∀ (u v : MM), R u v → wX10_image N u (fun r u2 => wX11_image N v (fun r2 v2 => r = r2 ∧ R u2 v2))) ∧
  (∀ (u v : MM), R u v → wX10_undo N u (fun r u2 => wX11_undo N v (fun r2 v2 => r = r2 ∧ R u2 v2))) ∧
  (∀ (u v : MM) (x1 : Int32), R u v → wX10_count N x1 u (fun r u2 => wX11_count N x1 v (fun r2 v2 => r = r2 ∧ R u2 v2)))
set_option maxRecDepth 100000 in
set_option maxHeartbeats 4000000 in
theorem law_loop {p : Program} {e : Env} {s : State} {m : MethodId} {below : List Frame} {meth : Method} {c : Code} (l : Launch) {D : va_G} {cI cZ : ClassId} {ad q1 q2 : Nat → Nat} (N : Nat) {R : MM → MM → Prop} {b L : Nat} {xs : Nat → Int32} {Q : State → Prop} (C : CX p s m #[Value.ref b] meth c cL_law 4 RL ret D cI cZ ad (fun a : Nat => s.heap.size ≤ a)) (hX : va_X b L xs s s.heap) (hbl : b < s.heap.size) (hL : L ≤ 2048) (H : RelAll N R) (kend : ∀ (u v : MM) (i : Nat), R u v → J2 p l e room_1 s m #[Value.ref b] below meth c D (fun a : Nat => s.heap.size ≤ a) 4 Q 72 q1 (entC q1 cI cZ) 9 q2 (entM q2 cI cZ) 81 3756 u v 949 [(0, .ref b), (1, .ref (q1 0)), (2, .ref (q2 0)), (3, .int (nI i))] []) : ∀ (n i : Nat) (u v : MM), L < i + n → i ≤ 2100 → R u v → J2 p l e room_1 s m #[Value.ref b] below meth c D (fun a : Nat => s.heap.size ≤ a) 4 Q 72 q1 (entC q1 cI cZ) 9 q2 (entM q2 cI cZ) 81 3756 u v 18 [(0, .ref b), (1, .ref (q1 0)), (2, .ref (q2 0)), (3, .int (nI i))] [] := by
  intro n
  induction n with
  | zero =>
    intro i u v hn hi2 hR
    refine l_iload_n C 3 dL_law_18 rfl ?_
    refine l_aload_n C 0 dL_law_19 rfl ?_
    refine l_slen C hX hbl (Nat.not_le.mpr hbl) dL_law_20 ?_
    refine l_iconst (x := 4) C dL_law_21 (by decide) ?_
    refine l_isub C dL_law_22 ?_
    refine l_icmp_gt C 949 dL_law_23 (by decide) (fun _ => kend u v i hR) (fun c1 => ?_)
    have := l_go hi2 hL c1
    omega
  | succ n ih =>
    intro i u v hn hi2 hR
    refine l_iload_n C 3 dL_law_18 rfl ?_
    refine l_aload_n C 0 dL_law_19 rfl ?_
    refine l_slen C hX hbl (Nat.not_le.mpr hbl) dL_law_20 ?_
    refine l_iconst (x := 4) C dL_law_21 (by decide) ?_
    refine l_isub C dL_law_22 ?_
    refine l_icmp_gt C 949 dL_law_23 (by decide) (fun _ => kend u v i hR) (fun c1 => ?_)
    have hi := l_go hi2 hL c1
    refine l_aload_n C 0 dL_law_26 rfl ?_
    refine l_iload_n C 3 dL_law_27 rfl ?_
    refine l_sld C hX hbl (Nat.not_le.mpr hbl) (vp_in_nI (by omega) (by omega)) dL_law_28 ?_
    refine l_bipush (x := 31) C dL_law_29 (by decide) ?_
    refine l_iand C dL_law_31 ?_
    generalize xs (nI i).toNatClampNeg &&& 31 = y
    have kf : ∀ (u2 v2 : MM), R u2 v2 → J2 p l e room_1 s m #[Value.ref b] below meth c D (fun a : Nat => s.heap.size ≤ a) 4 Q 72 q1 (entC q1 cI cZ) 9 q2 (entM q2 cI cZ) 81 3756 u2 v2 943 [(0, .ref b), (1, .ref (q1 0)), (2, .ref (q2 0)), (3, .int (nI i))] [] := by
      intro u2 v2 hR2
      obtain ⟨z, ez⟩ : ∃ z : Int32, z = nI (i + 4) := ⟨_, rfl⟩
      refine l_iinc (y := z) (lv' := [(3, .int z), (0, .ref b), (1, .ref (q1 0)), (2, .ref (q2 0))]) C 3 dL_law_943 rfl (by rw [ez, show Int32.ofInt 4 = nI 4 from rfl, nI_add]) (by decide) rfl ?_
      refine l_goto C 18 dL_law_946 (by decide) ?_
      subst ez
      refine l_sub (lv' := [(0, .ref b), (1, .ref (q1 0)), (2, .ref (q2 0)), (3, .int (nI (i + 4)))]) [1, 2, 3, 0] rfl ?_
      exact ih (i + 4) u2 v2 (by omega) (by omega) hR2
    by_cases c10 : y = 0
    · refine l_tabIn (y := 0) C c10 (off := 128) 160 dL_law_32 (by decide) (by decide) (by decide) (by decide) ?_
      exact law_c0 l N C hX hbl hL hi H.1 hR kf
    by_cases c11 : y = 1
    · refine l_tabIn (y := 1) C c11 (off := 151) 183 dL_law_32 (by decide) (by decide) (by decide) (by decide) ?_
      exact law_c1 l N C hX hbl hL hi H.2.1 hR kf
    by_cases c12 : y = 2
    · refine l_tabIn (y := 2) C c12 (off := 164) 196 dL_law_32 (by decide) (by decide) (by decide) (by decide) ?_
      exact law_c2 l N C hX hbl hL hi H.2.2.1 hR kf
    by_cases c13 : y = 3
    · refine l_tabIn (y := 3) C c13 (off := 197) 229 dL_law_32 (by decide) (by decide) (by decide) (by decide) ?_
      exact law_c3 l N C hX hbl hL hi H.2.2.2.1 hR kf
    by_cases c14 : y = 4
    · refine l_tabIn (y := 4) C c14 (off := 230) 262 dL_law_32 (by decide) (by decide) (by decide) (by decide) ?_
      exact law_c4 l N C hX hbl hL hi H.2.2.2.2.1 hR kf
    by_cases c15 : y = 5
    · refine l_tabIn (y := 5) C c15 (off := 289) 321 dL_law_32 (by decide) (by decide) (by decide) (by decide) ?_
      exact law_c5 l N C hX hbl hL hi H.2.2.2.2.2.1 hR kf
    by_cases c16 : y = 6
    · refine l_tabIn (y := 6) C c16 (off := 322) 354 dL_law_32 (by decide) (by decide) (by decide) (by decide) ?_
      exact law_c6 l N C hX hbl hL hi H.2.2.2.2.2.2.1 hR kf
    by_cases c17 : y = 7
    · refine l_tabIn (y := 7) C c17 (off := 345) 377 dL_law_32 (by decide) (by decide) (by decide) (by decide) ?_
      exact law_c7 l N C hX hbl hL hi H.2.2.2.2.2.2.2.1 hR kf
    by_cases c18 : y = 8
    · refine l_tabIn (y := 8) C c18 (off := 378) 410 dL_law_32 (by decide) (by decide) (by decide) (by decide) ?_
      exact law_c8 l N C hX hbl hL hi H.2.2.2.2.2.2.2.2.1 hR kf
    by_cases c19 : y = 9
    · refine l_tabIn (y := 9) C c19 (off := 391) 423 dL_law_32 (by decide) (by decide) (by decide) (by decide) ?_
      exact law_c9 l N C hX hbl hL hi H.2.2.2.2.2.2.2.2.2.1 hR kf
    by_cases c20 : y = 10
    · refine l_tabIn (y := 10) C c20 (off := 415) 447 dL_law_32 (by decide) (by decide) (by decide) (by decide) ?_
      exact law_c10 l N C hX hbl hL hi H.2.2.2.2.2.2.2.2.2.2.1 hR kf
    by_cases c21 : y = 11
    · refine l_tabIn (y := 11) C c21 (off := 438) 470 dL_law_32 (by decide) (by decide) (by decide) (by decide) ?_
      exact law_c11 l N C hX hbl hL hi H.2.2.2.2.2.2.2.2.2.2.2.1 hR kf
    by_cases c22 : y = 12
    · refine l_tabIn (y := 12) C c22 (off := 461) 493 dL_law_32 (by decide) (by decide) (by decide) (by decide) ?_
      exact law_c12 l N C hX hbl hL hi H.2.2.2.2.2.2.2.2.2.2.2.2.1 hR kf
    by_cases c23 : y = 13
    · refine l_tabIn (y := 13) C c23 (off := 494) 526 dL_law_32 (by decide) (by decide) (by decide) (by decide) ?_
      exact law_c13 l N C hX hbl hL hi H.2.2.2.2.2.2.2.2.2.2.2.2.2.1 hR kf
    by_cases c24 : y = 14
    · refine l_tabIn (y := 14) C c24 (off := 527) 559 dL_law_32 (by decide) (by decide) (by decide) (by decide) ?_
      exact law_c14 l N C hX hbl hL hi H.2.2.2.2.2.2.2.2.2.2.2.2.2.2.1 hR kf
    by_cases c25 : y = 15
    · refine l_tabIn (y := 15) C c25 (off := 560) 592 dL_law_32 (by decide) (by decide) (by decide) (by decide) ?_
      exact law_c15 l N C hX hbl hL hi H.2.2.2.2.2.2.2.2.2.2.2.2.2.2.2.1 hR kf
    by_cases c26 : y = 16
    · refine l_tabIn (y := 16) C c26 (off := 593) 625 dL_law_32 (by decide) (by decide) (by decide) (by decide) ?_
      exact law_c16 l N C hX hbl hL hi H.2.2.2.2.2.2.2.2.2.2.2.2.2.2.2.2.1 hR kf
    by_cases c27 : y = 17
    · refine l_tabIn (y := 17) C c27 (off := 616) 648 dL_law_32 (by decide) (by decide) (by decide) (by decide) ?_
      exact law_c17 l N C hX hbl hL hi H.2.2.2.2.2.2.2.2.2.2.2.2.2.2.2.2.2.1 hR kf
    by_cases c28 : y = 18
    · refine l_tabIn (y := 18) C c28 (off := 639) 671 dL_law_32 (by decide) (by decide) (by decide) (by decide) ?_
      exact law_c18 l N C hX hbl hL hi H.2.2.2.2.2.2.2.2.2.2.2.2.2.2.2.2.2.2.1 hR kf
    by_cases c29 : y = 19
    · refine l_tabIn (y := 19) C c29 (off := 683) 715 dL_law_32 (by decide) (by decide) (by decide) (by decide) ?_
      exact law_c19 l N C hX hbl hL hi H.2.2.2.2.2.2.2.2.2.2.2.2.2.2.2.2.2.2.2.1 hR kf
    by_cases c30 : y = 20
    · refine l_tabIn (y := 20) C c30 (off := 717) 749 dL_law_32 (by decide) (by decide) (by decide) (by decide) ?_
      exact law_c20 l N C hX hbl hL hi H.2.2.2.2.2.2.2.2.2.2.2.2.2.2.2.2.2.2.2.2.1 hR kf
    by_cases c31 : y = 21
    · refine l_tabIn (y := 21) C c31 (off := 750) 782 dL_law_32 (by decide) (by decide) (by decide) (by decide) ?_
      exact law_c21 l N C hX hbl hL hi H.2.2.2.2.2.2.2.2.2.2.2.2.2.2.2.2.2.2.2.2.2.1 hR kf
    by_cases c32 : y = 22
    · refine l_tabIn (y := 22) C c32 (off := 763) 795 dL_law_32 (by decide) (by decide) (by decide) (by decide) ?_
      exact law_c22 l N C hX hbl hL hi H.2.2.2.2.2.2.2.2.2.2.2.2.2.2.2.2.2.2.2.2.2.2.1 hR kf
    by_cases c33 : y = 23
    · refine l_tabIn (y := 23) C c33 (off := 806) 838 dL_law_32 (by decide) (by decide) (by decide) (by decide) ?_
      exact law_c23 l N C hX hbl hL hi H.2.2.2.2.2.2.2.2.2.2.2.2.2.2.2.2.2.2.2.2.2.2.2.1 hR kf
    by_cases c34 : y = 24
    · refine l_tabIn (y := 24) C c34 (off := 829) 861 dL_law_32 (by decide) (by decide) (by decide) (by decide) ?_
      exact law_c24 l N C hX hbl hL hi H.2.2.2.2.2.2.2.2.2.2.2.2.2.2.2.2.2.2.2.2.2.2.2.2.1 hR kf
    by_cases c35 : y = 25
    · refine l_tabIn (y := 25) C c35 (off := 862) 894 dL_law_32 (by decide) (by decide) (by decide) (by decide) ?_
      exact law_c25 l N C hX hbl hL hi H.2.2.2.2.2.2.2.2.2.2.2.2.2.2.2.2.2.2.2.2.2.2.2.2.2.1 hR kf
    by_cases c36 : y = 26
    · refine l_tabIn (y := 26) C c36 (off := 875) 907 dL_law_32 (by decide) (by decide) (by decide) (by decide) ?_
      exact law_c26 l N C hX hbl hL hi H.2.2.2.2.2.2.2.2.2.2.2.2.2.2.2.2.2.2.2.2.2.2.2.2.2.2.1 hR kf
    by_cases c37 : y = 27
    · refine l_tabIn (y := 27) C c37 (off := 888) 920 dL_law_32 (by decide) (by decide) (by decide) (by decide) ?_
      exact law_c27 l N C hX hbl hL hi H.2.2.2.2.2.2.2.2.2.2.2.2.2.2.2.2.2.2.2.2.2.2.2.2.2.2.2 hR kf
    refine l_tabOut C 943 dL_law_32 (by have z0 : y.toInt ≠ 0 := sw_ne c10; have z1 : y.toInt ≠ 1 := sw_ne c11; have z2 : y.toInt ≠ 2 := sw_ne c12; have z3 : y.toInt ≠ 3 := sw_ne c13; have z4 : y.toInt ≠ 4 := sw_ne c14; have z5 : y.toInt ≠ 5 := sw_ne c15; have z6 : y.toInt ≠ 6 := sw_ne c16; have z7 : y.toInt ≠ 7 := sw_ne c17; have z8 : y.toInt ≠ 8 := sw_ne c18; have z9 : y.toInt ≠ 9 := sw_ne c19; have z10 : y.toInt ≠ 10 := sw_ne c20; have z11 : y.toInt ≠ 11 := sw_ne c21; have z12 : y.toInt ≠ 12 := sw_ne c22; have z13 : y.toInt ≠ 13 := sw_ne c23; have z14 : y.toInt ≠ 14 := sw_ne c24; have z15 : y.toInt ≠ 15 := sw_ne c25; have z16 : y.toInt ≠ 16 := sw_ne c26; have z17 : y.toInt ≠ 17 := sw_ne c27; have z18 : y.toInt ≠ 18 := sw_ne c28; have z19 : y.toInt ≠ 19 := sw_ne c29; have z20 : y.toInt ≠ 20 := sw_ne c30; have z21 : y.toInt ≠ 21 := sw_ne c31; have z22 : y.toInt ≠ 22 := sw_ne c32; have z23 : y.toInt ≠ 23 := sw_ne c33; have z24 : y.toInt ≠ 24 := sw_ne c34; have z25 : y.toInt ≠ 25 := sw_ne c35; have z26 : y.toInt ≠ 26 := sw_ne c36; have z27 : y.toInt ≠ 27 := sw_ne c37; omega) (by decide) ?_
    exact kf u v hR

