theorem q_lsK : Cond.laysStatic "OneFewer" "KIND_ABOVE" "[I" ∈ lw_tbl := tb_4 _ (List.mem_of_getElem? (i := 65) (by decide +kernel))
theorem q_lsZ : Cond.laysStatic "java/lang/String" "COMPACT_STRINGS" "Z" ∈ lw_tbl := tb_2 _ (List.mem_of_getElem? (i := 179) (by decide +kernel))
theorem q_lsQ : Cond.laysStatic "jdk/internal/util/Preconditions" "SIOOBE_FORMATTER" "Ljava/util/function/BiFunction;" ∈ lw_tbl := tb_2 _ (List.mem_of_getElem? (i := 195) (by decide +kernel))
theorem q_st0 : Cond.stringRef RX3 74 "shun " ∈ lw_tbl := tb_2 _ (List.mem_of_getElem? (i := 165) (by decide +kernel))
theorem q_st1 : Cond.stringRef RX3 89 "fewer " ∈ lw_tbl := tb_2 _ (List.mem_of_getElem? (i := 230) (by decide +kernel))
theorem q_st2 : Cond.stringRef RX3 84 "fine " ∈ lw_tbl := tb_2 _ (List.mem_of_getElem? (i := 239) (by decide +kernel))
theorem q_st3 : Cond.stringRef RX3 94 "law " ∈ lw_tbl := tb_3 _ (List.mem_of_getElem? (i := 4) (by decide +kernel))
theorem q_st4 : Cond.stringRef RX11 119 "shun " ∈ lw_tbl := tb_4 _ (List.mem_of_getElem? (i := 226) (by decide +kernel))
theorem q_st5 : Cond.stringRef RX11 93 "poknd" ∈ lw_tbl := tb_5 _ (List.mem_of_getElem? (i := 13) (by decide +kernel))
theorem q_st6 : Cond.stringRef RX11 99 "<=>" ∈ lw_tbl := tb_5 _ (List.mem_of_getElem? (i := 18) (by decide +kernel))
theorem q_st7 : Cond.stringRef RX11 111 "ine " ∈ lw_tbl := tb_5 _ (List.mem_of_getElem? (i := 27) (by decide +kernel))
theorem q_st8 : Cond.stringRef RX11 113 "ewer " ∈ lw_tbl := tb_5 _ (List.mem_of_getElem? (i := 28) (by decide +kernel))
theorem q_st9 : Cond.stringRef RX11 124 "law " ∈ lw_tbl := tb_5 _ (List.mem_of_getElem? (i := 33) (by decide +kernel))
def tmJ (i : Nat) : Term := match i with
  | 0 => .string RX3 74
  | 1 => .string RX3 84
  | 2 => .string RX3 89
  | 3 => .string RX3 94
  | 4 => .string RX11 93
  | 5 => .string RX11 99
  | 6 => .string RX11 111
  | _ => .string RX11 113
theorem sJ_ex : ∀ i, i < 8 → Cond.exactly (tmJ i) "java/lang/String" ∈ flatC (Cond.and given_1 narrow_1) := by decide +kernel
theorem sJ_co : ∀ i, i < 8 → Cond.eq (.field (tmJ i) "java/lang/String" "coder" "B") (.int 0) ∈ flatC (Cond.and given_1 narrow_1) := by decide +kernel
theorem sJ_ar : ∀ i, i < 8 → Cond.arrayOf (.field (tmJ i) "java/lang/String" "value" "[B") .byte ∈ flatC (Cond.and given_1 narrow_1) := by decide +kernel
theorem sJ_le : ∀ i, i < 8 → Cond.eq (.length (.field (tmJ i) "java/lang/String" "value" "[B")) (.int (Int32.ofNat (lenJ.getD i 0))) ∈ flatC (Cond.and given_1 narrow_1) := by decide +kernel
theorem sJ_el : ∀ i, i < 8 → ∀ j, j < lenJ.getD i 0 → Cond.eq (.elem (.field (tmJ i) "java/lang/String" "value" "[B") (.int (Int32.ofNat j))) (.int ((bytJ.getD i []).getD j 0)) ∈ flatC (Cond.and given_1 narrow_1) := by decide +kernel
theorem sJ_ne : ∀ i, i < 8 → ∀ j, j < 8 → i ≠ j → (Cond.not (Cond.eq (tmJ i) (tmJ j)) ∈ flatC (Cond.and given_1 narrow_1) ∨ Cond.not (Cond.eq (tmJ j) (tmJ i)) ∈ flatC (Cond.and given_1 narrow_1)) := by decide +kernel
theorem sJ_e1 : Cond.eq (.string RX3 74) (.string RX11 119) ∈ flatC (Cond.and given_1 narrow_1) := by decide +kernel
theorem sJ_e2 : Cond.eq (.string RX3 94) (.string RX11 124) ∈ flatC (Cond.and given_1 narrow_1) := by decide +kernel
theorem sJ_cs : Cond.eq (.static "java/lang/String" "COMPACT_STRINGS" "Z") (.int 1) ∈ flatC (Cond.and given_1 narrow_1) := by decide +kernel
theorem sJ_fo : Cond.isRef (.static "jdk/internal/util/Preconditions" "SIOOBE_FORMATTER" "Ljava/util/function/BiFunction;") ∈ flatC (Cond.and given_1 narrow_1) := by decide +kernel
theorem kJ_ar : Cond.arrayOf (.static "OneFewer" "KIND_ABOVE" "[I") .int ∈ flatC (Cond.and given_1 narrow_1) := by decide +kernel
theorem kJ_le : Cond.eq (.length (.static "OneFewer" "KIND_ABOVE" "[I")) (.int (Int32.ofNat 7)) ∈ flatC (Cond.and given_1 narrow_1) := by decide +kernel
theorem kJ_el : ∀ j, j < 7 → Cond.eq (.elem (.static "OneFewer" "KIND_ABOVE" "[I") (.int (Int32.ofNat j))) (.int (kab j)) ∈ flatC (Cond.and given_1 narrow_1) := by decide +kernel
/-- what holds everywhere holds at the law's entry -/
theorem ev_start {s : State} {b : Addr} (hts : ∀ w ∈ lw_tbl, w.before #[Value.ref b] s = true) (hgv : (Cond.and given_1 narrow_1).before #[Value.ref b] s = true) : ∃ ad : Nat → Nat, EV ad (fun a : Nat => s.heap.size ≤ a) s := by
  have hs := flat_of_before _ hgv
  have hA : ∀ a : Nat, a < s.heap.size → ¬ (fun a : Nat => s.heap.size ≤ a) a := fun a h => Nat.not_le.mpr h
  have hEW : EW s := fun w hw hg => gw_warm hg (warm_self s) (hts w hw)
  obtain ⟨tK, hK1, hK2⟩ := va_Tof (s := s) (args := #[Value.ref b]) (tm := .static "OneFewer" "KIND_ABOVE" "[I") (ty := .int) (N := 7) (f := fun j => .int (kab j)) (A := fun a : Nat => s.heap.size ≤ a) (by decide) (hs _ kJ_ar) (va_eqt (hs _ kJ_le)) (fun j hj => va_eqt (hs _ (kJ_el j hj))) hA
  obtain ⟨adK, adV, hS1, hS2⟩ := vk_Sof (s := s) (args := #[Value.ref b]) (N := 8) (tm := tmJ) (len := lenJ) (byt := bytJ) (A := fun a : Nat => s.heap.size ≤ a) (fun i hi => by have := lenJ_ok i hi; omega) (fun i hi => hs _ (sJ_ex i hi)) (fun i hi => hs _ (sJ_co i hi)) (fun i hi => hs _ (sJ_ar i hi)) (fun i hi => hs _ (sJ_le i hi)) (fun i hi j hj => hs _ (sJ_el i hi j hj)) (fun i j hi hj hij => (sJ_ne i hi j hj hij).elim (fun h => Or.inl (hs _ h)) (fun h => Or.inr (hs _ h))) hA
  have e119 : (Term.string RX11 119).eval #[Value.ref b] s none [] s = some (.ref (adK 0)) := by
    obtain ⟨y, h1, h2⟩ := Cond.eq_one (hs _ sJ_e1)
    rw [h2, ← h1]; exact hS2 0 (by decide)
  have e124 : (Term.string RX11 124).eval #[Value.ref b] s none [] s = some (.ref (adK 3)) := by
    obtain ⟨y, h1, h2⟩ := Cond.eq_one (hs _ sJ_e2)
    rw [h2, ← h1]; exact hS2 3 (by decide)
  refine ⟨fun k => if k = 0 then tK else if k < 30 then adK (k - 10) else adV (k - 30), hEW, ⟨?_, ?_⟩, ?_, ?_, ?_, ?_⟩
  · exact va_Zref (hts _ q_lsK) (hts _ q_1) hK1 hA
  · exact hK2
  · refine ⟨fun i hi => ?_, fun i j hi hj e => ?_⟩
    · obtain ⟨h1, h2, h3, h4⟩ := hS1.1 i hi
      have e1 : (if 10 + i = 0 then tK else if 10 + i < 30 then adK (10 + i - 10) else adV (10 + i - 30)) = adK i := by rw [if_neg (by omega), if_pos (by omega), Nat.add_sub_cancel_left]
      have e2 : (if 30 + i = 0 then tK else if 30 + i < 30 then adK (30 + i - 10) else adV (30 + i - 30)) = adV i := by rw [if_neg (by omega), if_neg (by omega), Nat.add_sub_cancel_left]
      simp only [e1, e2]
      exact ⟨h1, h2, h3, h4⟩
    · have e1 : ∀ i, i < 8 → (if 10 + i = 0 then tK else if 10 + i < 30 then adK (10 + i - 10) else adV (10 + i - 30)) = adK i := fun i hi => by rw [if_neg (by omega), if_pos (by omega), Nat.add_sub_cancel_left]
      simp only [e1 i hi, e1 j hj] at e
      exact hS1.2 i j hi hj e
  · intro x hx
    simp only [siJ, List.mem_cons, List.not_mem_nil, or_false] at hx
    rcases hx with rfl | rfl | rfl | rfl | rfl | rfl | rfl | rfl | rfl | rfl
    · exact vk_R.of (A := #[Value.ref b]) (hts _ q_st0) (hS2 0 (by decide))
    · exact vk_R.of (A := #[Value.ref b]) (hts _ q_st1) (hS2 2 (by decide))
    · exact vk_R.of (A := #[Value.ref b]) (hts _ q_st2) (hS2 1 (by decide))
    · exact vk_R.of (A := #[Value.ref b]) (hts _ q_st3) (hS2 3 (by decide))
    · exact vk_R.of (A := #[Value.ref b]) (hts _ q_st4) e119
    · exact vk_R.of (A := #[Value.ref b]) (hts _ q_st5) (hS2 4 (by decide))
    · exact vk_R.of (A := #[Value.ref b]) (hts _ q_st6) (hS2 5 (by decide))
    · exact vk_R.of (A := #[Value.ref b]) (hts _ q_st7) (hS2 6 (by decide))
    · exact vk_R.of (A := #[Value.ref b]) (hts _ q_st8) (hS2 7 (by decide))
    · exact vk_R.of (A := #[Value.ref b]) (hts _ q_st9) e124
  · exact va_Zof (hts _ q_lsZ) (hts _ q_15) (va_eqt (hs _ sJ_cs)) hA
  · exact va_Zqof (hts _ q_lsQ) (hts _ q_17) (hs _ sJ_fo) hA
theorem k_start {s : State} {b : Addr} (hts : ∀ w ∈ lw_tbl, w.before #[Value.ref b] s = true) : ∃ (D : va_G) (cI cZ : ClassId), va_K D vwCl [(cI, .int), (cZ, .boolean)] s := by
  have hEW : EW s := fun w hw hg => gw_warm hg (warm_self s) (hts w hw)
  obtain ⟨c0, i0, h0⟩ := u_known (args := #[Value.ref b]) (C := RX0) (T := TX0) (N := 5) (n := 5) (ly_X0 hEW) (fun _ h => h) (hts _ q_209)
  obtain ⟨c1, i1, h1⟩ := u_known (args := #[Value.ref b]) (C := RX1) (T := TX1) (N := 9) (n := 9) (ly_X1 hEW) (fun _ h => h) (hts _ q_28)
  obtain ⟨c2, i2, h2⟩ := u_known (args := #[Value.ref b]) (C := RX2) (T := TX2) (N := 6) (n := 6) (ly_X2 hEW) (fun _ h => h) (hts _ q_80)
  obtain ⟨c3, i3, h3⟩ := u_known (args := #[Value.ref b]) (C := RX3) (T := TX3) (N := 5) (n := 5) (ly_X3 hEW) (fun _ h => h) (hts _ q_192)
  obtain ⟨c4, i4, h4⟩ := u_known (args := #[Value.ref b]) (C := RX4) (T := TX4) (N := 3) (n := 3) (ly_X4 hEW) (fun _ h => h) (hts _ q_129)
  obtain ⟨c5, i5, h5⟩ := u_known (args := #[Value.ref b]) (C := RX5) (T := TX5) (N := 7) (n := 7) (ly_X5 hEW) (fun _ h => h) (hts _ q_40)
  obtain ⟨c6, i6, h6⟩ := u_known (args := #[Value.ref b]) (C := RX6) (T := TX6) (N := 2) (n := 2) (ly_X6 hEW) (fun _ h => h) (hts _ q_46)
  obtain ⟨c7, i7, h7⟩ := u_known (args := #[Value.ref b]) (C := RX7) (T := TX7) (N := 2) (n := 2) (ly_X7 hEW) (fun _ h => h) (hts _ q_34)
  obtain ⟨c8, i8, h8⟩ := u_known (args := #[Value.ref b]) (C := RX8) (T := TX8) (N := 11) (n := 11) (ly_X8 hEW) (fun _ h => h) (hts _ q_57)
  obtain ⟨c9, i9, h9⟩ := u_known (args := #[Value.ref b]) (C := RX9) (T := TX9) (N := 6) (n := 6) (ly_X9 hEW) (fun _ h => h) (hts _ q_102)
  obtain ⟨c10, i10, h10⟩ := u_known (args := #[Value.ref b]) (C := RX10) (T := TX10) (N := 7) (n := 7) (ly_X10 hEW) (fun _ h => h) (hts _ q_21)
  obtain ⟨c11, i11, h11⟩ := u_known (args := #[Value.ref b]) (C := RX11) (T := TX11) (N := 27) (n := 27) (ly_X11 hEW) (fun _ h => h) (hts _ q_631)
  obtain ⟨cI, kI, pI, e1, e2, e3⟩ := Cond.arrayClass_spec (hts _ q_55)
  obtain ⟨cZ, kZ, pZ, f1, f2, f3⟩ := Cond.arrayClass_spec (hts _ q_662)
  refine ⟨(fun k => [c0, c1, c2, c3, c4, c5, c6, c7, c8, c9, c10, c11].getD k 0, fun k => [i0, i1, i2, i3, i4, i5, i6, i7, i8, i9, i10, i11].getD k (fun _ => 0)), cI, cZ, fun k q hq => ?_, fun k q hq => ?_⟩
  · match k, hq with
    | 0, hq => cases hq; exact h0
    | 1, hq => cases hq; exact h1
    | 2, hq => cases hq; exact h2
    | 3, hq => cases hq; exact h3
    | 4, hq => cases hq; exact h4
    | 5, hq => cases hq; exact h5
    | 6, hq => cases hq; exact h6
    | 7, hq => cases hq; exact h7
    | 8, hq => cases hq; exact h8
    | 9, hq => cases hq; exact h9
    | 10, hq => cases hq; exact h10
    | 11, hq => cases hq; exact h11
    | k + 12, hq => simp [vwCl] at hq
  · match k, hq with
    | 0, hq => cases hq; exact ⟨fun n z => ⟨fun k h => (by cases h), kI, e2, pI, e3⟩, e1⟩
    | 1, hq => cases hq; exact ⟨fun n z => ⟨fun k h => (by cases h), kZ, f2, pZ, f3⟩, f1⟩
    | k + 2, hq => simp at hq
def uC0 : MM := fun k => match k with
  | 13 => fun j => if j = 0 then 1 else 0
  | 39 => fun j => if j = 0 then 1 else 0
  | 64 => fun j => if j = 0 then 1 else 0
  | 1 => fun j => if j = 2 then -1 else if j = 8 then -5 else 0
  | _ => fun _ => 0
def vM0 : MM := fun k => match k with
  | 0 => fun j => if j = 16 then -1 else if j = 17 then -1 else 0
  | 1 => upd (fun _ => 0) 23 (-1)
  | _ => fun _ => 0
def qC (h0 : Nat) (a : Nat → Nat) : Nat → Nat := fun k => [h0, (a 0), (a 1), (a 28), (a 69), (a 70), (a 58), (a 29), (a 30), (a 31), (a 2), (a 3), (a 4), (a 5), (a 6), (a 7), (a 8), (a 9), (a 10), (a 11), (a 12), (a 13), (a 14), (a 15), (a 16), (a 17), (a 18), (a 19), (a 20), (a 21), (a 22), (a 23), (a 24), (a 25), (a 26), (a 27), (a 32), (a 33), (a 34), (a 35), (a 36), (a 37), (a 38), (a 39), (a 40), (a 41), (a 42), (a 43), (a 44), (a 45), (a 46), (a 47), (a 48), (a 49), (a 50), (a 51), (a 52), (a 53), (a 54), (a 55), (a 56), (a 57), (a 59), (a 60), (a 61), (a 62), (a 63), (a 64), (a 65), (a 66), (a 67), (a 68)].getD k 0
def qM (h0 : Nat) (a : Nat → Nat) : Nat → Nat := fun k => [h0, (a 0), (a 1), (a 2), (a 3), (a 4), (a 5), (a 6), (a 7)].getD k 0
set_option maxRecDepth 100000 in
theorem made_C (cI cZ : ClassId) (h0 : Nat) (a : Nat → Nat) : [0, 1, 2, 29, 70, 71, 59, 30, 31, 32, 3, 4, 5, 6, 7, 8, 9, 10, 11, 12, 13, 14, 15, 16, 17, 18, 19, 20, 21, 22, 23, 24, 25, 26, 27, 28, 33, 34, 35, 36, 37, 38, 39, 40, 41, 42, 43, 44, 45, 46, 47, 48, 49, 50, 51, 52, 53, 54, 55, 56, 57, 58, 60, 61, 62, 63, 64, 65, 66, 67, 68, 69].filterMap (fun i => (mkX10 cI cZ h0 a)[i]?) = jw 72 (qC h0 a) (entC (qC h0 a) cI cZ) uC0 := rfl
set_option maxRecDepth 100000 in
theorem made2_C (cI cZ : ClassId) (h0 : Nat) (a : Nat → Nat) : [0, 1, 2, 29, 70, 71, 59, 30, 31, 32, 3, 4, 5, 6, 7, 8, 9, 10, 11, 12, 13, 14, 15, 16, 17, 18, 19, 20, 21, 22, 23, 24, 25, 26, 27, 28, 33, 34, 35, 36, 37, 38, 39, 40, 41, 42, 43, 44, 45, 46, 47, 48, 49, 50, 51, 52, 53, 54, 55, 56, 57, 58, 60, 61, 62, 63, 64, 65, 66, 67, 68, 69].map (fun i => (mkX10 cI cZ h0 a)[i]?) = (jw 72 (qC h0 a) (entC (qC h0 a) cI cZ) uC0).map some := rfl
theorem nd_C : va_nd [0, 1, 2, 29, 70, 71, 59, 30, 31, 32, 3, 4, 5, 6, 7, 8, 9, 10, 11, 12, 13, 14, 15, 16, 17, 18, 19, 20, 21, 22, 23, 24, 25, 26, 27, 28, 33, 34, 35, 36, 37, 38, 39, 40, 41, 42, 43, 44, 45, 46, 47, 48, 49, 50, 51, 52, 53, 54, 55, 56, 57, 58, 60, 61, 62, 63, 64, 65, 66, 67, 68, 69] = true := by decide +kernel
set_option maxRecDepth 100000 in
theorem made_M (cI cZ : ClassId) (h0 : Nat) (a : Nat → Nat) : [0, 1, 2, 3, 4, 5, 6, 7, 8].filterMap (fun i => (mkX11 cI cZ h0 a)[i]?) = jw 9 (qM h0 a) (entM (qM h0 a) cI cZ) vM0 := rfl
set_option maxRecDepth 100000 in
theorem made2_M (cI cZ : ClassId) (h0 : Nat) (a : Nat → Nat) : [0, 1, 2, 3, 4, 5, 6, 7, 8].map (fun i => (mkX11 cI cZ h0 a)[i]?) = (jw 9 (qM h0 a) (entM (qM h0 a) cI cZ) vM0).map some := rfl
theorem nd_M : va_nd [0, 1, 2, 3, 4, 5, 6, 7, 8] = true := by decide +kernel
