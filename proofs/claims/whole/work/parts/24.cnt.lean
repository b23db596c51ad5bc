def c1x (x : Int32) : Int32 := ((((((((0 : Int32) + ((x >>> ((0 : Int32) &&& 31)) &&& 1)) + ((x >>> (((0 : Int32) + 1) &&& 31)) &&& 1)) + ((x >>> ((((0 : Int32) + 1) + 1) &&& 31)) &&& 1)) + ((x >>> (((((0 : Int32) + 1) + 1) + 1) &&& 31)) &&& 1)) + ((x >>> ((((((0 : Int32) + 1) + 1) + 1) + 1) &&& 31)) &&& 1)) + ((x >>> (((((((0 : Int32) + 1) + 1) + 1) + 1) + 1) &&& 31)) &&& 1)) + ((x >>> ((((((((0 : Int32) + 1) + 1) + 1) + 1) + 1) + 1) &&& 31)) &&& 1))
theorem c1x_val : ∀ h, h < 128 → c1x (nI h) = nI (pc h) := by decide +kernel
def bc1 (x : Int32) : Int32 := (x - (((x.toUInt32 >>> ((1 : Int32).toUInt32 &&& Int32.toUInt32 31)).toInt32) &&& 1431655765))
def bc2 (y1 : Int32) : Int32 := ((y1 &&& 858993459) + (((y1.toUInt32 >>> ((2 : Int32).toUInt32 &&& Int32.toUInt32 31)).toInt32) &&& 858993459))
def bc3 (y2 : Int32) : Int32 := ((y2 + ((y2.toUInt32 >>> ((4 : Int32).toUInt32 &&& Int32.toUInt32 31)).toInt32)) &&& 252645135)
def bc4 (y3 : Int32) : Int32 := (y3 + ((y3.toUInt32 >>> ((8 : Int32).toUInt32 &&& Int32.toUInt32 31)).toInt32))
def bc5 (y4 : Int32) : Int32 := (y4 + ((y4.toUInt32 >>> ((16 : Int32).toUInt32 &&& Int32.toUInt32 31)).toInt32))
theorem bcx_val : ∀ h, h < 128 → (bc5 (bc4 (bc3 (bc2 (bc1 (nI h))))) &&& 63) = nI (pc h) := by decide +kernel
theorem bc_val {N h : Nat} {K : Int32 → Prop} (hh : h < 128) (k : K (nI (pc h))) : wJ6_bitCount_0f7a4 N (nI h) K := by
  intro y1 e1 y2 e2 y3 e3 y4 e4 y5 e5
  have f : (y5 &&& 63) = nI (pc h) := by
    rw [← bcx_val h hh, e5, e4, e3, e2, e1]; rfl
  rw [f]; exact k
theorem count1_val {N h : Nat} {K : Int32 → Prop} (hN : 8 ≤ N) (hh : h < 128) (k : K (nI (pc h))) : wX11_count1 N (nI h) K := by
  obtain ⟨M, rfl⟩ : ∃ M, N = M + 8 := ⟨N - 8, by omega⟩
  show wX11_count1_b4 (M + 8) K (M + 8) (nI h) 0 0
  have k2 : K (c1x (nI h)) := by rw [c1x_val h hh]; exact k
  refine b_f (by decide) ?_
  intro a0 e0 b0 f0
  subst e0 f0
  refine b_f (by decide) ?_
  intro a1 e1 b1 f1
  subst e1 f1
  refine b_f (by decide) ?_
  intro a2 e2 b2 f2
  subst e2 f2
  refine b_f (by decide) ?_
  intro a3 e3 b3 f3
  subst e3 f3
  refine b_f (by decide) ?_
  intro a4 e4 b4 f4
  subst e4 f4
  refine b_f (by decide) ?_
  intro a5 e5 b5 f5
  subst e5 f5
  refine b_f (by decide) ?_
  intro a6 e6 b6 f6
  subst e6 f6
  exact b_t (by decide) k2
