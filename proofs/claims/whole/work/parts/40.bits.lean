theorem nor_ (a b : Nat) : nI a ||| nI b = nI (a ||| b) := by
  apply Int32.toBitVec_inj.mp
  apply BitVec.eq_of_toNat_eq
  show (BitVec.ofNat 32 a ||| BitVec.ofNat 32 b).toNat = (BitVec.ofNat 32 (a ||| b)).toNat
  rw [BitVec.toNat_or, BitVec.toNat_ofNat, BitVec.toNat_ofNat, BitVec.toNat_ofNat]
  exact (Nat.or_mod_two_pow (a := a) (b := b) (n := 32)).symm
theorem nand_ (a b : Nat) : nI a &&& nI b = nI (a &&& b) := by
  apply Int32.toBitVec_inj.mp
  apply BitVec.eq_of_toNat_eq
  show (BitVec.ofNat 32 a &&& BitVec.ofNat 32 b).toNat = (BitVec.ofNat 32 (a &&& b)).toNat
  rw [BitVec.toNat_and, BitVec.toNat_ofNat, BitVec.toNat_ofNat, BitVec.toNat_ofNat]
  exact (Nat.and_mod_two_pow (a := a) (b := b) (n := 32)).symm
theorem nxor_ (a b : Nat) : nI a ^^^ nI b = nI (a ^^^ b) := by
  apply Int32.toBitVec_inj.mp
  apply BitVec.eq_of_toNat_eq
  show (BitVec.ofNat 32 a ^^^ BitVec.ofNat 32 b).toNat = (BitVec.ofNat 32 (a ^^^ b)).toNat
  rw [BitVec.toNat_xor, BitVec.toNat_ofNat, BitVec.toNat_ofNat, BitVec.toNat_ofNat]
  exact (Nat.xor_mod_two_pow (a := a) (b := b) (n := 32)).symm
/-- a stack of truths as bits, the newest lowest -/
def bn (b : Bool) : Nat := if b then 1 else 0
def en : List Bool → Nat
  | [] => 0
  | b :: r => bn b + 2 * en r
theorem en_lt : ∀ st : List Bool, en st < 2 ^ st.length
  | [] => by decide
  | b :: r => by
    have := en_lt r
    rw [List.length_cons, Nat.pow_succ, en]
    cases b <;> simp [bn] <;> omega
theorem tb0 (b : Bool) (R : Nat) : (bn b + 2 * R).testBit 0 = b := by
  cases b <;> simp [bn, Nat.testBit_zero] <;> omega
theorem tbs (b : Bool) (R i : Nat) : (bn b + 2 * R).testBit (i + 1) = R.testBit i := by
  rw [Nat.testBit_succ]
  congr 1
  cases b <;> simp [bn] <;> omega
theorem bxor (b : Bool) (R : Nat) : (bn b + 2 * R) ^^^ 1 = bn (!b) + 2 * R := by
  apply Nat.eq_of_testBit_eq
  intro i
  rw [Nat.testBit_xor]
  cases i with
  | zero => rw [tb0, tb0]; cases b <;> rfl
  | succ i =>
    have e : Nat.testBit 1 (i + 1) = false := (tbs true 0 i).trans (Nat.zero_testBit i)
    rw [tbs, tbs, e]
    cases R.testBit i <;> rfl
theorem bor (a b : Bool) (R : Nat) : (bn b + 2 * R) ||| bn a = bn (b || a) + 2 * R := by
  apply Nat.eq_of_testBit_eq
  intro i
  rw [Nat.testBit_or]
  cases i with
  | zero => rw [tb0, tb0, show bn a = bn a + 2 * 0 from rfl, tb0]
  | succ i => rw [tbs, tbs, show bn a = bn a + 2 * 0 from rfl, tbs, Nat.zero_testBit, Bool.or_false]
theorem bpush (b : Bool) (R : Nat) : (2 * R) ||| bn b = bn b + 2 * R := by
  have := bor b false R
  rw [show bn false = 0 from rfl, Nat.zero_add, Bool.false_or] at this
  exact this
theorem ones (i : Nat) : Nat.testBit 2147483647 i = decide (i < 31) := Nat.testBit_two_pow_sub_one 31 i
theorem band (a b : Bool) (R Q : Nat) (hR : R < 2 ^ 31) : (bn b + 2 * R) &&& ((bn a + 2 * Q) ||| 4294967294) = bn (b && a) + 2 * R := by
  apply Nat.eq_of_testBit_eq
  intro i
  rw [Nat.testBit_and, Nat.testBit_or, show (4294967294 : Nat) = bn false + 2 * 2147483647 from rfl]
  cases i with
  | zero => rw [tb0, tb0, tb0, tb0, Bool.or_false]
  | succ i =>
    rw [tbs, tbs, tbs, tbs, ones]
    by_cases hi : i < 31
    · rw [decide_eq_true hi, Bool.or_true, Bool.and_true]
    · have : R.testBit i = false := Nat.testBit_lt_two_pow (Nat.lt_of_lt_of_le hR (Nat.pow_le_pow_right (by omega) (by omega)))
      rw [this, Bool.false_and]
theorem b31 : ((1 : Int32) &&& 31) = 1 := by decide
theorem en_half (a : Bool) (R : Nat) (h : bn a + 2 * R < 2 ^ 31) : nI (bn a + 2 * R) >>> ((1 : Int32) &&& 31) = nI R := by
  rw [pk_shrN h _ 1 (by decide)]
  congr 1
  cases a <;> simp [bn] <;> omega
theorem en_low (a : Bool) (R : Nat) (h : bn a + 2 * R < 2 ^ 31) : nI (bn a + 2 * R) &&& 1 = nI (bn a) := by
  rw [pk_andN (by omega) 1 (by decide)]
  congr 1
  cases a <;> simp [bn] <;> omega
theorem en_not (b : Bool) (R : Nat) : nI (bn b + 2 * R) ^^^ 1 = nI (bn (!b) + 2 * R) := by
  rw [show (1 : Int32) = nI 1 from rfl, nxor_, bxor]
theorem en_or (a b : Bool) (R : Nat) (h : bn a + 2 * (bn b + 2 * R) < 2 ^ 31) : (nI (bn a + 2 * (bn b + 2 * R)) >>> ((1 : Int32) &&& 31)) ||| (nI (bn a + 2 * (bn b + 2 * R)) &&& 1) = nI (bn (b || a) + 2 * R) := by
  rw [en_half a _ h, en_low a _ h, nor_, bor]
theorem en_and (a b : Bool) (R : Nat) (h : bn a + 2 * (bn b + 2 * R) < 2 ^ 31) : (nI (bn a + 2 * (bn b + 2 * R)) >>> ((1 : Int32) &&& 31)) &&& (nI (bn a + 2 * (bn b + 2 * R)) ||| ((-2) : Int32)) = nI (bn (b && a) + 2 * R) := by
  rw [en_half a _ h, show ((-2) : Int32) = nI 4294967294 from by decide, nor_, nand_, band _ _ _ _ (by omega)]
theorem en_push (b : Bool) (R : Nat) (h : R < 2 ^ 30) : (nI R <<< ((1 : Int32) &&& 31)) ||| nI (bn b) = nI (bn b + 2 * R) := by
  rw [pk_shlN _ 1 (by decide) (by omega), Nat.mul_comm R, nor_, show (2 ^ 1 * R) = 2 * R from rfl, bpush]
