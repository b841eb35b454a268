-- laws of the wrapped arithmetic
theorem q_add_eq {a b : Int} (h : -2147483648 ≤ a + b ∧ a + b < 2147483648) : q_add a b = a + b := by
  unfold q_add
  rw [← Int32.ofInt_add]
  exact q_ofInt32 h
theorem q_sub_eq {a b : Int} (h : -2147483648 ≤ a - b ∧ a - b < 2147483648) : q_sub a b = a - b := by
  unfold q_sub
  rw [← Int32.ofInt_sub]
  exact q_ofInt32 h
theorem q_mul_eq {a b : Int} (h : -2147483648 ≤ a * b ∧ a * b < 2147483648) : q_mul a b = a * b := by
  unfold q_mul
  rw [← Int32.ofInt_mul]
  exact q_ofInt32 h
theorem q_neg_eq {a : Int} (h : -2147483648 ≤ -a ∧ -a < 2147483648) : q_neg a = -a := by
  unfold q_neg
  rw [← Int32.ofInt_neg]
  exact q_ofInt32 h
theorem q_ladd_eq {a b : Int} (h : -9223372036854775808 ≤ a + b ∧ a + b < 9223372036854775808) : q_ladd a b = a + b := by
  unfold q_ladd
  rw [← Int64.ofInt_add]
  exact q_ofInt64 h
theorem q_lsub_eq {a b : Int} (h : -9223372036854775808 ≤ a - b ∧ a - b < 9223372036854775808) : q_lsub a b = a - b := by
  unfold q_lsub
  rw [← Int64.ofInt_sub]
  exact q_ofInt64 h
theorem q_lmul_eq {a b : Int} (h : -9223372036854775808 ≤ a * b ∧ a * b < 9223372036854775808) : q_lmul a b = a * b := by
  unfold q_lmul
  rw [← Int64.ofInt_mul]
  exact q_ofInt64 h
theorem q_lcmp_lt {a b : Int} : q_lcmp a b < 0 ↔ a < b := by
  unfold q_lcmp
  split <;> (try split) <;> omega
theorem q_lcmp_le {a b : Int} : q_lcmp a b ≤ 0 ↔ a ≤ b := by
  unfold q_lcmp
  split <;> (try split) <;> omega
theorem q_lcmp_gt {a b : Int} : 0 < q_lcmp a b ↔ b < a := by
  unfold q_lcmp
  split <;> (try split) <;> omega
theorem q_lcmp_ge {a b : Int} : 0 ≤ q_lcmp a b ↔ b ≤ a := by
  unfold q_lcmp
  split <;> (try split) <;> omega
theorem q_lcmp_eq {a b : Int} : q_lcmp a b = 0 ↔ a = b := by
  unfold q_lcmp
  split <;> (try split) <;> omega
/-- the bits of a number that isn't below 0 -/
theorem q_nat32 {n : Nat} (h : n < 2147483648) : q_in32 (n : Int) := by unfold q_in32; omega
theorem q_ofNat {n : Nat} : Int32.ofInt (n : Int) = Int32.ofNat n := rfl
theorem q_and_nat {a b : Nat} (ha : a < 2147483648) (hb : b < 2147483648) : q_and (a : Int) (b : Int) = ((a &&& b : Nat) : Int) := by
  have e : Int32.ofNat a &&& Int32.ofNat b = Int32.ofNat (a &&& b) := by
    apply Int32.toBitVec_inj.mp
    rw [Int32.toBitVec_and]
    show BitVec.ofNat 32 a &&& BitVec.ofNat 32 b = BitVec.ofNat 32 (a &&& b)
    rw [BitVec.ofNat_and]
  unfold q_and
  rw [q_ofNat, q_ofNat, e]
  exact q_ofInt32 (q_nat32 (Nat.lt_of_le_of_lt Nat.and_le_left ha))
theorem q_or_nat {a b : Nat} (ha : a < 2147483648) (hb : b < 2147483648) : q_or (a : Int) (b : Int) = ((a ||| b : Nat) : Int) := by
  have e : Int32.ofNat a ||| Int32.ofNat b = Int32.ofNat (a ||| b) := by
    apply Int32.toBitVec_inj.mp
    rw [Int32.toBitVec_or]
    show BitVec.ofNat 32 a ||| BitVec.ofNat 32 b = BitVec.ofNat 32 (a ||| b)
    rw [BitVec.ofNat_or]
  unfold q_or
  rw [q_ofNat, q_ofNat, e]
  exact q_ofInt32 (q_nat32 (Nat.or_lt_two_pow (n := 31) ha hb))
theorem q_xor_nat {a b : Nat} (ha : a < 2147483648) (hb : b < 2147483648) : q_xor (a : Int) (b : Int) = ((a ^^^ b : Nat) : Int) := by
  have e : Int32.ofNat a ^^^ Int32.ofNat b = Int32.ofNat (a ^^^ b) := by
    apply Int32.toBitVec_inj.mp
    rw [Int32.toBitVec_xor]
    show BitVec.ofNat 32 a ^^^ BitVec.ofNat 32 b = BitVec.ofNat 32 (a ^^^ b)
    rw [BitVec.ofNat_xor]
  unfold q_xor
  rw [q_ofNat, q_ofNat, e]
  exact q_ofInt32 (q_nat32 (Nat.xor_lt_two_pow (n := 31) ha hb))
