-- bits, quotients, narrow numbers
theorem q_shl1 : ∀ k : Nat, k < 31 → q_shl 1 (k : Int) = ((2 ^ k : Nat) : Int) := by decide +kernel
theorem q_31 : ∀ k : Nat, k < 32 → ((Int32.ofInt (k : Int) &&& 31).toBitVec.smod 32).toNat = k := by decide +kernel
theorem q_nat_bv {s : Nat} : (Int32.ofInt (s : Int)).toBitVec = BitVec.ofNat 32 s := rfl
theorem q_shr_nat {s k : Nat} (hs : s < 2147483648) (hk : k < 32) : q_shr (s : Int) (k : Int) = ((s >>> k : Nat) : Int) := by
  have e : (Int32.ofInt (s : Int) >>> (Int32.ofInt (k : Int) &&& 31)).toBitVec = (BitVec.ofNat 32 s).sshiftRight k := by
    rw [Int32.toBitVec_shiftRight, BitVec.sshiftRight_eq', q_31 k hk, q_nat_bv]
  have m : (BitVec.ofNat 32 s).msb = false := by
    rw [BitVec.msb_eq_false_iff_two_mul_lt, BitVec.toNat_ofNat]
    omega
  rw [BitVec.sshiftRight_eq_of_msb_false m] at e
  have e2 : Int32.ofInt (s : Int) >>> (Int32.ofInt (k : Int) &&& 31) = Int32.ofInt ((s >>> k : Nat) : Int) := by
    apply Int32.toBitVec_inj.mp
    rw [e, q_nat_bv]
    apply BitVec.eq_of_toNat_eq
    rw [BitVec.toNat_ushiftRight, BitVec.toNat_ofNat, BitVec.toNat_ofNat]
    have h1 : s % 2 ^ 32 = s := by omega
    have h2 : s >>> k ≤ s := by rw [Nat.shiftRight_eq_div_pow]; exact Nat.div_le_self _ _
    have h3 : (s >>> k) % 2 ^ 32 = s >>> k := Nat.mod_eq_of_lt (by omega)
    rw [h1, h3]
  unfold q_shr
  rw [e2]
  refine q_ofInt32 (q_nat32 ?_)
  rw [Nat.shiftRight_eq_div_pow]
  exact Nat.lt_of_le_of_lt (Nat.div_le_self _ _) hs
/-- whether a number is in a set -/
theorem q_bit {s k : Nat} (hs : s < 2147483648) (hk : k < 32) : q_and (q_shr (s : Int) (k : Int)) 1 = if s.testBit k then 1 else 0 := by
  have h2 : s >>> k ≤ s := by rw [Nat.shiftRight_eq_div_pow]; exact Nat.div_le_self _ _
  rw [q_shr_nat hs hk, show (1 : Int) = ((1 : Nat) : Int) from rfl, q_and_nat (by omega) (by omega), Nat.testBit]
  rw [Nat.and_comm]
  have : 1 &&& s >>> k = 0 ∨ 1 &&& s >>> k = 1 := by
    rw [Nat.and_comm, Nat.and_one_is_mod]; omega
  rcases this with h | h <;> rw [h] <;> rfl
theorem q_bit0 {s k : Nat} (hs : s < 2147483648) (hk : k < 32) : q_and (q_shr (s : Int) (k : Int)) 1 = 0 ↔ s.testBit k = false := by
  rw [q_bit hs hk]
  cases s.testBit k <;> decide
theorem q_bit1 {s k : Nat} (hs : s < 2147483648) (hk : k < 32) : q_and (q_shr (s : Int) (k : Int)) 1 = 1 ↔ s.testBit k = true := by
  rw [q_bit hs hk]
  cases s.testBit k <;> decide
theorem q_pow31 {k : Nat} (hk : k < 31) : 2 ^ k < 2147483648 := Nat.pow_lt_pow_right (a := 2) (by decide) hk
theorem q_or1 {s k : Nat} (hs : s < 2147483648) (hk : k < 31) : q_or (s : Int) (q_shl 1 (k : Int)) = ((s ||| 2 ^ k : Nat) : Int) := by
  rw [q_shl1 k hk, q_or_nat hs (q_pow31 hk)]
theorem q_xor1 {s k : Nat} (hs : s < 2147483648) (hk : k < 31) : q_xor (s : Int) (q_shl 1 (k : Int)) = ((s ^^^ 2 ^ k : Nat) : Int) := by
  rw [q_shl1 k hk, q_xor_nat hs (q_pow31 hk)]
theorem q_or0 {s : Nat} (hs : s < 2147483648) : q_or (s : Int) 0 = (s : Int) := by
  rw [show (0 : Int) = ((0 : Nat) : Int) from rfl, q_or_nat hs (by decide), Nat.or_zero]
theorem q_in32_add {a b : Int} : q_in32 (q_add a b) := q_in32_t _
theorem q_div_eq {a b : Int} (ha : q_in32 a) (hb : q_in32 b) (h : 0 ≤ a) : q_div a b = a.tdiv b := by
  unfold q_div
  rw [Int32.toInt_div_of_ne_left, q_ofInt32 ha, q_ofInt32 hb]
  intro e
  have := congrArg Int32.toInt e
  rw [q_ofInt32 ha] at this
  have m : Int32.minValue.toInt = -2147483648 := by decide
  omega
theorem q_div_nn {a b : Int} (ha : q_in32 a) (hb : q_in32 b) (h : 0 ≤ a) : q_div a b = a / b := by
  rw [q_div_eq ha hb h, Int.tdiv_eq_ediv_of_nonneg h]
theorem q_rem_nn {a b : Int} (ha : q_in32 a) (hb : q_in32 b) (h : 0 ≤ a) (h2 : 0 < b) : q_rem a b = a % b := by
  have e := q_div_nn ha hb h
  unfold q_div at e
  have e2 : Int32.ofInt a / Int32.ofInt b = Int32.ofInt (a / b) := by
    rw [← e, Int32.ofInt_toInt]
  unfold q_rem
  rw [e2, ← Int32.ofInt_mul, ← Int32.ofInt_sub]
  have k1 := Int.emod_nonneg a (by omega : b ≠ 0)
  have k2 := Int.emod_lt_of_pos a h2
  have k3 : a - a / b * b = a % b := by
    have := Int.mul_ediv_add_emod a b
    rw [Int.mul_comm] at this
    omega
  rw [k3]
  unfold q_in32 at *
  exact q_ofInt32 ⟨by omega, by omega⟩
theorem q_ldiv_nn {a b : Int} (ha : q_in64 a) (hb : q_in64 b) (h : 0 ≤ a) : q_ldiv a b = a / b := by
  unfold q_ldiv
  rw [Int64.toInt_div_of_ne_left, q_ofInt64 ha, q_ofInt64 hb, Int.tdiv_eq_ediv_of_nonneg h]
  intro e
  have := congrArg Int64.toInt e
  rw [q_ofInt64 ha] at this
  have m : Int64.minValue.toInt = -9223372036854775808 := by decide
  omega
theorem q_lrem_nn {a b : Int} (ha : q_in64 a) (hb : q_in64 b) (h : 0 ≤ a) (h2 : 0 < b) : q_lrem a b = a % b := by
  have e := q_ldiv_nn ha hb h
  unfold q_ldiv at e
  have e2 : Int64.ofInt a / Int64.ofInt b = Int64.ofInt (a / b) := by
    rw [← e, Int64.ofInt_toInt]
  unfold q_lrem
  rw [e2, ← Int64.ofInt_mul, ← Int64.ofInt_sub]
  have k1 := Int.emod_nonneg a (by omega : b ≠ 0)
  have k2 := Int.emod_lt_of_pos a h2
  have k3 : a - a / b * b = a % b := by
    have := Int.mul_ediv_add_emod a b
    rw [Int.mul_comm] at this
    omega
  rw [k3]
  unfold q_in64 at *
  exact q_ofInt64 ⟨by omega, by omega⟩
theorem q_l2i_eq {a : Int} (h : q_in32 a) : q_l2i a = a := by
  unfold q_l2i
  have h2 : q_in64 a := by unfold q_in32 at h; unfold q_in64; omega
  have : (Int64.ofInt a).toInt32 = Int32.ofInt a := by
    apply Int32.toBitVec_inj.mp
    show (BitVec.ofInt 64 a).signExtend 32 = BitVec.ofInt 32 a
    rw [BitVec.signExtend_eq_setWidth_of_le _ (by decide)]
    apply BitVec.eq_of_toNat_eq
    simp only [BitVec.toNat_setWidth, BitVec.toNat_ofInt]
    omega
  rw [this]
  exact q_ofInt32 h
/-- how many bits are set, of the first n -/
def z_bc (s : Nat) : Nat → Nat
  | 0 => 0
  | n + 1 => z_bc s n + if s.testBit n then 1 else 0
theorem q_and_0 (a : Int) : q_and a 0 = 0 := by
  unfold q_and
  rw [show Int32.ofInt 0 = 0 from rfl, Int32.and_zero]
  rfl
theorem q_add0 {a : Int} (h : q_in32 a) : q_add a 0 = a := by
  rw [q_add_eq (by unfold q_in32 at h; omega)]
  omega
