-- texts of the JDK: length, charAt, indexOf; trailing zeros
theorem k_coder {d : Nat} {M : q_Mem} {K : Int → q_Mem → Prop} {i : Nat} (hd : 0 < d) (hi : i < 22) (h : K 0 M) : q_kI yJ0_coder_7d493 mJ0_coder_7d493 d [qR (-(i : Int) - 1)] M K :=
  q_goI hd rfl (plainFor_of_name (by decide +kernel)) rfl (fun h => nomatch h) (Nat.le_of_ble_eq_true rfl) (fun d hd => bJ0_coder_7d493_0 i hi ⟨fun g => by omega, fun _ => ⟨Or.inl rfl, h⟩⟩)
theorem k_isLatin1 {d : Nat} {M : q_Mem} {K : Int → q_Mem → Prop} {i : Nat} (hd : 0 < d) (hi : i < 22) (h : K 1 M) : q_kI yJ0_isLatin1_aae02 mJ0_isLatin1_aae02 d [qR (-(i : Int) - 1)] M K :=
  q_goI hd rfl (plainFor_of_name (by decide +kernel)) rfl (fun h => nomatch h) (Nat.le_of_ble_eq_true rfl) (fun d hd => bJ0_isLatin1_aae02_0 i hi ⟨fun g => by omega, fun _ => ⟨fun g => absurd rfl g, fun _ => h⟩⟩)
theorem k_len {d : Nat} {M : q_Mem} {K : Int → q_Mem → Prop} {i : Nat} (hd : 1 < d) (hi : i < 22) (h : K ((q_sb i).length : Int) M) : q_kI yJ0_length_8abf5 mJ0_length_8abf5 d [qR (-(i : Int) - 1)] M K :=
  q_goI hd rfl (plainFor_of_name (by decide +kernel)) rfl (fun h => nomatch h) (Nat.le_of_ble_eq_true rfl) (fun d hd => bJ0_length_8abf5_0 i hi (k_coder (by omega) hi (by
    have e := q_shr_nat (s := (q_sb i).length) (k := 0) (by have := q_sb_len i hi; omega) (by omega)
    rw [Nat.shiftRight_zero] at e
    rw [show (0 : Int) = ((0 : Nat) : Int) from rfl, e]
    exact h)))
theorem k_checkIndex3 {d : Nat} {M : q_Mem} {K : Int → q_Mem → Prop} {a b c : Int} (hd : 0 < d) (h0 : 0 ≤ a) (h1 : a < b) (h : K a M) : q_kI yJ3_checkIndex_8e157 mJ3_checkIndex_8e157 d [qI a, qI b, qR c] M K :=
  q_goI hd rfl (plainFor_of_name (by decide +kernel)) rfl (fun h => nomatch h) (Nat.le_of_ble_eq_true rfl) (fun d hd => bJ3_checkIndex_8e157_0 _ _ _ ⟨fun g => by omega, fun _ => ⟨fun _ => h, fun g => g h1⟩⟩)
theorem k_checkIndex {d : Nat} {M : q_Mem} {K : q_Mem → Prop} {a b : Int} (hd : 1 < d) (h0 : 0 ≤ a) (h1 : a < b) (h : K M) : q_kU yJ0_checkIndex_df160 mJ0_checkIndex_df160 d [qI a, qI b] M K :=
  q_goU hd rfl (plainFor_of_name (by decide +kernel)) rfl (fun h => nomatch h) (Nat.le_of_ble_eq_true rfl) (fun d hd => bJ0_checkIndex_df160_0 _ _ (fun _ => k_checkIndex3 (by omega) h0 h1 h))
theorem z_c128 : ∀ b : Nat, b < 128 → q_i2c (q_and (b : Int) 255) = (b : Int) := by decide +kernel
theorem z_c128' {b : Int} (h : 0 ≤ b ∧ b < 128) : q_i2c (q_and b 255) = b := by
  have := z_c128 b.toNat (by omega)
  rwa [show ((b.toNat : Nat) : Int) = b by omega] at this
theorem k_charAt1 {d : Nat} {M : q_Mem} {K : Int → q_Mem → Prop} {i : Nat} {j : Int} (hd : 2 < d) (hi : i < 22) (h0 : 0 ≤ j) (h1 : j < ((q_sb i).length : Int)) (h : K ((q_sb i).getD j.toNat 0) M) : q_kI yJ1_charAt_3b067 mJ1_charAt_3b067 d [qR (-(i : Int) - 101), qI j] M K :=
  q_goI hd rfl (plainFor_of_name (by decide +kernel)) rfl (fun h => nomatch h) (Nat.le_of_ble_eq_true rfl) (fun d hd => bJ1_charAt_3b067_0 _ i hi (k_checkIndex (by omega) h0 h1 (by
    have hb := q_sb_at hi j.toNat
    rw [z_c128' hb]
    exact ⟨⟨h0, h1⟩, by omega, h⟩)))
theorem k_charAt {d : Nat} {M : q_Mem} {K : Int → q_Mem → Prop} {i : Nat} {j : Int} (hd : 3 < d) (hi : i < 22) (h0 : 0 ≤ j) (h1 : j < ((q_sb i).length : Int)) (h : K ((q_sb i).getD j.toNat 0) M) : q_kI yJ0_charAt_5068e mJ0_charAt_5068e d [qR (-(i : Int) - 1), qI j] M K :=
  q_goI hd rfl (plainFor_of_name (by decide +kernel)) rfl (fun h => nomatch h) (Nat.le_of_ble_eq_true rfl) (fun d hd => bJ0_charAt_5068e_0 _ i hi (k_isLatin1 (by omega) hi ⟨fun g => by omega, fun _ => k_charAt1 (by omega) hi h0 h1 (by
    have hb := q_sb_at hi j.toNat
    exact ⟨by omega, h⟩)⟩))
theorem k_canEncode {d : Nat} {M : q_Mem} {K : Int → q_Mem → Prop} {a : Int} (hd : 0 < d) (h0 : 0 ≤ a ∧ a < 256) (h : K 1 M) : q_kI yJ1_canEncode_9a6ad mJ1_canEncode_9a6ad d [qI a] M K :=
  q_goI hd rfl (plainFor_of_name (by decide +kernel)) rfl (fun h => nomatch h) (Nat.le_of_ble_eq_true rfl) (fun d hd => bJ1_canEncode_9a6ad_0 _ ⟨fun g => by omega, fun _ => ⟨fun g => by omega, fun _ => h⟩⟩)
theorem l_indexOf {d : Nat} {M : q_Mem} {K : Int → q_Mem → Prop} {i : Nat} (hi : i < 22) {x : Int} (h : ∀ v : Int, (0 ≤ v ↔ ∃ j : Nat, j < (q_sb i).length ∧ (q_sb i).getD j 0 = x) → K v M) : ∀ (j k : Nat), k + j = (q_sb i).length → (∀ j : Nat, j < k → (q_sb i).getD j 0 ≠ x) → q_v mJ1_indexOfChar_4cfef d (qPI K) M 7 [some (qR (-(i : Int) - 101)), none, none, some (qI ((q_sb i).length : Int)), some (qI x), some (qI (k : Int))] [] := by
  have hl := q_sb_len i hi
  intro j
  induction j with
  | zero =>
    intro k e hn
    refine bJ1_indexOfChar_4cfef_7 _ _ _ i hi ⟨fun _ => h _ ⟨fun g => by omega, fun ⟨j, h1, h2⟩ => absurd h2 (hn j (by omega))⟩, fun g => absurd (by omega) g⟩
  | succ j ih =>
    intro k e hn
    refine bJ1_indexOfChar_4cfef_7 _ _ _ i hi ⟨fun g => by omega, fun _ => ⟨by omega, fun g => ?_, fun g => h _ ⟨fun _ => ⟨k, by omega, g⟩, fun _ => by omega⟩⟩⟩
    rw [q_add_eq (by omega)]
    refine ih (k + 1) (by omega) (fun j hj => ?_)
    by_cases hjk : j = k
    · subst hjk; exact g
    · exact hn j (by omega)
theorem z_b128 : ∀ b : Nat, b < 256 → ∀ c : Nat, c < 128 → ((c : Int) = q_i2b (b : Int) ↔ c = b) := by
  have h1 : ∀ b : Nat, b < 128 → q_i2b (b : Int) = b := by decide +kernel
  have h2 : ∀ b : Nat, b < 128 → q_i2b ((b + 128 : Nat) : Int) < 0 := by decide +kernel
  intro b hb c hc
  by_cases h : b < 128
  · rw [h1 b h]; omega
  · have := h2 (b - 128) (by omega)
    rw [show b - 128 + 128 = b by omega] at this
    omega
theorem k_indexOfChar {d : Nat} {M : q_Mem} {K : Int → q_Mem → Prop} {i b : Nat} (hd : 0 < d) (hi : i < 22) (hb : b < 256) (h : ∀ v : Int, (0 ≤ v ↔ ∃ j : Nat, j < (q_sb i).length ∧ (q_sb i).getD j 0 = (b : Int)) → K v M) : q_kI yJ1_indexOfChar_4cfef mJ1_indexOfChar_4cfef d [qR (-(i : Int) - 101), qI (b : Int), qI 0, qI ((q_sb i).length : Int)] M K :=
  q_goI hd rfl (plainFor_of_name (by decide +kernel)) rfl (fun h => nomatch h) (Nat.le_of_ble_eq_true rfl) (fun d hd => bJ1_indexOfChar_4cfef_0 _ _ _ i hi (fun x e => l_indexOf hi (by
    intro v hv
    refine h v (hv.trans ⟨fun ⟨j, h1, h2⟩ => ⟨j, h1, ?_⟩, fun ⟨j, h1, h2⟩ => ⟨j, h1, ?_⟩⟩)
    · have hr := q_sb_at hi j
      have := (z_b128 b hb ((q_sb i).getD j 0).toNat (by omega))
      rw [← e] at this
      omega
    · have hr := q_sb_at hi j
      have := (z_b128 b hb ((q_sb i).getD j 0).toNat (by omega))
      rw [← e] at this
      omega) (q_sb i).length 0 (by omega) (fun j hj => by omega)))
theorem k_indexOf1 {d : Nat} {M : q_Mem} {K : Int → q_Mem → Prop} {i b : Nat} (hd : 1 < d) (hi : i < 22) (hb : b < 256) (h : ∀ v : Int, (0 ≤ v ↔ ∃ j : Nat, j < (q_sb i).length ∧ (q_sb i).getD j 0 = (b : Int)) → K v M) : q_kI yJ1_indexOf_4cfef mJ1_indexOf_4cfef d [qR (-(i : Int) - 101), qI (b : Int), qI 0, qI ((q_sb i).length : Int)] M K :=
  q_goI hd rfl (plainFor_of_name (by decide +kernel)) rfl (fun h => nomatch h) (Nat.le_of_ble_eq_true rfl) (fun d hd => bJ1_indexOf_4cfef_0 _ _ _ i hi (k_canEncode (by omega) (by omega) ⟨fun _ => k_max (by omega) (k_min (by omega) (by
    rw [Int.max_self, Int.min_self]
    exact ⟨fun _ => k_indexOfChar (by omega) hi hb h, fun g => h _ ⟨fun g => by omega, fun ⟨j, h1, _⟩ => by omega⟩⟩)), fun g => by omega⟩))
theorem k_indexOf2 {d : Nat} {M : q_Mem} {K : Int → q_Mem → Prop} {i b : Nat} (hd : 2 < d) (hi : i < 22) (hb : b < 256) (h : ∀ v : Int, (0 ≤ v ↔ ∃ j : Nat, j < (q_sb i).length ∧ (q_sb i).getD j 0 = (b : Int)) → K v M) : q_kI yJ0_indexOf_7cf53 mJ0_indexOf_7cf53 d [qR (-(i : Int) - 1), qI (b : Int), qI 0] M K :=
  q_goI hd rfl (plainFor_of_name (by decide +kernel)) rfl (fun h => nomatch h) (Nat.le_of_ble_eq_true rfl) (fun d hd => bJ0_indexOf_7cf53_0 _ _ i hi (k_isLatin1 (by omega) hi ⟨fun g => by omega, fun _ => k_len (by omega) hi (k_indexOf1 (by omega) hi hb h)⟩))
theorem k_indexOf {d : Nat} {M : q_Mem} {K : Int → q_Mem → Prop} {i b : Nat} (hd : 3 < d) (hi : i < 22) (hb : b < 256) (h : ∀ v : Int, (0 ≤ v ↔ ∃ j : Nat, j < (q_sb i).length ∧ (q_sb i).getD j 0 = (b : Int)) → K v M) : q_kI yJ0_indexOf_0f7a4 mJ0_indexOf_0f7a4 d [qR (-(i : Int) - 1), qI (b : Int)] M K :=
  q_goI hd rfl (plainFor_of_name (by decide +kernel)) rfl (fun h => nomatch h) (Nat.le_of_ble_eq_true rfl) (fun d hd => bJ0_indexOf_0f7a4_0 _ i hi (k_indexOf2 (by omega) hi hb h))
/-- the lowest of a set: t is in it, none below -/
def z_low (s t : Nat) : Prop := s.testBit t = true ∧ ∀ j, j < t → s.testBit j = false
theorem z_low_ex {s n : Nat} (h0 : 0 < s) (h : s < 2 ^ n) : ∃ t, t < n ∧ z_low s t := by
  induction n generalizing s with
  | zero => simp at h; omega
  | succ n ih =>
    by_cases hb : s.testBit 0 = true
    · exact ⟨0, by omega, hb, fun j hj => by omega⟩
    · have e : s = 2 * (s / 2) := by
        rw [Nat.testBit_zero] at hb
        have : s % 2 ≠ 1 := by simpa using hb
        omega
      obtain ⟨t, ht, h1, h2⟩ := ih (s := s / 2) (by omega) (by rw [Nat.pow_succ] at h; omega)
      refine ⟨t + 1, by omega, by rw [Nat.testBit_succ]; exact h1, fun j hj => ?_⟩
      match j with
      | 0 => simpa using hb
      | j + 1 => rw [Nat.testBit_succ]; exact h2 j (by omega)
theorem z_low_form {s t : Nat} (h : z_low s t) : s = 2 ^ (t + 1) * (s / 2 ^ (t + 1)) + 2 ^ t := by
  have key : s % 2 ^ (t + 1) = 2 ^ t := by
    apply Nat.eq_of_testBit_eq
    intro j
    rw [Nat.testBit_mod_two_pow, Nat.testBit_two_pow]
    by_cases h1 : j = t
    · subst h1; simp [h.1]
    · by_cases h2 : j < t
      · simp [h.2 j h2, show ¬ t = j by omega]
      · simp [show ¬ j < t + 1 by omega, show ¬ t = j by omega]
  have := Nat.div_add_mod s (2 ^ (t + 1))
  omega
theorem z_tz_bits {s t : Nat} (h : z_low s t) (hs : s < 65536) : q_and (q_xor (s : Int) (-1)) (q_sub (s : Int) 1) = ((2 ^ t - 1 : Nat) : Int) := by
  have ht : t < 16 := by
    apply Classical.byContradiction
    intro g
    have : s.testBit t = false := Nat.testBit_lt_two_pow (Nat.lt_of_lt_of_le hs (by show 2 ^ 16 ≤ 2 ^ t; exact Nat.pow_le_pow_right (by decide) (by omega)))
    rw [h.1] at this
    cases this
  have form := z_low_form h
  have pos : 0 < 2 ^ t := Nat.two_pow_pos t
  have p16 : 2 ^ t < 65536 := by show 2 ^ t < 2 ^ 16; exact Nat.pow_lt_pow_right (by decide) ht
  have e1 : (s : Int) - 1 = ((s - 1 : Nat) : Int) := by omega
  rw [q_sub_eq (by omega), e1]
  have e2 : Int32.ofInt (-1) = Int32.ofNat 4294967295 := by decide
  have e3 : q_and (q_xor (s : Int) (-1)) ((s - 1 : Nat) : Int) = ((Int32.ofNat (s ^^^ 4294967295) &&& Int32.ofNat (s - 1))).toInt := by
    unfold q_and q_xor
    rw [Int32.ofInt_toInt, e2, q_ofNat, q_ofNat]
    congr 2
    apply Int32.toBitVec_inj.mp
    rw [Int32.toBitVec_xor]
    show BitVec.ofNat 32 s ^^^ BitVec.ofNat 32 4294967295 = BitVec.ofNat 32 (s ^^^ 4294967295)
    rw [BitVec.ofNat_xor]
  rw [e3]
  have e4 : Int32.ofNat (s ^^^ 4294967295) &&& Int32.ofNat (s - 1) = Int32.ofNat (2 ^ t - 1) := by
    apply Int32.toBitVec_inj.mp
    rw [Int32.toBitVec_and]
    show BitVec.ofNat 32 (s ^^^ 4294967295) &&& BitVec.ofNat 32 (s - 1) = BitVec.ofNat 32 (2 ^ t - 1)
    rw [← BitVec.ofNat_and]
    congr 1
    apply Nat.eq_of_testBit_eq
    intro j
    rw [Nat.testBit_and, Nat.testBit_xor, Nat.testBit_two_pow_sub_one, show (4294967295 : Nat) = 2 ^ 32 - 1 from rfl, Nat.testBit_two_pow_sub_one]
    have f1 : (s - 1).testBit j = if j < t + 1 then (2 ^ t - 1).testBit j else (s / 2 ^ (t + 1)).testBit (j - (t + 1)) := by
      rw [← Nat.testBit_two_pow_mul_add _ (by rw [Nat.pow_succ]; omega)]
      congr 1
      omega
    have f2 : s.testBit j = if j < t + 1 then (2 ^ t).testBit j else (s / 2 ^ (t + 1)).testBit (j - (t + 1)) := by
      rw [← Nat.testBit_two_pow_mul_add _ (by rw [Nat.pow_succ]; omega)]
      congr 1
    rw [f1, f2]
    by_cases h1 : j < t
    · simp [show j < t + 1 by omega, show j < 32 by omega, h1, Nat.testBit_two_pow, show ¬ t = j by omega]
    · by_cases h2 : j = t
      · subst h2
        simp
      · simp only [show ¬ j < t + 1 by omega, h1, if_false, decide_false]
        by_cases h3 : j < 32
        · simp only [h3, decide_true]
          cases (s / 2 ^ (t + 1)).testBit (j - (t + 1)) <;> rfl
        · have : (s / 2 ^ (t + 1)).testBit (j - (t + 1)) = false := by
            apply Nat.testBit_lt_two_pow
            have q1 : s / 2 ^ (t + 1) < 65536 := Nat.lt_of_le_of_lt (Nat.div_le_self _ _) hs
            exact Nat.lt_of_lt_of_le q1 (by show 2 ^ 16 ≤ 2 ^ (j - (t + 1)); exact Nat.pow_le_pow_right (by decide) (by omega))
          rw [this]
          simp
  rw [e4]
  exact q_ofInt32 (q_nat32 (by omega))
def z_tz4 (x n : Int) : Int := if x ≤ 4 then q_add n (q_ushr x 1) else q_add (q_add n 2) (q_ushr (q_ushr x 2) 1)
def z_tz3 (x n : Int) : Int := if x ≤ 16 then z_tz4 x n else z_tz4 (q_ushr x 4) (q_add n 4)
def z_tz2 (x n : Int) : Int := if x ≤ 256 then z_tz3 x n else z_tz3 (q_ushr x 8) (q_add n 8)
def z_tz1 (x : Int) : Int := if 0 < x then (if x ≤ 65536 then z_tz2 x 1 else z_tz2 (q_ushr x 16) (q_add 1 16)) else q_and x 32
theorem z_tz_16 : ∀ t : Nat, t < 16 → z_tz1 ((2 ^ t - 1 : Nat) : Int) = (t : Int) := by decide +kernel
theorem l_tz4 {d : Nat} {M : q_Mem} {K : Int → q_Mem → Prop} {x n : Int} (h : K (z_tz4 x n) M) : q_v mJ6_numberOfTrailingZeros_0f7a4 d (qPI K) M 62 [some (qI x), some (qI n)] [] := by
  unfold z_tz4 at h
  exact bJ6_numberOfTrailingZeros_0f7a4_62 _ _ ⟨fun g => by rw [if_pos g] at h; exact h, fun g y e => by rw [if_neg g] at h; subst e; exact h⟩
theorem l_tz3 {d : Nat} {M : q_Mem} {K : Int → q_Mem → Prop} {x n : Int} (h : K (z_tz3 x n) M) : q_v mJ6_numberOfTrailingZeros_0f7a4 d (qPI K) M 49 [some (qI x), some (qI n)] [] := by
  unfold z_tz3 at h
  exact bJ6_numberOfTrailingZeros_0f7a4_49 _ _ ⟨fun g => by rw [if_pos g] at h; exact l_tz4 h, fun g y e => by rw [if_neg g] at h; subst e; exact l_tz4 h⟩
theorem l_tz2 {d : Nat} {M : q_Mem} {K : Int → q_Mem → Prop} {x n : Int} (h : K (z_tz2 x n) M) : q_v mJ6_numberOfTrailingZeros_0f7a4 d (qPI K) M 34 [some (qI x), some (qI n)] [] := by
  unfold z_tz2 at h
  exact bJ6_numberOfTrailingZeros_0f7a4_34 _ _ ⟨fun g => by rw [if_pos g] at h; exact l_tz3 h, fun g y e => by rw [if_neg g] at h; subst e; exact l_tz3 h⟩
theorem k_tz {d : Nat} {M : q_Mem} {K : Int → q_Mem → Prop} {s t : Nat} (hd : 0 < d) (hs : s < 65536) (ht : z_low s t) (ht2 : t < 16) (h : K (t : Int) M) : q_kI yJ6_numberOfTrailingZeros_0f7a4 mJ6_numberOfTrailingZeros_0f7a4 d [qI (s : Int)] M K := by
  rw [← z_tz_16 t ht2, ← z_tz_bits ht hs] at h
  refine q_goI hd rfl (plainFor_of_name (by decide +kernel)) rfl (fun h => nomatch h) (Nat.le_of_ble_eq_true rfl) (fun d hd => bJ6_numberOfTrailingZeros_0f7a4_0 _ ?_)
  intro x e
  rw [← e] at h
  unfold z_tz1 at h
  exact ⟨fun g => ⟨fun g1 => by rw [if_pos g, if_pos g1] at h; exact l_tz2 h, fun g1 y e => by rw [if_pos g, if_neg g1] at h; subst e; exact l_tz2 h⟩, fun g => by rw [if_neg g] at h; exact h⟩
