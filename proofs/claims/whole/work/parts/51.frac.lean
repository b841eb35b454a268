-- fractions in lowest terms; lots
theorem q_div_t {a b : Int} (ha : q_in32 a) (hb : q_in32 b) (h : 0 < b) : q_div a b = a.tdiv b := by
  unfold q_div
  rw [Int32.toInt_div_of_ne_right, q_ofInt32 ha, q_ofInt32 hb]
  intro e
  have := congrArg Int32.toInt e
  rw [q_ofInt32 hb] at this
  have m : (-1 : Int32).toInt = -1 := by decide
  omega
theorem q_ldiv_t {a b : Int} (ha : q_in64 a) (hb : q_in64 b) (h : 0 < b) : q_ldiv a b = a.tdiv b := by
  unfold q_ldiv
  rw [Int64.toInt_div_of_ne_right, q_ofInt64 ha, q_ofInt64 hb]
  intro e
  have := congrArg Int64.toInt e
  rw [q_ofInt64 hb] at this
  have m : (-1 : Int64).toInt = -1 := by decide
  omega
def z_eu : Nat → Nat → Nat → Prop
  | 0, _, b => b = 0
  | c + 1, a, b => b = 0 ∨ z_eu c b (a % b)
theorem z_eu_ok : ∀ (k a b : Nat), b < 2 ^ k → z_eu (2 * k) a b
  | 0, a, b, h => by
    show b = 0
    have : 2 ^ 0 = 1 := rfl
    omega
  | k + 1, a, b, h => by
    show b = 0 ∨ z_eu (2 * k + 1) b (a % b)
    by_cases hb : b = 0
    · exact Or.inl hb
    · right
      show a % b = 0 ∨ z_eu (2 * k) (a % b) (b % (a % b))
      by_cases hr : a % b = 0
      · exact Or.inl hr
      · right
        refine z_eu_ok k _ _ ?_
        have h1 := Nat.mod_lt a (show 0 < b by omega)
        have h2 := Nat.mod_lt b (show 0 < a % b by omega)
        have h3 : b % (a % b) + (a % b) ≤ b := by
          have d := Nat.div_add_mod b (a % b)
          have : 1 ≤ b / (a % b) := Nat.div_pos (by omega) (by omega)
          have := Nat.mul_le_mul (Nat.le_refl (a % b)) this
          omega
        rw [Nat.pow_succ] at h
        omega
theorem z_gcd_step {a b : Nat} : Nat.gcd a b = Nat.gcd b (a % b) := by
  rw [Nat.gcd_comm a b, Nat.gcd_rec b a, Nat.gcd_comm]
theorem k_common : ∀ (c : Nat) {d : Nat} {M : q_Mem} {K : Int → q_Mem → Prop} {a b : Nat} (_ : c < d) (_ : a < 9223372036854775808) (_ : b < 9223372036854775808) (_ : z_eu c a b) (_ : K (Nat.gcd a b : Int) M), q_kL yX12_common mX12_common d [qL (a : Int), qL (b : Int)] M K
  | 0, d, M, K, a, b, hd, ha, hb, he, h => by
    have he : b = 0 := he
    subst he
    rw [Nat.gcd_zero_right] at h
    exact q_goL hd rfl (plainFor_of_name (by decide +kernel)) rfl (fun h => nomatch h) (Nat.le_of_ble_eq_true rfl) (fun d hd => bX12_common_0 _ _ ⟨fun g => absurd (by decide) g, fun _ => h⟩)
  | c + 1, d, M, K, a, b, hd, ha, hb, he, h => by
    refine q_goL (D := c + 1) hd rfl (plainFor_of_name (by decide +kernel)) rfl (fun h => nomatch h) (Nat.le_of_ble_eq_true rfl) (fun d hd => bX12_common_0 _ _ ?_)
    rw [q_lcmp_eq]
    refine ⟨fun g => ⟨g, ?_⟩, fun g => ?_⟩
    · have hb0 : 0 < b := by omega
      have ml := Nat.mod_lt a hb0
      rw [q_lrem_nn (by unfold q_in64; omega) (by unfold q_in64; omega) (by omega) (by omega), show (a : Int) % (b : Int) = ((a % b : Nat) : Int) by omega]
      rw [z_gcd_step] at h
      exact k_common c (by omega) hb (by omega) (he.resolve_left (by omega)) h
    · have e : b = 0 := by omega
      subst e
      rw [Nat.gcd_zero_right] at h
      exact h
theorem z_10n : ∀ n : Nat, n ≤ 4 → 10 ^ n ≤ 10000 ∧ 0 < 10 ^ n := by decide
theorem l_wholeOf {d : Nat} {M : q_Mem} {K : Int → q_Mem → Prop} {n : Nat} (hn : n ≤ 4) (h : K ((10 ^ n : Nat) : Int) M) : ∀ (j i : Nat), i + j = n → q_v mX12_wholeOf d (qPL K) M 4 [some (qI (n : Int)), some (qL ((10 ^ i : Nat) : Int)), none, some (qI (i : Int))] [] := by
  intro j
  induction j with
  | zero =>
    intro i e
    have : i = n := by omega
    subst this
    exact bX12_wholeOf_4 _ _ _ ⟨fun _ => h, fun g => absurd (by omega) g⟩
  | succ j ih =>
    intro i e
    have b := z_10n i (by omega)
    refine bX12_wholeOf_4 _ _ _ ⟨fun g => by omega, fun _ x ex => ?_⟩
    rw [ex, q_lmul_eq (by omega), q_add_eq (by omega)]
    have := ih (i + 1) (by omega)
    rw [Nat.pow_succ] at this
    rw [show ((10 ^ i : Nat) : Int) * 10 = ((10 ^ i * 10 : Nat) : Int) by omega]
    exact this
theorem k_wholeOf {d : Nat} {M : q_Mem} {K : Int → q_Mem → Prop} {n : Nat} (hd : 0 < d) (hn : n ≤ 4) (h : K ((10 ^ n : Nat) : Int) M) : q_kL yX12_wholeOf mX12_wholeOf d [qI (n : Int)] M K :=
  q_goL hd rfl (plainFor_of_name (by decide +kernel)) rfl (fun h => nomatch h) (Nat.le_of_ble_eq_true rfl) (fun d hd => bX12_wholeOf_0 _ (l_wholeOf hn h n 0 (by omega)))
def z_frac (a : Int) (n : Nat) (what : Int) : Int := (if what = 0 then a else ((10 ^ n : Nat) : Int)).tdiv (Nat.gcd a.natAbs (10 ^ n) : Int)
theorem z_gcd_bd {a n : Nat} (hn : n ≤ 4) : 0 < Nat.gcd a (10 ^ n) ∧ Nat.gcd a (10 ^ n) ≤ 10000 := by
  have b := z_10n n hn
  have := Nat.le_of_dvd b.2 (Nat.gcd_dvd_right a (10 ^ n))
  exact ⟨Nat.gcd_pos_of_pos_right _ b.2, by omega⟩
theorem z_tdiv_bd {a g : Int} (ha : -100000000 ≤ a ∧ a ≤ 100000000) (hg : 0 < g) : -100000000 ≤ a.tdiv g ∧ a.tdiv g ≤ 100000000 := by
  have h1 : (a.tdiv g).natAbs ≤ a.natAbs := by
    rw [Int.natAbs_tdiv]
    exact Nat.div_le_self _ _
  omega
theorem k_part {d : Nat} {M : q_Mem} {K : Int → q_Mem → Prop} {a : Int} {n : Nat} {what : Int} (hd : 30 < d) (ha : -20000000 ≤ a ∧ a ≤ 20000000) (hn : n ≤ 4) (h : K (z_frac a n what) M) : q_kI yX12_part mX12_part d [qL a, qI (n : Int), qI what] M K := by
  have b := z_10n n hn
  have g := z_gcd_bd (a := a.natAbs) hn
  have last : ∀ {d : Nat} (y : Int), 30 ≤ d → y = (if what = 0 then a else ((10 ^ n : Nat) : Int)) → q_v mX12_part d (qPI K) M 12 [some (qL a), none, some (qI (n : Int)), none] [qL y] := by
    intro d y hd ey
    have yb : -20000000 ≤ y ∧ y ≤ 20000000 := by rw [ey]; split <;> omega
    have fin : q_v mX12_part d (qPI K) M 24 [none, none, some (qI (n : Int)), none] [qL (a.natAbs : Int), qL y] := by
      refine bX12_part_24 _ _ _ (k_wholeOf (by omega) hn (k_common 28 (by omega) (by omega) (by omega) (z_eu_ok 14 _ _ (Nat.lt_of_le_of_lt b.1 (by decide))) ⟨by omega, ?_⟩))
      have t := z_tdiv_bd (a := y) (g := (Nat.gcd a.natAbs (10 ^ n) : Int)) (by omega) (by omega)
      rw [q_ldiv_t (by unfold q_in64; omega) (by unfold q_in64; omega) (by omega), q_l2i_eq (by unfold q_in32; omega), ey]
      exact h
    refine bX12_part_12 _ _ _ ⟨fun g => ?_, fun g => ?_⟩
    · rw [q_lcmp_ge] at g
      rw [show (a.natAbs : Int) = a by omega] at fin
      exact fin
    · rw [q_lcmp_ge] at g
      have : q_lneg a = -a := by
        unfold q_lneg
        rw [← Int64.ofInt_neg]
        exact q_ofInt64 (by unfold q_in64; omega)
      rw [this]
      rw [show (a.natAbs : Int) = -a by omega] at fin
      exact fin
  refine q_goI hd rfl (plainFor_of_name (by decide +kernel)) rfl (fun h => nomatch h) (Nat.le_of_ble_eq_true rfl) (fun d hd => bX12_part_0 _ _ _ ⟨fun g => k_wholeOf (by omega) hn (last _ hd (by rw [if_neg g])), fun g => last _ hd (by rw [if_pos g])⟩)
/-- the class's -/
theorem l_allDraws {d : Nat} {M : q_Mem} {K : Int → q_Mem → Prop} {n : Nat} (hn : n ≤ 4) (h : K ((10 ^ n : Nat) : Int) M) : ∀ (j i : Nat), i + j = n → q_v mX11_allDraws d (qPI K) M 4 [some (qI (n : Int)), some (qI ((10 ^ i : Nat) : Int)), some (qI (i : Int))] [] := by
  intro j
  induction j with
  | zero =>
    intro i e
    have : i = n := by omega
    subst this
    exact bX11_allDraws_4 _ _ _ ⟨fun _ => h, fun g => absurd (by omega) g⟩
  | succ j ih =>
    intro i e
    have b := z_10n i (by omega)
    refine bX11_allDraws_4 _ _ _ ⟨fun g => by omega, fun _ x ex => ?_⟩
    rw [ex, q_mul_eq (by omega), q_add_eq (by omega)]
    have := ih (i + 1) (by omega)
    rw [Nat.pow_succ] at this
    rw [show ((10 ^ i : Nat) : Int) * 10 = ((10 ^ i * 10 : Nat) : Int) by omega]
    exact this
theorem k_allDraws {d : Nat} {M : q_Mem} {K : Int → q_Mem → Prop} {n : Nat} (hd : 0 < d) (hn : n ≤ 4) (h : K ((10 ^ n : Nat) : Int) M) : q_kI yX11_allDraws mX11_allDraws d [qI (n : Int)] M K :=
  q_goI hd rfl (plainFor_of_name (by decide +kernel)) rfl (fun h => nomatch h) (Nat.le_of_ble_eq_true rfl) (fun d hd => bX11_allDraws_0 _ (l_allDraws hn h n 0 (by omega)))
theorem l_low42 {d : Nat} {M : q_Mem} {K : Int → q_Mem → Prop} {a what : Int} {n : Nat} (hd : 1 ≤ d) (ha : -20000000 ≤ a ∧ a ≤ 20000000) (hn : n ≤ 4) (h : K (z_frac a n what) M) : q_v mX11_inLowestTerms d (qPI K) M 42 [some (qI a), some (qI ((10 ^ n : Nat) : Int)), some (qI what), some (qI (Nat.gcd a.natAbs (10 ^ n) : Int)), none, none, none] [] := by
  have b := z_10n n hn
  have g := z_gcd_bd (a := a.natAbs) hn
  refine bX11_inLowestTerms_42 _ _ _ _ (k_max (by omega) ?_)
  rw [Int.max_eq_left (by omega), q_div_t (by unfold q_in32; omega) (by unfold q_in32; omega) (by omega), q_div_t (by unfold q_in32; omega) (by unfold q_in32; omega) (by omega)]
  unfold z_frac at h
  exact ⟨fun g2 => ⟨by omega, by rw [if_neg g2] at h; exact h⟩, fun g2 => ⟨by omega, by rw [if_pos g2] at h; exact h⟩⟩
theorem l_low11 {d : Nat} {M : q_Mem} {K : Int → q_Mem → Prop} {a what : Int} {n : Nat} (hd : 1 ≤ d) (ha : -20000000 ≤ a ∧ a ≤ 20000000) (hn : n ≤ 4) (h : K (z_frac a n what) M) : ∀ (c i x y : Nat), i + c ≤ 63 → x < 2147483648 → y < 2147483648 → Nat.gcd x y = Nat.gcd a.natAbs (10 ^ n) → z_eu c x y → q_v mX11_inLowestTerms d (qPI K) M 11 [some (qI a), some (qI ((10 ^ n : Nat) : Int)), some (qI what), some (qI (x : Int)), some (qI (y : Int)), some (qI (i : Int)), none] [] := by
  intro c
  induction c with
  | zero =>
    intro i x y hi hx hy hg he
    have he : y = 0 := he
    subst he
    rw [Nat.gcd_zero_right] at hg
    subst hg
    exact bX11_inLowestTerms_11 _ _ _ _ _ _ ⟨fun g => by omega, fun _ => ⟨fun _ => l_low42 hd ha hn h, fun g => absurd (by decide) g⟩⟩
  | succ c ih =>
    intro i x y hi hx hy hg he
    refine bX11_inLowestTerms_11 _ _ _ _ _ _ ⟨fun g => by omega, fun _ => ⟨fun g => ?_, fun g => ⟨g, fun z ez => ?_⟩⟩⟩
    · have e : y = 0 := by omega
      subst e
      rw [Nat.gcd_zero_right] at hg
      subst hg
      exact l_low42 hd ha hn h
    · have hy0 : 0 < y := by omega
      have ml := Nat.mod_lt x hy0
      rw [q_rem_nn (by unfold q_in32; omega) (by unfold q_in32; omega) (by omega) (by omega), show (x : Int) % (y : Int) = ((x % y : Nat) : Int) by omega] at ez
      subst ez
      rw [q_add_eq (by omega), show (i : Int) + 1 = ((i + 1 : Nat) : Int) by omega]
      exact ih (i + 1) y (x % y) (by omega) hy (by omega) (by rw [← z_gcd_step]; exact hg) (he.resolve_left (by omega))
theorem k_lowest2 {d : Nat} {M : q_Mem} {K : Int → q_Mem → Prop} {a what : Int} {n : Nat} (hd : 1 < d) (ha : -20000000 ≤ a ∧ a ≤ 20000000) (hn : n ≤ 4) (h : K (z_frac a n what) M) : q_kI yX11_inLowestTerms mX11_inLowestTerms d [qI a, qI ((10 ^ n : Nat) : Int), qI what] M K :=
  q_goI hd rfl (plainFor_of_name (by decide +kernel)) rfl (fun h => nomatch h) (Nat.le_of_ble_eq_true rfl) (fun d hd => bX11_inLowestTerms_0 _ _ _ (k_abs (by omega) (by omega) (by
    have b := z_10n n hn
    exact l_low11 hd ha hn h 50 0 (10 ^ n) a.natAbs (by omega) (by omega) (by omega) (Nat.gcd_comm _ _) (z_eu_ok 25 _ _ (Nat.lt_of_le_of_lt (show a.natAbs ≤ 20000000 by omega) (by decide))))))
/-- how many draws come to each set -/
def z_dr (N sd : Nat) : Nat → Nat → Int
  | 0, s => if s = sd then 1 else 0
  | k + 1, s => z_dr N sd k s * (10 - (N : Int)) + z_sum (fun v => z_dr N sd k (s ^^^ 2 ^ v)) N
theorem z_sum_nn {f : Nat → Int} : ∀ {n : Nat}, (∀ k, k < n → 0 ≤ f k) → 0 ≤ z_sum f n
  | 0, _ => Int.le_refl _
  | n + 1, h => by
    have := z_sum_nn (f := f) (n := n) (fun k hk => h k (by omega))
    have := h n (by omega)
    show 0 ≤ z_sum f n + f n
    omega
theorem z_sum_ub {f : Nat → Int} {b : Int} : ∀ {n : Nat}, (∀ k, k < n → f k ≤ b) → z_sum f n ≤ b * n
  | 0, _ => by simp [z_sum]
  | n + 1, h => by
    have h1 := z_sum_ub (f := f) (b := b) (n := n) (fun k hk => h k (by omega))
    have h2 := h n (by omega)
    have e : b * ((n + 1 : Nat) : Int) = b * n + b := by rw [Int.natCast_add, Int.mul_add]; simp
    show z_sum f n + f n ≤ b * ((n + 1 : Nat) : Int)
    rw [e]
    omega
theorem z_dr_bd {N sd : Nat} (hN : N ≤ 10) : ∀ (k s : Nat), 0 ≤ z_dr N sd k s ∧ z_dr N sd k s ≤ ((10 ^ k : Nat) : Int)
  | 0, s => by
    show 0 ≤ (if s = sd then (1 : Int) else 0) ∧ (if s = sd then (1 : Int) else 0) ≤ ((1 : Nat) : Int)
    split <;> decide
  | k + 1, s => by
    have ih := z_dr_bd (sd := sd) hN k
    have a := z_sum_nn (f := fun v => z_dr N sd k (s ^^^ 2 ^ v)) (n := N) (fun v _ => (ih _).1)
    have b := z_sum_ub (f := fun v => z_dr N sd k (s ^^^ 2 ^ v)) (b := ((10 ^ k : Nat) : Int)) (n := N) (fun v _ => (ih _).2)
    have c : 0 ≤ z_dr N sd k s * (10 - (N : Int)) := Int.mul_nonneg (ih s).1 (by omega)
    have e : z_dr N sd k s * (10 - (N : Int)) ≤ ((10 ^ k : Nat) : Int) * (10 - (N : Int)) := Int.mul_le_mul_of_nonneg_right (ih s).2 (by omega)
    have f : ((10 ^ k : Nat) : Int) * (10 - (N : Int)) + ((10 ^ k : Nat) : Int) * (N : Int) = ((10 ^ (k + 1) : Nat) : Int) := by
      rw [← Int.mul_add, Nat.pow_succ, show (10 : Int) - (N : Int) + (N : Int) = 10 by omega]
      omega
    show 0 ≤ z_dr N sd k s * (10 - (N : Int)) + z_sum (fun v => z_dr N sd k (s ^^^ 2 ^ v)) N ∧ z_dr N sd k s * (10 - (N : Int)) + z_sum (fun v => z_dr N sd k (s ^^^ 2 ^ v)) N ≤ ((10 ^ (k + 1) : Nat) : Int)
    omega
theorem z_sum_app {f : Nat → Int} {n : Nat} : ∀ m, z_sum f (n + m) = z_sum f n + z_sum (fun k => f (n + k)) m
  | 0 => by show z_sum f n = z_sum f n + 0; omega
  | m + 1 => by
    show z_sum f (n + m) + f (n + m) = z_sum f n + (z_sum (fun k => f (n + k)) m + f (n + m))
    rw [z_sum_app m]
    omega
theorem z_xor_top {s N : Nat} (h : s < 2 ^ N) : s ^^^ 2 ^ N = 2 ^ N + s := by
  apply Nat.eq_of_testBit_eq
  intro j
  have e : 2 ^ N + s = 2 ^ N * 1 + s := by omega
  rw [e, Nat.testBit_two_pow_mul_add _ h, Nat.testBit_xor, Nat.testBit_two_pow]
  by_cases a : j < N
  · rw [if_pos a, decide_eq_false (by omega)]; simp
  · rw [if_neg a, Nat.testBit_lt_two_pow (Nat.lt_of_lt_of_le h (Nat.pow_le_pow_right (by decide) (by omega)))]
    by_cases b : N = j
    · subst b; simp
    · rw [decide_eq_false b, Nat.testBit_lt_two_pow (x := 1) (i := j - N) (by
        have : 2 ^ 1 ≤ 2 ^ (j - N) := Nat.pow_le_pow_right (by decide) (by omega)
        omega)]
      rfl
theorem z_sum_flip : ∀ (N : Nat) {v : Nat} {f : Nat → Int}, v < N → z_sum (fun s => f (s ^^^ 2 ^ v)) (2 ^ N) = z_sum f (2 ^ N)
  | 0, v, f, h => by omega
  | N + 1, v, f, h => by
    rw [show 2 ^ (N + 1) = 2 ^ N + 2 ^ N by rw [Nat.pow_succ]; omega, z_sum_app, z_sum_app (f := f)]
    by_cases e : v = N
    · subst e
      have a : z_sum (fun s => f (s ^^^ 2 ^ v)) (2 ^ v) = z_sum (fun k => f (2 ^ v + k)) (2 ^ v) := z_sum_congr (fun k hk => by rw [z_xor_top hk])
      have b : z_sum (fun k => f ((2 ^ v + k) ^^^ 2 ^ v)) (2 ^ v) = z_sum f (2 ^ v) := z_sum_congr (fun k hk => by rw [← z_xor_top hk, Nat.xor_assoc, Nat.xor_self, Nat.xor_zero])
      rw [a, b]
      omega
    · have a := z_sum_flip N (v := v) (f := f) (by omega)
      have b := z_sum_flip N (v := v) (f := fun k => f (2 ^ N + k)) (by omega)
      have c : z_sum (fun k => f ((2 ^ N + k) ^^^ 2 ^ v)) (2 ^ N) = z_sum (fun k => f (2 ^ N + (k ^^^ 2 ^ v))) (2 ^ N) := z_sum_congr (fun k hk => by
        rw [← z_xor_top hk, ← z_xor_top (z_flip_lt hk (show v < N by omega)), Nat.xor_assoc, Nat.xor_assoc, Nat.xor_comm (2 ^ N)])
      rw [a, c, b]
theorem z_sum_add {f g : Nat → Int} : ∀ {n : Nat}, z_sum (fun k => f k + g k) n = z_sum f n + z_sum g n
  | 0 => rfl
  | n + 1 => by
    show z_sum (fun k => f k + g k) n + (f n + g n) = z_sum f n + f n + (z_sum g n + g n)
    rw [z_sum_add]
    omega
theorem z_sum_mulr {f : Nat → Int} {c : Int} : ∀ {n : Nat}, z_sum (fun k => f k * c) n = z_sum f n * c
  | 0 => by show 0 = 0 * c; simp
  | n + 1 => by
    show z_sum (fun k => f k * c) n + f n * c = (z_sum f n + f n) * c
    rw [z_sum_mulr, Int.add_mul]
theorem z_sum_swap {f : Nat → Nat → Int} {m : Nat} : ∀ {n : Nat}, z_sum (fun s => z_sum (fun v => f s v) m) n = z_sum (fun v => z_sum (fun s => f s v) n) m
  | 0 => by
    show 0 = z_sum (fun _ => 0) m
    induction m with
    | zero => rfl
    | succ m ih => show 0 = z_sum (fun _ => 0) m + 0; omega
  | n + 1 => by
    show z_sum (fun s => z_sum (fun v => f s v) m) n + z_sum (fun v => f n v) m = z_sum (fun v => z_sum (fun s => f s v) n + f n v) m
    rw [z_sum_swap, z_sum_add]
theorem z_sum_const {c : Int} : ∀ {n : Nat}, z_sum (fun _ => c) n = c * n
  | 0 => by show 0 = c * 0; simp
  | n + 1 => by
    show z_sum (fun _ => c) n + c = c * ((n + 1 : Nat) : Int)
    rw [z_sum_const, Int.natCast_add, Int.mul_add]
    simp
theorem z_dr_sum {N sd : Nat} (hN : N ≤ 10) (hsd : sd < 2 ^ N) : ∀ k, z_sum (fun s => z_dr N sd k s) (2 ^ N) = ((10 ^ k : Nat) : Int)
  | 0 => by
    have z : ∀ n, z_sum (fun _ => (0 : Int)) n = 0 := by
      intro n
      rw [z_sum_const]; simp
    have := z_sum_up (f := fun _ => (0 : Int)) (f' := fun s => z_dr N sd 0 s) hsd (fun x hx => by show (if x = sd then (1 : Int) else 0) = 0; rw [if_neg hx])
    rw [this, z]
    show 0 + ((if sd = sd then (1 : Int) else 0) - 0) = _
    rw [if_pos rfl]
    rfl
  | k + 1 => by
    have ih := z_dr_sum hN hsd k
    have e : z_sum (fun s => z_dr N sd (k + 1) s) (2 ^ N) = z_sum (fun s => z_dr N sd k s * (10 - (N : Int))) (2 ^ N) + z_sum (fun s => z_sum (fun v => z_dr N sd k (s ^^^ 2 ^ v)) N) (2 ^ N) := z_sum_add
    rw [e, z_sum_mulr, z_sum_swap, ih]
    have c : z_sum (fun v => z_sum (fun s => z_dr N sd k (s ^^^ 2 ^ v)) (2 ^ N)) N = z_sum (fun _ => ((10 ^ k : Nat) : Int)) N := z_sum_congr (fun v hv => by rw [z_sum_flip N (f := fun s => z_dr N sd k s) hv, ih])
    rw [c, z_sum_const, ← Int.mul_add, Nat.pow_succ, show (10 : Int) - (N : Int) + (N : Int) = 10 by omega]
    omega
