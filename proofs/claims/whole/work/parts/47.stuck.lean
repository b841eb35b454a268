-- stuck sets, fewest flips
def z_any (p : Nat → Bool) : Nat → Bool
  | 0 => false
  | n + 1 => z_any p n || p n
theorem z_any_true {p : Nat → Bool} {k : Nat} : ∀ {n : Nat}, k < n → p k = true → z_any p n = true
  | n + 1, h, hp => by
    show (z_any p n || p n) = true
    by_cases e : k = n
    · subst e; rw [hp]; simp
    · rw [z_any_true (by omega) hp]; rfl
def z_rs (o : Int → Int) (s : Nat) : Bool := z_any (fun n => decide (z_V2 o s < z_V2 o (s ^^^ 2 ^ n))) (z_N o)
theorem z_flip_lt {s n N : Nat} (hs : s < 2 ^ N) (hn : n < N) : s ^^^ 2 ^ n < 2 ^ N := Nat.xor_lt_two_pow hs (Nat.pow_lt_pow_right (by decide) hn)
theorem l_crise {d : Nat} {K : Int → q_Mem → Prop} {M : q_Mem} {o : Int → Int} (hn : z_net o) (ht : z_CT o M) {s : Nat} (hs : s < 2 ^ z_N o) (h : K (if z_rs o s then 1 else 0) M) :
    ∀ (j i : Nat), i + j = z_N o → z_any (fun n => decide (z_V2 o s < z_V2 o (s ^^^ 2 ^ n))) i = false → q_v mX8_canRise d (qPI K) M 2 [some (qR 117), some (qI (s : Int)), some (qI (i : Int))] [] := by
  have p10 := z_2N hn
  have hN := z_net_N10 hn
  intro j
  induction j with
  | zero =>
    intro i e q
    have ei : i = z_N o := by omega
    subst ei
    refine bX8_canRise_2 _ _ ?_
    rw [ht.1]
    refine ⟨fun _ => ?_, fun g => absurd (by omega) g⟩
    unfold z_rs at h
    rw [q] at h
    exact h
  | succ j ih =>
    intro i e q
    have fl := z_flip_lt hs (n := i) (by omega)
    refine bX8_canRise_2 _ _ ?_
    rw [ht.1, q_xor1 (by omega) (by omega), ht.2.2.2.2 _ fl, ht.2.2.2.2 _ hs, q_add_eq (by omega)]
    refine ⟨fun g => by omega, fun _ => ⟨by omega, by omega, fun g => ih (i + 1) (by omega) ?_, fun g => ?_⟩⟩
    · show (z_any (fun n => decide (z_V2 o s < z_V2 o (s ^^^ 2 ^ n))) i || decide (z_V2 o s < z_V2 o (s ^^^ 2 ^ i))) = false
      rw [q, decide_eq_false (by omega)]
      rfl
    · have : z_rs o s = true := z_any_true (k := i) (by omega) (decide_eq_true (by omega))
      rw [this] at h
      exact h
theorem k_crise {d : Nat} {M : q_Mem} {K : Int → q_Mem → Prop} {o : Int → Int} {s : Nat} (hd : 0 < d) (hn : z_net o) (ht : z_CT o M) (hs : s < 2 ^ z_N o) (h : K (if z_rs o s then 1 else 0) M) : q_kI yX8_canRise mX8_canRise d [qR 117, qI (s : Int)] M K :=
  q_goI hd rfl (plainFor_of_name (by decide +kernel)) rfl (fun h => nomatch h) (Nat.le_of_ble_eq_true rfl) (fun d hd => bX8_canRise_0 _ (l_crise hn ht hs h (z_N o) 0 (by omega) rfl))
theorem l_isStuck {d : Nat} {K : Int → q_Mem → Prop} {M : q_Mem} (hn : z_net (M 179)) (ht : z_RT (M 179) M) {s : Nat} (hs : s < 2 ^ z_N (M 179)) (h : K (if z_rs (M 179) s then 0 else 1) M) :
    ∀ (j i : Nat), i + j = z_N (M 179) → z_any (fun n => decide (z_V2 (M 179) s < z_V2 (M 179) (s ^^^ 2 ^ n))) i = false → q_v mX12_isStuck d (qPI K) M 2 [some (qR 178), some (qI (s : Int)), some (qI (i : Int))] [] := by
  have p10 := z_2N hn
  have hN := z_net_N10 hn
  have eN := z_net_N hn
  intro j
  induction j with
  | zero =>
    intro i e q
    have ei : i = z_N (M 179) := by omega
    subst ei
    refine bX12_isStuck_2 _ _ ⟨fun _ => ?_, fun g => absurd (by omega) g⟩
    unfold z_rs at h
    rw [q] at h
    exact h
  | succ j ih =>
    intro i e q
    have fl := z_flip_lt hs (n := i) (by omega)
    refine bX12_isStuck_2 _ _ ⟨fun g => by omega, fun _ => ?_⟩
    rw [q_xor1 (by omega) (by omega), ht.2.2.2 _ fl, ht.2.2.2 _ hs, q_add_eq (by omega)]
    refine ⟨by omega, by omega, fun g => ih (i + 1) (by omega) ?_, fun g => ?_⟩
    · show (z_any (fun n => decide (z_V2 (M 179) s < z_V2 (M 179) (s ^^^ 2 ^ n))) i || decide (z_V2 (M 179) s < z_V2 (M 179) (s ^^^ 2 ^ i))) = false
      rw [q, decide_eq_false (by omega)]
      rfl
    · have : z_rs (M 179) s = true := z_any_true (k := i) (by omega) (decide_eq_true (by omega))
      rw [this] at h
      exact h
theorem k_isStuck {d : Nat} {M : q_Mem} {K : Int → q_Mem → Prop} {s : Nat} (hd : 0 < d) (hn : z_net (M 179)) (ht : z_RT (M 179) M) (hs : s < 2 ^ z_N (M 179)) (h : K (if z_rs (M 179) s then 0 else 1) M) : q_kI yX12_isStuck mX12_isStuck d [qR 178, qI (s : Int)] M K :=
  q_goI hd rfl (plainFor_of_name (by decide +kernel)) rfl (fun h => nomatch h) (Nat.le_of_ble_eq_true rfl) (fun d hd => bX12_isStuck_0 _ (l_isStuck hn ht hs h (z_N (M 179)) 0 (by omega) rfl))
def z_stk (o : Int → Int) : Nat := z_cn (fun s => !z_rs o s) (2 ^ z_N o)
theorem l_cstuck {d : Nat} {K : Int → q_Mem → Prop} {M : q_Mem} {o : Int → Int} (hd : 1 ≤ d) (hn : z_net o) (ht : z_CT o M) (h : K (z_stk o : Int) M) :
    ∀ (j i : Nat), i + j = 2 ^ z_N o → q_v mX8_stuckSets d (qPI K) M 4 [some (qR 117), some (qI (z_cn (fun s => !z_rs o s) i : Int)), some (qI (i : Int))] [] := by
  have p10 := z_2N hn
  intro j
  induction j with
  | zero =>
    intro i e
    have ei : i = 2 ^ z_N o := by omega
    subst ei
    refine bX8_stuckSets_4 _ _ ?_
    rw [ht.2.1]
    exact ⟨fun _ => h, fun g => absurd (by omega) g⟩
  | succ j ih =>
    intro i e
    have cl := z_cn_le (p := fun s => !z_rs o s) (n := i)
    have nx := ih (i + 1) (by omega)
    have ex : z_cn (fun s => !z_rs o s) (i + 1) = z_cn (fun s => !z_rs o s) i + (if !z_rs o i then 1 else 0) := rfl
    refine bX8_stuckSets_4 _ _ ?_
    rw [ht.2.1, q_add_eq (a := (i : Int)) (by omega), q_add_eq (by omega)]
    refine ⟨fun g => by omega, fun _ => k_crise (by omega) hn ht (by omega) ?_⟩
    cases c : z_rs o i
    · rw [ex, c] at nx
      exact ⟨fun g => absurd rfl g, fun _ => nx⟩
    · rw [ex, c] at nx
      exact ⟨fun _ => nx, fun g => absurd g (by decide)⟩
theorem k_cstuck {d : Nat} {M : q_Mem} {K : Int → q_Mem → Prop} {o : Int → Int} (hd : 1 < d) (hn : z_net o) (ht : z_CT o M) (h : K (z_stk o : Int) M) : q_kI yX8_stuckSets mX8_stuckSets d [qR 117] M K :=
  q_goI hd rfl (plainFor_of_name (by decide +kernel)) rfl (fun h => nomatch h) (Nat.le_of_ble_eq_true rfl) (fun d hd => bX8_stuckSets_0 (l_cstuck hd hn ht h (2 ^ z_N o) 0 (by omega)))
theorem l_stuck {d : Nat} {K : Int → q_Mem → Prop} {M : q_Mem} (hd : 1 ≤ d) (hn : z_net (M 179)) (ht : z_RT (M 179) M) (h : K (z_stk (M 179) : Int) M) :
    ∀ (j i : Nat), i + j = 2 ^ z_N (M 179) → q_v mX12_stuck d (qPI K) M 13 [some (qR 178), some (qI (z_cn (fun s => !z_rs (M 179) s) i : Int)), some (qI (i : Int))] [] := by
  have p10 := z_2N hn
  intro j
  induction j with
  | zero =>
    intro i e
    have ei : i = 2 ^ z_N (M 179) := by omega
    subst ei
    refine bX12_stuck_13 _ _ ?_
    rw [ht.1]
    exact ⟨fun _ => h, fun g => absurd (by omega) g⟩
  | succ j ih =>
    intro i e
    have cl := z_cn_le (p := fun s => !z_rs (M 179) s) (n := i)
    have nx := ih (i + 1) (by omega)
    have ex : z_cn (fun s => !z_rs (M 179) s) (i + 1) = z_cn (fun s => !z_rs (M 179) s) i + (if !z_rs (M 179) i then 1 else 0) := rfl
    refine bX12_stuck_13 _ _ ?_
    rw [ht.1, q_add_eq (a := (i : Int)) (by omega), q_add_eq (by omega), q_add_eq (by omega)]
    refine ⟨fun g => by omega, fun _ => k_isStuck (by omega) hn ht (by omega) ?_⟩
    cases c : z_rs (M 179) i
    · rw [ex, c] at nx
      exact ⟨fun g => absurd g (by decide), fun _ x e2 => by rw [e2]; exact nx⟩
    · rw [ex, c] at nx
      exact ⟨fun _ x e2 => by rw [e2]; exact nx, fun g => absurd rfl g⟩
/-- the fewest flips to a greatest one, beginning with a -/
def z_ff (V : Nat → Int) (hi : Int) (sd : Nat) (a : Int) : Nat → Int
  | 0 => a
  | n + 1 => if V n = hi then min (z_ff V hi sd a n) (z_bc (n ^^^ sd) 10 : Int) else z_ff V hi sd a n
theorem z_ff_min {V : Nat → Int} {hi : Int} {sd : Nat} {a b : Int} (h : a ≤ b) : ∀ n, z_ff V hi sd a n = min a (z_ff V hi sd b n)
  | 0 => by show a = min a b; omega
  | n + 1 => by
    have ih := z_ff_min (V := V) (hi := hi) (sd := sd) h n
    show (if V n = hi then min (z_ff V hi sd a n) (z_bc (n ^^^ sd) 10 : Int) else z_ff V hi sd a n) = min a (if V n = hi then min (z_ff V hi sd b n) (z_bc (n ^^^ sd) 10 : Int) else z_ff V hi sd b n)
    split <;> omega
theorem z_ff_le {V : Nat → Int} {hi : Int} {sd s : Nat} {b : Int} (e : V s = hi) : ∀ {n : Nat}, s < n → z_ff V hi sd b n ≤ (z_bc (s ^^^ sd) 10 : Int)
  | n + 1, h => by
    show (if V n = hi then min (z_ff V hi sd b n) (z_bc (n ^^^ sd) 10 : Int) else z_ff V hi sd b n) ≤ _
    by_cases c : s = n
    · subst c; rw [if_pos e]; omega
    · have := z_ff_le (sd := sd) (b := b) e (n := n) (by omega)
      split <;> omega
theorem z_ff_bd {V : Nat → Int} {hi : Int} {sd : Nat} {a : Int} (ha : 0 ≤ a ∧ a ≤ 10) : ∀ n, 0 ≤ z_ff V hi sd a n ∧ z_ff V hi sd a n ≤ 10
  | 0 => ha
  | n + 1 => by
    have ih := z_ff_bd (V := V) (hi := hi) (sd := sd) ha n
    show 0 ≤ (if V n = hi then min (z_ff V hi sd a n) (z_bc (n ^^^ sd) 10 : Int) else z_ff V hi sd a n) ∧ (if V n = hi then min (z_ff V hi sd a n) (z_bc (n ^^^ sd) 10 : Int) else z_ff V hi sd a n) ≤ 10
    split <;> omega
theorem z_bc_cut {s N : Nat} (hs : s < 2 ^ N) : ∀ k, z_bc s (N + k) = z_bc s N
  | 0 => rfl
  | k + 1 => by
    show z_bc s (N + k) + (if s.testBit (N + k) then 1 else 0) = z_bc s N
    rw [z_bc_cut hs k, Nat.testBit_lt_two_pow (Nat.lt_of_lt_of_le hs (Nat.pow_le_pow_right (by decide) (by omega)))]
    simp
theorem z_ff_eq {o : Int → Int} (hn : z_net o) {sd : Nat} (hs : sd < 2 ^ z_N o) : z_ff (z_V2 o) (z_hi (z_V2 o) (2 ^ z_N o)) sd (z_N o : Int) (2 ^ z_N o) = z_ff (z_V2 o) (z_hi (z_V2 o) (2 ^ z_N o)) sd 10 (2 ^ z_N o) := by
  have hN := z_net_N10 hn
  have p10 := z_2N hn
  rw [z_ff_min (a := (z_N o : Int)) (b := 10) (by omega)]
  obtain ⟨s, h1, h2⟩ := z_hi_at (V := z_V2 o) z_V2_0 (2 ^ z_N o - 1)
  rw [show 2 ^ z_N o - 1 + 1 = 2 ^ z_N o by omega] at h1 h2
  have le := z_ff_le (sd := sd) (b := 10) h2 h1
  have bc : z_bc (s ^^^ sd) 10 ≤ z_N o := by
    have c := z_bc_cut (s := s ^^^ sd) (N := z_N o) (Nat.xor_lt_two_pow h1 hs) (10 - z_N o)
    rw [show z_N o + (10 - z_N o) = 10 by omega] at c
    rw [c]
    exact z_bc_le
  omega
theorem l_csteps {d : Nat} {K : Int → q_Mem → Prop} {M : q_Mem} {o : Int → Int} (hd : 1 ≤ d) (hn : z_net o) (ht : z_CT o M) {sd : Nat} (hs : sd < 2 ^ z_N o) (h : K (z_ff (z_V2 o) (z_hi (z_V2 o) (2 ^ z_N o)) sd 10 (2 ^ z_N o)) M) :
    ∀ (j i : Nat), i + j = 2 ^ z_N o → q_v mX8_fewestFlips d (qPI K) M 7 [some (qR 117), some (qI (sd : Int)), some (qI (z_ff (z_V2 o) (z_hi (z_V2 o) (2 ^ z_N o)) sd (z_N o : Int) i)), some (qI (i : Int))] [] := by
  have p10 := z_2N hn
  intro j
  induction j with
  | zero =>
    intro i e
    have ei : i = 2 ^ z_N o := by omega
    subst ei
    refine bX8_fewestFlips_7 _ _ _ ?_
    rw [ht.2.1, z_ff_eq hn hs]
    exact ⟨fun _ => h, fun g => absurd (by omega) g⟩
  | succ j ih =>
    intro i e
    have nx := ih (i + 1) (by omega)
    have ex : z_ff (z_V2 o) (z_hi (z_V2 o) (2 ^ z_N o)) sd (z_N o : Int) (i + 1) = if z_V2 o i = z_hi (z_V2 o) (2 ^ z_N o) then min (z_ff (z_V2 o) (z_hi (z_V2 o) (2 ^ z_N o)) sd (z_N o : Int) i) (z_bc (i ^^^ sd) 10 : Int) else z_ff (z_V2 o) (z_hi (z_V2 o) (2 ^ z_N o)) sd (z_N o : Int) i := rfl
    refine bX8_fewestFlips_7 _ _ _ ?_
    rw [ht.2.1, ht.2.2.1, ht.2.2.2.2 i (by omega), q_add_eq (a := (i : Int)) (by omega), q_xor_nat (by omega) (by omega)]
    refine ⟨fun g => by omega, fun _ => ⟨by omega, fun g => ?_, fun g => k_bitCount (by omega) (z_p10 (Nat.xor_lt_two_pow (n := z_N o) (by omega) hs) (z_net_N10 hn)) (k_min (by omega) ?_)⟩⟩
    · rw [ex, if_neg g] at nx; exact nx
    · rw [ex, if_pos g] at nx; exact nx
theorem k_csteps {d : Nat} {M : q_Mem} {K : Int → q_Mem → Prop} {o : Int → Int} {sd : Nat} (hd : 1 < d) (hn : z_net o) (ht : z_CT o M) (hs : sd < 2 ^ z_N o) (h : K (z_ff (z_V2 o) (z_hi (z_V2 o) (2 ^ z_N o)) sd 10 (2 ^ z_N o)) M) : q_kI yX8_fewestFlips mX8_fewestFlips d [qR 117, qI (sd : Int)] M K :=
  q_goI hd rfl (plainFor_of_name (by decide +kernel)) rfl (fun h => nomatch h) (Nat.le_of_ble_eq_true rfl) (fun d hd => bX8_fewestFlips_0 _ (fun x e => by
    rw [ht.1] at e
    subst e
    exact l_csteps hd hn ht hs h (2 ^ z_N o) 0 (by omega)))
theorem l_bitsOf {d : Nat} {K : Int → q_Mem → Prop} {M : q_Mem} {s : Nat} (hs : s < 65536) (h : K (z_bc s 16 : Int) M) : ∀ (j i : Nat), i + j = 16 → q_v mX12_bitsOf d (qPI K) M 4 [some (qI (s : Int)), some (qI (z_bc s i : Int)), some (qI (i : Int))] [] := by
  intro j
  induction j with
  | zero =>
    intro i e
    have ei : i = 16 := by omega
    subst ei
    exact bX12_bitsOf_4 _ _ _ ⟨fun _ => h, fun g => absurd (by decide) g⟩
  | succ j ih =>
    intro i e
    have bl := z_bc_le (s := s) (n := i)
    have nx := ih (i + 1) (by omega)
    have ex : z_bc s (i + 1) = z_bc s i + (if s.testBit i then 1 else 0) := rfl
    refine bX12_bitsOf_4 _ _ _ ⟨fun g => by omega, fun _ x e2 => ?_⟩
    rw [q_bit (by omega) (by omega)] at e2
    rw [q_add_eq (a := (i : Int)) (by omega), e2]
    rw [ex] at nx
    cases c : s.testBit i
    · rw [c] at nx
      rw [q_add_eq (by simp; omega)]
      exact nx
    · rw [c] at nx
      rw [q_add_eq (by simp; omega)]
      exact nx
theorem k_bitsOf {d : Nat} {M : q_Mem} {K : Int → q_Mem → Prop} {s : Nat} (hd : 0 < d) (hs : s < 1024) (h : K (z_bc s 10 : Int) M) : q_kI yX12_bitsOf mX12_bitsOf d [qI (s : Int)] M K :=
  q_goI hd rfl (plainFor_of_name (by decide +kernel)) rfl (fun h => nomatch h) (Nat.le_of_ble_eq_true rfl) (fun d hd => bX12_bitsOf_0 _ (l_bitsOf (by omega) (by
    have := z_bc_cut (s := s) (N := 10) hs 6
    rw [this]
    exact h) 16 0 (by omega)))
theorem l_steps {d : Nat} {K : Int → q_Mem → Prop} {M : q_Mem} (hd : 1 ≤ d) (hE : z_E (M 179)) (ht : z_RT (M 179) M) (h : K (z_ff (z_V2 (M 179)) (z_hi (z_V2 (M 179)) (2 ^ z_N (M 179))) (z_s (M 179)) 10 (2 ^ z_N (M 179))) M) :
    ∀ (j i : Nat), i + j = 2 ^ z_N (M 179) → q_v mX12_steps d (qPI K) M 14 [some (qR 178), some (qI (z_ff (z_V2 (M 179)) (z_hi (z_V2 (M 179)) (2 ^ z_N (M 179))) (z_s (M 179)) 10 i)), some (qI (i : Int)), none] [] := by
  have hn := hE.1
  have p10 := z_2N hn
  have es := z_E_s hE
  intro j
  induction j with
  | zero =>
    intro i e
    have ei : i = 2 ^ z_N (M 179) := by omega
    subst ei
    refine bX12_steps_14 _ _ ?_
    rw [ht.1]
    exact ⟨fun _ => h, fun g => absurd (by omega) g⟩
  | succ j ih =>
    intro i e
    have nx := ih (i + 1) (by omega)
    have ex : z_ff (z_V2 (M 179)) (z_hi (z_V2 (M 179)) (2 ^ z_N (M 179))) (z_s (M 179)) 10 (i + 1) = if z_V2 (M 179) i = z_hi (z_V2 (M 179)) (2 ^ z_N (M 179)) then min (z_ff (z_V2 (M 179)) (z_hi (z_V2 (M 179)) (2 ^ z_N (M 179))) (z_s (M 179)) 10 i) (z_bc (i ^^^ z_s (M 179)) 10 : Int) else z_ff (z_V2 (M 179)) (z_hi (z_V2 (M 179)) (2 ^ z_N (M 179))) (z_s (M 179)) 10 i := rfl
    refine bX12_steps_14 _ _ ?_
    rw [ht.1, es.1, q_xor_nat (by omega) (by omega)]
    refine ⟨fun g => by omega, fun _ => k_bitsOf (by omega) (z_p10 (Nat.xor_lt_two_pow (n := z_N (M 179)) (by omega) es.2.1) (z_net_N10 hn)) ?_⟩
    rw [ht.2.1, ht.2.2.2 i (by omega), q_add_eq (a := (i : Int)) (by omega)]
    refine ⟨by omega, fun g => ?_, fun g => ⟨fun g2 => ?_, fun g2 => ?_⟩⟩
    · rw [ex, if_neg g] at nx; exact nx
    · rw [ex, if_pos g, Int.min_eq_left g2] at nx; exact nx
    · rw [ex, if_pos g, Int.min_eq_right (by omega)] at nx; exact nx
