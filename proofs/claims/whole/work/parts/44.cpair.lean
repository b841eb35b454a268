-- the class's pairing
theorem z_andnot {s i j : Nat} (hs : s < 65536) (hi : i < 16) (hj : j < 16) (bi : s.testBit i = true) (bj : s.testBit j = true) (hij : i ≠ j) : q_and (s : Int) (q_xor (q_or (q_shl 1 (i : Int)) (q_shl 1 (j : Int))) (-1)) = (z_wo2 s i j : Int) := by
  have pi := q_pow31 (k := i) (by omega)
  have pj := q_pow31 (k := j) (by omega)
  rw [q_shl1 i (by omega), q_shl1 j (by omega), q_or_nat pi pj]
  have e2 : Int32.ofInt (-1) = Int32.ofNat 4294967295 := by decide
  have e3 : q_and (s : Int) (q_xor ((2 ^ i ||| 2 ^ j : Nat) : Int) (-1)) = (Int32.ofNat s &&& Int32.ofNat ((2 ^ i ||| 2 ^ j) ^^^ 4294967295)).toInt := by
    unfold q_and q_xor
    rw [Int32.ofInt_toInt, e2, q_ofNat, q_ofNat]
    congr 2
    apply Int32.toBitVec_inj.mp
    rw [Int32.toBitVec_xor]
    show BitVec.ofNat 32 _ ^^^ BitVec.ofNat 32 4294967295 = BitVec.ofNat 32 _
    rw [BitVec.ofNat_xor]
  rw [e3]
  have e4 : Int32.ofNat s &&& Int32.ofNat ((2 ^ i ||| 2 ^ j) ^^^ 4294967295) = Int32.ofNat (z_wo2 s i j) := by
    apply Int32.toBitVec_inj.mp
    rw [Int32.toBitVec_and]
    show BitVec.ofNat 32 s &&& BitVec.ofNat 32 _ = BitVec.ofNat 32 _
    rw [← BitVec.ofNat_and]
    congr 1
    apply Nat.eq_of_testBit_eq
    intro x
    rw [z_wo2_bit bi bj hij, Nat.testBit_and, Nat.testBit_xor, Nat.testBit_or, Nat.testBit_two_pow, Nat.testBit_two_pow, show (4294967295 : Nat) = 2 ^ 32 - 1 from rfl, Nat.testBit_two_pow_sub_one]
    by_cases c : x < 32
    · by_cases a : i = x
      · subst a; simp [c]
      · by_cases b : j = x
        · subst b; simp [c]
        · simp [a, b, c, show ¬ x = i from fun q => a q.symm, show ¬ x = j from fun q => b q.symm]
    · have : s.testBit x = false := Nat.testBit_lt_two_pow (Nat.lt_of_lt_of_le hs (by show 2 ^ 16 ≤ 2 ^ x; exact Nat.pow_le_pow_right (by decide) (by omega)))
      simp [this]
  rw [e4]
  exact q_ofInt32 (q_nat32 (Nat.lt_trans (Nat.xor_lt_two_pow (n := 16) (Nat.xor_lt_two_pow (n := 16) hs (Nat.pow_lt_pow_right (a := 2) (by decide) hi)) (Nat.pow_lt_pow_right (a := 2) (by decide) hj)) (by decide)))
theorem z_k3 {x : Int} (h : x = 170 ∨ x = 174) : q_kd x = 3 ∧ q_lay x 1 = x + 1 ∧ q_lay x 3 = 169 ∧ q_lay x 4 = x + 3 := by
  rcases h with rfl | rfl <;> decide +kernel
theorem z_k99 : q_kd 99 = 20 ∧ q_ln 99 = 16 ∧ q_lay 98 0 = 99 ∧ q_kd 98 = 10 ∧ q_kd 91 = 6 ∧ q_kd 169 = 14 ∧ q_ln 169 = 65536 := by decide +kernel
def z_CQ (M : q_Mem) (x : Int) (q : Nat → Nat) (F n : Nat) : Prop := (x = 170 ∨ x = 174) ∧ M x 2 = 99 ∧ M x 5 = (n : Int) ∧ n ≤ 16 ∧ (∀ i : Nat, i < n → M (x + 3) i = (q i : Int)) ∧ ∀ i, q i < F
abbrev z_pc2 (w : Int → Int) (fo : Nat → Int) (L : Nat) (q : Nat → Nat) (s : Nat) (v : Int) : Prop := z_pv (z_fa fo) (z_fb fo) (z_aw w) L q 1024 536870912 536870912 s v
def z_mo (M : q_Mem) (w : Int → Int) (fo : Nat → Int) (L : Nat) (q : Nat → Nat) (n : Nat) : Prop := ∀ s : Nat, 0 < s → s < 2 ^ n → M 169 s = -1 ∨ (0 ≤ M 169 s ∧ z_pc2 w fo L q s (M 169 s))
def z_f9 (M M' : q_Mem) : Prop := ∀ a, a ≠ 169 → M' a = M a
theorem z_V_9 {M M' : q_Mem} {w : Int → Int} {fo : Nat → Int} {L F : Nat} (h : z_V M w fo L F) (f : z_f9 M M') : z_V M' w fo L F := by
  obtain ⟨a, b, c, d, e, g1, g2, g3⟩ := h
  refine ⟨a, b, by rw [f 93 (by decide)]; exact c, d, e, z_ct_o g1 (fun x hx => f _ (by omega)), by rw [f 116 (by decide)]; exact g2, by rw [f 98 (by decide)]; exact g3⟩
theorem z_CQ_9 {M M' : q_Mem} {x : Int} {q : Nat → Nat} {F n : Nat} (h : z_CQ M x q F n) (f : z_f9 M M') : z_CQ M' x q F n := by
  obtain ⟨a, b, c, d, e, g⟩ := h
  have h1 : x ≠ 169 := by omega
  have h2 : x + 3 ≠ 169 := by omega
  exact ⟨a, by rw [f x h1]; exact b, by rw [f x h1]; exact c, d, by rw [f _ h2]; exact e, g⟩
theorem z_pc_rng {w : Int → Int} {fo : Nat → Int} {L F n s : Nat} {q : Nat → Nat} {v : Int} (hin : ∀ x, x < 2 * L → 0 ≤ fo x ∧ fo x < (F : Int)) (hw : ∀ l : Nat, l < L → -99 ≤ w l ∧ w l ≤ 99) (h16 : F ≤ 16) (hq : ∀ i, q i < F) (hs : s < 2 ^ n) (hn : n ≤ 16) (h : z_pc2 w fo L q s v) : (0 ≤ v ∧ v ≤ 536870912) := by
  rcases h with ⟨W, k, o, e⟩ | ⟨_, a, b⟩
  · have := z_po_bd (fun l hl => (z_fab hin (l := l) hl).2.2) (z_aw99 hw) h16 hq hs hn o
    omega
  · omega
/-- the term of a partner, in the class -/
theorem z_tm_cls {w : Int → Int} {fo : Nat → Int} {L F s i j n : Nat} {q : Nat → Nat} (hin : ∀ x, x < 2 * L → 0 ≤ fo x ∧ fo x < (F : Int)) (hw : ∀ l : Nat, l < L → -99 ≤ w l ∧ w l ≤ 99) (hF16 : F ≤ 16) (hq : ∀ i, q i < F) :
    (z_tb (z_fa fo) (z_fb fo) (z_aw w) L F 1024 536870912 (q i) (q j) = 536870912 ∧ z_tm (z_fa fo) (z_fb fo) (z_aw w) L q 1024 536870912 s i j 536870912) ∨
    (0 ≤ z_tb (z_fa fo) (z_fb fo) (z_aw w) L F 1024 536870912 (q i) (q j) ∧ z_tb (z_fa fo) (z_fb fo) (z_aw w) L F 1024 536870912 (q i) (q j) < 2000000 ∧ ∀ v, z_wo2 s i j < 2 ^ n → n ≤ 16 → z_pc2 w fo L q (z_wo2 s i j) v → z_tm (z_fa fo) (z_fb fo) (z_aw w) L q 1024 536870912 s i j (min (z_tb (z_fa fo) (z_fb fo) (z_aw w) L F 1024 536870912 (q i) (q j) + v) 536870912)) := by
  have hF := fun l hl => (z_fab hin (l := l) hl).2.2
  have T := z_tb_ok (S := 1024) (I := 536870912) hF (z_aw99 hw) hF16 (by decide) (by decide) (by decide) (hq i) (hq j)
  rcases T with ⟨W1, k1, o1, hk, hW, e⟩ | ⟨no, e⟩
  · right
    rw [e]
    refine ⟨by omega, by omega, fun v hs hn hv => ?_⟩
    rcases hv with ⟨W2, k2, o2, ev⟩ | ⟨no2, b1, b2⟩
    · have bd := z_po_bd hF (z_aw99 hw) hF16 hq hs hn o2
      refine ⟨by omega, Or.inl ⟨W1 + W2, k1 + k2, ⟨W1, k1, W2, k2, o1, o2, rfl, rfl⟩, ?_⟩⟩
      rw [ev, Nat.mul_add, Int.min_eq_left (by omega)]
      omega
    · refine ⟨by omega, Or.inr ⟨fun W k ⟨_, _, W2, k2, _, o2, _, _⟩ => ?_, by omega⟩⟩
      obtain ⟨m, pr⟩ := o2.1
      exact no2 _ _ _ pr
  · left
    exact ⟨e, by decide, Or.inr ⟨fun W k ⟨W1, k1, _, _, o1, _, _, _⟩ => no _ _ o1.1, by decide⟩⟩
/-- what leastCost and costWith do; c: how many pairs are left at most -/
def z_LC (c : Nat) : Prop := ∀ (d : Nat) (M : q_Mem) (K : Int → q_Mem → Prop) (x : Int) (w : Int → Int) (fo : Nat → Int) (L F n s dp : Nat) (q : Nat → Nat), 2 * c + 1 < d → z_V M w fo L F → z_CQ M x q F n → z_mo M w fo L q n → s < 2 ^ n → z_bc s n ≤ 2 * c + 1 → z_bc s n + 2 * dp ≤ 17 →
  (∀ v M', z_f9 M M' → z_mo M' w fo L q n → z_pc2 w fo L q s v → K v M') → q_kI yX3_leastCost mX3_leastCost d [qR x, qI (s : Int), qI (dp : Int)] M K
theorem z_costWith {c : Nat} (ih : z_LC c) : ∀ (d : Nat) (M : q_Mem) (K : Int → q_Mem → Prop) (x : Int) (w : Int → Int) (fo : Nat → Int) (L F n s dp i j : Nat) (q : Nat → Nat), 2 * c + 2 < d → z_V M w fo L F → z_CQ M x q F n → z_mo M w fo L q n → s < 2 ^ n → z_bc s n ≤ 2 * c + 3 → z_bc s n + 2 * dp ≤ 17 → s.testBit i = true → s.testBit j = true → i < j → j < n →
  (∀ v M', z_f9 M M' → z_mo M' w fo L q n → z_tm (z_fa fo) (z_fb fo) (z_aw w) L q 1024 536870912 s i j v → v ≤ 536870912 → K v M') → q_kI yX3_costWith mX3_costWith d [qR x, qI (s : Int), qI (i : Int), qI (j : Int), qI (dp : Int)] M K := by
  intro d M K x w fo L F n s dp i j q hd hV hC hm hs hb hdp bi bj hij hj h
  obtain ⟨v1, v2, v3, v4, v5, v6, v7, v8⟩ := id hV
  obtain ⟨c1, c2, c3, c4, c5, c6⟩ := id hC
  have kk := z_k3 c1
  have hqi := c6 i
  have hqj := c6 j
  have kf := z_k100n (q i) (by omega)
  have tmc := z_tm_cls (s := s) (i := i) (j := j) (n := n) v4 v5 v1 c6
  have s16 : s < 65536 := Nat.lt_of_lt_of_le hs (by show 2 ^ n ≤ 2 ^ 16; exact Nat.pow_le_pow_right (by decide) c4)
  have lt := z_wo2_lt bi bj hij
  have bc := z_bc_wo2 bi bj hij n hj
  refine q_goI hd rfl (plainFor_of_name (by decide +kernel)) rfl (fun h => nomatch h) (Nat.le_of_ble_eq_true rfl) (fun d hd => bX3_costWith_0 _ _ _ _ _ kk.1 ?_)
  rw [kk.2.2.2, c2, z_k99.2.1, c5 i (by omega), c5 j hj, z_l99' (by omega), kf.2, v6 _ _ hqi hqj]
  refine ⟨by omega, z_k99.1, by omega, by omega, kf.1, by omega, fun y ey => ?_⟩
  rcases tmc with ⟨e, tm⟩ | ⟨e0, e1, tm⟩
  · rw [e] at ey
    exact ⟨fun g => by omega, fun _ => h _ M (fun _ _ => rfl) hm tm (by decide)⟩
  · refine ⟨fun _ => ?_, fun g => absurd (by omega) g⟩
    rw [z_andnot s16 (by omega) (by omega) bi bj (by omega), q_add_eq (a := (dp : Int)) (by omega), show (dp : Int) + 1 = ((dp + 1 : Nat) : Int) by omega]
    refine ih d M _ x w fo L F n _ (dp + 1) q (by omega) hV hC hm (Nat.lt_trans lt hs) (by omega) (by omega) (fun v M' f' m' pv => k_min (by omega) ?_)
    have rg := z_pc_rng v4 v5 v1 c6 (Nat.lt_trans lt hs) c4 pv
    rw [q_add_eq (by omega), ey]
    exact h _ M' f' m' (tm v (Nat.lt_trans lt hs) c4 pv) (by omega)
theorem l_lc42 {c : Nat} (ih : z_LC c) {d : Nat} {K : Int → q_Mem → Prop} {x : Int} {w : Int → Int} {fo : Nat → Int} {L F n s dp i : Nat} {q : Nat → Nat} (hd : 2 * c + 3 ≤ d) (hi : z_low s i) (hin : i < n) (hs : s < 2 ^ n) (hs0 : 0 < s) (hb : z_bc s n ≤ 2 * c + 3) (hdp : z_bc s n + 2 * dp ≤ 17) {M0 : q_Mem}
    (h : ∀ v M', z_f9 M0 M' → z_mo M' w fo L q n → z_pc2 w fo L q s v → K v M') :
    ∀ (e j : Nat) (v : Int) (M : q_Mem), j + e = n → i < j → z_f9 M0 M → z_V M w fo L F → z_CQ M x q F n → z_mo M w fo L q n → z_bs (z_fa fo) (z_fb fo) (z_aw w) L q 1024 536870912 536870912 s i j v → q_v mX3_leastCost d (qPI K) M 42 [some (qR x), some (qI (s : Int)), some (qI (dp : Int)), some (qI (i : Int)), some (qI v), some (qI (j : Int))] [] := by
  intro e
  induction e with
  | zero =>
    intro j v M ej hij f hV hC hm bs
    have ej : j = n := by omega
    subst ej
    obtain ⟨v1, v2, v3, v4, v5, v6, v7, v8⟩ := id hV
    obtain ⟨c1, c2, c3, c4, c5, c6⟩ := id hC
    have kk := z_k3 c1
    have s16 : s < 65536 := Nat.lt_of_lt_of_le hs (by show 2 ^ j ≤ 2 ^ 16; exact Nat.pow_le_pow_right (by decide) c4)
    have pv := z_bs_end (fun l hl => (z_fab v4 (l := l) hl).2.2) (z_aw99 v5) v1 c6 (by decide) (by decide) (by decide) c4 hs hi bs
    refine bX3_leastCost_42 _ _ _ _ _ _ kk.1 ?_
    rw [c3, kk.2.2.1]
    refine ⟨fun _ => ⟨by omega, fun M2 e2 => h v M2 (fun a ha => by rw [e2, q_up_o ha]; exact f a ha) (fun s' h1 h2 => ?_) pv⟩, fun g => absurd (by omega) g⟩
    by_cases cs : s' = s
    · subst cs; rw [e2, q_up_s]; exact Or.inr ⟨bs.2.2.1, pv⟩
    · rw [e2, q_up_n (by omega)]; exact hm s' h1 h2
  | succ e ihe =>
    intro j v M ej hij f hV hC hm bs
    obtain ⟨v1, v2, v3, v4, v5, v6, v7, v8⟩ := id hV
    obtain ⟨c1, c2, c3, c4, c5, c6⟩ := id hC
    have kk := z_k3 c1
    have s16 : s < 65536 := Nat.lt_of_lt_of_le hs (by show 2 ^ n ≤ 2 ^ 16; exact Nat.pow_le_pow_right (by decide) c4)
    refine bX3_leastCost_42 _ _ _ _ _ _ kk.1 ?_
    rw [c3, q_bit0 (by omega) (by omega), q_add_eq (a := (j : Int)) (by omega), show (j : Int) + 1 = ((j + 1 : Nat) : Int) by omega]
    refine ⟨fun g => by omega, fun _ => ⟨fun tb => ihe (j + 1) v M (by omega) (by omega) f hV hC hm (z_bs_skip bs tb), fun tb => ?_⟩⟩
    have tb : s.testBit j = true := by simpa using tb
    refine z_costWith ih d M _ x w fo L F n s dp i j q (by omega) hV hC hm hs (by omega) hdp hi.1 tb hij (by omega) (fun t M' f' m' tm ht => k_min (by omega) ?_)
    exact ihe (j + 1) (min v t) M' (by omega) (by omega) (fun a ha => (f' a ha).trans (f a ha)) (z_V_9 hV f') (z_CQ_9 hC f') m' (z_bs_step bs hij tb tm)
theorem z_lc_all : ∀ c, z_LC c := by
  have z0 : ∀ {s n : Nat}, s < 2 ^ n → z_bc s n = 0 → s = 0 := by
    intro s n hs hb
    apply Classical.byContradiction
    intro c
    obtain ⟨i, hi, hl⟩ := z_low_ex (by omega) hs
    have : ∀ m, i < m → 0 < z_bc s m := by
      intro m
      induction m with
      | zero => intro h; omega
      | succ m ih =>
        intro h
        show 0 < z_bc s m + (if s.testBit m then 1 else 0)
        by_cases e : i = m
        · subst e; rw [hl.1]; simp
        · have := ih (by omega); omega
    have := this n hi
    omega
  have head : ∀ {d : Nat} {M : q_Mem} {K : Int → q_Mem → Prop} {x : Int} {w : Int → Int} {fo : Nat → Int} {L F n s dp : Nat} {q : Nat → Nat}, 1 ≤ d → z_V M w fo L F → z_CQ M x q F n → z_mo M w fo L q n → s < 2 ^ n → z_bc s n + 2 * dp ≤ 17 →
      (∀ v M', z_f9 M M' → z_mo M' w fo L q n → z_pc2 w fo L q s v → K v M') → (∀ i, z_low s i → i < n → q_v mX3_leastCost d (qPI K) M 42 [some (qR x), some (qI (s : Int)), some (qI (dp : Int)), some (qI (i : Int)), some (qI 536870912), some (qI ((i + 1 : Nat) : Int))] []) → q_v mX3_leastCost d (qPI K) M 0 [some (qR x), some (qI (s : Int)), some (qI (dp : Int)), none, none, none] [] := by
    intro d M K x w fo L F n s dp q hd hV hC hm hs hdp h hgo
    obtain ⟨c1, c2, c3, c4, c5, c6⟩ := id hC
    have kk := z_k3 c1
    have s16 : s < 65536 := Nat.lt_of_lt_of_le hs (by show 2 ^ n ≤ 2 ^ 16; exact Nat.pow_le_pow_right (by decide) c4)
    refine bX3_leastCost_0 _ _ _ kk.1 ⟨fun g => ?_, fun g => ?_⟩
    · have e : s = 0 := by omega
      subst e
      exact h 0 M (fun _ _ => rfl) hm (Or.inl ⟨0, 0, z_po_zero, rfl⟩)
    · obtain ⟨i, hi, hl⟩ := z_low_ex (show 0 < s by omega) hs
      rw [kk.2.2.1]
      refine ⟨fun _ => ⟨by omega, fun g2 => k_tz (by omega) s16 hl (by omega) (fun y ey => ?_), fun g2 => ⟨by omega, ?_⟩⟩, fun g2 => ?_⟩
      · rw [q_add_eq (by omega), show (i : Int) + 1 = ((i + 1 : Nat) : Int) by omega] at ey
        subst ey
        exact hgo i hl hi
      · rcases hm s (by omega) hs with e | ⟨_, e⟩
        · omega
        · exact h _ M (fun _ _ => rfl) hm e
      · exfalso
        have : z_bc s n ≠ 0 := fun e => g (by have := z0 hs e; omega)
        omega
  intro c
  induction c with
  | zero =>
    intro d M K x w fo L F n s dp q hd hV hC hm hs hb hdp h
    refine q_goI hd rfl (plainFor_of_name (by decide +kernel)) rfl (fun h => nomatch h) (Nat.le_of_ble_eq_true rfl) (fun d hd => head hd hV hC hm hs hdp h (fun i hl hi => ?_))
    obtain ⟨v1, v2, v3, v4, v5, v6, v7, v8⟩ := id hV
    obtain ⟨c1, c2, c3, c4, c5, c6⟩ := id hC
    have kk := z_k3 c1
    have s16 : s < 65536 := Nat.lt_of_lt_of_le hs (by show 2 ^ n ≤ 2 ^ 16; exact Nat.pow_le_pow_right (by decide) c4)
    have only : ∀ j, i < j → j < n → s.testBit j = false := by
      intro j h1 h2
      cases tb : s.testBit j
      · rfl
      · have := z_bc_wo2 hl.1 tb h1 n h2
        omega
    have run : ∀ (e j : Nat), j + e = n → i < j → z_bs (z_fa fo) (z_fb fo) (z_aw w) L q 1024 536870912 536870912 s i j 536870912 → q_v mX3_leastCost d (qPI K) M 42 [some (qR x), some (qI (s : Int)), some (qI (dp : Int)), some (qI (i : Int)), some (qI 536870912), some (qI (j : Int))] [] := by
      intro e
      induction e with
      | zero =>
        intro j ej hij bs
        have ej : j = n := by omega
        subst ej
        have pv := z_bs_end (fun l hl => (z_fab v4 (l := l) hl).2.2) (z_aw99 v5) v1 c6 (by decide) (by decide) (by decide) c4 hs hl bs
        refine bX3_leastCost_42 _ _ _ _ _ _ kk.1 ?_
        rw [c3, kk.2.2.1]
        refine ⟨fun _ => ⟨by omega, fun M2 e2 => h _ M2 (fun a ha => by rw [e2, q_up_o ha]) (fun s' h1 h2 => ?_) pv⟩, fun g => absurd (by omega) g⟩
        by_cases cs : s' = s
        · subst cs; rw [e2, q_up_s]; exact Or.inr ⟨by decide, pv⟩
        · rw [e2, q_up_n (by omega)]; exact hm s' h1 h2
      | succ e ihe =>
        intro j ej hij bs
        refine bX3_leastCost_42 _ _ _ _ _ _ kk.1 ?_
        rw [c3, q_bit0 (by omega) (by omega), q_add_eq (a := (j : Int)) (by omega), show (j : Int) + 1 = ((j + 1 : Nat) : Int) by omega]
        exact ⟨fun g => by omega, fun _ => ⟨fun tb => ihe (j + 1) (by omega) (by omega) (z_bs_skip bs tb), fun tb => absurd (only j hij (by omega)) tb⟩⟩
    exact run (n - (i + 1)) (i + 1) (by omega) (by omega) (z_bs_0 (by decide) (by decide) (by decide))
  | succ c ih =>
    intro d M K x w fo L F n s dp q hd hV hC hm hs hb hdp h
    refine q_goI (D := 2 * (c + 1) + 1) hd rfl (plainFor_of_name (by decide +kernel)) rfl (fun h => nomatch h) (Nat.le_of_ble_eq_true rfl) (fun d hd => head (by omega) hV hC hm hs hdp h (fun i hl hi => ?_))
    have hs0 : 0 < s := by have := z_low_ne hl; omega
    exact l_lc42 ih (by omega) hl hi hs hs0 (by omega) hdp (M0 := M) h (n - (i + 1)) (i + 1) 536870912 M (by omega) (by omega) (fun _ _ => rfl) hV hC hm (z_bs_0 (by decide) (by decide) (by decide))
