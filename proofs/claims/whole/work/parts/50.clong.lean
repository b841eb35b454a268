-- the class: sets sorted by worth, the longest rise
def z_eq1 (V : Nat → Int) (lo v : Int) (n : Nat) : Nat := z_cn (fun s => decide (V s - lo = v)) n
def z_lt1 (V : Nat → Int) (lo v : Int) (n : Nat) : Nat := z_cn (fun s => decide (V s - lo < v)) n
theorem z_lt1_succ {V : Nat → Int} {lo v : Int} : ∀ {n : Nat}, z_lt1 V lo (v + 1) n = z_lt1 V lo v n + z_eq1 V lo v n
  | 0 => rfl
  | n + 1 => by
    have ih := z_lt1_succ (V := V) (lo := lo) (v := v) (n := n)
    show z_lt1 V lo (v + 1) n + (if decide (V n - lo < v + 1) then 1 else 0) = z_lt1 V lo v n + (if decide (V n - lo < v) then 1 else 0) + (z_eq1 V lo v n + (if decide (V n - lo = v) then 1 else 0))
    by_cases a : V n - lo < v
    · rw [decide_eq_true a, decide_eq_true (show V n - lo < v + 1 by omega), decide_eq_false (show ¬ V n - lo = v by omega)]; simp; omega
    · by_cases b : V n - lo = v
      · rw [decide_eq_false a, decide_eq_true (show V n - lo < v + 1 by omega), decide_eq_true b]; simp; omega
      · rw [decide_eq_false a, decide_eq_false (show ¬ V n - lo < v + 1 by omega), decide_eq_false b]; simp; omega
theorem z_lt1_mono {V : Nat → Int} {lo v v' : Int} {n : Nat} (h : v ≤ v') : z_lt1 V lo v n ≤ z_lt1 V lo v' n := z_cn_mono (fun k hk => by rw [decide_eq_true_eq] at hk ⊢; omega)
theorem z_eq1_mono {V : Nat → Int} {lo v : Int} {n : Nat} : ∀ {m : Nat}, n ≤ m → z_eq1 V lo v n ≤ z_eq1 V lo v m
  | 0, h => by rw [show n = 0 by omega]; exact Nat.le_refl _
  | m + 1, h => by
    by_cases e : n = m + 1
    · subst e; exact Nat.le_refl _
    · have := z_eq1_mono (V := V) (lo := lo) (v := v) (n := n) (m := m) (by omega)
      show z_eq1 V lo v n ≤ z_eq1 V lo v m + _
      omega
def z_pos (V : Nat → Int) (lo : Int) (n s : Nat) : Nat := z_lt1 V lo (V s - lo) n + z_eq1 V lo (V s - lo) s
theorem z_pos_lt {V : Nat → Int} {lo : Int} {n s : Nat} (hs : s < n) : z_pos V lo n s + 1 ≤ z_lt1 V lo (V s - lo + 1) n := by
  rw [z_lt1_succ]
  have : z_eq1 V lo (V s - lo) (s + 1) = z_eq1 V lo (V s - lo) s + 1 := by
    show z_eq1 V lo (V s - lo) s + (if decide (V s - lo = V s - lo) then 1 else 0) = _
    simp
  have := z_eq1_mono (V := V) (lo := lo) (v := V s - lo) (n := s + 1) (m := n) hs
  unfold z_pos
  omega
theorem z_pos_n {V : Nat → Int} {lo : Int} {n s : Nat} (hs : s < n) : z_pos V lo n s < n := by
  have := z_pos_lt (V := V) (lo := lo) hs
  have : z_lt1 V lo (V s - lo + 1) n ≤ n := z_cn_le
  omega
theorem z_pos_v {V : Nat → Int} {lo : Int} {n s t : Nat} (hs : s < n) (h : V s < V t) : z_pos V lo n s < z_pos V lo n t := by
  have a := z_pos_lt (V := V) (lo := lo) hs
  have b := z_lt1_mono (V := V) (lo := lo) (v := V s - lo + 1) (v' := V t - lo) (n := n) (by omega)
  unfold z_pos at *
  omega
theorem z_pos_e {V : Nat → Int} {lo : Int} {n s t : Nat} (h : V s = V t) (hst : s < t) : z_pos V lo n s < z_pos V lo n t := by
  unfold z_pos
  rw [← h]
  have : z_eq1 V lo (V s - lo) (s + 1) = z_eq1 V lo (V s - lo) s + 1 := by
    show z_eq1 V lo (V s - lo) s + (if decide (V s - lo = V s - lo) then 1 else 0) = _
    simp
  have := z_eq1_mono (V := V) (lo := lo) (v := V s - lo) (n := s + 1) (m := t) hst
  omega
theorem z_pos_inj {V : Nat → Int} {lo : Int} {n s t : Nat} (hs : s < n) (ht : t < n) (h : s ≠ t) : z_pos V lo n s ≠ z_pos V lo n t := by
  by_cases a : V s < V t
  · have := z_pos_v (V := V) (lo := lo) hs a; omega
  · by_cases b : V t < V s
    · have := z_pos_v (V := V) (lo := lo) ht b; omega
    · by_cases c : s < t
      · have := z_pos_e (V := V) (lo := lo) (n := n) (show V s = V t by omega) c; omega
      · have := z_pos_e (V := V) (lo := lo) (n := n) (show V t = V s by omega) (show t < s by omega); omega
/-- every place is taken -/
theorem z_pos_all {V : Nat → Int} {lo : Int} {n i : Nat} (hi : i < n) : ∃ s, s < n ∧ z_pos V lo n s = i := by
  have cnt : ∀ m, m ≤ n → z_cn (fun i => z_any (fun s => z_pos V lo n s == i) m) n = m := by
    intro m
    induction m with
    | zero =>
      intro _
      have : ∀ k, z_cn (fun _ => false) k = 0 := by
        intro k
        induction k with
        | zero => rfl
        | succ k ih => show z_cn (fun _ => false) k + 0 = 0; rw [ih]
      exact this n
    | succ m ih =>
      intro hm
      have nohit : z_any (fun s => z_pos V lo n s == z_pos V lo n m) m = false := by
        cases c : z_any (fun s => z_pos V lo n s == z_pos V lo n m) m
        · rfl
        · exfalso
          have : ∀ k, k ≤ m → z_any (fun s => z_pos V lo n s == z_pos V lo n m) k = false := by
            intro k
            induction k with
            | zero => intro _; rfl
            | succ k ihk =>
              intro hk
              show (z_any (fun s => z_pos V lo n s == z_pos V lo n m) k || (z_pos V lo n k == z_pos V lo n m)) = false
              rw [ihk (by omega), beq_eq_false_iff_ne.mpr (z_pos_inj (by omega) (by omega) (by omega))]
              rfl
          rw [this m (Nat.le_refl _)] at c
          cases c
      have := z_cn_add (p := fun i => z_any (fun s => z_pos V lo n s == i) m) (q := fun i => z_any (fun s => z_pos V lo n s == i) (m + 1)) (n := n) (c := z_pos V lo n m) (z_pos_n (by omega)) nohit (by show (z_any _ m || (z_pos V lo n m == z_pos V lo n m)) = true; simp) (fun k hk => by
        show z_any (fun s => z_pos V lo n s == k) m = (z_any (fun s => z_pos V lo n s == k) m || (z_pos V lo n m == k))
        rw [beq_eq_false_iff_ne.mpr (fun e => hk e.symm), Bool.or_false])
      rw [this, ih (by omega)]
  have hit := z_cn_full (cnt n (Nat.le_refl _)) i hi
  have ex : ∀ m, z_any (fun s => z_pos V lo n s == i) m = true → ∃ s, s < m ∧ z_pos V lo n s = i := by
    intro m
    induction m with
    | zero => intro h; cases h
    | succ m ih =>
      intro h
      have h : (z_any (fun s => z_pos V lo n s == i) m || (z_pos V lo n m == i)) = true := h
      rw [Bool.or_eq_true] at h
      rcases h with h | h
      · obtain ⟨s, a, b⟩ := ih h
        exact ⟨s, by omega, b⟩
      · exact ⟨m, by omega, beq_iff_eq.mp h⟩
  exact ex n hit
/-- sets in their order -/
def z_srt (o : Int → Int) (r : Int → Int) : Prop := ∀ s : Nat, s < 2 ^ z_N o → r (z_pos (z_V2 o) (z_lo (z_V2 o) (2 ^ z_N o)) (2 ^ z_N o) s : Int) = (s : Int)
theorem z_rng {o : Int → Int} (hn : z_net o) : (0 ≤ z_hi (z_V2 o) (2 ^ z_N o) ∧ z_hi (z_V2 o) (2 ^ z_N o) ≤ 1584) ∧ (-1584 ≤ z_lo (z_V2 o) (2 ^ z_N o) ∧ z_lo (z_V2 o) (2 ^ z_N o) ≤ 0) := z_hi_bd (by decide) (fun s => z_V2_bd hn) _
theorem l_so98 {d : Nat} {K : q_Mem → Prop} {M0 : q_Mem} {o : Int → Int} (hn : z_net o) (ht : z_CT o M0) (h : ∀ M', z_cf [120, 122] M0 M' → z_srt o (M' 120) → K M') :
    ∀ (j i : Nat) (M : q_Mem), i + j = 2 ^ z_N o → z_cf [120, 122] M0 M → (∀ v : Nat, (v : Int) ≤ z_hi (z_V2 o) (2 ^ z_N o) - z_lo (z_V2 o) (2 ^ z_N o) → M 122 v = ((z_lt1 (z_V2 o) (z_lo (z_V2 o) (2 ^ z_N o)) v (2 ^ z_N o) + z_eq1 (z_V2 o) (z_lo (z_V2 o) (2 ^ z_N o)) v i : Nat) : Int)) → (∀ s : Nat, s < i → M 120 (z_pos (z_V2 o) (z_lo (z_V2 o) (2 ^ z_N o)) (2 ^ z_N o) s : Int) = (s : Int)) →
      q_v mX8_sortByWorth d (qPU K) M 98 [some (qR 117), some (qI (i : Int)), none] [] := by
  have p10 := z_2N hn
  have rg := z_rng hn
  intro j
  induction j with
  | zero =>
    intro i M e f t q
    have ei : i = 2 ^ z_N o := by omega
    subst ei
    have tM := z_CT_cf ht f (by decide) (by decide)
    refine bX8_sortByWorth_98 _ ?_
    rw [tM.2.1]
    exact ⟨fun _ => h M f q, fun g => absurd (by omega) g⟩
  | succ j ih =>
    intro i M e f t q
    have tM := z_CT_cf ht f (by decide) (by decide)
    have vl := z_lo_le (V := z_V2 o) (n := 2 ^ z_N o) (s := i) (by omega)
    have vh := z_hi_ge (V := z_V2 o) (n := 2 ^ z_N o) (s := i) (by omega)
    have pn := z_pos_n (V := z_V2 o) (lo := z_lo (z_V2 o) (2 ^ z_N o)) (n := 2 ^ z_N o) (s := i) (by omega)
    have tv := t (z_V2 o i - z_lo (z_V2 o) (2 ^ z_N o)).toNat (by omega)
    have ev : (((z_V2 o i - z_lo (z_V2 o) (2 ^ z_N o)).toNat : Nat) : Int) = z_V2 o i - z_lo (z_V2 o) (2 ^ z_N o) := by omega
    rw [ev] at tv
    have tv : M 122 (z_V2 o i - z_lo (z_V2 o) (2 ^ z_N o)) = (z_pos (z_V2 o) (z_lo (z_V2 o) (2 ^ z_N o)) (2 ^ z_N o) i : Int) := tv
    refine bX8_sortByWorth_98 _ ?_
    rw [tM.2.1, tM.2.2.2.2 i (by omega), tM.2.2.2.1, q_sub_eq (by omega), q_add_eq (a := (i : Int)) (by omega), show (i : Int) + 1 = ((i + 1 : Nat) : Int) by omega]
    refine ⟨fun g => by omega, fun _ => ⟨by omega, fun x ex => ?_⟩⟩
    subst ex
    rw [tv]
    refine ⟨by omega, by omega, fun M5 e5 => ⟨by omega, by omega, fun M8 e8 => ?_⟩⟩
    rw [show M5 122 = M 122 by rw [e5, q_up_o (by decide)], tv, q_add_eq (by omega)] at e8
    refine ih (i + 1) M8 (by omega) (z_cf_u (z_cf_u f e5 (by decide)) e8 (by decide)) (fun v hv => ?_) (fun s hs => ?_)
    · have es : z_eq1 (z_V2 o) (z_lo (z_V2 o) (2 ^ z_N o)) v (i + 1) = z_eq1 (z_V2 o) (z_lo (z_V2 o) (2 ^ z_N o)) v i + (if decide (z_V2 o i - z_lo (z_V2 o) (2 ^ z_N o) = (v : Int)) then 1 else 0) := rfl
      rw [es, e8]
      by_cases c : z_V2 o i - z_lo (z_V2 o) (2 ^ z_N o) = (v : Int)
      · rw [decide_eq_true c, ← c, q_up_s]
        unfold z_pos
        simp
        omega
      · rw [decide_eq_false c, q_up_n (fun x => c x.symm), e5, q_up_o (by decide), t v hv]
        simp
    · rw [e8, q_up_o (by decide), e5]
      by_cases c : s = i
      · subst c; rw [q_up_s]
      · have := z_pos_inj (V := z_V2 o) (lo := z_lo (z_V2 o) (2 ^ z_N o)) (n := 2 ^ z_N o) (s := s) (t := i) (by omega) (by omega) c
        rw [q_up_n (by omega)]
        exact q s (by omega)
theorem l_so60 {d : Nat} {K : q_Mem → Prop} {M0 : q_Mem} {o : Int → Int} (hn : z_net o) (ht : z_CT o M0) (h : ∀ M', z_cf [120, 122] M0 M' → z_srt o (M' 120) → K M') :
    ∀ (j i : Nat) (M : q_Mem), ((i + j : Nat) : Int) = z_hi (z_V2 o) (2 ^ z_N o) - z_lo (z_V2 o) (2 ^ z_N o) + 1 → 0 < i → z_cf [120, 122] M0 M → (∀ v : Nat, v < i → M 122 v = (z_lt1 (z_V2 o) (z_lo (z_V2 o) (2 ^ z_N o)) v (2 ^ z_N o) : Int)) → (∀ v : Nat, i ≤ v → (v : Int) ≤ z_hi (z_V2 o) (2 ^ z_N o) - z_lo (z_V2 o) (2 ^ z_N o) → M 122 v = (z_eq1 (z_V2 o) (z_lo (z_V2 o) (2 ^ z_N o)) ((v : Int) - 1) (2 ^ z_N o) : Int)) →
      q_v mX8_sortByWorth d (qPU K) M 60 [some (qR 117), some (qI (i : Int)), none] [] := by
  have p10 := z_2N hn
  have rg := z_rng hn
  intro j
  induction j with
  | zero =>
    intro i M e h0 f t1 t2
    have tM := z_CT_cf ht f (by decide) (by decide)
    refine bX8_sortByWorth_60 _ ?_
    rw [tM.2.2.1, tM.2.2.2.1, q_sub_eq (by omega)]
    exact ⟨fun _ => l_so98 hn ht h (2 ^ z_N o) 0 M (by omega) f (fun v hv => by rw [t1 v (by omega)]; rfl) (fun s hs => by omega), fun g => absurd (by omega) g⟩
  | succ j ih =>
    intro i M e h0 f t1 t2
    have tM := z_CT_cf ht f (by decide) (by decide)
    have l1 : z_lt1 (z_V2 o) (z_lo (z_V2 o) (2 ^ z_N o)) ((i : Int) - 1) (2 ^ z_N o) ≤ 2 ^ z_N o := z_cn_le
    have l2 : z_eq1 (z_V2 o) (z_lo (z_V2 o) (2 ^ z_N o)) ((i : Int) - 1) (2 ^ z_N o) ≤ 2 ^ z_N o := z_cn_le
    have a1 := t1 (i - 1) (by omega)
    rw [show (((i - 1 : Nat)) : Int) = (i : Int) - 1 by omega] at a1
    refine bX8_sortByWorth_60 _ ?_
    rw [tM.2.2.1, tM.2.2.2.1, q_sub_eq (a := z_hi (z_V2 o) (2 ^ z_N o)) (by omega), q_sub_eq (a := (i : Int)) (by omega), a1, t2 i (by omega) (by omega), q_add_eq (by omega), q_add_eq (a := (i : Int)) (by omega), show (i : Int) + 1 = ((i + 1 : Nat) : Int) by omega]
    refine ⟨fun g => by omega, fun _ => ⟨by omega, by omega, by omega, fun M4 e4 => ih (i + 1) M4 (by omega) (by omega) (z_cf_u f e4 (by decide)) (fun v hv => ?_) (fun v hv hv2 => ?_)⟩⟩
    · by_cases c : v = i
      · subst c
        rw [e4, q_up_s]
        have := z_lt1_succ (V := z_V2 o) (lo := z_lo (z_V2 o) (2 ^ z_N o)) (v := (v : Int) - 1) (n := 2 ^ z_N o)
        rw [show (v : Int) - 1 + 1 = (v : Int) by omega] at this
        omega
      · rw [e4, q_up_n (by omega)]; exact t1 v (by omega)
    · rw [e4, q_up_n (by omega)]; exact t2 v (by omega) hv2
theorem l_so22 {d : Nat} {K : q_Mem → Prop} {M0 : q_Mem} {o : Int → Int} (hn : z_net o) (ht : z_CT o M0) (h : ∀ M', z_cf [120, 122] M0 M' → z_srt o (M' 120) → K M') :
    ∀ (j i : Nat) (M : q_Mem), i + j = 2 ^ z_N o → z_cf [120, 122] M0 M → M 122 0 = 0 → (∀ v : Nat, 0 < v → (v : Int) ≤ z_hi (z_V2 o) (2 ^ z_N o) - z_lo (z_V2 o) (2 ^ z_N o) + 1 → M 122 v = (z_eq1 (z_V2 o) (z_lo (z_V2 o) (2 ^ z_N o)) ((v : Int) - 1) i : Int)) →
      q_v mX8_sortByWorth d (qPU K) M 22 [some (qR 117), some (qI (i : Int)), none] [] := by
  have p10 := z_2N hn
  have rg := z_rng hn
  intro j
  induction j with
  | zero =>
    intro i M e f t0 t
    have ei : i = 2 ^ z_N o := by omega
    have tM := z_CT_cf ht f (by decide) (by decide)
    refine bX8_sortByWorth_22 _ ?_
    rw [tM.2.1]
    refine ⟨fun _ => ?_, fun g => absurd (by omega) g⟩
    refine l_so60 hn ht h (z_hi (z_V2 o) (2 ^ z_N o) - z_lo (z_V2 o) (2 ^ z_N o)).toNat 1 M (by omega) (by decide) f (fun v hv => ?_) (fun v hv hv2 => by rw [t v (by omega) (by omega), ei])
    rw [show v = 0 by omega]
    show M 122 0 = _
    rw [t0]
    have : z_lt1 (z_V2 o) (z_lo (z_V2 o) (2 ^ z_N o)) ((0 : Nat) : Int) (2 ^ z_N o) = z_cn (fun _ => false) (2 ^ z_N o) := z_cn_congr (fun k hk => decide_eq_false (by have := z_lo_le (V := z_V2 o) hk; omega))
    have z : ∀ k, z_cn (fun _ => false) k = 0 := by
      intro k
      induction k with
      | zero => rfl
      | succ k ih => show z_cn (fun _ => false) k + 0 = 0; rw [ih]
    rw [this, z]
    rfl
  | succ j ih =>
    intro i M e f t0 t
    have tM := z_CT_cf ht f (by decide) (by decide)
    have vl := z_lo_le (V := z_V2 o) (n := 2 ^ z_N o) (s := i) (by omega)
    have vh := z_hi_ge (V := z_V2 o) (n := 2 ^ z_N o) (s := i) (by omega)
    have l2 : z_eq1 (z_V2 o) (z_lo (z_V2 o) (2 ^ z_N o)) (z_V2 o i - z_lo (z_V2 o) (2 ^ z_N o)) i ≤ i := z_cn_le
    have tv := t (z_V2 o i - z_lo (z_V2 o) (2 ^ z_N o) + 1).toNat (by omega) (by omega)
    rw [show (((z_V2 o i - z_lo (z_V2 o) (2 ^ z_N o) + 1).toNat : Nat) : Int) = z_V2 o i - z_lo (z_V2 o) (2 ^ z_N o) + 1 by omega, show z_V2 o i - z_lo (z_V2 o) (2 ^ z_N o) + 1 - 1 = z_V2 o i - z_lo (z_V2 o) (2 ^ z_N o) by omega] at tv
    refine bX8_sortByWorth_22 _ ?_
    rw [tM.2.1, tM.2.2.2.2 i (by omega), tM.2.2.2.1, q_sub_eq (by omega), q_add_eq (a := z_V2 o i - z_lo (z_V2 o) (2 ^ z_N o)) (by omega), tv, q_add_eq (a := (i : Int)) (by omega), show (i : Int) + 1 = ((i + 1 : Nat) : Int) by omega, q_add_eq (by omega)]
    refine ⟨fun g => by omega, fun _ => ⟨by omega, by omega, by omega, fun M4 e4 => ih (i + 1) M4 (by omega) (z_cf_u f e4 (by decide)) (by rw [e4, q_up_n (by omega)]; exact t0) (fun v hv hv2 => ?_)⟩⟩
    have es : z_eq1 (z_V2 o) (z_lo (z_V2 o) (2 ^ z_N o)) ((v : Int) - 1) (i + 1) = z_eq1 (z_V2 o) (z_lo (z_V2 o) (2 ^ z_N o)) ((v : Int) - 1) i + (if decide (z_V2 o i - z_lo (z_V2 o) (2 ^ z_N o) = (v : Int) - 1) then 1 else 0) := rfl
    rw [es, e4]
    by_cases c : z_V2 o i - z_lo (z_V2 o) (2 ^ z_N o) = (v : Int) - 1
    · rw [decide_eq_true c, show (v : Int) = z_V2 o i - z_lo (z_V2 o) (2 ^ z_N o) + 1 by omega, q_up_s, show z_V2 o i - z_lo (z_V2 o) (2 ^ z_N o) + 1 - 1 = z_V2 o i - z_lo (z_V2 o) (2 ^ z_N o) by omega]
      simp
    · rw [decide_eq_false c, q_up_n (by omega), t v hv hv2]
      simp
theorem k_sort {d : Nat} {M : q_Mem} {K : q_Mem → Prop} {o : Int → Int} (hd : 2 < d) (hn : z_net o) (ht : z_CT o M) (h : ∀ M', z_cf [120, 122] M M' → z_srt o (M' 120) → K M') : q_kU yX8_sortByWorth mX8_sortByWorth d [qR 117] M K := by
  have p10 := z_2N hn
  have rg := z_rng hn
  refine q_goU hd rfl (plainFor_of_name (by decide +kernel)) rfl (fun h => nomatch h) (Nat.le_of_ble_eq_true rfl) (fun d hd => bX8_sortByWorth_0 ?_)
  rw [ht.2.2.1, ht.2.2.2.1, q_sub_eq (by omega), q_add_eq (by omega)]
  refine k_fill3 (by omega) (by decide +kernel) (by decide) (by omega) (by rw [show q_ln 122 = 3170 by decide +kernel]; omega) (by omega) ?_
  refine l_so22 (M0 := M) hn ht h (2 ^ z_N o) 0 _ (by omega) (fun a ha => z_fill_o (fun e => ha (by rw [e]; decide))) (z_fill_s (by omega)) (fun v hv hv2 => ?_)
  rw [z_fill_s (by omega)]
  rfl
theorem l_lr28 {d : Nat} {K : Int → q_Mem → Prop} {M : q_Mem} {o : Int → Int} (hd : 1 ≤ d) (hn : z_net o) (ht : z_CT o M) {sd s : Nat} {x2 : Int} (hs : s < 2 ^ z_N o) (hk : ∀ t : Nat, t < 2 ^ z_N o → z_V2 o s < z_V2 o t → M 119 t = (z_Lg (z_V2 o) (z_N o) t : Int)) (hsd : sd < 2 ^ z_N o)
    (h : ∀ M2, M2 = q_up M 119 s (z_Lg (z_V2 o) (z_N o) s : Int) → (s = sd → K (z_Lg (z_V2 o) (z_N o) s : Int) M2) ∧ (s ≠ sd → q_v mX8_longestRise d (qPI K) M2 11 [some (qR 117), some (qI (sd : Int)), some (qI (q_add x2 (-1))), none, none, none, none] [])) :
    ∀ (j n : Nat), n + j = z_N o → q_v mX8_longestRise d (qPI K) M 28 [some (qR 117), some (qI (sd : Int)), some (qI x2), some (qI (s : Int)), some (qI (z_mxn (fun n => if z_V2 o s < z_V2 o (s ^^^ 2 ^ n) then z_Lg (z_V2 o) (z_N o) (s ^^^ 2 ^ n) + 1 else 0) n : Int)), some (qI (n : Int)), none] [] := by
  have p10 := z_2N hn
  have hN := z_net_N10 hn
  intro j
  induction j with
  | zero =>
    intro n e
    have en : n = z_N o := by omega
    subst en
    refine bX8_longestRise_28 _ _ _ _ _ ?_
    rw [ht.1, ← z_Lg_eq hs]
    refine ⟨fun _ => ⟨by omega, fun M2 e2 => ⟨fun g => (h M2 e2).2 (by omega), fun g => ⟨by omega, ?_⟩⟩⟩, fun g => absurd (by omega) g⟩
    have es : s = sd := by omega
    have := (h M2 e2).1 es
    rw [← es]
    rw [show M2 119 (s : Int) = (z_Lg (z_V2 o) (z_N o) s : Int) by rw [e2, q_up_s]]
    exact this
  | succ j ih =>
    intro n e
    have fl := z_flip_lt hs (n := n) (by omega)
    have nx := ih (n + 1) (by omega)
    have lt := z_Lg_1024 (V := z_V2 o) fl
    have ex : z_mxn (fun n => if z_V2 o s < z_V2 o (s ^^^ 2 ^ n) then z_Lg (z_V2 o) (z_N o) (s ^^^ 2 ^ n) + 1 else 0) (n + 1) = max (z_mxn (fun n => if z_V2 o s < z_V2 o (s ^^^ 2 ^ n) then z_Lg (z_V2 o) (z_N o) (s ^^^ 2 ^ n) + 1 else 0) n) (if z_V2 o s < z_V2 o (s ^^^ 2 ^ n) then z_Lg (z_V2 o) (z_N o) (s ^^^ 2 ^ n) + 1 else 0) := rfl
    refine bX8_longestRise_28 _ _ _ _ _ ?_
    rw [ht.1, q_xor1 (by omega) (by omega), q_add_eq (a := (n : Int)) (by omega)]
    refine ⟨fun g => by omega, fun _ x e2 => ?_⟩
    subst e2
    rw [ht.2.2.2.2 _ fl, ht.2.2.2.2 _ hs]
    refine ⟨by omega, by omega, fun g => ?_, fun g => ⟨by omega, ?_⟩⟩
    · rw [ex, if_neg (by omega)] at nx
      simpa using nx
    · rw [hk _ fl (by omega), q_add_eq (by omega)]
      refine k_max (by omega) ?_
      rw [ex, if_pos (by omega)] at nx
      rw [show max (z_mxn (fun n => if z_V2 o s < z_V2 o (s ^^^ 2 ^ n) then z_Lg (z_V2 o) (z_N o) (s ^^^ 2 ^ n) + 1 else 0) n : Int) ((z_Lg (z_V2 o) (z_N o) (s ^^^ 2 ^ n) : Int) + 1) = ((max (z_mxn (fun n => if z_V2 o s < z_V2 o (s ^^^ 2 ^ n) then z_Lg (z_V2 o) (z_N o) (s ^^^ 2 ^ n) + 1 else 0) n) (z_Lg (z_V2 o) (z_N o) (s ^^^ 2 ^ n) + 1) : Nat) : Int) by omega]
      exact nx
theorem l_lr11 {d : Nat} {K : Int → q_Mem → Prop} {M0 : q_Mem} {o : Int → Int} (hd : 1 ≤ d) (hn : z_net o) (ht : z_CT o M0) (hso : z_srt o (M0 120)) {sd : Nat} (hsd : sd < 2 ^ z_N o) (h : ∀ M', z_cf [119] M0 M' → K (z_Lg (z_V2 o) (z_N o) sd : Int) M') :
    ∀ (i : Nat) (M : q_Mem), i ≤ 2 ^ z_N o → z_cf [119] M0 M → (∀ s : Nat, s < 2 ^ z_N o → i ≤ z_pos (z_V2 o) (z_lo (z_V2 o) (2 ^ z_N o)) (2 ^ z_N o) s → M 119 s = (z_Lg (z_V2 o) (z_N o) s : Int)) → q_v mX8_longestRise d (qPI K) M 11 [some (qR 117), some (qI (sd : Int)), some (qI ((i : Int) - 1)), none, none, none, none] [] := by
  have p10 := z_2N hn
  intro i
  induction i with
  | zero =>
    intro M hi f q
    refine bX8_longestRise_11 _ _ ⟨fun _ => ⟨by omega, ?_⟩, fun g => absurd (by omega) g⟩
    rw [q sd hsd (by omega)]
    exact h M f
  | succ i ih =>
    intro M hi f q
    obtain ⟨s, hs, ps⟩ := z_pos_all (V := z_V2 o) (lo := z_lo (z_V2 o) (2 ^ z_N o)) (n := 2 ^ z_N o) (i := i) (by omega)
    have os := hso s hs
    rw [ps] at os
    refine bX8_longestRise_11 _ _ ⟨fun g => by omega, fun _ => ?_⟩
    rw [show ((i + 1 : Nat) : Int) - 1 = (i : Int) by omega, f 120 (by decide), os]
    refine ⟨by omega, fun x ex => ?_⟩
    subst ex
    have := l_lr28 (d := d) (K := K) (M := M) (x2 := (i : Int)) hd hn (z_CT_cf ht f (by decide) (by decide)) (sd := sd) hs (fun t ht2 g => q t ht2 (by have := z_pos_v (V := z_V2 o) (lo := z_lo (z_V2 o) (2 ^ z_N o)) hs g; omega)) hsd (fun M2 e2 => ⟨fun g => by rw [← g] at h; exact h M2 (z_cf_u f e2 (by decide)), fun g => ?_⟩) (z_N o) 0 (by omega)
    · exact this
    · rw [q_add_eq (by omega), show (i : Int) + -1 = (i : Int) - 1 by omega]
      refine ih M2 (by omega) (z_cf_u f e2 (by decide)) (fun t ht2 hp => ?_)
      by_cases c : t = s
      · subst c; rw [e2, q_up_s]
      · have := z_pos_inj (V := z_V2 o) (lo := z_lo (z_V2 o) (2 ^ z_N o)) (n := 2 ^ z_N o) ht2 hs c
        rw [e2, q_up_n (by omega)]
        exact q t ht2 (by omega)
theorem k_clongest {d : Nat} {M : q_Mem} {K : Int → q_Mem → Prop} {o : Int → Int} {sd : Nat} (hd : 3 < d) (hn : z_net o) (ht : z_CT o M) (hsd : sd < 2 ^ z_N o) (h : ∀ M', z_cf [119, 120, 122] M M' → K (z_Lg (z_V2 o) (z_N o) sd : Int) M') : q_kI yX8_longestRise mX8_longestRise d [qR 117, qI (sd : Int)] M K :=
  q_goI hd rfl (plainFor_of_name (by decide +kernel)) rfl (fun h => nomatch h) (Nat.le_of_ble_eq_true rfl) (fun d hd => bX8_longestRise_0 _ (k_sort (by omega) hn ht (fun M1 f1 s1 x ex => by
    have p10 := z_2N hn
    have t1 := z_CT_cf ht f1 (by decide) (by decide)
    rw [t1.2.1, q_sub_eq (by omega)] at ex
    subst ex
    exact l_lr11 (M0 := M1) (by omega) hn t1 s1 hsd (fun M' f' => h M' (z_cf_tr (z_cf_mono f1 (by decide)) (z_cf_mono f' (by decide)))) (2 ^ z_N o) M1 (Nat.le_refl _) z_cf_rf (fun s hs hp => by have := z_pos_n (V := z_V2 o) (lo := z_lo (z_V2 o) (2 ^ z_N o)) hs; omega))))
