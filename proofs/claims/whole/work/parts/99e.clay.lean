-- the class lays a net out
theorem d_rs_pre {D : p_D} {m k : Nat} : ∀ j, ∃ e, d_rs D m (k + j) = d_rs D m k ++ e
  | 0 => ⟨[], (List.append_nil _).symm⟩
  | j + 1 => by
    obtain ⟨e, q⟩ := d_rs_pre (D := D) (m := m) (k := k) j
    by_cases c : d_on D (k + j) m = true ∧ (k + j) ∉ d_r D m
    · exact ⟨e ++ [k + j], by show (if d_on D (k + j) m = true ∧ (k + j) ∉ d_r D m then d_rs D m (k + j) ++ [k + j] else d_rs D m (k + j)) = _; rw [if_pos c, q, List.append_assoc]⟩
    · exact ⟨e, by show (if d_on D (k + j) m = true ∧ (k + j) ∉ d_r D m then d_rs D m (k + j) ++ [k + j] else d_rs D m (k + j)) = _; rw [if_neg c, q]⟩
theorem l_app_left {l : List Nat} {k x : Nat} (h : k < l.length) : (l ++ [x]).getD k 0 = l.getD k 0 := by
  rw [List.getD_eq_getElem?_getD, List.getD_eq_getElem?_getD, List.getElem?_append_left h]
def g_52 (m : Nat) (M M' : q_Mem) : Prop := (∀ a, a ≠ 52 → M' a = M a) ∧ ∀ j : Int, (j < 16 * (m : Int) ∨ 16 * (m : Int) + 16 ≤ j) → M' 52 j = M 52 j
def z_ent (M : q_Mem) (m : Nat) (l : List Nat) : Prop := ∀ i : Nat, i < l.length → M 52 (16 * (m : Int) + (i : Int)) = (l.getD i 0 : Int)
theorem c_D_52 {p : Int} {D : p_D} {M M' : q_Mem} (h : c_D p D M) (f : ∀ a, a ≠ 50 → a ≠ 51 → a ≠ 52 → M' a = M a) : c_D p D M' := c_D_eq h (fun a g1 g2 => by have := h.1; exact f a (by omega) (by omega) (by omega))
theorem l_lr32 {n d m : Nat} {s : p_S} {p : Int} {D : p_D} {M0 : q_Mem} {K : q_Mem → Prop} (hd : 1 ≤ d) (hm : m < 10) (hok : d_ok n s D) (hc : c_D p D M0) (h : ∀ M', g_52 m M0 M' → z_ent M' m (d_rg D m) → K M') :
    ∀ (j i : Nat) (M : q_Mem), i + j = d_L D → g_52 m M0 M → z_ent M m (d_r D m ++ d_rs D m i) → q_v mX4_layRound d (qPU K) M 32 [some (qR p), some (qI (m : Int)), some (qR 52), some (qI (16 * (m : Int))), some (qI ((d_r D m ++ d_rs D m i).length : Int)), some (qI (i : Int))] [] := by
  have kp := c_kp hc.1
  have L16 := hok.2.1
  have r16 := Nat.le_trans (d_r_16 hok (m := m)) L16
  have rgl := d_rg_len hok (m := m)
  have e16 := d_rs_16 hok (m := m) (16 - d_L D)
  rw [show d_L D + (16 - d_L D) = 16 by omega] at e16
  intro j
  induction j with
  | zero =>
    intro i M e f z
    have ei : i = d_L D := by omega
    subst ei
    have cD : c_D p D M := c_D_52 hc (fun a _ _ g => f.1 a g)
    refine bX4_layRound_32 _ _ _ _ _ _ kp (by decide +kernel) ⟨fun _ => h M f (by unfold d_rg; rw [e16]; exact z), fun g => absurd (by rw [cD.2.2.1]; omega) g⟩
  | succ j ih =>
    intro i M e f z
    have cD : c_D p D M := c_D_52 hc (fun a _ _ g => f.1 a g)
    have st : d_rs D m (i + 1) = if d_on D i m = true ∧ i ∉ d_r D m then d_rs D m i ++ [i] else d_rs D m i := rfl
    obtain ⟨ex, eq⟩ := d_rs_pre (D := D) (m := m) (k := i) (16 - i)
    rw [show i + (16 - i) = 16 by omega] at eq
    have nx : ¬ (d_on D i m = true ∧ i ∉ d_r D m) → q_v mX4_layRound d (qPU K) M 32 [some (qR p), some (qI (m : Int)), some (qR 52), some (qI (16 * (m : Int))), some (qI ((d_r D m ++ d_rs D m i).length : Int)), some (qI (q_add (i : Int) 1))] [] := fun q => by
      have := ih (i + 1) M (by omega) f (by rw [st, if_neg q]; exact z)
      rw [st, if_neg q] at this
      rw [q_add_eq (by omega), show (i : Int) + 1 = ((i + 1 : Nat) : Int) by omega]
      exact this
    refine bX4_layRound_32 _ _ _ _ _ _ kp (by decide +kernel) ⟨fun g => absurd g (by rw [cD.2.2.1]; omega), fun _ => ⟨fun g => ?_, fun g => ?_⟩⟩
    · have : d_rg D m = d_r D m ++ d_rs D m i := by
        have l : (d_rg D m).length = (d_r D m ++ d_rs D m i).length + ex.length := by
          unfold d_rg
          rw [eq, ← List.append_assoc, List.length_append]
        have : ex = [] := List.length_eq_zero_iff.mp (by omega)
        unfold d_rg
        rw [eq, this, List.append_nil]
      exact h M f (by rw [this]; exact z)
    · refine cq_touches (by omega) cD (by omega) L16 (fun on => ⟨fun q => absurd q (by decide), fun _ => cq_lies (by omega) hm cD r16 (fun mem => ⟨fun _ => nx (fun q => q.2 mem), fun q => absurd q (by decide)⟩) (fun mem => ⟨fun q => absurd rfl q, fun _ => ?_⟩)⟩) (fun on => ⟨fun _ => nx (fun q => on q.1), fun q => absurd rfl q⟩)
      rw [q_add_eq (a := 16 * (m : Int)) (by omega)]
      refine ⟨⟨by omega, by rw [show q_ln 52 = 160 by decide +kernel]; omega⟩, fun M6 e6 => ?_⟩
      have f6 : g_52 m M0 M6 := ⟨fun a g => by rw [e6, q_up_o g]; exact f.1 a g, fun j hj => by rw [e6, q_up_n (by omega)]; exact f.2 j hj⟩
      have al : d_r D m ++ d_rs D m (i + 1) = (d_r D m ++ d_rs D m i) ++ [i] := by rw [st, if_pos ⟨on, mem⟩, List.append_assoc]
      have z6 : z_ent M6 m (d_r D m ++ d_rs D m (i + 1)) := by
        rw [al]
        intro k hk
        rw [List.length_append, List.length_singleton] at hk
        rw [e6]
        by_cases c : k = (d_r D m ++ d_rs D m i).length
        · subst c
          rw [q_up_s, List.getD_eq_getElem?_getD, List.getElem?_append_right (Nat.le_refl _), Nat.sub_self]
          rfl
        · rw [q_up_n (by omega), z k (by omega), l_app_left (show k < (d_r D m ++ d_rs D m i).length by omega)]
      have := ih (i + 1) M6 (by omega) f6 z6
      rw [al, List.length_append, List.length_singleton] at this
      rw [q_add_eq (by omega), q_add_eq (by omega), show (i : Int) + 1 = ((i + 1 : Nat) : Int) by omega, show ((d_r D m ++ d_rs D m i).length : Int) + 1 = (((d_r D m ++ d_rs D m i).length + 1 : Nat) : Int) by omega]
      exact this
theorem cq_layRound {d : Nat} {M : q_Mem} {K : q_Mem → Prop} {n m : Nat} {s : p_S} {p : Int} {D : p_D} (hd : 1 < d) (hm : m < 10) (hok : d_ok n s D) (hc : c_D p D M) (h : ∀ M', g_52 m M M' → z_ent M' m (d_rg D m) → K M') : q_kU yX4_layRound mX4_layRound d [qR p, qI (m : Int), qR 52] M K := by
  have kp := c_kp hc.1
  have lay := z_k4 kp
  have L16 := hok.2.1
  have r16 := Nat.le_trans (d_r_16 hok (m := m)) L16
  have R := hc.2.2.2.2.2.2.2.1 m hm
  refine q_goU hd rfl (plainFor_of_name (by decide +kernel)) rfl (fun h => nomatch h) (Nat.le_of_ble_eq_true rfl) (fun d hd => bX4_layRound_0 _ _ _ kp (by decide +kernel) (fun x3 e3 => ?_))
  rw [q_mul_eq (by omega), show (m : Int) * 16 = 16 * (m : Int) by omega] at e3
  subst e3
  rw [lay.2.2.2.2.2.1, lay.2.2.2.2.1, R.1, show q_ln 52 = 160 by decide +kernel]
  refine ⟨by omega, ⟨⟨by omega, by omega, by omega⟩, ⟨by omega, by omega⟩, by omega⟩, fun M4 e4 => ⟨by omega, fun x4 e5 => ?_⟩⟩
  have o : ∀ a, a ≠ 52 → M4 a = M a := fun a g => by rw [e4, q_cp_o g]
  rw [o (p + 6) (by have := hc.1; omega), R.1] at e5
  subst e5
  have v : ∀ j : Int, M4 52 j = if 16 * (m : Int) ≤ j ∧ j < 16 * (m : Int) + ((d_r D m).length : Int) then M (p + 5) (16 * (m : Int) + (j - 16 * (m : Int))) else M 52 j := fun j => by
    rw [e4]
    unfold q_cp
    by_cases c : 16 * (m : Int) ≤ j ∧ j < 16 * (m : Int) + ((d_r D m).length : Int)
    · rw [if_pos ⟨rfl, c⟩, if_pos c]
    · rw [if_neg (fun q => c q.2), if_neg c]
  have := l_lr32 (d := d) (K := K) (M0 := M) (by omega) hm hok hc h (d_L D) 0 M4 (by omega) ⟨o, fun j hj => by rw [v, if_neg (by omega)]⟩ (by
    show z_ent M4 m (d_r D m ++ [])
    rw [List.append_nil]
    intro i hi
    rw [v, if_pos (by omega), show 16 * (m : Int) + (16 * (m : Int) + (i : Int) - 16 * (m : Int)) = 16 * (m : Int) + (i : Int) by omega]
    exact R.2 i hi)
  rw [show d_rs D m 0 = [] from rfl, List.append_nil] at this
  exact this
theorem l_lo30 {n d : Nat} {s : p_S} {p : Int} {D : p_D} {M0 : q_Mem} {K : q_Mem → Prop} (hd : 2 ≤ d) (hok : d_ok n s D) (hc : c_D p D M0) (h : ∀ M', (∀ a, a ≠ 52 → M' a = M0 a) → (∀ x, x < d_N D → z_ent M' x (d_rg D x)) → K M') :
    ∀ (j m : Nat) (M : q_Mem), m + j = d_N D → (∀ a, a ≠ 52 → M a = M0 a) → (∀ x, x < m → z_ent M x (d_rg D x)) → q_v mX4_layOut d (qPU K) M 30 [some (qR p), some (qR 50), some (qI (m : Int))] [] := by
  have kp := c_kp hc.1
  have N10 := hok.1
  intro j
  induction j with
  | zero =>
    intro m M e f z
    have cD : c_D p D M := c_D_52 hc (fun a _ _ g => f a g)
    have em : m = d_N D := by omega
    refine bX4_layOut_30 _ _ _ kp (by decide +kernel) ⟨fun _ => h M f (fun x hx => z x (by omega)), fun g => absurd (by rw [cD.2.1]; omega) g⟩
  | succ j ih =>
    intro m M e f z
    have cD : c_D p D M := c_D_52 hc (fun a _ _ g => f a g)
    refine bX4_layOut_30 _ _ _ kp (by decide +kernel) ⟨fun g => absurd g (by rw [cD.2.1]; omega), fun _ => ?_⟩
    rw [show q_lay 50 3 = 52 by decide +kernel, q_add_eq (by omega), show (m : Int) + 1 = ((m + 1 : Nat) : Int) by omega]
    refine cq_layRound (by omega) (by omega) hok cD (fun M1 f1 z1 => ih (m + 1) M1 (by omega) (fun a g => (f1.1 a g).trans (f a g)) (fun x hx => ?_))
    by_cases c : x = m
    · rw [c]; exact z1
    · intro i hi
      have := d_rg_len hok (m := x)
      rw [f1.2 _ (by omega)]
      exact z x (by omega) i hi
theorem cq_layOut {d : Nat} {M : q_Mem} {K : q_Mem → Prop} {n : Nat} {s : p_S} {p : Int} {D : p_D} (hd : 2 < d) (hok : d_ok n s D) (hc : c_D p D M) (h : ∀ M', (∀ a, a ≠ 50 → a ≠ 51 → a ≠ 52 → M' a = M a) → M' 50 0 = d_w D → M' 50 1 = 0 → (∀ l : Nat, l < d_L D → M' 51 l = (d_k D l).2.2) → (∀ x, x < d_N D → z_ent M' x (d_rg D x)) → K M') : q_kU yX4_layOut mX4_layOut d [qR p, qR 50] M K := by
  have kp := c_kp hc.1
  have lay := z_k4 kp
  have L16 := hok.2.1
  have hp := hc.1
  refine q_goU hd rfl (plainFor_of_name (by decide +kernel)) rfl (fun h => nomatch h) (Nat.le_of_ble_eq_true rfl) (fun d hd => bX4_layOut_0 _ _ kp (by decide +kernel) (fun M1 e1 M2 e2 => ⟨by refine ⟨by decide, by decide, by omega⟩, fun M4 e4 => ?_⟩))
  rw [lay.2.2.1, show q_lay 50 2 = 51 by decide +kernel] at e4
  rw [hc.2.2.2.2.1] at e1
  have o : ∀ a, a ≠ 50 → a ≠ 51 → M4 a = M a := fun a g g2 => by rw [e4, q_cp_o g2, e2, q_up_o g, e1, q_up_o g]
  have v0 : M4 50 0 = d_w D := by rw [e4, q_cp_o (by decide), e2, q_up_n (by decide), e1, q_up_s]
  have v1 : M4 50 1 = 0 := by rw [e4, q_cp_o (by decide), e2, q_up_s]
  have v5 : ∀ l : Nat, l < d_L D → M4 51 l = (d_k D l).2.2 := fun l hl => by
    rw [e4]
    unfold q_cp
    rw [if_pos ⟨rfl, by omega, by omega⟩, show (0 : Int) + ((l : Int) - 0) = (l : Int) by omega, e2, q_up_o (by omega), e1, q_up_o (by omega)]
    exact (hc.2.2.2.2.2.1 l hl).2.2
  have cD : c_D p D M4 := c_D_52 hc (fun a g g2 _ => o a g g2)
  exact l_lo30 (by omega) hok cD (fun M' f z => h M' (fun a g g2 g3 => (f a g3).trans (o a g g2)) (by rw [f 50 (by decide)]; exact v0) (by rw [f 50 (by decide)]; exact v1) (fun l hl => by rw [f 51 (by decide)]; exact v5 l hl) z) (d_N D) 0 M4 (by omega) (fun _ _ => rfl) (fun x hx => absurd hx (Nat.not_lt_zero x))
theorem o_sd {n : Nat} {s : p_S} {D : p_D} {o : Int → Int} (hk : d_ok n s D) (h : o_ok D o) {M : q_Mem} (v0 : M 50 0 = d_w D) (v1 : M 50 1 = 0) (v5 : ∀ l : Nat, l < d_L D → M 51 l = (d_k D l).2.2) (z : ∀ x, x < d_N D → z_ent M x (d_rg D x)) : z_sd M 50 o 1 := by
  have NL := o_NL h
  have N10 := hk.1
  refine ⟨by rw [v0, h.2.1], ?_, fun l hl => ?_, fun x hx i hi => ?_⟩
  · show M 50 1 = o 2
    rw [v1, h.2.2.1]
  · rw [NL.2] at hl
    show M 51 l = o (1 + 2 + (l : Int))
    rw [v5 l hl, show (1 : Int) + 2 + (l : Int) = 3 + (l : Int) by omega, (h.2.2.2.2.2.2.1 l hl).2.2]
  · rw [NL.1] at hx
    have x10 : x < 10 := by omega
    rw [(o_dg hk h x10).1] at hi
    have f := d_fl_at x10 hi
    show M 52 ((16 * x + i : Nat) : Int) = _
    rw [show ((16 * x + i : Nat) : Int) = 16 * (x : Int) + (i : Int) by omega, z x hx i hi, o_st h (by omega), show (1 : Int) + 18 + ((d_fl D x).length : Int) + (i : Int) = 19 + (((d_fl D x).length + i : Nat) : Int) by omega, h.2.2.2.2.2.2.2.2.2 _ f.1, f.2]
