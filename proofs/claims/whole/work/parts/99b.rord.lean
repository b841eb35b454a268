-- the reference reads a net
def o_law (D : p_D) (o : Int → Int) : Prop := ∀ i : Nat, i < 2 → (d_l D i = none → o (96 + (i : Int)) = 0) ∧ ∀ b cs, d_l D i = some (b, cs) → o (96 + (i : Int)) = 1 ∧ o (98 + (i : Int)) = (b : Int) ∧ o (100 + (i : Int)) = (cs.length : Int) ∧ ∀ k : Nat, k < cs.length → o ((604 + b + k : Nat) : Int) = cs.getD k 0
def o_ok (D : p_D) (o : Int → Int) : Prop := o 0 = d_n D ∧ o 1 = d_w D ∧ o 2 = 0 ∧ o 51 = (d_N D : Int) ∧ o 52 = (d_L D : Int) ∧ o 102 = 0 ∧ (∀ l : Nat, l < d_L D → o (53 + (l : Int)) = ((d_k D l).1 : Int) ∧ o (69 + (l : Int)) = ((d_k D l).2.1 : Int) ∧ o (3 + (l : Int)) = (d_k D l).2.2) ∧ o_law D o ∧ (∀ x : Nat, x ≤ 10 → o (85 + (x : Int)) = ((d_fl D x).length : Int)) ∧ ∀ i : Nat, i < (d_fl D 10).length → o (19 + (i : Int)) = ((d_fl D 10).getD i 0 : Int)
theorem r_D_or {D : p_D} {M M' : q_Mem} (h : r_D D M) (hL : d_L D ≤ 16) (e : ∀ j : Int, (j < 19 ∨ 50 < j) → (j < 85 ∨ 95 < j) → M' 182 j = M 182 j) (e3 : M' 183 = M 183) (e4 : M' 184 = M 184) : r_D D M' := by
  obtain ⟨a1, a2, a3, a4, a5, a6, a7, a8, a9, a10⟩ := h
  refine ⟨by rw [e _ (by omega) (by omega)]; exact a1, by rw [e _ (by omega) (by omega)]; exact a2, by rw [e _ (by omega) (by omega)]; exact a3, by rw [e _ (by omega) (by omega)]; exact a4, by rw [e _ (by omega) (by omega)]; exact a5, by rw [e _ (by omega) (by omega)]; exact a6, by rw [e _ (by omega) (by omega)]; exact a7, fun l hl => ?_, by rw [e3, e4]; exact a9, fun i hi => ?_⟩
  · rw [e _ (by omega) (by omega), e _ (by omega) (by omega), e _ (by omega) (by omega)]
    exact a8 l hl
  · rw [e _ (by omega) (by omega), e _ (by omega) (by omega), e _ (by omega) (by omega)]
    refine ⟨(a10 i hi).1, fun b cs q => ?_⟩
    have := (a10 i hi).2 b cs q
    exact ⟨this.1, this.2.1, this.2.2.1, fun k hk => by rw [e _ (by omega) (by omega)]; exact this.2.2.2 k hk⟩
def io (D : p_D) (acc : List Nat) (m : Nat) (M : q_Mem) : Prop := r_D D M ∧ (∀ x : Nat, x < m → M 182 (85 + (x : Int)) = ((d_fl D x).length : Int)) ∧ ∀ i : Nat, i < acc.length → M 182 (19 + (i : Int)) = (acc.getD i 0 : Int)
theorem io_u {D : p_D} {acc : List Nat} {m v : Nat} {M M' : q_Mem} (h : io D acc m M) (hL : d_L D ≤ 16) (hl : acc.length < 32) (e : M' = q_up M 182 (19 + (acc.length : Int)) (v : Int)) : io D (acc ++ [v]) m M' := by
  refine ⟨r_D_or h.1 hL (fun j g g2 => by rw [e, q_up_n (by omega)]) (by rw [e, q_up_o (by decide)]) (by rw [e, q_up_o (by decide)]), fun x hx => by rw [e, q_up_n (by omega)]; exact h.2.1 x hx, fun i hi => ?_⟩
  rw [List.length_append, List.length_singleton] at hi
  rw [e]
  by_cases c : i = acc.length
  · subst c
    rw [q_up_s, List.getD_eq_getElem?_getD, List.getElem?_append_right (Nat.le_refl _), Nat.sub_self]
    rfl
  · rw [q_up_n (by omega), h.2.2 i (by omega), List.getD_eq_getElem?_getD, List.getD_eq_getElem?_getD, List.getElem?_append_left (by omega)]
section LO
variable {n d m : Nat} {s : p_S} {D : p_D} {M0 : q_Mem} {K : q_Mem → Prop}
theorem d_fl_32 (hok : d_ok n s D) {m k : Nat} (hm : m < 10) (hk : k ≤ 16) : (d_fl D m ++ d_r D m ++ d_rs D m k).length ≤ 32 := by
  have a := d_fl_10 hok
  have b := d_fl_le (D := D) (m := m + 1) (9 - m)
  rw [show m + 1 + (9 - m) = 10 by omega] at b
  have c : (d_fl D (m + 1)).length = (d_fl D m).length + ((d_r D m).length + (d_rs D m 16).length) := by
    show (d_fl D m ++ (d_r D m ++ d_rs D m 16)).length = _
    rw [List.length_append, List.length_append]
  have e := d_rs_len (D := D) (m := m) (k := k) (j := 16 - k)
  rw [show k + (16 - k) = 16 by omega] at e
  have L := hok.2.1
  rw [List.length_append, List.length_append]
  omega
theorem l_lo63 (hm : m < 10) (hd : 1 ≤ d) (hok : d_ok n s D) (h : ∀ M', z_fr [182] [] M0 M' → io D (d_fl D (m + 1)) (m + 1) M' → q_v mX12_laysOrder d (qPU K) M' 4 [some (qR 178), some (qI ((d_fl D (m + 1)).length : Int)), some (qI ((m + 1 : Nat) : Int)), none] []) :
    ∀ (j i : Nat) (M : q_Mem), i + j = 16 → z_fr [182] [] M0 M → io D (d_fl D m ++ d_r D m ++ d_rs D m i) (m + 1) M → q_v mX12_laysOrder d (qPU K) M 63 [some (qR 178), some (qI ((d_fl D m ++ d_r D m ++ d_rs D m i).length : Int)), some (qI (m : Int)), some (qI (i : Int))] [] := by
  have L16 := hok.2.1
  have r16 := Nat.le_trans (d_r_16 hok (m := m)) L16
  intro j
  induction j with
  | zero =>
    intro i M e f hio
    have ei : i = 16 := by omega
    subst ei
    have eq : d_fl D m ++ d_r D m ++ d_rs D m 16 = d_fl D (m + 1) := by
      show _ = d_fl D m ++ (d_r D m ++ d_rs D m 16)
      rw [List.append_assoc]
    refine bX12_laysOrder_63 _ _ _ ⟨fun _ => ?_, fun g => absurd (by omega) g⟩
    rw [q_add_eq (by omega), eq, show (m : Int) + 1 = ((m + 1 : Nat) : Int) by omega]
    rw [eq] at hio
    exact h M f hio
  | succ j ih =>
    intro i M e f hio
    have st : d_rs D m (i + 1) = if d_on D i m = true ∧ i ∉ d_r D m then d_rs D m i ++ [i] else d_rs D m i := rfl
    have l32 := d_fl_32 hok hm (k := i + 1) (by omega)
    have nx : ¬ (d_on D i m = true ∧ i ∉ d_r D m) → q_v mX12_laysOrder d (qPU K) M 63 [some (qR 178), some (qI ((d_fl D m ++ d_r D m ++ d_rs D m i).length : Int)), some (qI (m : Int)), some (qI (q_add (i : Int) 1))] [] := fun q => by
      have := ih (i + 1) M (by omega) f (by rw [st, if_neg q]; exact hio)
      rw [st, if_neg q] at this
      rw [q_add_eq (by omega), show (i : Int) + 1 = ((i + 1 : Nat) : Int) by omega]
      exact this
    refine bX12_laysOrder_63 _ _ _ ⟨fun g => absurd g (by omega), fun _ => rq_isOf (by omega) rfl hio.1 L16 (fun on => ⟨fun q => absurd q (by decide), fun _ => rq_irt (by omega) rfl hm hio.1 r16 (fun mem => ⟨fun q => absurd q (by decide), fun _ => nx (fun q => q.2 mem)⟩) (fun mem => ⟨fun _ => ?_, fun q => absurd rfl q⟩)⟩) (fun on => ⟨fun _ => nx (fun q => on q.1), fun q => absurd rfl q⟩)⟩
    rw [st, if_pos ⟨on, mem⟩] at l32
    have l31 : (d_fl D m ++ d_r D m ++ d_rs D m i).length + 1 ≤ 32 := by
      rw [← List.append_assoc, List.length_append, List.length_singleton] at l32
      exact l32
    rw [q_add_eq (a := 19) (by omega)]
    refine ⟨by omega, fun M6 e6 => ?_⟩
    have i6 := io_u hio L16 (by omega) e6
    rw [List.append_assoc, show d_rs D m i ++ [i] = d_rs D m (i + 1) by rw [st, if_pos ⟨on, mem⟩]] at i6
    have := ih (i + 1) M6 (by omega) (z_fr_u f e6 (by decide) (by decide)) i6
    rw [q_add_eq (by omega), q_add_eq (by omega), show (i : Int) + 1 = ((i + 1 : Nat) : Int) by omega, show ((d_fl D m ++ d_r D m ++ d_rs D m i).length : Int) + 1 = ((d_fl D m ++ d_r D m ++ d_rs D m (i + 1)).length : Int) by
      rw [st, if_pos ⟨on, mem⟩, ← List.append_assoc]
      simp only [List.length_append, List.length_singleton]
      omega]
    exact this
theorem l_lo22 (hm : m < 10) (hd : 1 ≤ d) (hok : d_ok n s D) (h : ∀ M', z_fr [182] [] M0 M' → io D (d_fl D (m + 1)) (m + 1) M' → q_v mX12_laysOrder d (qPU K) M' 4 [some (qR 178), some (qI ((d_fl D (m + 1)).length : Int)), some (qI ((m + 1 : Nat) : Int)), none] []) :
    ∀ (j i : Nat) (M : q_Mem), i + j = (d_r D m).length → z_fr [182] [] M0 M → io D (d_fl D m ++ (d_r D m).take i) (m + 1) M → q_v mX12_laysOrder d (qPU K) M 22 [some (qR 178), some (qI ((d_fl D m ++ (d_r D m).take i).length : Int)), some (qI (m : Int)), some (qI (i : Int))] [] := by
  have L16 := hok.2.1
  have l32 := d_fl_32 hok hm (k := 0) (by omega)
  rw [show d_rs D m 0 = [] from rfl, List.append_nil, List.length_append] at l32
  intro j
  induction j with
  | zero =>
    intro i M e f hio
    have R := hio.1.2.2.2.2.2.2.2.2.1 m hm
    have et : (d_r D m).take i = d_r D m := List.take_of_length_le (by omega)
    rw [et] at hio ⊢
    refine bX12_laysOrder_22 _ _ _ ⟨by omega, fun _ => ?_, fun g => absurd (by rw [R.1]; omega) g⟩
    have := l_lo63 hm hd hok h 16 0 M (by omega) f (by show io D (d_fl D m ++ d_r D m ++ []) (m + 1) M; rw [List.append_nil]; exact hio)
    rw [show d_rs D m 0 = [] from rfl, List.append_nil] at this
    exact this
  | succ j ih =>
    intro i M e f hio
    have R := hio.1.2.2.2.2.2.2.2.2.1 m hm
    have tk : (d_r D m).take (i + 1) = (d_r D m).take i ++ [(d_r D m).getD i 0] := by
      rw [List.take_succ, List.getD_eq_getElem?_getD, List.getElem?_eq_getElem (by omega)]
      rfl
    have tl : ((d_r D m).take i).length = i := by rw [List.length_take]; omega
    refine bX12_laysOrder_22 _ _ _ ⟨by omega, fun g => absurd g (by rw [R.1]; omega), fun _ => ?_⟩
    have al : (d_fl D m ++ (d_r D m).take i).length = (d_fl D m).length + i := by rw [List.length_append, tl]
    have := d_r_16 hok (m := m)
    rw [q_mul_eq (by omega), q_add_eq (a := 16 * (m : Int)) (by omega), q_add_eq (a := 19) (by omega), R.2 i (by omega)]
    refine ⟨by omega, by omega, fun M4 e4 => ?_⟩
    have i4 := io_u hio L16 (by omega) e4
    rw [List.append_assoc, ← tk] at i4
    have := ih (i + 1) M4 (by omega) (z_fr_u f e4 (by decide) (by decide)) i4
    rw [q_add_eq (by omega), q_add_eq (by omega), show (i : Int) + 1 = ((i + 1 : Nat) : Int) by omega, show ((d_fl D m ++ (d_r D m).take i).length : Int) + 1 = ((d_fl D m ++ (d_r D m).take (i + 1)).length : Int) by
      rw [tk, ← List.append_assoc, List.length_append, List.length_append, List.length_singleton]; omega]
    exact this
theorem l_lo4 (hd : 1 ≤ d) (hok : d_ok n s D) (h : ∀ M', z_fr [182] [] M0 M' → r_D D M' → (∀ x : Nat, x ≤ 10 → M' 182 (85 + (x : Int)) = ((d_fl D x).length : Int)) → (∀ i : Nat, i < (d_fl D 10).length → M' 182 (19 + (i : Int)) = ((d_fl D 10).getD i 0 : Int)) → K M') :
    ∀ (j m : Nat) (M : q_Mem), m + j = 10 → z_fr [182] [] M0 M → io D (d_fl D m) m M → q_v mX12_laysOrder d (qPU K) M 4 [some (qR 178), some (qI ((d_fl D m).length : Int)), some (qI (m : Int)), none] [] := by
  have L16 := hok.2.1
  have l10 := d_fl_10 hok
  intro j
  induction j with
  | zero =>
    intro m M e f hio
    have em : m = 10 := by omega
    subst em
    refine bX12_laysOrder_4 _ _ ⟨fun _ M1 e1 => h M1 (z_fr_u f e1 (by decide) (by decide)) (r_D_or hio.1 L16 (fun j g g2 => by rw [e1, q_up_n (by omega)]) (by rw [e1, q_up_o (by decide)]) (by rw [e1, q_up_o (by decide)])) (fun x hx => ?_) (fun i hi => by rw [e1, q_up_n (by omega)]; exact hio.2.2 i hi), fun g => absurd (by omega) g⟩
    by_cases c : x = 10
    · subst c
      rw [e1]
      exact q_up_s
    · rw [e1, q_up_n (by omega)]
      exact hio.2.1 x (by omega)
  | succ j ih =>
    intro m M e f hio
    have lm := d_fl_le (D := D) (m := m) (10 - m)
    rw [show m + (10 - m) = 10 by omega] at lm
    refine bX12_laysOrder_4 _ _ ⟨fun g => absurd g (by omega), fun _ => ?_⟩
    rw [q_add_eq (by omega)]
    refine ⟨by omega, fun M3 e3 => ?_⟩
    have i3 : io D (d_fl D m ++ (d_r D m).take 0) (m + 1) M3 := by
      rw [List.take_zero, List.append_nil]
      refine ⟨r_D_or hio.1 L16 (fun j g g2 => by rw [e3, q_up_n (by omega)]) (by rw [e3, q_up_o (by decide)]) (by rw [e3, q_up_o (by decide)]), fun x hx => ?_, fun i hi => by rw [e3, q_up_n (by omega)]; exact hio.2.2 i hi⟩
      by_cases c : x = m
      · subst c
        rw [e3, q_up_s]
      · rw [e3, q_up_n (by omega)]
        exact hio.2.1 x (by omega)
    have := l_lo22 (d := d) (M0 := M0) (K := K) (by omega) hd hok (fun M' f' i' => ih (m + 1) M' (by omega) f' i') (d_r D m).length 0 M3 (by omega) (z_fr_u f e3 (by decide) (by decide)) i3
    rw [List.take_zero, List.append_nil] at this
    exact this
end LO
theorem rq_order {d : Nat} {M : q_Mem} {K : q_Mem → Prop} {n : Nat} {s : p_S} {D : p_D} (hd : 1 < d) (hok : d_ok n s D) (hD : r_D D M) (h : ∀ M', z_fr [182] [] M M' → r_D D M' → (∀ x : Nat, x ≤ 10 → M' 182 (85 + (x : Int)) = ((d_fl D x).length : Int)) → (∀ i : Nat, i < (d_fl D 10).length → M' 182 (19 + (i : Int)) = ((d_fl D 10).getD i 0 : Int)) → K M') : q_kU yX12_laysOrder mX12_laysOrder d [qR 178] M K :=
  q_goU hd rfl (plainFor_of_name (by decide +kernel)) rfl (fun h => nomatch h) (Nat.le_of_ble_eq_true rfl) (fun d hd => bX12_laysOrder_0 (l_lo4 (by omega) hok h 10 0 M (by omega) z_fr_rf ⟨hD, fun x hx => absurd hx (Nat.not_lt_zero x), fun i hi => absurd hi (Nat.not_lt_zero i)⟩))
