-- rounds told and untold
def d_rs (D : p_D) (m : Nat) : Nat → List Nat
  | 0 => []
  | l + 1 => if d_on D l m = true ∧ l ∉ d_r D m then d_rs D m l ++ [l] else d_rs D m l
def d_rg (D : p_D) (m : Nat) : List Nat := d_r D m ++ d_rs D m 16
def d_fl (D : p_D) : Nat → List Nat
  | 0 => []
  | m + 1 => d_fl D m ++ d_rg D m
section DRG
variable {n : Nat} {s : p_S} {D : p_D}
theorem d_rs_on {m : Nat} : ∀ {k l : Nat}, l ∈ d_rs D m k ↔ (l < k ∧ d_on D l m = true ∧ l ∉ d_r D m)
  | 0, l => by simp [d_rs]
  | k + 1, l => by
    have ih := d_rs_on (m := m) (k := k) (l := l)
    unfold d_rs
    by_cases c : d_on D k m = true ∧ k ∉ d_r D m
    · rw [if_pos c, List.mem_append, ih, List.mem_singleton]
      refine ⟨fun g => ?_, fun g => ?_⟩
      · rcases g with g | g
        · exact ⟨by omega, g.2⟩
        · rw [g]; exact ⟨by omega, c⟩
      · by_cases e : l = k
        · exact Or.inr e
        · exact Or.inl ⟨by omega, g.2⟩
    · rw [if_neg c, ih]
      refine ⟨fun g => ⟨by omega, g.2⟩, fun g => ⟨?_, g.2⟩⟩
      by_cases e : l = k
      · rw [e] at g; exact absurd g.2 c
      · omega
theorem d_rs_len {m : Nat} : ∀ {k j : Nat}, (d_rs D m k).length ≤ (d_rs D m (k + j)).length
  | k, 0 => Nat.le_refl _
  | k, j + 1 => by
    refine Nat.le_trans (d_rs_len (k := k) (j := j)) ?_
    show (d_rs D m (k + j)).length ≤ (if d_on D (k + j) m = true ∧ (k + j) ∉ d_r D m then d_rs D m (k + j) ++ [k + j] else d_rs D m (k + j)).length
    split
    · rw [List.length_append]; omega
    · exact Nat.le_refl _
theorem d_rg_on (h : d_ok n s D) {m l : Nat} : l ∈ d_rg D m ↔ d_on D l m = true := by
  unfold d_rg
  rw [List.mem_append, d_rs_on]
  refine ⟨fun g => ?_, fun g => ?_⟩
  · rcases g with g | g
    · exact (h.2.2.2.1 m).2 l g
    · exact g.2.1
  · by_cases c : l ∈ d_r D m
    · exact Or.inl c
    · exact Or.inr ⟨by have := d_on_lt g; have := h.2.1; omega, g, c⟩
theorem d_rg_nd0 (h : d_ok n s D) {m : Nat} : ∀ k, l_nd (d_r D m ++ d_rs D m k)
  | 0 => by
    unfold d_rs
    rw [List.append_nil]
    exact (h.2.2.2.1 m).1
  | k + 1 => by
    have ih := d_rg_nd0 h (m := m) k
    unfold d_rs
    by_cases c : d_on D k m = true ∧ k ∉ d_r D m
    · rw [if_pos c, ← List.append_assoc]
      refine l_nd_app ih (fun g => ?_)
      rw [List.mem_append, d_rs_on] at g
      rcases g with g | g
      · exact c.2 g
      · omega
    · rw [if_neg c]
      exact ih
theorem l_nd_i : ∀ {l : List Nat} {i j : Nat}, l_nd l → i < l.length → j < l.length → l.getD i 0 = l.getD j 0 → i = j
  | [], i, j, _, h, _, _ => absurd h (Nat.not_lt_zero i)
  | x :: l, 0, 0, _, _, _, _ => rfl
  | x :: l, 0, j + 1, h, _, hj, e => by
    have hj : j < l.length := Nat.lt_of_succ_lt_succ hj
    have e : x = l.getD j 0 := e
    exact absurd (by rw [e, List.getD_eq_getElem?_getD, List.getElem?_eq_getElem hj]; exact List.getElem_mem hj) h.1
  | x :: l, i + 1, 0, h, hi, _, e => by
    have hi : i < l.length := Nat.lt_of_succ_lt_succ hi
    have e : l.getD i 0 = x := e
    exact absurd (by rw [← e, List.getD_eq_getElem?_getD, List.getElem?_eq_getElem hi]; exact List.getElem_mem hi) h.1
  | x :: l, i + 1, j + 1, h, hi, hj, e => by
    have := l_nd_i h.2 (Nat.lt_of_succ_lt_succ hi) (Nat.lt_of_succ_lt_succ hj) e
    omega
theorem l_getD_mem {l : List Nat} {i : Nat} (h : i < l.length) : l.getD i 0 ∈ l := by
  rw [List.getD_eq_getElem?_getD, List.getElem?_eq_getElem h]
  exact List.getElem_mem h
theorem l_mem_getD {l : List Nat} {x : Nat} (h : x ∈ l) : ∃ i, i < l.length ∧ l.getD i 0 = x := by
  obtain ⟨i, hi, e⟩ := List.getElem_of_mem h
  exact ⟨i, hi, by rw [List.getD_eq_getElem?_getD, List.getElem?_eq_getElem hi]; exact e⟩
theorem d_dg_rs (h : d_ok n s D) {m : Nat} : ∀ k, k ≤ d_L D → l_ct (d_r D m) k + (d_rs D m k).length = d_dg (d_k D) m k ∧ d_dg (d_k D) m k ≤ k
  | 0, _ => by
    have : ∀ l : List Nat, l_ct l 0 = 0 := fun l => by
      induction l with
      | nil => rfl
      | cons x l ih => show (if x < 0 then 1 else 0) + l_ct l 0 = 0; rw [ih, if_neg (Nat.not_lt_zero x)]
    exact ⟨by rw [this]; rfl, Nat.le_refl 0⟩
  | k + 1, hk => by
    have ih := d_dg_rs h (m := m) k (by omega)
    have ab := (h.2.2.1 k (by omega)).2.2.1
    have on := d_on_w (D := D) (l := k) (m := m) (by omega)
    have rm : k ∈ d_r D m → d_on D k m = true := fun q => (h.2.2.2.1 m).2 k q
    rw [l_ct_s (h.2.2.2.1 m).1]
    show _ = d_dg (d_k D) m k + (if (d_k D k).1 = m then 1 else 0) + (if (d_k D k).2.1 = m then 1 else 0) ∧ d_dg (d_k D) m k + (if (d_k D k).1 = m then 1 else 0) + (if (d_k D k).2.1 = m then 1 else 0) ≤ k + 1
    have rs : (d_rs D m (k + 1)).length = (d_rs D m k).length + (if d_on D k m = true ∧ k ∉ d_r D m then 1 else 0) := by
      show (if d_on D k m = true ∧ k ∉ d_r D m then d_rs D m k ++ [k] else d_rs D m k).length = _
      split
      · rw [List.length_append, List.length_singleton]
      · rfl
    rw [rs]
    by_cases c : d_on D k m = true
    · have t : (if (d_k D k).1 = m then 1 else 0) + (if (d_k D k).2.1 = m then 1 else 0) = (1 : Nat) := by
        rcases on.mp c with q | q
        · rw [if_pos q, if_neg (fun q2 => ab (q.trans q2.symm))]
        · rw [if_pos q, if_neg (fun q2 => ab (q2.trans q.symm))]
      by_cases c2 : k ∈ d_r D m
      · rw [if_pos c2, if_neg (fun q => q.2 c2)]; omega
      · rw [if_neg c2, if_pos ⟨c, c2⟩]; omega
    · rw [if_neg (fun q => c (rm q)), if_neg (fun q => c q.1), if_neg (fun q => c (on.mpr (Or.inl q))), if_neg (fun q => c (on.mpr (Or.inr q)))]
      omega
theorem d_rs_16 (h : d_ok n s D) {m : Nat} : ∀ j, d_rs D m (d_L D + j) = d_rs D m (d_L D)
  | 0 => rfl
  | j + 1 => by
    have ih := d_rs_16 h (m := m) j
    show d_rs D m (d_L D + j + 1) = _
    rw [d_rs, if_neg (fun q => by have := d_on_lt q.1; omega), ih]
theorem d_rg_len (h : d_ok n s D) {m : Nat} : (d_rg D m).length = d_dg (d_k D) m (d_L D) ∧ d_dg (d_k D) m (d_L D) ≤ 16 := by
  have a := d_dg_rs h (m := m) (d_L D) (Nat.le_refl _)
  have b := l_ct_all (l := d_r D m) (k := d_L D) (fun x hx => d_on_lt ((h.2.2.2.1 m).2 x hx))
  have L := h.2.1
  have c := d_rs_16 h (m := m) (16 - d_L D)
  rw [show d_L D + (16 - d_L D) = 16 by omega] at c
  unfold d_rg
  rw [List.length_append, c]
  omega
def d_s10 (f : Nat → Nat) : Nat := f 0 + f 1 + f 2 + f 3 + f 4 + f 5 + f 6 + f 7 + f 8 + f 9
theorem d_s10_1 : ∀ a, a < 10 → d_s10 (fun x => if a = x then 1 else 0) = 1 := by decide
theorem d_s10_L {k : Nat → Nat × Nat × Int} : ∀ L, (∀ l, l < L → (k l).1 < 10 ∧ (k l).2.1 < 10) → d_s10 (fun x => d_dg k x L) = 2 * L
  | 0, _ => rfl
  | L + 1, h => by
    have ih := d_s10_L (k := k) L (fun l hl => h l (by omega))
    have a := d_s10_1 _ (h L (by omega)).1
    have b := d_s10_1 _ (h L (by omega)).2
    have e : ∀ x, d_dg k x (L + 1) = d_dg k x L + (if (k L).1 = x then 1 else 0) + (if (k L).2.1 = x then 1 else 0) := fun x => rfl
    dsimp only [d_s10] at ih a b ⊢
    simp only [e]
    omega
theorem d_fl_10 (h : d_ok n s D) : (d_fl D 10).length = 2 * d_L D := by
  have e := d_s10_L (k := d_k D) (d_L D) (fun l hl => by have := h.2.2.1 l hl; have := h.1; omega)
  have g : ∀ m, (d_rg D m).length = d_dg (d_k D) m (d_L D) := fun m => (d_rg_len h).1
  dsimp only [d_s10] at e
  have s : ∀ m, (d_fl D (m + 1)).length = (d_fl D m).length + d_dg (d_k D) m (d_L D) := fun m => by
    show (d_fl D m ++ d_rg D m).length = _
    rw [List.length_append, g]
  rw [s 9, s 8, s 7, s 6, s 5, s 4, s 3, s 2, s 1, s 0]
  show 0 + _ + _ + _ + _ + _ + _ + _ + _ + _ + _ = _
  omega
theorem d_fl_le {m : Nat} : ∀ j, (d_fl D m).length ≤ (d_fl D (m + j)).length
  | 0 => Nat.le_refl _
  | j + 1 => by
    refine Nat.le_trans (d_fl_le j) ?_
    show _ ≤ (d_fl D (m + j) ++ d_rg D (m + j)).length
    rw [List.length_append]
    omega
theorem d_fl_pre {m : Nat} : ∀ j, ∃ e, d_fl D (m + j) = d_fl D m ++ e
  | 0 => ⟨[], (List.append_nil _).symm⟩
  | j + 1 => by
    obtain ⟨e, q⟩ := d_fl_pre (m := m) j
    exact ⟨e ++ d_rg D (m + j), by show d_fl D (m + j) ++ d_rg D (m + j) = _; rw [q, List.append_assoc]⟩
/-- where in all a round's link lies -/
theorem d_fl_at {m i : Nat} (hm : m < 10) (hi : i < (d_rg D m).length) : (d_fl D m).length + i < (d_fl D 10).length ∧ (d_fl D 10).getD ((d_fl D m).length + i) 0 = (d_rg D m).getD i 0 := by
  obtain ⟨e, q⟩ := d_fl_pre (D := D) (m := m + 1) (9 - m)
  rw [show m + 1 + (9 - m) = 10 by omega] at q
  have q : d_fl D 10 = (d_fl D m ++ d_rg D m) ++ e := q
  rw [q]
  refine ⟨by rw [List.length_append, List.length_append]; omega, ?_⟩
  rw [List.getD_eq_getElem?_getD, List.getD_eq_getElem?_getD, List.getElem?_append_left (by rw [List.length_append]; omega), List.getElem?_append_right (by omega), Nat.add_sub_cancel_left]
end DRG
