-- classes, objects, methods; derived rows (by program)
theorem q_all {p : Int → Nat → Prop} (h : ∀ i : Nat, i < 207 → p ((i : Int) + 1) (q_kd ((i : Int) + 1))) (h0 : ∀ a : Int, q_kd a = 99 → p a 99) (a : Int) : p a (q_kd a) := by
  by_cases h1 : a ≤ 0
  · have e : q_kd a = 99 := by unfold q_kd; rw [if_pos h1]
    rw [e]; exact h0 a e
  · by_cases h2 : a ≤ 207
    · have := h (a - 1).toNat (by omega)
      rwa [show (((a - 1).toNat : Nat) : Int) + 1 = a by omega] at this
    · have e : q_kd a = 99 := by
        unfold q_kd
        rw [if_neg h1, List.getElem?_eq_none (by rw [show q_kdL.length = 207 by decide +kernel]; omega)]
        rfl
      rw [e]; exact h0 a e
theorem ln_k0 : ∀ a : Int, q_kd a = 0 → q_ln a = 3 := q_all (p := fun a k => k = 0 → q_ln a = 3) (by decide +kernel) (fun a _ h => by simp at h)
theorem ln_k1 : ∀ a : Int, q_kd a = 1 → q_ln a = 3 := q_all (p := fun a k => k = 1 → q_ln a = 3) (by decide +kernel) (fun a _ h => by simp at h)
theorem ln_k2 : ∀ a : Int, q_kd a = 2 → q_ln a = 4 := q_all (p := fun a k => k = 2 → q_ln a = 4) (by decide +kernel) (fun a _ h => by simp at h)
theorem ln_k3 : ∀ a : Int, q_kd a = 3 → q_ln a = 6 := q_all (p := fun a k => k = 3 → q_ln a = 6) (by decide +kernel) (fun a _ h => by simp at h)
theorem ln_k4 : ∀ a : Int, q_kd a = 4 → q_ln a = 12 := q_all (p := fun a k => k = 4 → q_ln a = 12) (by decide +kernel) (fun a _ h => by simp at h)
theorem ln_k5 : ∀ a : Int, q_kd a = 5 → q_ln a = 10 := q_all (p := fun a k => k = 5 → q_ln a = 10) (by decide +kernel) (fun a _ h => by simp at h)
theorem ln_k6 : ∀ a : Int, q_kd a = 6 → q_ln a = 9 := q_all (p := fun a k => k = 6 → q_ln a = 9) (by decide +kernel) (fun a _ h => by simp at h)
theorem ln_k7 : ∀ a : Int, q_kd a = 7 → q_ln a = 4 := q_all (p := fun a k => k = 7 → q_ln a = 4) (by decide +kernel) (fun a _ h => by simp at h)
theorem ln_k8 : ∀ a : Int, q_kd a = 8 → q_ln a = 9 := q_all (p := fun a k => k = 8 → q_ln a = 9) (by decide +kernel) (fun a _ h => by simp at h)
theorem ln_k9 : ∀ a : Int, q_kd a = 9 → q_ln a = 3 := q_all (p := fun a k => k = 9 → q_ln a = 3) (by decide +kernel) (fun a _ h => by simp at h)
theorem ln_k10 : ∀ a : Int, q_kd a = 10 → q_ln a = 3 := q_all (p := fun a k => k = 10 → q_ln a = 3) (by decide +kernel) (fun a _ h => by simp at h)
theorem ln_k11 : ∀ a : Int, q_kd a = 11 → q_ln a = 19 := q_all (p := fun a k => k = 11 → q_ln a = 19) (by decide +kernel) (fun a _ h => by simp at h)
theorem ln_k12 : ∀ a : Int, q_kd a = 12 → q_ln a = 48 := q_all (p := fun a k => k = 12 → q_ln a = 48) (by decide +kernel) (fun a _ h => by simp at h)
theorem ck0 : q_cl_ok 0 RX0 TX0 3 := by
  refine ⟨by decide, rfl, ?_, by decide +kernel, by decide +kernel, rfl, ln_k0⟩
  exact (by decide +kernel : ∀ w ∈ u_ws RX0 TX0 3, goodWord w = true ∧ w ∈ tables_1) |> fun h w hw => List.mem_filter.mpr ⟨List.mem_append_right _ (h w hw).2, (h w hw).1⟩
theorem ck1 : q_cl_ok 1 RX1 TX1 3 := by
  refine ⟨by decide, rfl, ?_, by decide +kernel, by decide +kernel, rfl, ln_k1⟩
  exact (by decide +kernel : ∀ w ∈ u_ws RX1 TX1 3, goodWord w = true ∧ w ∈ tables_1) |> fun h w hw => List.mem_filter.mpr ⟨List.mem_append_right _ (h w hw).2, (h w hw).1⟩
theorem ck2 : q_cl_ok 2 RX2 TX2 4 := by
  refine ⟨by decide, rfl, ?_, by decide +kernel, by decide +kernel, rfl, ln_k2⟩
  exact (by decide +kernel : ∀ w ∈ u_ws RX2 TX2 4, goodWord w = true ∧ w ∈ tables_1) |> fun h w hw => List.mem_filter.mpr ⟨List.mem_append_right _ (h w hw).2, (h w hw).1⟩
theorem ck3 : q_cl_ok 3 RX3 TX3 6 := by
  refine ⟨by decide, rfl, ?_, by decide +kernel, by decide +kernel, rfl, ln_k3⟩
  exact (by decide +kernel : ∀ w ∈ u_ws RX3 TX3 6, goodWord w = true ∧ w ∈ tables_1) |> fun h w hw => List.mem_filter.mpr ⟨List.mem_append_right _ (h w hw).2, (h w hw).1⟩
theorem ck4 : q_cl_ok 4 RX4 TX4 12 := by
  refine ⟨by decide, rfl, ?_, by decide +kernel, by decide +kernel, rfl, ln_k4⟩
  exact (by decide +kernel : ∀ w ∈ u_ws RX4 TX4 12, goodWord w = true ∧ w ∈ tables_1) |> fun h w hw => List.mem_filter.mpr ⟨List.mem_append_right _ (h w hw).2, (h w hw).1⟩
theorem ck5 : q_cl_ok 5 RX5 TX5 10 := by
  refine ⟨by decide, rfl, ?_, by decide +kernel, by decide +kernel, rfl, ln_k5⟩
  exact (by decide +kernel : ∀ w ∈ u_ws RX5 TX5 10, goodWord w = true ∧ w ∈ tables_1) |> fun h w hw => List.mem_filter.mpr ⟨List.mem_append_right _ (h w hw).2, (h w hw).1⟩
theorem ck6 : q_cl_ok 6 RX6 TX6 9 := by
  refine ⟨by decide, rfl, ?_, by decide +kernel, by decide +kernel, rfl, ln_k6⟩
  exact (by decide +kernel : ∀ w ∈ u_ws RX6 TX6 9, goodWord w = true ∧ w ∈ tables_1) |> fun h w hw => List.mem_filter.mpr ⟨List.mem_append_right _ (h w hw).2, (h w hw).1⟩
theorem ck7 : q_cl_ok 7 RX7 TX7 4 := by
  refine ⟨by decide, rfl, ?_, by decide +kernel, by decide +kernel, rfl, ln_k7⟩
  exact (by decide +kernel : ∀ w ∈ u_ws RX7 TX7 4, goodWord w = true ∧ w ∈ tables_1) |> fun h w hw => List.mem_filter.mpr ⟨List.mem_append_right _ (h w hw).2, (h w hw).1⟩
theorem ck8 : q_cl_ok 8 RX8 TX8 9 := by
  refine ⟨by decide, rfl, ?_, by decide +kernel, by decide +kernel, rfl, ln_k8⟩
  exact (by decide +kernel : ∀ w ∈ u_ws RX8 TX8 9, goodWord w = true ∧ w ∈ tables_1) |> fun h w hw => List.mem_filter.mpr ⟨List.mem_append_right _ (h w hw).2, (h w hw).1⟩
theorem ck9 : q_cl_ok 9 RX9 TX9 3 := by
  refine ⟨by decide, rfl, ?_, by decide +kernel, by decide +kernel, rfl, ln_k9⟩
  exact (by decide +kernel : ∀ w ∈ u_ws RX9 TX9 3, goodWord w = true ∧ w ∈ tables_1) |> fun h w hw => List.mem_filter.mpr ⟨List.mem_append_right _ (h w hw).2, (h w hw).1⟩
theorem ck10 : q_cl_ok 10 RX10 TX10 3 := by
  refine ⟨by decide, rfl, ?_, by decide +kernel, by decide +kernel, rfl, ln_k10⟩
  exact (by decide +kernel : ∀ w ∈ u_ws RX10 TX10 3, goodWord w = true ∧ w ∈ tables_1) |> fun h w hw => List.mem_filter.mpr ⟨List.mem_append_right _ (h w hw).2, (h w hw).1⟩
theorem ck11 : q_cl_ok 11 RX11 TX11 19 := by
  refine ⟨by decide, rfl, ?_, by decide +kernel, by decide +kernel, rfl, ln_k11⟩
  exact (by decide +kernel : ∀ w ∈ u_ws RX11 TX11 19, goodWord w = true ∧ w ∈ tables_1) |> fun h w hw => List.mem_filter.mpr ⟨List.mem_append_right _ (h w hw).2, (h w hw).1⟩
theorem ck12 : q_cl_ok 12 RX12 TX12 48 := by
  refine ⟨by decide, rfl, ?_, by decide +kernel, by decide +kernel, rfl, ln_k12⟩
  exact (by decide +kernel : ∀ w ∈ u_ws RX12 TX12 48, goodWord w = true ∧ w ∈ tables_1) |> fun h w hw => List.mem_filter.mpr ⟨List.mem_append_right _ (h w hw).2, (h w hw).1⟩
