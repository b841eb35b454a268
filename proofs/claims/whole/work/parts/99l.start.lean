-- what the constructors leave is what holds between calls
theorem q_mzv {a k v : Int} (h : q_lk q_UL a k = v) : q_Mz q_iB a k = v := by
  rw [q_mz_lk, show q_UL.take q_iB = q_UL from List.take_of_length_le (by decide +kernel)]
  exact h
theorem q_mzz {a : Int} (h : q_UL.all (fun u => !decide (u.1 = a)) = true) : q_Mz q_iB a = fun _ => 0 :=
  q_mz_row (by rw [show q_UL.take q_iB = q_UL from List.take_of_length_le (by decide +kernel)]; exact h)
theorem z_E0 : z_E (fun _ => 0) := by
  have hN : z_N (fun _ => 0) = 0 := rfl
  have hL : z_L (fun _ => 0) = 0 := rfl
  refine ⟨⟨⟨by decide, by decide⟩, ⟨by decide, by decide⟩, fun l hl => ?_, rfl, rfl, fun n _ => ⟨by show (0 : Int) ≤ 0; decide, by show (0 : Int) - 0 ≤ 16; decide⟩⟩, ⟨fun h => absurd h (by decide), fun h => absurd h (by decide)⟩, fun l hl => ?_, ⟨by decide, by decide⟩, ⟨by decide, by decide⟩, fun n hn => ?_⟩
  · have : (l : Int) < 0 := hl
    omega
  · rw [hL] at hl
    omega
  · rw [hN] at hn
    omega
theorem z_IV0 : z_IV (q_Mz q_iB) := by
  have hN : z_N (fun _ => 0) = 0 := rfl
  have hL : z_L (fun _ => 0) = 0 := rfl
  have e179 : q_Mz q_iB 179 = fun _ => 0 := q_mzz (by decide +kernel)
  have e180 : q_Mz q_iB 180 = fun _ => 0 := q_mzz (by decide +kernel)
  unfold z_IV z_K
  rw [e179, e180]
  have sd : z_sd (q_Mz q_iB) 50 (fun _ => 0) 1 := ⟨q_mzv (by decide +kernel), q_mzv (by decide +kernel), fun l hl => by rw [hL] at hl; omega, fun n hn => by rw [hN] at hn; omega⟩
  have m14 : q_Mz q_iB 1 4 = 3 := q_mzv (by decide +kernel)
  refine ⟨z_E0, ⟨⟨Or.inl m14, ?_, sd⟩, 0, ⟨q_mzv (by decide +kernel), by decide, fun k _ h => by rw [Nat.zero_testBit] at h; cases h⟩⟩, ?_, ⟨0, 0, by decide, by decide, q_mzv (by decide +kernel), q_mzv (by decide +kernel), rfl, fun i hi => absurd hi (Nat.not_lt_zero _)⟩, ?_, ?_, ?_, ⟨?_, ?_⟩⟩
  · rw [m14]
    exact ⟨by decide +kernel, q_mzv (by decide +kernel), q_mzv (by decide +kernel), q_mzv (by decide +kernel), fun l hl => by rw [hL] at hl; omega, fun n hn => by rw [hN] at hn; omega, Or.inr ⟨by decide, q_mzv (by decide +kernel)⟩, Or.inr ⟨by decide, q_mzv (by decide +kernel)⟩⟩
  · rw [m14]
    exact q_mzv (by decide +kernel)
  · intro i hi
    rcases (show i = 0 ∨ i = 1 by omega) with rfl | rfl
    · exact Or.inl ⟨q_mzv (by decide +kernel), rfl⟩
    · exact Or.inl ⟨q_mzv (by decide +kernel), rfl⟩
  · intro t ht
    rcases (show t = 0 ∨ t = 1 ∨ t = 2 ∨ t = 3 by omega) with rfl | rfl | rfl | rfl
    · exact Or.inl ⟨q_mzv (by decide +kernel), q_mzv (by decide +kernel)⟩
    · exact Or.inl ⟨q_mzv (by decide +kernel), q_mzv (by decide +kernel)⟩
    · exact Or.inl ⟨q_mzv (by decide +kernel), q_mzv (by decide +kernel)⟩
    · exact Or.inl ⟨q_mzv (by decide +kernel), q_mzv (by decide +kernel)⟩
  · have h7 : q_Mz q_iB 178 7 = 0 := q_mzv (by decide +kernel)
    unfold z_RP
    rw [h7]
    exact ⟨q_mzv (by decide +kernel), ⟨by decide, by decide⟩, fun i hi => by omega⟩
  · exact (q_mzv (v := 0) (by decide +kernel)).trans (q_mzv (by decide +kernel)).symm
  · exact (q_mzv (v := -1) (by decide +kernel)).trans (q_mzv (by decide +kernel)).symm
