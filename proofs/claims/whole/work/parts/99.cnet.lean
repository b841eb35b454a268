-- the class reads a text
theorem z_kp4 {p : Int} (h : p = 3 ∨ p = 18) : q_kd (p + 4) = 14 ∧ q_ln (p + 4) = 10 ∧ q_kd (p + 6) = 14 ∧ q_ln (p + 6) = 10 := by
  rcases h with e | e <;> (rw [e]; decide +kernel)
theorem cq_clear {d : Nat} {M : q_Mem} {K : q_Mem → Prop} {p : Int} (hd : 1 < d) (hp : p = 3 ∨ p = 18) (h : ∀ M', (∀ a, ¬ (p ≤ a ∧ a ≤ p + 14) → M' a = M a) → c_D p d_0 M' → K M') : q_kU yX4_clear mX4_clear d [qR p] M K := by
  have kp := c_kp hp
  have lay := z_k4 kp
  have kw := z_k4w kp
  have k4 := z_kp4 hp
  refine q_goU hd rfl (plainFor_of_name (by decide +kernel)) rfl (fun h => nomatch h) (Nat.le_of_ble_eq_true rfl) (fun d hd => bX4_clear_0 _ kp (fun M1 e1 M2 e2 M3 e3 M4 e4 => ?_))
  rw [lay.2.2.2.1, lay.2.2.2.2.2.1, lay.2.2.2.2.2.2.1, lay.2.2.2.2.2.2.2.1]
  refine k_fill1 10 (by omega) k4.1 k4.2.1 (by decide) (k_fill1 10 (by omega) k4.2.2.1 k4.2.2.2 (by decide) (c_clear (by omega) kw.1 (fun M7 e7 => c_clear (by omega) kw.2 (fun M8 e8 => ?_))))
  have o : ∀ a, a ≠ p → a ≠ p + 4 → a ≠ p + 6 → a ≠ p + 7 → a ≠ p + 11 → M8 a = M a := fun a g g4 g6 g7 g11 => by
    rw [e8, q_up_o g11, e7, q_up_o g7, z_fill_o g6, z_fill_o g4, e4, q_up_o g, e3, q_up_o g, e2, q_up_o g, e1, q_up_o g]
  have op : ∀ k, M8 p k = M4 p k := fun k => by rw [e8, q_up_o (by omega), e7, q_up_o (by omega), z_fill_o (by omega), z_fill_o (by omega)]
  refine h M8 (fun a g => o a (by omega) (by omega) (by omega) (by omega) (by omega)) ⟨hp, ?_, ?_, ?_, ?_, fun l hl => absurd hl (Nat.not_lt_zero l), fun m hm => ?_, fun m hm => ⟨?_, fun i hi => absurd hi (Nat.not_lt_zero i)⟩, ⟨?_, fun k hk => absurd hk (Nat.not_lt_zero k)⟩, ⟨?_, fun k hk => absurd hk (Nat.not_lt_zero k)⟩⟩
  · rw [op, e4, q_up_n (by decide), e3, q_up_n (by decide), e2, q_up_n (by decide), e1, q_up_s]; rfl
  · rw [op, e4, q_up_n (by decide), e3, q_up_n (by decide), e2, q_up_s]; rfl
  · rw [op, e4, q_up_n (by decide), e3, q_up_s]; rfl
  · rw [op, e4, q_up_s]; rfl
  · rw [e8, q_up_o (by omega), e7, q_up_o (by omega), z_fill_o (by omega), z_fill_s (by omega)]; rfl
  · rw [e8, q_up_o (by omega), e7, q_up_o (by omega), z_fill_s (by omega)]; rfl
  · rw [e8, q_up_o (by omega), e7, q_up_s]; rfl
  · rw [e8, q_up_s]; rfl
/-- what reading a text changes -/
def g_ft (p : Int) (M M' : q_Mem) : Prop := ∀ a, a ≠ 33 → ¬ (p ≤ a ∧ a ≤ p + 14) → M' a = M a
theorem cq_text {d : Nat} {M : q_Mem} {K : Int → q_Mem → Prop} {bt : Nat → Int} {n F : Nat} {p : Int} (hd : 65 < d) (hF : n < F) (hp : p = 3 ∨ p = 18) (hn : n ≤ 900) (hb : ∀ j : Nat, j < n → q_and (M 2 j) 255 = bt j ∧ 0 ≤ bt j ∧ bt j ≤ 255) (h1 : ∀ M', g_ft p M M' → (q_net (z_tks bt n) F).1.2.1 = 0 → c_q bt n p (q_net (z_tks bt n) F) M' → K 1 M') (h0 : ∀ M', g_ft p M M' → c_bad (q_net (z_tks bt n) F).1 M' → K 0 M') : q_kI yX5_readText mX5_readText d [qR 33, qR 2, qI (n : Int), qR p] M K := by
  have kp := c_kp hp
  refine q_goI hd rfl (plainFor_of_name (by decide +kernel)) rfl (fun h => nomatch h) (Nat.le_of_ble_eq_true rfl) (fun d hd => bX5_readText_0 _ _ _ (by decide +kernel) kp (fun M1 e1 => k_min (by omega) (fun M4 e4 M5 e5 => ?_)))
  rw [show min (n : Int) (q_ln 2 : Int) = (n : Int) by rw [show q_ln 2 = 900 by decide +kernel]; omega] at e4
  have e85 : M5 33 8 = p := by rw [e5, q_up_s]
  rw [e85]
  refine ⟨kp, cq_clear (by omega) hp (fun M7 o7 cD7 M8 e8 M9 e9 M10 e10 => ?_)⟩
  have o57 : ∀ a, a ≠ 33 → M5 a = M a := fun a g => by rw [e5, q_up_o g, e4, q_up_o g, e1, q_up_o g]
  have o10 : ∀ a, a ≠ 33 → M10 a = M7 a := fun a g => by rw [e10, q_up_o g, e9, q_up_o g, e8, q_up_o g]
  have r7 : M7 33 = M5 33 := o7 33 (by omega)
  have v2 : M10 33 2 = 2 := by rw [e10, q_up_n (by decide), e9, q_up_n (by decide), e8, q_up_n (by decide), r7, e5, q_up_n (by decide), e4, q_up_n (by decide), e1, q_up_s]
  have v3 : M10 33 3 = (n : Int) := by rw [e10, q_up_n (by decide), e9, q_up_n (by decide), e8, q_up_n (by decide), r7, e5, q_up_n (by decide), e4, q_up_s]
  have v8 : M10 33 8 = p := by rw [e10, q_up_n (by decide), e9, q_up_n (by decide), e8, q_up_n (by decide), r7]; exact e85
  have v0 : M10 33 0 = 0 := by rw [e10, q_up_n (by decide), e9, q_up_n (by decide), e8, q_up_s]
  have v1 : M10 33 1 = -1 := by rw [e10, q_up_n (by decide), e9, q_up_s]
  have v5 : M10 33 5 = ((0 : Nat) : Int) := by rw [e10, q_up_s]; rfl
  have m2 : M10 2 = M 2 := by rw [o10 2 (by decide), o7 2 (by omega), o57 2 (by decide)]
  have rd : z_rd M10 bt n := ⟨v2, v3, hn, fun j hj => by rw [m2]; exact hb j hj⟩
  have ft10 : g_ft p M M10 := fun a g g2 => by rw [o10 a g, o7 a g2, o57 a g]
  have cD10 : c_D p d_0 M10 := c_D_eq cD7 (fun a g g2 => o10 a (by omega))
  refine k_advance (by omega) rd (Nat.zero_le n) v5 (fun M11 f11 t11 => ?_)
  have g11 : g_f0 M10 M11 := g_f0_33 f11
  have hs11 : c_q bt n p (p_s0, d_0) M11 := ⟨⟨z_rd_f rd f11, t11, by rw [f11.2 0 (by decide) (by decide) (by decide) (by decide)]; exact v0, by rw [f11.2 1 (by decide) (by decide) (by decide) (by decide)]; exact v1⟩, by rw [f11.2 8 (by decide) (by decide) (by decide) (by decide)]; exact v8, c_D_f cD10 g11⟩
  have ft11 : g_ft p M M11 := fun a g g2 => by rw [f11.1 a g]; exact ft10 a g g2
  have hok := q_head_ok (n := n) (z_tks_lt (bt := bt))
  unfold q_net at h1 h0
  have tr : ∀ {M' : q_Mem}, g_fp p M11 M' → g_ft p M M' := fun {M'} f a g g2 => by rw [f.1 a g g2]; exact ft11 a g g2
  refine cq_head (by omega) hs11 (fun M12 f12 w12 r12 => ⟨fun _ => ?_, fun q => absurd q (by decide)⟩) (fun M12 f12 r12 => ⟨fun q => absurd rfl q, fun _ => h0 M12 (tr f12) (by rw [q_lines_bad r12.1]; exact r12)⟩)
  have okk := hok w12
  exact l_ct58 (by omega) hF F _ M12 0 w12 okk.1 (by omega) okk.2 r12 f12 (fun M' f w r => h1 M' (tr f) w r) (fun M' f r => h0 M' (tr f) r)
