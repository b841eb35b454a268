-- questions about faces and ways
def z_farP (o : Int → Int) (f g v : Int) : Prop := (¬ ((0 ≤ f ∧ f < z_fm o) ∧ 0 ≤ g ∧ g < z_fm o) ∧ v = -2) ∨ (((0 ≤ f ∧ f < z_fm o) ∧ 0 ≤ g ∧ g < z_fm o) ∧ ((∃ W k, z_op (z_fa (z_fo o)) (z_fb (z_fo o)) (z_aw (z_wr o)) (z_L o) f.toNat g.toNat W k ∧ v = (W : Int)) ∨ ((∀ W k, ¬ z_wl (z_fa (z_fo o)) (z_fb (z_fo o)) (z_aw (z_wr o)) (z_L o) k f.toNat g.toNat W) ∧ v = -1)))
theorem z_farP_un {o : Int → Int} {f g v v' : Int} (h : z_farP o f g v) (h' : z_farP o f g v') : v = v' := by
  rcases h with ⟨a, b⟩ | ⟨a, b⟩ <;> rcases h' with ⟨a', b'⟩ | ⟨a', b'⟩
  · omega
  · exact absurd a' a
  · exact absurd a a'
  · rcases b with ⟨W, k, c, e⟩ | ⟨c, e⟩ <;> rcases b' with ⟨W', k', c', e'⟩ | ⟨c', e'⟩
    · rw [e, e', (z_op_un c c').1]
    · exact absurd c.1 (c' W k)
    · exact absurd c'.1 (c W' k')
    · omega
theorem z_aw_c {w w' : Int → Int} {L : Nat} (h : ∀ l : Nat, l < L → w l = w' l) : ∀ l, l < L → z_aw w l = z_aw w' l := fun l hl => by
  unfold z_aw
  rw [h l hl]
theorem z_l99k : ∀ n : Nat, n < 16 → q_lay 99 n = 100 + (n : Int) ∧ q_kd (100 + (n : Int)) = 14 ∧ q_ln (100 + (n : Int)) = 16 := by decide +kernel
theorem k_heavy {d : Nat} {M : q_Mem} {K : Int → q_Mem → Prop} {o w : Int → Int} {f g : Nat} (hd : 0 < d) (hV : z_V M w (z_fo o) (z_L o) (z_fm o)) (hw : ∀ l : Nat, l < z_L o → w l = z_wr o l) (hf : f < z_fm o) (hg : g < z_fm o) (h1 : ∀ W k, z_op (z_fa (z_fo o)) (z_fb (z_fo o)) (z_aw (z_wr o)) (z_L o) f g W k → K (W : Int) M) (h0 : (∀ W k, ¬ z_wl (z_fa (z_fo o)) (z_fb (z_fo o)) (z_aw (z_wr o)) (z_L o) k f g W) → K (-1) M) : q_kI yX10_heaviness mX10_heaviness d [qR 98, qI (f : Int), qI (g : Int)] M K := by
  obtain ⟨h16, hL, hfo, hin, hwb, hT, -, -⟩ := id hV
  have hF := fun l hl => (z_fab hin (l := l) hl).2.2
  have T := z_tb_ok (S := 1024) (I := 536870912) hF (z_aw99 hwb) h16 (by decide) (by decide) (by decide) hf hg
  have lf := z_l99k f (by omega)
  have cc := z_aw_c hw
  have cc' := z_aw_c (fun l hl => (hw l hl).symm)
  refine q_goI hd rfl (plainFor_of_name (by decide +kernel)) rfl (fun h => nomatch h) (Nat.le_of_ble_eq_true rfl) (fun d hd => bX10_heaviness_0 _ _ ?_)
  rw [Int.toNat_natCast, lf.1, lf.2.2, hT f g hf hg]
  rcases T with ⟨W, k, ho, hk, hW9, e⟩ | ⟨no, e⟩
  · rw [e]
    refine ⟨by omega, lf.2.1, by omega, fun q => by omega, fun q => ⟨by omega, by omega, ?_⟩⟩
    rw [q_div_nn (by unfold q_in32; omega) (by unfold q_in32; decide) (by omega), show ((1024 * W + k : Nat) : Int) / 1024 = (W : Int) by omega]
    exact h1 W k (z_op_c cc ho)
  · rw [e]
    exact ⟨by omega, lf.2.1, by omega, fun _ => h0 (fun W k q => no W k (z_wl_c cc' q)), fun q => absurd (by decide) q⟩
theorem c_far {d : Nat} {M : q_Mem} {K : Int → q_Mem → Prop} {f g : Int} (hd : 23 < d) (hR : z_IV M) (h : ∀ v M', z_IV M' → (∀ a, 178 ≤ a → M' a = M a) → z_farP (M 179) f g v → K v M') : q_kI yX11_far mX11_far d [qR 1, qI f, qI g] M K := by
  refine q_goI hd rfl (plainFor_of_name (by decide +kernel)) rfl (fun h => nomatch h) (Nat.le_of_ble_eq_true rfl) (fun d hd => bX11_far_0 _ _ (R_hasFace (by omega) hR (fun M1 fr R1 f1 c1 a1 s1 => ⟨fun g1 g2 => ⟨fun q => absurd q (by decide), fun _ => R_hasFace (by omega) R1 (fun M3 fr3 R3 f3 c3 a3 s3 => ?_)⟩, fun g1 => ⟨fun _ => h _ M1 R1 (fun a ha => z_qf_hi f1 ha) (Or.inl ⟨fun q => g1 q.1, rfl⟩), fun q => absurd rfl q⟩⟩)))
  rw [z_qf_hi f1 (a := 179) (by decide)] at a3 s3 c3 ⊢
  refine ⟨fun g3 g4 => ⟨fun _ => ?_, fun q => absurd q (by decide)⟩, fun g3 => ⟨fun q => absurd rfl q, fun _ => h _ M3 R3 (fun a ha => (z_qf_hi f3 ha).trans (z_qf_hi f1 ha)) (Or.inl ⟨fun q => g3 q.2, rfl⟩)⟩⟩
  have e3 : M3 179 = M 179 := (z_qf_hi f3 (a := 179) (by decide)).trans (z_qf_hi f1 (by decide))
  refine R_need 11 (by omega) z_cl_11 R3 (fun M5 fr5 R5 f5 c5 a5 => ?_)
  rw [e3] at c5 a5
  obtain ⟨w, hw, hv⟩ := (z_has (k := 3) a5 (by decide) (by decide) : z_hv (M 179) M5 3)
  have hV := z_V_of hR.1 (z_has (k := 0) a5 (by decide) (by decide)) hw hv
  obtain ⟨m, rfl⟩ : ∃ m : Nat, f = (m : Int) := ⟨f.toNat, by omega⟩
  obtain ⟨n, rfl⟩ : ∃ m : Nat, g = (m : Int) := ⟨g.toNat, by omega⟩
  have hi : ∀ a, 178 ≤ a → M5 a = M a := fun a ha => (z_qf_hi f5 ha).trans ((z_qf_hi f3 ha).trans (z_qf_hi f1 ha))
  exact k_heavy (by omega) hV hw (by omega) (by omega) (fun W k ho => h _ M5 R5 hi (Or.inr ⟨⟨⟨g1, g2⟩, g3, g4⟩, Or.inl ⟨W, k, ho, rfl⟩⟩)) (fun no => h _ M5 R5 hi (Or.inr ⟨⟨⟨g1, g2⟩, g3, g4⟩, Or.inr ⟨no, rfl⟩⟩))
abbrev z_AS : List Int := [185, 186, 187, 188, 189, 190, 194, 195]
/-- the reference lays all ways -/
theorem R_allWays {d : Nat} {M : q_Mem} {K : q_Mem → Prop} (hd : 5 < d) (hR : z_IV M) (h : ∀ M', z_IV M' → M' 179 = M 179 → z_W M' (z_fo (M 179)) (z_fm (M 179)) → (∀ l : Nat, l < z_L (M 179) → M' 187 l = z_wr (M 179) l) → M' 178 25 = (z_fm (M 179) : Int) → K M') : q_kU yX12_laysAllWays mX12_laysAllWays d [qR 178] M K := by
  refine q_goU hd rfl (plainFor_of_name (by decide +kernel)) rfl (fun h => nomatch h) (Nat.le_of_ble_eq_true rfl) (fun d hd => bX12_laysAllWays_0 (k_laysFaces (by omega) hR.1.1 hR.1.2.2.2.2.2 (fun M6 f6 q6 => ?_)))
  have R6 := z_IV_r hR f6 (by decide) (by decide)
  have o6 : M6 179 = M 179 := f6.1 179 (by decide) (by decide)
  refine k_laysWeights (by omega) R6.1.1 R6.1.2.1 R6.1.2.2.1 R6.1.2.2.2.1 (fun M7 f7 w7 => ?_)
  have R7 := z_IV_r R6 f7 (by decide) (by decide)
  have o7 : M7 179 = M 179 := (f7.1 179 (by decide) (by decide)).trans o6
  rw [o6] at w7
  have h188 : ∀ x : Nat, x < 32 → M7 188 x = z_fo (M 179) x := fun x hx => by rw [f7.1 188 (by decide) (by decide)]; exact q6.2.1 x hx
  have h25 : M7 178 25 = (z_fm (M 179) : Int) := by rw [f7.2 25 (by decide)]; exact q6.1
  have wb : ∀ l : Nat, l < z_L (M 179) → -99 ≤ M7 187 l ∧ M7 187 l ≤ 99 := fun l hl => by rw [w7 l hl]; exact z_wt_bd
  have hin : ∀ x, x < 2 * z_L (M 179) → 0 ≤ z_fo (M 179) x ∧ z_fo (M 179) x < (z_fm (M 179) : Int) := fun x hx => z_fo_in hR.1.1 hR.1.2.2.2.2.2 hx
  have h16 := z_fm_16 hR.1.1 hR.1.2.2.2.2.2
  refine k_laysWays (fo := z_fo (M 179)) (F := z_fm (M 179)) (by omega) h16 R7.1.1 h25 h188 (by rw [o7]; exact hin) (by rw [o7]; exact wb) (fun M8 f8 t8 => ?_)
  have o8 : M8 179 = M 179 := (f8.1 179 (by decide) (by decide)).trans o7
  refine h M8 (z_IV_r R7 f8 (by decide) (by decide)) o8 ⟨by rw [o8]; exact hR.1.1, h16, fun x hx => by rw [f8.1 188 (by decide) (by decide)]; exact h188 x hx, by rw [o8]; exact hin, by rw [o8, f8.1 187 (by decide) (by decide)]; exact wb, ?_⟩ (fun l hl => by rw [f8.1 187 (by decide) (by decide)]; exact z_wts_wr w7 hl) (by rw [f8.2 25 (by decide)]; exact h25)
  rw [f8.1 187 (by decide) (by decide), o8]
  rw [o7] at t8
  exact t8
theorem r_far {d : Nat} {M : q_Mem} {K : Int → q_Mem → Prop} {f g : Int} (hd : 7 < d) (hR : z_IV M) (h : ∀ v M', z_IV M' → z_farP (M 179) f g v → K v M') : q_kI yX12_far mX12_far d [qR 178, qI f, qI g] M K := by
  refine q_goI hd rfl (plainFor_of_name (by decide +kernel)) rfl (fun h => nomatch h) (Nat.le_of_ble_eq_true rfl) (fun d hd => bX12_far_0 _ _ (fun M1 e1 => ?_))
  obtain ⟨R1, o1, f1⟩ := z_IV_0 hR e1
  refine R_allWays (by omega) R1 (fun M2 R2 o2 W2 w2 h25 => ?_)
  rw [o1] at o2 W2 w2 h25
  refine k_isFace (c := z_fm (M 179)) (by omega) h25 W2.2.1 (fun g1 g2 => ⟨fun q => absurd q (by decide), fun _ => ?_⟩) (fun g1 => ⟨fun _ => h _ M2 R2 (Or.inl ⟨fun q => g1 q.1, rfl⟩), fun q => absurd rfl q⟩)
  refine k_isFace (c := z_fm (M 179)) (by omega) h25 W2.2.1 (fun g3 g4 => ⟨fun _ => ?_, fun q => absurd q (by decide)⟩) (fun g1 => ⟨fun q => absurd rfl q, fun _ => h _ M2 R2 (Or.inl ⟨fun q => g1 q.2, rfl⟩)⟩)
  obtain ⟨hn, h16, hfo, hin, hw, hT⟩ := W2
  obtain ⟨m, rfl⟩ : ∃ m : Nat, f = (m : Int) := ⟨f.toNat, by omega⟩
  obtain ⟨n, rfl⟩ : ∃ m : Nat, g = (m : Int) := ⟨g.toNat, by omega⟩
  have hF := fun l hl => (z_fab hin (l := l) hl).2.2
  have T := z_tb_ok (S := 1000) (I := 67108864) hF (z_aw99 hw) h16 (by decide) (by decide) (by decide) (show m < z_fm (M 179) by omega) (show n < z_fm (M 179) by omega)
  rw [o2] at T hT
  have cc := z_aw_c w2
  have cc' := z_aw_c (fun l hl => (w2 l hl).symm)
  rw [q_mul_eq (by omega), q_add_eq (by omega), show 16 * (m : Int) + (n : Int) = ((16 * m + n : Nat) : Int) by omega, hT m n (by omega) (by omega)]
  rcases T with ⟨W, k, ho, hk, hW9, e⟩ | ⟨no, e⟩
  · rw [e]
    refine ⟨by omega, fun _ => ⟨by omega, ?_⟩, fun q => by omega⟩
    rw [q_div_nn (by unfold q_in32; omega) (by unfold q_in32; decide) (by omega), show ((1000 * W + k : Nat) : Int) / 1000 = (W : Int) by omega]
    exact h _ M2 R2 (Or.inr ⟨⟨⟨g1, g2⟩, g3, g4⟩, Or.inl ⟨W, k, z_op_c cc ho, rfl⟩⟩)
  · rw [e]
    exact ⟨by omega, fun q => absurd rfl q, fun _ => h _ M2 R2 (Or.inr ⟨⟨⟨g1, g2⟩, g3, g4⟩, Or.inr ⟨fun W k q => no W k (z_wl_c cc' q), rfl⟩⟩)⟩
theorem tt_far {d : Nat} {M : q_Mem} {K : Int → Int → q_Mem → Prop} {f g : Int} (hd : 60 < d) (hR : z_IV M) (h : ∀ v M', z_IV M' → K v v M') : q_kI yX11_far mX11_far d [qR 1, qI f, qI g] M (fun v M1 => q_kI yX12_far mX12_far d [qR 178, qI f, qI g] M1 (fun v2 M2 => K v v2 M2)) :=
  c_far (by omega) hR (fun v M1 R1 e1 p1 => r_far (by omega) R1 (fun v2 M' R' p2 => by rw [e1 179 (by decide)] at p2; rw [z_farP_un p1 p2]; exact h _ M' R'))
def z_acP (o : Int → Int) (f g i v : Int) : Prop := (¬ ((0 ≤ f ∧ f < z_fm o) ∧ 0 ≤ g ∧ g < z_fm o) ∧ v = -2) ∨ (((0 ≤ f ∧ f < z_fm o) ∧ 0 ≤ g ∧ g < z_fm o) ∧ i < 0 ∧ v = -3) ∨ (((0 ≤ f ∧ f < z_fm o) ∧ 0 ≤ g ∧ g < z_fm o) ∧ 0 ≤ i ∧ ((∃ W k ls, z_op (z_fa (z_fo o)) (z_fb (z_fo o)) (z_aw (z_wr o)) (z_L o) f.toNat g.toNat W k ∧ z_pth (z_fa (z_fo o)) (z_fb (z_fo o)) (z_aw (z_wr o)) (z_L o) g.toNat k f.toNat ls ∧ v = if i < (k : Int) then (ls.getD i.toNat 0 : Int) else -1) ∨ ((∀ W k, ¬ z_wl (z_fa (z_fo o)) (z_fb (z_fo o)) (z_aw (z_wr o)) (z_L o) k f.toNat g.toNat W) ∧ v = -1)))
theorem z_acP_un {o : Int → Int} {f g i v v' : Int} (h : z_acP o f g i v) (h' : z_acP o f g i v') : v = v' := by
  rcases h with ⟨a, b⟩ | ⟨a, b, c⟩ | ⟨a, b, c⟩ <;> rcases h' with ⟨a', b'⟩ | ⟨a', b', c'⟩ | ⟨a', b', c'⟩
  · omega
  · exact absurd a' a
  · exact absurd a' a
  · exact absurd a a'
  · omega
  · omega
  · exact absurd a a'
  · omega
  · rcases c with ⟨W, k, ls, c, p, e⟩ | ⟨c, e⟩ <;> rcases c' with ⟨W', k', ls', c', p', e'⟩ | ⟨c', e'⟩
    · obtain ⟨rfl, rfl⟩ := z_op_un c c'
      rw [e, e', z_pth_un p p']
    · exact absurd c.1 (c' W k)
    · exact absurd c'.1 (c W' k')
    · omega
theorem c_across {d : Nat} {M : q_Mem} {K : Int → q_Mem → Prop} {f g i : Int} (hd : 23 < d) (hR : z_IV M) (h : ∀ v M', z_IV M' → (∀ a, 178 ≤ a → M' a = M a) → z_acP (M 179) f g i v → K v M') : q_kI yX11_across mX11_across d [qR 1, qI f, qI g, qI i] M K := by
  refine q_goI hd rfl (plainFor_of_name (by decide +kernel)) rfl (fun h => nomatch h) (Nat.le_of_ble_eq_true rfl) (fun d hd => bX11_across_0 _ _ _ (R_hasFace (by omega) hR (fun M1 fr R1 f1 c1 a1 s1 => ⟨fun g1 g2 => ⟨fun q => absurd q (by decide), fun _ => R_hasFace (by omega) R1 (fun M3 fr3 R3 f3 c3 a3 s3 => ?_)⟩, fun g1 => ⟨fun _ => h _ M1 R1 (fun a ha => z_qf_hi f1 ha) (Or.inl ⟨fun q => g1 q.1, rfl⟩), fun q => absurd rfl q⟩⟩)))
  rw [z_qf_hi f1 (a := 179) (by decide)] at a3 s3 c3 ⊢
  have hi3 : ∀ a, 178 ≤ a → M3 a = M a := fun a ha => (z_qf_hi f3 ha).trans (z_qf_hi f1 ha)
  refine ⟨fun g3 g4 => ⟨fun _ => ⟨fun g5 => ?_, fun g5 => h _ M3 R3 hi3 (Or.inr (Or.inl ⟨⟨⟨g1, g2⟩, g3, g4⟩, by omega, rfl⟩))⟩, fun q => absurd q (by decide)⟩, fun g3 => ⟨fun q => absurd rfl q, fun _ => h _ M3 R3 hi3 (Or.inl ⟨fun q => g3 q.2, rfl⟩)⟩⟩
  have e3 : M3 179 = M 179 := hi3 179 (by decide)
  refine R_need 11 (by omega) z_cl_11 R3 (fun M5 fr5 R5 f5 c5 a5 => ?_)
  rw [e3] at c5 a5
  obtain ⟨w, hw, hv⟩ := (z_has (k := 3) a5 (by decide) (by decide) : z_hv (M 179) M5 3)
  have hV := z_V_of hR.1 (z_has (k := 0) a5 (by decide) (by decide)) hw hv
  obtain ⟨m, rfl⟩ : ∃ m : Nat, f = (m : Int) := ⟨f.toNat, by omega⟩
  obtain ⟨n, rfl⟩ : ∃ m : Nat, g = (m : Int) := ⟨g.toNat, by omega⟩
  have hi : ∀ a, 178 ≤ a → M5 a = M a := fun a ha => (z_qf_hi f5 ha).trans (hi3 a ha)
  have cc := z_aw_c hw
  have cc' := z_aw_c (fun l hl => (hw l hl).symm)
  exact k_crossed (by omega) hV (by omega) (by omega) g5 (fun W k ls ho hp => h _ M5 R5 hi (Or.inr (Or.inr ⟨⟨⟨g1, g2⟩, g3, g4⟩, g5, Or.inl ⟨W, k, ls, z_op_c cc ho, z_pth_c cc hp, rfl⟩⟩))) (fun no => h _ M5 R5 hi (Or.inr (Or.inr ⟨⟨⟨g1, g2⟩, g3, g4⟩, g5, Or.inr ⟨fun W k q => no W k (z_wl_c cc' q), rfl⟩⟩)))
theorem r_across {d : Nat} {M : q_Mem} {K : Int → q_Mem → Prop} {f g i : Int} (hd : 7 < d) (hR : z_IV M) (h : ∀ v M', z_IV M' → z_acP (M 179) f g i v → K v M') : q_kI yX12_across mX12_across d [qR 178, qI f, qI g, qI i] M K := by
  refine q_goI hd rfl (plainFor_of_name (by decide +kernel)) rfl (fun h => nomatch h) (Nat.le_of_ble_eq_true rfl) (fun d hd => bX12_across_0 _ _ _ (fun M1 e1 => ?_))
  obtain ⟨R1, o1, f1⟩ := z_IV_0 hR e1
  refine R_allWays (by omega) R1 (fun M2 R2 o2 W2 w2 h25 => ?_)
  rw [o1] at o2 W2 w2 h25
  refine k_isFace (c := z_fm (M 179)) (by omega) h25 W2.2.1 (fun g1 g2 => ⟨fun q => absurd q (by decide), fun _ => ?_⟩) (fun g1 => ⟨fun _ => h _ M2 R2 (Or.inl ⟨fun q => g1 q.1, rfl⟩), fun q => absurd rfl q⟩)
  refine k_isFace (c := z_fm (M 179)) (by omega) h25 W2.2.1 (fun g3 g4 => ⟨fun _ => ⟨fun g5 => ?_, fun g5 => h _ M2 R2 (Or.inr (Or.inl ⟨⟨⟨g1, g2⟩, g3, g4⟩, by omega, rfl⟩))⟩, fun q => absurd q (by decide)⟩) (fun g1 => ⟨fun q => absurd rfl q, fun _ => h _ M2 R2 (Or.inl ⟨fun q => g1 q.2, rfl⟩)⟩)
  obtain ⟨m, rfl⟩ : ∃ m : Nat, f = (m : Int) := ⟨f.toNat, by omega⟩
  obtain ⟨n, rfl⟩ : ∃ m : Nat, g = (m : Int) := ⟨g.toNat, by omega⟩
  obtain ⟨j, rfl⟩ : ∃ m : Nat, i = (m : Int) := ⟨i.toNat, by omega⟩
  have cc := z_aw_c w2
  have cc' := z_aw_c (fun l hl => (w2 l hl).symm)
  refine k_laysCrossed (by omega) W2 (by omega) (by omega) (fun W k ls M7 ho hk hp f7 q7 => ?_) (fun no => ?_)
  · rw [o2] at ho hp
    have R7 := z_IV_r R2 f7 (by decide) (by decide)
    refine ⟨fun q => ?_, fun q => ⟨by omega, ?_⟩⟩
    · exact h _ M7 R7 (Or.inr (Or.inr ⟨⟨⟨g1, g2⟩, g3, g4⟩, g5, Or.inl ⟨W, k, ls, z_op_c cc ho, z_pth_c cc hp, by rw [if_neg (by omega)]⟩⟩))
    · rw [q7 j (by omega)]
      exact h _ M7 R7 (Or.inr (Or.inr ⟨⟨⟨g1, g2⟩, g3, g4⟩, g5, Or.inl ⟨W, k, ls, z_op_c cc ho, z_pth_c cc hp, by rw [if_pos (by omega), Int.toNat_natCast]⟩⟩))
  · rw [o2] at no
    exact ⟨fun _ => h _ M2 R2 (Or.inr (Or.inr ⟨⟨⟨g1, g2⟩, g3, g4⟩, g5, Or.inr ⟨fun W k q => no W k (z_wl_c cc' q), rfl⟩⟩)), fun q => absurd (by omega) q⟩
theorem tt_across {d : Nat} {M : q_Mem} {K : Int → Int → q_Mem → Prop} {f g i : Int} (hd : 60 < d) (hR : z_IV M) (h : ∀ v M', z_IV M' → K v v M') : q_kI yX11_across mX11_across d [qR 1, qI f, qI g, qI i] M (fun v M1 => q_kI yX12_across mX12_across d [qR 178, qI f, qI g, qI i] M1 (fun v2 M2 => K v v2 M2)) :=
  c_across (by omega) hR (fun v M1 R1 e1 p1 => r_across (by omega) R1 (fun v2 M' R' p2 => by rw [e1 179 (by decide)] at p2; rw [z_acP_un p1 p2]; exact h _ M' R'))
