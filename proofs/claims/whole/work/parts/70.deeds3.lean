-- sides, undo
theorem z_sides_lt {o : Int → Int} (hn : z_net o) {cut : Nat} : z_sides o cut < 2 ^ z_N o := (z_s3_lt hn (z_N o)).2
def z_swt (o : Int → Int) (jn : Nat) : Nat := z_sides o (z_gd (z_wr o) 1 (z_L o) ^^^ jn)
theorem c_sides {d : Nat} {M : q_Mem} {K : Int → q_Mem → Prop}  (hd : 24 < d) (hR : z_IV M) (h1 : z_tw (M 179) = 0 → ∀ (p' : Nat → Int) (jn' : Nat), z_PF (M 179) 1 p' jn' → ∀ M', (∀ a, 178 ≤ a → M' a = M a) → z_K M' (z_ro M (z_note (z_put (M 179) 2 (z_swt (M 179) jn' : Int)) (fun k => M 179 (1 + k)))) → K (z_bc (z_s (M 179) ^^^ z_swt (M 179) jn') 10 : Int) M') (h0 : ¬ z_tw (M 179) = 0 → ∀ M', z_IV M' → (∀ a, 178 ≤ a → M' a = M a) → K (-5) M') : q_kI yX11_sides mX11_sides d [qR 1] M K := by
  have hE := hR.1
  have hN := z_net_N10 hE.1
  have s := z_E_s hE
  refine q_goI hd rfl (plainFor_of_name (by decide +kernel)) rfl (fun h => nomatch h) (Nat.le_of_ble_eq_true rfl) (fun d hd => bX11_sides_0 (R_flat (by omega) hR (fun M3 fr3 R3 f3 c3 a3 s3 => ?_)))
  have hi3 : ∀ a, 178 ≤ a → M3 a = M a := fun a ha => z_qf_hi f3 ha
  refine ⟨fun t0 => ⟨fun _ => R_need 27 (by omega) z_cl_27 R3 (fun M5 fr5 R5 f5 c5 a5 => ?_), fun q => absurd q (by decide)⟩, fun t0 => ⟨fun q => absurd rfl q, fun _ => h0 t0 M3 R3 hi3⟩⟩
  have hi5 : ∀ a, 178 ≤ a → M5 a = M a := fun a ha => (z_qf_hi f5 ha).trans (hi3 a ha)
  have o5 := hi5 179 (by decide)
  rw [hi3 179 (by decide)] at a5 c5
  have s0 : z_sh (M 179) M5 := (z_has (k := 0) a5 (by decide) (by decide) : z_hv (M 179) M5 0)
  have hv1 := (z_has (k := 1) a5 (by decide) (by decide) : z_hv (M 179) M5 1)
  obtain ⟨p', jn', q1, q2, q3, q4⟩ := (z_has (k := 4) a5 (by decide) (by decide) : z_hv (M 179) M5 4)
  have gl := z_gd_lt (w := z_wr (M 179)) (sg := 1) (z_net_L16 hE.1)
  have wl := z_sides_lt hE.1 (cut := z_gd (z_wr (M 179)) 1 (z_L (M 179)) ^^^ jn')
  have wl10 := z_p10 wl hN
  refine k_gcut (by omega) hE c5 hv1 q2 q3 (k_csidesOf (by omega) (z_xl gl q3) hE.1 (z_pl_pn c5.2.1) s0.2.2.2.1 ?_)
  refine R_keep (by omega) R5 (fun M8 d8 r8 s8 => ?_)
  rw [o5] at r8 s8
  rw [z_E_sM hE r8.1, q_xor_nat (by omega) (by omega)]
  refine k_bitCount (by omega) (Nat.xor_lt_two_pow (n := 10) (by omega) wl10) (fun M11 e11 => ?_)
  have rc := z_rc_fl hE r8 wl e11
  have ho : z_ost (M 179) (z_put (M 179) 2 (z_swt (M 179) jn' : Int)) := z_ost_put (by omega)
  have dq : z_dq M M11 := z_dq_tr (z_dq_tr (z_dq_tr (z_dq_qf f3) (z_dq_qf f5)) d8) (z_dq_df rc.1)
  exact h1 t0 p' jn' q4 M11 (fun a ha => z_dq_hi dq ha) (z_K_note hR dq ho (z_E_put2 hE wl) rc.2 (s8 _ ho) (fun a q1 q2 => rc.1.1 a (by omega) (by omega)))
theorem r_sides {d : Nat} {M : q_Mem} {K : Int → q_Mem → Prop}  (hd : 6 < d) (hE : z_E (M 179)) (hb : 0 ≤ M 179 102 ∧ M 179 102 ≤ 10) (h1 : z_tw (M 179) = 0 → ∀ (p' : Nat → Int) (jn' : Nat), z_PF (M 179) 1 p' jn' → ∀ M', z_fr (179 :: 193 :: z_PS) (0 :: z_PFl) M M' → M' 179 = z_note (z_put (M 179) 2 (z_swt (M 179) jn' : Int)) (fun k => M 179 (1 + k)) → K (z_bc (z_s (M 179) ^^^ z_swt (M 179) jn') 10 : Int) M') (h0 : ¬ z_tw (M 179) = 0 → ∀ M', z_fr (179 :: 193 :: z_PS) (0 :: z_PFl) M M' → M' 179 = M 179 → K (-5) M') : q_kI yX12_sides mX12_sides d [qR 178] M K := by
  have hN := z_net_N10 hE.1
  have s := z_E_s hE
  refine q_goI hd rfl (plainFor_of_name (by decide +kernel)) rfl (fun h => nomatch h) (Nat.le_of_ble_eq_true rfl) (fun d hd => bX12_sides_0 (fun M1 e1 => ?_))
  have f1 : z_fr [] [0] M M1 := by rw [e1]; exact z_fr_f (by decide)
  have o1 : M1 179 = M 179 := f1.1 179 (by decide) (by decide)
  refine k_laysPairs (by omega) (Or.inl rfl) (by rw [o1]; exact hE) (fun t0 M2 f2 => ⟨fun q => absurd rfl q, fun _ => ?_⟩) (fun t0 M2 p' jn' f2 w2 l2 j2 jl q2 P2 => ⟨fun _ => k_stores (by omega) (fun M4 f4 w4 => ?_), fun q => absurd q (by decide)⟩)
  · rw [o1] at t0
    exact h0 t0 M2 (z_fr_tr (z_fr_mono f1 (by decide) (by decide)) (z_fr_mono f2 (by decide) (by decide))) ((f2.1 179 (by decide) (by decide)).trans o1)
  · have o2 : M2 179 = M 179 := (f2.1 179 (by decide) (by decide)).trans o1
    have o4 : M4 179 = M 179 := (f4.1 179 (by decide) (by decide)).trans o2
    rw [o1] at t0 w2 l2 P2
    have gl := z_gd_lt (w := z_wr (M 179)) (sg := 1) (z_net_L16 hE.1)
    have wl := z_sides_lt hE.1 (cut := z_gd (z_wr (M 179)) 1 (z_L (M 179)) ^^^ jn')
    have wl10 := z_p10 wl hN
    have sb := z_p10 s.2.1 hN
    refine k_cutOf (o := M 179) (jn := jn') (by omega) (Or.inl rfl) (by rw [o4]; exact hE) (by rw [o4, f4.1 187 (by decide) (by decide)]; exact fun l hl => z_wts_wr w2 hl) (by rw [f4.2 35 (by decide)]; exact j2) jl ?_
    rw [o4]
    refine k_sidesOf (by omega) (z_xl gl jl) (by rw [o4]; exact hE.1) (by rw [o4, f4.1 191 (by decide) (by decide)]; exact l2) ?_
    rw [o4, s.1, q_xor_nat (by omega) (by omega), Nat.xor_comm]
    refine k_bitsOf (by omega) (Nat.xor_lt_two_pow (n := 10) sb wl10) (fun M5 e5 => ?_)
    have o5 : M5 179 = z_put (M 179) 2 (z_swt (M 179) jn' : Int) := by rw [e5, z_upP, o4]; rfl
    have b1 : 0 ≤ M5 179 102 ∧ M5 179 102 ≤ 10 := by rw [o5, z_put_n (by omega)]; exact hb
    refine k_notes (by omega) b1 (fun M6 f6 e6 => ?_)
    refine h1 t0 p' jn' P2 M6 (z_fr_tr (z_fr_tr (z_fr_tr (z_fr_tr (z_fr_mono f1 (by decide) (by decide)) (z_fr_mono f2 (by decide) (by decide))) (z_fr_mono f4 (by decide) (by decide))) (z_fr_u z_fr_rf e5 (by decide) (by decide))) (z_fr_mono f6 (by decide) (by decide))) ?_
    rw [e6, o5]
    exact z_note_c (fun k hk => by rw [e5, q_up_o (by decide), w4 k hk, o2])
theorem z_K_IV {M M1 : q_Mem} (hR : z_IV M) (hi : ∀ a, 178 ≤ a → M1 a = M a) (h : z_K M1 M) : z_IV M1 := by
  refine z_K_mv h (fun _ _ => rfl) (fun _ _ _ _ => rfl) (by rw [hi 179 (by decide)]; exact h.2.1) (hi 179 (by decide)) (hi 180 (by decide)) (hi 181 (by decide)) (hi 205 (by decide)) (hi 206 (by decide)) (hi 207 (by decide)) ?_ ?_ ?_ <;> rw [hi 178 (by decide)]
/-- the reference over a state whose class's side has moved on: what it asks of it -/
theorem z_ro_id {M : q_Mem} : z_ro M (M 179) = M := by
  funext b
  unfold z_ro
  by_cases c : b = 179
  · rw [if_pos c, c]
  · rw [if_neg c]
theorem tt_sides {d : Nat} {M : q_Mem} {K : Int → Int → q_Mem → Prop} (hd : 60 < d) (hR : z_IV M) (h : ∀ v M', z_IV M' → K v v M') : q_kI yX11_sides mX11_sides d [qR 1] M (fun v M1 => q_kI yX12_sides mX12_sides d [qR 178] M1 (fun v2 M2 => K v v2 M2)) :=
  c_sides (by omega) hR (fun t0 p' jn' P M1 hi k1 => r_sides (by omega) (z_hiE hR hi).1 (z_hiE hR hi).2 (fun q1 p2 jn2 P2 M2 f2 e2 => by
    rw [hi 179 (by decide)] at e2 P2 ⊢
    rw [(z_PF_un P2 P).2] at e2 ⊢
    exact h _ M2 (z_IV_d k1 hi f2 (by decide) (by decide) e2)) (fun g => by rw [hi 179 (by decide)] at g; exact absurd t0 g)) (fun t0 M1 R1 hi => r_sides (by omega) R1.1 (z_hs_n R1.2.2.2.1) (fun q1 => by rw [hi 179 (by decide)] at q1; exact absurd q1 t0) (fun _ M2 f2 e2 => h _ M2 (z_IV_d (o' := M1 179) (M := M1) (by rw [z_ro_id]; exact R1) (fun _ _ => rfl) f2 (by decide) (by decide) e2)))
/-- undo -/
theorem c_undo {d : Nat} {M : q_Mem} {K : Int → q_Mem → Prop} {n : Int} (hd : 4 < d) (hR : z_IV M) (h1 : (1 ≤ n ∧ n ≤ M 179 102) → ∀ M', (∀ a, 178 ≤ a → M' a = M a) → z_K M' (z_ro M (z_und (M 179) (M 179 102 - n))) → K (M 179 102 - n) M') (h0 : ¬ (1 ≤ n ∧ n ≤ M 179 102) → K (-3) M) : q_kI yX11_undo mX11_undo d [qR 1, qI n] M K := by
  have hE := hR.1
  have hs := hR.2.2.2.1
  have hb := z_hs_n hs
  refine q_goI hd rfl (plainFor_of_name (by decide +kernel)) rfl (fun h => nomatch h) (Nat.le_of_ble_eq_true rfl) (fun d hd => bX11_undo_0 _ ⟨fun g => h0 (by omega), fun g => ?_⟩)
  rw [z_hs_s hs]
  refine ⟨fun g2 => k_takeBack (by omega) hE hs (by omega) g2 (fun M1 f1 s1 d1 E1 e1 M2 e2 => ?_), fun g2 => h0 (by omega)⟩
  have o2 : ∀ a, a ≠ 1 → M2 a = M1 a := fun a g => by rw [e2, q_up_o g]
  have c1 : ∀ k, k ≠ 18 → M2 1 k = M 1 k := fun k g => by rw [e2, q_up_n g, f1 1 (by decide) (by decide)]
  have dq : z_dq M M2 := ⟨fun a g1 g2 g3 _ => (o2 a g1).trans (f1 a (by omega) (by omega)), c1⟩
  rw [o2 56 (by decide), e1]
  have en := z_und_n (o := M 179) (m := M 179 102 - n)
  have hc := hR.2.1.1
  have rc : z_RC M2 (z_und (M 179) (M 179 102 - n)) := ⟨⟨by rw [c1 4 (by decide)]; exact hc.1, e_pl en hE.1 hE.2.1 (z_cpl_eq hc.1 hc.2.1 (c1 4 (by decide)) (fun a g1 g2 => (o2 a (by omega)).trans (f1 a (by omega) (by omega)))), z_sd_eq d1 (o2 50 (by decide)) (o2 51 (by decide)) (o2 52 (by decide))⟩, 0, by rw [e2, q_up_s]; rfl, by decide, fun k hk hb => by simp at hb⟩
  refine h1 ⟨by omega, g2⟩ M2 (fun a ha => z_dq_hi dq ha) (z_K_new hR dq E1 rc (z_hs_eq s1 (fun a _ _ => o2 a (by omega))) (fun j hj => ?_))
  unfold z_und
  rw [if_neg (by omega), if_neg (by omega)]
def z_undi (o : Int → Int) (m i : Int) : Int → Int := fun j => if j = 102 then m else if 1 ≤ j ∧ j < 1 + i then o (103 + 50 * m + (j - 1)) else o j
theorem l_und44 {d : Nat} {K : Int → q_Mem → Prop} {M0 : q_Mem} {o : Int → Int} {m : Nat} (hm : m < 10) (h : ∀ M', z_fr [179] [] M0 M' → M' 179 = z_und o m → K (m : Int) M') :
    ∀ (j i : Nat) (M : q_Mem), i + j = 50 → z_fr [179] [] M0 M → M 179 = z_undi o m i → q_v mX12_undo d (qPI K) M 44 [some (qR 178), none, some (qI (i : Int))] [] := by
  intro j
  induction j with
  | zero =>
    intro i M e f q
    have ei : i = 50 := by omega
    subst ei
    have e102 : M 179 102 = (m : Int) := by rw [q]; unfold z_undi; rw [if_pos rfl]
    refine bX12_undo_44 _ ⟨fun _ => ?_, fun g => absurd (by omega) g⟩
    rw [e102]
    exact h M f q
  | succ j ih =>
    intro i M e f q
    have e102 : M 179 102 = (m : Int) := by rw [q]; unfold z_undi; rw [if_pos rfl]
    refine bX12_undo_44 _ ⟨fun g => absurd g (by omega), fun _ => ?_⟩
    rw [e102, q_mul_eq (by omega), q_add_eq (a := 103) (by omega), q_add_eq (b := (i : Int)) (by omega), q_add_eq (a := 1) (by omega), q_add_eq (a := (i : Int)) (by omega), show (i : Int) + 1 = ((i + 1 : Nat) : Int) by omega]
    refine ⟨by omega, by omega, fun M3 e3 => ih (i + 1) M3 (by omega) (z_fr_u f e3 (by decide) (by decide)) ?_⟩
    rw [e3, z_upP, q]
    funext x
    unfold z_put z_undi
    by_cases c : x = 1 + (i : Int)
    · subst c
      rw [if_pos rfl, if_neg (by omega), if_neg (by omega), if_neg (by omega), if_pos (by omega)]
      congr 1 <;> omega
    · rw [if_neg c]
      by_cases c1 : x = 102
      · rw [if_pos c1, if_pos c1]
      · rw [if_neg c1, if_neg c1]
        by_cases c2 : 1 ≤ x ∧ x < 1 + (i : Int)
        · rw [if_pos c2, if_pos (by omega)]
        · rw [if_neg c2, if_neg (by omega)]
theorem r_undo {d : Nat} {M : q_Mem} {K : Int → q_Mem → Prop} {n : Int} (hd : 1 < d) (hb : 0 ≤ M 179 102 ∧ M 179 102 ≤ 10) (h1 : (1 ≤ n ∧ n ≤ M 179 102) → ∀ M', z_fr [179] [0] M M' → M' 179 = z_und (M 179) (M 179 102 - n) → K (M 179 102 - n) M') (h0 : ¬ (1 ≤ n ∧ n ≤ M 179 102) → ∀ M', z_fr [] [0] M M' → K (-3) M') : q_kI yX12_undo mX12_undo d [qR 178, qI n] M K := by
  refine q_goI hd rfl (plainFor_of_name (by decide +kernel)) rfl (fun h => nomatch h) (Nat.le_of_ble_eq_true rfl) (fun d hd => bX12_undo_0 _ (fun M1 e1 => ?_))
  have f1 : z_fr [] [0] M M1 := by rw [e1]; exact z_fr_f (by decide)
  have o1 : M1 179 = M 179 := f1.1 179 (by decide) (by decide)
  refine k_within (by omega) (fun g1 g2 => ⟨fun q => absurd q (by decide), fun _ => ?_⟩) (fun g => ⟨fun _ => h0 (by omega) M1 f1, fun q => absurd rfl q⟩)
  rw [o1]
  refine ⟨fun g3 M4 e4 => ?_, fun g3 => h0 (by omega) M1 f1⟩
  obtain ⟨m, hm⟩ : ∃ m : Nat, M 179 102 - n = (m : Int) := ⟨(M 179 102 - n).toNat, by omega⟩
  rw [q_sub_eq (by omega), hm] at e4
  have f4 : z_fr [179] [0] M M4 := z_fr_u (z_fr_mono f1 (by decide) (by decide)) e4 (by decide) (by decide)
  rw [hm] at h1
  refine l_und44 (M0 := M4) (o := M 179) (m := m) (by omega) (fun M' f' e' => h1 ⟨g1, g3⟩ M' (z_fr_tr f4 (z_fr_mono f' (by decide) (by decide))) e') 50 0 M4 (by omega) z_fr_rf ?_
  rw [e4, z_upP, o1]
  funext x
  unfold z_put z_undi
  by_cases c : x = 102
  · rw [if_pos c, if_pos c]
  · rw [if_neg c, if_neg c, if_neg (by omega)]
theorem tt_undo {d : Nat} {M : q_Mem} {K : Int → Int → q_Mem → Prop} {n : Int} (hd : 60 < d) (hR : z_IV M) (h : ∀ v M', z_IV M' → K v v M') : q_kI yX11_undo mX11_undo d [qR 1, qI n] M (fun v M1 => q_kI yX12_undo mX12_undo d [qR 178, qI n] M1 (fun v2 M2 => K v v2 M2)) :=
  c_undo (by omega) hR (fun g1 M1 hi k1 => r_undo (by omega) (z_hiE hR hi).2 (fun q1 M2 f2 e2 => by
    rw [hi 179 (by decide)] at e2 ⊢
    exact h _ M2 (z_IV_d k1 hi f2 (by decide) (by decide) e2)) (fun g => by rw [hi 179 (by decide)] at g; exact absurd g1 g)) (fun g => r_undo (by omega) (z_hs_n hR.2.2.2.1) (fun q1 => absurd q1 g) (fun _ M2 f2 => h _ M2 (z_IV_r hR f2 (by decide) (by decide))))
