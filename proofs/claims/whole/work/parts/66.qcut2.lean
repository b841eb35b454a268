-- questions about cuts: proof, greatest, least, worth, gain, count
def z_ja (o : Int → Int) (jn n : Nat) : Int := z_sum (fun l => if jn.testBit l then ((z_wr o (l : Int)).natAbs : Int) else 0) n
theorem z_ja_bd {o : Int → Int} {jn n : Nat} (h : n ≤ 16) : -(99 * (n : Int)) ≤ z_ja o jn n ∧ z_ja o jn n ≤ 99 * (n : Int) := by
  refine z_sum_bd (fun k hk => ?_)
  have : -99 ≤ z_wr o (k : Int) ∧ z_wr o (k : Int) ≤ 99 := z_wr_bd
  split <;> omega
def z_prP (o : Int → Int) (w v : Int) : Prop := (¬ (0 ≤ w ∧ w ≤ 1) ∧ v = -2) ∨ ((0 ≤ w ∧ w ≤ 1) ∧ ¬ z_tw o = 0 ∧ v = -5) ∨ ((0 ≤ w ∧ w ≤ 1) ∧ z_tw o = 0 ∧ ∃ p' jn', z_PF o 1 p' jn' ∧ v = if w = 0 then z_ws (z_wr o) (z_gd1 o) (z_L o) else z_ja o jn' (z_L o))
theorem z_prP_un {o : Int → Int} {w v v' : Int} (h : z_prP o w v) (h' : z_prP o w v') : v = v' := by
  rcases h with ⟨a, b⟩ | ⟨a, b, c⟩ | ⟨a, b, p, j, c, e⟩ <;> rcases h' with ⟨a', b'⟩ | ⟨a', b', c'⟩ | ⟨a', b', p', j', c', e'⟩
  · omega
  · exact absurd a' a
  · exact absurd a' a
  · exact absurd a a'
  · omega
  · exact absurd b' b
  · exact absurd a a'
  · exact absurd b b'
  · rw [e, e', (z_PF_un c c').2]
theorem l_cpf {d : Nat} {M : q_Mem} {K : Int → q_Mem → Prop} {o : Int → Int} {jn : Nat} (hd : 1 ≤ d) (hE : z_E o) (hc : z_cst M o) (hw : ∀ l : Nat, l < z_L o → M 90 l = z_wr o l) (hj : M 170 0 = (jn : Int)) (jl : jn < 65536) (h : K (z_ja o jn (z_L o)) M) :
    ∀ (j i : Nat), i + j = z_L o → q_v mX11_proof d (qPI K) M 46 [some (qR 1), none, some (qI (z_ja o jn i)), some (qI (i : Int))] [] := by
  have hL := z_net_L16 hE.1
  intro j
  induction j with
  | zero =>
    intro i e
    have ei : i = z_L o := by omega
    subst ei
    refine bX11_proof_46 _ _ ⟨z_cst_k hc, ?_⟩
    rw [z_cst_L hc hE.1]
    exact ⟨fun _ => h, fun g => absurd (by omega) g⟩
  | succ j ih =>
    intro i e
    have wb : -99 ≤ z_wr o (i : Int) ∧ z_wr o (i : Int) ≤ 99 := z_wr_bd
    have bd := z_ja_bd (o := o) (jn := jn) (n := i) (by omega)
    have nx := ih (i + 1) (by omega)
    have ex : z_ja o jn (i + 1) = z_ja o jn i + (if jn.testBit i then ((z_wr o (i : Int)).natAbs : Int) else 0) := rfl
    refine bX11_proof_46 _ _ ⟨z_cst_k hc, ?_⟩
    rw [z_cst_L hc hE.1, hj, q_bit0 (by omega) (by omega), hw i (by omega), q_add_eq (a := (i : Int)) (by omega), show (i : Int) + 1 = ((i + 1 : Nat) : Int) by omega]
    refine ⟨fun g => absurd g (by omega), fun _ => ⟨fun g => ?_, fun g => ⟨by omega, k_abs (by omega) (by omega) (fun x e2 => ?_)⟩⟩⟩
    · rw [ex, g] at nx
      simpa using nx
    · rw [ex, if_pos (by simpa using g)] at nx
      rw [e2, q_add_eq (by omega)]; exact nx
theorem c_proof {d : Nat} {M : q_Mem} {K : Int → q_Mem → Prop} {w : Int} (hd : 23 < d) (hR : z_IV M) (h : ∀ v M', z_IV M' → (∀ a, 178 ≤ a → M' a = M a) → z_prP (M 179) w v → K v M') : q_kI yX11_proof mX11_proof d [qR 1, qI w] M K := by
  have hE := hR.1
  refine q_goI hd rfl (plainFor_of_name (by decide +kernel)) rfl (fun h => nomatch h) (Nat.le_of_ble_eq_true rfl) (fun d hd => bX11_proof_0 _ ⟨fun g => h _ M hR (fun _ _ => rfl) (Or.inl ⟨by omega, rfl⟩), fun g => ⟨fun g2 => R_flat (by omega) hR (fun M3 fr3 R3 f3 c3 a3 s3 => ?_), fun g2 => h _ M hR (fun _ _ => rfl) (Or.inl ⟨by omega, rfl⟩)⟩⟩)
  have hi3 : ∀ a, 178 ≤ a → M3 a = M a := fun a ha => z_qf_hi f3 ha
  refine ⟨fun t0 => ⟨fun _ => R_need 27 (by omega) z_cl_27 R3 (fun M5 fr5 R5 f5 c5 a5 => ?_), fun q => absurd q (by decide)⟩, fun t0 => ⟨fun q => absurd rfl q, fun _ => h _ M3 R3 hi3 (Or.inr (Or.inl ⟨⟨by omega, g2⟩, t0, rfl⟩))⟩⟩
  rw [hi3 179 (by decide)] at a5 c5
  have hi5 : ∀ a, 178 ≤ a → M5 a = M a := fun a ha => (z_qf_hi f5 ha).trans (hi3 a ha)
  have hv1 : ∀ l : Nat, l < z_L (M 179) → M5 90 l = z_wr (M 179) l := (z_has (k := 1) a5 (by decide) (by decide) : z_hv (M 179) M5 1)
  obtain ⟨p', jn', q1, q2, q3, q4⟩ := (z_has (k := 4) a5 (by decide) (by decide) : z_hv (M 179) M5 4)
  refine ⟨fun w0 => ?_, fun w0 => ?_⟩
  · exact l_cpf (by omega) hE c5 hv1 q2 q3 (h _ M5 R5 hi5 (Or.inr (Or.inr ⟨⟨by omega, g2⟩, t0, p', jn', q4, by rw [if_neg w0]⟩))) (z_L (M 179)) 0 (by omega)
  · exact k_cgood (by omega) (Or.inl rfl) hE c5 hv1 (k_cworthOf (s := z_gd1 (M 179)) (by omega) (Nat.lt_trans (z_gd_lt (z_net_L16 hE.1)) (by decide)) hE.1 c5 hv1 (h _ M5 R5 hi5 (Or.inr (Or.inr ⟨⟨by omega, g2⟩, t0, p', jn', q4, by rw [if_pos w0]⟩))))
theorem l_rpf {d : Nat} {M : q_Mem} {K : Int → q_Mem → Prop} {jn : Nat} (hd : 1 ≤ d) (hn : z_net (M 179)) (hw : ∀ l : Nat, l < z_L (M 179) → M 187 l = z_wr (M 179) l) (hj : M 178 35 = (jn : Int)) (jl : jn < 65536) (h : K (z_ja (M 179) jn (z_L (M 179))) M) :
    ∀ (j i : Nat), i + j = z_L (M 179) → q_v mX12_proof d (qPI K) M 47 [some (qR 178), none, some (qI (z_ja (M 179) jn i)), some (qI (i : Int))] [] := by
  have hL := z_net_L16 hn
  intro j
  induction j with
  | zero =>
    intro i e
    have ei : i = z_L (M 179) := by omega
    subst ei
    refine bX12_proof_47 _ _ ?_
    rw [z_net_L hn]
    exact ⟨fun _ => h, fun g => absurd (by omega) g⟩
  | succ j ih =>
    intro i e
    have wb : -99 ≤ z_wr (M 179) (i : Int) ∧ z_wr (M 179) (i : Int) ≤ 99 := z_wr_bd
    have bd := z_ja_bd (o := M 179) (jn := jn) (n := i) (by omega)
    have nx := ih (i + 1) (by omega)
    have ex : z_ja (M 179) jn (i + 1) = z_ja (M 179) jn i + (if jn.testBit i then ((z_wr (M 179) (i : Int)).natAbs : Int) else 0) := rfl
    refine bX12_proof_47 _ _ ?_
    rw [z_net_L hn, hj, q_add_eq (a := (i : Int)) (by omega), show (i : Int) + 1 = ((i + 1 : Nat) : Int) by omega]
    refine ⟨fun g => absurd g (by omega), fun _ => k_isIn2 (by omega) (by omega) (by omega) (fun g => ⟨fun q => absurd q (by decide), fun _ => ⟨by omega, ?_⟩⟩) (fun g => ⟨fun _ x e2 => ?_, fun q => absurd rfl q⟩)⟩
    · rw [hw i (by omega)]
      refine k_signOff (by omega) wb (fun x e2 => ?_)
      rw [ex, if_pos g] at nx
      rw [e2, q_add_eq (by omega)]; exact nx
    · rw [ex, g] at nx
      rw [e2, q_add_eq (by omega)]
      simpa using nx
theorem z_gd_w {o w : Int → Int} {sg : Int} (h : ∀ l : Nat, l < z_L o → w l = z_wr o l) : z_gd w sg (z_L o) = z_gd (z_wr o) sg (z_L o) := z_set_congr (fun l hl => by rw [h l hl])
theorem z_ws_w {o w : Int → Int} {s : Nat} (h : ∀ l : Nat, l < z_L o → w l = z_wr o l) : z_ws w s (z_L o) = z_ws (z_wr o) s (z_L o) := z_sum_congr (fun l hl => by rw [h l hl])
theorem r_proof {d : Nat} {M : q_Mem} {K : Int → q_Mem → Prop} {w : Int} (hd : 6 < d) (hR : z_IV M) (h : ∀ v M', z_IV M' → z_prP (M 179) w v → K v M') : q_kI yX12_proof mX12_proof d [qR 178, qI w] M K := by
  have hE := hR.1
  refine q_goI hd rfl (plainFor_of_name (by decide +kernel)) rfl (fun h => nomatch h) (Nat.le_of_ble_eq_true rfl) (fun d hd => bX12_proof_0 _ (fun M1 e1 => ?_))
  obtain ⟨R1, o1, f1⟩ := z_IV_0 hR e1
  refine k_within (by omega) (fun g1 g2 => ⟨fun _ => ?_, fun q => absurd q (by decide)⟩) (fun g => ⟨fun q => absurd rfl q, fun _ => h _ M1 R1 (Or.inl ⟨g, rfl⟩)⟩)
  refine R_pairs (Or.inl rfl) (by omega) R1 (fun t0 M' R' o' => ⟨fun q => absurd rfl q, fun _ => ?_⟩) (fun t0 M' p' jn' R' o' w' l' j' jl q' P' => ⟨fun _ => ?_, fun q => absurd q (by decide)⟩)
  · rw [o1] at t0
    exact h _ M' R' (Or.inr (Or.inl ⟨⟨g1, g2⟩, t0, rfl⟩))
  · rw [o1] at t0 P' w' o'
    have wb : ∀ l : Nat, l < z_L (M' 179) → -99 ≤ M' 187 l ∧ M' 187 l ≤ 99 := fun l hl => by rw [o'] at hl; rw [w' l hl]; exact z_wr_bd
    refine ⟨fun w0 => ?_, fun w0 => ?_⟩
    · refine l_rpf (by omega) R'.1.1 (by rw [o']; exact w') j' jl ?_ (z_L (M' 179)) 0 (by omega)
      rw [o']
      exact h _ M' R' (Or.inr (Or.inr ⟨⟨g1, g2⟩, t0, p', jn', P', by rw [if_neg w0]⟩))
    · refine k_goodLinks (by omega) (Or.inl rfl) R'.1.1 wb (k_weightsOf (by omega) (Nat.lt_trans (z_gd_lt (z_net_L16 R'.1.1)) (by decide)) R'.1.1 wb ?_)
      rw [o', z_gd_w w', z_ws_w w']
      exact h _ M' R' (Or.inr (Or.inr ⟨⟨g1, g2⟩, t0, p', jn', P', by rw [if_pos w0]; rfl⟩))
theorem tt_proof {d : Nat} {M : q_Mem} {K : Int → Int → q_Mem → Prop} {w : Int} (hd : 60 < d) (hR : z_IV M) (h : ∀ v M', z_IV M' → K v v M') : q_kI yX11_proof mX11_proof d [qR 1, qI w] M (fun v M1 => q_kI yX12_proof mX12_proof d [qR 178, qI w] M1 (fun v2 M2 => K v v2 M2)) :=
  c_proof (by omega) hR (fun v M1 R1 e1 p1 => r_proof (by omega) R1 (fun v2 M' R' p2 => by rw [e1 179 (by decide)] at p2; rw [z_prP_un p1 p2]; exact h _ M' R'))
/-- what is told of a cut -/
def z_cutA (o : Int → Int) (cut : Nat) (w : Int) : Int := if w = 0 then z_ws (z_wr o) cut (z_L o) else if w = 1 then (cut : Int) else (z_sides o cut : Int)
def z_cuP (o : Int → Int) (sg w v : Int) : Prop := (¬ (0 ≤ w ∧ w ≤ 2) ∧ v = -99000002) ∨ ((0 ≤ w ∧ w ≤ 2) ∧ ¬ z_tw o = 0 ∧ v = -99000005) ∨ ((0 ≤ w ∧ w ≤ 2) ∧ z_tw o = 0 ∧ ∃ p' jn', z_PF o sg p' jn' ∧ v = z_cutA o (z_gd (z_wr o) sg (z_L o) ^^^ jn') w)
theorem z_cuP_un {o : Int → Int} {sg w v v' : Int} (h : z_cuP o sg w v) (h' : z_cuP o sg w v') : v = v' := by
  rcases h with ⟨a, b⟩ | ⟨a, b, c⟩ | ⟨a, b, p, j, c, e⟩ <;> rcases h' with ⟨a', b'⟩ | ⟨a', b', c'⟩ | ⟨a', b', p', j', c', e'⟩
  · omega
  · exact absurd a' a
  · exact absurd a' a
  · exact absurd a a'
  · omega
  · exact absurd b' b
  · exact absurd a a'
  · exact absurd b b'
  · rw [e, e', (z_PF_un c c').2]
theorem z_xl {a b : Nat} (ha : a < 65536) (hb : b < 65536) : a ^^^ b < 65536 := Nat.xor_lt_two_pow (n := 16) ha hb
theorem k_cutAnswer {d : Nat} {M : q_Mem} {K : Int → q_Mem → Prop} {o : Int → Int} {cut : Nat} {w : Int} (hd : 1 < d) (hE : z_E o) (hc : z_cst M o) (h0 : z_hv o M 0) (h1 : z_hv o M 1) (hl : cut < 65536) (h : K (z_cutA o cut w) M) : q_kI yX11_cutAnswer mX11_cutAnswer d [qR 1, qI w, qI (cut : Int)] M K := by
  have s0 : z_sh o M := h0
  unfold z_cutA at h
  refine q_goI hd rfl (plainFor_of_name (by decide +kernel)) rfl (fun h => nomatch h) (Nat.le_of_ble_eq_true rfl) (fun d hd => bX11_cutAnswer_0 _ _ ⟨fun w0 => ⟨fun w1 => ?_, fun w1 => ?_⟩, fun w0 => ?_⟩)
  · rw [if_neg w0, if_neg w1] at h
    exact k_csidesOf (by omega) hl hE.1 (z_pl_pn hc.2.1) s0.2.2.2.1 h
  · rw [if_neg w0, if_pos w1] at h; exact h
  · rw [if_pos w0] at h
    exact k_cworthOf (by omega) (by omega) hE.1 hc h1 h
theorem R_refused {d : Nat} {M : q_Mem} {K : Int → q_Mem → Prop} {w : Int} (hd : 5 < d) (hR : z_IV M) (h : ∀ M', z_IV M' → (∀ a, 178 ≤ a → M' a = M a) → (¬ (0 ≤ w ∧ w ≤ 2) → K (-99000002) M') ∧ ((0 ≤ w ∧ w ≤ 2) → (¬ z_tw (M 179) = 0 → K (-99000005) M') ∧ (z_tw (M 179) = 0 → K 0 M'))) : q_kI yX11_refusedCut mX11_refusedCut d [qR 1, qI w] M K := by
  have h0 := h M hR (fun _ _ => rfl)
  refine q_goI hd rfl (plainFor_of_name (by decide +kernel)) rfl (fun h => nomatch h) (Nat.le_of_ble_eq_true rfl) (fun d hd => bX11_refusedCut_0 _ ⟨fun g => h0.1 (by omega), fun g => ⟨fun g2 => R_flat (by omega) hR (fun M3 fr3 R3 f3 c3 a3 s3 => ?_), fun g2 => h0.1 (by omega)⟩⟩)
  have h3 := (h M3 R3 (fun a ha => z_qf_hi f3 ha)).2 ⟨by omega, g2⟩
  exact ⟨fun t0 => ⟨fun q => absurd q (by decide), fun _ => h3.2 t0⟩, fun t0 => ⟨fun _ => h3.1 t0, fun q => absurd rfl q⟩⟩
theorem k_gcut {d : Nat} {M : q_Mem} {K : Int → q_Mem → Prop} {o : Int → Int} {jn : Nat} (hd : 1 < d) (hE : z_E o) (hc : z_cst M o) (h1 : z_hv o M 1) (hj : M 170 0 = (jn : Int)) (jl : jn < 65536) (h : K ((z_gd (z_wr o) 1 (z_L o) ^^^ jn : Nat) : Int) M) : q_kI yX11_greatestCut mX11_greatestCut d [qR 1] M K := by
  have gl := z_gd_lt (w := z_wr o) (sg := 1) (z_net_L16 hE.1)
  refine q_goI hd rfl (plainFor_of_name (by decide +kernel)) rfl (fun h => nomatch h) (Nat.le_of_ble_eq_true rfl) (fun d hd => bX11_greatestCut_0 (k_cgood (by omega) (Or.inl rfl) hE hc h1 ?_))
  rw [hj, q_xor_nat (by omega) (by omega)]
  exact h
theorem c_greatest {d : Nat} {M : q_Mem} {K : Int → q_Mem → Prop} {w : Int} (hd : 23 < d) (hR : z_IV M) (h : ∀ v M', z_IV M' → (∀ a, 178 ≤ a → M' a = M a) → z_cuP (M 179) 1 w v → K v M') : q_kI yX11_greatest mX11_greatest d [qR 1, qI w] M K := by
  have hE := hR.1
  refine q_goI hd rfl (plainFor_of_name (by decide +kernel)) rfl (fun h => nomatch h) (Nat.le_of_ble_eq_true rfl) (fun d hd => bX11_greatest_0 _ (R_refused (by omega) hR (fun M3 R3 hi3 => ⟨fun g => ⟨fun q => absurd q (by decide), fun _ => h _ M3 R3 hi3 (Or.inl ⟨g, rfl⟩)⟩, fun g => ⟨fun t0 => ⟨fun q => absurd q (by decide), fun _ => h _ M3 R3 hi3 (Or.inr (Or.inl ⟨g, t0, rfl⟩))⟩, fun t0 => ⟨fun _ => R_need 27 (by omega) z_cl_27 R3 (fun M5 fr5 R5 f5 c5 a5 => ?_), fun q => absurd rfl q⟩⟩⟩)))
  rw [hi3 179 (by decide)] at a5 c5
  have hi5 : ∀ a, 178 ≤ a → M5 a = M a := fun a ha => (z_qf_hi f5 ha).trans (hi3 a ha)
  have hv1 := (z_has (k := 1) a5 (by decide) (by decide) : z_hv (M 179) M5 1)
  obtain ⟨p', jn', q1, q2, q3, q4⟩ := (z_has (k := 4) a5 (by decide) (by decide) : z_hv (M 179) M5 4)
  have gl := z_gd_lt (w := z_wr (M 179)) (sg := 1) (z_net_L16 hE.1)
  exact k_gcut (by omega) hE c5 hv1 q2 q3 (k_cutAnswer (by omega) hE c5 (z_has (k := 0) a5 (by decide) (by decide)) hv1 (z_xl gl q3) (h _ M5 R5 hi5 (Or.inr (Or.inr ⟨g, t0, p', jn', q4, rfl⟩))))
theorem c_least {d : Nat} {M : q_Mem} {K : Int → q_Mem → Prop} {w : Int} (hd : 23 < d) (hR : z_IV M) (h : ∀ v M', z_IV M' → (∀ a, 178 ≤ a → M' a = M a) → z_cuP (M 179) (-1) w v → K v M') : q_kI yX11_least mX11_least d [qR 1, qI w] M K := by
  have hE := hR.1
  refine q_goI hd rfl (plainFor_of_name (by decide +kernel)) rfl (fun h => nomatch h) (Nat.le_of_ble_eq_true rfl) (fun d hd => bX11_least_0 _ (R_refused (by omega) hR (fun M3 R3 hi3 => ⟨fun g => ⟨fun q => absurd q (by decide), fun _ => h _ M3 R3 hi3 (Or.inl ⟨g, rfl⟩)⟩, fun g => ⟨fun t0 => ⟨fun q => absurd q (by decide), fun _ => h _ M3 R3 hi3 (Or.inr (Or.inl ⟨g, t0, rfl⟩))⟩, fun t0 => ⟨fun _ => R_need 43 (by omega) z_cl_43 R3 (fun M5 fr5 R5 f5 c5 a5 => ?_), fun q => absurd rfl q⟩⟩⟩)))
  rw [hi3 179 (by decide)] at a5 c5
  have hi5 : ∀ a, 178 ≤ a → M5 a = M a := fun a ha => (z_qf_hi f5 ha).trans (hi3 a ha)
  have hv1 := (z_has (k := 1) a5 (by decide) (by decide) : z_hv (M 179) M5 1)
  obtain ⟨p', jn', q1, q2, q3, q4⟩ := (z_has (k := 5) a5 (by decide) (by decide) : z_hv (M 179) M5 5)
  have gl := z_gd_lt (w := z_wr (M 179)) (sg := -1) (z_net_L16 hE.1)
  refine k_cgood (by omega) (Or.inr rfl) hE c5 hv1 ?_
  rw [q2, q_xor_nat (by omega) (by omega)]
  exact k_cutAnswer (by omega) hE c5 (z_has (k := 0) a5 (by decide) (by decide)) hv1 (z_xl gl q3) (h _ M5 R5 hi5 (Or.inr (Or.inr ⟨g, t0, p', jn', q4, rfl⟩)))
theorem k_cutOf {d : Nat} {M : q_Mem} {K : Int → q_Mem → Prop} {o : Int → Int} {jn : Nat} {sg : Int} (hd : 1 < d) (hs : sg = 1 ∨ sg = -1) (hE : z_E (M 179)) (hw : ∀ l : Nat, l < z_L (M 179) → M 187 l = z_wr (M 179) l) (hj : M 178 35 = (jn : Int)) (jl : jn < 65536) (h : K ((z_gd (z_wr (M 179)) sg (z_L (M 179)) ^^^ jn : Nat) : Int) M) : q_kI yX12_cutOf mX12_cutOf d [qR 178, qI sg] M K := by
  have gl := z_gd_lt (w := M 187) (sg := sg) (z_net_L16 hE.1)
  refine q_goI hd rfl (plainFor_of_name (by decide +kernel)) rfl (fun h => nomatch h) (Nat.le_of_ble_eq_true rfl) (fun d hd => bX12_cutOf_0 _ (k_goodLinks (by omega) hs hE.1 (fun l hl => by rw [hw l hl]; exact z_wr_bd) ?_))
  rw [hj, q_xor_nat (by omega) (by omega), z_gd_w hw]
  exact h
theorem r_cutTold {d : Nat} {M : q_Mem} {K : Int → q_Mem → Prop} {w sg : Int} (hd : 5 < d) (hs : sg = 1 ∨ sg = -1) (hR : z_IV M) (h : ∀ v M', z_IV M' → z_cuP (M 179) sg w v → K v M') : q_kI yX12_cutTold mX12_cutTold d [qR 178, qI sg, qI w] M K := by
  have hE := hR.1
  refine q_goI hd rfl (plainFor_of_name (by decide +kernel)) rfl (fun h => nomatch h) (Nat.le_of_ble_eq_true rfl) (fun d hd => bX12_cutTold_0 _ _ (k_within (by omega) (fun g1 g2 => ⟨fun _ => ?_, fun q => absurd q (by decide)⟩) (fun g => ⟨fun q => absurd rfl q, fun _ => h _ M hR (Or.inl ⟨g, rfl⟩)⟩)))
  refine R_pairs hs (by omega) hR (fun t0 M' R' o' => ⟨fun q => absurd rfl q, fun _ => h _ M' R' (Or.inr (Or.inl ⟨⟨g1, g2⟩, t0, rfl⟩))⟩) (fun t0 M' p' jn' R' o' w' l' j' jl q' P' => ⟨fun _ => ?_, fun q => absurd q (by decide)⟩)
  have hh := h _ M' R' (Or.inr (Or.inr ⟨⟨g1, g2⟩, t0, p', jn', P', rfl⟩))
  have gl := z_gd_lt (w := z_wr (M 179)) (sg := sg) (z_net_L16 hE.1)
  have wb : ∀ l : Nat, l < z_L (M' 179) → -99 ≤ M' 187 l ∧ M' 187 l ≤ 99 := fun l hl => by rw [o'] at hl; rw [w' l hl]; exact z_wr_bd
  unfold z_cutA at hh
  refine k_cutOf (o := M 179) (by omega) hs R'.1 (by rw [o']; exact w') j' jl ?_
  rw [o']
  refine ⟨fun w0 => ⟨fun w1 => ?_, fun w1 => ?_⟩, fun w0 => ?_⟩
  · rw [if_neg w0, if_neg w1] at hh
    refine k_sidesOf (by omega) (z_xl gl jl) R'.1.1 (by rw [o']; exact l') ?_
    rw [o']; exact hh
  · rw [if_neg w0, if_pos w1] at hh; exact hh
  · rw [if_pos w0] at hh
    refine k_weightsOf (by omega) (Nat.lt_trans (z_xl gl jl) (by decide)) R'.1.1 wb ?_
    rw [o', z_ws_w w']; exact hh
theorem r_greatest {d : Nat} {M : q_Mem} {K : Int → q_Mem → Prop} {w : Int} (hd : 6 < d) (hR : z_IV M) (h : ∀ v M', z_IV M' → z_cuP (M 179) 1 w v → K v M') : q_kI yX12_greatest mX12_greatest d [qR 178, qI w] M K := by
  refine q_goI hd rfl (plainFor_of_name (by decide +kernel)) rfl (fun h => nomatch h) (Nat.le_of_ble_eq_true rfl) (fun d hd => bX12_greatest_0 _ (fun M1 e1 => ?_))
  obtain ⟨R1, o1, f1⟩ := z_IV_0 hR e1
  exact r_cutTold (by omega) (Or.inl rfl) R1 (fun v M' R' p => h v M' R' (by rw [o1] at p; exact p))
theorem r_least {d : Nat} {M : q_Mem} {K : Int → q_Mem → Prop} {w : Int} (hd : 6 < d) (hR : z_IV M) (h : ∀ v M', z_IV M' → z_cuP (M 179) (-1) w v → K v M') : q_kI yX12_least mX12_least d [qR 178, qI w] M K := by
  refine q_goI hd rfl (plainFor_of_name (by decide +kernel)) rfl (fun h => nomatch h) (Nat.le_of_ble_eq_true rfl) (fun d hd => bX12_least_0 _ (fun M1 e1 => ?_))
  obtain ⟨R1, o1, f1⟩ := z_IV_0 hR e1
  exact r_cutTold (by omega) (Or.inr rfl) R1 (fun v M' R' p => h v M' R' (by rw [o1] at p; exact p))
theorem tt_greatest {d : Nat} {M : q_Mem} {K : Int → Int → q_Mem → Prop} {w : Int} (hd : 60 < d) (hR : z_IV M) (h : ∀ v M', z_IV M' → K v v M') : q_kI yX11_greatest mX11_greatest d [qR 1, qI w] M (fun v M1 => q_kI yX12_greatest mX12_greatest d [qR 178, qI w] M1 (fun v2 M2 => K v v2 M2)) :=
  c_greatest (by omega) hR (fun v M1 R1 e1 p1 => r_greatest (by omega) R1 (fun v2 M' R' p2 => by rw [e1 179 (by decide)] at p2; rw [z_cuP_un p1 p2]; exact h _ M' R'))
theorem tt_least {d : Nat} {M : q_Mem} {K : Int → Int → q_Mem → Prop} {w : Int} (hd : 60 < d) (hR : z_IV M) (h : ∀ v M', z_IV M' → K v v M') : q_kI yX11_least mX11_least d [qR 1, qI w] M (fun v M1 => q_kI yX12_least mX12_least d [qR 178, qI w] M1 (fun v2 M2 => K v v2 M2)) :=
  c_least (by omega) hR (fun v M1 R1 e1 p1 => r_least (by omega) R1 (fun v2 M' R' p2 => by rw [e1 179 (by decide)] at p2; rw [z_cuP_un p1 p2]; exact h _ M' R'))
/-- worth -/
theorem k_cworth {d : Nat} {M : q_Mem} {K : Int → q_Mem → Prop} {o : Int → Int} {fr : Nat} (hd : 23 < d) (hE : z_E o) (hc : z_cst M o) (ca : z_ca M o fr) (h : ∀ M', z_qf M M' → z_cst M' o → z_ca M' o (fr ||| 2) → K (z_V2 o (z_s o)) M') : q_kI yX11_worth mX11_worth d [qR 1] M K := by
  refine q_goI hd rfl (plainFor_of_name (by decide +kernel)) rfl (fun h => nomatch h) (Nat.le_of_ble_eq_true rfl) (fun d hd => bX11_worth_0 (k_need (t := 2) (by omega) hE hc ca z_cl_2 (fun M3 f3 c3 a3 => ?_)))
  have hv1 := (z_has (k := 1) a3 (by decide) (by decide) : z_hv o M3 1)
  refine k_cutBits (by omega) hE c3 (k_cworthOf (by omega) (Nat.lt_trans (z_cb_lt hE.1) (by decide)) hE.1 c3 hv1 ?_)
  rw [z_ws_cb]
  exact h M3 f3 c3 a3
theorem c_worth {d : Nat} {M : q_Mem} {K : Int → q_Mem → Prop}  (hd : 23 < d) (hR : z_IV M) (h : ∀ M', z_IV M' → (∀ a, 178 ≤ a → M' a = M a) → K (z_V2 (M 179) (z_s (M 179))) M') : q_kI yX11_worth mX11_worth d [qR 1] M K := by
  obtain ⟨hc, fr, ca⟩ := hR.2.1
  exact k_cworth hd hR.1 hc ca (fun M' f' c' a' => h M' (z_IV_q hR f' c' a') (fun a ha => z_qf_hi f' ha))
theorem r_worth {d : Nat} {M : q_Mem} {K : Int → q_Mem → Prop}  (hd : 6 < d) (hR : z_IV M) (h : ∀ M', z_IV M' → K (z_V2 (M 179) (z_s (M 179))) M') : q_kI yX12_worth mX12_worth d [qR 178] M K := by
  refine q_goI hd rfl (plainFor_of_name (by decide +kernel)) rfl (fun h => nomatch h) (Nat.le_of_ble_eq_true rfl) (fun d hd => bX12_worth_0 (fun M1 e1 => ?_))
  obtain ⟨R1, o1, f1⟩ := z_IV_0 hR e1
  exact k_worthNow (by omega) R1.1 (fun M' f' => by rw [o1]; exact h M' (z_IV_r R1 f' (by decide) (by decide)))
theorem tt_worth {d : Nat} {M : q_Mem} {K : Int → Int → q_Mem → Prop} (hd : 60 < d) (hR : z_IV M) (h : ∀ v M', z_IV M' → K v v M') : q_kI yX11_worth mX11_worth d [qR 1] M (fun v M1 => q_kI yX12_worth mX12_worth d [qR 178] M1 (fun v2 M2 => K v v2 M2)) :=
  c_worth (by omega) hR (fun M1 R1 e1 => r_worth (by omega) R1 (fun M' R' => by rw [e1 179 (by decide)]; exact h _ M' R'))
/-- gain -/
def z_gainA (o : Int → Int) (n : Int) : Int := if 0 ≤ n ∧ n < z_N o then z_V2 o (z_s o ^^^ 2 ^ n.toNat) - z_V2 o (z_s o) else -99000002
theorem c_gain {d : Nat} {M : q_Mem} {K : Int → q_Mem → Prop} {n : Int} (hd : 23 < d) (hR : z_IV M) (h : ∀ M', z_IV M' → (∀ a, 178 ≤ a → M' a = M a) → K (z_gainA (M 179) n) M') : q_kI yX11_gain mX11_gain d [qR 1, qI n] M K := by
  have hN := z_net_N10 hR.1.1
  unfold z_gainA at h
  refine q_goI hd rfl (plainFor_of_name (by decide +kernel)) rfl (fun h => nomatch h) (Nat.le_of_ble_eq_true rfl) (fun d hd => bX11_gain_0 _ (k_hasNode (by omega) hR.1.1 hR.2.1.1 (fun g1 g2 => ⟨fun _ => R_need 2 (by omega) z_cl_2 hR (fun M3 fr R3 f3 c3 a3 => ?_), fun q => absurd q (by decide)⟩) (fun g => ⟨fun q => absurd rfl q, fun _ => ?_⟩)))
  · obtain ⟨m, rfl⟩ : ∃ m : Nat, n = (m : Int) := ⟨n.toNat, by omega⟩
    have := h M3 R3 (fun a ha => z_qf_hi f3 ha)
    rw [if_pos ⟨g1, g2⟩, Int.toNat_natCast] at this
    exact k_cgain (by omega) (by omega) hR.1 c3 (z_has (k := 1) a3 (by decide) (by decide) : z_hv (M 179) M3 1) this
  · have := h M hR (fun _ _ => rfl)
    rw [if_neg g] at this; exact this
theorem r_gain {d : Nat} {M : q_Mem} {K : Int → q_Mem → Prop} {n : Int} (hd : 5 < d) (hR : z_IV M) (h : ∀ M', z_IV M' → K (z_gainA (M 179) n) M') : q_kI yX12_gain mX12_gain d [qR 178, qI n] M K := by
  have hN := z_net_N10 hR.1.1
  unfold z_gainA at h
  refine q_goI hd rfl (plainFor_of_name (by decide +kernel)) rfl (fun h => nomatch h) (Nat.le_of_ble_eq_true rfl) (fun d hd => bX12_gain_0 _ (fun M1 e1 => ?_))
  obtain ⟨R1, o1, f1⟩ := z_IV_0 hR e1
  refine k_isNode (by omega) R1.1.1 (fun g1 g2 => ⟨fun _ => k_laysWeights (by omega) R1.1.1 R1.1.2.1 R1.1.2.2.1 R1.1.2.2.2.1 (fun M7 f7 w7 => ?_), fun q => absurd q (by decide)⟩) (fun g => ⟨fun q => absurd rfl q, fun _ => ?_⟩)
  · have R7 := z_IV_r R1 f7 (by decide) (by decide)
    have o7 : M7 179 = M 179 := (f7.1 179 (by decide) (by decide)).trans o1
    rw [o1] at w7 g2
    have := h M7 R7
    obtain ⟨m, rfl⟩ : ∃ m : Nat, n = (m : Int) := ⟨n.toNat, by omega⟩
    rw [if_pos ⟨g1, g2⟩, Int.toNat_natCast] at this
    have s := z_E_s R7.1
    rw [s.1]
    refine k_rgainOf (by omega) (by omega) (by omega) R7.1.1 (by rw [o7]; exact fun l hl => z_wts_wr w7 hl) ?_
    rw [o7]; exact this
  · have := h M1 R1
    rw [o1] at g
    rw [if_neg g] at this; exact this
theorem tt_gain {d : Nat} {M : q_Mem} {K : Int → Int → q_Mem → Prop} {n : Int} (hd : 60 < d) (hR : z_IV M) (h : ∀ v M', z_IV M' → K v v M') : q_kI yX11_gain mX11_gain d [qR 1, qI n] M (fun v M1 => q_kI yX12_gain mX12_gain d [qR 178, qI n] M1 (fun v2 M2 => K v v2 M2)) :=
  c_gain (by omega) hR (fun M1 R1 e1 => r_gain (by omega) R1 (fun M' R' => by rw [e1 179 (by decide)]; exact h _ M' R'))
