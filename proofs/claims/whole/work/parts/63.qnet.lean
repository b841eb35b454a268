-- questions about the net, its faces
/-- weight -/
theorem c_weight {d : Nat} {M : q_Mem} {K : Int → q_Mem → Prop} {l : Int} (hd : 23 < d) (hR : z_IV M) (h : ∀ M', z_IV M' → (∀ a, 178 ≤ a → M' a = M a) → K (if 0 ≤ l ∧ l < z_L (M 179) then z_wr (M 179) l else -99000002) M') : q_kI yX11_weight mX11_weight d [qR 1, qI l] M K := by
  have hL := z_net_L16 hR.1.1
  refine q_goI hd rfl (plainFor_of_name (by decide +kernel)) rfl (fun h => nomatch h) (Nat.le_of_ble_eq_true rfl) (fun d hd => bX11_weight_0 _ (k_hasLink (by omega) hR.1.1 hR.2.1.1 (fun g1 g2 => ⟨fun _ => R_need 2 (by omega) z_cl_2 hR (fun M3 fr R3 f3 c3 a3 => ⟨by omega, ?_⟩), fun q => absurd q (by decide)⟩) (fun g => ⟨fun q => absurd rfl q, fun _ => ?_⟩)))
  · have hv : ∀ m : Nat, m < z_L (M 179) → M3 90 m = z_wr (M 179) m := z_has (k := 1) a3 (by decide) (by decide)
    have := h M3 R3 (fun a ha => z_qf_hi f3 ha)
    rw [if_pos ⟨g1, g2⟩] at this
    have e := hv l.toNat (by omega)
    rw [show ((l.toNat : Nat) : Int) = l by omega] at e
    rw [e]; exact this
  · have := h M hR (fun _ _ => rfl)
    rw [if_neg g] at this; exact this
theorem r_weight {d : Nat} {M : q_Mem} {K : Int → q_Mem → Prop} {l : Int} (hd : 3 < d) (hR : z_IV M) (h : ∀ M', z_IV M' → K (if 0 ≤ l ∧ l < z_L (M 179) then z_wr (M 179) l else -99000002) M') : q_kI yX12_weight mX12_weight d [qR 178, qI l] M K := by
  refine q_goI hd rfl (plainFor_of_name (by decide +kernel)) rfl (fun h => nomatch h) (Nat.le_of_ble_eq_true rfl) (fun d hd => bX12_weight_0 _ (fun M1 e1 => ?_))
  obtain ⟨R1, o1, f1⟩ := z_IV_0 hR e1
  refine k_isLink (by omega) R1.1.1 (fun g1 g2 => ⟨fun g => absurd g (by decide), fun _ => ?_⟩) (fun g => ⟨fun _ => ?_, fun q => absurd rfl q⟩)
  · obtain ⟨m, rfl⟩ : ∃ m : Nat, l = (m : Int) := ⟨l.toNat, by omega⟩
    refine k_weightOf (by omega) R1.1.1 R1.1.2.1 R1.1.2.2.1 (by omega) R1.1.2.2.2.1 (fun M4 f4 => ?_)
    have := h M4 (z_IV_r R1 f4 (by decide) (by decide))
    rw [o1] at g2 ⊢
    rw [if_pos ⟨g1, g2⟩, z_wr_n] at this
    exact this
  · have := h M1 R1
    rw [o1] at g
    rw [if_neg g] at this; exact this
theorem tt_weight {d : Nat} {M : q_Mem} {K : Int → Int → q_Mem → Prop} {l : Int} (hd : 60 < d) (hR : z_IV M) (h : ∀ v M', z_IV M' → K v v M') : q_kI yX11_weight mX11_weight d [qR 1, qI l] M (fun v M1 => q_kI yX12_weight mX12_weight d [qR 178, qI l] M1 (fun v2 M2 => K v v2 M2)) :=
  c_weight (by omega) hR (fun M1 R1 e1 => r_weight (by omega) R1 (fun M' R' => by rw [e1 179 (by decide)]; exact h _ M' R'))
/-- round -/
def z_roundA (o : Int → Int) (n p : Int) : Int := if ¬ (0 ≤ n ∧ n < z_N o) then -2 else if p < 0 then -3 else if p < z_dg o n.toNat then o (19 + (z_st o n.toNat : Int) + p) else -1
theorem c_round {d : Nat} {M : q_Mem} {K : Int → q_Mem → Prop} {n p : Int} (hd : 1 < d) (hR : z_IV M) (h : ∀ M', z_IV M' → (∀ a, 178 ≤ a → M' a = M a) → K (z_roundA (M 179) n p) M') : q_kI yX11_round mX11_round d [qR 1, qI n, qI p] M K := by
  have hN := z_net_N10 hR.1.1
  have hc := hR.2.1.1
  replace h := h M hR (fun _ _ => rfl)
  unfold z_roundA at h
  refine q_goI hd rfl (plainFor_of_name (by decide +kernel)) rfl (fun h => nomatch h) (Nat.le_of_ble_eq_true rfl) (fun d hd => bX11_round_0 _ _ (k_hasNode (by omega) hR.1.1 hc (fun g1 g2 => ⟨fun _ => ⟨fun g3 => ⟨z_cst_k hc, by omega, ?_⟩, fun g3 => ?_⟩, fun q => absurd q (by decide)⟩) (fun g => ⟨fun q => absurd rfl q, fun _ => ?_⟩)))
  · obtain ⟨m, rfl⟩ : ∃ m : Nat, n = (m : Int) := ⟨n.toNat, by omega⟩
    have dg := z_net_dg hR.1.1 (n := m) (by omega)
    rw [if_neg (by omega), if_neg (by omega), Int.toNat_natCast] at h
    rw [z_cst_dg hc (n := m) (by omega)]
    refine ⟨fun g4 => ?_, fun g4 => ?_⟩
    · rw [if_neg (by omega)] at h; exact h
    · rw [if_pos (by omega)] at h
      obtain ⟨k, rfl⟩ : ∃ m : Nat, p = (m : Int) := ⟨p.toNat, by omega⟩
      rw [q_mul_eq (by omega), q_add_eq (by omega), show (m : Int) * 16 + (k : Int) = ((16 * m + k : Nat) : Int) by omega, z_rr_at hc (by omega) (by omega)]
      exact ⟨by omega, h⟩
  · rw [if_neg (by omega), if_pos (by omega)] at h; exact h
  · rw [if_pos g] at h; exact h
theorem r_round {d : Nat} {M : q_Mem} {K : Int → q_Mem → Prop} {n p : Int} (hd : 3 < d) (hR : z_IV M) (h : ∀ M', z_IV M' → K (z_roundA (M 179) n p) M') : q_kI yX12_round mX12_round d [qR 178, qI n, qI p] M K := by
  have hN := z_net_N10 hR.1.1
  unfold z_roundA at h
  refine q_goI hd rfl (plainFor_of_name (by decide +kernel)) rfl (fun h => nomatch h) (Nat.le_of_ble_eq_true rfl) (fun d hd => bX12_round_0 _ _ (fun M1 e1 => ?_))
  obtain ⟨R1, o1, f1⟩ := z_IV_0 hR e1
  replace h := h M1 R1
  rw [← o1] at h hN
  refine k_isNode (by omega) R1.1.1 (fun g1 g2 => ⟨fun _ => ⟨fun g3 => ?_, fun g3 => ?_⟩, fun q => absurd q (by decide)⟩) (fun g => ⟨fun q => absurd rfl q, fun _ => ?_⟩)
  · obtain ⟨m, rfl⟩ : ∃ m : Nat, n = (m : Int) := ⟨n.toNat, by omega⟩
    have dg := z_net_dg R1.1.1 (n := m) (by omega)
    have sL := z_net_stL R1.1.1 (n := m + 1) (by omega)
    have hL := z_net_L16 R1.1.1
    rw [if_neg (by omega), if_neg (by omega), Int.toNat_natCast] at h
    refine k_degreeOf (by omega) R1.1.1 (by omega) ⟨fun g4 => ?_, fun g4 => ?_⟩
    · rw [if_neg (by omega)] at h; exact h
    · rw [if_pos (by omega)] at h
      rw [q_add_eq (a := 85) (by omega), z_net_st R1.1.1 (by omega), q_add_eq (a := 19) (by omega), q_add_eq (by omega)]
      exact ⟨by omega, by omega, h⟩
  · rw [if_neg (by omega), if_pos (by omega)] at h; exact h
  · rw [if_pos g] at h; exact h
theorem tt_round {d : Nat} {M : q_Mem} {K : Int → Int → q_Mem → Prop} {n p : Int} (hd : 60 < d) (hR : z_IV M) (h : ∀ v M', z_IV M' → K v v M') : q_kI yX11_round mX11_round d [qR 1, qI n, qI p] M (fun v M1 => q_kI yX12_round mX12_round d [qR 178, qI n, qI p] M1 (fun v2 M2 => K v v2 M2)) :=
  c_round (by omega) hR (fun M1 R1 e1 => r_round (by omega) R1 (fun M' R' => by rw [e1 179 (by decide)]; exact h _ M' R'))
/-- next -/
def z_nextA (o : Int → Int) (e : Int) : Int := if 0 ≤ e ∧ e < 2 * z_L o then (z_nx o 1 e.toNat : Int) else -2
theorem c_next {d : Nat} {M : q_Mem} {K : Int → q_Mem → Prop} {e : Int} (hd : 4 < d) (hR : z_IV M) (h : ∀ M', z_IV M' → (∀ a, 178 ≤ a → M' a = M a) → K (z_nextA (M 179) e) M') : q_kI yX11_next mX11_next d [qR 1, qI e] M K := by
  have hL := z_net_L16 hR.1.1
  have hc := hR.2.1.1
  unfold z_nextA at h
  refine q_goI hd rfl (plainFor_of_name (by decide +kernel)) rfl (fun h => nomatch h) (Nat.le_of_ble_eq_true rfl) (fun d hd => bX11_next_0 _ ⟨fun g => ?_, fun g => ⟨z_cst_k hc, ?_⟩⟩)
  · have := h M hR (fun _ _ => rfl)
    rw [if_neg (by omega)] at this; exact this
  · rw [z_cst_L hc hR.1.1, q_mul_eq (by omega)]
    refine ⟨fun g2 => R_shape (by omega) hR (fun M3 fr R3 f3 c3 a3 s3 => ⟨by omega, ?_⟩), fun g2 => ?_⟩
    · have := h M3 R3 (fun a ha => z_qf_hi f3 ha)
      rw [if_pos (by omega)] at this
      have q := s3.1 e.toNat (by omega)
      rw [show ((e.toNat : Nat) : Int) = e by omega] at q
      rw [q]; exact this
    · have := h M hR (fun _ _ => rfl)
      rw [if_neg (by omega)] at this; exact this
theorem r_next {d : Nat} {M : q_Mem} {K : Int → q_Mem → Prop} {e : Int} (hd : 3 < d) (hR : z_IV M) (h : ∀ M', z_IV M' → K (z_nextA (M 179) e) M') : q_kI yX12_next mX12_next d [qR 178, qI e] M K := by
  unfold z_nextA at h
  refine q_goI hd rfl (plainFor_of_name (by decide +kernel)) rfl (fun h => nomatch h) (Nat.le_of_ble_eq_true rfl) (fun d hd => bX12_next_0 _ (fun M1 e1 => ?_))
  obtain ⟨R1, o1, f1⟩ := z_IV_0 hR e1
  replace h := h M1 R1
  rw [← o1] at h
  have hL := z_net_L16 R1.1.1
  rw [z_net_L R1.1.1, q_mul_eq (by omega), q_sub_eq (by omega)]
  refine k_within (by omega) (fun g1 g2 => ⟨fun q => absurd q (by decide), fun _ => ?_⟩) (fun g => ⟨fun _ => ?_, fun q => absurd rfl q⟩)
  · rw [if_pos (by omega)] at h
    obtain ⟨m, rfl⟩ : ∃ m : Nat, e = (m : Int) := ⟨e.toNat, by omega⟩
    exact k_nextOf (by omega) R1.1.1 R1.1.2.2.2.2.2 (by omega) h
  · rw [if_neg (by omega)] at h; exact h
theorem tt_next {d : Nat} {M : q_Mem} {K : Int → Int → q_Mem → Prop} {e : Int} (hd : 60 < d) (hR : z_IV M) (h : ∀ v M', z_IV M' → K v v M') : q_kI yX11_next mX11_next d [qR 1, qI e] M (fun v M1 => q_kI yX12_next mX12_next d [qR 178, qI e] M1 (fun v2 M2 => K v v2 M2)) :=
  c_next (by omega) hR (fun M1 R1 e1 => r_next (by omega) R1 (fun M' R' => by rw [e1 179 (by decide)]; exact h _ M' R'))
/-- faces, parts, twists -/
theorem c_faces {d : Nat} {M : q_Mem} {K : Int → q_Mem → Prop}  (hd : 4 < d) (hR : z_IV M) (h : ∀ M', z_IV M' → (∀ a, 178 ≤ a → M' a = M a) → K (z_fm (M 179) : Int) M') : q_kI yX11_faces mX11_faces d [qR 1] M K :=
  q_goI hd rfl (plainFor_of_name (by decide +kernel)) rfl (fun h => nomatch h) (Nat.le_of_ble_eq_true rfl) (fun d hd => bX11_faces_0 (R_shape (by omega) hR (fun M3 fr R3 f3 c3 a3 s3 => by rw [s3.2.1.1]; exact h M3 R3 (fun a ha => z_qf_hi f3 ha))))
theorem r_faces {d : Nat} {M : q_Mem} {K : Int → q_Mem → Prop}  (hd : 3 < d) (hR : z_IV M) (h : ∀ M', z_IV M' → K (z_fm (M 179) : Int) M') : q_kI yX12_faces mX12_faces d [qR 178] M K :=
  q_goI hd rfl (plainFor_of_name (by decide +kernel)) rfl (fun h => nomatch h) (Nat.le_of_ble_eq_true rfl) (fun d hd => bX12_faces_0 (fun M1 e1 => by
    obtain ⟨R1, o1, f1⟩ := z_IV_0 hR e1
    refine k_laysFaces (by omega) R1.1.1 R1.1.2.2.2.2.2 (fun M6 f6 q6 => ?_)
    rw [q6.1, o1]
    exact h M6 (z_IV_r R1 f6 (by decide) (by decide))))
theorem tt_faces {d : Nat} {M : q_Mem} {K : Int → Int → q_Mem → Prop} (hd : 60 < d) (hR : z_IV M) (h : ∀ v M', z_IV M' → K v v M') : q_kI yX11_faces mX11_faces d [qR 1] M (fun v M1 => q_kI yX12_faces mX12_faces d [qR 178] M1 (fun v2 M2 => K v v2 M2)) :=
  c_faces (by omega) hR (fun M1 R1 e1 => r_faces (by omega) R1 (fun M' R' => by rw [e1 179 (by decide)]; exact h _ M' R'))
theorem c_parts {d : Nat} {M : q_Mem} {K : Int → q_Mem → Prop}  (hd : 4 < d) (hR : z_IV M) (h : ∀ M', z_IV M' → (∀ a, 178 ≤ a → M' a = M a) → K (z_pc (M 179) : Int) M') : q_kI yX11_parts mX11_parts d [qR 1] M K :=
  q_goI hd rfl (plainFor_of_name (by decide +kernel)) rfl (fun h => nomatch h) (Nat.le_of_ble_eq_true rfl) (fun d hd => bX11_parts_0 (R_shape (by omega) hR (fun M3 fr R3 f3 c3 a3 s3 => by rw [s3.2.2.2.2.1]; exact h M3 R3 (fun a ha => z_qf_hi f3 ha))))
theorem r_parts {d : Nat} {M : q_Mem} {K : Int → q_Mem → Prop}  (hd : 3 < d) (hR : z_IV M) (h : ∀ M', z_IV M' → K (z_pc (M 179) : Int) M') : q_kI yX12_parts mX12_parts d [qR 178] M K :=
  q_goI hd rfl (plainFor_of_name (by decide +kernel)) rfl (fun h => nomatch h) (Nat.le_of_ble_eq_true rfl) (fun d hd => bX12_parts_0 (fun M1 e1 => by
    obtain ⟨R1, o1, f1⟩ := z_IV_0 hR e1
    refine k_laysParts (by omega) R1.1.1 (fun M6 f6 p6 c6 => ?_)
    rw [c6, o1]
    exact h M6 (z_IV_r R1 f6 (by decide) (by decide))))
theorem tt_parts {d : Nat} {M : q_Mem} {K : Int → Int → q_Mem → Prop} (hd : 60 < d) (hR : z_IV M) (h : ∀ v M', z_IV M' → K v v M') : q_kI yX11_parts mX11_parts d [qR 1] M (fun v M1 => q_kI yX12_parts mX12_parts d [qR 178] M1 (fun v2 M2 => K v v2 M2)) :=
  c_parts (by omega) hR (fun M1 R1 e1 => r_parts (by omega) R1 (fun M' R' => by rw [e1 179 (by decide)]; exact h _ M' R'))
theorem c_twists {d : Nat} {M : q_Mem} {K : Int → q_Mem → Prop}  (hd : 4 < d) (hR : z_IV M) (h : ∀ M', z_IV M' → (∀ a, 178 ≤ a → M' a = M a) → K (z_tw (M 179)) M') : q_kI yX11_twists mX11_twists d [qR 1] M K :=
  q_goI hd rfl (plainFor_of_name (by decide +kernel)) rfl (fun h => nomatch h) (Nat.le_of_ble_eq_true rfl) (fun d hd => bX11_twists_0 (R_shape (by omega) hR (fun M3 fr R3 f3 c3 a3 s3 => by rw [s3.2.2.2.2.2]; exact h M3 R3 (fun a ha => z_qf_hi f3 ha))))
theorem r_twists {d : Nat} {M : q_Mem} {K : Int → q_Mem → Prop}  (hd : 5 < d) (hR : z_IV M) (h : ∀ M', z_IV M' → K (z_tw (M 179)) M') : q_kI yX12_twists mX12_twists d [qR 178] M K :=
  q_goI hd rfl (plainFor_of_name (by decide +kernel)) rfl (fun h => nomatch h) (Nat.le_of_ble_eq_true rfl) (fun d hd => bX12_twists_0 (fun M1 e1 => by
    obtain ⟨R1, o1, f1⟩ := z_IV_0 hR e1
    refine k_twistsNow (by omega) R1.1.1 R1.1.2.2.2.2.2 (fun M6 f6 _ _ _ => ?_)
    rw [o1]
    exact h M6 (z_IV_r R1 f6 (by decide) (by decide))))
theorem tt_twists {d : Nat} {M : q_Mem} {K : Int → Int → q_Mem → Prop} (hd : 60 < d) (hR : z_IV M) (h : ∀ v M', z_IV M' → K v v M') : q_kI yX11_twists mX11_twists d [qR 1] M (fun v M1 => q_kI yX12_twists mX12_twists d [qR 178] M1 (fun v2 M2 => K v v2 M2)) :=
  c_twists (by omega) hR (fun M1 R1 e1 => r_twists (by omega) R1 (fun M' R' => by rw [e1 179 (by decide)]; exact h _ M' R'))
/-- hasFace -/
theorem R_hasFace {d : Nat} {M : q_Mem} {K : Int → q_Mem → Prop} {f : Int} (hd : 4 < d) (hR : z_IV M) (h : ∀ M' fr, z_IV M' → z_qf M M' → z_cst M' (M 179) → z_ca M' (M 179) (fr ||| 1) → z_sh (M 179) M' → (0 ≤ f → f < z_fm (M 179) → K 1 M') ∧ (¬ (0 ≤ f ∧ f < z_fm (M 179)) → K 0 M')) : q_kI yX11_hasFace mX11_hasFace d [qR 1, qI f] M K := by
  refine q_goI hd rfl (plainFor_of_name (by decide +kernel)) rfl (fun h => nomatch h) (Nat.le_of_ble_eq_true rfl) (fun d hd => bX11_hasFace_0 _ (R_shape (by omega) hR (fun M3 fr R3 f3 c3 a3 s3 => ?_)))
  have := h M3 fr R3 f3 c3 a3 s3
  rw [s3.2.1.1]
  exact ⟨fun g => this.2 (by omega), fun g => ⟨fun g2 => this.2 (by show ¬ (0 ≤ f ∧ f < ((z_fs (z_nx (M 179) 1) (2 * z_L (M 179))).2.1 : Nat)); omega), fun g2 => this.1 (by omega) (by show f < ((z_fs (z_nx (M 179) 1) (2 * z_L (M 179))).2.1 : Nat); omega)⟩⟩
/-- nodes met by a face -/
def z_mm (o : Int → Int) (f : Int) : Nat := z_set (fun n => (List.range (2 * z_L o)).any (fun x => decide (z_fo o x = f) && decide (z_fd o x = n))) 10
theorem z_mm_ok {o : Int → Int} (hn : z_net o) {f : Int} : z_mt o (z_fo o) f (z_mm o f) := by
  have hN := z_net_N10 hn
  refine ⟨z_set_lt (n := 10), fun n => ?_⟩
  unfold z_mm
  rw [z_set_bit]
  simp only [Bool.and_eq_true, decide_eq_true_eq, List.any_eq_true, List.mem_range]
  constructor
  · rintro ⟨_, x, a, b, c⟩
    exact ⟨x, a, b, c⟩
  · rintro ⟨x, a, b, c⟩
    have := z_fd_lt hn a
    exact ⟨by omega, x, a, b, c⟩
theorem z_mt_un {o : Int → Int} {fo : Nat → Int} {f : Int} {m m' : Nat} (h : z_mt o fo f m) (h' : z_mt o fo f m') : m = m' := by
  apply Nat.eq_of_testBit_eq
  intro n
  have a := h.2 n
  have b := h'.2 n
  cases c : m.testBit n <;> cases c' : m'.testBit n
  · rfl
  · exact absurd (a.mpr (b.mp c')) (by rw [c]; decide)
  · exact absurd (b.mpr (a.mp c)) (by rw [c']; decide)
  · rfl
/-- odd faces, from all links or from those there are -/
def z_gd1 (o : Int → Int) : Nat := z_gd (z_wr o) 1 (z_L o)
def z_isodd (o : Int → Int) (f : Nat) : Bool := z_par (z_fo o) (z_gd1 o) f (2 * z_L o)
theorem z_par_all {o : Int → Int} (hn : z_net o) {f : Int} : z_par (z_fo o) (z_gd1 o) f 32 = z_par (z_fo o) (z_gd1 o) f (2 * z_L o) := by
  have hL := z_net_L16 hn
  have := z_par_far (fo := z_fo o) (g := z_gd1 o) (f := f) (D := 2 * z_L o) (fun l hl => by
    unfold z_gd1 z_gd
    rw [z_set_bit]
    simp
    intro q; omega) (by omega) (k := 32 - 2 * z_L o)
  rw [show 2 * z_L o + (32 - 2 * z_L o) = 32 by omega] at this
  exact this
theorem z_odd_eq {o : Int → Int} (hE : z_E o) : z_odd (z_fo o) (z_gd1 o) 32 = z_set (z_isodd o) (z_fm o) := by
  have h16 := z_fm_16 hE.1 hE.2.2.2.2.2
  apply Nat.eq_of_testBit_eq
  intro f
  rw [z_odd_bit, z_set_bit, z_par_all hE.1]
  unfold z_isodd
  by_cases c : f < z_fm o
  · simp [c, show f < 16 by omega]
  · rw [z_par_no (fun x hx e => by have := z_fo_in hE.1 hE.2.2.2.2.2 hx; omega)]
    simp
theorem z_fo_ab {o : Int → Int} (hE : z_E o) {g : Nat} (hg : ∀ l, g.testBit l = true → l < z_L o) : ∀ l, g.testBit l = true → ∃ a b : Nat, z_fo o (2 * l) = (a : Int) ∧ z_fo o (2 * l + 1) = (b : Int) ∧ a < 16 ∧ b < 16 := fun l hl => by
  have h := hg l hl
  have q1 := z_fo_in hE.1 hE.2.2.2.2.2 (x := 2 * l) (by omega)
  have q2 := z_fo_in hE.1 hE.2.2.2.2.2 (x := 2 * l + 1) (by omega)
  have q3 := z_fm_16 hE.1 hE.2.2.2.2.2
  exact ⟨(z_fo o (2 * l)).toNat, (z_fo o (2 * l + 1)).toNat, by omega, by omega, by omega, by omega⟩
theorem z_gd1_bit {o : Int → Int} : ∀ l, (z_gd1 o).testBit l = true → l < z_L o := fun l hl => by
  unfold z_gd1 z_gd at hl
  rw [z_set_bit] at hl
  simp only [Bool.and_eq_true, decide_eq_true_eq] at hl
  exact hl.1
/-- the class's odd faces, weights and shape being there -/
theorem R_odd {d : Nat} {M : q_Mem} {K : Int → q_Mem → Prop} {o : Int → Int} (hd : 1 < d) (hE : z_E o) (hc : z_cst M o) (h0 : z_hv o M 0) (h1 : z_hv o M 1) (h : K (z_set (z_isodd o) (z_fm o) : Int) M) : q_kI yX11_goodLinks mX11_goodLinks d [qR 1, qI 1] M (fun v2 M1 => q_kI yX6_oddFaces mX6_oddFaces d [qR 91, qI v2] M1 K) := by
  have s0 : z_sh o M := h0
  refine k_cgood (by omega) (Or.inl rfl) hE hc h1 (k_oddFaces (fo := z_fo o) (by omega) (z_gd_lt (z_net_L16 hE.1)) (z_fo_ab hE z_gd1_bit) s0.2.1.2.1 ?_)
  rw [← z_odd_eq hE] at h
  exact h
theorem c_odd {d : Nat} {M : q_Mem} {K : Int → q_Mem → Prop}  (hd : 23 < d) (hR : z_IV M) (h : ∀ M', z_IV M' → (∀ a, 178 ≤ a → M' a = M a) → K (z_set (z_isodd (M 179)) (z_fm (M 179)) : Int) M') : q_kI yX11_odd mX11_odd d [qR 1] M K :=
  q_goI hd rfl (plainFor_of_name (by decide +kernel)) rfl (fun h => nomatch h) (Nat.le_of_ble_eq_true rfl) (fun d hd => bX11_odd_0 (R_need 3 (by omega) z_cl_3 hR (fun M3 fr R3 f3 c3 a3 => R_odd (by omega) hR.1 c3 (z_has (k := 0) a3 (by decide) (by decide)) (z_has (k := 1) a3 (by decide) (by decide)) (h M3 R3 (fun a ha => z_qf_hi f3 ha)))))
theorem l_od22 {d : Nat} {M : q_Mem} {K : Int → q_Mem → Prop} {p : Nat → Bool} {F : Nat} (hF : F ≤ 16) (h25 : M 178 25 = (F : Int)) (hp : ∀ f : Nat, f < F → M 192 f = if p f then 1 else 0) (h : K (z_set p F : Int) M) :
    ∀ (j i : Nat), i + j = F → q_v mX12_odd d (qPI K) M 22 [some (qR 178), some (qI (z_set p i : Int)), some (qI (i : Int))] [] := by
  intro j
  induction j with
  | zero =>
    intro i e
    have ei : i = F := by omega
    subst ei
    refine bX12_odd_22 _ _ ?_
    rw [h25]
    exact ⟨fun _ => h, fun g => absurd (by omega) g⟩
  | succ j ih =>
    intro i e
    have nx := ih (i + 1) (by omega)
    have lt : z_set p i < 65536 := Nat.lt_of_lt_of_le z_set_lt (by show 2 ^ i ≤ 2 ^ 16; exact Nat.pow_le_pow_right (by decide) (by omega))
    have ex : z_set p (i + 1) = z_set p i ||| (if p i then 2 ^ i else 0) := rfl
    refine bX12_odd_22 _ _ ?_
    rw [h25, hp i (by omega), q_or0 (by omega), q_or1 (by omega) (by omega), q_add_eq (by omega), show (i : Int) + 1 = ((i + 1 : Nat) : Int) by omega]
    refine ⟨fun g => absurd g (by omega), fun _ => ⟨by omega, fun g x e2 => ?_, fun g x e2 => ?_⟩⟩
    · cases c : p i with
      | false => rw [ex, c] at nx; rw [e2]; simpa using nx
      | true => rw [c] at g; exact absurd g (by decide)
    · cases c : p i with
      | false => rw [c] at g; exact absurd rfl g
      | true => rw [ex, c] at nx; rw [e2]; exact nx
/-- faces, weights, odd faces of the reference -/
theorem R_rodd {d : Nat} {M : q_Mem} {K : q_Mem → Prop} (hd : 4 < d) (hR : z_IV M) (f188 : ∀ x : Nat, x < 32 → M 188 x = z_fo (M 179) x) (h25 : M 178 25 = (z_fm (M 179) : Int)) (h : ∀ M', z_fr [185, 186, 187, 192] [] M M' → (∀ f : Nat, f < z_fm (M 179) → M' 192 f = if z_isodd (M 179) f then 1 else 0) → K M') :
    q_kU yX12_laysWeights mX12_laysWeights d [qR 178] M (fun M7 => q_kU yX12_laysOdd mX12_laysOdd d [qR 178, qI 1] M7 K) := by
  have hE := hR.1
  refine k_laysWeights (by omega) hE.1 hE.2.1 hE.2.2.1 hE.2.2.2.1 (fun M7 f7 w7 => ?_)
  have o7 : M7 179 = M 179 := f7.1 179 (by decide) (by decide)
  refine k_laysOdd (by omega) (Or.inl rfl) (by rw [o7]; exact hE.1) (by rw [o7]; exact hE.2.2.2.2.2) (fun l hl => by rw [o7] at hl; rw [w7 l hl]; exact z_wt_bd) (fun x hx => by rw [f7.1 188 (by decide) (by decide), o7]; exact f188 x hx) (by rw [f7.2 25 (by decide), o7]; exact h25) (fun M8 f8 q8 => h M8 (z_fr_tr (z_fr_mono f7 (by decide) (by decide)) (z_fr_mono f8 (by decide) (by decide))) (fun f hf => ?_))
  rw [o7] at q8
  rw [q8 f hf, z_set_congr (p := fun l => decide (0 < 1 * M7 187 l)) (q := fun l => decide (0 < 1 * z_wr (M 179) l)) (fun l hl => by rw [z_wts_wr w7 hl]) |> fun e => show z_gd (M7 187) 1 (z_L (M 179)) = z_gd1 (M 179) from e]
  rfl
theorem r_odd {d : Nat} {M : q_Mem} {K : Int → q_Mem → Prop}  (hd : 5 < d) (hR : z_IV M) (h : ∀ M', z_IV M' → K (z_set (z_isodd (M 179)) (z_fm (M 179)) : Int) M') : q_kI yX12_odd mX12_odd d [qR 178] M K :=
  q_goI hd rfl (plainFor_of_name (by decide +kernel)) rfl (fun h => nomatch h) (Nat.le_of_ble_eq_true rfl) (fun d hd => bX12_odd_0 (fun M1 e1 => by
    obtain ⟨R1, o1, f1⟩ := z_IV_0 hR e1
    refine k_laysFaces (by omega) R1.1.1 R1.1.2.2.2.2.2 (fun M6 f6 q6 => ?_)
    have R6 := z_IV_r R1 f6 (by decide) (by decide)
    have o6 : M6 179 = M1 179 := f6.1 179 (by decide) (by decide)
    refine R_rodd (by omega) R6 (by rw [o6]; exact q6.2.1) (by rw [o6]; exact q6.1) (fun M8 f8 q8 => ?_)
    rw [o6, o1] at q8
    have := h M8 (z_IV_r R6 f8 (by decide) (by decide))
    exact l_od22 (p := z_isodd (M 179)) (F := z_fm (M 179)) (z_fm_16 hR.1.1 hR.1.2.2.2.2.2) (by rw [f8.2 25 (by decide), q6.1, o1]; rfl) q8 this (z_fm (M 179)) 0 (by omega)))
theorem tt_odd {d : Nat} {M : q_Mem} {K : Int → Int → q_Mem → Prop} (hd : 60 < d) (hR : z_IV M) (h : ∀ v M', z_IV M' → K v v M') : q_kI yX11_odd mX11_odd d [qR 1] M (fun v M1 => q_kI yX12_odd mX12_odd d [qR 178] M1 (fun v2 M2 => K v v2 M2)) :=
  c_odd (by omega) hR (fun M1 R1 e1 => r_odd (by omega) R1 (fun M' R' => by rw [e1 179 (by decide)]; exact h _ M' R'))
