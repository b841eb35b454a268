-- questions about faces, pairings, cuts
def z_faceA (o : Int → Int) (f w : Int) : Int := if ¬ (0 ≤ f ∧ f < z_fm o) ∨ ¬ (0 ≤ w ∧ w ≤ 3) then -2 else if w = 0 then ((z_fs (z_nx o 1) (2 * z_L o)).2.2.2 f.toNat : Int) else if w = 1 then ((z_fs (z_nx o 1) (2 * z_L o)).2.2.1 f.toNat : Int) else if w = 2 then (if z_isodd o f.toNat then 1 else 0) else (z_bc (z_mm o f) 10 : Int)
theorem z_bitq {s k : Nat} (hs : s < 2147483648) (hk : k < 32) {b : Bool} (e : s.testBit k = b) : q_and (q_shr (s : Int) (k : Int)) 1 = if b then 1 else 0 := by
  rw [q_bit hs hk, e]
theorem c_face {d : Nat} {M : q_Mem} {K : Int → q_Mem → Prop} {f w : Int} (hd : 23 < d) (hR : z_IV M) (h : ∀ M', z_IV M' → (∀ a, 178 ≤ a → M' a = M a) → K (z_faceA (M 179) f w) M') : q_kI yX11_face mX11_face d [qR 1, qI f, qI w] M K := by
  have hE := hR.1
  have h16 := z_fm_16 hE.1 hE.2.2.2.2.2
  unfold z_faceA at h
  refine q_goI hd rfl (plainFor_of_name (by decide +kernel)) rfl (fun h => nomatch h) (Nat.le_of_ble_eq_true rfl) (fun d hd => bX11_face_0 _ _ (R_hasFace (by omega) hR (fun M1 fr R1 f1 c1 a1 s1 => ?_)))
  have hi : ∀ a, 178 ≤ a → M1 a = M a := fun a ha => z_qf_hi f1 ha
  have h' := h M1 R1 hi
  refine ⟨fun g1 g2 => ⟨fun q => absurd q (by decide), fun _ => ⟨fun g => ?_, fun g => ⟨fun g3 => ⟨fun w0 => ⟨fun w1 => ⟨fun w2 => ?_, fun w2 => ?_⟩, fun w1 => ?_⟩, fun w0 => ?_⟩, fun g3 => ?_⟩⟩⟩, fun g => ⟨fun _ => ?_, fun q => absurd rfl q⟩⟩
  · rw [if_pos (by omega)] at h'; exact h'
  · rw [if_neg (by omega), if_neg w0, if_neg w1, if_neg w2] at h'
    obtain ⟨m, rfl⟩ : ∃ m : Nat, f = (m : Int) := ⟨f.toNat, by omega⟩
    obtain ⟨mk, e, q⟩ := s1.2.2.1 m (by show m < z_fm (M 179); omega)
    have un := z_mt_un q (z_mm_ok hE.1 (f := (m : Int)))
    rw [e]
    refine ⟨by omega, k_bitCount (by omega) q.1 ?_⟩
    rw [un]; exact h'
  · obtain ⟨m, rfl⟩ : ∃ m : Nat, f = (m : Int) := ⟨f.toNat, by omega⟩
    have e1 : M1 179 = M 179 := hi 179 (by decide)
    refine R_need2 (fr := fr) (t0 := 1) 2 (by omega) z_cl_2 R1 (by rw [e1]; exact a1) (fun M6 R6 f6 c6 a6 => ?_)
    rw [e1] at c6 a6
    have hv0 : z_hv (M 179) M6 0 := z_has2 a6 (by decide) (by decide)
    refine R_odd (by omega) hE c6 hv0 (z_has (k := 1) (t := 2) a6 (by decide) (by decide)) ?_
    have := h M6 R6 (fun a ha => (z_qf_hi f6 ha).trans (hi a ha))
    rw [if_neg (by omega), if_neg w0, if_neg w1, if_pos w2, Int.toNat_natCast] at this
    rw [z_bitq (b := z_isodd (M 179) m) (Nat.lt_trans z_set_lt (q_pow31 (by omega))) (by omega) (by rw [z_set_bit]; simp; intro q; omega)]
    exact this
  · rw [if_neg (by omega), if_neg w0, if_pos w1] at h'
    obtain ⟨m, rfl⟩ : ∃ m : Nat, f = (m : Int) := ⟨f.toNat, by omega⟩
    rw [(s1.2.1.2.2 m (by show m < z_fm (M 179); omega)).1]
    exact ⟨by omega, h'⟩
  · rw [if_neg (by omega), if_pos w0] at h'
    obtain ⟨m, rfl⟩ : ∃ m : Nat, f = (m : Int) := ⟨f.toNat, by omega⟩
    rw [(s1.2.1.2.2 m (by show m < z_fm (M 179); omega)).2]
    exact ⟨by omega, h'⟩
  · rw [if_pos (by omega)] at h'; exact h'
  · rw [if_pos (Or.inl g)] at h'; exact h'
theorem r_face {d : Nat} {M : q_Mem} {K : Int → q_Mem → Prop} {f w : Int} (hd : 5 < d) (hR : z_IV M) (h : ∀ M', z_IV M' → K (z_faceA (M 179) f w) M') : q_kI yX12_face mX12_face d [qR 178, qI f, qI w] M K := by
  have hE := hR.1
  have h16 := z_fm_16 hE.1 hE.2.2.2.2.2
  unfold z_faceA at h
  refine q_goI hd rfl (plainFor_of_name (by decide +kernel)) rfl (fun h => nomatch h) (Nat.le_of_ble_eq_true rfl) (fun d hd => bX12_face_0 _ _ (fun M1 e1 => ?_))
  obtain ⟨R1, o1, f1⟩ := z_IV_0 hR e1
  refine k_laysFaces (by omega) R1.1.1 R1.1.2.2.2.2.2 (fun M6 f6 q6 => ?_)
  have R6 := z_IV_r R1 f6 (by decide) (by decide)
  have o6 : M6 179 = M 179 := (f6.1 179 (by decide) (by decide)).trans o1
  rw [o1] at q6
  have h6 := h M6 R6
  refine k_isFace (c := z_fm (M 179)) (by omega) q6.1 h16 (fun g1 g2 => ⟨fun q => absurd q (by decide), fun _ => k_within (by omega) (fun g3 g4 => ⟨fun _ => ?_, fun q => absurd q (by decide)⟩) (fun g3 => ⟨fun q => absurd rfl q, fun _ => ?_⟩)⟩) (fun g => ⟨fun _ => ?_, fun q => absurd rfl q⟩)
  · refine R_rodd (by omega) R6 (by rw [o6]; exact q6.2.1) (by rw [o6]; exact q6.1) (fun M8 f8 q8 => ?_)
    rw [o6] at q8
    have o8 : M8 179 = M 179 := (f8.1 179 (by decide) (by decide)).trans o6
    have h8 := h M8 (z_IV_r R6 f8 (by decide) (by decide))
    rw [if_neg (by omega)] at h8
    obtain ⟨m, rfl⟩ : ∃ m : Nat, f = (m : Int) := ⟨f.toNat, by omega⟩
    refine ⟨fun w0 => ⟨fun w1 => ⟨fun w2 => ?_, fun w2 => ⟨by omega, ?_⟩⟩, fun w1 => ⟨by omega, ?_⟩⟩, fun w0 => ⟨by omega, ?_⟩⟩
    · rw [if_neg w0, if_neg w1, if_neg w2] at h8
      exact k_meets (m := z_mm (M 179) (m : Int)) (by omega) (by rw [o8]; exact hE.1) (fun x hx => by rw [f8.1 188 (by decide) (by decide), o8]; exact q6.2.1 x hx) (by rw [o8]; exact z_mm_ok hE.1) h8
    · rw [if_neg w0, if_neg w1, if_pos w2, Int.toNat_natCast] at h8
      rw [q8 m (by omega)]
      cases c : z_isodd (M 179) m with
      | true => rw [c] at h8; exact ⟨fun q => absurd q (by decide), fun _ => h8⟩
      | false => rw [c] at h8; exact ⟨fun _ => h8, fun q => absurd rfl q⟩
    · rw [if_neg w0, if_pos w1, Int.toNat_natCast] at h8
      rw [f8.1 189 (by decide) (by decide), (q6.2.2 m (by show m < z_fm (M 179); omega)).1]
      exact h8
    · rw [if_pos w0, Int.toNat_natCast] at h8
      rw [f8.1 190 (by decide) (by decide), (q6.2.2 m (by show m < z_fm (M 179); omega)).2]
      exact h8
  · rw [if_pos (by omega)] at h6; exact h6
  · rw [if_pos (Or.inl g)] at h6; exact h6
theorem tt_face {d : Nat} {M : q_Mem} {K : Int → Int → q_Mem → Prop} {f w : Int} (hd : 60 < d) (hR : z_IV M) (h : ∀ v M', z_IV M' → K v v M') : q_kI yX11_face mX11_face d [qR 1, qI f, qI w] M (fun v M1 => q_kI yX12_face mX12_face d [qR 178, qI f, qI w] M1 (fun v2 M2 => K v v2 M2)) :=
  c_face (by omega) hR (fun M1 R1 e1 => r_face (by omega) R1 (fun M' R' => by rw [e1 179 (by decide)]; exact h _ M' R'))
/-- dart -/
def z_sz (o : Int → Int) (f : Nat) : Nat := (z_fs (z_nx o 1) (2 * z_L o)).2.2.2 f
def z_f1 (o : Int → Int) (f : Nat) : Nat := (z_fs (z_nx o 1) (2 * z_L o)).2.2.1 f
def z_dartA (o : Int → Int) (f i : Int) : Int := if ¬ (0 ≤ f ∧ f < z_fm o) then -2 else if i < 0 then -3 else if i < (z_sz o f.toNat : Int) then (z_it (z_nx o 1) i.toNat (z_f1 o f.toNat) : Int) else -1
theorem z_szf {o : Int → Int} (hE : z_E o) {f : Nat} (hf : f < z_fm o) : z_sz o f < 1000 ∧ z_f1 o f < 2 * z_L o := by
  have hL := z_net_L16 hE.1
  have := (z_fs_inv (z_pm_nx hE.1 hE.2.2.2.2.2) (by omega) (2 * z_L o) (Nat.le_refl _)).1.2.2.2 f hf
  unfold z_sz z_f1
  omega
theorem c_dart {d : Nat} {M : q_Mem} {K : Int → q_Mem → Prop} {f i : Int} (hd : 5 < d) (hR : z_IV M) (h : ∀ M', z_IV M' → (∀ a, 178 ≤ a → M' a = M a) → K (z_dartA (M 179) f i) M') : q_kI yX11_dart mX11_dart d [qR 1, qI f, qI i] M K := by
  have hE := hR.1
  have h16 := z_fm_16 hE.1 hE.2.2.2.2.2
  unfold z_dartA at h
  refine q_goI hd rfl (plainFor_of_name (by decide +kernel)) rfl (fun h => nomatch h) (Nat.le_of_ble_eq_true rfl) (fun d hd => bX11_dart_0 _ _ (R_hasFace (by omega) hR (fun M1 fr R1 f1 c1 a1 s1 => ?_)))
  have h' := h M1 R1 (fun a ha => z_qf_hi f1 ha)
  refine ⟨fun g1 g2 => ⟨fun _ => ⟨fun g => ?_, fun g => ?_⟩, fun q => absurd q (by decide)⟩, fun g => ⟨fun q => absurd rfl q, fun _ => ?_⟩⟩
  · rw [if_neg (by omega), if_neg (by omega)] at h'
    obtain ⟨m, rfl⟩ : ∃ m : Nat, f = (m : Int) := ⟨f.toNat, by omega⟩
    rw [Int.toNat_natCast] at h'
    have b := z_szf hE (f := m) (by omega)
    have e := s1.2.1.2.2 m (by show m < z_fm (M 179); omega)
    exact k_cdartAt (o := M 179) (x := z_f1 (M 179) m) (sz := z_sz (M 179) m) (by omega) hE.1 hE.2.2.2.2.2 s1.1 (by omega) e.1 e.2 b.2 b.1 g h'
  · rw [if_neg (by omega), if_pos (by omega)] at h'; exact h'
  · rw [if_pos g] at h'; exact h'
theorem r_dart {d : Nat} {M : q_Mem} {K : Int → q_Mem → Prop} {f i : Int} (hd : 4 < d) (hR : z_IV M) (h : ∀ M', z_IV M' → K (z_dartA (M 179) f i) M') : q_kI yX12_dart mX12_dart d [qR 178, qI f, qI i] M K := by
  have hE := hR.1
  have h16 := z_fm_16 hE.1 hE.2.2.2.2.2
  unfold z_dartA at h
  refine q_goI hd rfl (plainFor_of_name (by decide +kernel)) rfl (fun h => nomatch h) (Nat.le_of_ble_eq_true rfl) (fun d hd => bX12_dart_0 _ _ (fun M1 e1 => ?_))
  obtain ⟨R1, o1, f1⟩ := z_IV_0 hR e1
  refine k_laysFaces (by omega) R1.1.1 R1.1.2.2.2.2.2 (fun M6 f6 q6 => ?_)
  have R6 := z_IV_r R1 f6 (by decide) (by decide)
  have o6 : M6 179 = M 179 := (f6.1 179 (by decide) (by decide)).trans o1
  rw [o1] at q6
  have h6 := h M6 R6
  refine k_isFace (c := z_fm (M 179)) (by omega) q6.1 h16 (fun g1 g2 => ⟨fun _ => ⟨fun g => ⟨by omega, ?_⟩, fun g => ?_⟩, fun q => absurd q (by decide)⟩) (fun g => ⟨fun q => absurd rfl q, fun _ => ?_⟩)
  · rw [if_neg (by omega), if_neg (by omega)] at h6
    obtain ⟨m, rfl⟩ : ∃ m : Nat, f = (m : Int) := ⟨f.toNat, by omega⟩
    obtain ⟨j, rfl⟩ : ∃ m : Nat, i = (m : Int) := ⟨i.toNat, by omega⟩
    rw [Int.toNat_natCast, Int.toNat_natCast] at h6
    have b := z_szf hE (f := m) (by omega)
    have e := q6.2.2 m (by show m < z_fm (M 179); omega)
    rw [show M6 190 (m : Int) = (z_sz (M 179) m : Int) from e.2]
    refine ⟨fun g3 => ?_, fun g3 => ?_⟩
    · rw [if_neg (by omega)] at h6; exact h6
    · rw [if_pos (by omega)] at h6
      refine k_dartAt (x := z_f1 (M 179) m) (by omega) R6.1.1 R6.1.2.2.2.2.2 (by omega) e.1 (by rw [o6]; exact b.2) (by omega) ?_
      rw [o6]; exact h6
  · rw [if_neg (by omega), if_pos (by omega)] at h6; exact h6
  · rw [if_pos g] at h6; exact h6
theorem tt_dart {d : Nat} {M : q_Mem} {K : Int → Int → q_Mem → Prop} {f i : Int} (hd : 60 < d) (hR : z_IV M) (h : ∀ v M', z_IV M' → K v v M') : q_kI yX11_dart mX11_dart d [qR 1, qI f, qI i] M (fun v M1 => q_kI yX12_dart mX12_dart d [qR 178, qI f, qI i] M1 (fun v2 M2 => K v v2 M2)) :=
  c_dart (by omega) hR (fun M1 R1 e1 => r_dart (by omega) R1 (fun M' R' => by rw [e1 179 (by decide)]; exact h _ M' R'))
/-- whether it lies flat -/
theorem R_flat {d : Nat} {M : q_Mem} {K : Int → q_Mem → Prop} (hd : 4 < d) (hR : z_IV M) (h : ∀ M' fr, z_IV M' → z_qf M M' → z_cst M' (M 179) → z_ca M' (M 179) (fr ||| 1) → z_sh (M 179) M' → (z_tw (M 179) = 0 → K 1 M') ∧ (¬ z_tw (M 179) = 0 → K 0 M')) : q_kI yX11_isFlat mX11_isFlat d [qR 1] M K := by
  refine q_goI hd rfl (plainFor_of_name (by decide +kernel)) rfl (fun h => nomatch h) (Nat.le_of_ble_eq_true rfl) (fun d hd => bX11_isFlat_0 (R_shape (by omega) hR (fun M3 fr R3 f3 c3 a3 s3 => ?_)))
  have := h M3 fr R3 f3 c3 a3 s3
  rw [s3.2.2.2.2.2]
  exact ⟨this.2, this.1⟩
/-- the reference's pairing between calls -/
theorem R_pairs {d : Nat} {M : q_Mem} {K : Int → q_Mem → Prop} {sg : Int} (hs : sg = 1 ∨ sg = -1) (hd : 4 < d) (hR : z_IV M) (h0 : ¬ z_tw (M 179) = 0 → ∀ M', z_IV M' → M' 179 = M 179 → K 0 M') (h1 : z_tw (M 179) = 0 → ∀ (M' : q_Mem) (p' : Nat → Int) (jn' : Nat), z_IV M' → M' 179 = M 179 → (∀ l : Nat, l < z_L (M 179) → M' 187 l = z_wr (M 179) l) → z_lrow (z_pt (M 179)) (M' 191) (z_N (M 179)) → M' 178 35 = (jn' : Int) → jn' < 65536 → (∀ f : Nat, f < z_fm (M 179) → M' 198 f = p' f) → z_PF (M 179) sg p' jn' → K 1 M') : q_kI yX12_laysPairs mX12_laysPairs d [qR 178, qI sg] M K :=
  k_laysPairs (by omega) hs hR.1 (fun g M' f' => h0 g M' (z_IV_r hR f' (by decide) (by decide)) (f'.1 179 (by decide) (by decide))) (fun g M' p' jn' f' w' l' j' jl q' P' => h1 g M' p' jn' (z_IV_r hR f' (by decide) (by decide)) (f'.1 179 (by decide) (by decide)) (fun l hl => z_wts_wr w' hl) l' j' jl q' P')
def z_paP (o : Int → Int) (f v : Int) : Prop := (¬ (0 ≤ f ∧ f < z_fm o) ∧ v = -2) ∨ ((0 ≤ f ∧ f < z_fm o) ∧ ¬ z_tw o = 0 ∧ v = -5) ∨ ((0 ≤ f ∧ f < z_fm o) ∧ z_tw o = 0 ∧ ∃ p' jn', z_PF o 1 p' jn' ∧ v = p' f.toNat)
theorem z_paP_un {o : Int → Int} {f v v' : Int} (h : z_paP o f v) (h' : z_paP o f v') : v = v' := by
  rcases h with ⟨a, b⟩ | ⟨a, b, c⟩ | ⟨a, b, p, j, c, e⟩ <;> rcases h' with ⟨a', b'⟩ | ⟨a', b', c'⟩ | ⟨a', b', p', j', c', e'⟩
  · omega
  · exact absurd a' a
  · exact absurd a' a
  · exact absurd a a'
  · omega
  · exact absurd b' b
  · exact absurd a a'
  · exact absurd b b'
  · rw [e, e', (z_PF_un c c').1]
theorem c_partner {d : Nat} {M : q_Mem} {K : Int → q_Mem → Prop} {f : Int} (hd : 23 < d) (hR : z_IV M) (h : ∀ v M', z_IV M' → (∀ a, 178 ≤ a → M' a = M a) → z_paP (M 179) f v → K v M') : q_kI yX11_partner mX11_partner d [qR 1, qI f] M K := by
  have hE := hR.1
  have h16 := z_fm_16 hE.1 hE.2.2.2.2.2
  refine q_goI hd rfl (plainFor_of_name (by decide +kernel)) rfl (fun h => nomatch h) (Nat.le_of_ble_eq_true rfl) (fun d hd => bX11_partner_0 _ (R_hasFace (by omega) hR (fun M1 fr R1 f1 c1 a1 s1 => ⟨fun g1 g2 => ⟨fun _ => R_flat (by omega) R1 (fun M3 fr3 R3 f3 c3 a3 s3 => ?_), fun q => absurd q (by decide)⟩, fun g1 => ⟨fun q => absurd rfl q, fun _ => h _ M1 R1 (fun a ha => z_qf_hi f1 ha) (Or.inl ⟨g1, rfl⟩)⟩⟩)))
  rw [z_qf_hi f1 (a := 179) (by decide)] at a3 s3 c3 ⊢
  have hi3 : ∀ a, 178 ≤ a → M3 a = M a := fun a ha => (z_qf_hi f3 ha).trans (z_qf_hi f1 ha)
  refine ⟨fun t0 => ⟨fun _ => R_need 27 (by omega) z_cl_27 R3 (fun M5 fr5 R5 f5 c5 a5 => ⟨by omega, ?_⟩), fun q => absurd q (by decide)⟩, fun t0 => ⟨fun q => absurd rfl q, fun _ => h _ M3 R3 hi3 (Or.inr (Or.inl ⟨⟨g1, g2⟩, t0, rfl⟩))⟩⟩
  rw [hi3 179 (by decide)] at a5
  obtain ⟨p', jn', q1, q2, q3, q4⟩ := (z_has (k := 4) a5 (by decide) (by decide) : z_hv (M 179) M5 4)
  obtain ⟨m, rfl⟩ : ∃ m : Nat, f = (m : Int) := ⟨f.toNat, by omega⟩
  refine h _ M5 R5 (fun a ha => (z_qf_hi f5 ha).trans (hi3 a ha)) (Or.inr (Or.inr ⟨⟨g1, g2⟩, t0, p', jn', q4, ?_⟩))
  rw [Int.toNat_natCast]
  exact q1 m (by omega)
theorem r_partner {d : Nat} {M : q_Mem} {K : Int → q_Mem → Prop} {f : Int} (hd : 6 < d) (hR : z_IV M) (h : ∀ v M', z_IV M' → z_paP (M 179) f v → K v M') : q_kI yX12_partner mX12_partner d [qR 178, qI f] M K := by
  have hE := hR.1
  have h16 := z_fm_16 hE.1 hE.2.2.2.2.2
  refine q_goI hd rfl (plainFor_of_name (by decide +kernel)) rfl (fun h => nomatch h) (Nat.le_of_ble_eq_true rfl) (fun d hd => bX12_partner_0 _ (fun M1 e1 => ?_))
  obtain ⟨R1, o1, f1⟩ := z_IV_0 hR e1
  refine k_laysFaces (by omega) R1.1.1 R1.1.2.2.2.2.2 (fun M6 f6 q6 => ?_)
  have R6 := z_IV_r R1 f6 (by decide) (by decide)
  have o6 : M6 179 = M 179 := (f6.1 179 (by decide) (by decide)).trans o1
  rw [o1] at q6
  refine k_isFace (c := z_fm (M 179)) (by omega) q6.1 h16 (fun g1 g2 => ⟨fun _ => ?_, fun q => absurd q (by decide)⟩) (fun g => ⟨fun q => absurd rfl q, fun _ => h _ M6 R6 (Or.inl ⟨g, rfl⟩)⟩)
  refine R_pairs (Or.inl rfl) (by omega) R6 (fun t0 M' R' o' => ⟨fun _ => ?_, fun q => absurd rfl q⟩) (fun t0 M' p' jn' R' o' w' l' j' jl q' P' => ⟨fun q => absurd q (by decide), fun _ => ⟨by omega, ?_⟩⟩)
  · rw [o6] at t0
    exact h _ M' R' (Or.inr (Or.inl ⟨⟨g1, g2⟩, t0, rfl⟩))
  · rw [o6] at t0 q' P'
    obtain ⟨m, rfl⟩ : ∃ m : Nat, f = (m : Int) := ⟨f.toNat, by omega⟩
    refine h _ M' R' (Or.inr (Or.inr ⟨⟨g1, g2⟩, t0, p', jn', P', ?_⟩))
    rw [Int.toNat_natCast]
    exact q' m (by omega)
theorem tt_partner {d : Nat} {M : q_Mem} {K : Int → Int → q_Mem → Prop} {f : Int} (hd : 60 < d) (hR : z_IV M) (h : ∀ v M', z_IV M' → K v v M') : q_kI yX11_partner mX11_partner d [qR 1, qI f] M (fun v M1 => q_kI yX12_partner mX12_partner d [qR 178, qI f] M1 (fun v2 M2 => K v v2 M2)) :=
  c_partner (by omega) hR (fun v M1 R1 e1 p1 => r_partner (by omega) R1 (fun v2 M' R' p2 => by rw [e1 179 (by decide)] at p2; rw [z_paP_un p1 p2]; exact h _ M' R'))
def z_joP (o : Int → Int) (v : Int) : Prop := (¬ z_tw o = 0 ∧ v = -5) ∨ (z_tw o = 0 ∧ ∃ p' jn', z_PF o 1 p' jn' ∧ v = (jn' : Int))
theorem z_joP_un {o : Int → Int} {v v' : Int} (h : z_joP o v) (h' : z_joP o v') : v = v' := by
  rcases h with ⟨b, c⟩ | ⟨b, p, j, c, e⟩ <;> rcases h' with ⟨b', c'⟩ | ⟨b', p', j', c', e'⟩
  · omega
  · exact absurd b' b
  · exact absurd b b'
  · rw [e, e', (z_PF_un c c').2]
theorem c_join {d : Nat} {M : q_Mem} {K : Int → q_Mem → Prop}  (hd : 23 < d) (hR : z_IV M) (h : ∀ v M', z_IV M' → (∀ a, 178 ≤ a → M' a = M a) → z_joP (M 179) v → K v M') : q_kI yX11_join mX11_join d [qR 1] M K := by
  refine q_goI hd rfl (plainFor_of_name (by decide +kernel)) rfl (fun h => nomatch h) (Nat.le_of_ble_eq_true rfl) (fun d hd => bX11_join_0 (R_flat (by omega) hR (fun M3 fr3 R3 f3 c3 a3 s3 => ?_)))
  have hi3 : ∀ a, 178 ≤ a → M3 a = M a := fun a ha => z_qf_hi f3 ha
  refine ⟨fun t0 => ⟨fun _ => R_need 27 (by omega) z_cl_27 R3 (fun M5 fr5 R5 f5 c5 a5 => ?_), fun q => absurd q (by decide)⟩, fun t0 => ⟨fun q => absurd rfl q, fun _ => h _ M3 R3 hi3 (Or.inl ⟨t0, rfl⟩)⟩⟩
  rw [hi3 179 (by decide)] at a5
  obtain ⟨p', jn', q1, q2, q3, q4⟩ := (z_has (k := 4) a5 (by decide) (by decide) : z_hv (M 179) M5 4)
  exact h _ M5 R5 (fun a ha => (z_qf_hi f5 ha).trans (hi3 a ha)) (Or.inr ⟨t0, p', jn', q4, q2⟩)
theorem r_join {d : Nat} {M : q_Mem} {K : Int → q_Mem → Prop}  (hd : 6 < d) (hR : z_IV M) (h : ∀ v M', z_IV M' → z_joP (M 179) v → K v M') : q_kI yX12_join mX12_join d [qR 178] M K := by
  refine q_goI hd rfl (plainFor_of_name (by decide +kernel)) rfl (fun h => nomatch h) (Nat.le_of_ble_eq_true rfl) (fun d hd => bX12_join_0 (fun M1 e1 => ?_))
  obtain ⟨R1, o1, f1⟩ := z_IV_0 hR e1
  refine R_pairs (Or.inl rfl) (by omega) R1 (fun t0 M' R' o' => ⟨fun _ => ?_, fun q => absurd rfl q⟩) (fun t0 M' p' jn' R' o' w' l' j' jl q' P' => ⟨fun q => absurd q (by decide), fun _ => ?_⟩)
  · rw [o1] at t0
    exact h _ M' R' (Or.inl ⟨t0, rfl⟩)
  · rw [o1] at t0 q' P'
    exact h _ M' R' (Or.inr ⟨t0, p', jn', P', j'⟩)
theorem tt_join {d : Nat} {M : q_Mem} {K : Int → Int → q_Mem → Prop} (hd : 60 < d) (hR : z_IV M) (h : ∀ v M', z_IV M' → K v v M') : q_kI yX11_join mX11_join d [qR 1] M (fun v M1 => q_kI yX12_join mX12_join d [qR 178] M1 (fun v2 M2 => K v v2 M2)) :=
  c_join (by omega) hR (fun v M1 R1 e1 p1 => r_join (by omega) R1 (fun v2 M' R' p2 => by rw [e1 179 (by decide)] at p2; rw [z_joP_un p1 p2]; exact h _ M' R'))
