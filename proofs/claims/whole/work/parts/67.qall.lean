-- questions about all cuts, lots; counts
theorem z_IV_c {S : List Int} {M M' : q_Mem} (h : z_IV M) (f : z_cf S M M') (hS : ∀ a ∈ S, 119 ≤ a ∧ a ≤ 122) : z_IV M' ∧ ∀ a, 178 ≤ a → M' a = M a := by
  have e : ∀ a, ¬ (119 ≤ a ∧ a ≤ 122) → M' a = M a := fun a g => f a (fun q => g (hS a q))
  have q : z_qf M M' := ⟨fun a g1 g2 => e a (fun g => g2 (by unfold z_QP; omega)), fun k _ => by rw [e 1 (by omega)]⟩
  obtain ⟨hc, fr, ca⟩ := h.2.1
  exact ⟨z_IV_q h q (z_cst_qf hc q) (z_ca_eq h.1 ca (by rw [e 1 (by omega)]) (fun k a hk ha => e a (by unfold z_OP at ha; omega))), fun a ha => e a (by omega)⟩
theorem R_table {d : Nat} {M : q_Mem} {K : q_Mem → Prop} (hd : 22 < d) (hR : z_IV M) (h : ∀ M', z_IV M' → (∀ a, 178 ≤ a → M' a = M a) → z_CT (M 179) M' → M' 50 1 = (z_s (M 179) : Int) → M' 117 0 = z_hi (z_V2 (M 179)) (2 ^ z_N (M 179)) → M' 117 1 = z_lo (z_V2 (M 179)) (2 ^ z_N (M 179)) → K M') : q_kU yX11_need mX11_need d [qR 1, qI 6] M K :=
  R_need 6 (by omega) z_cl_6 hR (fun M5 fr5 R5 f5 c5 a5 => by
    have t : z_CT (M 179) M5 := (z_has (k := 2) a5 (by decide) (by decide) : z_hv (M 179) M5 2)
    exact h M5 R5 (fun a ha => z_qf_hi f5 ha) t (z_E_sM hR.1 c5) t.2.2.1 t.2.2.2.1)
theorem R_worths {d : Nat} {M : q_Mem} {K : q_Mem → Prop} (hd : 4 < d) (hR : z_IV M) (h : ∀ M', z_IV M' → M' 179 = M 179 → z_RT (M 179) M' → K M') : q_kU yX12_laysWorths mX12_laysWorths d [qR 178] M K :=
  k_laysWorths (by omega) hR.1 (fun M' f' w' t' => h M' (z_IV_r hR f' (by decide) (by decide)) (f'.1 179 (by decide) (by decide)) t')
theorem c_all {d : Nat} {M : q_Mem} {K : Int → q_Mem → Prop} {w : Int} (hd : 23 < d) (hR : z_IV M) (h : ∀ M', z_IV M' → (∀ a, 178 ≤ a → M' a = M a) → K (if w = 0 then z_hi (z_V2 (M 179)) (2 ^ z_N (M 179)) else if w = 1 then z_lo (z_V2 (M 179)) (2 ^ z_N (M 179)) else -99000002) M') : q_kI yX11_all mX11_all d [qR 1, qI w] M K := by
  have h0 := h M hR (fun _ _ => rfl)
  refine q_goI hd rfl (plainFor_of_name (by decide +kernel)) rfl (fun h => nomatch h) (Nat.le_of_ble_eq_true rfl) (fun d hd => bX11_all_0 _ ⟨fun g => ?_, fun g => ⟨fun g2 => R_table (by omega) hR (fun M3 R3 hi t s t0 t1 => ?_), fun g2 => ?_⟩⟩)
  · rw [if_neg (by omega), if_neg (by omega)] at h0; exact h0
  · have := h M3 R3 hi
    refine ⟨fun w0 => ?_, fun w0 => ?_⟩
    · rw [if_neg w0, if_pos (by omega)] at this
      rw [t1]; exact this
    · rw [if_pos w0] at this
      rw [t0]; exact this
  · rw [if_neg (by omega), if_neg (by omega)] at h0; exact h0
theorem r_all {d : Nat} {M : q_Mem} {K : Int → q_Mem → Prop} {w : Int} (hd : 5 < d) (hR : z_IV M) (h : ∀ M', z_IV M' → K (if w = 0 then z_hi (z_V2 (M 179)) (2 ^ z_N (M 179)) else if w = 1 then z_lo (z_V2 (M 179)) (2 ^ z_N (M 179)) else -99000002) M') : q_kI yX12_all mX12_all d [qR 178, qI w] M K := by
  refine q_goI hd rfl (plainFor_of_name (by decide +kernel)) rfl (fun h => nomatch h) (Nat.le_of_ble_eq_true rfl) (fun d hd => bX12_all_0 _ (fun M1 e1 => ?_))
  obtain ⟨R1, o1, f1⟩ := z_IV_0 hR e1
  refine k_within (by omega) (fun g1 g2 => ⟨fun _ => R_worths (by omega) R1 (fun M4 R4 o4 t4 => ?_), fun q => absurd q (by decide)⟩) (fun g => ⟨fun q => absurd rfl q, fun _ => ?_⟩)
  · have := h M4 R4
    rw [o1] at t4
    refine ⟨fun w0 => ?_, fun w0 => ?_⟩
    · rw [if_neg w0, if_pos (by omega)] at this
      rw [t4.2.2.1]; exact this
    · rw [if_pos w0] at this
      rw [t4.2.1]; exact this
  · have := h M1 R1
    rw [if_neg (by omega), if_neg (by omega)] at this; exact this
theorem tt_all {d : Nat} {M : q_Mem} {K : Int → Int → q_Mem → Prop} {w : Int} (hd : 60 < d) (hR : z_IV M) (h : ∀ v M', z_IV M' → K v v M') : q_kI yX11_all mX11_all d [qR 1, qI w] M (fun v M1 => q_kI yX12_all mX12_all d [qR 178, qI w] M1 (fun v2 M2 => K v v2 M2)) :=
  c_all (by omega) hR (fun M1 R1 e1 => r_all (by omega) R1 (fun M' R' => by rw [e1 179 (by decide)]; exact h _ M' R'))
theorem c_best {d : Nat} {M : q_Mem} {K : Int → q_Mem → Prop}  (hd : 23 < d) (hR : z_IV M) (h : ∀ M', z_IV M' → (∀ a, 178 ≤ a → M' a = M a) → K (z_best (M 179) : Int) M') : q_kI yX11_best mX11_best d [qR 1] M K :=
  q_goI hd rfl (plainFor_of_name (by decide +kernel)) rfl (fun h => nomatch h) (Nat.le_of_ble_eq_true rfl) (fun d hd => bX11_best_0 (R_table (by omega) hR (fun M3 R3 hi t s t0 t1 => k_cbest (by omega) hR.1.1 t (h M3 R3 hi))))
theorem r_best {d : Nat} {M : q_Mem} {K : Int → q_Mem → Prop}  (hd : 5 < d) (hR : z_IV M) (h : ∀ M', z_IV M' → K (z_best (M 179) : Int) M') : q_kI yX12_best mX12_best d [qR 178] M K :=
  q_goI hd rfl (plainFor_of_name (by decide +kernel)) rfl (fun h => nomatch h) (Nat.le_of_ble_eq_true rfl) (fun d hd => bX12_best_0 (fun M1 e1 => by
    obtain ⟨R1, o1, f1⟩ := z_IV_0 hR e1
    exact R_worths (by omega) R1 (fun M4 R4 o4 t4 => by rw [o1] at t4; exact l_best hR.1.1 t4 (h M4 R4) (2 ^ z_N (M 179)) 0 (by omega))))
theorem tt_best {d : Nat} {M : q_Mem} {K : Int → Int → q_Mem → Prop} (hd : 60 < d) (hR : z_IV M) (h : ∀ v M', z_IV M' → K v v M') : q_kI yX11_best mX11_best d [qR 1] M (fun v M1 => q_kI yX12_best mX12_best d [qR 178] M1 (fun v2 M2 => K v v2 M2)) :=
  c_best (by omega) hR (fun M1 R1 e1 => r_best (by omega) R1 (fun M' R' => by rw [e1 179 (by decide)]; exact h _ M' R'))
theorem c_stuck {d : Nat} {M : q_Mem} {K : Int → q_Mem → Prop}  (hd : 23 < d) (hR : z_IV M) (h : ∀ M', z_IV M' → (∀ a, 178 ≤ a → M' a = M a) → K (z_stk (M 179) : Int) M') : q_kI yX11_stuck mX11_stuck d [qR 1] M K :=
  q_goI hd rfl (plainFor_of_name (by decide +kernel)) rfl (fun h => nomatch h) (Nat.le_of_ble_eq_true rfl) (fun d hd => bX11_stuck_0 (R_table (by omega) hR (fun M3 R3 hi t s t0 t1 => k_cstuck (by omega) hR.1.1 t (h M3 R3 hi))))
theorem r_stuck {d : Nat} {M : q_Mem} {K : Int → q_Mem → Prop}  (hd : 5 < d) (hR : z_IV M) (h : ∀ M', z_IV M' → K (z_stk (M 179) : Int) M') : q_kI yX12_stuck mX12_stuck d [qR 178] M K :=
  q_goI hd rfl (plainFor_of_name (by decide +kernel)) rfl (fun h => nomatch h) (Nat.le_of_ble_eq_true rfl) (fun d hd => bX12_stuck_0 (fun M1 e1 => by
    obtain ⟨R1, o1, f1⟩ := z_IV_0 hR e1
    refine R_worths (by omega) R1 (fun M4 R4 o4 t4 => l_stuck (by omega) R4.1.1 (by rw [o4]; exact t4) ?_ (2 ^ z_N (M4 179)) 0 (by omega))
    rw [o4, o1]
    exact h M4 R4))
theorem tt_stuck {d : Nat} {M : q_Mem} {K : Int → Int → q_Mem → Prop} (hd : 60 < d) (hR : z_IV M) (h : ∀ v M', z_IV M' → K v v M') : q_kI yX11_stuck mX11_stuck d [qR 1] M (fun v M1 => q_kI yX12_stuck mX12_stuck d [qR 178] M1 (fun v2 M2 => K v v2 M2)) :=
  c_stuck (by omega) hR (fun M1 R1 e1 => r_stuck (by omega) R1 (fun M' R' => by rw [e1 179 (by decide)]; exact h _ M' R'))
theorem c_steps {d : Nat} {M : q_Mem} {K : Int → q_Mem → Prop}  (hd : 23 < d) (hR : z_IV M) (h : ∀ M', z_IV M' → (∀ a, 178 ≤ a → M' a = M a) → K (z_ff (z_V2 (M 179)) (z_hi (z_V2 (M 179)) (2 ^ z_N (M 179))) (z_s (M 179)) 10 (2 ^ z_N (M 179))) M') : q_kI yX11_steps mX11_steps d [qR 1] M K :=
  q_goI hd rfl (plainFor_of_name (by decide +kernel)) rfl (fun h => nomatch h) (Nat.le_of_ble_eq_true rfl) (fun d hd => bX11_steps_0 (R_table (by omega) hR (fun M3 R3 hi t s t0 t1 => by rw [s]; exact k_csteps (by omega) hR.1.1 t (z_E_s hR.1).2.1 (h M3 R3 hi))))
theorem r_steps {d : Nat} {M : q_Mem} {K : Int → q_Mem → Prop}  (hd : 5 < d) (hR : z_IV M) (h : ∀ M', z_IV M' → K (z_ff (z_V2 (M 179)) (z_hi (z_V2 (M 179)) (2 ^ z_N (M 179))) (z_s (M 179)) 10 (2 ^ z_N (M 179))) M') : q_kI yX12_steps mX12_steps d [qR 178] M K :=
  q_goI hd rfl (plainFor_of_name (by decide +kernel)) rfl (fun h => nomatch h) (Nat.le_of_ble_eq_true rfl) (fun d hd => bX12_steps_0 (fun M1 e1 => by
    obtain ⟨R1, o1, f1⟩ := z_IV_0 hR e1
    refine R_worths (by omega) R1 (fun M4 R4 o4 t4 => l_steps (by omega) R4.1 (by rw [o4]; exact t4) ?_ (2 ^ z_N (M4 179)) 0 (by omega))
    rw [o4, o1]
    exact h M4 R4))
theorem tt_steps {d : Nat} {M : q_Mem} {K : Int → Int → q_Mem → Prop} (hd : 60 < d) (hR : z_IV M) (h : ∀ v M', z_IV M' → K v v M') : q_kI yX11_steps mX11_steps d [qR 1] M (fun v M1 => q_kI yX12_steps mX12_steps d [qR 178] M1 (fun v2 M2 => K v v2 M2)) :=
  c_steps (by omega) hR (fun M1 R1 e1 => r_steps (by omega) R1 (fun M' R' => by rw [e1 179 (by decide)]; exact h _ M' R'))
theorem c_climb {d : Nat} {M : q_Mem} {K : Int → q_Mem → Prop}  (hd : 23 < d) (hR : z_IV M) (h : ∀ M', z_IV M' → (∀ a, 178 ≤ a → M' a = M a) → K (z_climb (M 179)) M') : q_kI yX11_climb mX11_climb d [qR 1] M K :=
  q_goI hd rfl (plainFor_of_name (by decide +kernel)) rfl (fun h => nomatch h) (Nat.le_of_ble_eq_true rfl) (fun d hd => bX11_climb_0 (R_table (by omega) hR (fun M3 R3 hi t s t0 t1 => by rw [s]; exact k_cclimb (by omega) hR.1 t (fun M' f' => h M' (z_IV_c R3 f' (by decide)).1 (fun a ha => ((z_IV_c R3 f' (by decide)).2 a ha).trans (hi a ha))))))
theorem r_climb {d : Nat} {M : q_Mem} {K : Int → q_Mem → Prop}  (hd : 5 < d) (hR : z_IV M) (h : ∀ M', z_IV M' → K (z_climb (M 179)) M') : q_kI yX12_climb mX12_climb d [qR 178] M K :=
  q_goI hd rfl (plainFor_of_name (by decide +kernel)) rfl (fun h => nomatch h) (Nat.le_of_ble_eq_true rfl) (fun d hd => bX12_climb_0 (fun M1 e1 => by
    obtain ⟨R1, o1, f1⟩ := z_IV_0 hR e1
    refine R_worths (by omega) R1 (fun M4 R4 o4 t4 => l_cb11 (M0 := M4) R4.1 (by rw [o4]; exact t4) (fun M' f' => ?_) (2 ^ z_N (M4 179)) 0 M4 (by omega) z_fr_rf (fun s hs => by omega))
    rw [o4, o1]
    exact h M' (z_IV_r R4 f' (by decide) (by decide))))
theorem tt_climb {d : Nat} {M : q_Mem} {K : Int → Int → q_Mem → Prop} (hd : 60 < d) (hR : z_IV M) (h : ∀ v M', z_IV M' → K v v M') : q_kI yX11_climb mX11_climb d [qR 1] M (fun v M1 => q_kI yX12_climb mX12_climb d [qR 178] M1 (fun v2 M2 => K v v2 M2)) :=
  c_climb (by omega) hR (fun M1 R1 e1 => r_climb (by omega) R1 (fun M' R' => by rw [e1 179 (by decide)]; exact h _ M' R'))
theorem c_longest {d : Nat} {M : q_Mem} {K : Int → q_Mem → Prop}  (hd : 23 < d) (hR : z_IV M) (h : ∀ M', z_IV M' → (∀ a, 178 ≤ a → M' a = M a) → K (z_Lg (z_V2 (M 179)) (z_N (M 179)) (z_s (M 179)) : Int) M') : q_kI yX11_longest mX11_longest d [qR 1] M K :=
  q_goI hd rfl (plainFor_of_name (by decide +kernel)) rfl (fun h => nomatch h) (Nat.le_of_ble_eq_true rfl) (fun d hd => bX11_longest_0 (R_table (by omega) hR (fun M3 R3 hi t s t0 t1 => by rw [s]; exact k_clongest (by omega) hR.1.1 t (z_E_s hR.1).2.1 (fun M' f' => h M' (z_IV_c R3 f' (by decide)).1 (fun a ha => ((z_IV_c R3 f' (by decide)).2 a ha).trans (hi a ha))))))
theorem r_longest {d : Nat} {M : q_Mem} {K : Int → q_Mem → Prop}  (hd : 5 < d) (hR : z_IV M) (h : ∀ M', z_IV M' → K (z_Lg (z_V2 (M 179)) (z_N (M 179)) (z_s (M 179)) : Int) M') : q_kI yX12_longest mX12_longest d [qR 178] M K :=
  q_goI hd rfl (plainFor_of_name (by decide +kernel)) rfl (fun h => nomatch h) (Nat.le_of_ble_eq_true rfl) (fun d hd => bX12_longest_0 (fun M1 e1 => by
    obtain ⟨R1, o1, f1⟩ := z_IV_0 hR e1
    refine R_worths (by omega) R1 (fun M4 R4 o4 t4 => l_lg11 (M0 := M4) (by omega) R4.1 (by rw [o4]; exact t4) (fun M' f' => ?_) (2 ^ z_N (M4 179)) 0 M4 (by omega) z_fr_rf (fun s hs => by omega))
    rw [o4, o1]
    exact h M' (z_IV_r R4 f' (by decide) (by decide))))
theorem tt_longest {d : Nat} {M : q_Mem} {K : Int → Int → q_Mem → Prop} (hd : 60 < d) (hR : z_IV M) (h : ∀ v M', z_IV M' → K v v M') : q_kI yX11_longest mX11_longest d [qR 1] M (fun v M1 => q_kI yX12_longest mX12_longest d [qR 178] M1 (fun v2 M2 => K v v2 M2)) :=
  c_longest (by omega) hR (fun M1 R1 e1 => r_longest (by omega) R1 (fun M' R' => by rw [e1 179 (by decide)]; exact h _ M' R'))
/-- lots -/
def z_chanceA (o : Int → Int) (k n w : Int) : Int := if ¬ (0 ≤ w ∧ w ≤ 1) then -2 else if ¬ ((-9999 ≤ k ∧ k ≤ 9999) ∧ 0 ≤ n ∧ n ≤ 4) then -3 else z_frac (z_ch o k n.toNat) n.toNat w
theorem z_ch_bd1 {o : Int → Int} (hE : z_E o) {k : Int} {n : Nat} (hn4 : n ≤ 4) : -20000000 ≤ z_ch o k n ∧ z_ch o k n ≤ 20000000 := by
  have := z_ch_bd hE (k := k) hn4 (Nat.le_refl (2 ^ z_N o))
  unfold z_ch
  omega
theorem z_mn_bd1 {o : Int → Int} (hE : z_E o) {n : Nat} (hn4 : n ≤ 4) : -20000000 ≤ z_mn o n ∧ z_mn o n ≤ 20000000 := by
  have := z_mn_bd hE hn4 (Nat.le_refl (2 ^ z_N o))
  unfold z_mn
  omega
theorem c_chance {d : Nat} {M : q_Mem} {K : Int → q_Mem → Prop} {k n w : Int} (hd : 23 < d) (hR : z_IV M) (h : ∀ M', z_IV M' → (∀ a, 178 ≤ a → M' a = M a) → K (z_chanceA (M 179) k n w) M') : q_kI yX11_chance mX11_chance d [qR 1, qI k, qI n, qI w] M K := by
  have h0 := h M hR (fun _ _ => rfl)
  unfold z_chanceA at h h0
  refine q_goI hd rfl (plainFor_of_name (by decide +kernel)) rfl (fun h => nomatch h) (Nat.le_of_ble_eq_true rfl) (fun d hd => bX11_chance_0 _ _ _ ⟨fun g => ?_, fun g => ⟨fun g2 => ⟨fun g3 => ?_, fun g3 => ⟨fun g4 => ?_, fun g4 => ⟨fun g5 => ?_, fun g5 => ⟨fun g6 => R_table (by omega) hR (fun M3 R3 hi t s t0 t1 => ?_), fun g6 => ?_⟩⟩⟩⟩, fun g2 => ?_⟩⟩)
  · rw [if_pos (by omega)] at h0; exact h0
  · rw [if_neg (by omega), if_pos (by omega)] at h0; exact h0
  · rw [if_neg (by omega), if_pos (by omega)] at h0; exact h0
  · rw [if_neg (by omega), if_pos (by omega)] at h0; exact h0
  · obtain ⟨m, rfl⟩ : ∃ m : Nat, n = (m : Int) := ⟨n.toNat, by omega⟩
    rw [s]
    refine k_drawsWorth (by omega) hR.1 t (by omega) (fun M4 f4 => k_allDraws (by omega) (by omega) (k_lowest2 (by omega) (z_ch_bd1 hR.1 (by omega)) (by omega) ?_))
    have := h M4 (z_IV_c R3 f4 (by decide)).1 (fun a ha => ((z_IV_c R3 f4 (by decide)).2 a ha).trans (hi a ha))
    rw [if_neg (by omega), if_neg (by omega), Int.toNat_natCast] at this
    exact this
  · rw [if_neg (by omega), if_pos (by omega)] at h0; exact h0
  · rw [if_pos (by omega)] at h0; exact h0
theorem r_chance {d : Nat} {M : q_Mem} {K : Int → q_Mem → Prop} {k n w : Int} (hd : 32 < d) (hR : z_IV M) (h : ∀ M', z_IV M' → K (z_chanceA (M 179) k n w) M') : q_kI yX12_chance mX12_chance d [qR 178, qI k, qI n, qI w] M K := by
  unfold z_chanceA at h
  refine q_goI hd rfl (plainFor_of_name (by decide +kernel)) rfl (fun h => nomatch h) (Nat.le_of_ble_eq_true rfl) (fun d hd => bX12_chance_0 _ _ _ (fun M1 e1 => ?_))
  obtain ⟨R1, o1, f1⟩ := z_IV_0 hR e1
  have h1 := h M1 R1
  refine k_within (by omega) (fun g1 g2 => ⟨fun _ => ?_, fun q => absurd q (by decide)⟩) (fun g => ⟨fun q => absurd rfl q, fun _ => ?_⟩)
  · refine k_within (by omega) (fun g3 g4 => ⟨fun q => absurd q (by decide), fun _ => ?_⟩) (fun g => ⟨fun _ => ?_, fun q => absurd rfl q⟩)
    · refine k_within (by omega) (fun g5 g6 => ⟨fun _ => ?_, fun q => absurd q (by decide)⟩) (fun g => ⟨fun q => absurd rfl q, fun _ => ?_⟩)
      · obtain ⟨m, rfl⟩ : ∃ m : Nat, n = (m : Int) := ⟨n.toNat, by omega⟩
        refine k_laysLots (by omega) R1.1 (by omega) (fun M8 f8 t8 q8 => ?_)
        rw [o1] at t8 q8
        have := h M8 (z_IV_r R1 f8 (by decide) (by decide))
        rw [if_neg (by omega), if_neg (by omega), Int.toNat_natCast] at this
        exact l_ch58 (by omega) hR.1 t8 (by omega) q8 this (2 ^ z_N (M 179)) 0 (by omega)
      · rw [if_neg (by omega), if_pos (by omega)] at h1; exact h1
    · rw [if_neg (by omega), if_pos (by omega)] at h1; exact h1
  · rw [if_pos (by omega)] at h1; exact h1
theorem tt_chance {d : Nat} {M : q_Mem} {K : Int → Int → q_Mem → Prop} {k n w : Int} (hd : 60 < d) (hR : z_IV M) (h : ∀ v M', z_IV M' → K v v M') : q_kI yX11_chance mX11_chance d [qR 1, qI k, qI n, qI w] M (fun v M1 => q_kI yX12_chance mX12_chance d [qR 178, qI k, qI n, qI w] M1 (fun v2 M2 => K v v2 M2)) :=
  c_chance (by omega) hR (fun M1 R1 e1 => r_chance (by omega) R1 (fun M' R' => by rw [e1 179 (by decide)]; exact h _ M' R'))
def z_meanA (o : Int → Int) (n w : Int) : Int := if ¬ (0 ≤ w ∧ w ≤ 1) then -99000002 else if ¬ (0 ≤ n ∧ n ≤ 4) then -99000003 else z_frac (z_mn o n.toNat) n.toNat w
theorem c_mean {d : Nat} {M : q_Mem} {K : Int → q_Mem → Prop} {n w : Int} (hd : 23 < d) (hR : z_IV M) (h : ∀ M', z_IV M' → (∀ a, 178 ≤ a → M' a = M a) → K (z_meanA (M 179) n w) M') : q_kI yX11_mean mX11_mean d [qR 1, qI n, qI w] M K := by
  have h0 := h M hR (fun _ _ => rfl)
  unfold z_meanA at h h0
  refine q_goI hd rfl (plainFor_of_name (by decide +kernel)) rfl (fun h => nomatch h) (Nat.le_of_ble_eq_true rfl) (fun d hd => bX11_mean_0 _ _ ⟨fun g => ?_, fun g => ⟨fun g2 => ⟨fun g5 => ?_, fun g5 => ⟨fun g6 => R_table (by omega) hR (fun M3 R3 hi t s t0 t1 => ?_), fun g6 => ?_⟩⟩, fun g2 => ?_⟩⟩)
  · rw [if_pos (by omega)] at h0; exact h0
  · rw [if_neg (by omega), if_pos (by omega)] at h0; exact h0
  · obtain ⟨m, rfl⟩ : ∃ m : Nat, n = (m : Int) := ⟨n.toNat, by omega⟩
    rw [s]
    refine k_worthOfDraws (by omega) hR.1 t (by omega) (fun M4 f4 => k_allDraws (by omega) (by omega) (k_lowest2 (by omega) (z_mn_bd1 hR.1 (by omega)) (by omega) ?_))
    have := h M4 (z_IV_c R3 f4 (by decide)).1 (fun a ha => ((z_IV_c R3 f4 (by decide)).2 a ha).trans (hi a ha))
    rw [if_neg (by omega), if_neg (by omega), Int.toNat_natCast] at this
    exact this
  · rw [if_neg (by omega), if_pos (by omega)] at h0; exact h0
  · rw [if_pos (by omega)] at h0; exact h0
theorem r_mean {d : Nat} {M : q_Mem} {K : Int → q_Mem → Prop} {n w : Int} (hd : 32 < d) (hR : z_IV M) (h : ∀ M', z_IV M' → K (z_meanA (M 179) n w) M') : q_kI yX12_mean mX12_mean d [qR 178, qI n, qI w] M K := by
  unfold z_meanA at h
  refine q_goI hd rfl (plainFor_of_name (by decide +kernel)) rfl (fun h => nomatch h) (Nat.le_of_ble_eq_true rfl) (fun d hd => bX12_mean_0 _ _ (fun M1 e1 => ?_))
  obtain ⟨R1, o1, f1⟩ := z_IV_0 hR e1
  have h1 := h M1 R1
  refine k_within (by omega) (fun g1 g2 => ⟨fun _ => ?_, fun q => absurd q (by decide)⟩) (fun g => ⟨fun q => absurd rfl q, fun _ => ?_⟩)
  · refine k_within (by omega) (fun g5 g6 => ⟨fun _ => ?_, fun q => absurd q (by decide)⟩) (fun g => ⟨fun q => absurd rfl q, fun _ => ?_⟩)
    · obtain ⟨m, rfl⟩ : ∃ m : Nat, n = (m : Int) := ⟨n.toNat, by omega⟩
      refine k_laysLots (by omega) R1.1 (by omega) (fun M8 f8 t8 q8 => ?_)
      rw [o1] at t8 q8
      have := h M8 (z_IV_r R1 f8 (by decide) (by decide))
      rw [if_neg (by omega), if_neg (by omega), Int.toNat_natCast] at this
      exact l_mn45 (by omega) hR.1 t8 (by omega) q8 this (2 ^ z_N (M 179)) 0 (by omega)
    · rw [if_neg (by omega), if_pos (by omega)] at h1; exact h1
  · rw [if_pos (by omega)] at h1; exact h1
theorem tt_mean {d : Nat} {M : q_Mem} {K : Int → Int → q_Mem → Prop} {n w : Int} (hd : 60 < d) (hR : z_IV M) (h : ∀ v M', z_IV M' → K v v M') : q_kI yX11_mean mX11_mean d [qR 1, qI n, qI w] M (fun v M1 => q_kI yX12_mean mX12_mean d [qR 178, qI n, qI w] M1 (fun v2 M2 => K v v2 M2)) :=
  c_mean (by omega) hR (fun M1 R1 e1 => r_mean (by omega) R1 (fun M' R' => by rw [e1 179 (by decide)]; exact h _ M' R'))
/-- count -/
def z_countA (o : Int → Int) (tn w : Int) : Int := if w = 0 then o 51 else if w = 1 then o 52 else if w = 2 then o 1 else if w = 3 then o 2 else if w = 4 then (z_gd (z_wr o) 1 (z_L o) : Int) else if w = 5 then (z_cb o : Int) else if w = 6 then o 102 else if w = 7 then tn else if w = 8 then o 0 else -1
theorem c_count {d : Nat} {M : q_Mem} {K : Int → q_Mem → Prop} {w : Int} (hd : 23 < d) (hR : z_IV M) (h : ∀ M', z_IV M' → (∀ a, 178 ≤ a → M' a = M a) → K (z_countA (M 179) (M 178 7) w) M') : q_kI yX11_count mX11_count d [qR 1, qI w] M K := by
  have h0 := h M hR (fun _ _ => rfl)
  have hc := hR.2.1.1
  unfold z_countA at h h0
  refine q_goI hd rfl (plainFor_of_name (by decide +kernel)) rfl (fun h => nomatch h) (Nat.le_of_ble_eq_true rfl) (fun d hd => bX11_count_0 _ ⟨fun g => ?_, fun g => ?_, fun g => ?_, fun g => ?_, fun g => ?_, fun g => ?_, fun g => ?_, fun g => ?_, fun g => ?_, fun g => ?_⟩)
  · rw [if_neg (by omega), if_neg (by omega), if_neg (by omega), if_neg (by omega), if_neg (by omega), if_neg (by omega), if_neg (by omega), if_neg (by omega), if_neg (by omega)] at h0; exact h0
  · subst g; rw [hc.2.1.2.1]; exact ⟨z_cst_k hc, h0⟩
  · subst g; rw [hc.2.1.2.2.1]; exact ⟨z_cst_k hc, h0⟩
  · subst g; rw [hc.2.2.1]; exact h0
  · subst g; rw [hc.2.2.2.1]; exact h0
  · subst g
    refine R_need 2 (by omega) z_cl_2 hR (fun M3 fr R3 f3 c3 a3 => ?_)
    exact k_cgood (by omega) (Or.inl rfl) hR.1 c3 (z_has (k := 1) a3 (by decide) (by decide) : z_hv (M 179) M3 1) (h M3 R3 (fun a ha => z_qf_hi f3 ha))
  · subst g; exact k_cutBits (by omega) hR.1 hc h0
  · subst g; rw [z_hs_s hR.2.2.2.1]; exact h0
  · subst g; rw [hR.2.2.2.2.2.2.1.1]; exact h0
  · subst g; rw [hc.2.1.2.2.2.1]; exact ⟨z_cst_k hc, h0⟩
theorem l_rcut {d : Nat} {M : q_Mem} {K : Int → q_Mem → Prop} (hd : 1 ≤ d) (hE : z_E (M 179)) (h : K (z_cb (M 179) : Int) M) :
    ∀ (j i : Nat), i + j = z_L (M 179) → q_v mX12_cutNow d (qPI K) M 4 [some (qR 178), some (qI (z_set (fun l => z_cut (M 179) (z_s (M 179)) l) i : Int)), some (qI (i : Int))] [] := by
  have hL := z_net_L16 hE.1
  have hN := z_net_N10 hE.1
  have s := z_E_s hE
  intro j
  induction j with
  | zero =>
    intro i e
    have ei : i = z_L (M 179) := by omega
    subst ei
    refine bX12_cutNow_4 _ _ ?_
    rw [z_net_L hE.1]
    exact ⟨fun _ => h, fun g => absurd (by omega) g⟩
  | succ j ih =>
    intro i e
    have ea := z_net_a hE.1 (l := i) (by omega)
    have eb := z_net_b hE.1 (l := i) (by omega)
    have gl : z_set (fun l => z_cut (M 179) (z_s (M 179)) l) i < 65536 := Nat.lt_of_lt_of_le z_set_lt (by show 2 ^ i ≤ 2 ^ 16; exact Nat.pow_le_pow_right (by decide) (by omega))
    have nx := ih (i + 1) (by omega)
    have ex : z_set (fun l => z_cut (M 179) (z_s (M 179)) l) (i + 1) = z_set (fun l => z_cut (M 179) (z_s (M 179)) l) i ||| (if z_cut (M 179) (z_s (M 179)) i then 2 ^ i else 0) := rfl
    refine bX12_cutNow_4 _ _ ?_
    rw [z_net_L hE.1, q_add_eq (a := 53) (by omega), ea.1, q_add_eq (a := 69) (by omega), s.1, q_or0 (by omega), q_or1 (by omega) (by omega), q_add_eq (by omega), show (i : Int) + 1 = ((i + 1 : Nat) : Int) by omega]
    refine ⟨fun g => absurd g (by omega), fun _ => ⟨by omega, k_isIn (by omega) (by omega) (by omega) ⟨by omega, ?_⟩⟩⟩
    rw [eb.1, s.1]
    refine k_isIn (by omega) (by omega) (by omega) ⟨fun g x e2 => ?_, fun g x e2 => ?_⟩
    · have : z_cut (M 179) (z_s (M 179)) i = false := by
        unfold z_cut
        cases h1 : (z_s (M 179)).testBit (z_a (M 179) i) <;> cases h2 : (z_s (M 179)).testBit (z_b (M 179) i) <;> simp [h1, h2] at g ⊢
      rw [ex, this] at nx
      rw [e2]; simpa using nx
    · have : z_cut (M 179) (z_s (M 179)) i = true := by
        unfold z_cut
        cases h1 : (z_s (M 179)).testBit (z_a (M 179) i) <;> cases h2 : (z_s (M 179)).testBit (z_b (M 179) i) <;> simp [h1, h2] at g ⊢
      rw [ex, this] at nx
      rw [e2]; exact nx
theorem r_count {d : Nat} {M : q_Mem} {K : Int → q_Mem → Prop} {w : Int} (hd : 5 < d) (hR : z_IV M) (h : ∀ M', z_IV M' → K (z_countA (M 179) (M 178 7) w) M') : q_kI yX12_count mX12_count d [qR 178, qI w] M K := by
  unfold z_countA at h
  refine q_goI hd rfl (plainFor_of_name (by decide +kernel)) rfl (fun h => nomatch h) (Nat.le_of_ble_eq_true rfl) (fun d hd => bX12_count_0 _ (fun M1 e1 => ?_))
  obtain ⟨R1, o1, f1⟩ := z_IV_0 hR e1
  refine k_laysWeights (by omega) R1.1.1 R1.1.2.1 R1.1.2.2.1 R1.1.2.2.2.1 (fun M7 f7 w7 => ?_)
  have R7 := z_IV_r R1 f7 (by decide) (by decide)
  have o7 : M7 179 = M 179 := (f7.1 179 (by decide) (by decide)).trans o1
  have t7 : M7 178 7 = M 178 7 := (f7.2 7 (by decide)).trans (f1.2 7 (by decide))
  rw [o1] at w7
  have h0 := h M7 R7
  rw [← o7, ← t7] at h0
  refine ⟨fun g => ?_, fun g => ?_, fun g => ?_, fun g => ?_, fun g => ?_, fun g => ?_, fun g => ?_, fun g => ?_, fun g => ?_, fun g => ?_⟩
  · rw [if_neg (by omega), if_neg (by omega), if_neg (by omega), if_neg (by omega), if_neg (by omega), if_neg (by omega), if_neg (by omega), if_neg (by omega), if_neg (by omega)] at h0; exact h0
  · subst g; exact h0
  · subst g; exact h0
  · subst g; exact h0
  · subst g; exact h0
  · subst g
    refine k_goodLinks (by omega) (Or.inl rfl) R7.1.1 (fun l hl => by rw [o7] at hl; rw [w7 l hl]; exact z_wt_bd) ?_
    rw [z_gd_w (o := M7 179) (by rw [o7]; exact fun l hl => z_wts_wr w7 hl)]
    exact h0
  · subst g
    exact q_goI hd rfl (plainFor_of_name (by decide +kernel)) rfl (fun h => nomatch h) (Nat.le_of_ble_eq_true rfl) (fun d hd => bX12_cutNow_0 (l_rcut (by omega) R7.1 h0 (z_L (M7 179)) 0 (by omega)))
  · subst g; exact h0
  · subst g; exact h0
  · subst g; exact h0
theorem tt_count {d : Nat} {M : q_Mem} {K : Int → Int → q_Mem → Prop} {w : Int} (hd : 60 < d) (hR : z_IV M) (h : ∀ v M', z_IV M' → K v v M') : q_kI yX11_count mX11_count d [qR 1, qI w] M (fun v M1 => q_kI yX12_count mX12_count d [qR 178, qI w] M1 (fun v2 M2 => K v v2 M2)) :=
  c_count (by omega) hR (fun M1 R1 e1 => r_count (by omega) R1 (fun M' R' => by rw [e1 179 (by decide), e1 178 (by decide)]; exact h _ M' R'))
