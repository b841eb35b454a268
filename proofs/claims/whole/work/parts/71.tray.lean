-- told deeds: judge, perform
theorem z_l89 : ∀ t : Nat, t < 4 → q_lay 89 t = 161 + 2 * (t : Int) ∧ q_kd (161 + 2 * (t : Int)) = 9 ∧ q_lay (161 + 2 * (t : Int)) 2 = 162 + 2 * (t : Int) := by decide +kernel
theorem z_tl_c {v : Nat → Int} : ∀ {m : Nat} {o : Int → Int} {n : Nat} {s : Prop} {o' : Int → Int} {v' : Nat → Int}, (∀ k, k < m → v k = v' k) → z_tl v m o n s o' → z_tl v' m o n s o' := by
  intro m
  induction m generalizing v with
  | zero => intro o n s o' v' _ a; exact a
  | succ m ih =>
    intro o n s o' v' hv a
    have e0 := hv 0 (by omega)
    rcases a with ⟨a1, a2⟩ | ⟨a1, x, a2, a3⟩
    · exact Or.inl ⟨by rw [← e0]; exact a1, a2⟩
    · refine Or.inr ⟨by rw [← e0]; exact a1, x, a2, ?_⟩
      rw [← e0]
      exact ih (v := fun k => v (k + 1)) (v' := fun k => v' (k + 1)) (fun k hk => hv (k + 1) (by omega)) a3
/-- a tray that is there -/
theorem z_RY_t {M : q_Mem} {rs rm nm : Int → Int} (h : z_RY M rs rm nm) {t : Nat} (ht : t < 4) (g : ¬ rs t = -1) : ∃ m : Nat, rm t = (m : Int) ∧ m ≤ 40 ∧ M (161 + 2 * (t : Int)) 0 = (m : Int) ∧ M (161 + 2 * (t : Int)) 1 = rs t ∧ (0 ≤ rs t ∧ rs t ≤ 3) ∧ ∀ i : Nat, i < m → M (162 + 2 * (t : Int)) i = nm (40 * (t : Int) + i) := by
  rcases h t ht with ⟨a, b⟩ | ⟨a, b, c, d, e⟩
  · exact absurd b g
  · exact ⟨(rm t).toNat, by omega, by omega, by omega, d, a, fun i hi => e i (by omega)⟩
theorem z_RY_n {M : q_Mem} {rs rm nm : Int → Int} (h : z_RY M rs rm nm) {t : Nat} (ht : t < 4) (g : rs t = -1) : M (161 + 2 * (t : Int)) 0 = -1 := by
  rcases h t ht with ⟨a, b⟩ | ⟨a, b, c, d, e⟩
  · exact a
  · omega
theorem z_RY_0 {M : q_Mem} {rs rm nm : Int → Int} (h : z_RY M rs rm nm) {t : Nat} (ht : t < 4) : 0 ≤ M (161 + 2 * (t : Int)) 0 ↔ ¬ rs t = -1 := by
  rcases h t ht with ⟨a, b⟩ | ⟨a, b, c, d, e⟩ <;> omega
def z_jA (w : Int) (n m : Nat) (o : Int → Int) : Int := if w = 0 then (if n < m then (n : Int) else -1) else if w = 1 then (if n < m then 1 else 0) else if w = 2 then z_V2 o (z_s o) + 10000 else z_tw o
theorem k_judged {d : Nat} {M : q_Mem} {K : Int → q_Mem → Prop} {o : Int → Int} {w b : Int} {n m : Nat} (hd : 3 < d) (hE : z_E o) (hc : z_cst M o) (h0 : z_hv o M 0) (h1 : z_hv o M 1) (hb : b = if n < m then 1 else 0) (h : K (z_jA w n m o) M) : q_kI yX11_judged mX11_judged d [qR 1, qI w, qI (n : Int), qI b] M K := by
  have s0 : z_sh o M := h0
  have vb := z_V2_bd (o := o) (s := z_s o) hE.1
  unfold z_jA at h
  refine q_goI hd rfl (plainFor_of_name (by decide +kernel)) rfl (fun h => nomatch h) (Nat.le_of_ble_eq_true rfl) (fun d hd => bX11_judged_0 _ _ _ ⟨fun g => ⟨fun g2 => ⟨fun g3 => ?_, fun g3 => ?_⟩, fun g2 => ⟨fun q => ?_, fun q => ?_⟩⟩, fun g => ⟨fun q => ?_, fun q => ?_⟩⟩)
  · rw [if_neg g, if_neg g2, if_neg g3] at h
    rw [s0.2.2.2.2.2]; exact h
  · rw [if_neg g, if_neg g2, if_pos g3] at h
    refine k_cutBits (by omega) hE hc (k_cworthOf (by omega) (Nat.lt_trans (z_cb_lt hE.1) (by decide)) hE.1 hc h1 ?_)
    rw [z_ws_cb, q_add_eq (by omega)]
    exact h
  · rw [if_neg g, if_pos g2] at h
    by_cases c : n < m
    · rw [if_pos c] at hb; omega
    · rw [if_neg c] at h; exact h
  · rw [if_neg g, if_pos g2] at h
    by_cases c : n < m
    · rw [if_pos c] at h; exact h
    · rw [if_neg c] at hb; omega
  · rw [if_pos g] at h
    by_cases c : n < m
    · rw [if_pos c] at hb; omega
    · rw [if_neg c] at h; exact h
  · rw [if_pos g] at h
    by_cases c : n < m
    · rw [if_pos c] at h; exact h
    · rw [if_neg c] at hb; omega
/-- deeds of a tray done by the class on what stands -/
theorem R_dd {d : Nat} {M : q_Mem} {K : Int → q_Mem → Prop} {t : Nat} (hd : 5 < d) (hR : z_IV M) (ht : t < 4) (hp : ¬ M 205 t = -1) (h : ∀ (M' : q_Mem) (n : Nat) (s : Prop) (o1 : Int → Int), z_dq M M' → (∀ a, 56 ≤ a → a ≤ 87 → M' a = M a) → z_tl (fun k => M 207 (40 * (t : Int) + (k : Int))) (M 206 t).toNat (M 179) n s o1 → z_RC M' o1 → z_sd M' 53 (M 179) 1 → K (n : Int) M') :
    q_kU yX7_takeFrom mX7_takeFrom d [qR 53, qR 50] M (fun M6 => q_kI yX11_doDeeds mX11_doDeeds d [qR 1, qR (161 + 2 * (t : Int))] M6 K) := by
  obtain ⟨m, rm, m40, sz, so, sr, vs⟩ := z_RY_t hR.2.2.2.2.2.1 ht hp
  refine k_stake (by omega) (by decide +kernel) (by decide +kernel) (by decide) (fun M6 f6 s6 => ?_)
  have e6 : ∀ a, ¬ (53 ≤ a ∧ a ≤ 55) → M6 a = M a := fun a g => f6 a (by simp; omega)
  have rc6 := z_RC_kp hR.2.1 hR.1 (fun a g => e6 a (by omega))
  have d6 : z_dq M M6 := ⟨fun a g1 g2 _ _ => e6 a (by omega), fun k _ => by rw [e6 1 (by omega)]⟩
  refine k_doDeeds (m := m) (o := M 179) (by omega) (by omega) (by rw [e6 _ (by omega)]; exact sz) m40 hR.1 rc6 (fun M7 n s o1 f7 tl c7 => ?_)
  refine h M7 n s o1 (z_dq_tr d6 (z_dq_df f7)) (fun a q1 q2 => (f7.1 a (by omega) (by omega)).trans (e6 a (by omega))) ?_ c7 (z_sd_eq (s6 _ _ hR.1.1 hR.2.1.1.2.2) (f7.1 53 (by decide) (by decide)) (f7.1 54 (by decide) (by decide)) (f7.1 55 (by decide) (by decide)))
  rw [rm, Int.toNat_natCast]
  exact z_tl_c (fun k hk => by rw [e6 _ (by omega), show (161 : Int) + 2 * (t : Int) + 1 = 162 + 2 * (t : Int) by omega]; exact vs k hk) tl
theorem c_judge {d : Nat} {M : q_Mem} {K : Int → q_Mem → Prop} {t w : Int} (hd : 25 < d) (hR : z_IV M) (h2 : (¬ (0 ≤ t ∧ t < 4) ∨ ¬ (0 ≤ w ∧ w ≤ 3)) → K (-2) M) (h6 : 0 ≤ t → t < 4 → (0 ≤ w ∧ w ≤ 3) → M 205 t = -1 → K (-6) M) (h1 : 0 ≤ t → t < 4 → (0 ≤ w ∧ w ≤ 3) → ¬ M 205 t = -1 → ∀ (M' : q_Mem) (n : Nat) (s : Prop) (o1 : Int → Int), z_IV M' → (∀ a, 178 ≤ a → M' a = M a) → z_tl (fun k => M 207 (40 * t + (k : Int))) (M 206 t).toNat (M 179) n s o1 → K (z_jA w n (M 206 t).toNat o1) M') : q_kI yX11_judge mX11_judge d [qR 1, qI t, qI w] M K := by
  have hE := hR.1
  have hY := hR.2.2.2.2.2.1
  refine q_goI hd rfl (plainFor_of_name (by decide +kernel)) rfl (fun h => nomatch h) (Nat.le_of_ble_eq_true rfl) (fun d hd => bX11_judge_0 _ _ (k_hasTray (by omega) (fun g1 g2 => ⟨fun q => absurd q (by decide), fun _ => ⟨fun g => h2 (by omega), fun g => ⟨fun g3 => ⟨by omega, fun x3 e3 => ?_⟩, fun g3 => h2 (by omega)⟩⟩⟩) (fun g => ⟨fun _ => h2 (Or.inl g), fun q => absurd rfl q⟩)))
  obtain ⟨m, rfl⟩ : ∃ m : Nat, t = (m : Int) := ⟨t.toNat, by omega⟩
  have l := z_l89 m (by omega)
  rw [Int.toNat_natCast, l.1] at e3
  subst e3
  refine ⟨l.2.1, fun g4 => ?_, fun g4 => h6 g1 g2 (by omega) (Classical.byContradiction (fun q => g4 ((z_RY_0 hY (by omega)).mpr q)))⟩
  have hp := (z_RY_0 hY (t := m) (by omega)).mp g4
  refine R_dd (by omega) hR (by omega) hp (fun M7 n s o1 d7 k7 tl c7 a7 => ?_)
  obtain ⟨E1, ho, nm, ns, sn, n0⟩ := z_tl_ok hE tl
  obtain ⟨mm, rm, m40, sz, so, sr, vs⟩ := z_RY_t hY (t := m) (by omega) hp
  obtain ⟨cc, fr, ca⟩ := c7
  refine k_need (t := 3) (by omega) E1 cc ca z_cl_3 (fun M9 f9 c9 a9 => ?_)
  have s9 : M9 (161 + 2 * (m : Int)) 0 = (mm : Int) := by
    rw [f9.1 _ (by omega) (by unfold z_QP; omega), d7.1 _ (by omega) (by omega) (by omega) (by unfold z_QP; omega)]; exact sz
  rw [s9]
  have tm : (M 206 (m : Int)).toNat = mm := by rw [rm, Int.toNat_natCast]
  rw [tm] at nm ns sn tl h1
  have go : ∀ b : Int, b = (if n < mm then 1 else 0) → q_v mX11_judge d (qPI K) M9 77 [some (qR 1), none, none, none, some (qI (n : Int)), none] [qI b, qI (n : Int), qI w, qR 1] := by
    intro b hb
    refine bX11_judge_77 _ _ _ _ _ (by decide +kernel) (k_judged (m := mm) (by omega) E1 c9 (z_has (k := 0) a9 (by decide) (by decide)) (z_has (k := 1) a9 (by decide) (by decide)) hb ?_)
    refine k_stake (by omega) (by decide +kernel) (by decide +kernel) (by decide) (fun M3 f3 s3 => ?_)
    have e3 : ∀ a, ¬ (50 ≤ a ∧ a ≤ 52) → M3 a = M9 a := fun a g => f3 a (by simp; omega)
    have sd3 : z_sd M3 50 (M 179) 1 := s3 _ _ hE.1 (z_sd_eq a7 (f9.1 53 (by decide) (by unfold z_QP; omega)) (f9.1 54 (by decide) (by unfold z_QP; omega)) (f9.1 55 (by decide) (by unfold z_QP; omega)))
    have d9 : z_dq M M9 := z_dq_tr d7 (z_dq_qf f9)
    have d3 : z_dq M M3 := z_dq_tr d9 ⟨fun a _ g2 _ _ => e3 a (by omega), fun k _ => by rw [e3 1 (by omega)]⟩
    have k3 : ∀ a, 56 ≤ a → a ≤ 87 → M3 a = M a := fun a q1 q2 => (e3 a (by omega)).trans ((f9.1 a (by omega) (by unfold z_QP; omega)).trans (k7 a q1 q2))
    have pl3 : z_pl M3 (M3 1 4) (M 179) := z_cpl_eq c9.1 (e_pl (z_eqn_sy (z_ost_n ho)) E1.1 E1.2.1 c9.2.1) (by rw [e3 1 (by omega)]) (fun a q1 q2 => e3 a (by omega))
    have cs3 : z_cst M3 (M 179) := ⟨by rw [e3 1 (by omega)]; exact c9.1, pl3, sd3⟩
    have iv : ∀ M4, z_dq M M4 → (∀ a, 56 ≤ a → a ≤ 87 → M4 a = M a) → z_RC M4 (M 179) → z_IV M4 ∧ ∀ a, 178 ≤ a → M4 a = M a := fun M4 dq kp rc => by
      have := z_K_new hR dq hE rc (z_hs_eq hR.2.2.2.1 kp) (fun _ _ => rfl)
      rw [z_ro_id] at this
      exact ⟨z_K_IV hR (fun a ha => z_dq_hi dq ha) this, fun a ha => z_dq_hi dq ha⟩
    refine ⟨fun g => ?_, fun g M4 e4 => ?_⟩
    · have on : o1 = M 179 := n0 (by omega)
      rw [on] at a9
      have := iv M3 d3 k3 ⟨cs3, _, z_ca_eq hE a9 (by rw [e3 1 (by omega)]) (fun k a hk ha => e3 a (by unfold z_OP at ha; omega))⟩
      exact h1 g1 g2 (by omega) hp M3 n s o1 this.1 this.2 tl
    · have e4' : ∀ a, a ≠ 1 → M4 a = M3 a := fun a q => by rw [e4, q_up_o q]
      have c4 : ∀ k, k ≠ 18 → M4 1 k = M3 1 k := fun k q => by rw [e4, q_up_n q]
      have := iv M4 (z_dq_tr d3 ⟨fun a q _ _ _ => e4' a q, c4⟩) (fun a q1 q2 => (e4' a (by omega)).trans (k3 a q1 q2)) ⟨z_cst_eq cs3 (c4 4 (by decide)) (fun a ha => e4' a (z_COn ha).1), 0, by rw [e4, q_up_s]; rfl, by decide, fun k hk hb => by simp at hb⟩
      exact h1 g1 g2 (by omega) hp M4 n s o1 this.1 this.2 tl
  exact ⟨fun g => go 0 (by rw [if_neg (by omega)]), fun g => go 1 (by rw [if_pos (by omega)])⟩
theorem l_jt {d : Nat} {M M5 : q_Mem} {K : Int → q_Mem → Prop} {w v8 : Int} {n mm : Nat} (hd : 6 ≤ d) (E5 : z_E (M5 179)) (hv : v8 = if n < mm then (n : Int) else -1) (hk : ∀ k : Nat, k < 50 → M5 193 k = M 179 (1 + k)) (ho : z_ost (M 179) (M5 179)) (h : ∀ M13, z_fr [179, 185, 186, 187, 188, 189, 190, 191] [25, 26] M5 M13 → M13 179 = M 179 → K (z_jA w n mm (M5 179)) M13) :
    q_kI yX12_worthNow mX12_worthNow d [qR 178] M5 (fun v10 M9 => q_kI yX12_twistsNow mX12_twistsNow d [qR 178] M9 (fun v12 M11 => q_kU yX12_isAgain mX12_isAgain d [qR 178] M11 (fun M13 => ((¬ w = 0) → ((¬ w = (1 : Int)) → ((¬ w = (2 : Int)) → K v12 M13) ∧ ((w = (2 : Int)) → K (q_add v10 10000) M13)) ∧ ((w = (1 : Int)) → ((¬ v8 = ((-1) : Int)) → K 1 M13) ∧ ((v8 = ((-1) : Int)) → K 0 M13))) ∧ ((w = 0) → K v8 M13)))) := by
  have vb := z_V2_bd (o := M5 179) (s := z_s (M5 179)) E5.1
  refine k_worthNow (by omega) E5 (fun M9 f9 => ?_)
  have o9 : M9 179 = M5 179 := f9.1 179 (by decide) (by decide)
  refine k_twistsNow (by omega) (by rw [o9]; exact E5.1) (by rw [o9]; exact E5.2.2.2.2.2) (fun M11 f11 _ _ _ => ?_)
  have o11 : M11 179 = M5 179 := (f11.1 179 (by decide) (by decide)).trans o9
  refine k_isAgain (by omega) (fun M13 f13 e13 => ?_)
  have e : M13 179 = M 179 := by
    rw [e13, o11, f11.1 193 (by decide) (by decide), f9.1 193 (by decide) (by decide)]
    funext j
    unfold z_agi
    by_cases c : 1 ≤ j ∧ j < 1 + 50
    · rw [if_pos c]
      have := hk (j - 1).toNat (by omega)
      rw [show (((j - 1).toNat : Nat) : Int) = j - 1 by omega] at this
      rw [this]
      congr 1 <;> omega
    · rw [if_neg c]; exact ho j (by omega)
  have hh := h M13 (z_fr_tr (z_fr_tr (z_fr_mono f9 (by decide) (by decide)) (z_fr_mono f11 (by decide) (by decide))) (z_fr_mono f13 (by decide) (by decide))) e
  rw [o9, q_add_eq (by omega)]
  unfold z_jA at hh
  refine ⟨fun w0 => ⟨fun w1 => ⟨fun w2 => ?_, fun w2 => ?_⟩, fun w1 => ⟨fun q => ?_, fun q => ?_⟩⟩, fun w0 => ?_⟩
  · rw [if_neg w0, if_neg w1, if_neg w2] at hh; exact hh
  · rw [if_neg w0, if_neg w1, if_pos w2] at hh; exact hh
  · rw [if_neg w0, if_pos w1] at hh
    by_cases c : n < mm
    · rw [if_pos c] at hh; exact hh
    · rw [if_neg c] at hv; exact absurd hv q
  · rw [if_neg w0, if_pos w1] at hh
    by_cases c : n < mm
    · rw [if_pos c] at hv; omega
    · rw [if_neg c] at hh; exact hh
  · rw [if_pos w0] at hh
    rw [hv]; exact hh
theorem r_judge {d : Nat} {M : q_Mem} {K : Int → q_Mem → Prop} {t w : Int} (hd : 7 < d) (hR : z_IV M) (h2 : (¬ (0 ≤ t ∧ t < 4) ∨ ¬ (0 ≤ w ∧ w ≤ 3)) → ∀ M', z_IV M' → K (-2) M') (h6 : 0 ≤ t → t < 4 → (0 ≤ w ∧ w ≤ 3) → M 205 t = -1 → ∀ M', z_IV M' → K (-6) M') (h1 : 0 ≤ t → t < 4 → (0 ≤ w ∧ w ≤ 3) → ¬ M 205 t = -1 → ∀ (M' : q_Mem) (n : Nat) (s : Prop) (o1 : Int → Int), z_IV M' → z_tl (fun k => M 207 (40 * t + (k : Int))) (M 206 t).toNat (M 179) n s o1 → K (z_jA w n (M 206 t).toNat o1) M') : q_kI yX12_judge mX12_judge d [qR 178, qI t, qI w] M K := by
  have hE := hR.1
  have hY := hR.2.2.2.2.2.1
  refine q_goI hd rfl (plainFor_of_name (by decide +kernel)) rfl (fun h => nomatch h) (Nat.le_of_ble_eq_true rfl) (fun d hd => bX12_judge_0 _ _ (fun M1 e1 => ?_))
  obtain ⟨R1, o1, f1⟩ := z_IV_0 hR e1
  have e205 : M1 205 = M 205 := f1.1 205 (by decide) (by decide)
  refine k_within (by omega) (fun w1 w2 => ⟨fun _ => k_noTray (by omega) (fun g => ⟨fun q => absurd q (by decide), fun _ => h2 (Or.inl g) M1 R1⟩) (fun g1 g2 g => ⟨fun q => absurd q (by decide), fun _ => h6 g1 g2 ⟨w1, w2⟩ (by rw [← e205]; exact g) M1 R1⟩) (fun g1 g2 g => ⟨fun _ => ?_, fun q => absurd rfl q⟩), fun q => absurd q (by decide)⟩) (fun g => ⟨fun q => absurd rfl q, fun _ => h2 (Or.inr g) M1 R1⟩)
  rw [e205] at g
  obtain ⟨m, rfl⟩ : ∃ m : Nat, t = (m : Int) := ⟨t.toNat, by omega⟩
  obtain ⟨mm, rm, m40, sz, so, sr, vs⟩ := z_RY_t hY (t := m) (by omega) g
  refine k_stores (by omega) (fun M4 f4 w4 => ?_)
  have o4 : M4 179 = M 179 := (f4.1 179 (by decide) (by decide)).trans o1
  have e206 : M4 206 = M 206 := (f4.1 206 (by decide) (by decide)).trans (f1.1 206 (by decide) (by decide))
  have e207 : M4 207 = M 207 := (f4.1 207 (by decide) (by decide)).trans (f1.1 207 (by decide) (by decide))
  refine k_tells (m := mm) (by omega) (by rw [o4]; exact hE) (by omega) (by rw [e206]; exact rm) m40 (fun M5 n s f5 tl => ?_)
  rw [o4, e207] at tl
  obtain ⟨E5, ho, nm, ns, sn, n0⟩ := z_tl_ok hE tl
  have tm : (M 206 (m : Int)).toNat = mm := by rw [rm, Int.toNat_natCast]
  rw [tm] at h1
  have fr5 : z_fr [179, 185, 186, 187, 188, 189, 190, 191, 193] [0, 25, 26] M M5 := z_fr_tr (z_fr_tr (z_fr_mono f1 (by decide) (by decide)) (z_fr_mono f4 (by decide) (by decide))) (z_fr_mono f5 (by decide) (by decide))
  have k5 : ∀ k : Nat, k < 50 → M5 193 k = M 179 (1 + k) := fun k hk => by rw [f5.1 193 (by decide) (by decide), w4 k hk, o1]
  have fin : ∀ M13, z_fr [179, 185, 186, 187, 188, 189, 190, 191] [25, 26] M5 M13 → M13 179 = M 179 → K (z_jA w n mm (M5 179)) M13 := fun M13 f13 e13 => h1 g1 g2 ⟨w1, w2⟩ g M13 n s (M5 179) (z_IV_d (o' := M 179) (M := M) (M1 := M) (by rw [z_ro_id]; exact hR) (fun _ _ => rfl) (z_fr_tr fr5 (z_fr_mono f13 (by decide) (by decide))) (by decide) (by decide) e13) tl
  exact ⟨fun q => l_jt (by omega) E5 (by rw [if_pos (sn q)]) k5 ho fin, fun q => l_jt (by omega) E5 (by rw [if_neg (by have := ns q; omega)]) k5 ho fin⟩
theorem tt_judge {d : Nat} {M : q_Mem} {K : Int → Int → q_Mem → Prop} {t w : Int} (hd : 60 < d) (hR : z_IV M) (h : ∀ v M', z_IV M' → K v v M') : q_kI yX11_judge mX11_judge d [qR 1, qI t, qI w] M (fun v M1 => q_kI yX12_judge mX12_judge d [qR 178, qI t, qI w] M1 (fun v2 M2 => K v v2 M2)) :=
  c_judge (by omega) hR (fun g => r_judge (by omega) hR (fun _ M' R' => h _ M' R') (fun q1 q2 q3 => absurd g (by omega)) (fun q1 q2 q3 => absurd g (by omega))) (fun g1 g2 g3 g4 => r_judge (by omega) hR (fun q => absurd q (by omega)) (fun _ _ _ _ M' R' => h _ M' R') (fun _ _ _ q => absurd g4 q)) (fun g1 g2 g3 g4 M1 n s o1 R1 hi tl => r_judge (by omega) R1 (fun q => absurd q (by omega)) (fun _ _ _ q => by rw [hi 205 (by decide)] at q; exact absurd q g4) (fun _ _ _ _ M' n2 s2 o2 R' tl2 => by
    rw [hi 206 (by decide), hi 207 (by decide), hi 179 (by decide)] at tl2
    rw [hi 206 (by decide)]
    have u := z_tl_un (fun _ _ => rfl) tl tl2
    rw [← u.1, ← u.2.2]
    exact h _ M' R'))
/-- perform -/
def z_pfo (o o1 : Int → Int) (n : Nat) : Int → Int := if n = 0 then o else z_note o1 (fun k => o (1 + k))
theorem c_perform {d : Nat} {M : q_Mem} {K : Int → q_Mem → Prop} {t : Int} (hd : 7 < d) (hR : z_IV M) (h2 : ¬ (0 ≤ t ∧ t < 4) → K (-2) M) (h6 : 0 ≤ t → t < 4 → M 205 t = -1 → K (-6) M) (h1 : 0 ≤ t → t < 4 → ¬ M 205 t = -1 → ∀ (M' : q_Mem) (n : Nat) (s : Prop) (o1 : Int → Int), (∀ a, 178 ≤ a → M' a = M a) → z_tl (fun k => M 207 (40 * t + (k : Int))) (M 206 t).toNat (M 179) n s o1 → z_K M' (z_ro M (z_pfo (M 179) o1 n)) → K (n : Int) M') : q_kI yX11_perform mX11_perform d [qR 1, qI t] M K := by
  have hE := hR.1
  have hY := hR.2.2.2.2.2.1
  refine q_goI hd rfl (plainFor_of_name (by decide +kernel)) rfl (fun h => nomatch h) (Nat.le_of_ble_eq_true rfl) (fun d hd => bX11_perform_0 _ (k_hasTray (by omega) (fun g1 g2 => ⟨fun _ => ⟨by omega, ?_⟩, fun q => absurd q (by decide)⟩) (fun g => ⟨fun q => absurd rfl q, fun _ => h2 g⟩)))
  obtain ⟨m, rfl⟩ : ∃ m : Nat, t = (m : Int) := ⟨t.toNat, by omega⟩
  have l := z_l89 m (by omega)
  rw [Int.toNat_natCast, l.1]
  refine ⟨l.2.1, fun g4 => ?_, fun g4 => h6 g1 g2 (Classical.byContradiction (fun q => g4 ((z_RY_0 hY (by omega)).mpr q)))⟩
  have hp := (z_RY_0 hY (t := m) (by omega)).mp g4
  have key := R_dd (K := fun v8 M7 => ((v8 ≤ 0) → K v8 M7) ∧ ((¬ (v8 ≤ 0)) → q_kU yX0_keep mX0_keep d [qR 56, qR 53] M7 (fun M9 => K v8 M9))) (d := d) (t := m) (by omega) hR (by omega) hp (fun M7 n s o1 d7 k7 tl c7 a7 => ?_)
  · obtain ⟨D, P, q1, q2, q3⟩ := key
    exact ⟨D, P, q1, q2, fun M' p' => ⟨by omega, q3 M' p'⟩⟩
  · obtain ⟨E1, ho, nm, ns, sn, n0⟩ := z_tl_ok hE tl
    have hs7 := z_hs_eq hR.2.2.2.1 k7
    refine ⟨fun g => ?_, fun g => k_keep (by omega) (Or.inr rfl) hE hs7 a7 (fun M9 f9 s9 => ?_)⟩
    · have on : o1 = M 179 := n0 (by omega)
      rw [on] at c7
      refine h1 g1 g2 hp M7 n s o1 (fun a ha => z_dq_hi d7 ha) tl ?_
      unfold z_pfo
      rw [if_pos (by omega)]
      exact z_K_new hR d7 hE c7 hs7 (fun _ _ => rfl)
    · have d9 : z_dq M M9 := z_dq_tr d7 (z_dq_kp f9)
      refine h1 g1 g2 hp M9 n s o1 (fun a ha => z_dq_hi d9 ha) tl ?_
      unfold z_pfo
      rw [if_neg (by omega)]
      exact z_K_note hR d9 ho E1 (z_RC_kp c7 E1 (fun a q => f9 a (by omega))) (s9 _ ho) (fun _ _ _ => rfl)
theorem r_perform {d : Nat} {M : q_Mem} {K : Int → q_Mem → Prop} {t : Int} (hd : 5 < d) (hE : z_E (M 179)) (hb : 0 ≤ M 179 102 ∧ M 179 102 ≤ 10) (hm : 0 ≤ t → t < 4 → ¬ M 205 t = -1 → 0 ≤ M 206 t ∧ M 206 t ≤ 40) (h2 : ¬ (0 ≤ t ∧ t < 4) → ∀ M', z_fr [] [0] M M' → K (-2) M') (h6 : 0 ≤ t → t < 4 → M 205 t = -1 → ∀ M', z_fr [] [0] M M' → K (-6) M') (h1 : 0 ≤ t → t < 4 → ¬ M 205 t = -1 → ∀ (M' : q_Mem) (n : Nat) (s : Prop) (o1 : Int → Int), z_fr [179, 193] [0] M M' → z_tl (fun k => M 207 (40 * t + (k : Int))) (M 206 t).toNat (M 179) n s o1 → M' 179 = z_pfo (M 179) o1 n → K (n : Int) M') : q_kI yX12_perform mX12_perform d [qR 178, qI t] M K := by
  refine q_goI hd rfl (plainFor_of_name (by decide +kernel)) rfl (fun h => nomatch h) (Nat.le_of_ble_eq_true rfl) (fun d hd => bX12_perform_0 _ (fun M1 e1 => ?_))
  have f1 : z_fr [] [0] M M1 := by rw [e1]; exact z_fr_f (by decide)
  have o1 : M1 179 = M 179 := f1.1 179 (by decide) (by decide)
  have e205 : M1 205 = M 205 := f1.1 205 (by decide) (by decide)
  refine k_noTray (by omega) (fun g => ⟨fun q => absurd q (by decide), fun _ => h2 g M1 f1⟩) (fun g1 g2 g => ⟨fun q => absurd q (by decide), fun _ => h6 g1 g2 (by rw [← e205]; exact g) M1 f1⟩) (fun g1 g2 g => ⟨fun _ => ?_, fun q => absurd rfl q⟩)
  rw [e205] at g
  have hm := hm g1 g2 g
  obtain ⟨m, rfl⟩ : ∃ m : Nat, t = (m : Int) := ⟨t.toNat, by omega⟩
  obtain ⟨mm, rm⟩ : ∃ mm : Nat, M 206 (m : Int) = (mm : Int) := ⟨(M 206 (m : Int)).toNat, by omega⟩
  have tm : (M 206 (m : Int)).toNat = mm := by rw [rm, Int.toNat_natCast]
  rw [tm] at h1
  refine k_stores (by omega) (fun M4 f4 w4 => ?_)
  have o4 : M4 179 = M 179 := (f4.1 179 (by decide) (by decide)).trans o1
  have e206 : M4 206 = M 206 := (f4.1 206 (by decide) (by decide)).trans (f1.1 206 (by decide) (by decide))
  have e207 : M4 207 = M 207 := (f4.1 207 (by decide) (by decide)).trans (f1.1 207 (by decide) (by decide))
  refine k_tells (m := mm) (by omega) (by rw [o4]; exact hE) (by omega) (by rw [e206]; exact rm) (by omega) (fun M5 n s f5 tl => ?_)
  rw [o4, e207] at tl
  obtain ⟨E5, ho, nm, ns, sn, n0⟩ := z_tl_ok hE tl
  have fr5 : z_fr [179, 193] [0] M M5 := z_fr_tr (z_fr_tr (z_fr_mono f1 (by decide) (by decide)) (z_fr_mono f4 (by decide) (by decide))) (z_fr_mono f5 (by decide) (by decide))
  have k5 : ∀ k : Nat, k < 50 → M5 193 k = M 179 (1 + k) := fun k hk => by rw [f5.1 193 (by decide) (by decide), w4 k hk, o1]
  have go : q_v mX12_perform d (qPI K) M5 39 [some (qR 178), none, none, some (qI (n : Int))] [] := by
    refine bX12_perform_39 _ ⟨fun q => ?_, fun q => k_notes (by omega) (by rw [ho 102 (by omega)]; exact hb) (fun M6 f6 e6 => ?_)⟩
    · refine h1 g1 g2 g M5 n s (M5 179) fr5 tl ?_
      unfold z_pfo
      rw [if_pos (by omega)]
      exact n0 (by omega)
    · refine h1 g1 g2 g M6 n s (M5 179) (z_fr_tr fr5 (z_fr_mono f6 (by decide) (by decide))) tl ?_
      unfold z_pfo
      rw [if_neg (by omega), e6]
      exact z_note_c k5
  refine ⟨fun q => ⟨fun _ => go, fun q2 => absurd q2 (by omega)⟩, fun q => ⟨fun q2 => absurd rfl q2, fun _ => ⟨by omega, fun x3 e3 => ?_⟩⟩⟩
  rw [e3, f5.1 206 (by decide) (by decide), e206, rm, ← ns q]
  exact go
theorem z_hiM {M M1 : q_Mem} (hR : z_IV M) (hi : ∀ a, 178 ≤ a → M1 a = M a) {t : Int} (g1 : 0 ≤ t) (g2 : t < 4) (g : ¬ M1 205 t = -1) : 0 ≤ M1 206 t ∧ M1 206 t ≤ 40 := by
  rw [hi 205 (by decide)] at g
  rw [hi 206 (by decide)]
  obtain ⟨m, rfl⟩ : ∃ m : Nat, t = (m : Int) := ⟨t.toNat, by omega⟩
  obtain ⟨mm, rm, m40, _⟩ := z_RY_t hR.2.2.2.2.2.1 (t := m) (by omega) g
  omega
theorem tt_perform {d : Nat} {M : q_Mem} {K : Int → Int → q_Mem → Prop} {t : Int} (hd : 60 < d) (hR : z_IV M) (h : ∀ v M', z_IV M' → K v v M') : q_kI yX11_perform mX11_perform d [qR 1, qI t] M (fun v M1 => q_kI yX12_perform mX12_perform d [qR 178, qI t] M1 (fun v2 M2 => K v v2 M2)) :=
  c_perform (by omega) hR (fun g => r_perform (by omega) hR.1 (z_hs_n hR.2.2.2.1) (z_hiM hR (fun _ _ => rfl)) (fun _ M' f' => h _ M' (z_IV_r hR f' (by decide) (by decide))) (fun q1 q2 => absurd ⟨q1, q2⟩ g) (fun q1 q2 => absurd ⟨q1, q2⟩ g)) (fun g1 g2 g4 => r_perform (by omega) hR.1 (z_hs_n hR.2.2.2.1) (z_hiM hR (fun _ _ => rfl)) (fun q => absurd ⟨g1, g2⟩ q) (fun _ _ _ M' f' => h _ M' (z_IV_r hR f' (by decide) (by decide))) (fun _ _ q => absurd g4 q)) (fun g1 g2 g4 M1 n s o1 hi tl k1 => r_perform (by omega) (z_hiE hR hi).1 (z_hiE hR hi).2 (z_hiM hR hi) (fun q => absurd ⟨g1, g2⟩ q) (fun _ _ q => by rw [hi 205 (by decide)] at q; exact absurd q g4) (fun _ _ _ M' n2 s2 o2 f2 tl2 e2 => by
    rw [hi 206 (by decide), hi 207 (by decide), hi 179 (by decide)] at tl2
    rw [hi 179 (by decide)] at e2
    have u := z_tl_un (fun _ _ => rfl) tl tl2
    rw [← u.1, ← u.2.2] at e2
    rw [← u.1]
    exact h _ M' (z_IV_d k1 hi f2 (by decide) (by decide) e2)))
