-- what holds between calls; questions about the net
def z_imr (o : Int → Int) (i : Nat) : Int → Int := fun k => if 0 ≤ k ∧ k < 1504 then o (1504 * ((i : Int) + 1) + k) else 0
/-- images -/
def z_RI (M : q_Mem) (o hI : Int → Int) : Prop := ∀ i : Nat, i < 2 → (M (123 + 19 * (i : Int)) 0 = 0 ∧ hI i = 0) ∨ (M (123 + 19 * (i : Int)) 0 = 1 ∧ hI i = 1 ∧ z_E (z_imr o i) ∧ z_pl M (124 + 19 * (i : Int)) (z_imr o i) ∧ z_sd M (139 + 19 * (i : Int)) (z_imr o i) 1)
/-- trays -/
def z_RY (M : q_Mem) (rs rm nm : Int → Int) : Prop := ∀ t : Nat, t < 4 → (M (161 + 2 * (t : Int)) 0 = -1 ∧ rs t = -1) ∨ ((0 ≤ rs t ∧ rs t ≤ 3) ∧ (0 ≤ rm t ∧ rm t ≤ 40) ∧ M (161 + 2 * (t : Int)) 0 = rm t ∧ M (161 + 2 * (t : Int)) 1 = rs t ∧ ∀ i : Nat, (i : Int) < rm t → M (162 + 2 * (t : Int)) i = nm (40 * (t : Int) + i))
/-- the tape -/
def z_RP (M : q_Mem) (tn : Int) (tp : Int → Int) : Prop := M 1 1 = tn ∧ (0 ≤ tn ∧ tn ≤ 900) ∧ ∀ i : Nat, (i : Int) < tn → q_and (M 2 i) 255 = tp i ∧ 0 ≤ tp i ∧ tp i ≤ 255
def z_K (M S : q_Mem) : Prop := z_E (S 179) ∧ z_RC M (S 179) ∧ M 1 5 = 21 - M 1 4 ∧ z_hs M (S 179) ∧ z_RI M (S 179) (S 180) ∧ z_RY M (S 205) (S 206) (S 207) ∧ z_RP M (S 178 7) (S 181) ∧ (M 1 2 = S 178 15 ∧ M 1 3 = S 178 16)
def z_IV (M : q_Mem) : Prop := z_K M M
theorem z_RI_eq {M M' : q_Mem} {o hI : Int → Int} (h : z_RI M o hI) (e : ∀ a, 123 ≤ a → a ≤ 160 → M' a = M a) : z_RI M' o hI := by
  intro i hi
  rcases h i hi with ⟨a, b⟩ | ⟨a, b, c, d, f⟩
  · exact Or.inl ⟨by rw [e _ (by omega) (by omega)]; exact a, b⟩
  · exact Or.inr ⟨by rw [e _ (by omega) (by omega)]; exact a, b, c, z_pl_eq d (e _ (by omega) (by omega)) (e _ (by omega) (by omega)) (e _ (by omega) (by omega)) (e _ (by omega) (by omega)) (e _ (by omega) (by omega)) (e _ (by omega) (by omega)) (e _ (by omega) (by omega)) (e _ (by omega) (by omega)), z_sd_eq f (e _ (by omega) (by omega)) (e _ (by omega) (by omega)) (e _ (by omega) (by omega))⟩
theorem z_RY_eq {M M' : q_Mem} {rs rm nm : Int → Int} (h : z_RY M rs rm nm) (e : ∀ a, 161 ≤ a → a ≤ 168 → M' a = M a) : z_RY M' rs rm nm := by
  intro t ht
  rw [e _ (by omega) (by omega), e _ (by omega) (by omega)]
  exact h t ht
theorem z_RP_eq {M M' : q_Mem} {tn : Int} {tp : Int → Int} (h : z_RP M tn tp) (e1 : M' 1 1 = M 1 1) (e2 : M' 2 = M 2) : z_RP M' tn tp := by
  unfold z_RP
  rw [e1, e2]
  exact h
/-- the whole of it, moved -/
theorem z_K_mv {M M' S S' : q_Mem} (h : z_K M S) (e1 : ∀ k, k ≠ 18 → M' 1 k = M 1 k) (e : ∀ a, a ≠ 1 → a < 178 → ¬ z_QP a → M' a = M a) (rc : z_RC M' (S' 179)) (s1 : S' 179 = S 179) (s2 : S' 180 = S 180) (s3 : S' 181 = S 181) (s4 : S' 205 = S 205) (s5 : S' 206 = S 206) (s6 : S' 207 = S 207) (s7 : S' 178 7 = S 178 7) (s8 : S' 178 15 = S 178 15) (s9 : S' 178 16 = S 178 16) : z_K M' S' := by
  obtain ⟨h1, h2, h3, h4, h5, h6, h7, h8⟩ := h
  refine ⟨by rw [s1]; exact h1, rc, by rw [e1 5 (by decide), e1 4 (by decide)]; exact h3, ?_, ?_, ?_, ?_, ?_⟩
  · rw [s1]; exact z_hs_eq h4 (fun a g1 g2 => e a (by omega) (by omega) (by unfold z_QP; omega))
  · rw [s1, s2]; exact z_RI_eq h5 (fun a g1 g2 => e a (by omega) (by omega) (by unfold z_QP; omega))
  · rw [s4, s5, s6]; exact z_RY_eq h6 (fun a g1 g2 => e a (by omega) (by omega) (by unfold z_QP; omega))
  · rw [s7, s3]; exact z_RP_eq h7 (e1 1 (by decide)) (e 2 (by decide) (by decide) (by unfold z_QP; omega))
  · rw [s8, s9, e1 2 (by decide), e1 3 (by decide)]; exact h8
theorem z_qf_hi {M M' : q_Mem} (f : z_qf M M') {a : Int} (h : 178 ≤ a) : M' a = M a := f.1 a (by omega) (by unfold z_QP; omega)
/-- behind a question to the class -/
theorem z_IV_q {M M' : q_Mem} {fr : Nat} (h : z_IV M) (f : z_qf M M') (c : z_cst M' (M 179)) (ca : z_ca M' (M 179) fr) : z_IV M' := by
  have e179 := z_qf_hi f (a := 179) (by decide)
  exact z_K_mv h f.2 (fun a g1 g2 g3 => f.1 a g1 g3) ⟨by rw [e179]; exact c, fr, by rw [e179]; exact ca⟩ e179 (z_qf_hi f (by decide)) (z_qf_hi f (by decide)) (z_qf_hi f (by decide)) (z_qf_hi f (by decide)) (z_qf_hi f (by decide)) (by rw [z_qf_hi f (a := 178) (by decide)]) (by rw [z_qf_hi f (a := 178) (by decide)]) (by rw [z_qf_hi f (a := 178) (by decide)])
theorem z_RC_lo {M M' : q_Mem} {o : Int → Int} (h : z_RC M o) (hE : z_E o) (e : ∀ a, a < 178 → M' a = M a) : z_RC M' o := by
  obtain ⟨c, fr, ca⟩ := h
  refine ⟨z_cst_eq c (by rw [e 1 (by decide)]) (fun a ha => e a ?_), fr, z_ca_eq hE ca (by rw [e 1 (by decide)]) (fun k a hk ha => e a (by unfold z_OP at ha; omega))⟩
  have : ∀ b ∈ z_CO, b < 178 := by decide
  exact this a ha
/-- behind a question to the reference -/
theorem z_IV_r {S F : List Int} {M M' : q_Mem} (h : z_IV M) (f : z_fr S F M M') (hS : ∀ a ∈ S, 181 < a ∧ a ≠ 205 ∧ a ≠ 206 ∧ a ≠ 207) (hF : (7 : Int) ∉ F ∧ (15 : Int) ∉ F ∧ (16 : Int) ∉ F) : z_IV M' := by
  have e : ∀ a, a ≠ 178 → (a ≤ 181 ∨ a = 205 ∨ a = 206 ∨ a = 207) → M' a = M a := fun a g1 g2 => f.1 a (fun q => by have := hS a q; omega) g1
  have e179 := e 179 (by decide) (by decide)
  exact z_K_mv h (fun k _ => by rw [e 1 (by decide) (by decide)]) (fun a g1 g2 g3 => e a (by omega) (by omega)) (by rw [e179]; exact z_RC_lo h.2.1 h.1 (fun a g => e a (by omega) (by omega))) e179 (e 180 (by decide) (by decide)) (e 181 (by decide) (by decide)) (e 205 (by decide) (by decide)) (e 206 (by decide) (by decide)) (e 207 (by decide) (by decide)) (f.2 7 hF.1) (f.2 15 hF.2.1) (f.2 16 hF.2.2)
theorem z_IV_0 {M M' : q_Mem} (h : z_IV M) (e : M' = q_up M 178 0 0) : z_IV M' ∧ M' 179 = M 179 ∧ z_fr [] [0] M M' := by
  have f : z_fr [] [0] M M' := by rw [e]; exact z_fr_f (by decide)
  exact ⟨z_IV_r h f (by decide) (by decide), f.1 179 (by decide) (by decide), f⟩
theorem z_or0 {fr : Nat} : fr ||| 0 = fr := Nat.or_zero fr
/-- the class: what is asked for is there -/
theorem z_has {M : q_Mem} {o : Int → Int} {fr t : Nat} (c : z_ca M o (fr ||| t)) {k : Nat} (hk : k < 6) (ht : t.testBit k = true) : z_hv o M k := c.2.2 k hk (by rw [Nat.testBit_or, ht, Bool.or_true])
theorem z_has2 {M : q_Mem} {o : Int → Int} {fr t t2 : Nat} (c : z_ca M o (fr ||| t ||| t2)) {k : Nat} (hk : k < 6) (ht : t.testBit k = true) : z_hv o M k := c.2.2 k hk (by rw [Nat.testBit_or, Nat.testBit_or, ht, Bool.or_true, Bool.true_or])
/-- needShape, need between calls -/
theorem R_shape {d : Nat} {M : q_Mem} {K : q_Mem → Prop} (hd : 3 < d) (hR : z_IV M) (h : ∀ M' fr, z_IV M' → z_qf M M' → z_cst M' (M 179) → z_ca M' (M 179) (fr ||| 1) → z_sh (M 179) M' → K M') : q_kU yX11_needShape mX11_needShape d [qR 1] M K := by
  obtain ⟨hc, fr, ca⟩ := hR.2.1
  exact k_needShape hd hR.1 hc ca (fun M' f' c' a' => h M' fr (z_IV_q hR f' c' a') f' c' a' (z_has (k := 0) a' (by decide) (by decide)))
theorem R_need {d : Nat} {M : q_Mem} {K : q_Mem → Prop} (t : Nat) (hd : 22 < d) (hcl : z_cl6 t) (hR : z_IV M) (h : ∀ M' fr, z_IV M' → z_qf M M' → z_cst M' (M 179) → z_ca M' (M 179) (fr ||| t) → K M') : q_kU yX11_need mX11_need d [qR 1, qI (t : Int)] M K := by
  obtain ⟨hc, fr, ca⟩ := hR.2.1
  exact k_need hd hR.1 hc ca hcl (fun M' f' c' a' => h M' fr (z_IV_q hR f' c' a') f' c' a')
/-- need behind what was there -/
theorem R_need2 {d : Nat} {M : q_Mem} {K : q_Mem → Prop} {fr t0 : Nat} (t : Nat) (hd : 22 < d) (hcl : z_cl6 t) (hR : z_IV M) (ca : z_ca M (M 179) (fr ||| t0)) (h : ∀ M', z_IV M' → z_qf M M' → z_cst M' (M 179) → z_ca M' (M 179) (fr ||| t0 ||| t) → K M') : q_kU yX11_need mX11_need d [qR 1, qI (t : Int)] M K :=
  k_need hd hR.1 hR.2.1.1 ca hcl (fun M' f' c' a' => h M' (z_IV_q hR f' c' a') f' c' a')
theorem z_cl_2 : z_cl6 2 := by unfold z_cl6; decide
theorem z_cl_3 : z_cl6 3 := by unfold z_cl6; decide
theorem z_cl_6 : z_cl6 6 := by unfold z_cl6; decide
theorem z_cl_11 : z_cl6 11 := by unfold z_cl6; decide
theorem z_cl_27 : z_cl6 27 := by unfold z_cl6; decide
theorem z_cl_43 : z_cl6 43 := by unfold z_cl6; decide
/-- fault -/
theorem r_fault {d : Nat} {M : q_Mem} {K : Int → q_Mem → Prop} {w : Int} (hd : 0 < d) (hR : z_IV M) (h : ∀ M', z_IV M' → K (if w = 0 then M 1 2 else if w = 1 then M 1 3 else -1) M') : q_kI yX12_fault mX12_fault d [qR 178, qI w] M K := by
  have e := hR.2.2.2.2.2.2.2
  refine q_goI hd rfl (plainFor_of_name (by decide +kernel)) rfl (fun h => nomatch h) (Nat.le_of_ble_eq_true rfl) (fun d hd => bX12_fault_0 _ (fun M1 e1 => ?_))
  have R1 := (z_IV_0 hR e1).1
  have := h M1 R1
  refine ⟨fun g => ⟨fun g2 => ?_, fun g2 => ?_⟩, fun g => ?_⟩
  · rw [if_neg g, if_neg g2] at this; exact this
  · rw [if_neg g, if_pos g2, e.2] at this
    rw [show M1 178 16 = M 178 16 by rw [e1, q_up_n (by decide)]]; exact this
  · rw [if_pos g, e.1] at this
    rw [show M1 178 15 = M 178 15 by rw [e1, q_up_n (by decide)]]; exact this
theorem c_fault {d : Nat} {M : q_Mem} {K : Int → q_Mem → Prop} {w : Int} (hd : 0 < d) (h : K (if w = 0 then M 1 2 else if w = 1 then M 1 3 else -1) M) : q_kI yX11_fault mX11_fault d [qR 1, qI w] M K :=
  q_goI hd rfl (plainFor_of_name (by decide +kernel)) rfl (fun h => nomatch h) (Nat.le_of_ble_eq_true rfl) (fun d hd => bX11_fault_0 _ ⟨fun g => ⟨fun g2 => by rw [if_neg g, if_neg g2] at h; exact h, fun g2 => by rw [if_neg g, if_pos g2] at h; exact h⟩, fun g => by rw [if_pos g] at h; exact h⟩)
theorem tt_fault {d : Nat} {M : q_Mem} {K : Int → Int → q_Mem → Prop} {w : Int} (hd : 60 < d) (hR : z_IV M) (h : ∀ v M', z_IV M' → K v v M') : q_kI yX11_fault mX11_fault d [qR 1, qI w] M (fun v M1 => q_kI yX12_fault mX12_fault d [qR 178, qI w] M1 (fun v2 M2 => K v v2 M2)) :=
  c_fault (by omega) (r_fault (by omega) hR (fun M' R' => h _ M' R'))
/-- link -/
def z_linkA (o : Int → Int) (l w : Int) : Int := if ¬ (0 ≤ l ∧ l < z_L o) ∨ ¬ (0 ≤ w ∧ w ≤ 3) then -2 else if w = 0 then (z_a o l.toNat : Int) else if w = 1 then (z_b o l.toNat : Int) else z_fo o (2 * l + w - 2).toNat
theorem c_link {d : Nat} {M : q_Mem} {K : Int → q_Mem → Prop} {l w : Int} (hd : 4 < d) (hR : z_IV M) (h : ∀ M', z_IV M' → (∀ a, 178 ≤ a → M' a = M a) → K (z_linkA (M 179) l w) M') : q_kI yX11_link mX11_link d [qR 1, qI l, qI w] M K := by
  have hE := hR.1
  have hc := hR.2.1.1
  have hL := z_net_L16 hE.1
  unfold z_linkA at h
  refine q_goI hd rfl (plainFor_of_name (by decide +kernel)) rfl (fun h => nomatch h) (Nat.le_of_ble_eq_true rfl) (fun d hd => bX11_link_0 _ _ (k_hasLink (by omega) hE.1 hc (fun g1 g2 => ⟨fun g => absurd g (by decide), fun _ => ⟨fun g => ?_, fun g => ⟨fun g3 => ⟨fun g4 => ⟨fun g5 => ?_, fun g5 => ?_⟩, fun g4 => ?_⟩, fun g3 => ?_⟩⟩⟩) (fun g => ⟨fun _ => ?_, fun q => absurd rfl q⟩)))
  · have := h M hR (fun _ _ => rfl)
    rw [if_pos (by omega)] at this; exact this
  · refine R_shape (by omega) hR (fun M3 fr R3 f3 c3 a3 s3 => ?_)
    have ex : q_sub (q_add (q_mul 2 l) w) 2 = (((2 * l + w - 2).toNat : Nat) : Int) := by
      rw [q_mul_eq (by omega), q_add_eq (by omega), q_sub_eq (by omega)]; omega
    rw [ex]
    refine ⟨by omega, ?_⟩
    have := h M3 R3 (fun a ha => z_qf_hi f3 ha)
    rw [if_neg (by omega), if_neg g4, if_neg g5] at this
    rw [s3.2.1.2.1 _ (by omega)]; exact this
  · obtain ⟨m, rfl⟩ : ∃ m : Nat, l = (m : Int) := ⟨l.toNat, by omega⟩
    have := h M hR (fun _ _ => rfl)
    rw [if_neg (by omega), if_neg g4, if_pos g5, Int.toNat_natCast] at this
    rw [(z_cst_ab hc hE.1 (l := m) (by omega)).2]
    exact ⟨z_cst_k hc, by omega, this⟩
  · obtain ⟨m, rfl⟩ : ∃ m : Nat, l = (m : Int) := ⟨l.toNat, by omega⟩
    have := h M hR (fun _ _ => rfl)
    rw [if_neg (by omega), if_pos g4, Int.toNat_natCast] at this
    rw [(z_cst_ab hc hE.1 (l := m) (by omega)).1]
    exact ⟨z_cst_k hc, by omega, this⟩
  · have := h M hR (fun _ _ => rfl)
    rw [if_pos (by omega)] at this; exact this
  · have := h M hR (fun _ _ => rfl)
    rw [if_pos (Or.inl g)] at this; exact this
theorem r_link {d : Nat} {M : q_Mem} {K : Int → q_Mem → Prop} {l w : Int} (hd : 3 < d) (hR : z_IV M) (h : ∀ M', z_IV M' → K (z_linkA (M 179) l w) M') : q_kI yX12_link mX12_link d [qR 178, qI l, qI w] M K := by
  have hE := hR.1
  have hL := z_net_L16 hE.1
  unfold z_linkA at h
  refine q_goI hd rfl (plainFor_of_name (by decide +kernel)) rfl (fun h => nomatch h) (Nat.le_of_ble_eq_true rfl) (fun d hd => bX12_link_0 _ _ (fun M1 e1 => ?_))
  obtain ⟨R1, o1, f1⟩ := z_IV_0 hR e1
  refine k_isLink (by omega) R1.1.1 (fun g1 g2 => ⟨fun g => absurd g (by decide), fun _ => k_within (by omega) (fun g3 g4 => ⟨fun _ => k_laysFaces (by omega) R1.1.1 R1.1.2.2.2.2.2 (fun M6 f6 q6 => ?_), fun g => absurd g (by decide)⟩) (fun g3 => ⟨fun q => absurd rfl q, fun _ => ?_⟩)⟩) (fun g => ⟨fun _ => ?_, fun q => absurd rfl q⟩)
  · have R6 := z_IV_r R1 f6 (by decide) (by decide)
    have o6 : M6 179 = M 179 := (f6.1 179 (by decide) (by decide)).trans o1
    rw [o1] at g2 q6
    have := h M6 R6
    rw [if_neg (by omega)] at this
    rw [o6]
    obtain ⟨m, rfl⟩ : ∃ m : Nat, l = (m : Int) := ⟨l.toNat, by omega⟩
    refine ⟨fun w0 => ⟨fun w1 => ?_, fun w1 => ?_⟩, fun w0 => ?_⟩
    · have ex : q_sub (q_add (q_mul 2 (m : Int)) w) 2 = (((2 * (m : Int) + w - 2).toNat : Nat) : Int) := by
        rw [q_mul_eq (by omega), q_add_eq (by omega), q_sub_eq (by omega)]; omega
      rw [ex]
      refine ⟨by omega, ?_⟩
      rw [if_neg w0, if_neg w1] at this
      rw [q6.2.1 _ (by omega)]; exact this
    · rw [if_neg w0, if_pos w1, Int.toNat_natCast] at this
      rw [q_add_eq (by omega), (z_net_b hE.1 (l := m) (by omega)).1]
      exact ⟨by omega, this⟩
    · rw [if_pos w0, Int.toNat_natCast] at this
      rw [q_add_eq (by omega), (z_net_a hE.1 (l := m) (by omega)).1]
      exact ⟨by omega, this⟩
  · have := h M1 R1
    rw [if_pos (by omega)] at this; exact this
  · rw [o1] at g
    have := h M1 R1
    rw [if_pos (Or.inl g)] at this; exact this
theorem tt_link {d : Nat} {M : q_Mem} {K : Int → Int → q_Mem → Prop} {l w : Int} (hd : 60 < d) (hR : z_IV M) (h : ∀ v M', z_IV M' → K v v M') : q_kI yX11_link mX11_link d [qR 1, qI l, qI w] M (fun v M1 => q_kI yX12_link mX12_link d [qR 178, qI l, qI w] M1 (fun v2 M2 => K v v2 M2)) :=
  c_link (by omega) hR (fun M1 R1 e1 => r_link (by omega) R1 (fun M' R' => by rw [e1 179 (by decide)]; exact h _ M' R'))
