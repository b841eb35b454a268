-- what the class works out and keeps: need, needShape
def z_pk (x sg : Int) (o : Int → Int) (M : q_Mem) : Prop := ∃ (p' : Nat → Int) (jn' : Nat), (∀ f : Nat, f < 16 → M (x + 1) f = p' f) ∧ M x 0 = (jn' : Int) ∧ jn' < 65536 ∧ z_PF o sg p' jn'
def z_hv (o : Int → Int) (M : q_Mem) (k : Nat) : Prop := match k with
  | 0 => z_sh o M
  | 1 => ∀ l : Nat, l < z_L o → M 90 l = z_wr o l
  | 2 => z_CT o M
  | 3 => ∃ w : Int → Int, (∀ l : Nat, l < z_L o → w l = z_wr o l) ∧ z_wv w (z_fo o) (z_L o) (z_fm o) M
  | 4 => z_pk 170 1 o M
  | _ => z_pk 174 (-1) o M
/-- where each lies -/
def z_OP (k : Nat) (a : Int) : Prop := (k = 0 ∧ 91 ≤ a ∧ a ≤ 97) ∨ (k = 1 ∧ a = 90) ∨ (k = 2 ∧ (a = 117 ∨ a = 118)) ∨ (k = 3 ∧ (a = 98 ∨ (100 ≤ a ∧ a ≤ 116))) ∨ (k = 4 ∧ (a = 170 ∨ a = 171)) ∨ (5 ≤ k ∧ (a = 174 ∨ a = 175))
/-- what is written as it is worked out -/
def z_SP (k : Nat) (a : Int) : Prop := (k = 0 ∧ 91 ≤ a ∧ a ≤ 97) ∨ (k = 1 ∧ (a = 12 ∨ a = 13 ∨ a = 16 ∨ a = 17 ∨ a = 27 ∨ a = 28 ∨ a = 31 ∨ a = 32 ∨ a = 90)) ∨ (k = 2 ∧ (a = 117 ∨ a = 118)) ∨ (k = 3 ∧ (a = 98 ∨ (100 ≤ a ∧ a ≤ 116))) ∨ (k = 4 ∧ (a = 170 ∨ a = 171 ∨ a = 173 ∨ a = 169)) ∨ (5 ≤ k ∧ (a = 174 ∨ a = 175 ∨ a = 177 ∨ a = 169))
def z_QP (a : Int) : Prop := a = 12 ∨ a = 13 ∨ a = 16 ∨ a = 17 ∨ a = 27 ∨ a = 28 ∨ a = 31 ∨ a = 32 ∨ (90 ≤ a ∧ a ≤ 122) ∨ (169 ≤ a ∧ a ≤ 177)
/-- what a question leaves as it was -/
def z_qf (M M' : q_Mem) : Prop := (∀ a, a ≠ 1 → ¬ z_QP a → M' a = M a) ∧ ∀ k, k ≠ 18 → M' 1 k = M 1 k
theorem z_qf_rf {M : q_Mem} : z_qf M M := ⟨fun _ _ _ => rfl, fun _ _ => rfl⟩
theorem z_qf_tr {M M' M'' : q_Mem} (h : z_qf M M') (h2 : z_qf M' M'') : z_qf M M'' := ⟨fun a g1 g2 => (h2.1 a g1 g2).trans (h.1 a g1 g2), fun k g => (h2.2 k g).trans (h.2 k g)⟩
theorem z_SQ {k : Nat} {a : Int} (h : z_SP k a) : z_QP a ∧ a ≠ 1 := by
  unfold z_SP at h
  unfold z_QP
  omega
theorem z_OS {j k : Nat} {a : Int} (hj : j < 6) (hk : k < 6) (e : j ≠ k) (h : z_OP j a) : ¬ z_SP k a := by
  unfold z_OP at h
  unfold z_SP
  omega
theorem z_COn {a : Int} (h : a ∈ z_CO) : a ≠ 1 ∧ ¬ z_QP a := by
  have : ∀ b ∈ z_CO, (b ≠ 1) ∧ b ≠ 12 ∧ b ≠ 13 ∧ b ≠ 16 ∧ b ≠ 17 ∧ b ≠ 27 ∧ b ≠ 28 ∧ b ≠ 31 ∧ b ≠ 32 ∧ b < 90 := by decide
  have := this a h
  unfold z_QP
  omega
theorem z_cst_qf {M M' : q_Mem} {o : Int → Int} (h : z_cst M o) (f : z_qf M M') : z_cst M' o := z_cst_eq h (f.2 4 (by decide)) (fun a ha => f.1 a (z_COn ha).1 (z_COn ha).2)
theorem z_hv_eq {o : Int → Int} (hE : z_E o) {M M' : q_Mem} {k : Nat} (e : ∀ a, z_OP k a → M' a = M a) (h : z_hv o M k) : z_hv o M' k := by
  unfold z_hv at *
  refine match k, e, h with
  | 0, e, h => ?_
  | 1, e, h => ?_
  | 2, e, h => ?_
  | 3, e, h => ?_
  | 4, e, h => ?_
  | k + 5, e, h => ?_
  · have e91 := e 91 (by unfold z_OP; omega)
    have e92 := e 92 (by unfold z_OP; omega)
    have e93 := e 93 (by unfold z_OP; omega)
    have e94 := e 94 (by unfold z_OP; omega)
    have e95 := e 95 (by unfold z_OP; omega)
    have e96 := e 96 (by unfold z_OP; omega)
    have e97 := e 97 (by unfold z_OP; omega)
    unfold z_sh at *
    rw [e91, e92, e93, e94, e95, e96, e97]
    exact h
  · rw [e 90 (by unfold z_OP; omega)]; exact h
  · unfold z_CT at *
    rw [e 117 (by unfold z_OP; omega), e 118 (by unfold z_OP; omega)]
    exact h
  · obtain ⟨w, h1, h2, h3, h4⟩ := h
    have h16 := z_fm_16 hE.1 hE.2.2.2.2.2
    refine ⟨w, h1, z_ct_o h2 (fun f hf => e _ (by unfold z_OP; omega)), ?_, ?_⟩
    · rw [e 116 (by unfold z_OP; omega)]; exact h3
    · rw [e 98 (by unfold z_OP; omega)]; exact h4
  · unfold z_pk at *
    rw [e 170 (by unfold z_OP; omega), show (170 : Int) + 1 = 171 from rfl, e 171 (by unfold z_OP; omega)]
    exact h
  · unfold z_pk at *
    rw [e 174 (by unfold z_OP; omega), show (174 : Int) + 1 = 175 from rfl, e 175 (by unfold z_OP; omega)]
    exact h
/-- what is kept fits -/
def z_ca (M : q_Mem) (o : Int → Int) (fr : Nat) : Prop := M 1 18 = (fr : Int) ∧ fr < 64 ∧ ∀ k, k < 6 → fr.testBit k = true → z_hv o M k
theorem z_ca_eq {o : Int → Int} (hE : z_E o) {M M' : q_Mem} {fr : Nat} (h : z_ca M o fr) (e1 : M' 1 18 = M 1 18) (e : ∀ k a, k < 6 → z_OP k a → M' a = M a) : z_ca M' o fr := ⟨e1.trans h.1, h.2.1, fun k hk hb => z_hv_eq hE (fun a ha => e k a hk ha) (h.2.2 k hk hb)⟩
def z_ns (M0 M : q_Mem) (o : Int → Int) (fr t n : Nat) : Prop := z_qf M0 M ∧ z_cst M o ∧ (∃ f1, z_ca M o f1 ∧ f1 ||| t = fr ||| t) ∧ (∀ j, j < n → t.testBit j = true → z_hv o M j) ∧ ∀ j, j < 6 → fr.testBit j = true → z_hv o M j
theorem z_ns_skip {M0 M : q_Mem} {o : Int → Int} {fr t k : Nat} (h : z_ns M0 M o fr t k) (hk : k < 6) (g : t.testBit k = true → fr.testBit k = true) : z_ns M0 M o fr t (k + 1) := by
  refine ⟨h.1, h.2.1, h.2.2.1, fun j hj hb => ?_, h.2.2.2.2⟩
  by_cases c : j = k
  · subst c; exact h.2.2.2.2 j hk (g hb)
  · exact h.2.2.2.1 j (by omega) hb
theorem z_ns_step {M0 M M' : q_Mem} {o : Int → Int} {fr t k : Nat} (hE : z_E o) (h : z_ns M0 M o fr t k) (hk : k < 6) (f : ∀ a, ¬ z_SP k a → M' a = M a) (g : z_hv o M' k) : z_ns M0 M' o fr t (k + 1) := by
  obtain ⟨h1, h2, ⟨f1, h3, h4⟩, h5, h6⟩ := h
  have e1 : M' 1 = M 1 := f 1 (fun q => (z_SQ q).2 rfl)
  have hj : ∀ j, j < 6 → z_hv o M j → z_hv o M' j := by
    intro j hj q
    by_cases c : j = k
    · subst c; exact g
    · exact z_hv_eq hE (fun a ha => f a (z_OS hj hk c ha)) q
  refine ⟨⟨fun a g1 g2 => (f a (fun q => g2 (z_SQ q).1)).trans (h1.1 a g1 g2), fun j q => by rw [e1]; exact h1.2 j q⟩, z_cst_eq h2 (by rw [e1]) (fun a ha => f a (fun q => (z_COn ha).2 (z_SQ q).1)), ⟨f1, ⟨by rw [e1]; exact h3.1, h3.2.1, fun j q1 q2 => hj j q1 (h3.2.2 j q1 q2)⟩, h4⟩, fun j q1 q2 => ?_, fun j q1 q2 => hj j q1 (h6 j q1 q2)⟩
  by_cases c : j = k
  · subst c; exact g
  · exact hj j (by omega) (h5 j (by omega) q2)
theorem z_or64 : ∀ fr : Nat, fr < 64 → ∀ t : Nat, t < 64 → q_or (fr : Int) (t : Int) = ((fr ||| t : Nat) : Int) ∧ fr ||| t < 64 := by decide +kernel
theorem z_st64 : ∀ fr : Nat, fr < 64 → ∀ t : Nat, t < 64 → q_and (t : Int) (q_xor (fr : Int) (-1)) = ((t &&& (fr ^^^ 63) : Nat) : Int) := by decide +kernel
theorem z_bt64 : ∀ s : Nat, s < 64 → ∀ k : Nat, k < 6 → (q_and (s : Int) ((2 ^ k : Nat) : Int) = 0 ↔ s.testBit k = false) := by decide +kernel
theorem z_sb64 {fr t k : Nat} (hk : k < 6) : (t &&& (fr ^^^ 63)).testBit k = (t.testBit k && !fr.testBit k) := by
  have : ∀ k, k < 6 → (63 : Nat).testBit k = true := by decide
  rw [Nat.testBit_and, Nat.testBit_xor, this k hk]
  cases fr.testBit k <;> simp
/-- whether the next is stale -/
theorem z_stl {fr t k : Nat} (hf : fr < 64) (ht : t < 64) (hk : k < 6) : (q_and ((t &&& (fr ^^^ 63) : Nat) : Int) ((2 ^ k : Nat) : Int) = 0 → t.testBit k = true → fr.testBit k = true) ∧ (¬ q_and ((t &&& (fr ^^^ 63) : Nat) : Int) ((2 ^ k : Nat) : Int) = 0 → t.testBit k = true) := by
  have hs : t &&& (fr ^^^ 63) < 64 := Nat.lt_of_le_of_lt Nat.and_le_left ht
  rw [z_bt64 _ hs k hk, z_sb64 hk]
  cases t.testBit k <;> cases fr.testBit k <;> simp
theorem k_needShape {d : Nat} {M : q_Mem} {K : q_Mem → Prop} {o : Int → Int} {fr : Nat} (hd : 3 < d) (hE : z_E o) (hc : z_cst M o) (hca : z_ca M o fr) (h : ∀ M', z_qf M M' → z_cst M' o → z_ca M' o (fr ||| 1) → K M') : q_kU yX11_needShape mX11_needShape d [qR 1] M K := by
  have b0 := z_bt64 fr hca.2.1 0 (by decide)
  refine q_goU hd rfl (plainFor_of_name (by decide +kernel)) rfl (fun h => nomatch h) (Nat.le_of_ble_eq_true rfl) (fun d hd => bX11_needShape_0 ?_)
  rw [hca.1]
  refine ⟨fun g => ?_, fun _ => ?_⟩
  · have g1 : fr.testBit 0 = true := by
      cases q : fr.testBit 0 with
      | true => rfl
      | false => exact absurd (b0.mpr q) g
    have e : ∀ fr : Nat, fr < 64 → fr.testBit 0 = true → fr ||| 1 = fr := by decide
    have := h M z_qf_rf hc
    rw [e fr hca.2.1 g1] at this
    exact this hca
  · have ps : M 1 4 ∉ ([91, 92, 93, 94, 95, 96, 97] : List Int) ∧ M 1 4 + 1 ∉ ([91, 92, 93, 94, 95, 96, 97] : List Int) ∧ M 1 4 + 2 ∉ ([91, 92, 93, 94, 95, 96, 97] : List Int) ∧ M 1 4 + 4 ∉ ([91, 92, 93, 94, 95, 96, 97] : List Int) := by
      rcases hc.1 with g | g <;> rw [g] <;> decide
    refine k_shape (o := o) (by omega) hE.1 hE.2.2.2.2.2 (by decide +kernel) (by decide +kernel) (by decide) ps (z_pl_pn hc.2.1) hc.2.2.2.2.2 (fun M1 f1 s1 M2 e2 => ?_)
    have e1 : M1 1 = M 1 := f1 1 (by decide)
    have c1 := z_or64 fr hca.2.1 1 (by decide)
    have f2 : ∀ a, a ≠ 1 → ¬ (91 ≤ a ∧ a ≤ 97) → M2 a = M a := fun a g1 g2 => by
      rw [e2, q_up_o g1]
      refine f1 a (fun q => g2 ?_)
      have : ∀ b ∈ ([91, 92, 93, 94, 95, 96, 97] : List Int), 91 ≤ b ∧ b ≤ 97 := by decide
      exact this a q
    have q2 : z_qf M M2 := ⟨fun a g1 g2 => f2 a g1 (fun q => g2 (by unfold z_QP; omega)), fun k g => by rw [e2, q_up_n g, e1]⟩
    refine h M2 q2 (z_cst_qf hc q2) ⟨by rw [e2, q_up_s, e1, hca.1]; exact c1.1, c1.2, fun k hk hb => ?_⟩
    have o12 : ∀ a, a ≠ 1 → M2 a = M1 a := fun a g1 => by rw [e2, q_up_o g1]
    by_cases c : k = 0
    · subst c
      exact z_hv_eq (k := 0) (M := M1) hE (fun a ha => o12 a (by unfold z_OP at ha; omega)) s1
    · have b : fr.testBit k = true := by
        rw [Nat.testBit_or] at hb
        have : (1 : Nat).testBit k = false := by
          have : ∀ k, k < 6 → k ≠ 0 → (1 : Nat).testBit k = false := by decide
          exact this k hk c
        rw [this, Bool.or_false] at hb
        exact hb
      refine z_hv_eq hE (fun a ha => f2 a ?_ ?_) (hca.2.2 k hk b)
      · intro e; subst e; unfold z_OP at ha; omega
      · intro e
        have := z_OS (k := 0) hk (by decide) c ha
        exact this (Or.inl ⟨rfl, e⟩)
theorem z_V_of {M : q_Mem} {o w : Int → Int} (hE : z_E o) (hs : z_sh o M) (hw : ∀ l : Nat, l < z_L o → w l = z_wr o l) (hv : z_wv w (z_fo o) (z_L o) (z_fm o) M) : z_V M w (z_fo o) (z_L o) (z_fm o) :=
  ⟨z_fm_16 hE.1 hE.2.2.2.2.2, z_net_L16 hE.1, hs.2.1.2.1, fun x hx => z_fo_in hE.1 hE.2.2.2.2.2 hx, fun l hl => by rw [hw l hl]; exact z_wr_bd, hv⟩
/-- the pairing by a sign -/
theorem l_npair {d : Nat} {M : q_Mem} {K : q_Mem → Prop} {o : Int → Int} {x sg : Int} (hd : 22 ≤ d) (hx : (x = 170 ∧ sg = 1) ∨ (x = 174 ∧ sg = -1)) (hE : z_E o) (hc : z_cst M o) (h0 : z_hv o M 0) (h1 : z_hv o M 1) (h3 : z_hv o M 3) (h : ∀ M', z_pf x M M' → z_pk x sg o M' → K M') :
    q_kI yX11_goodLinks mX11_goodLinks d [qR 1, qI sg] M (fun v2 M1 => q_kI yX6_oddFaces mX6_oddFaces d [qR 91, qI v2] M1 (fun v4 M3 => q_kU yX3_workOut mX3_workOut d [qR x, qR 91, qR 98, qI v4] M3 K)) := by
  obtain ⟨w, hw, hv⟩ := h3
  have hs : sg = 1 ∨ sg = -1 := hx.imp And.right And.right
  have hV := z_V_of hE h0 hw hv
  have eg : z_gd (z_wr o) sg (z_L o) = z_gd w sg (z_L o) := z_set_congr (fun l hl => by show decide (0 < sg * z_wr o l) = decide (0 < sg * w l); rw [hw l hl])
  refine k_cgood (by omega) hs hE hc h1 (k_oddFaces (fo := z_fo o) (by omega) (z_gd_lt hV.2.1) (fun l hl => ?_) hV.2.2.1 ?_)
  · have hl2 : l < z_L o := by
      unfold z_gd at hl
      rw [z_set_bit] at hl
      simp only [Bool.and_eq_true, decide_eq_true_eq] at hl
      exact hl.1
    have q1 := z_fo_in hE.1 hE.2.2.2.2.2 (x := 2 * l) (by omega)
    have q2 := z_fo_in hE.1 hE.2.2.2.2.2 (x := 2 * l + 1) (by omega)
    have q3 := hV.1
    exact ⟨(z_fo o (2 * l)).toNat, (z_fo o (2 * l + 1)).toNat, by omega, by omega, by omega, by omega⟩
  · rw [eg]
    exact k_pairing (by omega) (hx.imp And.left And.left) hE hV hw (fun M' p' jn' f1 f2 f3 f4 f5 => h M' f1 ⟨p', jn', f2, f3, f4, f5⟩)
/-- what a need asks must hold together -/
def z_cl6 (t : Nat) : Prop := t < 64 ∧ (t.testBit 2 = true → t.testBit 1 = true) ∧ (t.testBit 3 = true → t.testBit 0 = true ∧ t.testBit 1 = true) ∧ ((t.testBit 4 = true ∨ t.testBit 5 = true) → t.testBit 3 = true ∧ t.testBit 0 = true ∧ t.testBit 1 = true)
theorem l_need113 {d : Nat} {M0 M : q_Mem} {K : q_Mem → Prop} {o : Int → Int} {fr t : Nat} (hd : 22 ≤ d) (hE : z_E o) (hf : fr < 64) (hcl : z_cl6 t) (hn : z_ns M0 M o fr t 5) (h : ∀ M', z_qf M0 M' → z_cst M' o → z_ca M' o (fr ||| t) → K M') :
    q_v mX11_need d (qPU K) M 113 [some (qR 1), some (qI (t : Int)), some (qI ((t &&& (fr ^^^ 63) : Nat) : Int))] [] := by
  have st := z_stl (k := 5) hf hcl.1 (by decide)
  have last : ∀ M, z_ns M0 M o fr t 6 → ∀ M1 : q_Mem, M1 = q_up M 1 18 (q_or (M 1 18) (t : Int)) → K M1 := by
    intro M hn M1 e1
    obtain ⟨h1, h2, ⟨f1, h3, h4⟩, h5, h6⟩ := hn
    have c1 := z_or64 f1 h3.2.1 t hcl.1
    have o1 : ∀ a, a ≠ 1 → M1 a = M a := fun a g => by rw [e1, q_up_o g]
    have q1 : z_qf M M1 := ⟨fun a g _ => o1 a g, fun k g => by rw [e1, q_up_n g]⟩
    refine h M1 (z_qf_tr h1 q1) (z_cst_qf h2 q1) ⟨by rw [e1, q_up_s, h3.1, c1.1, h4], by rw [← h4]; exact c1.2, fun k hk hb => ?_⟩
    refine z_hv_eq hE (fun a ha => o1 a ?_) (M := M) ?_
    · intro e; subst e; unfold z_OP at ha; omega
    · rw [Nat.testBit_or, Bool.or_eq_true] at hb
      exact hb.elim (h6 k hk) (h5 k hk)
  refine bX11_need_113 _ _ ⟨fun g => last M (z_ns_skip hn (by decide) (st.1 g)), fun g => ?_⟩
  have t5 := st.2 g
  have c3 := hcl.2.2.2 (Or.inr t5)
  exact l_npair hd (Or.inr ⟨rfl, rfl⟩) hE hn.2.1 (hn.2.2.2.1 0 (by decide) c3.2.1) (hn.2.2.2.1 1 (by decide) c3.2.2) (hn.2.2.2.1 3 (by decide) c3.1) (fun M' f' p' => last M' (z_ns_step hE hn (by decide) (fun a ha => f' a (fun e => ha (by unfold z_SP; omega)) (fun e => ha (by unfold z_SP; omega)) (fun e => ha (by unfold z_SP; omega)) (fun e => ha (by unfold z_SP; omega))) p'))
theorem l_need79 {d : Nat} {M0 M : q_Mem} {K : q_Mem → Prop} {o : Int → Int} {fr t : Nat} (hd : 22 ≤ d) (hE : z_E o) (hf : fr < 64) (hcl : z_cl6 t) (hn : z_ns M0 M o fr t 4) (h : ∀ M', z_qf M0 M' → z_cst M' o → z_ca M' o (fr ||| t) → K M') :
    q_v mX11_need d (qPU K) M 79 [some (qR 1), some (qI (t : Int)), some (qI ((t &&& (fr ^^^ 63) : Nat) : Int))] [] := by
  have st := z_stl (k := 4) hf hcl.1 (by decide)
  refine bX11_need_79 _ _ ⟨fun g => l_need113 hd hE hf hcl (z_ns_skip hn (by decide) (st.1 g)) h, fun g => ?_⟩
  have t5 := st.2 g
  have c3 := hcl.2.2.2 (Or.inl t5)
  exact l_npair hd (Or.inl ⟨rfl, rfl⟩) hE hn.2.1 (hn.2.2.2.1 0 (by decide) c3.2.1) (hn.2.2.2.1 1 (by decide) c3.2.2) (hn.2.2.2.1 3 (by decide) c3.1) (fun M' f' p' => l_need113 hd hE hf hcl (z_ns_step hE hn (by decide) (fun a ha => f' a (fun e => ha (by unfold z_SP; omega)) (fun e => ha (by unfold z_SP; omega)) (fun e => ha (by unfold z_SP; omega)) (fun e => ha (by unfold z_SP; omega))) p') h)
theorem l_need50 {d : Nat} {M0 M : q_Mem} {K : q_Mem → Prop} {o : Int → Int} {fr t : Nat} (hd : 22 ≤ d) (hE : z_E o) (hf : fr < 64) (hcl : z_cl6 t) (hn : z_ns M0 M o fr t 3) (h : ∀ M', z_qf M0 M' → z_cst M' o → z_ca M' o (fr ||| t) → K M') :
    q_v mX11_need d (qPU K) M 50 [some (qR 1), some (qI (t : Int)), some (qI ((t &&& (fr ^^^ 63) : Nat) : Int))] [] := by
  have st := z_stl (k := 3) hf hcl.1 (by decide)
  refine bX11_need_50 _ _ ⟨fun g => l_need79 hd hE hf hcl (z_ns_skip hn (by decide) (st.1 g)) h, fun g => ?_⟩
  have c3 := hcl.2.2.1 (st.2 g)
  have h0 : z_sh o M := hn.2.2.2.1 0 (by decide) c3.1
  have h1 : ∀ l : Nat, l < z_L o → M 90 l = z_wr o l := hn.2.2.2.1 1 (by decide) c3.2
  refine ⟨z_cst_k hn.2.1, ?_⟩
  rw [z_cst_L hn.2.1 hE.1]
  refine k_ways (fo := z_fo o) (F := z_fm o) (by omega) (z_net_L16 hE.1) (z_fm_16 hE.1 hE.2.2.2.2.2) h0.2.1.1 h0.2.1.2.1 (fun x hx => z_fo_in hE.1 hE.2.2.2.2.2 hx) (fun l hl => by rw [h1 l hl]; exact z_wr_bd) (fun M' f' v' => ?_)
  exact l_need79 hd hE hf hcl (z_ns_step hE hn (by decide) (fun a ha => f' a (fun e => ha (by unfold z_SP; omega)) (fun e => ha (by unfold z_SP; omega))) ⟨M 90, h1, v'⟩) h
theorem l_need29 {d : Nat} {M0 M : q_Mem} {K : q_Mem → Prop} {o : Int → Int} {fr t : Nat} (hd : 22 ≤ d) (hE : z_E o) (hf : fr < 64) (hcl : z_cl6 t) (hn : z_ns M0 M o fr t 2) (h : ∀ M', z_qf M0 M' → z_cst M' o → z_ca M' o (fr ||| t) → K M') :
    q_v mX11_need d (qPU K) M 29 [some (qR 1), some (qI (t : Int)), some (qI ((t &&& (fr ^^^ 63) : Nat) : Int))] [] := by
  have st := z_stl (k := 2) hf hcl.1 (by decide)
  refine bX11_need_29 _ _ ⟨fun g => l_need50 hd hE hf hcl (z_ns_skip hn (by decide) (st.1 g)) h, fun g => ?_⟩
  have h1 : ∀ l : Nat, l < z_L o → M 90 l = z_wr o l := hn.2.2.2.1 1 (by decide) (hcl.2.1 (st.2 g))
  have ps : M 1 4 ∉ ([117, 118] : List Int) ∧ M 1 4 + 1 ∉ ([117, 118] : List Int) ∧ M 1 4 + 2 ∉ ([117, 118] : List Int) ∧ M 1 4 + 4 ∉ ([117, 118] : List Int) := by
    rcases hn.2.1.1 with g | g <;> rw [g] <;> decide
  refine k_table (o := o) (by omega) hE.1 ps (z_pl_pn hn.2.1.2.1) h1 (fun M' f' v' => ?_)
  exact l_need50 hd hE hf hcl (z_ns_step hE hn (by decide) (fun a ha => f' a (fun e => ha (by unfold z_SP; simp at e; omega))) v') h
theorem l_need19 {d : Nat} {M0 M : q_Mem} {K : q_Mem → Prop} {o : Int → Int} {fr t : Nat} (hd : 22 ≤ d) (hE : z_E o) (hf : fr < 64) (hcl : z_cl6 t) (hn : z_ns M0 M o fr t 1) (h : ∀ M', z_qf M0 M' → z_cst M' o → z_ca M' o (fr ||| t) → K M') :
    q_v mX11_need d (qPU K) M 19 [some (qR 1), some (qI (t : Int)), some (qI ((t &&& (fr ^^^ 63) : Nat) : Int))] [] := by
  have st := z_stl (k := 1) hf hcl.1 (by decide)
  refine bX11_need_19 _ _ ⟨fun g => l_need29 hd hE hf hcl (z_ns_skip hn (by decide) (st.1 g)) h, fun g => ?_⟩
  refine k_weighAll (by omega) hE hn.2.1 (fun M' f' v' => ?_)
  exact l_need29 hd hE hf hcl (z_ns_step hE hn (by decide) (fun a ha => f' a (fun e => ha (by unfold z_SP; simp at e; omega))) v') h
theorem k_need {d : Nat} {M : q_Mem} {K : q_Mem → Prop} {o : Int → Int} {fr t : Nat} (hd : 22 < d) (hE : z_E o) (hc : z_cst M o) (hca : z_ca M o fr) (hcl : z_cl6 t) (h : ∀ M', z_qf M M' → z_cst M' o → z_ca M' o (fr ||| t) → K M') : q_kU yX11_need mX11_need d [qR 1, qI (t : Int)] M K := by
  have st := z_stl (k := 0) hca.2.1 hcl.1 (by decide)
  have es := z_st64 fr hca.2.1 t hcl.1
  have h0 : z_ns M M o fr t 0 := ⟨z_qf_rf, hc, ⟨fr, hca, rfl⟩, fun j hj => absurd hj (by omega), hca.2.2⟩
  refine q_goU hd rfl (plainFor_of_name (by decide +kernel)) rfl (fun h => nomatch h) (Nat.le_of_ble_eq_true rfl) (fun d hd => bX11_need_0 _ (fun x2 e2 => ?_))
  rw [hca.1, es] at e2
  subst e2
  refine ⟨fun g => l_need19 hd hE hca.2.1 hcl (z_ns_skip h0 (by decide) (st.1 g)) h, fun g => ?_⟩
  refine k_needShape (by omega) hE hc hca (fun M' f' c' v' => ?_)
  refine l_need19 hd hE hca.2.1 hcl ⟨f', c', ⟨fr ||| 1, v', ?_⟩, fun j hj _ => ?_, fun j hj hb => ?_⟩ h
  · have : ∀ t : Nat, t < 64 → t.testBit 0 = true → 1 ||| t = t := by decide
    rw [Nat.or_assoc, this t hcl.1 (st.2 g)]
  · have : j = 0 := by omega
    subst this
    exact v'.2.2 0 (by decide) (by rw [Nat.testBit_or]; simp)
  · exact v'.2.2 j hj (by rw [Nat.testBit_or, hb]; rfl)
