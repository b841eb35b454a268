-- the class's state beside the reference's row: plan, standing, what is worked out
def z_sd (M : q_Mem) (a : Int) (o : Int → Int) (b : Int) : Prop := M a 0 = o b ∧ M a 1 = o (b + 1) ∧ (∀ l : Nat, l < z_L o → M (a + 1) l = o (b + 2 + l)) ∧ z_rr (M (a + 2)) o b
def z_cst (M : q_Mem) (o : Int → Int) : Prop := (M 1 4 = 3 ∨ M 1 4 = 18) ∧ z_pl M (M 1 4) o ∧ z_sd M 50 o 1
theorem z_pl_eq {M M' : q_Mem} {p : Int} {o : Int → Int} (h : z_pl M p o) (e0 : M' p = M p) (e1 : M' (p + 1) = M (p + 1)) (e2 : M' (p + 2) = M (p + 2)) (e4 : M' (p + 4) = M (p + 4)) (e7 : M' (p + 7) = M (p + 7)) (e8 : M' (p + 7 + 1) = M (p + 7 + 1)) (e11 : M' (p + 11) = M (p + 11)) (e12 : M' (p + 11 + 1) = M (p + 11 + 1)) : z_pl M' p o := by
  unfold z_pl z_lw z_lr at *
  rw [e0, e1, e2, e4, e7, e8, e11, e12]
  exact h
theorem z_sd_eq {M M' : q_Mem} {a b : Int} {o : Int → Int} (h : z_sd M a o b) (e0 : M' a = M a) (e1 : M' (a + 1) = M (a + 1)) (e2 : M' (a + 2) = M (a + 2)) : z_sd M' a o b := by
  unfold z_sd at *
  rw [e0, e1, e2]
  exact h
abbrev z_CO : List Int := [3, 4, 5, 7, 10, 11, 14, 15, 18, 19, 20, 22, 25, 26, 29, 30, 50, 51, 52]
theorem z_cst_eq {M M' : q_Mem} {o : Int → Int} (h : z_cst M o) (e1 : M' 1 4 = M 1 4) (e : ∀ a ∈ z_CO, M' a = M a) : z_cst M' o := by
  obtain ⟨h1, h2, h3⟩ := h
  refine ⟨by rw [e1]; exact h1, ?_, z_sd_eq h3 (e 50 (by decide)) (e 51 (by decide)) (e 52 (by decide))⟩
  rw [e1]
  rcases h1 with h1 | h1 <;> rw [h1] at h2 ⊢
  · exact z_pl_eq h2 (e 3 (by decide)) (e 4 (by decide)) (e 5 (by decide)) (e 7 (by decide)) (e 10 (by decide)) (e 11 (by decide)) (e 14 (by decide)) (e 15 (by decide))
  · exact z_pl_eq h2 (e 18 (by decide)) (e 19 (by decide)) (e 20 (by decide)) (e 22 (by decide)) (e 25 (by decide)) (e 26 (by decide)) (e 29 (by decide)) (e 30 (by decide))
theorem z_cst_cf {S : List Int} {M M' : q_Mem} {o : Int → Int} (h : z_cst M o) (f : z_cf S M M') (g1 : (1 : Int) ∉ S) (g : ∀ a ∈ z_CO, a ∉ S) : z_cst M' o := z_cst_eq h (by rw [f 1 g1]) (fun a ha => f a (g a ha))
theorem z_cst_L {M : q_Mem} {o : Int → Int} (h : z_cst M o) (hn : z_net o) : M (M 1 4) 1 = (z_L o : Int) := by rw [h.2.1.2.2.1, z_net_L hn]
theorem z_cst_N {M : q_Mem} {o : Int → Int} (h : z_cst M o) (hn : z_net o) : M (M 1 4) 0 = (z_N o : Int) := by rw [h.2.1.2.1, z_net_N hn]
theorem z_cst_k {M : q_Mem} {o : Int → Int} (h : z_cst M o) : q_kd (M 1 4) = 4 := h.2.1.1
theorem z_cst_g {M : q_Mem} {o : Int → Int} (h : z_cst M o) {l : Nat} (hl : l < z_L o) : M 51 l = o (3 + l) := h.2.2.2.2.1 l hl
theorem z_cst_ab {M : q_Mem} {o : Int → Int} (h : z_cst M o) (hn : z_net o) {l : Nat} (hl : l < z_L o) : M (q_lay (M 1 4) 4) l = (z_a o l : Int) ∧ M (q_lay (M 1 4) 5) l = (z_b o l : Int) := by
  have kk := z_k4 (z_cst_k h)
  have := h.2.1.2.2.2.2.1 l hl
  rw [kk.1, kk.2.1, this.1, this.2]
  exact ⟨(z_net_a hn hl).1, (z_net_b hn hl).1⟩
theorem k_hasLink {d : Nat} {M : q_Mem} {K : Int → q_Mem → Prop} {o : Int → Int} {v : Int} (hd : 0 < d) (hn : z_net o) (hc : z_cst M o) (h1 : 0 ≤ v → v < z_L o → K 1 M) (h0 : ¬ (0 ≤ v ∧ v < z_L o) → K 0 M) : q_kI yX11_hasLink mX11_hasLink d [qR 1, qI v] M K :=
  q_goI hd rfl (plainFor_of_name (by decide +kernel)) rfl (fun h => nomatch h) (Nat.le_of_ble_eq_true rfl) (fun d hd => bX11_hasLink_0 _ ⟨fun g => h0 (by omega), fun g => ⟨z_cst_k hc, by rw [z_cst_L hc hn]; exact ⟨fun g2 => h0 (by omega), fun g2 => h1 (by omega) (by omega)⟩⟩⟩)
theorem k_hasNode {d : Nat} {M : q_Mem} {K : Int → q_Mem → Prop} {o : Int → Int} {v : Int} (hd : 0 < d) (hn : z_net o) (hc : z_cst M o) (h1 : 0 ≤ v → v < z_N o → K 1 M) (h0 : ¬ (0 ≤ v ∧ v < z_N o) → K 0 M) : q_kI yX11_hasNode mX11_hasNode d [qR 1, qI v] M K :=
  q_goI hd rfl (plainFor_of_name (by decide +kernel)) rfl (fun h => nomatch h) (Nat.le_of_ble_eq_true rfl) (fun d hd => bX11_hasNode_0 _ ⟨fun g => h0 (by omega), fun g => ⟨z_cst_k hc, by rw [z_cst_N hc hn]; exact ⟨fun g2 => h0 (by omega), fun g2 => h1 (by omega) (by omega)⟩⟩⟩)
theorem k_hasTray {d : Nat} {M : q_Mem} {K : Int → q_Mem → Prop} {v : Int} (hd : 0 < d) (h1 : 0 ≤ v → v < 4 → K 1 M) (h0 : ¬ (0 ≤ v ∧ v < 4) → K 0 M) : q_kI yX11_hasTray mX11_hasTray d [qI v] M K :=
  q_goI hd rfl (plainFor_of_name (by decide +kernel)) rfl (fun h => nomatch h) (Nat.le_of_ble_eq_true rfl) (fun d hd => bX11_hasTray_0 _ ⟨fun g => h0 (by omega), fun g => ⟨fun g2 => h0 (by omega), fun g2 => h1 (by omega) (by omega)⟩⟩)
theorem k_canWarm {d : Nat} {M : q_Mem} {K : Int → q_Mem → Prop} {v : Int} (hd : 0 < d) (h1 : 0 ≤ v → v < 10 → K 1 M) (h0 : ¬ (0 ≤ v ∧ v < 10) → K 0 M) : q_kI yX11_canWarm mX11_canWarm d [qI v] M K :=
  q_goI hd rfl (plainFor_of_name (by decide +kernel)) rfl (fun h => nomatch h) (Nat.le_of_ble_eq_true rfl) (fun d hd => bX11_canWarm_0 _ ⟨fun g => h0 (by omega), fun g => ⟨fun g2 => h0 (by omega), fun g2 => h1 (by omega) (by omega)⟩⟩)
theorem k_canWeigh {d : Nat} {M : q_Mem} {K : Int → q_Mem → Prop} {o : Int → Int} {l v : Int} (hd : 1 < d) (hn : z_net o) (hc : z_cst M o) (h1 : (0 ≤ l ∧ l < z_L o) → (-99 ≤ v ∧ v ≤ 99) → K 1 M) (h0 : ¬ ((0 ≤ l ∧ l < z_L o) ∧ -99 ≤ v ∧ v ≤ 99) → K 0 M) : q_kI yX11_canWeigh mX11_canWeigh d [qR 1, qI l, qI v] M K :=
  q_goI hd rfl (plainFor_of_name (by decide +kernel)) rfl (fun h => nomatch h) (Nat.le_of_ble_eq_true rfl) (fun d hd => bX11_canWeigh_0 _ _ (k_hasLink (by omega) hn hc (fun g1 g2 => ⟨fun g => absurd g (by decide), fun _ => ⟨fun g => h0 (by omega), fun g => ⟨fun g3 => h0 (by omega), fun g3 => h1 ⟨g1, g2⟩ (by omega)⟩⟩⟩) (fun g => ⟨fun _ => h0 (fun q => g q.1), fun q => absurd rfl q⟩)))
theorem z_cst_dg {M : q_Mem} {o : Int → Int} (h : z_cst M o) {n : Nat} (hl : n < z_N o) : M (q_lay (M 1 4) 7) n = (z_dg o n : Int) := by
  rw [(z_k4 (z_cst_k h)).2.2.2.1]
  exact h.2.1.2.2.2.2.2.1 n hl
theorem k_canTurn {d : Nat} {M : q_Mem} {K : Int → q_Mem → Prop} {o : Int → Int} {n v : Int} (hd : 1 < d) (hn : z_net o) (hc : z_cst M o) (h1 : (0 ≤ n ∧ n < z_N o) → (0 ≤ v ∧ v + 1 < z_dg o n.toNat) → K 1 M) (h0 : ¬ ((0 ≤ n ∧ n < z_N o) ∧ 0 ≤ v ∧ v + 1 < z_dg o n.toNat) → K 0 M) : q_kI yX11_canTurn mX11_canTurn d [qR 1, qI n, qI v] M K := by
  have hN := z_net_N10 hn
  refine q_goI hd rfl (plainFor_of_name (by decide +kernel)) rfl (fun h => nomatch h) (Nat.le_of_ble_eq_true rfl) (fun d hd => bX11_canTurn_0 _ _ (k_hasNode (by omega) hn hc (fun g1 g2 => ⟨fun g => absurd g (by decide), fun _ => ⟨fun g => h0 (by omega), fun g => ⟨z_cst_k hc, by omega, ?_⟩⟩⟩) (fun g => ⟨fun _ => h0 (fun q => g q.1), fun q => absurd rfl q⟩)))
  have e := z_cst_dg hc (n := n.toNat) (by omega)
  rw [show ((n.toNat : Nat) : Int) = n by omega] at e
  have e2 := (z_net_dg hn (n := n.toNat) (by omega)).2
  rw [e, q_sub_eq (by omega)]
  exact ⟨fun g3 => h0 (by omega), fun g3 => h1 ⟨g1, g2⟩ (by omega)⟩
theorem z_E_sM {M : q_Mem} {o : Int → Int} (hE : z_E o) (h : z_cst M o) : M 50 1 = (z_s o : Int) := by
  rw [h.2.2.2.1]; exact (z_E_s hE).1
theorem k_isCut {d : Nat} {M : q_Mem} {K : Int → q_Mem → Prop} {o : Int → Int} {l : Nat} (hd : 0 < d) (hE : z_E o) (hc : z_cst M o) (hl : l < z_L o) (h1 : z_cut o (z_s o) l = true → K 1 M) (h0 : z_cut o (z_s o) l = false → K 0 M) : q_kI yX11_isCut mX11_isCut d [qR 1, qI (l : Int)] M K := by
  have hL := z_net_L16 hE.1
  have hN := z_net_N10 hE.1
  have s := z_E_s hE
  have ab := z_cst_ab hc hE.1 hl
  have ea := z_net_a hE.1 hl
  have eb := z_net_b hE.1 hl
  refine q_goI hd rfl (plainFor_of_name (by decide +kernel)) rfl (fun h => nomatch h) (Nat.le_of_ble_eq_true rfl) (fun d hd => bX11_isCut_0 _ ⟨z_cst_k hc, by omega, by omega, ?_⟩)
  rw [ab.1, ab.2, z_E_sM hE hc, z_cutq (by omega) (by omega) (by omega)]
  unfold z_cut at h1 h0
  exact ⟨fun g => h0 (by rw [g]; simp), fun g => h1 (by simpa using g)⟩
theorem k_touches {d : Nat} {M : q_Mem} {K : Int → q_Mem → Prop} {o : Int → Int} {n l : Nat} (hd : 0 < d) (hn : z_net o) (hc : z_cst M o) (hl : l < z_L o) (h1 : z_a o l = n ∨ z_b o l = n → K 1 M) (h0 : ¬ (z_a o l = n ∨ z_b o l = n) → K 0 M) : q_kI yX4_touches mX4_touches d [qR (M 1 4), qI (l : Int), qI (n : Int)] M K := by
  have hL := z_net_L16 hn
  have ab := z_cst_ab hc hn hl
  refine q_goI hd rfl (plainFor_of_name (by decide +kernel)) rfl (fun h => nomatch h) (Nat.le_of_ble_eq_true rfl) (fun d hd => bX4_touches_0 _ _ _ (z_cst_k hc) ⟨by omega, ?_⟩)
  rw [ab.1, ab.2]
  exact ⟨fun g => h1 (Or.inl (by omega)), fun g => ⟨by omega, fun g2 => h0 (by omega), fun g2 => h1 (Or.inr (by omega))⟩⟩
/-- the class's weights -/
abbrev z_WL : List Int := [12, 13, 16, 17, 27, 28, 31, 32, 90]
theorem z_wr_n {o : Int → Int} {l : Nat} : z_wr o (l : Int) = z_wt o l (o 1) := by
  unfold z_wr
  rw [Int.toNat_natCast]
theorem l_cwa {d : Nat} {K : q_Mem → Prop} {M0 : q_Mem} {o : Int → Int} (hd : 5 ≤ d) (hE : z_E o) (hc : z_cst M0 o) (h : ∀ M', z_cf z_WL M0 M' → (∀ l : Nat, l < z_L o → M' 90 l = z_wr o l) → K M') :
    ∀ (j i : Nat) (M : q_Mem), i + j = z_L o → z_cf z_WL M0 M → (∀ l : Nat, l < i → M 90 l = z_wr o l) → q_v mX11_weighAll d (qPU K) M 2 [some (qR 1), some (qI (i : Int))] [] := by
  have hL := z_net_L16 hE.1
  intro j
  induction j with
  | zero =>
    intro i M e f q
    have cM := z_cst_cf hc f (by decide) (by decide)
    have ei : i = z_L o := by omega
    subst ei
    refine bX11_weighAll_2 _ ⟨z_cst_k cM, ?_⟩
    rw [z_cst_L cM hE.1]
    exact ⟨fun _ => h M f q, fun g => absurd (by omega) g⟩
  | succ j ih =>
    intro i M e f q
    have cM := z_cst_cf hc f (by decide) (by decide)
    refine bX11_weighAll_2 _ ⟨z_cst_k cM, ?_⟩
    rw [z_cst_L cM hE.1]
    refine ⟨fun g => absurd g (by omega), fun _ => ⟨by omega, k_cweightOf (by omega) cM.2.1 hE.1 hE.2.1 hE.2.2.1 (by omega) (z_cst_g cM (by omega)) (by rw [cM.2.2.1]; exact hE.2.2.2.1) (fun M3 f3 => ⟨by omega, fun M6 e6 => ?_⟩)⟩⟩
    have f3' : z_cf z_WL M M3 := fun a ha => by
      have q1 : a ≠ 12 ∧ a ≠ 13 ∧ a ≠ 16 ∧ a ≠ 17 ∧ a ≠ 27 ∧ a ≠ 28 ∧ a ≠ 31 ∧ a ≠ 32 := by
        refine ⟨?_, ?_, ?_, ?_, ?_, ?_, ?_, ?_⟩ <;> (intro e; subst e; exact ha (by decide))
      rcases cM.1 with g | g <;> (rw [g] at f3; exact f3 a (by omega) (by omega) (by omega) (by omega))
    have g90 : M3 90 = M 90 := by
      rcases cM.1 with g | g <;> (rw [g] at f3; exact f3 90 (by omega) (by omega) (by omega) (by omega))
    rw [q_add_eq (by omega), show (i : Int) + 1 = ((i + 1 : Nat) : Int) by omega]
    refine ih (i + 1) M6 (by omega) (z_cf_u (z_cf_tr f f3') e6 (by decide)) (fun l hl => ?_)
    rw [e6]
    by_cases c : l = i
    · subst c; rw [q_up_s, z_wr_n, cM.2.2.1]
    · rw [q_up_n (by omega), g90]; exact q l (by omega)
theorem k_weighAll {d : Nat} {M : q_Mem} {K : q_Mem → Prop} {o : Int → Int} (hd : 5 < d) (hE : z_E o) (hc : z_cst M o) (h : ∀ M', z_cf z_WL M M' → (∀ l : Nat, l < z_L o → M' 90 l = z_wr o l) → K M') : q_kU yX11_weighAll mX11_weighAll d [qR 1] M K :=
  q_goU hd rfl (plainFor_of_name (by decide +kernel)) rfl (fun h => nomatch h) (Nat.le_of_ble_eq_true rfl) (fun d hd => bX11_weighAll_0 (l_cwa hd hE hc h (z_L o) 0 M (by omega) z_cf_rf (fun l hl => by omega)))
theorem l_cgood {d : Nat} {M : q_Mem} {K : Int → q_Mem → Prop} {o : Int → Int} {sg : Int} (hs : sg = 1 ∨ sg = -1) (hE : z_E o) (hc : z_cst M o) (hw : ∀ l : Nat, l < z_L o → M 90 l = z_wr o l) (h : K (z_gd (z_wr o) sg (z_L o) : Int) M) :
    ∀ (j i : Nat), i + j = z_L o → q_v mX11_goodLinks d (qPI K) M 4 [some (qR 1), some (qI sg), some (qI (z_gd (z_wr o) sg i : Int)), some (qI (i : Int))] [] := by
  have hL := z_net_L16 hE.1
  intro j
  induction j with
  | zero =>
    intro i e
    have ei : i = z_L o := by omega
    subst ei
    refine bX11_goodLinks_4 _ _ _ ⟨z_cst_k hc, ?_⟩
    rw [z_cst_L hc hE.1]
    exact ⟨fun _ => h, fun g => absurd (by omega) g⟩
  | succ j ih =>
    intro i e
    have wb : -99 ≤ z_wr o (i : Int) ∧ z_wr o (i : Int) ≤ 99 := z_wr_bd
    have gl := z_gd_lt (w := z_wr o) (sg := sg) (L := i) (by omega)
    have nx := ih (i + 1) (by omega)
    have ex : z_gd (z_wr o) sg (i + 1) = z_gd (z_wr o) sg i ||| (if decide (0 < sg * z_wr o (i : Int)) then 2 ^ i else 0) := rfl
    refine bX11_goodLinks_4 _ _ _ ⟨z_cst_k hc, ?_⟩
    rw [z_cst_L hc hE.1, hw i (by omega), (z_sg hs wb).2, q_or1 (by omega) (by omega), q_add_eq (by omega), show (i : Int) + 1 = ((i + 1 : Nat) : Int) by omega]
    refine ⟨fun g => absurd g (by omega), fun _ => ⟨by omega, fun g => ?_, fun g x e2 => ?_⟩⟩
    · rw [ex, if_neg (by simpa using g), Nat.or_zero] at nx
      exact nx
    · rw [ex, if_pos (by simpa using g)] at nx
      rw [e2]; exact nx
theorem k_cgood {d : Nat} {M : q_Mem} {K : Int → q_Mem → Prop} {o : Int → Int} {sg : Int} (hd : 0 < d) (hs : sg = 1 ∨ sg = -1) (hE : z_E o) (hc : z_cst M o) (hw : ∀ l : Nat, l < z_L o → M 90 l = z_wr o l) (h : K (z_gd (z_wr o) sg (z_L o) : Int) M) : q_kI yX11_goodLinks mX11_goodLinks d [qR 1, qI sg] M K :=
  q_goI hd rfl (plainFor_of_name (by decide +kernel)) rfl (fun h => nomatch h) (Nat.le_of_ble_eq_true rfl) (fun d hd => bX11_goodLinks_0 _ (l_cgood hs hE hc hw h (z_L o) 0 (by omega)))
/-- links cut now -/
def z_cb (o : Int → Int) : Nat := z_set (fun l => z_cut o (z_s o) l) (z_L o)
theorem l_ccut {d : Nat} {M : q_Mem} {K : Int → q_Mem → Prop} {o : Int → Int} (hd : 1 ≤ d) (hE : z_E o) (hc : z_cst M o) (h : K (z_cb o : Int) M) :
    ∀ (j i : Nat), i + j = z_L o → q_v mX11_cutBits d (qPI K) M 4 [some (qR 1), some (qI (z_set (fun l => z_cut o (z_s o) l) i : Int)), some (qI (i : Int))] [] := by
  have hL := z_net_L16 hE.1
  intro j
  induction j with
  | zero =>
    intro i e
    have ei : i = z_L o := by omega
    subst ei
    refine bX11_cutBits_4 _ _ ⟨z_cst_k hc, ?_⟩
    rw [z_cst_L hc hE.1]
    exact ⟨fun _ => h, fun g => absurd (by omega) g⟩
  | succ j ih =>
    intro i e
    have gl : z_set (fun l => z_cut o (z_s o) l) i < 65536 := Nat.lt_of_lt_of_le z_set_lt (by show 2 ^ i ≤ 2 ^ 16; exact Nat.pow_le_pow_right (by decide) (by omega))
    have nx := ih (i + 1) (by omega)
    have ex : z_set (fun l => z_cut o (z_s o) l) (i + 1) = z_set (fun l => z_cut o (z_s o) l) i ||| (if z_cut o (z_s o) i then 2 ^ i else 0) := rfl
    refine bX11_cutBits_4 _ _ ⟨z_cst_k hc, ?_⟩
    rw [z_cst_L hc hE.1, q_or1 (by omega) (by omega), q_add_eq (by omega), show (i : Int) + 1 = ((i + 1 : Nat) : Int) by omega]
    refine ⟨fun g => absurd g (by omega), fun _ => k_isCut (by omega) hE hc (by omega) (fun g => ⟨fun q => absurd q (by decide), fun _ x e2 => ?_⟩) (fun g => ⟨fun _ => ?_, fun q => absurd rfl q⟩)⟩
    · rw [ex, if_pos g] at nx
      rw [e2]; exact nx
    · rw [ex, g] at nx
      simpa using nx
theorem k_cutBits {d : Nat} {M : q_Mem} {K : Int → q_Mem → Prop} {o : Int → Int} (hd : 1 < d) (hE : z_E o) (hc : z_cst M o) (h : K (z_cb o : Int) M) : q_kI yX11_cutBits mX11_cutBits d [qR 1] M K :=
  q_goI hd rfl (plainFor_of_name (by decide +kernel)) rfl (fun h => nomatch h) (Nat.le_of_ble_eq_true rfl) (fun d hd => bX11_cutBits_0 (l_ccut hd hE hc h (z_L o) 0 (by omega)))
theorem l_cwoc {d : Nat} {M : q_Mem} {K : Int → q_Mem → Prop} {o : Int → Int} {s : Nat} (hs : s < 2147483648) (hn : z_net o) (hc : z_cst M o) (hw : ∀ l : Nat, l < z_L o → M 90 l = z_wr o l) (h : K (z_ws (z_wr o) s (z_L o)) M) :
    ∀ (j i : Nat), i + j = z_L o → q_v mX11_worthOfCut d (qPI K) M 4 [some (qR 1), some (qI (s : Int)), some (qI (z_ws (z_wr o) s i)), some (qI (i : Int))] [] := by
  have hL := z_net_L16 hn
  intro j
  induction j with
  | zero =>
    intro i e
    have ei : i = z_L o := by omega
    subst ei
    refine bX11_worthOfCut_4 _ _ _ ⟨z_cst_k hc, ?_⟩
    rw [z_cst_L hc hn]
    exact ⟨fun _ => h, fun g => absurd (by omega) g⟩
  | succ j ih =>
    intro i e
    have wb : -99 ≤ z_wr o (i : Int) ∧ z_wr o (i : Int) ≤ 99 := z_wr_bd
    have bd := z_ws_bd (w := z_wr o) (s := s) (L := z_L o) (fun l _ => z_wr_bd) i (by omega)
    have nx := ih (i + 1) (by omega)
    have ex : z_ws (z_wr o) s (i + 1) = z_ws (z_wr o) s i + (if s.testBit i then z_wr o (i : Int) else 0) := rfl
    refine bX11_worthOfCut_4 _ _ _ ⟨z_cst_k hc, ?_⟩
    rw [z_cst_L hc hn, q_bit0 hs (by omega), hw i (by omega), q_add_eq (a := (i : Int)) (by omega), show (i : Int) + 1 = ((i + 1 : Nat) : Int) by omega]
    refine ⟨fun g => absurd g (by omega), fun _ => ⟨fun g => ?_, fun g => ⟨by omega, fun x e2 => ?_⟩⟩⟩
    · rw [ex, g] at nx
      simpa using nx
    · rw [ex, if_pos (by simpa using g)] at nx
      rw [e2, q_add_eq (by omega)]; exact nx
theorem k_cworthOf {d : Nat} {M : q_Mem} {K : Int → q_Mem → Prop} {o : Int → Int} {s : Nat} (hd : 0 < d) (hs : s < 2147483648) (hn : z_net o) (hc : z_cst M o) (hw : ∀ l : Nat, l < z_L o → M 90 l = z_wr o l) (h : K (z_ws (z_wr o) s (z_L o)) M) : q_kI yX11_worthOfCut mX11_worthOfCut d [qR 1, qI (s : Int)] M K :=
  q_goI hd rfl (plainFor_of_name (by decide +kernel)) rfl (fun h => nomatch h) (Nat.le_of_ble_eq_true rfl) (fun d hd => bX11_worthOfCut_0 _ (l_cwoc hs hn hc hw h (z_L o) 0 (by omega)))
/-- what they are worth is what the sides are worth -/
theorem z_ws_cut {o w : Int → Int} {s : Nat} : ∀ {n m : Nat}, n ≤ m → z_ws w (z_set (fun l => z_cut o s l) m) n = z_sum (fun l => if z_cut o s l then w l else 0) n
  | 0, _, _ => rfl
  | n + 1, m, h => by
    show z_ws w _ n + (if (z_set (fun l => z_cut o s l) m).testBit n then w n else 0) = z_sum (fun l => if z_cut o s l then w l else 0) n + (if z_cut o s n then w n else 0)
    rw [z_ws_cut (by omega), z_set_bit]
    simp [show n < m by omega]
theorem z_ws_cb {o : Int → Int} : z_ws (z_wr o) (z_cb o) (z_L o) = z_V2 o (z_s o) := z_ws_cut (Nat.le_refl _)
theorem z_cb_lt {o : Int → Int} (hn : z_net o) : z_cb o < 65536 := Nat.lt_of_lt_of_le z_set_lt (by show 2 ^ z_L o ≤ 2 ^ 16; exact Nat.pow_le_pow_right (by decide) (z_net_L16 hn))
