-- the class: single deeds, told deeds
def z_RC (M : q_Mem) (o : Int → Int) : Prop := z_cst M o ∧ ∃ fr, z_ca M o fr
/-- what a deed leaves as it was -/
def z_df (M M' : q_Mem) : Prop := (∀ a, a ≠ 1 → ¬ (50 ≤ a ∧ a ≤ 52) → M' a = M a) ∧ ∀ k, k ≠ 18 → M' 1 k = M 1 k
theorem z_df_rf {M : q_Mem} : z_df M M := ⟨fun _ _ _ => rfl, fun _ _ => rfl⟩
theorem z_df_tr {M M' M'' : q_Mem} (h : z_df M M') (h2 : z_df M' M'') : z_df M M'' := ⟨fun a g1 g2 => (h2.1 a g1 g2).trans (h.1 a g1 g2), fun k g => (h2.2 k g).trans (h.2 k g)⟩
theorem z_cpl_eq {M M' : q_Mem} {o : Int → Int} (h1 : M 1 4 = 3 ∨ M 1 4 = 18) (h2 : z_pl M (M 1 4) o) (e1 : M' 1 4 = M 1 4) (e : ∀ a, 3 ≤ a → a ≤ 30 → M' a = M a) : z_pl M' (M' 1 4) o := by
  rw [e1]
  rcases h1 with h1 | h1 <;> rw [h1] at h2 ⊢ <;> exact z_pl_eq h2 (e _ (by omega) (by omega)) (e _ (by omega) (by omega)) (e _ (by omega) (by omega)) (e _ (by omega) (by omega)) (e _ (by omega) (by omega)) (e _ (by omega) (by omega)) (e _ (by omega) (by omega)) (e _ (by omega) (by omega))
theorem z_sd_do {M' : q_Mem} {o o' : Int → Int} (en : z_eqn o o') (hn : z_net o) (h0 : M' 50 0 = o' 1) (h1 : M' 50 1 = o' 2) (h2 : ∀ l : Nat, l < z_L o → M' 51 l = o' (3 + l)) (h3 : ∀ n i : Nat, n < z_N o → i < z_dg o n → M' 52 ((16 * n + i : Nat) : Int) = o' (1 + 18 + (z_st o n : Int) + (i : Int))) : z_sd M' 50 o' 1 := by
  have hN := z_net_N10 hn
  refine ⟨h0, h1, fun l hl => ?_, fun n hn2 i hi => ?_⟩
  · rw [e_L en] at hl
    exact h2 l hl
  · rw [e_N en] at hn2
    rw [e_dg en (by omega)] at hi
    rw [e_st en (by omega)]
    exact h3 n i hn2 hi
theorem z_cst_do {M M' : q_Mem} {o o' : Int → Int} (hE : z_E o) (hc : z_cst M o) (ho : z_ost o o') (f : z_df M M') (h0 : M' 50 0 = o' 1) (h1 : M' 50 1 = o' 2) (h2 : ∀ l : Nat, l < z_L o → M' 51 l = o' (3 + l)) (h3 : ∀ n i : Nat, n < z_N o → i < z_dg o n → M' 52 ((16 * n + i : Nat) : Int) = o' (1 + 18 + (z_st o n : Int) + (i : Int))) : z_cst M' o' :=
  ⟨by rw [f.2 4 (by decide)]; exact hc.1, e_pl (z_ost_n ho) hE.1 hE.2.1 (z_cpl_eq hc.1 hc.2.1 (f.2 4 (by decide)) (fun a g1 g2 => f.1 a (by omega) (by omega))), z_sd_do (z_ost_n ho) hE.1 h0 h1 h2 h3⟩
theorem z_ca_do {M M' : q_Mem} {o o' : Int → Int} (hE : z_E o) {fr f1 : Nat} (hc : z_ca M o fr) (ho : z_ost o o') (f : z_df M M') (e : M' 1 18 = (f1 : Int)) (h64 : f1 < 64) (hs : ∀ k, k < 6 → f1.testBit k = true → fr.testBit k = true ∧ ((k = 0 ∨ 3 ≤ k) → z_eqr o o') ∧ (k ≠ 0 → z_eqw o o')) : z_ca M' o' f1 :=
  ⟨e, h64, fun k hk hb => e_hv (z_ost_n ho) hE (hs k hk hb).2.1 (hs k hk hb).2.2 (z_hv_eq hE (fun a ha => f.1 a (by unfold z_OP at ha; omega) (by unfold z_OP at ha; omega)) (hc.2.2 k hk (hs k hk hb).1))⟩
theorem z_clW : ∀ fr : Nat, fr < 64 → q_and (fr : Int) (-63) = ((fr &&& 1 : Nat) : Int) ∧ fr &&& 1 < 64 ∧ ∀ k, k < 6 → (fr &&& 1).testBit k = true → fr.testBit k = true ∧ k = 0 := by decide +kernel
theorem z_clS : ∀ fr : Nat, fr < 64 → q_and (fr : Int) (-58) = ((fr &&& 6 : Nat) : Int) ∧ fr &&& 6 < 64 ∧ ∀ k, k < 6 → (fr &&& 6).testBit k = true → fr.testBit k = true ∧ (k = 1 ∨ k = 2) := by decide +kernel
theorem z_rr_at {M : q_Mem} {o : Int → Int} (hc : z_cst M o) {n i : Nat} (hn : n < z_N o) (hi : i < z_dg o n) : M 52 ((16 * n + i : Nat) : Int) = o (1 + 18 + (z_st o n : Int) + (i : Int)) := hc.2.2.2.2.2 n hn i hi
/-- one node flipped -/
theorem z_rc_fl {M M' : q_Mem} {o : Int → Int} (hE : z_E o) (hc : z_RC M o) {s : Nat} (hs : s < 2 ^ z_N o) (e : M' = q_up M 50 1 (s : Int)) : z_df M M' ∧ z_RC M' (z_put o 2 (s : Int)) := by
  have ho := z_ost_put (o := o) (k := 2) (v := (s : Int)) (by omega)
  have f : z_df M M' := ⟨fun a g1 g2 => by rw [e, q_up_o (by omega)], fun k g => by rw [e, q_up_o (by omega)]⟩
  obtain ⟨hc, fr, ha⟩ := hc
  have hN := z_net_N10 hE.1
  refine ⟨f, z_cst_do hE hc ho f ?_ ?_ (fun l hl => ?_) (fun n i hn hi => ?_), fr, z_ca_do hE ha ho f ?_ ha.2.1 (fun k hk hb => ⟨hb, fun _ j g1 g2 => z_put_n (by omega), fun _ => ⟨z_put_n (by omega), fun l _ => z_put_n (by omega)⟩⟩)⟩
  · rw [e, q_up_n (by decide), z_put_n (by decide)]; exact hc.2.2.1
  · rw [e, q_up_s, z_put_s]
  · rw [e, q_up_o (by decide), z_put_n (by omega)]; exact z_cst_g hc hl
  · rw [e, q_up_o (by decide), z_put_n (by omega)]; exact z_rr_at hc hn hi
  · rw [e, q_up_o (by decide)]; exact ha.1
theorem k_setWarmth {d : Nat} {M : q_Mem} {K : q_Mem → Prop} {o : Int → Int} {t : Int} (hd : 0 < d) (hE : z_E o) (hc : z_RC M o) (h : ∀ M', z_df M M' → z_RC M' (z_wm o t) → K M') : q_kU yX11_setWarmth mX11_setWarmth d [qR 1, qI t] M K := by
  obtain ⟨hc, fr, ha⟩ := hc
  replace h : ∀ M', z_df M M' → z_RC M' (z_put o 1 t) → K M' := h
  have ho := z_ost_put (o := o) (k := 1) (v := t) (by omega)
  have cl := z_clW fr ha.2.1
  refine q_goU hd rfl (plainFor_of_name (by decide +kernel)) rfl (fun h => nomatch h) (Nat.le_of_ble_eq_true rfl) (fun d hd => bX11_setWarmth_0 _ (fun M1 e1 M2 e2 => ?_))
  rw [show M1 1 18 = (fr : Int) by rw [e1, q_up_o (by decide)]; exact ha.1, cl.1] at e2
  have f : z_df M M2 := ⟨fun a g1 g2 => by rw [e2, q_up_o (by omega), e1, q_up_o (by omega)], fun k g => by rw [e2, q_up_n g, e1, q_up_o (by decide)]⟩
  refine h M2 f ⟨z_cst_do hE hc ho f ?_ ?_ (fun l hl => ?_) (fun n i hn hi => ?_), _, z_ca_do hE ha ho f (by rw [e2, q_up_s]) cl.2.1 (fun k hk hb => ⟨(cl.2.2 k hk hb).1, fun _ j g1 g2 => z_put_n (by omega), fun q => absurd (cl.2.2 k hk hb).2 q⟩)⟩
  · rw [e2, q_up_o (by decide), e1, q_up_s]; exact z_put_s.symm
  · rw [e2, q_up_o (by decide), e1, q_up_n (by decide), z_put_n (by decide)]; exact hc.2.2.2.1
  · rw [e2, q_up_o (by decide), e1, q_up_o (by decide), z_put_n (by omega)]; exact z_cst_g hc hl
  · rw [e2, q_up_o (by decide), e1, q_up_o (by decide), z_put_n (by omega)]; exact z_rr_at hc hn hi
theorem k_setGain {d : Nat} {M : q_Mem} {K : q_Mem → Prop} {o : Int → Int} {l : Nat} {t : Int} (hd : 0 < d) (hE : z_E o) (hc : z_RC M o) (hl : l < z_L o) (h : ∀ M', z_df M M' → z_RC M' (z_wg o l t) → K M') : q_kU yX11_setGain mX11_setGain d [qR 1, qI (l : Int), qI t] M K := by
  obtain ⟨hc, fr, ha⟩ := hc
  have hL := z_net_L16 hE.1
  replace h : ∀ M', z_df M M' → z_RC M' (z_put o (3 + (l : Int)) t) → K M' := h
  have ho := z_ost_put (o := o) (k := 3 + (l : Int)) (v := t) (by omega)
  have cl := z_clW fr ha.2.1
  refine q_goU hd rfl (plainFor_of_name (by decide +kernel)) rfl (fun h => nomatch h) (Nat.le_of_ble_eq_true rfl) (fun d hd => bX11_setGain_0 _ _ ⟨by omega, fun M1 e1 M2 e2 => ?_⟩)
  rw [show M1 1 18 = (fr : Int) by rw [e1, q_up_o (by decide)]; exact ha.1, cl.1] at e2
  have f : z_df M M2 := ⟨fun a g1 g2 => by rw [e2, q_up_o (by omega), e1, q_up_o (by omega)], fun k g => by rw [e2, q_up_n g, e1, q_up_o (by decide)]⟩
  refine h M2 f ⟨z_cst_do hE hc ho f ?_ ?_ (fun m hm => ?_) (fun n i hn hi => ?_), _, z_ca_do hE ha ho f (by rw [e2, q_up_s]) cl.2.1 (fun k hk hb => ⟨(cl.2.2 k hk hb).1, fun _ j g1 g2 => z_put_n (by omega), fun q => absurd (cl.2.2 k hk hb).2 q⟩)⟩
  · rw [e2, q_up_o (by decide), e1, q_up_o (by decide), z_put_n (by omega)]; exact hc.2.2.1
  · rw [e2, q_up_o (by decide), e1, q_up_o (by decide), z_put_n (by omega)]; exact hc.2.2.2.1
  · rw [e2, q_up_o (by decide), e1]
    by_cases c : m = l
    · subst c; rw [q_up_s, z_put_s]
    · rw [q_up_n (by omega), z_put_n (by omega)]; exact z_cst_g hc hm
  · rw [e2, q_up_o (by decide), e1, q_up_o (by decide), z_put_n (by have := z_net_dg hE.1 (n := n) (by have := z_net_N10 hE.1; omega); omega)]; exact z_rr_at hc hn hi
theorem k_swap {d : Nat} {M : q_Mem} {K : q_Mem → Prop} {o : Int → Int} {n i : Nat} (hd : 0 < d) (hE : z_E o) (hc : z_RC M o) (h9 : n < z_N o) (hi : i + 1 < z_dg o n) (h : ∀ M', z_df M M' → z_RC M' (z_tn o n i) → K M') : q_kU yX11_swapPlaces mX11_swapPlaces d [qR 1, qI (n : Int), qI (i : Int)] M K := by
  obtain ⟨hc, fr, ha⟩ := hc
  have hL := z_net_L16 hE.1
  have hN := z_net_N10 hE.1
  have dg := z_net_dg hE.1 (n := n) (by omega)
  have sL := z_net_stL hE.1 (n := n + 1) (by omega)
  have ho := z_ost_tn (o := o) (n := n) (i := i) (by omega)
  have cl := z_clS fr ha.2.1
  have v1 := z_rr_at hc h9 (show i < z_dg o n by omega)
  have v2 := z_rr_at hc h9 hi
  have ex1 : ((16 * n + (i + 1) : Nat) : Int) = ((16 * n + i : Nat) : Int) + 1 := by omega
  rw [ex1] at v2
  refine q_goU hd rfl (plainFor_of_name (by decide +kernel)) rfl (fun h => nomatch h) (Nat.le_of_ble_eq_true rfl) (fun d hd => bX11_swapPlaces_0 _ _ (fun x3 e3 => ?_))
  rw [q_mul_eq (by omega), q_add_eq (by omega), show (n : Int) * 16 + (i : Int) = ((16 * n + i : Nat) : Int) by omega] at e3
  subst e3
  rw [q_add_eq (by omega)]
  refine ⟨by omega, fun x4 e4 => ⟨by omega, by omega, fun M6 e6 => ⟨by omega, fun M8 e8 M9 e9 => ?_⟩⟩⟩
  rw [v2] at e6
  rw [e4, v1] at e8
  rw [show M8 1 18 = (fr : Int) by rw [e8, q_up_o (by decide), e6, q_up_o (by decide)]; exact ha.1, cl.1] at e9
  have f : z_df M M9 := ⟨fun a g1 g2 => by rw [e9, q_up_o (by omega), e8, q_up_o (by omega), e6, q_up_o (by omega)], fun k g => by rw [e9, q_up_n g, e8, q_up_o (by decide), e6, q_up_o (by decide)]⟩
  have low : ∀ j : Int, j < 19 → z_tn o n i j = o j := fun j hj => by
    unfold z_tn
    rw [if_neg (by omega), if_neg (by omega)]
  refine h M9 f ⟨z_cst_do hE hc ho f ?_ ?_ (fun m hm => ?_) (fun m k hm hk => ?_), _, z_ca_do hE ha ho f (by rw [e9, q_up_s]) cl.2.1 (fun k hk hb => ⟨(cl.2.2 k hk hb).1, fun q => by have := (cl.2.2 k hk hb).2; omega, fun _ => ⟨low 1 (by omega), fun l hl => low _ (by omega)⟩⟩)⟩
  · rw [e9, q_up_o (by decide), e8, q_up_o (by decide), e6, q_up_o (by decide), low _ (by omega)]; exact hc.2.2.1
  · rw [e9, q_up_o (by decide), e8, q_up_o (by decide), e6, q_up_o (by decide), low _ (by omega)]; exact hc.2.2.2.1
  · rw [e9, q_up_o (by decide), e8, q_up_o (by decide), e6, q_up_o (by decide), low _ (by omega)]; exact z_cst_g hc hm
  · have dm := z_net_dg hE.1 (n := m) (by omega)
    rw [z_tn_v hE.1 h9 hi hm hk, e9, q_up_o (by decide), e8]
    by_cases c : m = n
    · subst c
      rw [if_pos rfl]
      unfold z_sw
      by_cases c1 : k = i
      · subst c1
        rw [if_pos rfl, q_up_n (by omega), e6, q_up_s]
      · rw [if_neg c1]
        by_cases c2 : k = i + 1
        · subst c2
          rw [if_pos rfl, ex1, q_up_s]
        · rw [if_neg c2, q_up_n (by omega), e6, q_up_n (by omega)]
          exact z_rr_at hc hm hk
    · rw [if_neg c, q_up_n (by omega), e6, q_up_n (by omega)]
      exact z_rr_at hc hm hk
theorem k_doFlip {d : Nat} {M : q_Mem} {K : Int → q_Mem → Prop} {o : Int → Int} {n : Int} (hd : 1 < d) (hE : z_E o) (hc : z_RC M o) (h1 : 0 ≤ n → n < z_N o → ∀ M', z_df M M' → z_RC M' (z_flp o n.toNat) → K 1 M') (h0 : ¬ (0 ≤ n ∧ n < z_N o) → K 0 M) : q_kI yX11_doFlip mX11_doFlip d [qR 1, qI n] M K := by
  have hN := z_net_N10 hE.1
  have s := z_E_s hE
  refine q_goI hd rfl (plainFor_of_name (by decide +kernel)) rfl (fun h => nomatch h) (Nat.le_of_ble_eq_true rfl) (fun d hd => bX11_doFlip_0 _ (k_hasNode (by omega) hE.1 hc.1 (fun g1 g2 => ⟨fun _ M3 e3 => ?_, fun g => absurd g (by decide)⟩) (fun g => ⟨fun q => absurd rfl q, fun _ => h0 g⟩)))
  obtain ⟨m, rfl⟩ : ∃ m : Nat, n = (m : Int) := ⟨n.toNat, by omega⟩
  rw [z_E_sM hE hc.1, q_xor1 (by omega) (by omega)] at e3
  have := z_rc_fl hE hc (z_flip_lt s.2.1 (n := m) (by omega)) e3
  exact h1 g1 g2 M3 this.1 this.2
theorem k_doTurn {d : Nat} {M : q_Mem} {K : Int → q_Mem → Prop} {o : Int → Int} {n i : Int} (hd : 2 < d) (hE : z_E o) (hc : z_RC M o) (h1 : (0 ≤ n ∧ n < z_N o) → (0 ≤ i ∧ i + 1 < z_dg o n.toNat) → ∀ M', z_df M M' → z_RC M' (z_tn o n.toNat i.toNat) → K 1 M') (h0 : ¬ ((0 ≤ n ∧ n < z_N o) ∧ 0 ≤ i ∧ i + 1 < z_dg o n.toNat) → K 0 M) : q_kI yX11_doTurn mX11_doTurn d [qR 1, qI n, qI i] M K := by
  refine q_goI hd rfl (plainFor_of_name (by decide +kernel)) rfl (fun h => nomatch h) (Nat.le_of_ble_eq_true rfl) (fun d hd => bX11_doTurn_0 _ _ (k_canTurn (by omega) hE.1 hc.1 (fun g1 g2 => ⟨fun _ => ?_, fun g => absurd g (by decide)⟩) (fun g => ⟨fun q => absurd rfl q, fun _ => h0 g⟩)))
  obtain ⟨m, rfl⟩ : ∃ m : Nat, n = (m : Int) := ⟨n.toNat, by omega⟩
  obtain ⟨k, rfl⟩ : ∃ m : Nat, i = (m : Int) := ⟨i.toNat, by omega⟩
  rw [Int.toNat_natCast] at g2
  have := h1 g1 (by rw [Int.toNat_natCast]; exact g2)
  rw [Int.toNat_natCast, Int.toNat_natCast] at this
  exact k_swap (by omega) hE hc (by omega) (by omega) this
theorem k_doWeigh {d : Nat} {M : q_Mem} {K : Int → q_Mem → Prop} {o : Int → Int} {l t : Int} (hd : 2 < d) (hE : z_E o) (hc : z_RC M o) (h1 : (0 ≤ l ∧ l < z_L o) → (-99 ≤ t ∧ t ≤ 99) → ∀ M', z_df M M' → z_RC M' (z_wg o l.toNat t) → K 1 M') (h0 : ¬ ((0 ≤ l ∧ l < z_L o) ∧ -99 ≤ t ∧ t ≤ 99) → K 0 M) : q_kI yX11_doWeigh mX11_doWeigh d [qR 1, qI l, qI t] M K := by
  refine q_goI hd rfl (plainFor_of_name (by decide +kernel)) rfl (fun h => nomatch h) (Nat.le_of_ble_eq_true rfl) (fun d hd => bX11_doWeigh_0 _ _ (k_canWeigh (by omega) hE.1 hc.1 (fun g1 g2 => ⟨fun _ => ?_, fun g => absurd g (by decide)⟩) (fun g => ⟨fun q => absurd rfl q, fun _ => h0 g⟩)))
  obtain ⟨m, rfl⟩ : ∃ m : Nat, l = (m : Int) := ⟨l.toNat, by omega⟩
  have := h1 g1 g2
  rw [Int.toNat_natCast] at this
  exact k_setGain (by omega) hE hc (by omega) this
theorem l_dd79 {d : Nat} {M : q_Mem} {K : Int → q_Mem → Prop} {o : Int → Int} {v : Int} (hd : 3 ≤ d) (hE : z_E o) (hc : z_RC M o) (hv : (20 ≤ v ∧ v < 100) ∨ (260 ≤ v ∧ v ≤ 17198)) (h1 : z_can o v → ∀ M', z_df M M' → z_RC M' (z_do o v) → K 1 M') (h0 : ¬ z_can o v → K 0 M) : q_v mX11_doDeed d (qPI K) M 79 [some (qR 1), none, none, some (qI v)] [] := by
  unfold z_can z_do at *
  refine bX11_doDeed_79 _ ⟨fun g => h0 (by omega), fun g => ?_⟩
  have dv : q_div (q_sub v 1000) 1000 = (v - 1000) / 1000 ∧ q_sub (q_rem (q_sub v 1000) 1000) 99 = (v - 1000) % 1000 - 99 := by
    rw [q_sub_eq (a := v) (by omega), q_div_nn (by unfold q_in32; omega) (by unfold q_in32; decide) (by omega), q_rem_nn (by unfold q_in32; omega) (by unfold q_in32; decide) (by omega) (by decide), q_sub_eq (by omega)]
    exact ⟨rfl, rfl⟩
  rw [dv.1, dv.2]
  refine k_doWeigh (by omega) hE hc (fun g1 g2 M' f' c' => ⟨fun q => absurd q (by decide), fun _ => ?_⟩) (fun g1 => ⟨fun _ => h0 (by omega), fun q => absurd rfl q⟩)
  rw [if_neg (by omega), if_neg (by omega), if_neg (by omega)] at h1
  exact h1 (by omega) M' f' c'
theorem k_doDeed {d : Nat} {M : q_Mem} {K : Int → q_Mem → Prop} {o : Int → Int} {v : Int} (hd : 3 < d) (hE : z_E o) (hc : z_RC M o) (h1 : z_can o v → ∀ M', z_df M M' → z_RC M' (z_do o v) → K 1 M') (h0 : ¬ z_can o v → K 0 M) : q_kI yX11_doDeed mX11_doDeed d [qR 1, qL v] M K := by
  have hN := z_net_N10 hE.1
  refine q_goI hd rfl (plainFor_of_name (by decide +kernel)) rfl (fun h => nomatch h) (Nat.le_of_ble_eq_true rfl) (fun d hd => bX11_doDeed_0 _ ⟨fun g => ?_, fun g => ⟨fun g2 x3 e3 => ?_, fun g2 => ?_⟩⟩)
  · rw [q_lcmp_lt] at g
    exact h0 (by unfold z_can; omega)
  · rw [q_lcmp_lt] at g
    rw [q_lcmp_le] at g2
    rw [q_l2i_eq (by unfold q_in32; omega)] at e3
    subst e3
    refine ⟨fun g3 => ⟨fun g4 => ⟨fun g5 => l_dd79 (by omega) hE hc (by omega) h1 h0, fun g5 => ⟨fun g6 => l_dd79 (by omega) hE hc (by omega) h1 h0, fun g6 => ?_⟩⟩, fun g4 => ?_⟩, fun g3 => ?_⟩
    · unfold z_can z_do at *
      have dv : q_div (q_sub x3 100) 16 = (x3 - 100) / 16 ∧ q_rem (q_sub x3 100) 16 = (x3 - 100) % 16 := by
        rw [q_sub_eq (by omega)]
        exact ⟨q_div_nn (by unfold q_in32; omega) (by unfold q_in32; decide) (by omega), q_rem_nn (by unfold q_in32; omega) (by unfold q_in32; decide) (by omega) (by decide)⟩
      rw [dv.1, dv.2]
      refine k_doTurn (by omega) hE hc (fun q1 q2 M' f' c' => ⟨Or.inr rfl, ?_⟩) (fun q => ⟨Or.inl rfl, h0 (by omega)⟩)
      rw [if_neg (by omega), if_neg (by omega), if_pos (by omega)] at h1
      exact h1 (by omega) M' f' c'
    · unfold z_can z_do at *
      rw [q_sub_eq (by omega)]
      refine k_setWarmth (by omega) hE hc (fun M' f' c' => ?_)
      rw [if_neg (by omega), if_pos (by omega)] at h1
      exact h1 (by omega) M' f' c'
    · unfold z_can z_do at *
      refine k_doFlip (by omega) hE hc (fun q1 q2 M' f' c' => ⟨Or.inr rfl, ?_⟩) (fun q => ⟨Or.inl rfl, h0 (by omega)⟩)
      rw [if_pos (by omega)] at h1
      exact h1 (by omega) M' f' c'
  · rw [q_lcmp_le] at g2
    exact h0 (by unfold z_can; omega)
theorem l_doDeeds {d : Nat} {M0 : q_Mem} {K : Int → q_Mem → Prop} {x : Int} {m : Nat} (hd : 4 ≤ d) (hx : x = 161 ∨ x = 163 ∨ x = 165 ∨ x = 167) (hm : M0 x 0 = (m : Int)) (hm40 : m ≤ 40) (v0 : Nat → Int) (hv : ∀ k, k < m → v0 k = M0 (x + 1) k)
    {o0 : Int → Int} (h : ∀ (M' : q_Mem) (n : Nat) (s : Prop) (o' : Int → Int), z_df M0 M' → z_tl v0 m o0 n s o' → z_RC M' o' → K (n : Int) M') :
    ∀ (j i : Nat) (M : q_Mem) (o : Int → Int), i + j = m → z_df M0 M → z_E o → z_RC M o → (∀ n s o', z_tl (fun k => v0 (i + k)) j o n s o' → z_tl v0 m o0 (i + n) s o') → q_v mX11_doDeeds d (qPI K) M 4 [some (qR 1), some (qR x), some (qI (i : Int)), some (qI (i : Int))] [] := by
  have kx : q_kd x = 9 := by rcases hx with rfl | rfl | rfl | rfl <;> decide +kernel
  have lx : q_lay x 2 = x + 1 := by rcases hx with rfl | rfl | rfl | rfl <;> decide +kernel
  intro j
  induction j with
  | zero =>
    intro i M o e f hE hc q
    have ei : i = m := by omega
    subst ei
    refine bX11_doDeeds_4 _ _ _ kx ?_
    rw [f.1 x (by omega) (by omega), hm]
    exact ⟨fun _ => h M i False o f (by simpa using q 0 False o ⟨rfl, id, rfl⟩) hc, fun g => absurd (by omega) g⟩
  | succ j ih =>
    intro i M o e f hE hc q
    refine bX11_doDeeds_4 _ _ _ kx ?_
    rw [f.1 x (by omega) (by omega), hm, lx, f.1 (x + 1) (by omega) (by omega), ← hv i (by omega)]
    refine ⟨fun g => absurd g (by omega), fun _ => ⟨by omega, k_doDeed (by omega) hE hc (fun g M' f' c' => ⟨fun _ => ?_, fun q => absurd q (by decide)⟩) (fun g => ⟨fun q => absurd rfl q, fun _ => ?_⟩)⟩⟩
    · rw [q_add_eq (by omega), show (i : Int) + 1 = ((i + 1 : Nat) : Int) by omega]
      refine ih (i + 1) M' (z_do o (v0 i)) (by omega) (z_df_tr f f') (z_E_do hE g).1 c' (fun n s o' a => ?_)
      have := q (n + 1) s o' (Or.inr ⟨g, n, rfl, by rw [show (fun k => (fun k => v0 (i + k)) (k + 1)) = (fun k => v0 (i + 1 + k)) by funext k; show v0 (i + (k + 1)) = _; congr 1; omega]; exact a⟩)
      rw [show i + 1 + n = i + (n + 1) by omega]
      exact this
    · exact h M i True o f (q 0 True o (Or.inl ⟨g, rfl, trivial, rfl⟩)) hc
theorem k_doDeeds {d : Nat} {M : q_Mem} {K : Int → q_Mem → Prop} {x : Int} {m : Nat} {o : Int → Int} (hd : 4 < d) (hx : x = 161 ∨ x = 163 ∨ x = 165 ∨ x = 167) (hm : M x 0 = (m : Int)) (hm40 : m ≤ 40) (hE : z_E o) (hc : z_RC M o) (h : ∀ (M' : q_Mem) (n : Nat) (s : Prop) (o' : Int → Int), z_df M M' → z_tl (fun k => M (x + 1) k) m o n s o' → z_RC M' o' → K (n : Int) M') : q_kI yX11_doDeeds mX11_doDeeds d [qR 1, qR x] M K :=
  q_goI hd rfl (plainFor_of_name (by decide +kernel)) rfl (fun h => nomatch h) (Nat.le_of_ble_eq_true rfl) (fun d hd => bX11_doDeeds_0 _ (by rcases hx with rfl | rfl | rfl | rfl <;> decide +kernel) (l_doDeeds hd hx hm hm40 _ (fun k _ => rfl) h m 0 M o (by omega) z_df_rf hE hc (fun n s o' a => by simpa using a)))
