-- the reference reads a law, lines
theorem r_D_setl {D : p_D} {M M' : q_Mem} {i : Nat} {cs : List Int} {b : Nat} (hi : i < 2) (h : r_D D M) (hb : b = d_t D) (hL : d_L D ≤ 16) (hl : ∀ j b cs, d_l D j = some (b, cs) → b + cs.length ≤ d_t D) (e : ∀ j : Int, j ≠ 603 → j ≠ 96 + (i : Int) → j ≠ 98 + (i : Int) → j ≠ 100 + (i : Int) → j < 604 + (b : Int) → M' 182 j = M 182 j) (e3 : M' 183 = M 183) (e4 : M' 184 = M 184) (h603 : M' 182 603 = ((d_t D + cs.length : Nat) : Int)) (h96 : M' 182 (96 + (i : Int)) = 1) (h98 : M' 182 (98 + (i : Int)) = (d_t D : Int)) (h100 : M' 182 (100 + (i : Int)) = (cs.length : Int)) (hc : ∀ k : Nat, k < cs.length → M' 182 ((604 + d_t D + k : Nat) : Int) = cs.getD k 0) : r_D (d_setl D i cs) M' := by
  subst hb
  obtain ⟨a1, a2, a3, a4, a5, a6, a7, a8, a9, a10⟩ := h
  refine ⟨by rw [e _ (by omega) (by omega) (by omega) (by omega) (by omega)]; exact a1, by rw [e _ (by omega) (by omega) (by omega) (by omega) (by omega)]; exact a2, by rw [e _ (by omega) (by omega) (by omega) (by omega) (by omega)]; exact a3, by rw [e _ (by omega) (by omega) (by omega) (by omega) (by omega)]; exact a4, by rw [e _ (by omega) (by omega) (by omega) (by omega) (by omega)]; exact a5, by rw [e _ (by omega) (by omega) (by omega) (by omega) (by omega)]; exact a6, h603, fun l hl2 => ?_, by rw [e3, e4]; exact a9, fun j hj => ?_⟩
  · have hl3 : l < d_L D := hl2
    rw [e _ (by omega) (by omega) (by omega) (by omega) (by omega), e _ (by omega) (by omega) (by omega) (by omega) (by omega), e _ (by omega) (by omega) (by omega) (by omega) (by omega)]
    exact a8 l hl3
  · show ((if j = i then some (d_t D, cs) else d_l D j) = none → _) ∧ ∀ b cs', (if j = i then some (d_t D, cs) else d_l D j) = some (b, cs') → _
    by_cases c : j = i
    · rw [if_pos c, c]
      refine ⟨fun q => absurd q (by simp), fun b cs' q => ?_⟩
      have q := Option.some.inj q
      have q1 : d_t D = b := congrArg Prod.fst q
      have q2 : cs = cs' := congrArg Prod.snd q
      rw [← q1, ← q2]
      exact ⟨h96, h98, h100, hc⟩
    · rw [if_neg c, e _ (by omega) (by omega) (by omega) (by omega) (by omega), e _ (by omega) (by omega) (by omega) (by omega) (by omega), e _ (by omega) (by omega) (by omega) (by omega) (by omega)]
      refine ⟨(a10 j hj).1, fun b cs' q => ?_⟩
      have := (a10 j hj).2 b cs' q
      have l2 := hl j b cs' q
      exact ⟨this.1, this.2.1, this.2.2.1, fun k hk => by rw [e _ (by omega) (by omega) (by omega) (by omega) (by omega)]; exact this.2.2.2 k hk⟩
theorem r_a0_at {bt : Nat → Int} {n b : Nat} {s : p_S} {M : q_Mem} (h : r_a0 bt n s M) (h1 : s.2.2.2 = []) (h2 : M 182 603 = (b : Int)) : r_at bt n b s M := ⟨h.1, h.2.1, h.2.2.1, h.2.2.2, by rw [h1, h2]; rfl, fun k hk => by rw [h1] at hk; exact absurd hk (Nat.not_lt_zero k)⟩
theorem r_fz_r {b : Nat} {M M' : q_Mem} (h : r_fr b M M') : r_fz M M' := z_fr_mono h.1 (by decide) (by decide)
theorem rq_law {d : Nat} {M : q_Mem} {K : q_Mem → Prop} {bt : Nat → Int} {n F i : Nat} {s : p_S} {D : p_D} (hd : 57 < d) (hF : n < F) (hi : i < 2) (hs : r_q bt n (s, D) M) (hw : s.2.1 = 0) (hlt : s.1 < n) (hok : d_ok n s D) (h : ∀ M', r_fz M M' → r_q bt n (q_law (z_tks bt n) F i s D) M' → K M') : q_kU yX12_readLaw mX12_readLaw d [qR 178, qI (i : Int)] M K := by
  have D1 : r_D D M := hs.2 hw
  have n9 := hs.1.1.2.1
  have L16 := hok.2.1
  unfold q_law at h
  have cs0 : (p_want (z_tks bt n) 31 (p_go s)).2.2.2 = [] := by rw [p_want_cs]; exact hok.2.2.2.2.2.2.2
  have bd0 : p_bd (d_t D) n s := ⟨by rw [hok.2.2.2.2.2.2.2]; have := hok.2.2.2.2.2.1; show d_t D + 0 + 2 ≤ s.1; omega, hok.2.2.2.2.2.2.1⟩
  have bd2 : p_bd (d_t D) n (p_want (z_tks bt n) 31 (p_go s)) := p_bd_up (p_bd_1 (p_bd_go bd0 hlt)) ((p_want_ok z_tks_lt (by decide)).2 _)
  have ok := q_lsp_ok (F := F) (i := i) (z_tks_lt (bt := bt) (n := n))
  have bd3 := p_bd_up bd2 (ok.2 _)
  refine q_goU hd rfl (plainFor_of_name (by decide +kernel)) rfl (fun h => nomatch h) (Nat.le_of_ble_eq_true rfl) (fun d hd => bX12_readLaw_0 _ (r0_goes (by omega) hs.1 (fun M1 f1 r1 => r0_wants (by omega) r1 (fun M2 f2 r2 x2 e2 => ?_))))
  have f02 : r_f0 M M2 := z_fr_tr f1 f2
  have D2 := r_D_f D1 f02
  have at2 := r_a0_at r2 cs0 D2.2.2.2.2.2.2.1
  rw [D2.2.2.2.2.2.2.1] at e2
  subst e2
  have a0c : ∀ M3, r_at bt n (d_t D) (q_lsp (z_tks bt n) F i (p_want (z_tks bt n) 31 (p_go s))) M3 → r_a0 bt n ((q_lsp (z_tks bt n) F i (p_want (z_tks bt n) 31 (p_go s))).1, (q_lsp (z_tks bt n) F i (p_want (z_tks bt n) 31 (p_go s))).2.1, (q_lsp (z_tks bt n) F i (p_want (z_tks bt n) 31 (p_go s))).2.2.1, []) M3 := fun M3 q => ⟨q.1, q.2.1, q.2.2.1, q.2.2.2.1⟩
  have fin : ∀ M3, r_fr (d_t D) M2 M3 → r_at bt n (d_t D) (q_lsp (z_tks bt n) F i (p_want (z_tks bt n) 31 (p_go s))) M3 → q_v mX12_readLaw d (qPU K) M3 36 [some (qR 178), some (qI (i : Int)), some (qI (d_t D : Int))] [] := by
    intro M3 f3 r3
    have F3 : r_fz M M3 := z_fr_tr (r_fz_0 f02) (r_fz_r f3)
    refine bX12_readLaw_36 _ _ ?_
    rw [r3.2.2.1, q_add_eq (by omega), q_add_eq (by omega), q_add_eq (by omega)]
    refine ⟨fun g => ⟨by omega, fun M4 e4 => ⟨by omega, fun M5 e5 => ⟨by omega, fun M6 e6 => ?_⟩⟩⟩, fun g => h M3 F3 ⟨a0c M3 r3, fun q => absurd q g⟩⟩
    have f6 : z_fr z_ZS [] M3 M6 := z_fr_u (z_fr_u (z_fr_u z_fr_rf e4 (by decide) (by decide)) e5 (by decide) (by decide)) e6 (by decide) (by decide)
    have b1 := bd3.1
    have b2 := bd3.2
    have t5 : M5 182 603 = ((d_t D + (q_lsp (z_tks bt n) F i (p_want (z_tks bt n) 31 (p_go s))).2.2.2.length : Nat) : Int) := by
      rw [e5, q_up_n (by omega), e4, q_up_n (by omega)]; exact r3.2.2.2.2.1
    rw [t5, q_sub_eq (by omega), show ((d_t D + (q_lsp (z_tks bt n) F i (p_want (z_tks bt n) 31 (p_go s))).2.2.2.length : Nat) : Int) - (d_t D : Int) = ((q_lsp (z_tks bt n) F i (p_want (z_tks bt n) 31 (p_go s))).2.2.2.length : Int) by omega] at e6
    rw [if_pos g] at h
    refine h M6 (z_fr_tr F3 (z_fr_mono f6 (by decide) (by decide))) ⟨r_a0_z (a0c M3 r3) f6, fun _ => r_D_setl (b := d_t D) hi D2 rfl L16 (fun j b cs q => (hok.2.2.2.2.1 j b cs q).2.1) (fun j h1 h2 h3 h4 h5 => ?_) ?_ ?_ ?_ ?_ ?_ ?_ (fun k hk => ?_)⟩
    · rw [e6, q_up_n (by omega), e5, q_up_n (by omega), e4, q_up_n (by omega)]
      exact f3.2 j h1 h5
    · rw [e6, q_up_o (by decide), e5, q_up_o (by decide), e4, q_up_o (by decide)]
      exact f3.1.1 183 (by decide) (by decide)
    · rw [e6, q_up_o (by decide), e5, q_up_o (by decide), e4, q_up_o (by decide)]
      exact f3.1.1 184 (by decide) (by decide)
    · rw [e6, q_up_n (by omega)]; exact t5
    · rw [e6, q_up_n (by omega), e5, q_up_n (by omega), e4, q_up_s]
    · rw [e6, q_up_n (by omega), e5, q_up_s]
    · rw [e6, q_up_s]
    · rw [e6, q_up_n (by omega), e5, q_up_n (by omega), e4, q_up_n (by omega)]
      exact r3.2.2.2.2.2 k hk
  have lv := r_lv (bt := bt) (n := n) (b := d_t D) (F := F) hF 6 0 (by decide)
  unfold q_lsp at fin
  refine ⟨fun g => ?_, fun g => ?_⟩
  · rw [if_neg (by omega)] at fin
    exact lv.2.1 (by omega) at2 bd2 fin
  · rw [if_pos (by omega)] at fin
    exact lv.1 (by omega) at2 bd2 fin
theorem rq_closes {d : Nat} {M : q_Mem} {K : q_Mem → Prop} {bt : Nat → Int} {n : Nat} {Q : p_Q} (hd : 8 < d) (hs : r_q bt n Q M) (hL : Q.1.2.1 = 0 → d_L Q.2 ≤ 16) (h : ∀ M', r_fz M M' → r_q bt n (q_close (z_tks bt n) Q) M' → K M') : q_kU yX12_closes mX12_closes d [qR 178] M K := by
  refine q_goU hd rfl (plainFor_of_name (by decide +kernel)) rfl (fun h => nomatch h) (Nat.le_of_ble_eq_true rfl) (fun d hd => bX12_closes_0 (r0_wants (by omega) hs.1 (fun M1 f1 r1 M2 e2 => ?_)))
  have f2 : z_fr z_ZS [] M1 M2 := z_fr_u z_fr_rf e2 (by decide) (by decide)
  refine h M2 (z_fr_tr (r_fz_0 f1) (z_fr_mono f2 (by decide) (by decide))) ⟨r_a0_z r1 f2, fun q => ?_⟩
  have w : Q.1.2.1 = 0 := (p_want_0 (n := n) z_tks_lt (by decide) q).1
  have D1 := r_D_f (hs.2 w) f1
  have L16 := hL w
  obtain ⟨a1, a2, a3, a4, a5, a6, a7, a8, a9, a10⟩ := D1
  have e : ∀ j, j ≠ 0 → M2 182 j = M1 182 j := fun j hj => by rw [e2, q_up_n hj]
  have e3 : M2 183 = M1 183 := by rw [e2, q_up_o (by decide)]
  have e4 : M2 184 = M1 184 := by rw [e2, q_up_o (by decide)]
  have up : M2 182 0 = q_add (d_n Q.2) 1 := by rw [e2, q_up_s, a1]
  clear e2
  refine ⟨up, by rw [e _ (by decide)]; exact a2, by rw [e _ (by decide)]; exact a3, by rw [e _ (by decide)]; exact a4, by rw [e _ (by decide)]; exact a5, by rw [e _ (by decide)]; exact a6, by rw [e _ (by decide)]; exact a7, fun l hl => ?_, by rw [e3, e4]; exact a9, fun i hi => ?_⟩
  · rw [e _ (by omega), e _ (by omega), e _ (by omega)]
    exact a8 l hl
  · rw [e _ (by omega), e _ (by omega), e _ (by omega)]
    refine ⟨(a10 i hi).1, fun b cs q => ?_⟩
    have := (a10 i hi).2 b cs q
    exact ⟨this.1, this.2.1, this.2.2.1, fun k hk => by rw [e _ (by omega)]; exact this.2.2.2 k hk⟩
theorem rq_line {d : Nat} {M : q_Mem} {K : q_Mem → Prop} {bt : Nat → Int} {n F : Nat} {s : p_S} {D : p_D} (hd : 58 < d) (hF : n < F) (hs : r_q bt n (s, D) M) (hw : s.2.1 = 0) (hlt : s.1 < n) (hok : d_ok n s D) (h : ∀ M', r_fz M M' → r_q bt n (q_line (z_tks bt n) F s D) M' → K M') : q_kU yX12_readLine mX12_readLine d [qR 178] M K := by
  have N10 := hok.1
  have L16 := hok.2.1
  unfold q_line at h
  have k11 : M 178 11 = (z_tks bt n s.1).1 := r_a0_11 hs.1
  have a0 : r_a0 bt n s M := hs.1
  refine q_goU hd rfl (plainFor_of_name (by decide +kernel)) rfl (fun h => nomatch h) (Nat.le_of_ble_eq_true rfl) (fun d hd => bX12_readLine_0 ⟨fun _ => r0_is (by omega) a0 (fun g => ⟨fun q => absurd q (by decide), fun _ => ?_⟩) (fun g => ⟨fun _ => r0_is (by omega) a0 (fun g2 => ⟨fun q => absurd q (by decide), fun _ => ?_⟩) (fun g2 => ⟨fun _ => r0_is (by omega) a0 (fun g3 => ⟨fun q => absurd q (by decide), fun _ => ?_⟩) (fun g3 => ⟨fun _ => r0_is (by omega) a0 (fun g4 => ⟨fun _ => ?_, fun q => absurd q (by decide)⟩) (fun g4 => ⟨fun q => absurd rfl q, fun _ => r0_is (by omega) a0 (fun g5 => ⟨fun q => absurd q (by decide), fun _ => ?_⟩) (fun g5 => ⟨fun _ => r0_fails (by omega) a0 (fun M1 f1 r1 => ?_), fun q => absurd rfl q⟩)⟩), fun q => absurd rfl q⟩), fun q => absurd rfl q⟩), fun q => absurd rfl q⟩), fun q => absurd (by rw [hs.1.2.2.1]; exact hw) q⟩)
  · rw [if_pos (p_is_n (by decide) g).2.1] at h
    exact rq_node (by omega) hs hw N10 L16 h
  · rw [if_neg (c_nf hw g), if_pos (p_is_n (by decide) g2).2.1] at h
    exact rq_link (by omega) hs hw N10 L16 h
  · rw [if_neg (c_nf hw g), if_neg (c_nf hw g2), if_pos (p_is_n (by decide) g3).2.1] at h
    exact rq_round (by omega) hF hs hw hlt hok h
  · have k := (p_is_n (by decide) g4).2.1
    rw [if_neg (c_nf hw g), if_neg (c_nf hw g2), if_neg (c_nf hw g3), if_pos k] at h
    refine bX12_readLine_72 ?_
    rw [k11, k, show q_sub 7 7 = ((0 : Nat) : Int) by decide]
    exact rq_law (by omega) hF (by decide) hs hw hlt hok h
  · have k := (p_is_n (by decide) g5).2.1
    rw [if_neg (c_nf hw g), if_neg (c_nf hw g2), if_neg (c_nf hw g3), if_neg (c_nf hw g4), if_pos k] at h
    refine bX12_readLine_72 ?_
    rw [k11, k, show q_sub 8 7 = ((1 : Nat) : Int) by decide]
    exact rq_law (by omega) hF (by decide) hs hw hlt hok h
  · rw [if_neg (c_nf hw g), if_neg (c_nf hw g2), if_neg (c_nf hw g3), if_neg (c_nf hw g4), if_neg (c_nf hw g5)] at h
    exact h M1 (r_fz_0 f1) ⟨r1, fun q => absurd q (p_fail_n (by decide))⟩
/-- the lines hold together -/
theorem q_lines_ok {n F : Nat} {tk : p_T} (hT : ∀ t, (tk t).1 ≠ 21 → t < n) (hN : ∀ t, (tk t).1 = 20 → 0 ≤ (tk t).2.2 ∧ (tk t).2.2 ≤ 999) : ∀ (f : Nat) (Q : p_Q), (Q.1.2.1 = 0 → d_ok n Q.1 Q.2) → n < f + Q.1.1 ∨ ¬ Q.1.2.1 = 0 → ((q_lines tk F f Q).1.2.1 = 0 → d_ok n (q_lines tk F f Q).1 (q_lines tk F f Q).2 ∧ (tk (q_lines tk F f Q).1.1).1 = 21)
  | 0, Q, h, hf => fun w => by
    have w : Q.1.2.1 = 0 := w
    refine ⟨h w, ?_⟩
    by_cases c : (tk Q.1.1).1 = 21
    · exact c
    · have := hT _ c
      have := hf.resolve_right (fun q => q w)
      omega
  | f + 1, Q, h, hf => by
    unfold q_lines
    by_cases c : Q.1.2.1 = 0 ∧ (tk Q.1.1).1 ≠ 21
    · rw [if_pos c]
      have ok := q_close_ok hT (q_line_ok (F := F) hT hN (hT _ c.2) c.1 (h c.1))
      refine q_lines_ok hT hN f _ (fun w => (ok w).1) ?_
      by_cases w : (q_close tk (q_line tk F Q.1 Q.2)).1.2.1 = 0
      · have := (ok w).2
        have := hf.resolve_right (fun q => q c.1)
        exact Or.inl (by omega)
      · exact Or.inr w
    · rw [if_neg c]
      intro w
      refine ⟨h w, ?_⟩
      by_cases c2 : (tk Q.1.1).1 = 21
      · exact c2
      · exact absurd ⟨w, c2⟩ c
theorem l_rn {bt : Nat → Int} {n d F : Nat} {M0 : q_Mem} {K : Int → q_Mem → Prop} (hd : 59 ≤ d) (hF : n < F) :
    ∀ (f : Nat) (Q : p_Q) (M : q_Mem), (Q.1.2.1 = 0 → d_ok n Q.1 Q.2) → n < f + Q.1.1 ∨ ¬ Q.1.2.1 = 0 → r_q bt n Q M → r_fz M0 M → (∀ M', r_fz M0 M' → r_q bt n (q_lines (z_tks bt n) F f Q) M' → q_v mX12_net d (qPI K) M' 128 [some (qR 178), none, none] []) → q_v mX12_net d (qPI K) M 101 [some (qR 178), none, none] []
  | 0, Q, M, hok, hf, hs, f0, h => by
    refine bX12_net_101 ?_
    rw [hs.1.2.2.1, r_a0_11 hs.1]
    refine ⟨fun _ => h M f0 hs, fun w => ⟨fun _ => h M f0 hs, fun c => ?_⟩⟩
    have := z_tks_lt (bt := bt) (n := n) _ c
    have := hf.resolve_right (fun q => q w)
    omega
  | f + 1, Q, M, hok, hf, hs, f0, h => by
    unfold q_lines at h
    refine bX12_net_101 ?_
    rw [hs.1.2.2.1, r_a0_11 hs.1]
    refine ⟨fun w => ?_, fun w => ⟨fun c => ?_, fun c => ?_⟩⟩
    · rw [if_neg (fun q => w q.1)] at h
      exact h M f0 hs
    · rw [if_neg (fun q => q.2 c)] at h
      exact h M f0 hs
    · rw [if_pos ⟨w, c⟩] at h
      have lt := z_tks_lt (bt := bt) (n := n) _ c
      have ok1 := q_line_ok (F := F) (z_tks_lt (bt := bt) (n := n)) z_tks_num lt w (hok w)
      have ok := q_close_ok (z_tks_lt (bt := bt) (n := n)) ok1
      refine rq_line (by omega) hF hs w lt (hok w) (fun M1 f1 r1 => rq_closes (by omega) r1 (fun q => (ok1 q).1.2.1) (fun M2 f2 r2 => l_rn hd hF f _ M2 (fun q => (ok q).1) ?_ r2 (z_fr_tr f0 (z_fr_tr f1 f2)) h))
      by_cases w2 : (q_close (z_tks bt n) (q_line (z_tks bt n) F Q.1 Q.2)).1.2.1 = 0
      · have := (ok w2).2
        have := hf.resolve_right (fun q => q w)
        exact Or.inl (by omega)
      · exact Or.inr w2
