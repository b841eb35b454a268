-- the reference reads a round, a law, lines
def l_ct : List Nat → Nat → Nat
  | [], _ => 0
  | x :: l, k => (if x < k then 1 else 0) + l_ct l k
theorem l_ct_s : ∀ {l : List Nat} {k : Nat}, l_nd l → l_ct l (k + 1) = l_ct l k + (if k ∈ l then 1 else 0)
  | [], k, _ => by simp [l_ct]
  | x :: l, k, h => by
    have ih := l_ct_s (k := k) h.2
    show (if x < k + 1 then 1 else 0) + l_ct l (k + 1) = (if x < k then 1 else 0) + l_ct l k + _
    rw [ih]
    by_cases e : x = k
    · subst e
      rw [if_pos (Nat.lt_succ_self x), if_neg h.1, if_neg (Nat.lt_irrefl x), if_pos (List.mem_cons_self)]
      omega
    · have iff : k ∈ x :: l ↔ k ∈ l := by
        rw [List.mem_cons]
        exact ⟨fun q => q.resolve_left (fun q2 => e q2.symm), Or.inr⟩
      by_cases c : k ∈ l
      · rw [if_pos c, if_pos (iff.mpr c)]
        by_cases c2 : x < k
        · rw [if_pos c2, if_pos (by omega)]; omega
        · rw [if_neg c2, if_neg (by omega)]; omega
      · rw [if_neg c, if_neg (fun q => c (iff.mp q))]
        by_cases c2 : x < k
        · rw [if_pos c2, if_pos (by omega)]; omega
        · rw [if_neg c2, if_neg (by omega)]; omega
theorem l_ct_le {l : List Nat} (h : l_nd l) : ∀ k, l_ct l k ≤ k
  | 0 => by
    have : ∀ l : List Nat, l_ct l 0 = 0 := fun l => by
      induction l with
      | nil => rfl
      | cons x l ih => show (if x < 0 then 1 else 0) + l_ct l 0 = 0; rw [ih, if_neg (Nat.not_lt_zero x)]
    rw [this]
    exact Nat.le_refl 0
  | k + 1 => by
    have ih := l_ct_le h k
    rw [l_ct_s h]
    split <;> omega
theorem l_ct_all : ∀ {l : List Nat} {k : Nat}, (∀ x ∈ l, x < k) → l_ct l k = l.length
  | [], _, _ => rfl
  | x :: l, k, h => by
    show (if x < k then 1 else 0) + l_ct l k = _
    rw [if_pos (h x List.mem_cons_self), l_ct_all (fun y hy => h y (List.mem_cons_of_mem _ hy)), List.length_cons]
    omega
theorem l_nd_len {l : List Nat} {k : Nat} (h : l_nd l) (h2 : ∀ x ∈ l, x < k) : l.length ≤ k := by
  rw [← l_ct_all h2]
  exact l_ct_le h k
theorem d_on_lt {D : p_D} {l m : Nat} (h : d_on D l m = true) : l < d_L D := by
  unfold d_on at h
  rw [Bool.and_eq_true, decide_eq_true_eq] at h
  exact h.1
theorem d_r_16 {n : Nat} {s : p_S} {D : p_D} (h : d_ok n s D) {m : Nat} : (d_r D m).length ≤ d_L D := l_nd_len (h.2.2.2.1 m).1 (fun x hx => d_on_lt ((h.2.2.2.1 m).2 x hx))
theorem d_on_w {D : p_D} {l m : Nat} (h1 : l < d_L D) : d_on D l m = true ↔ ((d_k D l).1 = m ∨ (d_k D l).2.1 = m) := by
  unfold d_on
  rw [decide_eq_true h1, Bool.true_and, Bool.or_eq_true, decide_eq_true_eq, decide_eq_true_eq]
theorem rq_isOf {d : Nat} {M : q_Mem} {K : Int → q_Mem → Prop} {D : p_D} {l m : Nat} {v : Int} (hd : 0 < d) (hv : v = (l : Int)) (hD : r_D D M) (hL : d_L D ≤ 16) (h1 : d_on D l m = true → K 1 M) (h0 : ¬ d_on D l m = true → K 0 M) : q_kI yX12_isOf mX12_isOf d [qR 178, qR 182, qI v, qI (m : Int)] M K := by
  subst hv
  obtain ⟨a1, a2, a3, a4, a5, a6, a7, a8, a9, a10⟩ := hD
  have ln : q_ln 182 = 1504 := by decide +kernel
  refine q_goI hd rfl (plainFor_of_name (by decide +kernel)) rfl (fun h => nomatch h) (Nat.le_of_ble_eq_true rfl) (fun d hd => qr_cut (ls' := [none, some (qR 182), some (qI (l : Int)), some (qI (m : Int))]) 0 ⟨rfl, rfl, rfl, trivial⟩ (bX12_isOf_0 182 _ _ (by decide +kernel) ⟨⟨by decide, by rw [ln]; decide⟩, ?_⟩))
  rw [a5, ln]
  refine ⟨fun g => h0 (fun q => by have := d_on_lt q; omega), fun g => ?_⟩
  have hl : l < d_L D := by omega
  have a := a8 l hl
  rw [q_add_eq (by omega), q_add_eq (by omega), a.1, a.2.1]
  refine ⟨by omega, fun g1 => h1 ((d_on_w hl).mpr (Or.inl (by omega))), fun g1 => ⟨by omega, fun g2 => h0 (fun q => ?_), fun g2 => h1 ((d_on_w hl).mpr (Or.inr (by omega)))⟩⟩
  rcases (d_on_w hl).mp q with q | q <;> omega
theorem l_irt {d : Nat} {M : q_Mem} {K : Int → q_Mem → Prop} {D : p_D} {m l : Nat} (hm : m < 10) (hD : r_D D M) (h16 : (d_r D m).length ≤ 16) (h1 : l ∈ d_r D m → K 1 M) (h0 : l ∉ d_r D m → K 0 M) :
    ∀ (j i : Nat), i + j = (d_r D m).length → (∀ x, x < i → (d_r D m).getD x 0 ≠ l) → q_v mX12_isRoundTold d (qPI K) M 2 [some (qR 178), some (qI (m : Int)), some (qI (l : Int)), some (qI (i : Int))] [] := by
  have R := hD.2.2.2.2.2.2.2.2.1 m hm
  intro j
  induction j with
  | zero =>
    intro i e q
    refine bX12_isRoundTold_2 _ _ _ ⟨by omega, fun _ => h0 (fun g => ?_), fun g => absurd (by rw [R.1]; omega) g⟩
    obtain ⟨x, hx, ex⟩ := List.getElem_of_mem g
    exact q x (by omega) (by rw [List.getD_eq_getElem?_getD, List.getElem?_eq_getElem hx]; exact ex)
  | succ j ih =>
    intro i e q
    refine bX12_isRoundTold_2 _ _ _ ⟨by omega, fun g => absurd g (by rw [R.1]; omega), fun _ => ?_⟩
    rw [q_mul_eq (by omega), q_add_eq (by omega), R.2 i (by omega), q_add_eq (a := (i : Int)) (by omega), show (i : Int) + 1 = ((i + 1 : Nat) : Int) by omega]
    refine ⟨by omega, fun g => ih (i + 1) (by omega) (fun x hx => ?_), fun g => h1 ?_⟩
    · by_cases c : x = i
      · rw [c]; omega
      · exact q x (by omega)
    · have hx : i < (d_r D m).length := by omega
      have : (d_r D m)[i] = l := by
        have g : ((d_r D m).getD i 0 : Int) = (l : Int) := g
        rw [List.getD_eq_getElem?_getD, List.getElem?_eq_getElem hx] at g
        have g : (((d_r D m)[i] : Nat) : Int) = (l : Int) := g
        omega
      rw [← this]
      exact List.getElem_mem hx
theorem rq_irt {d : Nat} {M : q_Mem} {K : Int → q_Mem → Prop} {D : p_D} {m l : Nat} {v : Int} (hd : 0 < d) (hv : v = (l : Int)) (hm : m < 10) (hD : r_D D M) (h16 : (d_r D m).length ≤ 16) (h1 : l ∈ d_r D m → K 1 M) (h0 : l ∉ d_r D m → K 0 M) : q_kI yX12_isRoundTold mX12_isRoundTold d [qR 178, qI (m : Int), qI v] M K := by
  subst hv
  exact q_goI hd rfl (plainFor_of_name (by decide +kernel)) rfl (fun h => nomatch h) (Nat.le_of_ble_eq_true rfl) (fun d hd => bX12_isRoundTold_0 _ _ (l_irt hm hD h16 h1 h0 (d_r D m).length 0 (Nat.zero_add _) (fun x hx => absurd hx (Nat.not_lt_zero x))))
theorem r_D_setr {D : p_D} {M M' : q_Mem} {m : Nat} {ls : List Nat} (h : r_D D M) (e2 : M' 182 = M 182) (e3 : ∀ x : Int, x ≠ (m : Int) → M' 183 x = M 183 x) (e4 : ∀ x : Int, (x < 16 * (m : Int) ∨ 16 * (m : Int) + 16 ≤ x) → M' 184 x = M 184 x) (h16 : ∀ x, (d_r D x).length ≤ 16) (hl : M' 183 m = (ls.length : Int)) (hx : ∀ i : Nat, i < ls.length → M' 184 (16 * (m : Int) + (i : Int)) = (ls.getD i 0 : Int)) : r_D (d_setr D m ls) M' := by
  obtain ⟨a1, a2, a3, a4, a5, a6, a7, a8, a9, a10⟩ := h
  refine ⟨by rw [e2]; exact a1, by rw [e2]; exact a2, by rw [e2]; exact a3, by rw [e2]; exact a4, by rw [e2]; exact a5, by rw [e2]; exact a6, by rw [e2]; exact a7, fun l hl => by rw [e2]; exact a8 l hl, fun x hx9 => ?_, fun i hi => by rw [e2]; exact a10 i hi⟩
  rw [d_setr_r]
  by_cases c : x = m
  · subst c
    rw [if_pos rfl]
    exact ⟨hl, hx⟩
  · rw [if_neg c, e3 _ (by omega)]
    refine ⟨(a9 x hx9).1, fun i hi => ?_⟩
    have := h16 x
    rw [e4 _ (by omega)]
    exact (a9 x hx9).2 i hi
theorem l_rr {bt : Nat → Int} {n d m : Nat} {M0 : q_Mem} {K : q_Mem → Prop} (hd : 6 ≤ d) (hm : m < 10) :
    ∀ (f : Nat) (s : p_S) (D : p_D) (M : q_Mem), n < f + s.1 → s.2.1 = 0 → d_ok n s D → r_q bt n (s, D) M → r_fz M0 M → (∀ M', r_fz M0 M' → r_q bt n (q_rl (z_tks bt n) m f s D) M' → K M') → q_v mX12_readRound d (qPU K) M 34 [some (qR 178), some (qI (m : Int))] []
  | 0, s, D, M, hn, hw, hok, _, _, _ => by have := hok.2.2.2.2.2.2.1; omega
  | f + 1, s, D, M, hn, hw, hok, hs, f0, h => by
    have D1 : r_D D M := hs.2 hw
    have L16 := hok.2.1
    have r16 : ∀ x, (d_r D x).length ≤ 16 := fun x => Nat.le_trans (d_r_16 hok) L16
    unfold q_rl at h
    refine bX12_readRound_34 _ (r0_is (by omega) hs.1 (fun g => ⟨fun q => absurd q (by decide), fun _ => ?_⟩) (fun g => ⟨fun _ => ?_, fun q => absurd rfl q⟩))
    · have k20 : (z_tks bt n s.1).1 = 20 := (p_is_n (by decide) g).2.1
      have lt : s.1 < n := (p_is_n (by decide) g).2.2
      rw [if_pos k20] at h
      have nn := z_tks_num s.1 k20
      have n12 : M 178 12 = (z_tks bt n s.1).2.2 := (hs.1.2.1.2.2.2.1 k20).1
      have hv : (z_tks bt n s.1).2.2 = ((z_tks bt n s.1).2.2.toNat : Int) := by omega
      rw [n12]
      refine rq_isOf (by omega) hv D1 L16 (fun g1 => ⟨fun q => absurd q (by decide), fun _ => ?_⟩) (fun g1 => ⟨fun _ => r0_fails (by omega) hs.1 (fun M1 f1 r1 => ?_), fun q => absurd rfl q⟩)
      · rw [n12]
        refine rq_irt (by omega) hv hm D1 (r16 m) (fun g2 => ⟨fun q => absurd q (by decide), fun _ => r0_fails (by omega) hs.1 (fun M1 f1 r1 => ?_)⟩) (fun g2 => ⟨fun _ => ?_, fun q => absurd rfl q⟩)
        · rw [if_neg (fun q => q.2 g2)] at h
          exact h M1 (z_fr_tr f0 (r_fz_0 f1)) ⟨r1, fun q => absurd q (p_fail_n (by decide))⟩
        · rw [if_pos ⟨g1, g2⟩] at h
          have R := D1.2.2.2.2.2.2.2.2.1 m hm
          have nd := hok.2.2.2.1 m
          have l15 : (d_r D m).length + 1 ≤ d_L D := by
            have := l_nd_len (l := d_r D m ++ [(z_tks bt n s.1).2.2.toNat]) (k := d_L D) (l_nd_app nd.1 g2) (fun x hx => by
              simp at hx
              rcases hx with q | q
              · exact d_on_lt (nd.2 x q)
              · rw [q]; exact d_on_lt g1)
            rw [List.length_append, List.length_singleton] at this
            exact this
          rw [R.1, n12, q_mul_eq (by omega), q_add_eq (by omega)]
          refine ⟨by omega, by omega, fun M10 e10 => ⟨by omega, by omega, fun M13 e13 => ?_⟩⟩
          have f10 : z_fr z_ZS [] M M10 := z_fr_u z_fr_rf e10 (by decide) (by decide)
          have f13 : z_fr z_ZS [] M M13 := z_fr_u f10 e13 (by decide) (by decide)
          have l10 : M10 183 m = ((d_r D m).length : Int) := by rw [e10, q_up_o (by decide)]; exact R.1
          rw [l10, q_add_eq (by omega)] at e13
          have r13 := r_a0_z hs.1 f13
          have D13 : r_D (d_setr D m (d_r D m ++ [(z_tks bt n s.1).2.2.toNat])) M13 := by
            refine r_D_setr D1 (by rw [e13, q_up_o (by decide), e10, q_up_o (by decide)]) (fun x hx => by rw [e13, q_up_n hx, e10, q_up_o (by decide)]) (fun x hx => by rw [e13, q_up_o (by decide), e10, q_up_n (by omega)]) r16 ?_ (fun i hi => ?_)
            · rw [e13, q_up_s, List.length_append, List.length_singleton]; omega
            · rw [List.length_append, List.length_singleton] at hi
              rw [e13, q_up_o (by decide), e10]
              by_cases c : i = (d_r D m).length
              · subst c
                rw [q_up_s, List.getD_eq_getElem?_getD, List.getElem?_append_right (Nat.le_refl _), Nat.sub_self]
                exact hv
              · rw [q_up_n (by omega), R.2 i (by omega), List.getD_eq_getElem?_getD, List.getD_eq_getElem?_getD, List.getElem?_append_left (by omega)]
          refine r0_goes (by omega) r13 (fun M14 f14 r14 => ?_)
          have okn := (q_rl_ok (n := n) (z_tks_lt (bt := bt)) (m := m) (s0 := (0, 0, 0, [])) 1 s D hok (by have := hok.2.2.2.2.2.1; show 0 < s.1; omega))
          have okn2 : d_nx n (0, 0, 0, []) (q_rl (z_tks bt n) m 0 (p_go s) (d_setr D m (d_r D m ++ [(z_tks bt n s.1).2.2.toNat]))) := by
            unfold q_rl at okn
            rw [if_pos k20, if_pos ⟨g1, g2⟩] at okn
            exact okn
          exact l_rr hd hm f (p_go s) _ M14 (by show n < f + (s.1 + 1); omega) hw (okn2 hw).1 ⟨r14, fun _ => r_D_f D13 f14⟩ (z_fr_tr f0 (z_fr_tr (z_fr_mono f13 (by decide) (by decide)) (r_fz_0 f14))) h
      · rw [if_neg (fun q => g1 q.1)] at h
        exact h M1 (z_fr_tr f0 (r_fz_0 f1)) ⟨r1, fun q => absurd q (p_fail_n (by decide))⟩
    · rw [if_neg (c_nf hw g)] at h
      exact h M f0 hs
theorem rq_round {d : Nat} {M : q_Mem} {K : q_Mem → Prop} {bt : Nat → Int} {n F : Nat} {s : p_S} {D : p_D} (hd : 8 < d) (hF : n < F) (hs : r_q bt n (s, D) M) (hw : s.2.1 = 0) (hlt : s.1 < n) (hok : d_ok n s D) (h : ∀ M', r_fz M M' → r_q bt n (q_round (z_tks bt n) F s D) M' → K M') : q_kU yX12_readRound mX12_readRound d [qR 178] M K := by
  have D1 : r_D D M := hs.2 hw
  have L16 := hok.2.1
  have N10 := hok.1
  have r16 : ∀ x, (d_r D x).length ≤ 16 := fun x => Nat.le_trans (d_r_16 hok) L16
  unfold q_round at h
  refine q_goU hd rfl (plainFor_of_name (by decide +kernel)) rfl (fun h => nomatch h) (Nat.le_of_ble_eq_true rfl) (fun d hd => bX12_readRound_0 (r0_goes (by omega) hs.1 (fun M1 f1 r1 => ?_)))
  have D2 := r_D_f D1 f1
  rw [D2.2.2.2.1, q_sub_eq (by omega)]
  refine r0_takes (by omega) r1 (fun v M2 f2 r2 e2 => ?_)
  have D3 := r_D_f D2 f2
  rw [r2.2.2.1]
  refine ⟨fun g => ?_, fun g => ?_⟩
  · obtain ⟨ev, k20⟩ : v = (z_tks bt n (s.1 + 1)).2.2 ∧ (z_tks bt n (s.1 + 1)).1 = 20 := e2 g
    obtain ⟨_, _, l1, eg, lt1⟩ := p_take_0 (n := n) z_tks_lt g
    have l1 : (z_tks bt n (s.1 + 1)).2.2 ≤ (d_N D : Int) - 1 := l1
    have lt1 : s.1 + 1 < n := lt1
    have nn := z_tks_num (s.1 + 1) k20
    rw [if_pos g] at h
    rw [eg] at h r2
    refine ⟨by omega, fun M5 e5 => ?_⟩
    have f5 : z_fr z_ZS [] M2 M5 := z_fr_u z_fr_rf e5 (by decide) (by decide)
    have hv : v = ((z_tks bt n (s.1 + 1)).2.2.toNat : Int) := by omega
    rw [hv] at e5 ⊢
    have D5 : r_D (d_setr D (z_tks bt n (s.1 + 1)).2.2.toNat []) M5 := r_D_setr D3 (by rw [e5, q_up_o (by decide)]) (fun x hx => by rw [e5, q_up_n hx]) (fun x hx => by rw [e5, q_up_o (by decide)]) r16 (by rw [e5, q_up_s]; rfl) (fun i hi => absurd hi (Nat.not_lt_zero i))
    have ok5 : d_ok n (p_go (p_go s)) (d_setr D (z_tks bt n (s.1 + 1)).2.2.toNat []) := by
      obtain ⟨a1, a2, a3, a4, a5, a6, a7, a8⟩ := hok
      refine ⟨a1, a2, a3, fun x => ?_, a5, by show d_t D + 2 ≤ s.1 + 1 + 1; omega, by show s.1 + 1 + 1 ≤ n; omega, a8⟩
      rw [d_setr_r]
      by_cases c : x = (z_tks bt n (s.1 + 1)).2.2.toNat
      · rw [if_pos c]
        exact ⟨trivial, fun l hl => absurd hl (by simp)⟩
      · rw [if_neg c]
        exact a4 x
    exact l_rr (by omega) (by omega) F (p_go (p_go s)) _ M5 (by show n < F + (s.1 + 1 + 1); omega) hw ok5 ⟨r_a0_z r2 f5, fun _ => D5⟩ (z_fr_tr (r_fz_0 f1) (z_fr_tr (r_fz_0 f2) (z_fr_mono f5 (by decide) (by decide)))) h
  · rw [if_neg g] at h
    exact h M2 (z_fr_tr (r_fz_0 f1) (r_fz_0 f2)) ⟨r2, fun q => absurd q g⟩
