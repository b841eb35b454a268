-- the reference reads a link
theorem p_take_w {tk : p_T} {hi : Int} {s : p_S} (h : ¬ s.2.1 = 0) : p_take tk hi s = s := by
  unfold p_take
  rw [if_neg h]
def r_of (D : p_D) (M M' : q_Mem) : Prop := (∀ j : Int, j ≠ 53 + (d_L D : Int) → j ≠ 69 + (d_L D : Int) → j ≠ 3 + (d_L D : Int) → M' 182 j = M 182 j) ∧ M' 183 = M 183 ∧ M' 184 = M 184
theorem r_of_u {D : p_D} {M M1 M2 : q_Mem} {k v : Int} (f : r_of D M M1) (e : M2 = q_up M1 182 k v) (hk : k = 53 + (d_L D : Int) ∨ k = 69 + (d_L D : Int) ∨ k = 3 + (d_L D : Int)) : r_of D M M2 :=
  ⟨fun j a b c => by rw [e, q_up_n (by omega)]; exact f.1 j a b c, by rw [e, q_up_o (by decide)]; exact f.2.1, by rw [e, q_up_o (by decide)]; exact f.2.2⟩
theorem r_of_f {D : p_D} {M M1 M2 : q_Mem} (f : r_of D M M1) (g : r_f0 M1 M2) : r_of D M M2 := by
  unfold r_of
  rw [g.1 182 (by decide) (by decide), g.1 183 (by decide) (by decide), g.1 184 (by decide) (by decide)]
  exact f
theorem r_D_of {D : p_D} {M M' : q_Mem} (h : r_D D M) (hL : d_L D < 16) (f : r_of D M M') : r_D D M' := by
  obtain ⟨e, e3, e4⟩ := f
  obtain ⟨a1, a2, a3, a4, a5, a6, a7, a8, a9, a10⟩ := h
  refine ⟨by rw [e _ (by omega) (by omega) (by omega)]; exact a1, by rw [e _ (by omega) (by omega) (by omega)]; exact a2, by rw [e _ (by omega) (by omega) (by omega)]; exact a3, by rw [e _ (by omega) (by omega) (by omega)]; exact a4, by rw [e _ (by omega) (by omega) (by omega)]; exact a5, by rw [e _ (by omega) (by omega) (by omega)]; exact a6, by rw [e _ (by omega) (by omega) (by omega)]; exact a7, fun l hl => ?_, by rw [e3, e4]; exact a9, fun i hi => ?_⟩
  · rw [e _ (by omega) (by omega) (by omega), e _ (by omega) (by omega) (by omega), e _ (by omega) (by omega) (by omega)]
    exact a8 l hl
  · rw [e _ (by omega) (by omega) (by omega), e _ (by omega) (by omega) (by omega), e _ (by omega) (by omega) (by omega)]
    refine ⟨(a10 i hi).1, fun b cs q => ?_⟩
    have := (a10 i hi).2 b cs q
    exact ⟨this.1, this.2.1, this.2.2.1, fun k hk => by rw [e _ (by omega) (by omega) (by omega)]; exact this.2.2.2 k hk⟩
theorem r_D_addl {D : p_D} {M M' : q_Mem} {a b : Nat} {g : Int} (h : r_D D M) (hL : d_L D < 16) (e : ∀ j : Int, j ≠ 52 → M' 182 j = M 182 j) (e3 : M' 183 = M 183) (e4 : M' 184 = M 184) (h52 : M' 182 52 = (d_L D : Int) + 1) (ha : M 182 (53 + (d_L D : Int)) = (a : Int)) (hb : M 182 (69 + (d_L D : Int)) = (b : Int)) (hg : M 182 (3 + (d_L D : Int)) = g) : r_D (d_addl D (a, b, g)) M' := by
  obtain ⟨a1, a2, a3, a4, a5, a6, a7, a8, a9, a10⟩ := h
  refine ⟨by rw [e _ (by omega)]; exact a1, by rw [e _ (by omega)]; exact a2, by rw [e _ (by omega)]; exact a3, by rw [e _ (by omega)]; exact a4, by rw [h52]; rfl, by rw [e _ (by omega)]; exact a6, by rw [e _ (by omega)]; exact a7, fun l hl => ?_, by rw [e3, e4]; exact a9, fun i hi => ?_⟩
  · have hl : l < d_L D + 1 := hl
    rw [e _ (by omega), e _ (by omega), e _ (by omega)]
    show _ = (((if l = d_L D then (a, b, g) else d_k D l) : Nat × Nat × Int).1 : Int) ∧ _ = (((if l = d_L D then (a, b, g) else d_k D l) : Nat × Nat × Int).2.1 : Int) ∧ _ = ((if l = d_L D then (a, b, g) else d_k D l) : Nat × Nat × Int).2.2
    by_cases c : l = d_L D
    · rw [if_pos c, c]
      exact ⟨ha, hb, hg⟩
    · rw [if_neg c]
      exact a8 l (by omega)
  · rw [e _ (by omega), e _ (by omega), e _ (by omega)]
    refine ⟨(a10 i hi).1, fun b cs q => ?_⟩
    have := (a10 i hi).2 b cs q
    exact ⟨this.1, this.2.1, this.2.2.1, fun k hk => by rw [e _ (by omega)]; exact this.2.2.2 k hk⟩
section RL
variable {bt : Nat → Int} {n d : Nat} {K : q_Mem → Prop}
theorem r_b134 {M : q_Mem} {s : p_S} {x1 : Nat} {x2 : Int} (hd : 8 ≤ d) (hs : r_a0 bt n s M) (w : ¬ s.2.1 = 0) (h1 : x1 < 16) (h : ∀ M', r_fz M M' → r_a0 bt n s M' → K M') : q_v mX12_readLink d (qPU K) M 134 [some (qR 178), some (qI (x1 : Int)), some (qI x2), none] [] := by
  refine bX12_readLink_134 _ _ (r0_takes (by omega) hs (fun v M1 f1 r1 e1 => ?_))
  rw [p_take_w w] at r1
  rw [q_add_eq (by omega)]
  have go : ∀ v : Int, q_v mX12_readLink d (qPU K) M1 159 [some (qR 178), none, none, none] [qI v, qI (3 + (x1 : Int)), qR 182] := fun v => by
    refine bX12_readLink_159 _ _ _ (by decide +kernel) ⟨⟨by omega, by rw [show q_ln 182 = 1504 by decide +kernel]; omega⟩, fun M2 e2 => ?_⟩
    have f2 : z_fr z_ZS [] M1 M2 := z_fr_u z_fr_rf e2 (by decide) (by decide)
    have r2 := r_a0_z r1 f2
    exact ⟨fun _ => h M2 (z_fr_tr (r_fz_0 f1) (z_fr_mono f2 (by decide) (by decide))) r2, fun q => absurd (by rw [← r2.2.2.1]; exact q) w⟩
  exact ⟨fun _ => go _, fun _ => go _⟩
theorem r_b84 {M : q_Mem} {s : p_S} {x1 : Nat} (hd : 8 ≤ d) (hs : r_a0 bt n s M) (w : ¬ s.2.1 = 0) (h1 : x1 < 16) (h : ∀ M', r_fz M M' → r_a0 bt n s M' → K M') : q_v mX12_readLink d (qPU K) M 84 [some (qR 178), some (qI (x1 : Int)), none, none] [] := by
  refine bX12_readLink_84 _ (r0_takes (by omega) hs (fun v M1 f1 r1 e1 => ?_))
  rw [p_take_w w] at r1
  rw [q_add_eq (by omega)]
  refine ⟨by omega, fun M2 e2 => ?_⟩
  have f2 : z_fr z_ZS [] M1 M2 := z_fr_u z_fr_rf e2 (by decide) (by decide)
  have r2 := r_a0_z r1 f2
  have F2 : r_fz M M2 := z_fr_tr (r_fz_0 f1) (z_fr_mono f2 (by decide) (by decide))
  have no : ∀ {k : Int}, ¬ p_is (z_tks bt n) k s = true := fun {k} q => by rw [p_is_w w] at q; exact absurd q (by decide)
  refine r0_is (by omega) r2 (fun q => absurd q no) (fun _ => r0_eats (by omega) r2 (fun q => absurd q no) (fun _ => ⟨fun q => absurd rfl q, fun _ => r0_eats (by omega) r2 (fun q => absurd q no) (fun _ => ⟨fun q => absurd rfl q, fun _ => r0_fails (by omega) r2 (fun M3 f3 r3 => ?_)⟩)⟩))
  rw [p_fail_w w] at r3
  exact r_b134 hd r3 w h1 (fun M' f r => h M' (z_fr_tr F2 (z_fr_tr (r_fz_0 f3) f)) r)
theorem r_g134 {M0 M : q_Mem} {s : p_S} {D : p_D} {a b : Nat} {ng : Bool} (hd : 8 ≤ d) (hs : r_a0 bt n s M) (hw : s.2.1 = 0) (hL : d_L D < 16) (hD : r_D D M) (ha : M 182 (53 + (d_L D : Int)) = (a : Int)) (hb : M 182 (69 + (d_L D : Int)) = (b : Int)) (f0 : r_fz M0 M) (h : ∀ M', r_fz M0 M' → r_q bt n (q_link3 (z_tks bt n) a b ng s D) M' → K M') : q_v mX12_readLink d (qPU K) M 134 [some (qR 178), some (qI (d_L D : Int)), some (qI (if ng then 1 else 0)), none] [] := by
  refine bX12_readLink_134 _ _ (r0_takes (by omega) hs (fun v M1 f1 r1 e1 => ?_))
  unfold q_link3 at h
  rw [q_add_eq (by omega)]
  have D1 := r_D_f hD f1
  by_cases g : (p_take (z_tks bt n) 99 s).2.1 = 0
  · obtain ⟨ev, k20⟩ := e1 g
    obtain ⟨_, _, l99, _, _⟩ := p_take_0 (n := n) z_tks_lt g
    have nn := z_tks_num s.1 k20
    rw [if_pos g] at h
    have go : ∀ v2 : Int, v2 = (if ng then -(z_tks bt n s.1).2.2 else (z_tks bt n s.1).2.2) → q_v mX12_readLink d (qPU K) M1 159 [some (qR 178), none, none, none] [qI v2, qI (3 + (d_L D : Int)), qR 182] := fun v2 hv2 => by
      refine bX12_readLink_159 _ _ _ (by decide +kernel) ⟨⟨by omega, by rw [show q_ln 182 = 1504 by decide +kernel]; omega⟩, fun M2 e2 => ?_⟩
      have f2 : z_fr z_ZS [] M1 M2 := z_fr_u z_fr_rf e2 (by decide) (by decide)
      have r2 := r_a0_z r1 f2
      refine ⟨fun q => absurd (by rw [r2.2.2.1]; exact g) q, fun _ M3 e3 => ?_⟩
      have of2 : r_of D M1 M2 := r_of_u ⟨fun _ _ _ _ => rfl, rfl, rfl⟩ e2 (by omega)
      have D2 := r_D_of D1 hL of2
      have f3 : z_fr z_ZS [] M2 M3 := z_fr_u z_fr_rf e3 (by decide) (by decide)
      rw [D2.2.2.2.2.1, q_add_eq (by omega)] at e3
      refine h M3 (z_fr_tr f0 (z_fr_tr (r_fz_0 f1) (z_fr_tr (z_fr_mono f2 (by decide) (by decide)) (z_fr_mono f3 (by decide) (by decide))))) ⟨r_a0_z r2 f3, fun _ => r_D_addl D2 hL (fun j hj => by rw [e3, q_up_n hj]) (by rw [e3, q_up_o (by decide)]) (by rw [e3, q_up_o (by decide)]) (by rw [e3, q_up_s]) ?_ ?_ ?_⟩
      · rw [e2, q_up_n (by omega), f1.1 182 (by decide) (by decide)]; exact ha
      · rw [e2, q_up_n (by omega), f1.1 182 (by decide) (by decide)]; exact hb
      · rw [e2, q_up_s]; exact hv2
    cases ng with
    | true => exact ⟨fun q => absurd q (by decide), fun _ => by rw [q_neg_eq (by rw [ev]; omega)]; exact go _ (by rw [ev]; rfl)⟩
    | false => exact ⟨fun _ => go _ (by rw [ev]; rfl), fun q => absurd rfl q⟩
  · rw [if_neg g] at h
    have go : ∀ v2 : Int, q_v mX12_readLink d (qPU K) M1 159 [some (qR 178), none, none, none] [qI v2, qI (3 + (d_L D : Int)), qR 182] := fun v2 => by
      refine bX12_readLink_159 _ _ _ (by decide +kernel) ⟨⟨by omega, by rw [show q_ln 182 = 1504 by decide +kernel]; omega⟩, fun M2 e2 => ?_⟩
      have f2 : z_fr z_ZS [] M1 M2 := z_fr_u z_fr_rf e2 (by decide) (by decide)
      have r2 := r_a0_z r1 f2
      exact ⟨fun _ => h M2 (z_fr_tr f0 (z_fr_tr (r_fz_0 f1) (z_fr_mono f2 (by decide) (by decide)))) ⟨r2, fun q => absurd q g⟩, fun q => absurd (by rw [← r2.2.2.1]; exact q) g⟩
    exact ⟨fun _ => go _, fun _ => go _⟩
theorem r_g84 {M0 M : q_Mem} {s : p_S} {D : p_D} {a : Nat} (hd : 8 ≤ d) (hs : r_a0 bt n s M) (hw : s.2.1 = 0) (hN : d_N D ≤ 10) (hL : d_L D < 16) (hD : r_D D M) (ha : M 182 (53 + (d_L D : Int)) = (a : Int)) (f0 : r_fz M0 M) (h : ∀ M', r_fz M0 M' → r_q bt n (q_link2 (z_tks bt n) a s D) M' → K M') : q_v mX12_readLink d (qPU K) M 84 [some (qR 178), some (qI (d_L D : Int)), none, none] [] := by
  refine bX12_readLink_84 _ ?_
  rw [hD.2.2.2.1, q_sub_eq (by omega)]
  refine r0_takes (by omega) hs (fun v M1 f1 r1 e1 => ?_)
  unfold q_link2 at h
  rw [q_add_eq (by omega)]
  have D1 := r_D_f hD f1
  refine ⟨by omega, fun M2 e2 => ?_⟩
  have f2 : z_fr z_ZS [] M1 M2 := z_fr_u z_fr_rf e2 (by decide) (by decide)
  have r2 := r_a0_z r1 f2
  have F2 : r_fz M0 M2 := z_fr_tr f0 (z_fr_tr (r_fz_0 f1) (z_fr_mono f2 (by decide) (by decide)))
  by_cases g : (p_take (z_tks bt n) ((d_N D : Int) - 1) s).2.1 = 0
  · obtain ⟨ev, k20⟩ := e1 g
    obtain ⟨_, _, _, eg, _⟩ := p_take_0 (n := n) z_tks_lt g
    have nn := z_tks_num s.1 k20
    rw [if_pos g] at h
    rw [eg] at r2 h
    have of2 : r_of D M1 M2 := r_of_u ⟨fun _ _ _ _ => rfl, rfl, rfl⟩ e2 (by omega)
    have D2 := r_D_of D1 hL of2
    have ha2 : M2 182 (53 + (d_L D : Int)) = (a : Int) := by rw [e2, q_up_n (by omega), f1.1 182 (by decide) (by decide)]; exact ha
    have hb2 : M2 182 (69 + (d_L D : Int)) = ((z_tks bt n s.1).2.2.toNat : Int) := by rw [e2, q_up_s, ev]; omega
    have w2 : (p_go s).2.1 = 0 := hw
    have go : ∀ (ng : Bool) (M3 : q_Mem), r_f0 M2 M3 → r_a0 bt n (p_go (p_go s)) M3 → (∀ M', r_fz M0 M' → r_q bt n (q_link3 (z_tks bt n) a (z_tks bt n s.1).2.2.toNat ng (p_go (p_go s)) D) M' → K M') → q_v mX12_readLink d (qPU K) M3 134 [some (qR 178), some (qI (d_L D : Int)), some (qI (if ng then 1 else 0)), none] [] := fun ng M3 f3 r3 h => r_g134 hd r3 hw hL (r_D_f D2 f3) (by rw [f3.1 182 (by decide) (by decide)]; exact ha2) (by rw [f3.1 182 (by decide) (by decide)]; exact hb2) (z_fr_tr F2 (r_fz_0 f3)) h
    refine r0_is (by omega) r2 (fun g5 => ?_) (fun g5 => ?_)
    · have k5 : (z_tks bt n (s.1 + 1)).1 = 5 := (p_is_n (by decide) g5).2.1
      rw [if_pos k5] at h
      exact r0_eats (by omega) r2 (fun q => absurd (p_is_n (by decide) q).2.1 (by show ¬ (z_tks bt n (s.1 + 1)).1 = 4; rw [k5]; decide)) (fun _ => ⟨fun q => absurd rfl q, fun _ => r0_eats (by omega) r2 (fun _ M3 f3 r3 => ⟨fun _ => go true M3 f3 r3 h, fun q => absurd q (by decide)⟩) (fun q => by rw [g5] at q; exact absurd q (by decide))⟩)
    · have k5 : ¬ (z_tks bt n (s.1 + 1)).1 = 5 := c_nf w2 g5
      rw [if_neg k5] at h
      refine r0_eats (by omega) r2 (fun q M3 f3 r3 => ⟨fun _ => ?_, fun q => absurd q (by decide)⟩) (fun q => ⟨fun q => absurd rfl q, fun _ => r0_eats (by omega) r2 (fun q2 => absurd (p_is_n (by decide) q2).2.1 k5) (fun _ => ⟨fun q => absurd rfl q, fun _ => r0_fails (by omega) r2 (fun M3 f3 r3 => ?_)⟩)⟩)
      · have k4 : (z_tks bt n (s.1 + 1)).1 = 4 := (p_is_n (by decide) q).2.1
        rw [if_pos k4] at h
        exact go false M3 f3 r3 h
      · have k4 : ¬ (z_tks bt n (s.1 + 1)).1 = 4 := c_nf w2 q
        rw [if_neg k4] at h
        exact r_b134 hd r3 (p_fail_n (by decide)) hL (fun M' f r => h M' (z_fr_tr F2 (z_fr_tr (r_fz_0 f3) f)) ⟨r, fun q => absurd q (p_fail_n (by decide))⟩)
  · rw [if_neg g] at h
    have no : ∀ {k : Int}, ¬ p_is (z_tks bt n) k (p_take (z_tks bt n) ((d_N D : Int) - 1) s) = true := fun {k} q => by rw [p_is_w g] at q; exact absurd q (by decide)
    refine r0_is (by omega) r2 (fun q => absurd q no) (fun _ => r0_eats (by omega) r2 (fun q => absurd q no) (fun _ => ⟨fun q => absurd rfl q, fun _ => r0_eats (by omega) r2 (fun q => absurd q no) (fun _ => ⟨fun q => absurd rfl q, fun _ => r0_fails (by omega) r2 (fun M3 f3 r3 => ?_)⟩)⟩))
    rw [p_fail_w g] at r3
    exact r_b134 hd r3 g hL (fun M' f r => h M' (z_fr_tr F2 (z_fr_tr (r_fz_0 f3) f)) ⟨r, fun q => absurd q g⟩)
end RL
theorem rq_link {d : Nat} {M : q_Mem} {K : q_Mem → Prop} {bt : Nat → Int} {n : Nat} {s : p_S} {D : p_D} (hd : 8 < d) (hs : r_q bt n (s, D) M) (hw : s.2.1 = 0) (hN : d_N D ≤ 10) (hL : d_L D ≤ 16) (h : ∀ M', r_fz M M' → r_q bt n (q_link (z_tks bt n) s D) M' → K M') : q_kU yX12_readLink mX12_readLink d [qR 178] M K := by
  have D1 : r_D D M := hs.2 hw
  unfold q_link at h
  refine q_goU hd rfl (plainFor_of_name (by decide +kernel)) rfl (fun h => nomatch h) (Nat.le_of_ble_eq_true rfl) (fun d hd => bX12_readLink_0 (fun x1 ex => ?_))
  rw [D1.2.2.2.2.1] at ex
  subst ex
  refine ⟨fun g => ?_, fun g => r0_fails (by omega) hs.1 (fun M1 f1 r1 => ?_)⟩
  · rw [if_neg (by omega)] at h
    have hL : d_L D < 16 := by omega
    refine bX12_readLink_19 _ ⟨fun _ => r0_goes (by omega) hs.1 (fun M1 f1 r1 => ?_), fun q => absurd (by rw [hs.1.2.2.1]; exact hw) q⟩
    have D2 : r_D D M1 := r_D_f D1 f1
    unfold q_link1 at h
    rw [D2.2.2.2.1, q_sub_eq (by omega)]
    refine r0_takes (by omega) r1 (fun v M2 f2 r2 e2 => ?_)
    rw [q_add_eq (by omega)]
    refine ⟨by omega, fun M3 e3 => ?_⟩
    have f3 : z_fr z_ZS [] M2 M3 := z_fr_u z_fr_rf e3 (by decide) (by decide)
    have r3 := r_a0_z r2 f3
    have F3 : r_fz M M3 := z_fr_tr (r_fz_0 f1) (z_fr_tr (r_fz_0 f2) (z_fr_mono f3 (by decide) (by decide)))
    by_cases g1 : (p_take (z_tks bt n) ((d_N D : Int) - 1) (p_go s)).2.1 = 0
    · obtain ⟨ev, k20⟩ : v = (z_tks bt n (p_go s).1).2.2 ∧ (z_tks bt n (p_go s).1).1 = 20 := e2 g1
      obtain ⟨_, _, _, eg, _⟩ := p_take_0 (n := n) z_tks_lt g1
      have nn := z_tks_num (p_go s).1 k20
      rw [if_pos g1] at h
      rw [eg] at r3 h
      have D3 : r_D D M3 := r_D_of (r_D_f D2 f2) hL (r_of_u ⟨fun _ _ _ _ => rfl, rfl, rfl⟩ e3 (by omega))
      have ha : M3 182 (53 + (d_L D : Int)) = ((z_tks bt n (p_go s).1).2.2.toNat : Int) := by rw [e3, q_up_s, ev]; omega
      have w3 : (p_go (p_go s)).2.1 = 0 := hw
      refine r0_is (by omega) r3 (fun g2 => ⟨fun q => absurd q (by decide), fun _ => ⟨by omega, ?_⟩⟩) (fun g2 => ⟨fun _ => ?_, fun q => absurd rfl q⟩)
      · have k2 : (z_tks bt n ((p_go s).1 + 1)).1 = 20 := (p_is_n (by decide) g2).2.1
        have n12 : M3 178 12 = (z_tks bt n ((p_go s).1 + 1)).2.2 := (r3.2.1.2.2.2.1 k2).1
        rw [n12, ha]
        refine ⟨fun q => ?_, fun q => r0_fails (by omega) r3 (fun M4 f4 r4 => ?_)⟩
        · rw [if_neg (fun q2 => q (by rw [q2.2]; omega))] at h
          exact r_g84 (by omega) r3 w3 hN hL D3 ha F3 h
        · rw [if_pos ⟨k2, by rw [q]; omega⟩] at h
          exact r_b84 (by omega) r4 (p_fail_n (by decide)) hL (fun M' f r => h M' (z_fr_tr F3 (z_fr_tr (r_fz_0 f4) f)) ⟨r, fun q => absurd q (p_fail_n (by decide))⟩)
      · have k2 : ¬ (z_tks bt n ((p_go s).1 + 1)).1 = 20 := c_nf w3 g2
        rw [if_neg (fun q2 => k2 q2.1)] at h
        exact r_g84 (by omega) r3 w3 hN hL D3 ha F3 h
    · rw [if_neg g1] at h
      refine r0_is (by omega) r3 (fun q => by rw [p_is_w g1] at q; exact absurd q (by decide)) (fun _ => ⟨fun _ => ?_, fun q => absurd rfl q⟩)
      exact r_b84 (by omega) r3 g1 hL (fun M' f r => h M' (z_fr_tr F3 f) ⟨r, fun q => absurd q g1⟩)
  · rw [if_pos (by omega)] at h
    exact bX12_readLink_19 _ ⟨fun q => absurd (by rw [← r1.2.2.1]; exact q) (p_fail_n (by decide)), fun _ => h M1 (r_fz_0 f1) ⟨r1, fun q => absurd q (p_fail_n (by decide))⟩⟩
