-- the reference goes to the next token
theorem z_sb21 : q_sb 21 = q_sb 19 := by decide +kernel
theorem l_gw {d : Nat} {M0 : q_Mem} {K : q_Mem → Prop} {bt : Nat → Int} {n a E : Nat} (hd : 5 ≤ d) (hr : z_rt M0 bt n) (hE : E ≤ n) (h8 : M0 178 8 = (a : Int)) (aE : a ≤ E) (h : ∀ M', z_fr [] z_KF M0 M' → M' 178 8 = (a : Int) → M' 178 9 = (E : Int) → M' 178 11 = (z_key bt a E : Int) → K M') :
    ∀ (j i : Nat) (M : q_Mem), i + j = n → z_fr [] z_KF M0 M → M 178 8 = (a : Int) → M 178 9 = (i : Int) → z_find (fun x => !z_sml (bt x)) j i = E → q_v mX12_goes d (qPU K) M 89 [some (qR 178), none] [] := by
  have fin : ∀ (M : q_Mem), z_fr [] z_KF M0 M → M 178 8 = (a : Int) → M 178 9 = (E : Int) → q_kI yX12_keyAt mX12_keyAt d [qR 178] M (fun v6 M5 => (∀ M7 : q_Mem, M7 = q_up M5 178 11 v6 → K M7)) := fun M f g8 g9 =>
    k_keyAt (by omega) (z_rt_f hr f (by decide) (by decide)) hE aE g8 g9 (fun M7 e7 => h M7 (z_fr_uf f e7 (by decide)) (by rw [e7, q_up_n (by decide)]; exact g8) (by rw [e7, q_up_n (by decide)]; exact g9) (by rw [e7, q_up_s]))
  intro j
  induction j with
  | zero =>
    intro i M e f g8 g9 q
    have q : i = E := q
    subst q
    refine bX12_goes_89 ?_
    rw [g9]
    refine k_see (by omega) (z_rt_f hr f (by decide) (by decide)) (k_isSmall (by omega) ?_)
    rw [if_neg (show ¬ i < n by omega), show z_sml (-1) = false by decide]
    exact ⟨fun _ => fin M f g8 g9, fun g => absurd rfl g⟩
  | succ j ih =>
    intro i M e f g8 g9 q
    have N9 := hr.2.1
    refine bX12_goes_89 ?_
    rw [g9]
    refine k_see (by omega) (z_rt_f hr f (by decide) (by decide)) (k_isSmall (by omega) ?_)
    rw [if_pos (show i < n by omega), g9, q_add_eq (by omega), show (i : Int) + 1 = ((i + 1 : Nat) : Int) by omega]
    cases c : z_sml (bt i) with
    | true =>
      rw [z_find_s (by simp [c])] at q
      exact ⟨fun g => absurd g (by decide), fun _ M8 e8 => ih (i + 1) M8 (by omega) (z_fr_uf f e8 (by decide)) (by rw [e8, q_up_n (by decide)]; exact g8) (by rw [e8, q_up_s]) q⟩
    | false =>
      rw [z_find_h (by simp [c])] at q
      subst q
      exact ⟨fun _ => fin M f g8 g9, fun g => absurd rfl g⟩
theorem l_gn {d : Nat} {M0 : q_Mem} {K : q_Mem → Prop} {bt : Nat → Int} {n a E : Nat} (hd : 1 ≤ d) (hr : z_rt M0 bt n) (hE : E ≤ n) (aE : a ≤ E) (h : ∀ M', z_fr [] z_KF M0 M' → M' 178 8 = (a : Int) → M' 178 9 = (E : Int) → M' 178 11 = (if 3 < E - a then 22 else 20) → M' 178 12 = z_nv bt a (E - a) → (0 ≤ z_nv bt a (E - a) ∧ z_nv bt a (E - a) ≤ 999) → K M') :
    ∀ (j i : Nat) (M : q_Mem), i + j = n → a ≤ i → z_fr [] z_KF M0 M → M 178 8 = (a : Int) → M 178 9 = (i : Int) → M 178 12 = z_nv bt a (i - a) → (0 ≤ z_nv bt a (i - a) ∧ z_nv bt a (i - a) ≤ 999 ∧ (i - a < 3 → z_nv bt a (i - a) ≤ 99) ∧ (i - a < 2 → z_nv bt a (i - a) ≤ 9)) → (i = a → z_nv bt a (i - a) = 0) → z_find (fun x => !z_dgt (bt x)) j i = E → q_v mX12_goes d (qPU K) M 146 [some (qR 178), none] [] := by
  have N9 := hr.2.1
  have fin : ∀ (M : q_Mem), z_fr [] z_KF M0 M → M 178 8 = (a : Int) → M 178 9 = (E : Int) → M 178 12 = z_nv bt a (E - a) → (0 ≤ z_nv bt a (E - a) ∧ z_nv bt a (E - a) ≤ 999) → ((q_sub (M 178 9) (M 178 8)) ≤ (3 : Int) → (∀ M5 : q_Mem, M5 = q_up M 178 11 20 → K M5)) ∧ ((¬ ((q_sub (M 178 9) (M 178 8)) ≤ (3 : Int))) → (∀ M6 : q_Mem, M6 = q_up M 178 11 22 → K M6)) := by
    intro M f g8 g9 g12 nb
    rw [g8, g9, q_sub_eq (by omega)]
    refine ⟨fun g M5 e5 => ?_, fun g M5 e5 => ?_⟩
    · exact h M5 (z_fr_uf f e5 (by decide)) (by rw [e5, q_up_n (by decide)]; exact g8) (by rw [e5, q_up_n (by decide)]; exact g9) (by rw [e5, q_up_s, if_neg (by omega)]) (by rw [e5, q_up_n (by decide)]; exact g12) nb
    · exact h M5 (z_fr_uf f e5 (by decide)) (by rw [e5, q_up_n (by decide)]; exact g8) (by rw [e5, q_up_n (by decide)]; exact g9) (by rw [e5, q_up_s, if_pos (by omega)]) (by rw [e5, q_up_n (by decide)]; exact g12) nb
  intro j
  induction j with
  | zero =>
    intro i M e ai f g8 g9 g12 hb h0 q
    have q : i = E := q
    subst q
    have F := fin M f g8 g9 g12 ⟨hb.1, hb.2.1⟩
    refine bX12_goes_146 ?_
    rw [g9]
    refine k_see (by omega) (z_rt_f hr f (by decide) (by decide)) (k_risDigit (by omega) ?_)
    rw [if_neg (show ¬ i < n by omega), show z_dgt (-1) = false by decide]
    exact ⟨fun _ => F, fun g => absurd rfl g⟩
  | succ j ih =>
    intro i M e ai f g8 g9 g12 hb h0 q
    refine bX12_goes_146 ?_
    rw [g9]
    refine k_see (by omega) (z_rt_f hr f (by decide) (by decide)) (k_risDigit (by omega) ?_)
    rw [if_pos (show i < n by omega)]
    cases c : z_dgt (bt i) with
    | false =>
      rw [z_find_h (by simp [c])] at q
      subst q
      exact ⟨fun _ => fin M f g8 g9 g12 ⟨hb.1, hb.2.1⟩, fun g => absurd rfl g⟩
    | true =>
      have cd : 48 ≤ bt i ∧ bt i ≤ 57 := by
        unfold z_dgt at c
        simpa using c
      rw [z_find_s (by simp [c])] at q
      have st : z_nv bt a (i + 1 - a) = if i - a < 3 then 10 * z_nv bt a (i - a) + bt i - 48 else z_nv bt a (i - a) := by
        rw [show i + 1 - a = (i - a) + 1 by omega]
        show (if i - a < 3 then 10 * z_nv bt a (i - a) + bt (a + (i - a)) - 48 else z_nv bt a (i - a)) = _
        rw [show a + (i - a) = i by omega]
      have hb1 : 0 ≤ z_nv bt a (i + 1 - a) ∧ z_nv bt a (i + 1 - a) ≤ 999 ∧ (i + 1 - a < 3 → z_nv bt a (i + 1 - a) ≤ 99) ∧ (i + 1 - a < 2 → z_nv bt a (i + 1 - a) ≤ 9) := by
        rw [st]
        by_cases c3 : i - a < 3
        · rw [if_pos c3]
          by_cases e0 : i = a
          · have := h0 e0; omega
          · omega
        · rw [if_neg c3]; omega
      refine ⟨fun g => absurd g (by decide), fun _ => ?_⟩
      rw [g9, g8, q_sub_eq (a := (i : Int)) (by omega), q_add_eq (a := (i : Int)) (by omega), show (i : Int) + 1 = ((i + 1 : Nat) : Int) by omega]
      refine ⟨fun g M7 e7 => ?_, fun g => k_see (by omega) (z_rt_f hr f (by decide) (by decide)) (fun M8 e8 M9 e9 => ?_)⟩
      · exact ih (i + 1) M7 (by omega) (by omega) (z_fr_uf f e7 (by decide)) (by rw [e7, q_up_n (by decide)]; exact g8) (by rw [e7, q_up_s]) (by rw [e7, q_up_n (by decide), g12, st, if_neg (by omega)]) hb1 (fun g => by omega) q
      · rw [if_pos (show i < n by omega), g12, q_mul_eq (by omega), q_add_eq (by omega), q_sub_eq (by omega)] at e8
        have e89 : M8 178 9 = (i : Int) := by rw [e8, q_up_n (by decide)]; exact g9
        rw [e89, q_add_eq (by omega), show (i : Int) + 1 = ((i + 1 : Nat) : Int) by omega] at e9
        exact ih (i + 1) M9 (by omega) (by omega) (z_fr_uf (z_fr_uf f e8 (by decide)) e9 (by decide)) (by rw [e9, q_up_n (by decide), e8, q_up_n (by decide)]; exact g8) (by rw [e9, q_up_s]) (by rw [e9, q_up_n (by decide), e8, q_up_s, st, if_pos (by omega)]) hb1 (fun g => by omega) q
/-- signs -/
def z_sk (c : Int) : Nat → Int
  | 0 => 22
  | k + 1 => if (q_sb 19).getD k 0 = c then 30 + (k : Int) else z_sk c k
theorem z_sk_no {c : Int} : ∀ {k : Nat}, (∀ j, j < k → ¬ (q_sb 19).getD j 0 = c) → z_sk c k = 22
  | 0, _ => rfl
  | k + 1, h => by
    unfold z_sk
    rw [if_neg (h k (by omega))]
    exact z_sk_no (fun j hj => h j (by omega))
theorem z_sk_yes {c : Int} {j : Nat} (hj : j < 12) (e : (q_sb 19).getD j 0 = c) : ∀ {k : Nat}, j < k → k ≤ 12 → z_sk c k = 30 + (j : Int)
  | 0, h, _ => by omega
  | k + 1, h, h12 => by
    unfold z_sk
    by_cases q : j = k
    · subst q; rw [if_pos e]
    · rw [if_neg (fun g => q (z_sg_ne j hj k (by omega) (e.trans g.symm)))]
      exact z_sk_yes hj e (by omega) (by omega)
theorem z_sk_12 {c : Int} : z_sk c 12 = z_sgn c := by
  by_cases h : ∃ j : Nat, j < 12 ∧ (q_sb 19).getD j 0 = c
  · obtain ⟨j, hj, e1, e2⟩ := z_sgn_yes h
    rw [e1]
    exact z_sk_yes hj e2 hj (by omega)
  · rw [z_sgn_no h]
    exact z_sk_no (fun j hj e => h ⟨j, hj, e⟩)
theorem l_gs {d : Nat} {M0 : q_Mem} {K : q_Mem → Prop} {bt : Nat → Int} {n a : Nat} (hd : 4 ≤ d) (hr : z_rt M0 bt n) (han : a < n) (h : ∀ M', z_fr [] z_KF M0 M' → M' 178 8 = (a : Int) → M' 178 9 = M0 178 9 → M' 178 11 = z_sgn (bt a) → K M') :
    ∀ (j k : Nat) (M : q_Mem), k + j = 12 → z_fr [] z_KF M0 M → M 178 8 = (a : Int) → M 178 9 = M0 178 9 → M 178 11 = z_sk (bt a) k → q_v mX12_goes d (qPU K) M 254 [some (qR 178), some (qI (k : Int))] [] := by
  have l12 : (q_sb 21).length = 12 := by rw [z_sb21]; exact z_sg19.1
  intro j
  induction j with
  | zero =>
    intro k M e f g8 g9 g11
    have ek : k = 12 := by omega
    subst ek
    refine bX12_goes_254 _ (k_len (by omega) (by omega) ⟨fun _ => h M f g8 g9 (by rw [g11, z_sk_12]), fun g => absurd (by rw [l12]; decide) g⟩)
  | succ j ih =>
    intro k M e f g8 g9 g11
    refine bX12_goes_254 _ (k_len (by omega) (by omega) ?_)
    rw [l12, g8]
    refine ⟨fun g => absurd g (by omega), fun _ => k_see (by omega) (z_rt_f hr f (by decide) (by decide)) (k_charAt (by omega) (by omega) (by omega) (by rw [l12]; omega) ?_)⟩
    rw [if_pos han, Int.toNat_natCast, z_sb21, q_add_eq (a := (k : Int)) (by omega), q_add_eq (a := 30) (by omega), show (k : Int) + 1 = ((k + 1 : Nat) : Int) by omega]
    have st : z_sk (bt a) (k + 1) = if (q_sb 19).getD k 0 = bt a then 30 + (k : Int) else z_sk (bt a) k := rfl
    refine ⟨fun g => ih (k + 1) M (by omega) f g8 g9 (by rw [g11, st, if_neg (fun q => g q.symm)]), fun g M7 e7 => ?_⟩
    exact ih (k + 1) M7 (by omega) (z_fr_uf f e7 (by decide)) (by rw [e7, q_up_n (by decide)]; exact g8) (by rw [e7, q_up_n (by decide)]; exact g9) (by rw [e7, q_up_s, st, if_pos g.symm])
theorem l_gtok {d : Nat} {M0 M : q_Mem} {K : q_Mem → Prop} {bt : Nat → Int} {n p : Nat} (hd : 5 ≤ d) (hr : z_rt M0 bt n) (hp : p ≤ n) (f : z_fr [] z_KF M0 M) (h8 : M 178 8 = (z_tA bt n p : Int)) (nb : z_tA bt n p < n → z_blk (bt (z_tA bt n p)) = false) (h : ∀ M', z_fr [] z_KF M0 M' → z_rtk M' (z_tA bt n p) (z_tB bt n p) (z_tK bt n p) (z_tN bt n p) → K M') : q_v mX12_goes d (qPU K) M 8 [some (qR 178), none] [] := by
  have a := z_tA_ok (bt := bt) hp
  have b := z_tB_ok (bt := bt) hp
  have N9 := hr.2.1
  refine bX12_goes_8 ?_
  rw [h8]
  refine k_see (by omega) (z_rt_f hr f (by decide) (by decide)) ?_
  have c0 : (if z_tA bt n p < n then bt (z_tA bt n p) else -1) ≠ 10 ∧ (if z_tA bt n p < n then bt (z_tA bt n p) else -1) ≠ 32 := by
    by_cases c : z_tA bt n p < n
    · rw [if_pos c]
      have := nb c
      unfold z_blk at this
      simp at this
      exact this
    · rw [if_neg c]; decide
  rw [h8]
  refine ⟨fun g => absurd g c0.1, fun _ => k_see (by omega) (z_rt_f hr f (by decide) (by decide)) ⟨fun _ M6 e6 => ?_, fun g => absurd g c0.2⟩⟩
  rw [h8] at e6
  have f6 := z_fr_uf f e6 (F := z_KF) (by decide)
  have rt6 := z_rt_f hr f6 (by decide) (by decide)
  have h86 : M6 178 8 = (z_tA bt n p : Int) := by rw [e6, q_up_n (by decide)]; exact h8
  have h96 : M6 178 9 = (z_tA bt n p : Int) := by rw [e6, q_up_s]
  rw [h86, rt6.1]
  refine ⟨fun g => k_see (by omega) rt6 (k_isSmall (by omega) ?_), fun g M18 e18 => ?_⟩
  · have c : z_tA bt n p < n := by omega
    rw [if_pos c, h86]
    cases s1 : z_sml (bt (z_tA bt n p)) with
    | true =>
      refine ⟨fun g => absurd g (by decide), fun _ => ?_⟩
      have eB : z_tB bt n p = z_find (fun x => !z_sml (bt x)) (n - z_tA bt n p) (z_tA bt n p) := by
        unfold z_tB
        rw [if_neg (by omega), if_pos s1]
      have eK : z_tK bt n p = (z_key bt (z_tA bt n p) (z_tB bt n p) : Int) := by
        unfold z_tK
        rw [if_neg (by omega), if_pos s1]
      have kl : z_key bt (z_tA bt n p) (z_tB bt n p) ≤ 19 := by
        have := (z_find_ok (p := fun k => z_wdm bt (z_tA bt n p) (z_tB bt n p) (q_sb (z_kx.getD k 0))) (k := 19) (i := 0)).2.1
        unfold z_key
        omega
      exact l_gw (M0 := M6) (E := z_tB bt n p) (by omega) rt6 b.2.1 h86 b.1 (fun M' f' g8 g9 g11 => h M' (z_fr_tr f6 f') ⟨g8, g9, by rw [g11, eK], fun q => by omega, b.1, by omega⟩) (n - z_tA bt n p) (z_tA bt n p) M6 (by omega) z_fr_rf h86 h96 eB.symm
    | false =>
      refine ⟨fun _ => k_see (by omega) rt6 (k_risDigit (by omega) ?_), fun g => absurd rfl g⟩
      rw [if_pos c]
      cases s2 : z_dgt (bt (z_tA bt n p)) with
      | true =>
        refine ⟨fun g => absurd g (by decide), fun _ M17 e17 => ?_⟩
        have f17 := z_fr_uf f6 e17 (F := z_KF) (by decide)
        have eB : z_tB bt n p = z_find (fun x => !z_dgt (bt x)) (n - z_tA bt n p) (z_tA bt n p) := by
          unfold z_tB
          rw [if_neg (by omega), if_neg (by rw [s1]; decide), if_pos s2]
        have eK : z_tK bt n p = if 3 < z_tB bt n p - z_tA bt n p then 22 else 20 := by
          unfold z_tK
          rw [if_neg (by omega), if_neg (by rw [s1]; decide), if_pos s2]
        have z0 : z_nv bt (z_tA bt n p) (z_tA bt n p - z_tA bt n p) = 0 := by rw [Nat.sub_self]; rfl
        exact l_gn (M0 := M17) (a := z_tA bt n p) (E := z_tB bt n p) (by omega) (z_rt_f hr f17 (by decide) (by decide)) b.2.1 b.1 (fun M' f' g8 g9 g11 g12 nb2 => h M' (z_fr_tr f17 f') ⟨g8, g9, by rw [g11, eK], fun _ => ⟨g12, nb2⟩, b.1, by omega⟩) (n - z_tA bt n p) (z_tA bt n p) M17 (by omega) (Nat.le_refl _) z_fr_rf (by rw [e17, q_up_n (by decide)]; exact h86) (by rw [e17, q_up_n (by decide)]; exact h96) (by rw [e17, q_up_s, z0]) (by rw [z0]; omega) (fun _ => z0) eB.symm
      | false =>
        refine ⟨fun _ M15 e15 M16 e16 => ?_, fun g => absurd rfl g⟩
        rw [h96, q_add_eq (by omega)] at e15
        have f16 := z_fr_uf (z_fr_uf f6 e15 (F := z_KF) (by decide)) e16 (by decide)
        have eB : z_tB bt n p = z_tA bt n p + 1 := by
          unfold z_tB
          rw [if_neg (by omega), if_neg (by rw [s1]; decide), if_neg (by rw [s2]; decide)]
        have eK : z_tK bt n p = z_sgn (bt (z_tA bt n p)) := by
          unfold z_tK
          rw [if_neg (by omega), if_neg (by rw [s1]; decide), if_neg (by rw [s2]; decide)]
        have h916 : M16 178 9 = (z_tB bt n p : Int) := by rw [e16, q_up_n (by decide), e15, q_up_s, eB]; omega
        have ng : z_sgn (bt (z_tA bt n p)) ≠ 20 := by
          by_cases ex : ∃ j : Nat, j < 12 ∧ (q_sb 19).getD j 0 = bt (z_tA bt n p)
          · obtain ⟨j, hj, e1, e2⟩ := z_sgn_yes ex
            omega
          · rw [z_sgn_no ex]; decide
        exact l_gs (M0 := M16) (by omega) (z_rt_f hr f16 (by decide) (by decide)) c (fun M' f' g8 g9 g11 => h M' (z_fr_tr f16 f') ⟨g8, by rw [g9, h916], by rw [g11, eK], fun q => by rw [eK] at q; exact absurd q ng, b.1, by omega⟩) 12 0 M16 (by omega) z_fr_rf (by rw [e16, q_up_n (by decide), e15, q_up_n (by decide)]; exact h86) rfl (by rw [e16, q_up_s]; rfl)
  · have c : n ≤ z_tA bt n p := by omega
    have eK : z_tK bt n p = 21 := by
      unfold z_tK
      rw [if_pos c]
    have eB : z_tB bt n p = z_tA bt n p := by
      unfold z_tB
      rw [if_pos c]
    exact h M18 (z_fr_uf f6 e18 (by decide)) ⟨by rw [e18, q_up_n (by decide)]; exact h86, by rw [e18, q_up_n (by decide), h96, eB], by rw [e18, q_up_s, eK], fun q => by omega, b.1, by omega⟩
theorem l_g8 {d : Nat} {M0 : q_Mem} {K : q_Mem → Prop} {bt : Nat → Int} {n p : Nat} (hd : 5 ≤ d) (hr : z_rt M0 bt n) (hp : p ≤ n) (h : ∀ M', z_fr [] z_KF M0 M' → z_rtk M' (z_tA bt n p) (z_tB bt n p) (z_tK bt n p) (z_tN bt n p) → K M') :
    ∀ (j i : Nat) (M : q_Mem), i + j = n → z_fr [] z_KF M0 M → M 178 8 = (i : Int) → z_find (fun x => !z_blk (bt x)) j i = z_tA bt n p → q_v mX12_goes d (qPU K) M 8 [some (qR 178), none] [] := by
  have N9 := hr.2.1
  intro j
  induction j with
  | zero =>
    intro i M e f h8 q
    have q : i = z_tA bt n p := q
    exact l_gtok hd hr hp f (by rw [h8, q]) (fun g => by omega) h
  | succ j ih =>
    intro i M e f h8 q
    cases c : z_blk (bt i) with
    | false =>
      rw [z_find_h (by simp [c])] at q
      exact l_gtok hd hr hp f (by rw [h8, q]) (fun _ => by rw [← q]; exact c) h
    | true =>
      rw [z_find_s (by simp [c])] at q
      have cc : bt i = 10 ∨ bt i = 32 := by
        unfold z_blk at c
        simpa using c
      have nx : ∀ M3 : q_Mem, M3 = q_up M 178 8 (((i + 1 : Nat) : Int)) → q_v mX12_goes d (qPU K) M3 8 [some (qR 178), none] [] := fun M3 e3 => ih (i + 1) M3 (by omega) (z_fr_uf f e3 (by decide)) (by rw [e3, q_up_s]) q
      refine bX12_goes_8 ?_
      rw [h8]
      refine k_see (by omega) (z_rt_f hr f (by decide) (by decide)) ?_
      rw [if_pos (show i < n by omega), h8, q_add_eq (by omega), show (i : Int) + 1 = ((i + 1 : Nat) : Int) by omega]
      refine ⟨fun _ => nx, fun g => k_see (by omega) (z_rt_f hr f (by decide) (by decide)) ?_⟩
      rw [if_pos (show i < n by omega), h8, q_add_eq (by omega), show (i : Int) + 1 = ((i + 1 : Nat) : Int) by omega]
      exact ⟨fun g2 => by omega, fun _ => nx⟩
theorem k_goes {d : Nat} {M : q_Mem} {K : q_Mem → Prop} {bt : Nat → Int} {n p : Nat} (hd : 5 < d) (hr : z_rt M bt n) (hp : p ≤ n) (h9 : M 178 9 = (p : Int)) (h : ∀ M', z_fr [] z_KF M M' → z_rtk M' (z_tA bt n p) (z_tB bt n p) (z_tK bt n p) (z_tN bt n p) → K M') : q_kU yX12_goes mX12_goes d [qR 178] M K :=
  q_goU hd rfl (plainFor_of_name (by decide +kernel)) rfl (fun h => nomatch h) (Nat.le_of_ble_eq_true rfl) (fun d hd => bX12_goes_0 (fun M1 e1 => l_g8 (M0 := M) hd hr hp h (n - p) p M1 (by omega) (by rw [e1]; exact z_fr_f (by decide)) (by rw [e1, q_up_s, h9]) rfl))
