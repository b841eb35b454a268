-- laws in the class: a step, a value, a link's weight
theorem z_te_not : z_te 3006 = -14 := by decide
theorem z_te_if : z_te 3009 = -15 := by decide
theorem z_te_bin {c : Int} (hc : (3000 ≤ c ∧ c ≤ 3005) ∨ c = 3007 ∨ c = 3008) : z_te c ≠ -14 ∧ z_te c ≠ -15 ∧ z_te c < -5 := by
  unfold z_te
  repeat' split
  all_goals omega
theorem z_vs_bin {w : Int → Int} {c v v2 : Int} {st : List Int} (hc : (3000 ≤ c ∧ c ≤ 3005) ∨ c = 3007 ∨ c = 3008) : z_vs w c (v :: v2 :: st) = z_bt c v2 v :: st := by
  unfold z_vs
  rw [if_neg (by omega), if_neg (by omega), if_neg (by omega), if_neg (by omega)]
theorem l_appbin {d : Nat} {M : q_Mem} {K : Int → q_Mem → Prop} {x c : Int} {st : List Int} {v v2 : Int} (hd : 2 ≤ d) (kx : q_kd x = 2) (hc : (3000 ≤ c ∧ c ≤ 3005) ∨ c = 3007 ∨ c = 3008) (ha : -1000000 ≤ v2 ∧ v2 ≤ 1000000) (hb : -1000000 ≤ v ∧ v ≤ 1000000) (hlen : st.length ≤ 60) (hr : z_rp (M (x + 2)) (v :: v2 :: st))
    (h : ∀ M', M' = q_up M (x + 2) st.length (z_bt c v2 v) → K ((st.length + 1 : Nat) : Int) M') : q_v mX2_apply d (qPI K) M 0 [some (qR x), some (qI (z_te c)), some (qI ((st.length + 1 + 1 : Nat) : Int))] [] := by
  have ht := z_te_bin hc
  exact bX2_apply_0 _ _ _ kx ⟨fun _ => bX2_apply_31 _ _ _ kx ⟨fun _ => l_app84 hd kx hc ha hb hlen hr h, fun g => absurd g ht.2.1⟩, fun g => absurd g ht.1⟩
theorem k_apply {d : Nat} {M : q_Mem} {K : Int → q_Mem → Prop} {x c : Int} {ts t2 : List Bool} {st : List Int} {w : Int → Int} (hd : 2 < d) (kx : q_kd x = 2) (hc : 3000 ≤ c) (hs : z_ts c ts = some t2) (hv : z_vt ts st) (hts : ts.length ≤ 60) (hr : z_rp (M (x + 2)) st) (h : ∀ M', (∀ a, a ≠ x + 2 → M' a = M a) → z_rp (M' (x + 2)) (z_vs w c st) → K ((z_vs w c st).length : Int) M') : q_kI yX2_apply mX2_apply d [qR x, qI (z_te c), qI (st.length : Int)] M K := by
  have kk := z_k2 kx
  have hlen := z_vt_len hv
  rcases z_ts_cases hs with ⟨h1, h2, -⟩ | ⟨h1, r, rfl, -⟩ | ⟨h1, r, rfl, -⟩ | ⟨h1, r, rfl, -⟩ | ⟨h1, r, rfl, -⟩ | ⟨h1, r, rfl, -⟩
  · omega
  · obtain ⟨v, s2, rfl, h3, h4⟩ := z_vt_t hv
    simp only [List.length_cons] at hlen hts ⊢
    subst h1
    rw [z_te_not]
    refine q_goI hd rfl (plainFor_of_name (by decide +kernel)) rfl (fun h => nomatch h) (Nat.le_of_ble_eq_true rfl) (fun d hd => bX2_apply_0 _ _ _ kx ⟨fun g => absurd rfl g, fun _ => ⟨fun g => by omega, fun _ => ?_⟩⟩)
    rw [kk.2.1, q_sub_eq (b := 1) (by omega), show (((s2.length + 1 : Nat) : Int) - 1) = (s2.length : Int) by omega, hr.1, q_sub_eq (by omega)]
    refine ⟨by omega, by omega, fun M2 e2 => ?_⟩
    exact h M2 (fun a ha => by rw [e2]; exact q_up_o ha) ⟨by rw [e2, q_up_s], z_rp_eq (fun i hi => by rw [e2]; exact q_up_n (by omega)) hr.2⟩
  · obtain ⟨v, s2, rfl, h3, h4⟩ := z_vt_t hv
    obtain ⟨v2, s3, rfl, h5, h6⟩ := z_vt_t h4
    simp only [List.length_cons] at hlen hts ⊢
    rw [z_vs_bin (by omega)] at h
    exact q_goI hd rfl (plainFor_of_name (by decide +kernel)) rfl (fun h => nomatch h) (Nat.le_of_ble_eq_true rfl) (fun d hd => l_appbin hd kx (by omega) (by omega) (by omega) (by omega) hr (fun M2 e2 => h M2 (fun a ha => by rw [e2]; exact q_up_o ha) ⟨by rw [e2, q_up_s], z_rp_eq (fun i hi => by rw [e2]; exact q_up_n (by omega)) hr.2.2⟩))
  · obtain ⟨v, s2, rfl, h3, h4⟩ := z_vt_f hv
    obtain ⟨v2, s3, rfl, h5, h6⟩ := z_vt_f h4
    simp only [List.length_cons] at hlen hts ⊢
    rw [z_vs_bin (by omega)] at h
    exact q_goI hd rfl (plainFor_of_name (by decide +kernel)) rfl (fun h => nomatch h) (Nat.le_of_ble_eq_true rfl) (fun d hd => l_appbin hd kx (by omega) h5 h3 (by omega) hr (fun M2 e2 => h M2 (fun a ha => by rw [e2]; exact q_up_o ha) ⟨by rw [e2, q_up_s], z_rp_eq (fun i hi => by rw [e2]; exact q_up_n (by omega)) hr.2.2⟩))
  · obtain ⟨v, s2, rfl, h3, h4⟩ := z_vt_f hv
    obtain ⟨v2, s3, rfl, h5, h6⟩ := z_vt_f h4
    simp only [List.length_cons] at hlen hts ⊢
    rw [z_vs_bin (by omega)] at h
    exact q_goI hd rfl (plainFor_of_name (by decide +kernel)) rfl (fun h => nomatch h) (Nat.le_of_ble_eq_true rfl) (fun d hd => l_appbin hd kx (by omega) h5 h3 (by omega) hr (fun M2 e2 => h M2 (fun a ha => by rw [e2]; exact q_up_o ha) ⟨by rw [e2, q_up_s], z_rp_eq (fun i hi => by rw [e2]; exact q_up_n (by omega)) hr.2.2⟩))
  · obtain ⟨v, s2, rfl, h3, h4⟩ := z_vt_f hv
    obtain ⟨v2, s3, rfl, h5, h6⟩ := z_vt_f h4
    obtain ⟨v3, s4, rfl, h7, h8⟩ := z_vt_t h6
    simp only [List.length_cons] at hlen hts ⊢
    subst h1
    rw [z_te_if]
    refine q_goI hd rfl (plainFor_of_name (by decide +kernel)) rfl (fun h => nomatch h) (Nat.le_of_ble_eq_true rfl) (fun d hd => bX2_apply_0 _ _ _ kx ⟨fun _ => bX2_apply_31 _ _ _ kx ⟨fun g => absurd rfl g, fun _ => ⟨fun g => by omega, fun _ => ?_⟩⟩, fun g => by omega⟩)
    rw [kk.2.1, q_sub_eq (b := 3) (by omega), q_sub_eq (b := 1) (by omega), q_sub_eq (b := 2) (by omega), show (((s4.length + 1 + 1 + 1 : Nat) : Int) - 3) = (s4.length : Int) by omega, show (((s4.length + 1 + 1 + 1 : Nat) : Int) - 1) = ((s4.length + 1 + 1 : Nat) : Int) by omega, show (((s4.length + 1 + 1 + 1 : Nat) : Int) - 2) = ((s4.length + 1 : Nat) : Int) by omega, hr.2.2.1, show M (x + 2) ((s4.length + 1 + 1 : Nat) : Int) = v from hr.1, show M (x + 2) ((s4.length + 1 : Nat) : Int) = v2 from hr.2.1]
    refine ⟨by omega, fun g3 => ⟨by omega, by omega, fun M2 e2 => ?_⟩, fun g3 => ⟨by omega, by omega, fun M2 e2 => ?_⟩⟩
    · have e9 : z_vs w 3009 (v :: v2 :: v3 :: s4) = v :: s4 := by
        unfold z_vs; simp [show ¬ v3 = 1 by omega]
      rw [e9] at h
      exact h M2 (fun a ha => by rw [e2]; exact q_up_o ha) ⟨by rw [e2, q_up_s], z_rp_eq (fun i hi => by rw [e2]; exact q_up_n (by omega)) hr.2.2.2⟩
    · have e9 : z_vs w 3009 (v :: v2 :: v3 :: s4) = v2 :: s4 := by
        unfold z_vs; simp [show v3 = 1 by omega]
      rw [e9] at h
      exact h M2 (fun a ha => by rw [e2]; exact q_up_o ha) ⟨by rw [e2, q_up_s], z_rp_eq (fun i hi => by rw [e2]; exact q_up_n (by omega)) hr.2.2.2⟩
/-- a law's steps in the class -/
def z_lr (M : q_Mem) (x : Int) (cs : List Int) : Prop := M x 0 = (cs.length : Int) ∧ ∀ k : Nat, k < cs.length → M (x + 1) k = z_te (cs.getD k 0)
theorem l_value {d : Nat} {K : Int → q_Mem → Prop} (hd : 3 ≤ d) {x : Int} (kx : q_kd x = 2) {w : Int → Int} (hw : z_wd w) {cs : List Int} (hcl : cs.length ≤ 900) {t : Bool} :
    ∀ (j k : Nat) (M : q_Mem) (ts : List Bool) (st : List Int), k + j = cs.length → z_lr M x cs → (∀ i : Nat, i < 5 → M (x + 3) i = w i) → z_rp (M (x + 2)) st → z_vt ts st → ts.length ≤ 60 → z_tr (cs.drop k) ts = some [t] →
      (∀ M', (∀ a, a ≠ x + 2 → M' a = M a) → K ((z_vr w (cs.drop k) st).headD 0) M') → q_v mX2_value d (qPI K) M 43 [some (qR x), none, none, none, none, none, some (qI (st.length : Int)), some (qI (k : Int)), none] [] := by
  have kk := z_k2 kx
  intro j
  induction j with
  | zero =>
    intro k M ts st e hlr ew hr hv hts ht h
    refine bX2_value_43 _ _ _ kx ?_
    rw [hlr.1]
    refine ⟨fun _ => ?_, fun g => absurd (by omega) g⟩
    have dn : cs.drop k = [] := List.drop_eq_nil_of_le (by omega)
    rw [dn] at ht h
    cases ht
    match st, hv with
    | [v], hv =>
      refine ⟨fun g => absurd (show (1 : Int) ≤ 0 from g) (by decide), fun _ => ?_⟩
      have := h M (fun _ _ => rfl)
      rw [kk.2.1, show q_sub (([v].length : Nat) : Int) 1 = 0 from (by decide : q_sub ((1 : Nat) : Int) 1 = 0), show M (x + 2) 0 = v from hr.1]
      exact ⟨by omega, this⟩
    | _ :: _ :: _, hv => exact hv.2.elim
  | succ j ih =>
    intro k M ts st e hlr ew hr hv hts ht h
    have hlen := z_vt_len hv
    refine bX2_value_43 _ _ _ kx ?_
    have dr : cs.drop k = cs.getD k 0 :: cs.drop (k + 1) := by
      rw [List.drop_eq_getElem_cons (by omega)]
      congr 1
      rw [List.getD_eq_getElem?_getD, List.getElem?_eq_getElem (by omega)]
      rfl
    rw [hlr.1, kk.1, kk.2.1, kk.2.2.1, hlr.2 k (by omega)]
    refine ⟨fun g => by omega, fun g => ⟨by omega, fun c' ec => ?_⟩⟩
    rw [dr] at ht h
    generalize cs.getD k 0 = c at ht h ec
    obtain ⟨t2, hs⟩ : ∃ t2, z_ts c ts = some t2 := by
      cases hh : z_ts c ts with
      | none => simp [z_tr, hh] at ht
      | some t2 => exact ⟨t2, rfl⟩
    have ht2 : z_tr (cs.drop (k + 1)) t2 = some [t] := by simpa [z_tr, hs] using ht
    have hv2 := z_vs_ok hw hs hv
    have hl2 := z_ts_len hs hts
    have go : ∀ (M2 : q_Mem) (st2 : List Int), st2 = z_vs w c st → (∀ a, a ≠ x + 2 → M2 a = M a) → z_rp (M2 (x + 2)) st2 → q_v mX2_value d (qPI K) M2 43 [some (qR x), none, none, none, none, none, some (qI (st2.length : Int)), some (qI (q_add (k : Int) 1)), none] [] := by
      intro M2 st2 e2 hf hr2
      subst e2
      rw [q_add_eq (by omega), show (k : Int) + 1 = ((k + 1 : Nat) : Int) by omega]
      exact ih (k + 1) M2 t2 _ (by omega) ⟨by rw [hf x (by omega)]; exact hlr.1, fun i hi => by rw [hf (x + 1) (by omega)]; exact hlr.2 i hi⟩ (fun i hi => by rw [hf (x + 3) (by omega)]; exact ew i hi) hr2 hv2 hl2 ht2 (fun M' hf2 => h M' (fun a ha => (hf2 a ha).trans (hf a ha)))
    by_cases hc : 3000 ≤ c
    · have : c' < -5 := by
        rw [ec]
        unfold z_te
        repeat' split
        all_goals omega
      refine ⟨fun g2 => by omega, fun _ => ?_⟩
      rw [ec]
      exact k_apply (w := w) (by omega) kx hc hs hv hts hr (fun M' f' r' => go M' _ rfl f' r')
    · rcases z_ts_cases hs with ⟨h1, h2, -⟩ | ⟨h1, r, rfl, -⟩ | ⟨h1, r, rfl, -⟩ | ⟨h1, r, rfl, -⟩ | ⟨h1, r, rfl, -⟩ | ⟨h1, r, rfl, -⟩
      · by_cases h3 : c < 1000
        · have e9 : c' = c := by rw [ec]; unfold z_te; rw [if_pos h3]
          refine ⟨fun _ => ⟨fun g2 => by omega, fun _ => ⟨fun g2 => by omega, fun _ => ⟨by omega, fun M2 e2 => ?_⟩⟩⟩, fun g2 => by omega⟩
          rw [q_add_eq (a := (st.length : Int)) (by omega)]
          exact go M2 (c :: st) (by unfold z_vs; rw [if_pos h3]) (fun a ha => by rw [e2]; exact q_up_o ha) ⟨by rw [e2, q_up_s, e9], z_rp_eq (fun i hi => by rw [e2]; exact q_up_n (by omega)) hr⟩
        · have e9 : c' = 999 - c := by rw [ec]; unfold z_te; rw [if_neg h3, if_pos (by omega)]
          refine ⟨fun _ => ⟨fun g2 => by omega, fun _ => ⟨fun g2 => ?_, fun g2 => by omega⟩⟩, fun g2 => by omega⟩
          rw [q_sub_eq (by omega), q_add_eq (a := (st.length : Int)) (by omega)]
          refine ⟨by omega, by omega, fun M2 e2 => ?_⟩
          have := ew (c - 1000).toNat (by omega)
          rw [show (((c - 1000).toNat : Nat) : Int) = c - 1000 by omega] at this
          exact go M2 (w (c - 1000) :: st) (by unfold z_vs; rw [if_neg h3, if_pos (by omega)]) (fun a ha => by rw [e2]; exact q_up_o ha) ⟨by rw [e2, q_up_s, show (-1 : Int) - c' = c - 1000 by omega, this], z_rp_eq (fun i hi => by rw [e2]; exact q_up_n (by omega)) hr⟩
      all_goals omega
theorem k_value {d : Nat} {M : q_Mem} {K : Int → q_Mem → Prop} {x a0 a1 a2 a3 a4 : Int} (hd : 3 < d) (kx : q_kd x = 2) (w : Int → Int) (cs : List Int) {t : Bool} (hw : z_wd w) (e0 : w 0 = a0) (e1 : w 1 = a1) (e2 : w 2 = a2) (e3 : w 3 = a3) (e4 : w 4 = a4) (hlr : z_lr M x cs) (hcl : cs.length ≤ 900) (ht : z_tr cs [] = some [t]) (h : ∀ M', (∀ a, a ≠ x + 2 → a ≠ x + 3 → M' a = M a) → K ((z_vr w cs []).headD 0) M') : q_kI yX2_value mX2_value d [qR x, qI a0, qI a1, qI a2, qI a3, qI a4] M K := by
  have kk := z_k2 kx
  refine q_goI hd rfl (plainFor_of_name (by decide +kernel)) rfl (fun h => nomatch h) (Nat.le_of_ble_eq_true rfl) (fun d hd => bX2_value_0 _ _ _ _ _ _ kx ?_)
  rw [kk.2.2.1]
  intro M1 q1 M2 q2 M3 q3 M4 q4 M5 q5
  have f : ∀ a, a ≠ x + 3 → M5 a = M a := by
    intro a ha
    rw [q5, q_up_o ha, q4, q_up_o ha, q3, q_up_o ha, q2, q_up_o ha, q1, q_up_o ha]
  have g0 : M5 (x + 3) 0 = w 0 := by rw [q5, q_up_n (by decide), q4, q_up_n (by decide), q3, q_up_n (by decide), q2, q_up_n (by decide), q1, q_up_s, e0]
  have g1 : M5 (x + 3) 1 = w 1 := by rw [q5, q_up_n (by decide), q4, q_up_n (by decide), q3, q_up_n (by decide), q2, q_up_s, e1]
  have g2 : M5 (x + 3) 2 = w 2 := by rw [q5, q_up_n (by decide), q4, q_up_n (by decide), q3, q_up_s, e2]
  have g3 : M5 (x + 3) 3 = w 3 := by rw [q5, q_up_n (by decide), q4, q_up_s, e3]
  have g4 : M5 (x + 3) 4 = w 4 := by rw [q5, q_up_s, e4]
  refine l_value (t := t) hd kx hw hcl cs.length 0 M5 [] [] (by omega) ⟨by rw [f x (by omega)]; exact hlr.1, fun i hi => by rw [f (x + 1) (by omega)]; exact hlr.2 i hi⟩ ?_ trivial trivial (by decide) ht (fun M' f' => h M' (fun a h1 h2 => (f' a h1).trans (f a h2)))
  intro i hi
  match i, hi with
  | 0, _ => exact g0
  | 1, _ => exact g1
  | 2, _ => exact g2
  | 3, _ => exact g3
  | 4, _ => exact g4
/-- a plan: of the net in o (nodes, links, lines, ends, degrees), its laws -/
def z_lw (M : q_Mem) (x : Int) (o : Int → Int) (law : Nat) : Prop := (o (96 + law) = 1 ∧ z_lr M x (z_code o law) ∧ 0 < o (100 + law)) ∨ (o (96 + law) ≠ 1 ∧ M x 0 = 0)
def z_pl (M : q_Mem) (p : Int) (o : Int → Int) : Prop :=
  q_kd p = 4 ∧ M p 0 = o 51 ∧ M p 1 = o 52 ∧ M p 2 = o 0 ∧ (∀ l : Nat, l < z_L o → M (p + 1) l = o (53 + l) ∧ M (p + 2) l = o (69 + l)) ∧ (∀ n : Nat, n < z_N o → M (p + 4) n = (z_dg o n : Int)) ∧ z_lw M (p + 7) o 0 ∧ z_lw M (p + 11) o 1
theorem k_cweightOf {d : Nat} {M : q_Mem} {K : Int → q_Mem → Prop} {p g t : Int} {l : Nat} {o : Int → Int} (hd : 4 < d) (hp : z_pl M p o) (hn : z_net o) (hlw : z_laws o) (hg : z_gn o) (hl : l < z_L o) (eg : g = o (3 + l)) (ht : 0 ≤ t ∧ t ≤ 9) (h : ∀ M', (∀ a, a ≠ p + 9 → a ≠ p + 10 → a ≠ p + 13 → a ≠ p + 14 → M' a = M a) → K (z_wt o l t) M') : q_kI yX4_weightOf mX4_weightOf d [qR p, qI (l : Int), qI g, qI t] M K := by
  have kp := hp.1
  have kk := z_k4 kp
  have kw := z_k4w kp
  have hL := z_net_L16 hn
  have hw := z_wo_wd hn hg hl ht
  have ends := hp.2.2.2.2.1 l hl
  have hgl := hg l hl
  have last : ∀ M9, (∀ a, a ≠ p + 13 → a ≠ p + 14 → M9 a = M a) → ¬ (o 97 = 1 ∧ z_ev o (z_wo o l t) 1 = 0) → ∀ d, 4 ≤ d → q_v mX4_weightOf d (qPI K) M9 37 [some (qR p), some (qI (l : Int)), some (qI g), some (qI t), none] [] := by
    intro M9 f9 g9 d hd
    refine bX4_weightOf_37 _ _ _ _ kp ?_
    rw [kk.2.2.2.2.2.2.1, kk.1, kk.2.1, f9 (p + 7) (by omega) (by omega), f9 (p + 1) (by omega) (by omega), f9 (p + 2) (by omega) (by omega), ends.1, ends.2]
    rcases hp.2.2.2.2.2.2.1 with ⟨h1, h2, h3⟩ | ⟨h1, h2⟩
    · have h1 : o 96 = 1 := h1
      have ok := hlw.1 h1
      have hlen := z_code_len (o := o) (law := 0)
      have h3 : 0 < o (100 + ((0 : Nat) : Int)) := h3
      have hb := ok.1
      refine ⟨fun _ => ⟨by omega, by omega, k_value (by omega) kw.1 (z_wo o l t) (z_code o 0) hw (by rw [eg]; rfl) rfl rfl rfl rfl ⟨by rw [f9 (p + 7) (by omega) (by omega)]; exact h2.1, fun i hi => by rw [f9 (p + 7 + 1) (by omega) (by omega)]; exact h2.2 i hi⟩ (by omega) ok.2 (fun M' f' => k_min (by omega) (k_max (by omega) ?_))⟩, fun g => by rw [h2.1] at g; omega⟩
      have := h M' (fun a q1 q2 q3 q4 => (f' a (by omega) (by omega)).trans (f9 a q3 q4))
      unfold z_wt at this
      rw [if_neg g9, if_pos h1] at this
      exact this
    · have h1 : ¬ o 96 = 1 := h1
      refine ⟨fun g => absurd h2 g, fun _ => ?_⟩
      have := h M9 (fun a q1 q2 q3 q4 => f9 a q3 q4)
      unfold z_wt at this
      rw [if_neg g9, if_neg h1, show max (-99) (min 99 (o (3 + l))) = o (3 + l) by omega, ← eg] at this
      exact this
  refine q_goI hd rfl (plainFor_of_name (by decide +kernel)) rfl (fun h => nomatch h) (Nat.le_of_ble_eq_true rfl) (fun d hd => bX4_weightOf_0 _ _ _ _ kp ?_)
  rw [kk.2.2.2.2.2.2.2.1, kk.1, kk.2.1, ends.1, ends.2]
  rcases hp.2.2.2.2.2.2.2 with ⟨h1, h2, h3⟩ | ⟨h1, h2⟩
  · have h1 : o 97 = 1 := h1
    have ok := hlw.2 h1
    have hlen := z_code_len (o := o) (law := 1)
    have h3 : 0 < o (100 + ((1 : Nat) : Int)) := h3
    have hb := ok.1
    refine ⟨fun g => by rw [h2.1] at g; omega, fun _ => ⟨by omega, by omega, k_value (by omega) kw.2 (z_wo o l t) (z_code o 1) hw (by rw [eg]; rfl) rfl rfl rfl rfl h2 (by omega) ok.2 (fun M' f' => ⟨fun g2 => last M' (fun a q1 q2 => f' a (by omega) (by omega)) (fun g3 => g2 g3.2) d hd, fun g2 => ?_⟩)⟩⟩
    have := h M' (fun a q1 q2 q3 q4 => f' a (by omega) (by omega))
    unfold z_wt at this
    rw [if_pos ⟨h1, g2⟩] at this
    exact this
  · have h1 : ¬ o 97 = 1 := h1
    refine ⟨fun _ => last M (fun _ _ _ => rfl) (fun g => h1 g.1) d hd, fun g => by omega⟩
