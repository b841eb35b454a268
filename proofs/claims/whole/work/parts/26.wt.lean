-- weights: the reference's, and the class's laws
def z_wo (o : Int → Int) (l : Nat) (h : Int) : Int → Int := fun i => if i = 0 then o (3 + l) else if i = 1 then o (53 + l) else if i = 2 then o (69 + l) else if i = 3 then (l : Int) else h
def z_wt (o : Int → Int) (l : Nat) (h : Int) : Int := if o 97 = 1 ∧ z_ev o (z_wo o l h) 1 = 0 then 0 else max (-99) (min 99 (if o 96 = 1 then z_ev o (z_wo o l h) 0 else o (3 + l)))
def z_laws (o : Int → Int) : Prop := (o 96 = 1 → z_lawok o 0) ∧ (o 97 = 1 → z_lawok o 1)
def z_gn (o : Int → Int) : Prop := ∀ l : Nat, l < z_L o → -99 ≤ o (3 + l) ∧ o (3 + l) ≤ 99
theorem z_wt_bd {o : Int → Int} {l : Nat} {h : Int} : -99 ≤ z_wt o l h ∧ z_wt o l h ≤ 99 := by
  unfold z_wt
  split <;> omega
theorem z_wo_wd {o : Int → Int} {l : Nat} {h : Int} (hn : z_net o) (hg : z_gn o) (hl : l < z_L o) (hh : 0 ≤ h ∧ h ≤ 9) : z_wd (z_wo o l h) := by
  intro i hi
  have h1 := z_net_a hn hl
  have h2 := z_net_b hn hl
  have h3 := z_net_N10 hn
  have h4 := hg l hl
  have h5 := z_net_L16 hn
  unfold z_wo
  split
  · omega
  · split
    · omega
    · split
      · omega
      · split <;> omega
theorem l_wt106 {d : Nat} {M : q_Mem} {K : Int → q_Mem → Prop} {y : Int} (h : K (max (-99) (min 99 y)) M) : q_v mX12_weightOf d (qPI K) M 106 [none, none, none, none] [qI y] := by
  refine bX12_weightOf_106 _ ⟨fun g => ⟨fun g2 => ?_, fun g2 => ?_⟩, fun g => ?_⟩
  · rw [show max (-99) (min 99 y) = y by omega] at h; exact h
  · rw [show max (-99) (min 99 y) = 99 by omega] at h; exact h
  · rw [show max (-99) (min 99 y) = -99 by omega] at h; exact h
theorem k_weightOf {d : Nat} {M : q_Mem} {K : Int → q_Mem → Prop} {l : Nat} {t : Int} (hd : 2 < d) (hn : z_net (M 179)) (hlw : z_laws (M 179)) (hg : z_gn (M 179)) (hl : l < z_L (M 179)) (ht : 0 ≤ t ∧ t ≤ 9) (h : ∀ M', z_fr [185, 186] [] M M' → K (z_wt (M 179) l t) M') : q_kI yX12_weightOf mX12_weightOf d [qR 178, qI (l : Int), qI t] M K := by
  have hL := z_net_L16 hn
  have hw := z_wo_wd hn hg hl ht
  refine q_goI hd rfl (plainFor_of_name (by decide +kernel)) rfl (fun h => nomatch h) (Nat.le_of_ble_eq_true rfl) (fun d hd => bX12_weightOf_0 _ _ ?_)
  rw [q_add_eq (a := 3) (by omega), q_add_eq (a := 53) (by omega), q_add_eq (a := 69) (by omega)]
  refine ⟨by omega, fun M2 e2 => ⟨by omega, fun M4 e4 => ⟨by omega, fun M6 e6 M7 e7 M8 e8 => ?_⟩⟩⟩
  have f8 : z_fr [185, 186] [] M M8 := by
    subst e8 e7 e6 e4 e2
    exact z_fr_tr (z_fr_tr (z_fr_tr (z_fr_tr (z_fr_up (by decide) (by decide)) (z_fr_up (by decide) (by decide))) (z_fr_up (by decide) (by decide))) (z_fr_up (by decide) (by decide))) (z_fr_up (by decide) (by decide))
  have o8 : M8 179 = M 179 := f8.1 179 (by decide) (by decide)
  have w8 : ∀ i : Nat, i < 5 → M8 186 i = z_wo (M 179) l t i := by
    have q2 : M2 179 = M 179 := by rw [e2]; exact q_up_o (by decide)
    have q4 : M4 179 = M 179 := by rw [e4]; exact (q_up_o (by decide)).trans q2
    have g0 : M8 186 0 = M 179 (3 + l) := by
      rw [e8, q_up_n (by decide), e7, q_up_n (by decide), e6, q_up_n (by decide), e4, q_up_n (by decide), e2, q_up_s]
    have g1 : M8 186 1 = M 179 (53 + l) := by
      rw [e8, q_up_n (by decide), e7, q_up_n (by decide), e6, q_up_n (by decide), e4, q_up_s, q2]
    have g2 : M8 186 2 = M 179 (69 + l) := by
      rw [e8, q_up_n (by decide), e7, q_up_n (by decide), e6, q_up_s, q4]
    have g3 : M8 186 3 = l := by
      rw [e8, q_up_n (by decide), e7, q_up_s]
    have g4 : M8 186 4 = t := by
      rw [e8, q_up_s]
    intro i hi
    match i, hi with
    | 0, _ => exact g0
    | 1, _ => exact g1
    | 2, _ => exact g2
    | 3, _ => exact g3
    | 4, _ => exact g4
  have last : ∀ M9, z_fr [185, 186] [] M M9 → (∀ i : Nat, i < 5 → M9 186 i = z_wo (M 179) l t i) → ¬ (M 179 97 = 1 ∧ z_ev (M 179) (z_wo (M 179) l t) 1 = 0) → q_v mX12_weightOf d (qPI K) M9 79 [some (qR 178), some (qI (l : Int)), none, none] [] := by
    intro M9 f9 w9 g9
    have o9 : M9 179 = M 179 := f9.1 179 (by decide) (by decide)
    refine bX12_weightOf_79 _ ?_
    rw [q_add_eq (a := 3) (by omega), o9]
    refine ⟨fun g => ⟨by omega, l_wt106 ?_⟩, fun g => k_reckons (law := 0) (by omega) (by omega) (z_wo (M 179) l t) (by rw [o9]; exact hlw.1 g) hw w9 (fun M' f' => l_wt106 ?_)⟩
    · have := h M9 f9
      unfold z_wt at this
      rw [if_neg g9, if_neg g] at this
      exact this
    · have := h M' (z_fr_tr f9 (z_fr_mono f' (by decide) (by decide)))
      unfold z_wt at this
      rw [if_neg g9, if_pos g] at this
      rw [o9]
      exact this
  rw [o8]
  refine ⟨fun g => last M8 f8 w8 (fun g2 => g g2.1), fun g => k_reckons (law := 1) (by omega) (by omega) (z_wo (M 179) l t) (by rw [o8]; exact hlw.2 g) hw w8 (fun M' f' => ?_)⟩
  have f3 := z_fr_tr f8 (z_fr_mono f' (S' := [185, 186]) (F' := []) (by decide) (by decide))
  rw [o8]
  refine ⟨fun g2 => last M' f3 (fun i hi => by rw [f'.1 186 (by decide) (by decide)]; exact w8 i hi) (fun g3 => g2 g3.2), fun g2 => ?_⟩
  have := h M' f3
  unfold z_wt at this
  rw [if_pos ⟨g, g2⟩] at this
  exact this
def z_wts (o w : Int → Int) (n : Nat) : Prop := ∀ l : Nat, l < n → w l = z_wt o l (o 1)
theorem l_laysWeights {d : Nat} {K : q_Mem → Prop} {M : q_Mem} (hd : 3 ≤ d) (hn : z_net (M 179)) (hlw : z_laws (M 179)) (hg : z_gn (M 179)) (ht : 0 ≤ M 179 1 ∧ M 179 1 ≤ 9) (h : ∀ M', z_fr [185, 186, 187] [] M M' → z_wts (M 179) (M' 187) (z_L (M 179)) → K M') :
    ∀ (j i : Nat) (M1 : q_Mem), i + j = z_L (M 179) → z_fr [185, 186, 187] [] M M1 → z_wts (M 179) (M1 187) i → q_v mX12_laysWeights d (qPU K) M1 2 [some (qR 178), some (qI (i : Int))] [] := by
  have eL := z_net_L hn
  have hL := z_net_L16 hn
  intro j
  induction j with
  | zero =>
    intro i M1 e f w
    have o1 : M1 179 = M 179 := f.1 179 (by decide) (by decide)
    refine bX12_laysWeights_2 _ ?_
    rw [o1]
    exact ⟨fun _ => h M1 f (by rw [← e]; exact w), fun g => absurd (by omega) g⟩
  | succ j ih =>
    intro i M1 e f w
    have o1 : M1 179 = M 179 := f.1 179 (by decide) (by decide)
    refine bX12_laysWeights_2 _ ?_
    rw [o1]
    refine ⟨fun g => by omega, fun _ => k_weightOf (by omega) (by rw [o1]; exact hn) (by rw [o1]; exact hlw) (by rw [o1]; exact hg) (by rw [o1]; omega) ht (fun M2 f2 => ⟨by omega, fun M4 e4 => ?_⟩)⟩
    rw [q_add_eq (by omega), show (i : Int) + 1 = ((i + 1 : Nat) : Int) by omega]
    have f4 : z_fr [185, 186, 187] [] M M4 := z_fr_tr (z_fr_tr f (z_fr_mono f2 (by decide) (by decide))) (by rw [e4]; exact z_fr_up (by decide) (by decide))
    refine ih (i + 1) M4 (by omega) f4 (fun l hl => ?_)
    by_cases hli : l = i
    · subst hli
      rw [e4, q_up_s, o1]
    · rw [e4, q_up_n (by omega), f2.1 187 (by decide) (by decide)]
      exact w l (by omega)
theorem k_laysWeights {d : Nat} {M : q_Mem} {K : q_Mem → Prop}  (hd : 3 < d) (hn : z_net (M 179)) (hlw : z_laws (M 179)) (hg : z_gn (M 179)) (ht : 0 ≤ M 179 1 ∧ M 179 1 ≤ 9) (h : ∀ M', z_fr [185, 186, 187] [] M M' → z_wts (M 179) (M' 187) (z_L (M 179)) → K M') : q_kU yX12_laysWeights mX12_laysWeights d [qR 178] M K :=
  q_goU hd rfl (plainFor_of_name (by decide +kernel)) rfl (fun h => nomatch h) (Nat.le_of_ble_eq_true rfl) (fun d hd => bX12_laysWeights_0 (l_laysWeights hd hn hlw hg ht h (z_L (M 179)) 0 M (by omega) z_fr_rf (fun l hl => by omega)))
/-- where objects lie -/
theorem z_kd_in {a : Int} (h : q_kd a ≠ 99) : 0 < a ∧ a ≤ 207 := by
  unfold q_kd at h
  split at h
  · exact absurd rfl h
  · refine ⟨by omega, ?_⟩
    apply Classical.byContradiction
    intro g
    have : q_kdL[(a - 1).toNat]? = none := by
      rw [List.getElem?_eq_none_iff]
      have : q_kdL.length = 207 := by decide +kernel
      omega
    rw [this] at h
    exact h rfl
theorem z_k2n : ∀ n : Nat, n < 208 → q_kd (n : Int) = 2 → q_lay n 1 = (n : Int) + 1 ∧ q_lay n 2 = (n : Int) + 2 ∧ q_lay n 3 = (n : Int) + 3 ∧ (n : Int) < 170 := by decide +kernel
theorem z_k2 {x : Int} (h : q_kd x = 2) : q_lay x 1 = x + 1 ∧ q_lay x 2 = x + 2 ∧ q_lay x 3 = x + 3 ∧ x < 170 ∧ 0 < x := by
  have h1 := z_kd_in (a := x) (by rw [h]; decide)
  have := z_k2n x.toNat (by omega)
  rw [show ((x.toNat : Nat) : Int) = x by omega] at this
  obtain ⟨h2, h3, h4, h5⟩ := this h
  exact ⟨h2, h3, h4, h5, h1.1⟩
theorem z_k4n : ∀ n : Nat, n < 208 → q_kd (n : Int) = 4 → q_lay n 4 = (n : Int) + 1 ∧ q_lay n 5 = (n : Int) + 2 ∧ q_lay n 6 = (n : Int) + 3 ∧ q_lay n 7 = (n : Int) + 4 ∧ q_lay n 8 = (n : Int) + 5 ∧ q_lay n 9 = (n : Int) + 6 ∧ q_lay n 10 = (n : Int) + 7 ∧ q_lay n 11 = (n : Int) + 11 ∧ (n : Int) < 145 := by decide +kernel
theorem z_k4 {x : Int} (h : q_kd x = 4) : q_lay x 4 = x + 1 ∧ q_lay x 5 = x + 2 ∧ q_lay x 6 = x + 3 ∧ q_lay x 7 = x + 4 ∧ q_lay x 8 = x + 5 ∧ q_lay x 9 = x + 6 ∧ q_lay x 10 = x + 7 ∧ q_lay x 11 = x + 11 ∧ x < 145 ∧ 0 < x := by
  have h1 := z_kd_in (a := x) (by rw [h]; decide)
  have := z_k4n x.toNat (by omega)
  rw [show ((x.toNat : Nat) : Int) = x by omega] at this
  obtain ⟨a1, a2, a3, a4, a5, a6, a7, a8, a9⟩ := this h
  exact ⟨a1, a2, a3, a4, a5, a6, a7, a8, a9, h1.1⟩
theorem z_k4l : ∀ n : Nat, n < 208 → q_kd (n : Int) = 4 → q_kd ((n : Int) + 7) = 2 ∧ q_kd ((n : Int) + 11) = 2 := by decide +kernel
theorem z_k4w {x : Int} (h : q_kd x = 4) : q_kd (x + 7) = 2 ∧ q_kd (x + 11) = 2 := by
  have h1 := z_kd_in (a := x) (by rw [h]; decide)
  have := z_k4l x.toNat (by omega)
  rw [show ((x.toNat : Nat) : Int) = x by omega] at this
  exact this h
/-- the class's names of steps -/
def z_te (c : Int) : Int := if c < 1000 then c else if c < 3000 then 999 - c else if c ≤ 3005 then 2994 - c else if c = 3007 then -12 else if c = 3008 then -13 else if c = 3006 then -14 else -15
theorem l_comb {d : Nat} {M : q_Mem} {K : Int → q_Mem → Prop} {y : Int} (hd : 1 ≤ d) (h : K (z_cl y) M) : q_v mX2_combined d (qPI K) M 108 [none, none, none, none, none] [qL y] := by
  refine bX2_combined_108 _ (k_lmin (by omega) (k_lmax (by omega) ?_))
  have := z_cl_bd y
  unfold z_cl at this h
  rw [q_l2i_eq (by unfold q_in32; omega)]
  exact h
theorem k_combined {d : Nat} {M : q_Mem} {K : Int → q_Mem → Prop} {c a b : Int} (hd : 1 < d) (hc : (3000 ≤ c ∧ c ≤ 3005) ∨ c = 3007 ∨ c = 3008) (ha : -1000000 ≤ a ∧ a ≤ 1000000) (hb : -1000000 ≤ b ∧ b ≤ 1000000) (h : K (z_bt c a b) M) : q_kI yX2_combined mX2_combined d [qI (z_te c), qI a, qI b] M K := by
  have hm := z_m6 ha hb
  have e : z_te c = if c ≤ 3005 then 2994 - c else if c = 3007 then -12 else -13 := by
    unfold z_te
    rw [if_neg (by omega), if_neg (by omega)]
    repeat' split
    all_goals omega
  unfold z_bt at h
  refine q_goI hd rfl (plainFor_of_name (by decide +kernel)) rfl (fun h => nomatch h) (Nat.le_of_ble_eq_true rfl) (fun d hd => bX2_combined_0 _ _ _ ⟨fun g => ⟨fun g1 => ⟨fun g2 => ?_, fun g2 => ?_⟩, fun g1 => ?_⟩, fun g => ?_, fun g => ?_, fun g => ⟨fun g1 => ?_, fun g1 => ?_⟩, fun g => ⟨fun g1 => ?_, fun g1 => ?_⟩, fun g => ⟨fun g1 => ?_, fun g1 => ?_⟩⟩)
  · have : c = 3000 := by rw [e] at g g1 g2; split at g <;> (try split at g) <;> omega
    subst this
    rw [if_neg (by decide), if_neg (by decide), if_neg (by decide), if_neg (by decide), if_neg (by decide), if_pos rfl] at h
    rw [q_add_eq (by omega)]
    exact l_comb hd h
  · have : c = 3001 := by rw [e] at g g1 g2; split at g <;> (try split at g) <;> omega
    subst this
    rw [if_neg (by decide), if_neg (by decide), if_neg (by decide), if_neg (by decide), if_neg (by decide), if_neg (by decide), if_pos rfl] at h
    rw [q_sub_eq (by omega)]
    exact l_comb hd h
  · have : c = 3002 := by rw [e] at g g1; split at g <;> (try split at g) <;> omega
    subst this
    rw [if_neg (by decide), if_neg (by decide), if_neg (by decide), if_neg (by decide), if_neg (by decide), if_neg (by decide), if_neg (by decide)] at h
    rw [q_lmul_eq (by omega)]
    exact l_comb hd h
  · have : c = 3008 := by rw [e] at g; split at g <;> (try split at g) <;> omega
    subst this
    exact h
  · have : c = 3007 := by rw [e] at g; split at g <;> (try split at g) <;> omega
    subst this
    exact h
  · have : c = 3005 := by rw [e] at g; split at g <;> (try split at g) <;> omega
    subst this
    rw [if_neg (by decide), if_neg (by decide), if_pos rfl, if_neg (by omega)] at h; exact h
  · have : c = 3005 := by rw [e] at g; split at g <;> (try split at g) <;> omega
    subst this
    rw [if_neg (by decide), if_neg (by decide), if_pos rfl, if_pos (by omega)] at h; exact h
  · have : c = 3004 := by rw [e] at g; split at g <;> (try split at g) <;> omega
    subst this
    rw [if_neg (by decide), if_pos rfl, if_neg (by omega)] at h; exact h
  · have : c = 3004 := by rw [e] at g; split at g <;> (try split at g) <;> omega
    subst this
    rw [if_neg (by decide), if_pos rfl, if_pos (by omega)] at h; exact h
  · have : c = 3003 := by rw [e] at g; split at g <;> (try split at g) <;> omega
    subst this
    rw [if_pos rfl, if_neg g1] at h; exact h
  · have : c = 3003 := by rw [e] at g; split at g <;> (try split at g) <;> omega
    subst this
    rw [if_pos rfl, if_pos g1] at h; exact h
theorem l_app84 {d : Nat} {M : q_Mem} {K : Int → q_Mem → Prop} {x c : Int} {st : List Int} {v v2 : Int} (hd : 2 ≤ d) (kx : q_kd x = 2) (hc : (3000 ≤ c ∧ c ≤ 3005) ∨ c = 3007 ∨ c = 3008) (ha : -1000000 ≤ v2 ∧ v2 ≤ 1000000) (hb : -1000000 ≤ v ∧ v ≤ 1000000) (hlen : st.length ≤ 60) (hr : z_rp (M (x + 2)) (v :: v2 :: st))
    (h : ∀ M', M' = q_up M (x + 2) st.length (z_bt c v2 v) → K ((st.length + 1 : Nat) : Int) M') : q_v mX2_apply d (qPI K) M 84 [some (qR x), some (qI (z_te c)), some (qI ((st.length + 1 + 1 : Nat) : Int))] [] := by
  have kk := z_k2 kx
  refine bX2_apply_84 _ _ _ kx ?_
  rw [kk.2.1, q_sub_eq (b := 2) (by omega), q_sub_eq (b := 1) (by omega), show (((st.length + 1 + 1 : Nat) : Int) - 2) = (st.length : Int) by omega, show (((st.length + 1 + 1 : Nat) : Int) - 1) = ((st.length + 1 : Nat) : Int) by omega, hr.2.1, show M (x + 2) ((st.length + 1 : Nat) : Int) = v from hr.1]
  exact ⟨fun _ => ⟨by omega, by omega, k_combined (by omega) hc ha hb ⟨by omega, fun M2 e2 => h M2 e2⟩⟩, fun g => absurd (by omega) g⟩
