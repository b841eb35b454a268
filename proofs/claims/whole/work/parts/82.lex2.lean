-- the class's tokens: advance, words, signs
theorem z_sg19 : (q_sb 19).length = 12 ∧ (∀ j : Nat, j < 12 → 0 ≤ (q_sb 19).getD j 0 ∧ (q_sb 19).getD j 0 < 128) := by decide +kernel
theorem z_i2c_b : ∀ c : Nat, c < 256 → q_i2c (c : Int) = (c : Int) := by decide +kernel
theorem z_sgn_yes {c : Int} (h : ∃ j : Nat, j < 12 ∧ (q_sb 19).getD j 0 = c) : ∃ j : Nat, j < 12 ∧ z_sgn c = 30 + (j : Int) ∧ (q_sb 19).getD j 0 = c := by
  have f := z_find_ok (p := fun j => decide ((q_sb 19).getD j 0 = c)) (k := 12) (i := 0)
  obtain ⟨j, hj, e⟩ := h
  have lt : z_find (fun j => decide ((q_sb 19).getD j 0 = c)) 12 0 < 12 := by
    rcases Nat.lt_or_ge (z_find (fun j => decide ((q_sb 19).getD j 0 = c)) 12 0) 12 with g | g
    · exact g
    · have := f.2.2.1 j (by omega) (by omega)
      rw [decide_eq_false_iff_not] at this
      exact absurd e this
  refine ⟨_, lt, ?_, by have := f.2.2.2 (by omega); rwa [decide_eq_true_eq] at this⟩
  unfold z_sgn
  rw [if_pos lt]
theorem z_sgn_no {c : Int} (h : ¬ ∃ j : Nat, j < 12 ∧ (q_sb 19).getD j 0 = c) : z_sgn c = 22 := by
  have f := z_find_ok (p := fun j => decide ((q_sb 19).getD j 0 = c)) (k := 12) (i := 0)
  unfold z_sgn
  rw [if_neg]
  intro lt
  have := f.2.2.2 (by omega)
  rw [decide_eq_true_eq] at this
  exact h ⟨_, lt, this⟩
theorem l_adv46 {d : Nat} {M0 M : q_Mem} {K : q_Mem → Prop} {bt : Nat → Int} {n p : Nat} (hd : 5 ≤ d) (hr : z_rd M0 bt n) (hp : p ≤ n) (f : z_f33 M0 M) (h4 : M 33 4 = (z_tA bt n p : Int)) (h : ∀ M', z_f33 M0 M' → z_ctk M' bt (z_tA bt n p) (z_tB bt n p) (z_tK bt n p) (z_tN bt n p) → K M') : q_v mX5_advance d (qPU K) M 46 [some (qR 33), none] [] := by
  have a := z_tA_ok (bt := bt) hp
  have b := z_tB_ok (bt := bt) hp
  have n9 := hr.2.2.1
  refine bX5_advance_46 (fun M1 e1 => ?_)
  have f1 := z_f33_u f e1 (by omega)
  have rd1 := z_rd_f hr f1
  have h41 : M1 33 4 = (z_tA bt n p : Int) := by rw [e1, q_up_n (by decide)]; exact h4
  have h51 : M1 33 5 = (z_tA bt n p : Int) := by rw [e1, q_up_s]; exact h4
  rw [h41]
  refine k_byteAt (by omega) rd1 ?_
  by_cases c : z_tA bt n p < n
  · have cb := rd1.2.2.2 _ c
    rw [if_pos c]
    refine ⟨fun _ => k_isLetter (by omega) ?_, fun g => absurd cb.2.1 g⟩
    cases s1 : z_sml (bt (z_tA bt n p)) with
    | true =>
      refine ⟨fun g => absurd g (by decide), fun _ => ?_⟩
      have hd1 : 1 < d := by omega
      refine q_goU hd1 rfl (plainFor_of_name (by decide +kernel)) rfl (fun h => nomatch h) (Nat.le_of_ble_eq_true rfl) (fun d hd => bX5_passWord_0 (fun M2 e2 => ?_))
      have f2 := z_f33_u f1 e2 (by omega)
      have eB : z_tB bt n p = z_find (fun x => !z_sml (bt x)) (n - z_tA bt n p) (z_tA bt n p) := by
        unfold z_tB
        rw [if_neg (by omega), if_pos s1]
      refine l_pw (M0 := M2) (n := n) (E := z_tB bt n p) (by omega) (z_rd_f hr f2) (fun M' f' g4 g6 g5 => h M' (z_f33_tr f2 f') ⟨by rw [g4, e2, q_up_n (by decide)]; exact h41, g5, b.1, by omega, Or.inr (Or.inl ⟨?_, by rw [g6, e2, q_up_s]⟩)⟩) (n - z_tA bt n p) (z_tA bt n p) M2 (by omega) z_f33_rf rfl rfl (by rw [e2, q_up_n (by decide)]; exact h51) eB.symm
      unfold z_tK
      rw [if_neg (by omega), if_pos s1]
    | false =>
      refine ⟨fun _ => k_cisDigit (by omega) ?_, fun g => absurd rfl g⟩
      cases s2 : z_dgt (bt (z_tA bt n p)) with
      | true =>
        refine ⟨fun g => absurd g (by decide), fun _ => ?_⟩
        have hd1 : 1 < d := by omega
        refine q_goU hd1 rfl (plainFor_of_name (by decide +kernel)) rfl (fun h => nomatch h) (Nat.le_of_ble_eq_true rfl) (fun d hd => bX5_passNumber_0 (fun M2 e2 => ?_))
        have f2 := z_f33_u f1 e2 (by omega)
        have eB : z_tB bt n p = z_find (fun x => !z_dgt (bt x)) (n - z_tA bt n p) (z_tA bt n p) := by
          unfold z_tB
          rw [if_neg (by omega), if_neg (by rw [s1]; decide), if_pos s2]
        have eK : z_tK bt n p = if 3 < z_tB bt n p - z_tA bt n p then 22 else 20 := by
          unfold z_tK
          rw [if_neg (by omega), if_neg (by rw [s1]; decide), if_pos s2]
        have z0 : z_nv bt (z_tA bt n p) (z_tA bt n p - z_tA bt n p) = 0 := by rw [Nat.sub_self]; rfl
        refine l_pn (M0 := M2) (n := n) (a := z_tA bt n p) (E := z_tB bt n p) (by omega) (z_rd_f hr f2) (by rw [e2, q_up_n (by decide)]; exact h41) (fun M' f' g4 g5 g7 g6 _ nb => h M' (z_f33_tr f2 f') ⟨g4, g5, b.1, by omega, ?_⟩) (n - z_tA bt n p) (z_tA bt n p) M2 (by omega) (Nat.le_refl _) z_f33_rf (by rw [e2, q_up_n (by decide)]; exact h41) (by rw [e2, q_up_n (by decide)]; exact h51) (by rw [e2, q_up_s, z0]) (by rw [z0]; omega) (fun _ => z0) eB.symm
        rw [eK]
        by_cases c3 : 3 < z_tB bt n p - z_tA bt n p
        · rw [if_pos c3] at g6 ⊢
          exact Or.inr (Or.inr (Or.inr (Or.inr ⟨rfl, g6⟩)))
        · rw [if_neg c3] at g6 ⊢
          exact Or.inr (Or.inr (Or.inl ⟨rfl, g6, g7, nb⟩))
      | false =>
        refine ⟨fun _ M8 e8 => ?_, fun g => absurd rfl g⟩
        obtain ⟨cn, ec⟩ : ∃ cn : Nat, bt (z_tA bt n p) = (cn : Int) := ⟨(bt (z_tA bt n p)).toNat, by omega⟩
        have eB : z_tB bt n p = z_tA bt n p + 1 := by
          unfold z_tB
          rw [if_neg (by omega), if_neg (by rw [s1]; decide), if_neg (by rw [s2]; decide)]
        have eK : z_tK bt n p = z_sgn (bt (z_tA bt n p)) := by
          unfold z_tK
          rw [if_neg (by omega), if_neg (by rw [s1]; decide), if_neg (by rw [s2]; decide)]
        rw [h51, q_add_eq (by omega)] at e8
        have f8 := z_f33_u f1 e8 (by omega)
        rw [ec, z_i2c_b cn (by omega)]
        refine k_indexOf (by omega) (by decide) (by omega) (fun v hv => ?_)
        rw [z_sg19.1, ← ec] at hv
        rw [← ec]
        refine ⟨fun g M11 e11 M12 e12 => ?_, fun g M13 e13 M14 e14 => ?_⟩
        · have no : ¬ ∃ j : Nat, j < 12 ∧ (q_sb 19).getD j 0 = bt (z_tA bt n p) := fun q => by have := hv.mpr q; omega
          refine h M12 (z_f33_u (z_f33_u f8 e11 (by omega)) e12 (by omega)) ⟨?_, ?_, b.1, by omega, ?_⟩
          · rw [e12, q_up_n (by decide), e11, q_up_n (by decide), e8, q_up_n (by decide)]; exact h41
          · rw [e12, q_up_n (by decide), e11, q_up_n (by decide), e8, q_up_s, eB]; omega
          · rw [eK, z_sgn_no no]
            exact Or.inr (Or.inr (Or.inr (Or.inr ⟨rfl, by rw [e12, q_up_n (by decide), e11, q_up_s]⟩)))
        · obtain ⟨j, hj, e1', e2'⟩ := z_sgn_yes (hv.mp (by omega))
          refine h M14 (z_f33_u (z_f33_u f8 e13 (by omega)) e14 (by omega)) ⟨?_, ?_, b.1, by omega, ?_⟩
          · rw [e14, q_up_n (by decide), e13, q_up_n (by decide), e8, q_up_n (by decide)]; exact h41
          · rw [e14, q_up_n (by decide), e13, q_up_n (by decide), e8, q_up_s, eB]; omega
          · rw [eK]
            exact Or.inr (Or.inr (Or.inr (Or.inl ⟨j, hj, e1', by rw [e14, q_up_n (by decide), e13, q_up_s], by rw [e14, q_up_s, e2']⟩)))
  · rw [if_neg c]
    refine ⟨fun g => absurd g (by decide), fun _ M17 e17 => h M17 (z_f33_u f1 e17 (by omega)) ⟨by rw [e17, q_up_n (by decide)]; exact h41, ?_, b.1, by omega, Or.inl ⟨?_, by rw [e17, q_up_s]⟩⟩⟩
    · rw [e17, q_up_n (by decide), h51]
      unfold z_tB
      rw [if_pos (by omega)]
    · unfold z_tK
      rw [if_pos (by omega)]
theorem l_adv8 {d : Nat} {M0 : q_Mem} {K : q_Mem → Prop} {bt : Nat → Int} {n p : Nat} (hd : 5 ≤ d) (hr : z_rd M0 bt n) (hp : p ≤ n) (h : ∀ M', z_f33 M0 M' → z_ctk M' bt (z_tA bt n p) (z_tB bt n p) (z_tK bt n p) (z_tN bt n p) → K M') :
    ∀ (j i : Nat) (M : q_Mem), i + j = n → z_f33 M0 M → M 33 4 = (i : Int) → z_find (fun x => !z_blk (bt x)) j i = z_tA bt n p → q_v mX5_advance d (qPU K) M 8 [some (qR 33), none] [] := by
  intro j
  induction j with
  | zero =>
    intro i M e f h4 q
    have q : i = z_tA bt n p := q
    refine bX5_advance_8 ?_
    rw [(z_rd_f hr f).2.1, h4]
    exact ⟨fun _ => l_adv46 hd hr hp f (by rw [h4, q]) h, fun g => absurd (by omega) g⟩
  | succ j ih =>
    intro i M e f h4 q
    have rd := z_rd_f hr f
    refine bX5_advance_8 ?_
    rw [rd.2.1, h4]
    refine ⟨fun g => absurd g (by omega), fun _ => k_byteAt (by omega) rd (k_isBlank (by omega) ?_)⟩
    rw [if_pos (show i < n by omega), h4, q_add_eq (by have := rd.2.2.1; omega), show (i : Int) + 1 = ((i + 1 : Nat) : Int) by omega]
    cases c : z_blk (bt i) with
    | true =>
      rw [z_find_s (by simp [c])] at q
      exact ⟨fun g => absurd g (by decide), fun _ M5 e5 => ih (i + 1) M5 (by omega) (z_f33_u f e5 (by omega)) (by rw [e5, q_up_s]) q⟩
    | false =>
      rw [z_find_h (by simp [c])] at q
      exact ⟨fun _ => l_adv46 hd hr hp f (by rw [h4, q]) h, fun g => absurd rfl g⟩
theorem k_advance {d : Nat} {M : q_Mem} {K : q_Mem → Prop} {bt : Nat → Int} {n p : Nat} (hd : 5 < d) (hr : z_rd M bt n) (hp : p ≤ n) (h5 : M 33 5 = (p : Int)) (h : ∀ M', z_f33 M M' → z_ctk M' bt (z_tA bt n p) (z_tB bt n p) (z_tK bt n p) (z_tN bt n p) → K M') : q_kU yX5_advance mX5_advance d [qR 33] M K :=
  q_goU hd rfl (plainFor_of_name (by decide +kernel)) rfl (fun h => nomatch h) (Nat.le_of_ble_eq_true rfl) (fun d hd => bX5_advance_0 (fun M1 e1 => l_adv8 (M0 := M) hd hr hp h (n - p) p M1 (by omega) (z_f33_u z_f33_rf e1 (by omega)) (by rw [e1, q_up_s, h5]) rfl))
/-- words -/
def z_kk (i : Nat) : Nat := [0, 1, 2, 3, 6, 7, 8, 5, 4, 9, 13, 14, 15, 10, 11, 12, 17, 16, 18].getD i 0
theorem z_kk_ok : ∀ i : Nat, i < 19 → z_kk i < 19 ∧ z_kx.getD (z_kk i) 0 = i ∧ z_kx.getD i 0 < 19 ∧ z_kk (z_kx.getD i 0) = i ∧ (q_sb i).length < 10 := by decide +kernel
theorem z_wd_ne : ∀ i : Nat, i < 19 → ∀ j : Nat, j < 19 → (q_sb i).length = (q_sb j).length → (∀ x : Nat, x < (q_sb i).length → (q_sb i).getD x 0 = (q_sb j).getD x 0) → i = j := by decide +kernel
theorem z_alb_all {p : Nat → Bool} : ∀ {n : Nat}, z_alb p n = true → ∀ k, k < n → p k = true
  | 0, _, k, hk => by omega
  | n + 1, h, k, hk => by
    have h : (z_alb p n && p n) = true := h
    rw [Bool.and_eq_true] at h
    by_cases c : k = n
    · subst c; exact h.2
    · exact z_alb_all h.1 k (by omega)
/-- a word is told by its number -/
theorem z_key_iff {bt : Nat → Int} {a b i : Nat} (hi : i < 19) : z_wdm bt a b (q_sb i) = true ↔ z_key bt a b = z_kk i := by
  have ok := z_kk_ok i hi
  have f := z_find_ok (p := fun k => z_wdm bt a b (q_sb (z_kx.getD k 0))) (k := 19) (i := 0)
  have un : ∀ k, k < 19 → z_wdm bt a b (q_sb (z_kx.getD k 0)) = true → z_wdm bt a b (q_sb i) = true → k = z_kk i := by
    intro k hk h1 h2
    have okk := z_kk_ok k hk
    unfold z_wdm at h1 h2
    rw [Bool.and_eq_true, decide_eq_true_eq] at h1 h2
    have e := z_wd_ne _ okk.2.2.1 i hi (h1.1.symm.trans h2.1) (fun x hx => by
      have q1 := z_alb_all h1.2 x hx
      have q2 := z_alb_all h2.2 x (by omega)
      rw [decide_eq_true_eq] at q1 q2
      exact q1.symm.trans q2)
    rw [← e, okk.2.2.2.1]
  unfold z_key
  constructor
  · intro h
    have lt : z_find (fun k => z_wdm bt a b (q_sb (z_kx.getD k 0))) 19 0 < 19 := by
      rcases Nat.lt_or_ge (z_find (fun k => z_wdm bt a b (q_sb (z_kx.getD k 0))) 19 0) 19 with g | g
      · exact g
      · have := f.2.2.1 (z_kk i) (by omega) (by omega)
        rw [ok.2.1, h] at this
        exact absurd this (by decide)
    exact un _ lt (f.2.2.2 (by omega)) h
  · intro h
    have := f.2.2.2 (by omega)
    rw [h, ok.2.1] at this
    exact this
theorem l_word {d : Nat} {M : q_Mem} {K : Int → q_Mem → Prop} {bt : Nat → Int} {n a b i : Nat} (hd : 4 ≤ d) (hr : z_rd M bt n) (hi : i < 19) (h4 : M 33 4 = (a : Int)) (hab : b - a = (q_sb i).length) (hbn : b ≤ n) (h : K (if z_wdm bt a b (q_sb i) then 1 else 0) M) :
    ∀ (j k : Nat), k + j = (q_sb i).length → (∀ x : Nat, x < k → bt (a + x) = (q_sb i).getD x 0) → q_v mX5_isWord d (qPI K) M 28 [some (qR 33), some (qR (-(i : Int) - 1)), some (qI (k : Int))] [] := by
  have ok := (z_kk_ok i hi).2.2.2.2
  have n9 := hr.2.2.1
  have all : ∀ k, (∀ x : Nat, x < k → bt (a + x) = (q_sb i).getD x 0) → z_alb (fun j => decide (bt (a + j) = (q_sb i).getD j 0)) k = true := fun k => by
    induction k with
    | zero => intro _; rfl
    | succ k ih =>
      intro q
      show (z_alb (fun j => decide (bt (a + j) = (q_sb i).getD j 0)) k && decide (bt (a + k) = (q_sb i).getD k 0)) = true
      rw [ih (fun x hx => q x (by omega)), q k (by omega)]
      simp
  intro j
  induction j with
  | zero =>
    intro k e q
    have ek : k = (q_sb i).length := by omega
    refine bX5_isWord_28 _ i (by omega) (k_len (by omega) (by omega) ⟨fun _ => ?_, fun g => absurd (by omega) g⟩)
    unfold z_wdm at h
    rw [decide_eq_true hab, ← ek, all k q] at h
    exact h
  | succ j ih =>
    intro k e q
    refine bX5_isWord_28 _ i (by omega) (k_len (by omega) (by omega) ⟨fun g => absurd g (by omega), fun _ => ?_⟩)
    rw [h4, q_add_eq (by omega), show (a : Int) + (k : Int) = ((a + k : Nat) : Int) by omega]
    refine k_byteAt (by omega) hr (k_charAt (by omega) (by omega) (by omega) (by omega) ?_)
    rw [if_pos (show a + k < n by omega), Int.toNat_natCast, q_add_eq (by omega), show (k : Int) + 1 = ((k + 1 : Nat) : Int) by omega]
    refine ⟨fun g => ih (k + 1) (by omega) (fun x hx => ?_), fun g => ?_⟩
    · by_cases c : x = k
      · subst c; exact g
      · exact q x (by omega)
    · unfold z_wdm at h
      rw [z_alb_no (i := k) (by omega) (by simpa using g), Bool.and_false] at h
      exact h
theorem k_isWord {d : Nat} {M : q_Mem} {K : Int → q_Mem → Prop} {bt : Nat → Int} {n a b i : Nat} {kd nm : Int} (hd : 4 < d) (hr : z_rd M bt n) (hi : i < 19) (ht : z_ctk M bt a b kd nm) (hbn : b ≤ n) (h1 : kd = (z_kk i : Int) → K 1 M) (h0 : ¬ kd = (z_kk i : Int) → K 0 M) : q_kI yX5_isWord mX5_isWord d [qR 33, qR (-(i : Int) - 1)] M K := by
  have ok := z_kk_ok i hi
  obtain ⟨h4, h5, hab, hb9, tk⟩ := ht
  have n9 := hr.2.2.1
  have nw : ¬ M 33 6 = 1 → ¬ kd = (z_kk i : Int) := fun g q => by
    rcases tk with ⟨a1, a2⟩ | ⟨a1, a2⟩ | ⟨a1, a2⟩ | ⟨j, hj, a1, a2⟩ | ⟨a1, a2⟩
    · omega
    · exact g a2
    · omega
    · omega
    · omega
  refine q_goI hd rfl (plainFor_of_name (by decide +kernel)) rfl (fun h => nomatch h) (Nat.le_of_ble_eq_true rfl) (fun d hd => bX5_isWord_0 i (by omega) ⟨fun g => h0 (nw g), fun g => k_len (by omega) (by omega) ?_⟩)
  have ek : kd = (z_key bt a b : Int) := by
    rcases tk with ⟨a1, a2⟩ | ⟨a1, a2⟩ | ⟨a1, a2⟩ | ⟨j, hj, a1, a2⟩ | ⟨a1, a2⟩ <;> omega
  have iff := z_key_iff (bt := bt) (a := a) (b := b) hi
  rw [h4, h5, q_sub_eq (by omega)]
  have hh : K (if z_wdm bt a b (q_sb i) then 1 else 0) M := by
    by_cases c : z_wdm bt a b (q_sb i) = true
    · rw [if_pos c]; exact h1 (by rw [ek, iff.mp c])
    · rw [if_neg c]; exact h0 (fun q => c (iff.mpr (by omega)))
  refine ⟨fun g2 => l_word hd hr hi h4 (by omega) hbn hh _ 0 (Nat.zero_add _) (fun x hx => by omega), fun g2 => ?_⟩
  unfold z_wdm at hh
  rw [decide_eq_false (by omega), Bool.false_and] at hh
  exact hh
theorem z_sg_ne : ∀ i : Nat, i < 12 → ∀ j : Nat, j < 12 → (q_sb 19).getD i 0 = (q_sb 19).getD j 0 → i = j := by decide +kernel
theorem k_isSign {d : Nat} {M : q_Mem} {K : Int → q_Mem → Prop} {bt : Nat → Int} {a b j : Nat} {c kd nm : Int} (hd : 0 < d) (hj : j < 12) (hc : c = (q_sb 19).getD j 0) (ht : z_ctk M bt a b kd nm) (h1 : kd = 30 + (j : Int) → K 1 M) (h0 : ¬ kd = 30 + (j : Int) → K 0 M) : q_kI yX5_isSign mX5_isSign d [qR 33, qI c] M K := by
  obtain ⟨h4, h5, hab, hb9, tk⟩ := ht
  have kl : z_key bt a b ≤ 19 := by
    have := (z_find_ok (p := fun k => z_wdm bt a b (q_sb (z_kx.getD k 0))) (k := 19) (i := 0)).2.1
    unfold z_key
    omega
  refine q_goI hd rfl (plainFor_of_name (by decide +kernel)) rfl (fun h => nomatch h) (Nat.le_of_ble_eq_true rfl) (fun d hd => bX5_isSign_0 _ ⟨fun g => h0 (fun q => ?_), fun g => ?_⟩)
  · rcases tk with ⟨a1, a2⟩ | ⟨a1, a2⟩ | ⟨a1, a2⟩ | ⟨i, hi, a1, a2, a3⟩ | ⟨a1, a2⟩
    · omega
    · omega
    · omega
    · exact g a2
    · omega
  · rcases tk with ⟨a1, a2⟩ | ⟨a1, a2⟩ | ⟨a1, a2, a3⟩ | ⟨i, hi, a1, a2, a3⟩ | ⟨a1, a2⟩
    · omega
    · omega
    · omega
    · rw [a3, hc]
      refine ⟨fun q => h0 (fun e => q ?_), fun q => h1 ?_⟩
      · rw [show i = j by omega]
      · rw [a1, z_sg_ne i hi j hj q]
    · omega
