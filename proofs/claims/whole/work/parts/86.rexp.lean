-- the reference reads a law: as the tokens say
abbrev z_XF : List Int := [8, 9, 11, 12, 13, 14]
def r_fr (b : Nat) (M M' : q_Mem) : Prop := z_fr [182] z_XF M M' ∧ ∀ j : Int, j ≠ 603 → j < 604 + (b : Int) → M' 182 j = M 182 j
theorem r_fr_rf {b : Nat} {M : q_Mem} : r_fr b M M := ⟨z_fr_rf, fun _ _ _ => rfl⟩
theorem r_fr_tr {b : Nat} {M M' M'' : q_Mem} (h : r_fr b M M') (h2 : r_fr b M' M'') : r_fr b M M'' := ⟨z_fr_tr h.1 h2.1, fun j a c => (h2.2 j a c).trans (h.2 j a c)⟩
theorem r_fr_x {b : Nat} {M M' : q_Mem} (h : z_fr [] z_KF M M') : r_fr b M M' := ⟨z_fr_mono h (by decide) (by decide), fun j _ _ => by rw [h.1 182 (by decide) (by decide)]⟩
def r_at (bt : Nat → Int) (n b : Nat) (s : p_S) (M : q_Mem) : Prop := z_rt M bt n ∧ z_rtk M (z_tA bt n (z_P bt n s.1)) (z_tB bt n (z_P bt n s.1)) (z_tK bt n (z_P bt n s.1)) (z_tN bt n (z_P bt n s.1)) ∧ M 178 13 = s.2.1 ∧ (s.2.1 ≠ 0 → M 178 14 = s.2.2.1) ∧ M 182 603 = ((b + s.2.2.2.length : Nat) : Int) ∧ ∀ k : Nat, k < s.2.2.2.length → M 182 ((604 + b + k : Nat) : Int) = s.2.2.2.getD k 0
section RX
variable {bt : Nat → Int} {n b : Nat}
theorem r_at_11 {s : p_S} {M : q_Mem} (h : r_at bt n b s M) : M 178 11 = (z_tks bt n s.1).1 := h.2.1.2.2.1
theorem r_at_8 {s : p_S} {M : q_Mem} (h : r_at bt n b s M) : M 178 8 = (z_tks bt n s.1).2.1 := h.2.1.1
end RX
theorem r_is {d : Nat} {M : q_Mem} {K : Int → q_Mem → Prop} {bt : Nat → Int} {n b : Nat} {s : p_S} {x : Int} (hd : 0 < d) (hs : r_at bt n b s M) (h1 : p_is (z_tks bt n) x s = true → K 1 M) (h0 : p_is (z_tks bt n) x s = false → K 0 M) : q_kI yX12_is mX12_is d [qR 178, qI x] M K := by
  refine q_goI hd rfl (plainFor_of_name (by decide +kernel)) rfl (fun h => nomatch h) (Nat.le_of_ble_eq_true rfl) (fun d hd => bX12_is_0 _ ?_)
  rw [hs.2.2.1, r_at_11 hs]
  unfold p_is at h1 h0
  refine ⟨fun g => h0 (by rw [decide_eq_false g, Bool.false_and]), fun g => ⟨fun g2 => h0 (by rw [decide_eq_false g2, Bool.and_false]), fun g2 => h1 (by rw [decide_eq_true g, decide_eq_true g2]; rfl)⟩⟩
theorem r_goes {d : Nat} {M : q_Mem} {K : q_Mem → Prop} {bt : Nat → Int} {n b : Nat} {s : p_S} (hd : 5 < d) (hs : r_at bt n b s M) (h : ∀ M', r_fr b M M' → r_at bt n b (p_go s) M' → K M') : q_kU yX12_goes mX12_goes d [qR 178] M K := by
  have b2 := z_tB_ok (bt := bt) (z_P_le (bt := bt) (n := n) s.1)
  refine k_goes hd hs.1 b2.2.1 hs.2.1.2.1 (fun M' f t => h M' (r_fr_x f) ⟨z_rt_f hs.1 f (by decide) (by decide), t, ?_, ?_, ?_, ?_⟩)
  · rw [f.2 13 (by decide)]; exact hs.2.2.1
  · rw [f.2 14 (by decide)]; exact hs.2.2.2.1
  · rw [f.1 182 (by decide) (by decide)]; exact hs.2.2.2.2.1
  · rw [f.1 182 (by decide) (by decide)]; exact hs.2.2.2.2.2
theorem r_eats {d : Nat} {M : q_Mem} {K : Int → q_Mem → Prop} {bt : Nat → Int} {n b : Nat} {s : p_S} {x : Int} (hd : 6 < d) (hs : r_at bt n b s M) (h1 : p_is (z_tks bt n) x s = true → ∀ M', r_fr b M M' → r_at bt n b (p_go s) M' → K 1 M') (h0 : p_is (z_tks bt n) x s = false → K 0 M) : q_kI yX12_eats mX12_eats d [qR 178, qI x] M K :=
  q_goI hd rfl (plainFor_of_name (by decide +kernel)) rfl (fun h => nomatch h) (Nat.le_of_ble_eq_true rfl) (fun d hd => bX12_eats_0 _ (r_is (by omega) hs (fun g => ⟨fun _ => r_goes (by omega) hs (h1 g), fun q => absurd q (by decide)⟩) (fun g => ⟨fun q => absurd rfl q, fun _ => h0 g⟩)))
theorem r_fails {d : Nat} {M : q_Mem} {K : q_Mem → Prop} {bt : Nat → Int} {n b : Nat} {s : p_S} {x : Int} (hd : 0 < d) (hs : r_at bt n b s M) (h : ∀ M', r_fr b M M' → r_at bt n b (p_fail (z_tks bt n) x s) M' → K M') : q_kU yX12_fails mX12_fails d [qR 178, qI x] M K := by
  refine q_goU hd rfl (plainFor_of_name (by decide +kernel)) rfl (fun h => nomatch h) (Nat.le_of_ble_eq_true rfl) (fun d hd => bX12_fails_0 _ ⟨fun g => ?_, fun g => ?_⟩)
  · have g2 : s.2.1 = 0 := by rw [← hs.2.2.1]; exact g
    have go : ∀ (v : Int) (M1 M2 : q_Mem), M1 = q_up M 178 13 v → M2 = q_up M1 178 14 (M1 178 8) → v = (if (z_tks bt n s.1).1 = 22 then 1 else x) → K M2 := by
      intro v M1 M2 e1 e2 ev
      have f : z_fr [] [13, 14] M M2 := z_fr_uf (z_fr_uf z_fr_rf e1 (by decide)) e2 (by decide)
      have f' : r_fr b M M2 := ⟨z_fr_mono f (by decide) (by decide), fun j _ _ => by rw [f.1 182 (by decide) (by decide)]⟩
      refine h M2 f' ?_
      unfold p_fail
      rw [if_pos g2]
      refine ⟨z_rt_f hs.1 f (by decide) (by decide), ?_, ?_, fun _ => ?_, ?_, ?_⟩
      · unfold z_rtk
        rw [f.2 8 (by decide), f.2 9 (by decide), f.2 11 (by decide), f.2 12 (by decide)]
        exact hs.2.1
      · rw [e2, q_up_n (by decide), e1, q_up_s]; exact ev
      · rw [e2, q_up_s, e1, q_up_n (by decide)]; exact r_at_8 hs
      · rw [f.1 182 (by decide) (by decide)]; exact hs.2.2.2.2.1
      · rw [f.1 182 (by decide) (by decide)]; exact hs.2.2.2.2.2
    rw [r_at_11 hs]
    exact ⟨fun g3 M1 e1 M2 e2 => go x M1 M2 e1 e2 (by rw [if_neg g3]), fun g3 M1 e1 M2 e2 => go 1 M1 M2 e1 e2 (by rw [if_pos g3])⟩
  · have g2 : ¬ s.2.1 = 0 := by rw [← hs.2.2.1]; exact g
    rw [p_fail_w g2] at h
    exact h M r_fr_rf hs
theorem r_codes {d : Nat} {M : q_Mem} {K : q_Mem → Prop} {bt : Nat → Int} {n b : Nat} {s : p_S} {x : Int} (hd : 0 < d) (hs : r_at bt n b s M) (hl : b + s.2.2.2.length < 900) (h : ∀ M', r_fr b M M' → r_at bt n b (p_code x s) M' → K M') : q_kU yX12_codes mX12_codes d [qR 178, qI x] M K := by
  refine q_goU hd rfl (plainFor_of_name (by decide +kernel)) rfl (fun h => nomatch h) (Nat.le_of_ble_eq_true rfl) (fun d hd => bX12_codes_0 _ ⟨fun g => ?_, fun g => ?_⟩)
  · have g2 : s.2.1 = 0 := by rw [← hs.2.2.1]; exact g
    unfold p_code at h
    rw [if_pos g2] at h
    rw [hs.2.2.2.2.1, q_add_eq (by omega)]
    refine ⟨by omega, fun M2 e2 M3 e3 => ?_⟩
    have e20 : M2 182 603 = ((b + s.2.2.2.length : Nat) : Int) := by rw [e2, q_up_n (by omega)]; exact hs.2.2.2.2.1
    rw [e20, q_add_eq (by omega)] at e3
    have f : z_fr [182] [] M M3 := z_fr_u (z_fr_u z_fr_rf e2 (by decide) (by decide)) e3 (by decide) (by decide)
    refine h M3 ⟨z_fr_mono f (by decide) (by decide), fun j h1 h2 => by rw [e3, q_up_n (by omega), e2, q_up_n (by omega)]⟩ ⟨z_rt_f hs.1 f (by decide) (by decide), ?_, ?_, fun q => absurd g2 q, ?_, fun k hk => ?_⟩
    · unfold z_rtk
      rw [f.2 8 (by decide), f.2 9 (by decide), f.2 11 (by decide), f.2 12 (by decide)]
      exact hs.2.1
    · rw [f.2 13 (by decide)]; exact hs.2.2.1
    · show M3 182 603 = ((b + (s.2.2.2 ++ [x]).length : Nat) : Int)
      rw [e3, q_up_s, List.length_append, List.length_singleton]
      omega
    · have hk : k < (s.2.2.2 ++ [x]).length := hk
      rw [List.length_append, List.length_singleton] at hk
      show M3 182 ((604 + b + k : Nat) : Int) = (s.2.2.2 ++ [x]).getD k 0
      by_cases c : k = s.2.2.2.length
      · subst c
        rw [e3, q_up_n (by omega), e2, show ((604 + b + s.2.2.2.length : Nat) : Int) = 604 + ((b + s.2.2.2.length : Nat) : Int) by omega, q_up_s]
        rw [List.getD_eq_getElem?_getD, List.getElem?_append_right (Nat.le_refl _), Nat.sub_self]
        rfl
      · rw [e3, q_up_n (by omega), e2, q_up_n (by omega), hs.2.2.2.2.2 k (by omega), List.getD_eq_getElem?_getD, List.getD_eq_getElem?_getD, List.getElem?_append_left (by omega)]
  · have g2 : ¬ s.2.1 = 0 := by rw [← hs.2.2.1]; exact g
    rw [p_code_w g2] at h
    exact h M r_fr_rf hs
theorem r_wants {d : Nat} {M : q_Mem} {K : q_Mem → Prop} {bt : Nat → Int} {n b : Nat} {s : p_S} {x : Int} (hd : 7 < d) (hs : r_at bt n b s M) (h : ∀ M', r_fr b M M' → r_at bt n b (p_want (z_tks bt n) x s) M' → K M') : q_kU yX12_wants mX12_wants d [qR 178, qI x] M K :=
  q_goU hd rfl (plainFor_of_name (by decide +kernel)) rfl (fun h => nomatch h) (Nat.le_of_ble_eq_true rfl) (fun d hd => bX12_wants_0 _ (r_eats (by omega) hs (fun g M' f r => ⟨fun _ => h M' f (by unfold p_want; rw [if_pos g]; exact r), fun q => absurd q (by decide)⟩) (fun g => ⟨fun q => absurd rfl q, fun _ => r_fails (by omega) hs (fun M' f r => h M' f (by unfold p_want; rw [if_neg (by rw [g]; decide)]; exact r))⟩)))
theorem r_goesIn {d : Nat} {M : q_Mem} {K : Int → q_Mem → Prop} {bt : Nat → Int} {n b c : Nat} {s : p_S} {e : Int} (hd : 6 < d) (hs : r_at bt n b s M) (he : e + (c : Int) = 6) (h1 : ∀ M', r_fr b M M' → r_at bt n b (p_in (z_tks bt n) c s) M' → (p_in (z_tks bt n) c s).2.1 = 0 → K 1 M') (h0 : ∀ M', r_fr b M M' → r_at bt n b (p_in (z_tks bt n) c s) M' → ¬ (p_in (z_tks bt n) c s).2.1 = 0 → K 0 M') : q_kI yX12_goesIn mX12_goesIn d [qR 178, qI e] M K := by
  have dn : ∀ M', r_fr b M M' → r_at bt n b (p_in (z_tks bt n) c s) M' → (((¬ (M' 178 13) = 0) → K 0 M') ∧ (((M' 178 13) = 0) → K 1 M')) := fun M' f r => ⟨fun g => h0 M' f r (by rw [← r.2.2.1]; exact g), fun g => h1 M' f r (by rw [← r.2.2.1]; exact g)⟩
  unfold p_in at dn
  refine q_goI hd rfl (plainFor_of_name (by decide +kernel)) rfl (fun h => nomatch h) (Nat.le_of_ble_eq_true rfl) (fun d hd => bX12_goesIn_0 _ ⟨fun g => bX12_goesIn_11 ?_, fun g => r_fails (by omega) hs (fun M1 f1 r1 => bX12_goesIn_11 ?_)⟩)
  · rw [if_neg (by omega)] at dn
    rw [hs.2.2.1]
    refine ⟨fun g2 => ?_, fun g2 => ?_⟩
    · rw [if_neg g2] at dn
      have := dn M r_fr_rf hs
      rw [hs.2.2.1] at this
      exact this
    · rw [if_pos g2] at dn
      exact r_goes (by omega) hs dn
  · rw [if_pos (show c = 0 by omega)] at dn
    have D := dn M1 f1 r1
    have nz : ∀ q : M1 178 13 = 0, False := by
      intro q
      rw [r1.2.2.1] at q
      unfold p_fail at q
      by_cases g2 : s.2.1 = 0
      · rw [if_pos g2] at q
        have q : (if (z_tks bt n s.1).1 = 22 then (1 : Int) else 4) = 0 := q
        split at q <;> omega
      · rw [if_neg g2] at q
        exact g2 q
    exact ⟨fun _ => D, fun q => (nz q).elim⟩
theorem r_wordOf {d : Nat} {M : q_Mem} {K : Int → q_Mem → Prop} {x : Int} (hd : 0 < d) (h : K (p_wd x) M) : q_kI yX12_wordOf mX12_wordOf d [qI x] M K := by
  refine q_goI hd rfl (plainFor_of_name (by decide +kernel)) rfl (fun h => nomatch h) (Nat.le_of_ble_eq_true rfl) (fun d hd => bX12_wordOf_0 _ ?_)
  unfold p_wd at h
  refine ⟨fun g => ?_, fun g => ?_, fun g => ?_, fun g => ?_, fun g => ?_, fun g => ?_, fun g => ?_, fun g => ?_, fun g => ?_, fun g => ?_, fun g => ?_, fun g => ?_, fun g => ?_, fun g => ?_, fun g => ?_, fun g => ?_⟩
  all_goals first
    | (subst g; exact h)
    | (rw [if_neg (by omega), if_neg (by omega), if_neg (by omega), if_neg (by omega), if_neg (by omega)] at h; exact h)
