-- the reference's laws: atoms up to truths
def p_bd (b n : Nat) (s : p_S) : Prop := b + s.2.2.2.length + 2 ≤ s.1 ∧ s.1 ≤ n
theorem p_bd_up {b n : Nat} {s s' : p_S} (h : p_bd b n s) (u : p_up n s s') : p_bd b n s' := by
  have := u.2.2.1 (b + 2) (by have := h.1; omega)
  exact ⟨by omega, u.2.1 h.2⟩
theorem p_bd_go {b n : Nat} {s : p_S} (h : p_bd b n s) (hlt : s.1 < n) : p_bd (b + 1) n (p_go s) := by
  have := h.1
  exact ⟨by show b + 1 + s.2.2.2.length + 2 ≤ s.1 + 1; omega, hlt⟩
theorem p_bd_1 {b n : Nat} {s : p_S} (h : p_bd (b + 1) n s) : p_bd b n s := by
  have := h.1
  exact ⟨by omega, h.2⟩
theorem p_bd_c {b n : Nat} {s : p_S} {x : Int} (h : p_bd (b + 1) n s) : p_bd b n (p_code x s) := by
  unfold p_code
  split
  · have := h.1
    exact ⟨by show b + (s.2.2.2 ++ [x]).length + 2 ≤ s.1; rw [List.length_append, List.length_singleton]; omega, h.2⟩
  · exact p_bd_1 h
def r_im (bt : Nat → Int) (n b D : Nat) (y : MethodName) (X : q_Mt) (e : Int) (F : p_S → p_S) : Prop := ∀ ⦃d : Nat⦄ ⦃M : q_Mem⦄ ⦃K : q_Mem → Prop⦄ ⦃s : p_S⦄, D < d → r_at bt n b s M → p_bd b n s → (∀ M', r_fr b M M' → r_at bt n b (F s) M' → K M') → q_kU y X d [qR 178, qI e] M K
theorem p_is_n {bt : Nat → Int} {n : Nat} {k : Int} (hk : k ≠ 21) {s : p_S} (h : p_is (z_tks bt n) k s = true) : s.2.1 = 0 ∧ (z_tks bt n s.1).1 = k ∧ s.1 < n := p_is_lt z_tks_lt hk h
theorem r_if {d : Nat} {M : q_Mem} {K : q_Mem → Prop} {bt : Nat → Int} {n b c D0 : Nat} {s : p_S} {e : Int} {SN TN : p_S → p_S} (hd : D0 + 1 < d) (h7 : 7 ≤ D0) (he : 0 ≤ e ∧ e + (c : Int) = 6) (hS : 0 < c → p_ok n SN ∧ r_im bt n b D0 yX12_readSum mX12_readSum (e + 1) SN) (hN : 0 < c → p_ok n TN ∧ r_im bt n b D0 yX12_readTruth mX12_readTruth (e + 1) TN) (hs : r_at bt n b s M) (hb : p_bd b n s) (hw : s.2.1 = 0) (hlt : s.1 < n) (h : ∀ M', r_fr b M M' → r_at bt n b (if (p_in (z_tks bt n) c s).2.1 = 0 then p_if (z_tks bt n) SN TN (p_in (z_tks bt n) c s) else p_in (z_tks bt n) c s) M' → K M') : q_kU yX12_readIf mX12_readIf d [qR 178, qI e] M K := by
  have n9 := hs.1.2.1
  refine q_goU hd rfl (plainFor_of_name (by decide +kernel)) rfl (fun h => nomatch h) (Nat.le_of_ble_eq_true rfl) (fun d hd => bX12_readIf_0 _ (r_goesIn (by omega) hs he.2 (fun M1 f1 r1 w1 => ⟨fun _ => ?_, fun q => absurd q (by decide)⟩) (fun M1 f1 r1 w1 => ⟨fun q => absurd rfl q, fun _ => h M1 f1 (by rw [if_neg w1]; exact r1)⟩)))
  rw [if_pos w1] at h
  obtain ⟨c0, e1⟩ := p_in_0 hw w1
  rw [e1] at r1 h
  have b1 := p_bd_go hb hlt
  have W := fun (k : Int) (hk : k ≠ 21) => p_want_ok (n := n) (z_tks_lt (bt := bt)) hk
  rw [q_add_eq (show -2147483648 ≤ e + 1 ∧ e + 1 < 2147483648 by omega)]
  have b2 := p_bd_up b1 ((hN c0).1.2 _)
  have b3 := p_bd_up b2 ((W 10 (by decide)).2 _)
  have b4 := p_bd_up b3 ((hS c0).1.2 _)
  have b5 := p_bd_up b4 ((W 11 (by decide)).2 _)
  have b6 := p_bd_up b5 ((hS c0).1.2 _)
  have b7 := p_bd_up b6 ((W 12 (by decide)).2 _)
  refine (hN c0).2 (by omega) r1 (p_bd_1 b1) (fun M2 f2 r2 => r_wants (by omega) r2 (fun M3 f3 r3 => ?_))
  refine (hS c0).2 (by omega) r3 (p_bd_1 b3) (fun M4 f4 r4 => r_wants (by omega) r4 (fun M5 f5 r5 => ?_))
  refine (hS c0).2 (by omega) r5 (p_bd_1 b5) (fun M6 f6 r6 => r_wants (by omega) r6 (fun M7 f7 r7 => ?_))
  refine r_codes (by omega) r7 (by have := b7.1; have := b7.2; omega) (fun M8 f8 r8 => h M8 ?_ r8)
  exact r_fr_tr f1 (r_fr_tr f2 (r_fr_tr f3 (r_fr_tr f4 (r_fr_tr f5 (r_fr_tr f6 (r_fr_tr f7 f8))))))
theorem r_at64 {bt : Nat → Int} {n b c D0 d : Nat} {M : q_Mem} {K : q_Mem → Prop} {s : p_S} {e : Int} {SN TN : p_S → p_S} (hd : D0 + 2 ≤ d) (h7 : 7 ≤ D0) (he : 0 ≤ e ∧ e + (c : Int) = 6) (hS : 0 < c → p_ok n SN ∧ r_im bt n b D0 yX12_readSum mX12_readSum (e + 1) SN) (hN : 0 < c → p_ok n TN ∧ r_im bt n b D0 yX12_readTruth mX12_readTruth (e + 1) TN) (hs : r_at bt n b s M) (hb : p_bd b n s) (h20 : s.2.1 = 0 → (z_tks bt n s.1).1 ≠ 20 ∧ p_wd (z_tks bt n s.1).1 = -1) (h : ∀ M', r_fr b M M' → r_at bt n b (p_atom (z_tks bt n) c SN TN s) M' → K M') : q_v mX12_readAtom d (qPU K) M 64 [some (qR 178), some (qI e)] [] := by
  have n9 := hs.1.2.1
  have nf : ∀ {k : Int}, p_is (z_tks bt n) k s = false → s.2.1 = 0 → ¬ (z_tks bt n s.1).1 = k := fun {k} g g2 g3 => by
    unfold p_is at g
    rw [decide_eq_true g2, decide_eq_true g3] at g
    exact absurd g (by decide)
  refine bX12_readAtom_64 _ (r_is (by omega) hs (fun g => ⟨fun q => absurd q (by decide), fun _ => ?_⟩) (fun g => ⟨fun _ => r_is (by omega) hs (fun g2 => ⟨fun q => absurd q (by decide), fun _ => ?_⟩) (fun g2 => ⟨fun _ => r_fails (by omega) hs (fun M1 f1 r1 => h M1 f1 ?_), fun q => absurd rfl q⟩), fun q => absurd rfl q⟩))
  · obtain ⟨w, k, lt⟩ := p_is_n (by decide) g
    unfold p_atom at h
    rw [if_pos w, if_neg (h20 w).1, if_neg (fun q => q (h20 w).2), if_pos k] at h
    refine r_goesIn (by omega) hs he.2 (fun M1 f1 r1 w1 => ⟨fun _ => ?_, fun q => absurd q (by decide)⟩) (fun M1 f1 r1 w1 => ⟨fun q => absurd rfl q, fun _ => h M1 f1 (by rw [if_neg w1]; exact r1)⟩)
    rw [if_pos w1] at h
    obtain ⟨c0, e1⟩ := p_in_0 w w1
    rw [e1] at r1 h
    rw [q_add_eq (show -2147483648 ≤ e + 1 ∧ e + 1 < 2147483648 by omega)]
    exact (hS c0).2 (by omega) r1 (p_bd_1 (p_bd_go hb lt)) (fun M2 f2 r2 => r_wants (by omega) r2 (fun M3 f3 r3 => h M3 (r_fr_tr f1 (r_fr_tr f2 f3)) r3))
  · obtain ⟨w, k, lt⟩ := p_is_n (by decide) g2
    unfold p_atom at h
    rw [if_pos w, if_neg (h20 w).1, if_neg (fun q => q (h20 w).2), if_neg (nf g w), if_pos k] at h
    exact r_if (by omega) h7 he hS hN hs hb w lt h
  · unfold p_atom
    by_cases w : s.2.1 = 0
    · rw [if_pos w, if_neg (h20 w).1, if_neg (fun q => q (h20 w).2), if_neg (nf g w), if_neg (nf g2 w)]
      exact r1
    · rw [if_neg w]
      rw [p_fail_w w] at r1
      exact r1
theorem r_atom {bt : Nat → Int} {n b c D0 : Nat} {e : Int} {SN TN : p_S → p_S} (h7 : 7 ≤ D0) (he : 0 ≤ e ∧ e + (c : Int) = 6) (hS : 0 < c → p_ok n SN ∧ r_im bt n b D0 yX12_readSum mX12_readSum (e + 1) SN) (hN : 0 < c → p_ok n TN ∧ r_im bt n b D0 yX12_readTruth mX12_readTruth (e + 1) TN) : r_im bt n b (D0 + 2) yX12_readAtom mX12_readAtom e (p_atom (z_tks bt n) c SN TN) := by
  intro d M K s hd hs hb h
  have n9 := hs.1.2.1
  have b9 : b + s.2.2.2.length < 900 := by have := hb.1; have := hb.2; omega
  refine q_goU hd rfl (plainFor_of_name (by decide +kernel)) rfl (fun h => nomatch h) (Nat.le_of_ble_eq_true rfl) (fun d hd => bX12_readAtom_0 _ (r_is (by omega) hs (fun g => ⟨fun q => absurd q (by decide), fun _ => ?_⟩) (fun g => ⟨fun _ => ⟨fun g2 => ?_, fun g2 => ?_⟩, fun q => absurd rfl q⟩)))
  · obtain ⟨w, k, lt⟩ := p_is_n (by decide) g
    unfold p_atom at h
    rw [if_pos w, if_pos k] at h
    rw [(hs.2.1.2.2.2.1 k).1]
    exact r_codes (by omega) hs b9 (fun M1 f1 r1 => r_goes (by omega) r1 (fun M2 f2 r2 => h M2 (r_fr_tr f1 f2) r2))
  · exact r_at64 (by omega) h7 he hS hN hs hb (fun w => absurd w (by rw [← hs.2.2.1]; exact g2)) h
  · have w : s.2.1 = 0 := by rw [← hs.2.2.1]; exact g2
    have n20 : (z_tks bt n s.1).1 ≠ 20 := fun q => by
      unfold p_is at g
      rw [decide_eq_true w, decide_eq_true q] at g
      exact absurd g (by decide)
    rw [r_at_11 hs]
    refine r_wordOf (by omega) ⟨fun g3 => r_at64 (by omega) h7 he hS hN hs hb (fun _ => ⟨n20, g3⟩) h, fun g3 => ?_⟩
    rw [r_at_11 hs]
    refine r_wordOf (by omega) ?_
    have p9 : p_wd (z_tks bt n s.1).1 ≤ 4 ∧ -1 ≤ p_wd (z_tks bt n s.1).1 := by
      unfold p_wd
      split
      · omega
      · split
        · omega
        · split
          · omega
          · split
            · omega
            · split <;> omega
    unfold p_atom at h
    rw [if_pos w, if_neg n20, if_pos g3] at h
    rw [q_add_eq (by omega)]
    exact r_codes (by omega) hs b9 (fun M1 f1 r1 => r_goes (by omega) r1 (fun M2 f2 r2 => h M2 (r_fr_tr f1 f2) r2))
theorem l_rterm {bt : Nat → Int} {n b d D1 : Nat} {M0 : q_Mem} {K : q_Mem → Prop} {e : Int} {X : p_S → p_S} (hd : D1 + 1 ≤ d) (h6 : 6 ≤ D1) (hX : p_ok n X) (hA : r_im bt n b D1 yX12_readAtom mX12_readAtom e X) :
    ∀ (f : Nat) (s : p_S) (M : q_Mem), p_bd b n s → n < f + s.1 → r_fr b M0 M → r_at bt n b s M → (∀ M', r_fr b M0 M' → r_at bt n b (p_loop (z_tks bt n) 34 3002 X f s) M' → K M') → q_v mX12_readTerm d (qPU K) M 5 [some (qR 178), some (qI e)] []
  | 0, s, M, hb, hn, _, _, _ => by have := hb.2; omega
  | f + 1, s, M, hb, hn, f0, hs, h => by
    have n9 := hs.1.2.1
    unfold p_loop at h
    refine bX12_readTerm_5 _ (r_eats (by omega) hs (fun g M1 f1 r1 => ⟨fun q => absurd q (by decide), fun _ => ?_⟩) (fun g => ⟨fun _ => h M f0 (by rw [if_neg (by rw [g]; decide)]; exact hs), fun q => absurd rfl q⟩))
    rw [if_pos g] at h
    have lt := (p_is_n (by decide) g).2.2
    have b1 := p_bd_go hb lt
    have u := hX.2 (p_go s)
    have b2 := p_bd_up b1 u
    have u1 : s.1 + 1 ≤ (X (p_go s)).1 := u.1
    have e1 : (p_code 3002 (X (p_go s))).1 = (X (p_go s)).1 := by unfold p_code; split <;> rfl
    refine hA (by omega) r1 (p_bd_1 b1) (fun M2 f2 r2 => r_codes (by omega) r2 (by have := b2.1; have := b2.2; omega) (fun M3 f3 r3 => ?_))
    exact l_rterm hd h6 hX hA f _ M3 (p_bd_c b2) (by rw [e1]; omega) (r_fr_tr f0 (r_fr_tr f1 (r_fr_tr f2 f3))) r3 h
theorem r_term {bt : Nat → Int} {n b c D0 F : Nat} {e : Int} {SN TN : p_S → p_S} (hF : n < F) (h7 : 7 ≤ D0) (he : 0 ≤ e ∧ e + (c : Int) = 6) (hS : 0 < c → p_ok n SN ∧ r_im bt n b D0 yX12_readSum mX12_readSum (e + 1) SN) (hN : 0 < c → p_ok n TN ∧ r_im bt n b D0 yX12_readTruth mX12_readTruth (e + 1) TN) : r_im bt n b (D0 + 3) yX12_readTerm mX12_readTerm e (p_term (z_tks bt n) F c SN TN) := by
  intro d M K s hd hs hb h
  have A := r_atom h7 he hS hN
  have ok : p_ok n (p_atom (z_tks bt n) c SN TN) := p_atom_ok z_tks_lt (fun q => (hS q).1) (fun q => (hN q).1)
  exact q_goU hd rfl (plainFor_of_name (by decide +kernel)) rfl (fun h => nomatch h) (Nat.le_of_ble_eq_true rfl) (fun d hd => bX12_readTerm_0 _ (A (by omega) hs hb (fun M1 f1 r1 => l_rterm (D1 := D0 + 2) (by omega) (by omega) ok A F _ M1 (p_bd_up hb (ok.2 _)) (by omega) f1 r1 h)))
theorem l_rsum {bt : Nat → Int} {n b d D1 : Nat} {M0 : q_Mem} {K : q_Mem → Prop} {e : Int} {X : p_S → p_S} (hd : D1 + 1 ≤ d) (h6 : 6 ≤ D1) (hX : p_ok n X) (hA : r_im bt n b D1 yX12_readTerm mX12_readTerm e X) :
    ∀ (f : Nat) (s : p_S) (M : q_Mem), p_bd b n s → n < f + s.1 → r_fr b M0 M → r_at bt n b s M → (∀ M', r_fr b M0 M' → r_at bt n b (p_sums (z_tks bt n) X f s) M' → K M') → q_v mX12_readSum d (qPU K) M 5 [some (qR 178), some (qI e), none] []
  | 0, s, M, hb, hn, _, _, _ => by have := hb.2; omega
  | f + 1, s, M, hb, hn, f0, hs, h => by
    have n9 := hs.1.2.1
    unfold p_sums at h
    have go : ∀ (k code : Int), k ≠ 21 → p_is (z_tks bt n) k s = true → (∀ M', r_fr b M0 M' → r_at bt n b (p_sums (z_tks bt n) X f (p_code code (X (p_go s)))) M' → K M') → q_v mX12_readSum d (qPU K) M 41 [some (qR 178), some (qI e), none] [qI code] := by
      intro k code hk g h
      have lt := (p_is_n hk g).2.2
      have b1 := p_bd_go hb lt
      have u := hX.2 (p_go s)
      have b2 := p_bd_up b1 u
      have u1 : s.1 + 1 ≤ (X (p_go s)).1 := u.1
      have e1 : (p_code code (X (p_go s))).1 = (X (p_go s)).1 := by unfold p_code; split <;> rfl
      refine bX12_readSum_41 _ _ (r_goes (by omega) hs (fun M1 f1 r1 => hA (by omega) r1 (p_bd_1 b1) (fun M2 f2 r2 => r_codes (by omega) r2 (by have := b2.1; have := b2.2; omega) (fun M3 f3 r3 => ?_))))
      exact l_rsum hd h6 hX hA f _ M3 (p_bd_c b2) (by rw [e1]; omega) (r_fr_tr f0 (r_fr_tr f1 (r_fr_tr f2 f3))) r3 h
    refine bX12_readSum_5 _ (r_is (by omega) hs (fun g => ⟨fun _ => ?_, fun q => absurd q (by decide)⟩) (fun g => ⟨fun q => absurd rfl q, fun _ => r_is (by omega) hs (fun g2 => ⟨fun q => absurd q (by decide), fun _ => ?_⟩) (fun g2 => ⟨fun _ => h M f0 (by rw [if_neg (by rw [g]; decide), if_neg (by rw [g2]; decide)]; exact hs), fun q => absurd rfl q⟩)⟩))
    · refine bX12_readSum_23 _ ?_
      rw [if_pos g] at h
      rw [r_at_11 hs]
      exact ⟨fun q => absurd (p_is_n (by decide) g).2.1 q, fun _ => go 32 3000 (by decide) g h⟩
    · refine bX12_readSum_23 _ ?_
      rw [if_neg (by rw [g]; decide), if_pos g2] at h
      rw [r_at_11 hs]
      exact ⟨fun _ => go 33 3001 (by decide) g2 h, fun q => absurd q (by rw [(p_is_n (by decide) g2).2.1]; decide)⟩
theorem r_sum {bt : Nat → Int} {n b c D0 F : Nat} {e : Int} {SN TN : p_S → p_S} (hF : n < F) (h7 : 7 ≤ D0) (he : 0 ≤ e ∧ e + (c : Int) = 6) (hS : 0 < c → p_ok n SN ∧ r_im bt n b D0 yX12_readSum mX12_readSum (e + 1) SN) (hN : 0 < c → p_ok n TN ∧ r_im bt n b D0 yX12_readTruth mX12_readTruth (e + 1) TN) : r_im bt n b (D0 + 4) yX12_readSum mX12_readSum e (p_sum (z_tks bt n) F c SN TN) := by
  intro d M K s hd hs hb h
  have A := r_term hF h7 he hS hN
  have ok : p_ok n (p_term (z_tks bt n) F c SN TN) := p_term_ok z_tks_lt (fun q => (hS q).1) (fun q => (hN q).1)
  exact q_goU hd rfl (plainFor_of_name (by decide +kernel)) rfl (fun h => nomatch h) (Nat.le_of_ble_eq_true rfl) (fun d hd => bX12_readSum_0 _ (A (by omega) hs hb (fun M1 f1 r1 => l_rsum (D1 := D0 + 3) (by omega) (by omega) ok A F _ M1 (p_bd_up hb (ok.2 _)) (by omega) f1 r1 h)))
theorem r_un143 {bt : Nat → Int} {n b d D1 : Nat} {M : q_Mem} {K : q_Mem → Prop} {s : p_S} {e x : Int} {X : p_S → p_S} (hd : D1 + 1 ≤ d) (hX : p_ok n X) (hA : r_im bt n b D1 yX12_readSum mX12_readSum e X) (hs : r_at bt n b s M) (hb : p_bd (b + 1) n s ∨ (p_bd b n s ∧ ¬ s.2.1 = 0)) (h : ∀ M', r_fr b M M' → r_at bt n b (p_code x (X s)) M' → K M') : q_v mX12_readUnit d (qPU K) M 143 [some (qR 178), some (qI e), some (qI x)] [] := by
  have n9 := hs.1.2.1
  have hb0 : p_bd b n s := by
    rcases hb with q | q
    · exact p_bd_1 q
    · exact q.1
  have b2 := p_bd_up hb0 (hX.2 s)
  exact bX12_readUnit_143 _ _ (hA (by omega) hs hb0 (fun M2 f2 r2 => r_codes (by omega) r2 (by have := b2.1; have := b2.2; omega) (fun M3 f3 r3 => h M3 (r_fr_tr f2 f3) r3)))
theorem r_un103 {bt : Nat → Int} {n b d D1 : Nat} {M : q_Mem} {K : q_Mem → Prop} {s : p_S} {e : Int} {X : p_S → p_S} (hd : D1 + 1 ≤ d) (h6 : 6 ≤ D1) (hX : p_ok n X) (hA : r_im bt n b D1 yX12_readSum mX12_readSum e X) (hs : r_at bt n b s M) (hb : p_bd b n s) (h : ∀ M', r_fr b M M' → r_at bt n b (p_cmp (z_tks bt n) X s) M' → K M') : q_kI yX12_is mX12_is d [qR 178, qI 39] M (fun v7 M6 => ((v7 = 0) → q_kI yX12_is mX12_is d [qR 178, qI 40] M6 (fun v9 M8 => ((v9 = 0) → q_v mX12_readUnit d (qPU K) M8 103 [some (qR 178), some (qI e), none] [qI 3005]) ∧ ((¬ (v9 = 0)) → q_v mX12_readUnit d (qPU K) M8 103 [some (qR 178), some (qI e), none] [qI 3004]))) ∧ ((¬ (v7 = 0)) → q_v mX12_readUnit d (qPU K) M6 103 [some (qR 178), some (qI e), none] [qI 3003])) := by
  unfold p_cmp at h
  have go : ∀ (k code : Int), k ≠ 21 → p_is (z_tks bt n) k s = true → (∀ M', r_fr b M M' → r_at bt n b (p_code code (X (p_go s))) M' → K M') → q_v mX12_readUnit d (qPU K) M 131 [some (qR 178), some (qI e), some (qI code)] [] := fun k code hk g h => bX12_readUnit_131 _ _ (r_goes (by omega) hs (fun M1 f1 r1 => r_un143 hd hX hA r1 (Or.inl (p_bd_go hb (p_is_n hk g).2.2)) (fun M' f r => h M' (r_fr_tr f1 f) r)))
  have ex : ∀ {k k2 : Int}, k ≠ k2 → p_is (z_tks bt n) k s = true → p_is (z_tks bt n) k2 s = false := fun {k k2} ne g => by
    unfold p_is at g ⊢
    rw [Bool.and_eq_true, decide_eq_true_eq, decide_eq_true_eq] at g
    rw [g.2, decide_eq_false ne, Bool.and_false]
  refine r_is (by omega) hs (fun g => ⟨fun q => absurd q (by decide), fun _ => ?_⟩) (fun g => ⟨fun _ => r_is (by omega) hs (fun g2 => ⟨fun q => absurd q (by decide), fun _ => ?_⟩) (fun g2 => ⟨fun _ => ?_, fun q => absurd rfl q⟩), fun q => absurd rfl q⟩)
  · rw [if_pos g] at h
    exact bX12_readUnit_103 _ _ (r_is (by omega) hs (fun _ => ⟨fun _ => go 39 3003 (by decide) g h, fun q => absurd q (by decide)⟩) (fun q => by rw [g] at q; exact absurd q (by decide)))
  · rw [if_neg (by rw [g]; decide), if_pos g2] at h
    exact bX12_readUnit_103 _ _ (r_is (by omega) hs (fun q => by rw [g] at q; exact absurd q (by decide)) (fun _ => ⟨fun q => absurd rfl q, fun _ => r_is (by omega) hs (fun _ => ⟨fun _ => go 40 3004 (by decide) g2 h, fun q => absurd q (by decide)⟩) (fun q => by rw [g2] at q; exact absurd q (by decide))⟩))
  · rw [if_neg (by rw [g]; decide), if_neg (by rw [g2]; decide)] at h
    refine bX12_readUnit_103 _ _ (r_is (by omega) hs (fun q => by rw [g] at q; exact absurd q (by decide)) (fun _ => ⟨fun q => absurd rfl q, fun _ => r_is (by omega) hs (fun q => by rw [g2] at q; exact absurd q (by decide)) (fun _ => ⟨fun q => absurd rfl q, fun _ => r_is (by omega) hs (fun g3 => ⟨fun q => absurd q (by decide), fun _ => ?_⟩) (fun g3 => ⟨fun _ => ?_, fun q => absurd rfl q⟩)⟩)⟩))
    · rw [if_pos g3] at h
      exact go 41 3005 (by decide) g3 h
    · rw [if_neg (by rw [g3]; decide)] at h
      refine r_fails (by omega) hs (fun M1 f1 r1 => ?_)
      have w1 : ¬ (p_fail (z_tks bt n) 2 s).2.1 = 0 := by
        unfold p_fail
        by_cases w : s.2.1 = 0
        · rw [if_pos w]
          show ¬ (if (z_tks bt n s.1).1 = 22 then (1 : Int) else 2) = 0
          split <;> omega
        · rw [if_neg w]; exact w
      refine r_un143 hd hX hA r1 (Or.inr ⟨p_bd_up hb p_up_fail, w1⟩) (fun M' f r => h M' (r_fr_tr f1 f) ?_)
      rw [hX.1 _ w1, p_code_w w1] at r
      exact r
theorem r_unit {bt : Nat → Int} {n b c D0 F : Nat} {e : Int} {SN TN UN : p_S → p_S} (hF : n < F) (h7 : 7 ≤ D0) (he : 0 ≤ e ∧ e + (c : Int) = 6) (hS : 0 < c → p_ok n SN ∧ r_im bt n b D0 yX12_readSum mX12_readSum (e + 1) SN) (hN : 0 < c → p_ok n TN ∧ r_im bt n b D0 yX12_readTruth mX12_readTruth (e + 1) TN) (hU : 0 < c → p_ok n UN ∧ r_im bt n b D0 yX12_readUnit mX12_readUnit (e + 1) UN) : r_im bt n b (D0 + 5) yX12_readUnit mX12_readUnit e (p_unit (z_tks bt n) F c SN TN UN) := by
  intro d M K s hd hs hb h
  have n9 := hs.1.2.1
  have A := r_sum hF h7 he hS hN
  have ok : p_ok n (p_sum (z_tks bt n) F c SN TN) := p_sum_ok z_tks_lt (fun q => (hS q).1) (fun q => (hN q).1)
  have nf : ∀ {k : Int}, p_is (z_tks bt n) k s = false → s.2.1 = 0 → ¬ (z_tks bt n s.1).1 = k := fun {k} g g2 g3 => by
    unfold p_is at g
    rw [decide_eq_true g2, decide_eq_true g3] at g
    exact absurd g (by decide)
  refine q_goU hd rfl (plainFor_of_name (by decide +kernel)) rfl (fun h => nomatch h) (Nat.le_of_ble_eq_true rfl) (fun d hd => bX12_readUnit_0 _ (r_is (by omega) hs (fun g => ⟨fun q => absurd q (by decide), fun _ => ?_⟩) (fun g => ⟨fun _ => r_is (by omega) hs (fun g2 => ⟨fun q => absurd q (by decide), fun _ => ?_⟩) (fun g2 => ⟨fun _ => ?_, fun q => absurd rfl q⟩), fun q => absurd rfl q⟩)))
  · obtain ⟨w, k, lt⟩ := p_is_n (by decide) g
    unfold p_unit at h
    rw [if_pos w, if_pos k] at h
    refine r_goesIn (by omega) hs he.2 (fun M1 f1 r1 w1 => ⟨fun _ => ?_, fun q => absurd q (by decide)⟩) (fun M1 f1 r1 w1 => ⟨fun q => absurd rfl q, fun _ => h M1 f1 (by rw [if_neg w1]; exact r1)⟩)
    rw [if_pos w1] at h
    obtain ⟨c0, e1⟩ := p_in_0 w w1
    rw [e1] at r1 h
    have b1 := p_bd_go hb lt
    have b2 := p_bd_up b1 ((hU c0).1.2 _)
    rw [q_add_eq (show -2147483648 ≤ e + 1 ∧ e + 1 < 2147483648 by omega)]
    exact (hU c0).2 (by omega) r1 (p_bd_1 b1) (fun M2 f2 r2 => r_codes (by omega) r2 (by have := b2.1; have := b2.2; omega) (fun M3 f3 r3 => h M3 (r_fr_tr f1 (r_fr_tr f2 f3)) r3))
  · obtain ⟨w, k, lt⟩ := p_is_n (by decide) g2
    unfold p_unit at h
    rw [if_pos w, if_neg (nf g w), if_pos k] at h
    refine r_goesIn (by omega) hs he.2 (fun M1 f1 r1 w1 => ⟨fun _ => ?_, fun q => absurd q (by decide)⟩) (fun M1 f1 r1 w1 => ⟨fun q => absurd rfl q, fun _ => h M1 f1 (by rw [if_neg w1]; exact r1)⟩)
    rw [if_pos w1] at h
    obtain ⟨c0, e1⟩ := p_in_0 w w1
    rw [e1] at r1 h
    rw [q_add_eq (show -2147483648 ≤ e + 1 ∧ e + 1 < 2147483648 by omega)]
    exact (hN c0).2 (by omega) r1 (p_bd_1 (p_bd_go hb lt)) (fun M2 f2 r2 => r_wants (by omega) r2 (fun M3 f3 r3 => h M3 (r_fr_tr f1 (r_fr_tr f2 f3)) r3))
  · refine A (by omega) hs hb (fun M1 f1 r1 => r_un103 (D1 := D0 + 4) (by omega) (by omega) ok A r1 (p_bd_up hb (ok.2 _)) (fun M' f r => h M' (r_fr_tr f1 f) ?_))
    unfold p_unit
    by_cases w : s.2.1 = 0
    · rw [if_pos w, if_neg (nf g w), if_neg (nf g2 w)]; exact r
    · rw [if_neg w]
      rw [ok.1 s w, (p_cmp_ok z_tks_lt ok).1 s w] at r
      exact r
theorem l_rboth {bt : Nat → Int} {n b d D1 : Nat} {M0 : q_Mem} {K : q_Mem → Prop} {e : Int} {X : p_S → p_S} (hd : D1 + 1 ≤ d) (h6 : 6 ≤ D1) (hX : p_ok n X) (hA : r_im bt n b D1 yX12_readUnit mX12_readUnit e X) :
    ∀ (f : Nat) (s : p_S) (M : q_Mem), p_bd b n s → n < f + s.1 → r_fr b M0 M → r_at bt n b s M → (∀ M', r_fr b M0 M' → r_at bt n b (p_loop (z_tks bt n) 16 3007 X f s) M' → K M') → q_v mX12_readBoth d (qPU K) M 5 [some (qR 178), some (qI e)] []
  | 0, s, M, hb, hn, _, _, _ => by have := hb.2; omega
  | f + 1, s, M, hb, hn, f0, hs, h => by
    have n9 := hs.1.2.1
    unfold p_loop at h
    refine bX12_readBoth_5 _ (r_eats (by omega) hs (fun g M1 f1 r1 => ⟨fun q => absurd q (by decide), fun _ => ?_⟩) (fun g => ⟨fun _ => h M f0 (by rw [if_neg (by rw [g]; decide)]; exact hs), fun q => absurd rfl q⟩))
    rw [if_pos g] at h
    have lt := (p_is_n (by decide) g).2.2
    have b1 := p_bd_go hb lt
    have u := hX.2 (p_go s)
    have b2 := p_bd_up b1 u
    have u1 : s.1 + 1 ≤ (X (p_go s)).1 := u.1
    have e1 : (p_code 3007 (X (p_go s))).1 = (X (p_go s)).1 := by unfold p_code; split <;> rfl
    refine hA (by omega) r1 (p_bd_1 b1) (fun M2 f2 r2 => r_codes (by omega) r2 (by have := b2.1; have := b2.2; omega) (fun M3 f3 r3 => ?_))
    exact l_rboth hd h6 hX hA f _ M3 (p_bd_c b2) (by rw [e1]; omega) (r_fr_tr f0 (r_fr_tr f1 (r_fr_tr f2 f3))) r3 h
theorem r_both {bt : Nat → Int} {n b c D0 F : Nat} {e : Int} {SN TN UN : p_S → p_S} (hF : n < F) (h7 : 7 ≤ D0) (he : 0 ≤ e ∧ e + (c : Int) = 6) (hS : 0 < c → p_ok n SN ∧ r_im bt n b D0 yX12_readSum mX12_readSum (e + 1) SN) (hN : 0 < c → p_ok n TN ∧ r_im bt n b D0 yX12_readTruth mX12_readTruth (e + 1) TN) (hU : 0 < c → p_ok n UN ∧ r_im bt n b D0 yX12_readUnit mX12_readUnit (e + 1) UN) : r_im bt n b (D0 + 6) yX12_readBoth mX12_readBoth e (p_both (z_tks bt n) F c SN TN UN) := by
  intro d M K s hd hs hb h
  have A := r_unit hF h7 he hS hN hU
  have ok : p_ok n (p_unit (z_tks bt n) F c SN TN UN) := p_unit_ok z_tks_lt (fun q => (hS q).1) (fun q => (hN q).1) (fun q => (hU q).1)
  exact q_goU hd rfl (plainFor_of_name (by decide +kernel)) rfl (fun h => nomatch h) (Nat.le_of_ble_eq_true rfl) (fun d hd => bX12_readBoth_0 _ (A (by omega) hs hb (fun M1 f1 r1 => l_rboth (D1 := D0 + 5) (by omega) (by omega) ok A F _ M1 (p_bd_up hb (ok.2 _)) (by omega) f1 r1 h)))
theorem l_rtruth {bt : Nat → Int} {n b d D1 : Nat} {M0 : q_Mem} {K : q_Mem → Prop} {e : Int} {X : p_S → p_S} (hd : D1 + 1 ≤ d) (h6 : 6 ≤ D1) (hX : p_ok n X) (hA : r_im bt n b D1 yX12_readBoth mX12_readBoth e X) :
    ∀ (f : Nat) (s : p_S) (M : q_Mem), p_bd b n s → n < f + s.1 → r_fr b M0 M → r_at bt n b s M → (∀ M', r_fr b M0 M' → r_at bt n b (p_loop (z_tks bt n) 17 3008 X f s) M' → K M') → q_v mX12_readTruth d (qPU K) M 5 [some (qR 178), some (qI e)] []
  | 0, s, M, hb, hn, _, _, _ => by have := hb.2; omega
  | f + 1, s, M, hb, hn, f0, hs, h => by
    have n9 := hs.1.2.1
    unfold p_loop at h
    refine bX12_readTruth_5 _ (r_eats (by omega) hs (fun g M1 f1 r1 => ⟨fun q => absurd q (by decide), fun _ => ?_⟩) (fun g => ⟨fun _ => h M f0 (by rw [if_neg (by rw [g]; decide)]; exact hs), fun q => absurd rfl q⟩))
    rw [if_pos g] at h
    have lt := (p_is_n (by decide) g).2.2
    have b1 := p_bd_go hb lt
    have u := hX.2 (p_go s)
    have b2 := p_bd_up b1 u
    have u1 : s.1 + 1 ≤ (X (p_go s)).1 := u.1
    have e1 : (p_code 3008 (X (p_go s))).1 = (X (p_go s)).1 := by unfold p_code; split <;> rfl
    refine hA (by omega) r1 (p_bd_1 b1) (fun M2 f2 r2 => r_codes (by omega) r2 (by have := b2.1; have := b2.2; omega) (fun M3 f3 r3 => ?_))
    exact l_rtruth hd h6 hX hA f _ M3 (p_bd_c b2) (by rw [e1]; omega) (r_fr_tr f0 (r_fr_tr f1 (r_fr_tr f2 f3))) r3 h
theorem r_truth {bt : Nat → Int} {n b c D0 F : Nat} {e : Int} {SN TN UN : p_S → p_S} (hF : n < F) (h7 : 7 ≤ D0) (he : 0 ≤ e ∧ e + (c : Int) = 6) (hS : 0 < c → p_ok n SN ∧ r_im bt n b D0 yX12_readSum mX12_readSum (e + 1) SN) (hN : 0 < c → p_ok n TN ∧ r_im bt n b D0 yX12_readTruth mX12_readTruth (e + 1) TN) (hU : 0 < c → p_ok n UN ∧ r_im bt n b D0 yX12_readUnit mX12_readUnit (e + 1) UN) : r_im bt n b (D0 + 7) yX12_readTruth mX12_readTruth e (p_truth (z_tks bt n) F c SN TN UN) := by
  intro d M K s hd hs hb h
  have A := r_both hF h7 he hS hN hU
  have ok : p_ok n (p_both (z_tks bt n) F c SN TN UN) := p_both_ok z_tks_lt (fun q => (hS q).1) (fun q => (hN q).1) (fun q => (hU q).1)
  exact q_goU hd rfl (plainFor_of_name (by decide +kernel)) rfl (fun h => nomatch h) (Nat.le_of_ble_eq_true rfl) (fun d hd => bX12_readTruth_0 _ (A (by omega) hs hb (fun M1 f1 r1 => l_rtruth (D1 := D0 + 6) (by omega) (by omega) ok A F _ M1 (p_bd_up hb (ok.2 _)) (by omega) f1 r1 h)))
theorem r_im_up {bt : Nat → Int} {n b D D' : Nat} {y : MethodName} {X : q_Mt} {e : Int} {F : p_S → p_S} (h : r_im bt n b D y X e F) (hD : D ≤ D') : r_im bt n b D' y X e F := fun _ _ _ _ hd hs hb k => h (by omega) hs hb k
theorem r_lv {bt : Nat → Int} {n b F : Nat} (hF : n < F) : ∀ (c : Nat) (e : Int), 0 ≤ e ∧ e + (c : Int) = 6 → r_im bt n b (7 * c + 11) yX12_readSum mX12_readSum e (p_lv (z_tks bt n) F c).1 ∧ r_im bt n b (7 * c + 14) yX12_readTruth mX12_readTruth e (p_lv (z_tks bt n) F c).2.1 ∧ r_im bt n b (7 * c + 12) yX12_readUnit mX12_readUnit e (p_lv (z_tks bt n) F c).2.2
  | 0, e, he => by
    have no : ∀ {P : Prop}, 0 < 0 → P := fun h => absurd h (by decide)
    exact ⟨r_sum (D0 := 7) (c := 0) hF (by decide) he (fun h => no h) (fun h => no h), r_truth (D0 := 7) (c := 0) hF (by decide) he (fun h => no h) (fun h => no h) (fun h => no h), r_unit (D0 := 7) (c := 0) hF (by decide) he (fun h => no h) (fun h => no h) (fun h => no h)⟩
  | c + 1, e, he => by
    have ih := r_lv (bt := bt) hF (b := b) c (e + 1) (by omega)
    have ok := p_lv_ok (n := n) (F := F) (z_tks_lt (bt := bt)) c
    have hS := fun (_ : 0 < c + 1) => (⟨ok.1, r_im_up ih.1 (by omega)⟩ : p_ok n (p_lv (z_tks bt n) F c).1 ∧ r_im bt n b (7 * c + 14) yX12_readSum mX12_readSum (e + 1) (p_lv (z_tks bt n) F c).1)
    have hN := fun (_ : 0 < c + 1) => (⟨ok.2.1, ih.2.1⟩ : p_ok n (p_lv (z_tks bt n) F c).2.1 ∧ r_im bt n b (7 * c + 14) yX12_readTruth mX12_readTruth (e + 1) (p_lv (z_tks bt n) F c).2.1)
    have hU := fun (_ : 0 < c + 1) => (⟨ok.2.2, r_im_up ih.2.2 (by omega)⟩ : p_ok n (p_lv (z_tks bt n) F c).2.2 ∧ r_im bt n b (7 * c + 14) yX12_readUnit mX12_readUnit (e + 1) (p_lv (z_tks bt n) F c).2.2)
    exact ⟨r_im_up (r_sum (c := c + 1) hF (by omega) he hS hN) (by omega), r_im_up (r_truth (c := c + 1) hF (by omega) he hS hN hU) (by omega), r_im_up (r_unit (c := c + 1) hF (by omega) he hS hN hU) (by omega)⟩
