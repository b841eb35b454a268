-- the class's laws: atoms up to truths
def c_im (bt : Nat → Int) (n : Nat) (x : Int) (D : Nat) (y : MethodName) (X : q_Mt) (e : Int) (F : p_S → p_S) : Prop := ∀ ⦃d : Nat⦄ ⦃M : q_Mem⦄ ⦃K : Int → q_Mem → Prop⦄ ⦃s : p_S⦄, D < d → c_at bt n x s M → s.2.1 = 0 → p_bd 0 n s → (∀ M', c_fr x M M' → (F s).2.1 = 0 → c_at bt n x (F s) M' → K 1 M') → (∀ M', c_fr x M M' → c_bad (F s) M' → K 0 M') → q_kI y X d [qR 33, qI e] M K
theorem c_im_up {bt : Nat → Int} {n D D' : Nat} {x : Int} {y : MethodName} {X : q_Mt} {e : Int} {F : p_S → p_S} (h : c_im bt n x D y X e F) (hD : D ≤ D') : c_im bt n x D' y X e F := fun _ _ _ _ hd hs hw hb k k2 => h (by omega) hs hw hb k k2
theorem p_bd_n9 {b n : Nat} {s : p_S} (h : p_bd b n s) (hn : n ≤ 900) : s.2.2.2.length < 900 := by
  have := h.1
  have := h.2
  omega
theorem c_choice {d : Nat} {M : q_Mem} {K : Int → q_Mem → Prop} {bt : Nat → Int} {n D0 : Nat} {x e : Int} {s : p_S} {SN TN : p_S → p_S} (hd : D0 < d) (h7 : 7 ≤ D0) (hS : p_ok n SN) (hSi : c_im bt n x (D0 - 1) yX5_readSum mX5_readSum e SN) (hN : p_ok n TN) (hNi : c_im bt n x (D0 - 1) yX5_readTruth mX5_readTruth e TN) (hs : c_at bt n x s M) (hw : s.2.1 = 0) (hb : p_bd 1 n s) (h1 : ∀ M', c_fr x M M' → (p_if (z_tks bt n) SN TN s).2.1 = 0 → c_at bt n x (p_if (z_tks bt n) SN TN s) M' → K 1 M') (h0 : ∀ M', c_fr x M M' → c_bad (p_if (z_tks bt n) SN TN s) M' → K 0 M') : q_kI yX5_readChoice mX5_readChoice d [qR 33, qI e] M K := by
  have n9 := hs.1.2.2.1
  unfold p_if at h1 h0
  have W := fun (k : Int) (hk : k ≠ 21) => p_want_ok (n := n) (z_tks_lt (bt := bt)) hk
  have b2 := p_bd_up hb (hN.2 _)
  have b3 := p_bd_up b2 ((W 10 (by decide)).2 _)
  have b4 := p_bd_up b3 (hS.2 _)
  have b5 := p_bd_up b4 ((W 11 (by decide)).2 _)
  have b6 := p_bd_up b5 (hS.2 _)
  have b7 := p_bd_up b6 ((W 12 (by decide)).2 _)
  refine q_goI hd rfl (plainFor_of_name (by decide +kernel)) rfl (fun h => nomatch h) (Nat.le_of_ble_eq_true rfl) (fun d hd => bX5_readChoice_0 _ (hNi (by omega) hs hw (p_bd_1 hb) (fun M1 f1 w1 r1 => ⟨fun q => absurd q (by decide), fun _ => ?_⟩) (fun M1 f1 r1 => ⟨fun _ => h0 M1 f1 (by rw [(W 10 (by decide)).1 _ r1.1, hS.1 _ r1.1, (W 11 (by decide)).1 _ r1.1, hS.1 _ r1.1, (W 12 (by decide)).1 _ r1.1, p_code_w r1.1]; exact r1), fun q => absurd rfl q⟩)))
  refine c_takeWord (by omega) r1 w1 (by decide) (k := 10) rfl (fun M2 f2 w2 r2 => ⟨fun q => absurd q (by decide), fun _ => ?_⟩) (fun M2 f2 r2 => ⟨fun _ => h0 M2 (c_fr_tr f1 f2) (by rw [hS.1 _ r2.1, (W 11 (by decide)).1 _ r2.1, hS.1 _ r2.1, (W 12 (by decide)).1 _ r2.1, p_code_w r2.1]; exact r2), fun q => absurd rfl q⟩)
  refine hSi (by omega) r2 w2 (p_bd_1 b3) (fun M3 f3 w3 r3 => ⟨fun _ => ?_, fun q => absurd q (by decide)⟩) (fun M3 f3 r3 => ⟨fun q => absurd rfl q, fun _ => h0 M3 (c_fr_tr f1 (c_fr_tr f2 f3)) (by rw [(W 11 (by decide)).1 _ r3.1, hS.1 _ r3.1, (W 12 (by decide)).1 _ r3.1, p_code_w r3.1]; exact r3)⟩)
  refine c_takeWord (by omega) r3 w3 (by decide) (k := 11) rfl (fun M4 f4 w4 r4 => ⟨fun q => absurd q (by decide), fun _ => ?_⟩) (fun M4 f4 r4 => ⟨fun _ => h0 M4 (c_fr_tr f1 (c_fr_tr f2 (c_fr_tr f3 f4))) (by rw [hS.1 _ r4.1, (W 12 (by decide)).1 _ r4.1, p_code_w r4.1]; exact r4), fun q => absurd rfl q⟩)
  refine hSi (by omega) r4 w4 (p_bd_1 b5) (fun M5 f5 w5 r5 => ⟨fun q => absurd q (by decide), fun _ => ?_⟩) (fun M5 f5 r5 => ⟨fun _ => h0 M5 (c_fr_tr f1 (c_fr_tr f2 (c_fr_tr f3 (c_fr_tr f4 f5)))) (by rw [(W 12 (by decide)).1 _ r5.1, p_code_w r5.1]; exact r5), fun q => absurd rfl q⟩)
  refine c_takeWord (by omega) r5 w5 (by decide) (k := 12) rfl (fun M6 f6 w6 r6 => ⟨fun _ => ?_, fun q => absurd q (by decide)⟩) (fun M6 f6 r6 => ⟨fun q => absurd rfl q, fun _ => h0 M6 (c_fr_tr f1 (c_fr_tr f2 (c_fr_tr f3 (c_fr_tr f4 (c_fr_tr f5 f6))))) (by rw [p_code_w r6.1]; exact r6)⟩)
  rw [r6.2.2.1]
  exact ⟨r6.2.2.2.1, c_add (by omega) r6 w6 (by decide) (p_bd_n9 b7 n9) (fun M7 f7 w7 r7 => h1 M7 (c_fr_tr f1 (c_fr_tr f2 (c_fr_tr f3 (c_fr_tr f4 (c_fr_tr f5 (c_fr_tr f6 f7)))))) w7 r7)⟩
theorem c_nf {bt : Nat → Int} {n : Nat} {k : Int} {s : p_S} (hw : s.2.1 = 0) (g : p_is (z_tks bt n) k s = false) : ¬ (z_tks bt n s.1).1 = k := fun g3 => by
  unfold p_is at g
  rw [decide_eq_true hw, decide_eq_true g3] at g
  exact absurd g (by decide)
theorem c_atom {bt : Nat → Int} {n c D0 : Nat} {x e : Int} {SN TN : p_S → p_S} (h7 : 6 ≤ D0) (he : 0 ≤ e ∧ e + (c : Int) = 6) (hS : 0 < c → p_ok n SN ∧ c_im bt n x D0 yX5_readSum mX5_readSum (e + 1) SN) (hN : 0 < c → p_ok n TN ∧ c_im bt n x D0 yX5_readTruth mX5_readTruth (e + 1) TN) : c_im bt n x (D0 + 2) yX5_readAtom mX5_readAtom e (p_atom (z_tks bt n) c SN TN) := by
  intro d M K s hd hs hw hb h1 h0
  have n9 := hs.1.2.2.1
  have b9 := p_bd_n9 hb n9
  have W := fun (k : Int) (hk : k ≠ 21) => p_want_ok (n := n) (z_tks_lt (bt := bt)) hk
  unfold p_atom at h1 h0
  rw [if_pos hw] at h1 h0
  refine q_goI hd rfl (plainFor_of_name (by decide +kernel)) rfl (fun h => nomatch h) (Nat.le_of_ble_eq_true rfl) (fun d hd => bX5_readAtom_0 _ (c_isSign (by omega) hs hw (j := 5) (k := 35) (by decide) (by decide +kernel) rfl (fun g => ⟨fun q => absurd q (by decide), fun _ => ?_⟩) (fun g => ⟨fun _ => c_isWord (by omega) hs hw (by decide) (k := 9) rfl (fun g2 => ⟨fun q => absurd q (by decide), fun _ => ?_⟩) (fun g2 => ⟨fun _ => ?_, fun q => absurd rfl q⟩), fun q => absurd rfl q⟩)))
  · obtain ⟨_, k, lt⟩ := p_is_n (by decide) g
    rw [k, if_neg (by decide), if_neg (by decide), if_pos rfl] at h1 h0
    refine c_nests (by omega) hs hw he (fun M1 f1 c0 e1 r1 => ⟨fun q => absurd q (by decide), fun _ => ?_⟩) (fun M1 f1 r1 => ⟨fun _ => h0 M1 f1 (by rw [if_neg r1.1]; exact r1), fun q => absurd rfl q⟩)
    rw [e1, if_pos (show (p_go s).2.1 = 0 from hw)] at h1 h0
    rw [q_add_eq (show -2147483648 ≤ e + 1 ∧ e + 1 < 2147483648 by omega)]
    have b1 := p_bd_go hb lt
    refine (hS c0).2 (by omega) r1 hw (p_bd_1 b1) (fun M2 f2 w2 r2 => ⟨fun q => absurd q (by decide), fun _ => ?_⟩) (fun M2 f2 r2 => ⟨fun _ => h0 M2 (c_fr_tr f1 f2) (by rw [(W 36 (by decide)).1 _ r2.1]; exact r2), fun q => absurd rfl q⟩)
    exact c_takeSign (by omega) r2 w2 (j := 6) (k := 36) (by decide) (by decide +kernel) rfl (fun M3 f3 w3 r3 => ⟨fun q => absurd q (by decide), fun _ => h1 M3 (c_fr_tr f1 (c_fr_tr f2 f3)) w3 r3⟩) (fun M3 f3 r3 => ⟨fun _ => h0 M3 (c_fr_tr f1 (c_fr_tr f2 f3)) r3, fun q => absurd rfl q⟩)
  · obtain ⟨_, k, lt⟩ := p_is_n (by decide) g2
    rw [k, if_neg (by decide), if_neg (by decide), if_neg (by decide), if_pos rfl] at h1 h0
    refine c_nests (by omega) hs hw he (fun M1 f1 c0 e1 r1 => ⟨fun q => absurd q (by decide), fun _ => ?_⟩) (fun M1 f1 r1 => ⟨fun _ => h0 M1 f1 (by rw [if_neg r1.1]; exact r1), fun q => absurd rfl q⟩)
    rw [e1, if_pos (show (p_go s).2.1 = 0 from hw)] at h1 h0
    rw [q_add_eq (show -2147483648 ≤ e + 1 ∧ e + 1 < 2147483648 by omega)]
    exact c_choice (D0 := D0 + 1) (by omega) (by omega) (hS c0).1 (hS c0).2 (hN c0).1 (hN c0).2 r1 hw (p_bd_go hb lt) (fun M2 f2 w2 r2 => ⟨fun q => absurd q (by decide), fun _ => h1 M2 (c_fr_tr f1 f2) w2 r2⟩) (fun M2 f2 r2 => ⟨fun _ => h0 M2 (c_fr_tr f1 f2) r2, fun q => absurd rfl q⟩)
  · have pc : ∀ c, p_code c s = (s.1, s.2.1, s.2.2.1, s.2.2.2 ++ [c]) := fun c => by unfold p_code; rw [if_pos hw]
    refine c_plain (by omega) hs hw (fun k nb => ⟨fun _ => ?_, fun q => by omega⟩) (fun k k2 wb => ⟨fun _ => ?_, fun q => by omega⟩) (fun k k2 => ⟨fun q => absurd rfl q, fun _ => ?_⟩)
    · rw [if_pos k] at h1 h0
      rw [hs.2.2.1]
      refine ⟨hs.2.2.2.1, c_add (c := (z_tks bt n s.1).2.2) (by omega) hs hw (by unfold z_te; rw [if_pos (by omega)]) b9 (fun M1 f1 w1 r1 => c_adv (by omega) r1 (fun M2 f2 r2 => h1 M2 (c_fr_tr f1 f2) w1 r2))⟩
    · rw [if_neg k, if_pos k2] at h1 h0
      rw [hs.2.2.1]
      refine ⟨hs.2.2.2.1, c_add (c := 1000 + p_wd (z_tks bt n s.1).1) (by omega) hs hw (by unfold z_te; rw [if_neg (by omega), if_pos (by omega)]; omega) b9 (fun M1 f1 w1 r1 => c_adv (by omega) r1 (fun M2 f2 r2 => h1 M2 (c_fr_tr f1 f2) w1 r2))⟩
    · rw [if_neg k, if_neg (fun q => q k2), if_neg (c_nf hw g), if_neg (c_nf hw g2)] at h1 h0
      exact c_ref (by omega) hs hw (by decide) (fun M1 f1 r1 => ⟨Or.inl rfl, h0 M1 f1 r1⟩)
theorem l_cterm {bt : Nat → Int} {n d D1 : Nat} {x : Int} {M0 : q_Mem} {K : Int → q_Mem → Prop} {e : Int} {X : p_S → p_S} (hd : D1 + 1 ≤ d) (h6 : 6 ≤ D1) (hX : p_ok n X) (hA : c_im bt n x D1 yX5_readAtom mX5_readAtom e X) :
    ∀ (f : Nat) (s : p_S) (M : q_Mem) (i : Nat), s.2.1 = 0 → p_bd 0 n s → n < f + s.1 → i < s.1 → c_fr x M0 M → c_at bt n x s M → (∀ M', c_fr x M0 M' → (p_loop (z_tks bt n) 34 3002 X f s).2.1 = 0 → c_at bt n x (p_loop (z_tks bt n) 34 3002 X f s) M' → K 1 M') → (∀ M', c_fr x M0 M' → c_bad (p_loop (z_tks bt n) 34 3002 X f s) M' → K 0 M') → q_v mX5_readTerm d (qPI K) M 12 [some (qR 33), some (qI e), some (qI (i : Int))] []
  | 0, s, M, i, hw, hb, hn, hi, _, _, _, _ => by have := hb.2; omega
  | f + 1, s, M, i, hw, hb, hn, hi, f0, hs, h1, h0 => by
    have n9 := hs.1.2.2.1
    have lp := p_loop_ok (code := 3002) (k := 34) (z_tks_lt (bt := bt) (n := n)) (by decide) hX f
    unfold p_loop at h1 h0
    refine bX5_readTerm_12 _ _ ?_
    rw [hs.1.2.1, q_add_eq (show -2147483648 ≤ (i : Int) + 1 ∧ (i : Int) + 1 < 2147483648 by have := hb.2; omega)]
    refine ⟨fun q => absurd q (by have := hb.2; omega), fun _ => c_isSign (by omega) hs hw (j := 4) (k := 34) (by decide) (by decide +kernel) rfl (fun g => ⟨fun q => absurd q (by decide), fun _ => ?_⟩) (fun g => ⟨fun _ => ?_, fun q => absurd rfl q⟩)⟩
    · rw [if_pos g] at h1 h0
      have lt := (p_is_n (by decide) g).2.2
      have b1 := p_bd_go hb lt
      have u := hX.2 (p_go s)
      have b2 := p_bd_up b1 u
      have u1 : s.1 + 1 ≤ (X (p_go s)).1 := u.1
      have e1 : (p_code 3002 (X (p_go s))).1 = (X (p_go s)).1 := by unfold p_code; split <;> rfl
      refine c_adv (by omega) hs (fun M1 f1 r1 => hA (by omega) r1 hw (p_bd_1 b1) (fun M2 f2 w2 r2 => ⟨fun _ => ?_, fun q => absurd q (by decide)⟩) (fun M2 f2 r2 => ⟨fun q => absurd rfl q, fun _ => h0 M2 (c_fr_tr f0 (c_fr_tr f1 f2)) (by rw [p_code_w r2.1, lp.1 _ r2.1]; exact r2)⟩))
      rw [r2.2.2.1]
      refine ⟨r2.2.2.2.1, c_add (c := 3002) (by omega) r2 w2 (by decide) (p_bd_n9 b2 n9) (fun M3 f3 w3 r3 => ?_)⟩
      have := l_cterm hd h6 hX hA f _ M3 (i + 1) w3 (p_bd_c b2) (by rw [e1]; omega) (by rw [e1]; omega) (c_fr_tr f0 (c_fr_tr f1 (c_fr_tr f2 f3))) r3 h1 h0
      rw [show ((i + 1 : Nat) : Int) = (i : Int) + 1 by omega] at this
      exact this
    · rw [if_neg (by rw [g]; decide)] at h1
      exact h1 M f0 hw hs
theorem c_term {bt : Nat → Int} {n c D0 F : Nat} {x e : Int} {SN TN : p_S → p_S} (hF : n < F) (h7 : 6 ≤ D0) (he : 0 ≤ e ∧ e + (c : Int) = 6) (hS : 0 < c → p_ok n SN ∧ c_im bt n x D0 yX5_readSum mX5_readSum (e + 1) SN) (hN : 0 < c → p_ok n TN ∧ c_im bt n x D0 yX5_readTruth mX5_readTruth (e + 1) TN) : c_im bt n x (D0 + 3) yX5_readTerm mX5_readTerm e (p_term (z_tks bt n) F c SN TN) := by
  intro d M K s hd hs hw hb h1 h0
  have A := c_atom h7 he hS hN
  have ok : p_ok n (p_atom (z_tks bt n) c SN TN) := p_atom_ok z_tks_lt (fun q => (hS q).1) (fun q => (hN q).1)
  have ok2 := p_loop_ok (code := 3002) (k := 34) (z_tks_lt (bt := bt) (n := n)) (by decide) ok F
  unfold p_term at h1 h0
  refine q_goI hd rfl (plainFor_of_name (by decide +kernel)) rfl (fun h => nomatch h) (Nat.le_of_ble_eq_true rfl) (fun d hd => bX5_readTerm_0 _ (A (by omega) hs hw hb (fun M1 f1 w1 r1 => ⟨fun _ => ?_, fun q => absurd q (by decide)⟩) (fun M1 f1 r1 => ⟨fun q => absurd rfl q, fun _ => h0 M1 f1 (by rw [ok2.1 _ r1.1]; exact r1)⟩)))
  have b1 := p_bd_up hb (ok.2 _)
  exact l_cterm (D1 := D0 + 2) (by omega) (by omega) ok A F _ M1 0 w1 b1 (by omega) (by have := b1.1; omega) f1 r1 h1 h0
theorem l_csum {bt : Nat → Int} {n d D1 : Nat} {x : Int} {M0 : q_Mem} {K : Int → q_Mem → Prop} {e : Int} {X : p_S → p_S} (hd : D1 + 1 ≤ d) (h6 : 6 ≤ D1) (hX : p_ok n X) (hA : c_im bt n x D1 yX5_readTerm mX5_readTerm e X) :
    ∀ (f : Nat) (s : p_S) (M : q_Mem) (i : Nat), s.2.1 = 0 → p_bd 0 n s → n < f + s.1 → i < s.1 → c_fr x M0 M → c_at bt n x s M → (∀ M', c_fr x M0 M' → (p_sums (z_tks bt n) X f s).2.1 = 0 → c_at bt n x (p_sums (z_tks bt n) X f s) M' → K 1 M') → (∀ M', c_fr x M0 M' → c_bad (p_sums (z_tks bt n) X f s) M' → K 0 M') → q_v mX5_readSum d (qPI K) M 12 [some (qR 33), some (qI e), some (qI (i : Int)), none] []
  | 0, s, M, i, hw, hb, hn, hi, _, _, _, _ => by have := hb.2; omega
  | f + 1, s, M, i, hw, hb, hn, hi, f0, hs, h1, h0 => by
    have n9 := hs.1.2.2.1
    have lp := p_sums_ok (z_tks_lt (bt := bt) (n := n)) hX f
    unfold p_sums at h1 h0
    have go : ∀ (k code v : Int), k ≠ 21 → v = z_te code → p_is (z_tks bt n) k s = true → (∀ M', c_fr x M0 M' → (p_sums (z_tks bt n) X f (p_code code (X (p_go s)))).2.1 = 0 → c_at bt n x (p_sums (z_tks bt n) X f (p_code code (X (p_go s)))) M' → K 1 M') → (∀ M', c_fr x M0 M' → c_bad (p_sums (z_tks bt n) X f (p_code code (X (p_go s)))) M' → K 0 M') → q_v mX5_readSum d (qPI K) M 54 [some (qR 33), some (qI e), some (qI (i : Int)), none] [qI v] := by
      intro k code v hk hv g h1 h0
      have lt := (p_is_n hk g).2.2
      have b1 := p_bd_go hb lt
      have u := hX.2 (p_go s)
      have b2 := p_bd_up b1 u
      have u1 : s.1 + 1 ≤ (X (p_go s)).1 := u.1
      have e1 : (p_code code (X (p_go s))).1 = (X (p_go s)).1 := by unfold p_code; split <;> rfl
      refine bX5_readSum_54 _ _ _ (c_adv (by omega) hs (fun M1 f1 r1 => hA (by omega) r1 hw (p_bd_1 b1) (fun M2 f2 w2 r2 => ⟨fun _ => ?_, fun q => absurd q (by decide)⟩) (fun M2 f2 r2 => ⟨fun q => absurd rfl q, fun _ => h0 M2 (c_fr_tr f0 (c_fr_tr f1 f2)) (by rw [p_code_w r2.1, lp.1 _ r2.1]; exact r2)⟩)))
      rw [r2.2.2.1, q_add_eq (show -2147483648 ≤ (i : Int) + 1 ∧ (i : Int) + 1 < 2147483648 by have := hb.2; omega)]
      refine ⟨r2.2.2.2.1, c_add (c := code) (by omega) r2 w2 hv (p_bd_n9 b2 n9) (fun M3 f3 w3 r3 => ?_)⟩
      have := l_csum hd h6 hX hA f _ M3 (i + 1) w3 (p_bd_c b2) (by rw [e1]; omega) (by rw [e1]; omega) (c_fr_tr f0 (c_fr_tr f1 (c_fr_tr f2 f3))) r3 h1 h0
      rw [show ((i + 1 : Nat) : Int) = (i : Int) + 1 by omega] at this
      exact this
    refine bX5_readSum_12 _ _ ?_
    rw [hs.1.2.1]
    refine ⟨fun q => absurd q (by have := hb.2; omega), fun _ => c_isSign (by omega) hs hw (j := 2) (k := 32) (by decide) (by decide +kernel) rfl (fun g => ⟨fun _ => ?_, fun q => absurd q (by decide)⟩) (fun g => ⟨fun q => absurd rfl q, fun _ => c_isSign (by omega) hs hw (j := 3) (k := 33) (by decide) (by decide +kernel) rfl (fun g2 => ⟨fun q => absurd q (by decide), fun _ => ?_⟩) (fun g2 => ⟨fun _ => ?_, fun q => absurd rfl q⟩)⟩)⟩
    · rw [if_pos g] at h1 h0
      exact bX5_readSum_38 _ _ (c_isSign (by omega) hs hw (j := 2) (k := 32) (by decide) (by decide +kernel) rfl (fun _ => ⟨fun q => absurd q (by decide), fun _ => go 32 3000 (-6) (by decide) (by decide) g h1 h0⟩) (fun q => by rw [g] at q; exact absurd q (by decide)))
    · rw [if_neg (by rw [g]; decide), if_pos g2] at h1 h0
      exact bX5_readSum_38 _ _ (c_isSign (by omega) hs hw (j := 2) (k := 32) (by decide) (by decide +kernel) rfl (fun q => by rw [g] at q; exact absurd q (by decide)) (fun _ => ⟨fun _ => go 33 3001 (-7) (by decide) (by decide) g2 h1 h0, fun q => absurd rfl q⟩))
    · rw [if_neg (by rw [g]; decide), if_neg (by rw [g2]; decide)] at h1
      exact h1 M f0 hw hs
theorem c_sum {bt : Nat → Int} {n c D0 F : Nat} {x e : Int} {SN TN : p_S → p_S} (hF : n < F) (h7 : 6 ≤ D0) (he : 0 ≤ e ∧ e + (c : Int) = 6) (hS : 0 < c → p_ok n SN ∧ c_im bt n x D0 yX5_readSum mX5_readSum (e + 1) SN) (hN : 0 < c → p_ok n TN ∧ c_im bt n x D0 yX5_readTruth mX5_readTruth (e + 1) TN) : c_im bt n x (D0 + 4) yX5_readSum mX5_readSum e (p_sum (z_tks bt n) F c SN TN) := by
  intro d M K s hd hs hw hb h1 h0
  have A := c_term hF h7 he hS hN
  have ok : p_ok n (p_term (z_tks bt n) F c SN TN) := p_term_ok z_tks_lt (fun q => (hS q).1) (fun q => (hN q).1)
  have ok2 := p_sums_ok (z_tks_lt (bt := bt) (n := n)) ok F
  unfold p_sum at h1 h0
  refine q_goI hd rfl (plainFor_of_name (by decide +kernel)) rfl (fun h => nomatch h) (Nat.le_of_ble_eq_true rfl) (fun d hd => bX5_readSum_0 _ (A (by omega) hs hw hb (fun M1 f1 w1 r1 => ⟨fun _ => ?_, fun q => absurd q (by decide)⟩) (fun M1 f1 r1 => ⟨fun q => absurd rfl q, fun _ => h0 M1 f1 (by rw [ok2.1 _ r1.1]; exact r1)⟩)))
  have b1 := p_bd_up hb (ok.2 _)
  exact l_csum (D1 := D0 + 3) (by omega) (by omega) ok A F _ M1 0 w1 b1 (by omega) (by have := b1.1; omega) f1 r1 h1 h0
theorem c_cmp {bt : Nat → Int} {n D1 : Nat} {x e : Int} {X : p_S → p_S} (h6 : 6 ≤ D1) (hX : p_ok n X) (hA : c_im bt n x D1 yX5_readSum mX5_readSum e X) : c_im bt n x (D1 + 1) yX5_readComparison mX5_readComparison e (p_cmp (z_tks bt n) X) := by
  intro d M K s hd hs hw hb h1 h0
  have n9 := hs.1.2.2.1
  unfold p_cmp at h1 h0
  have go : ∀ (k code v : Int), k ≠ 21 → v = z_te code → p_is (z_tks bt n) k s = true → (∀ M', c_fr x M M' → (p_code code (X (p_go s))).2.1 = 0 → c_at bt n x (p_code code (X (p_go s))) M' → K 1 M') → (∀ M', c_fr x M M' → c_bad (p_code code (X (p_go s))) M' → K 0 M') → ∀ d, D1 + 1 ≤ d → q_v mX5_readComparison d (qPI K) M 48 [some (qR 33), some (qI e), some (qI v)] [] := by
    intro k code v hk hv g h1 h0 d hd
    have b1 := p_bd_go hb (p_is_n hk g).2.2
    have b2 := p_bd_up b1 (hX.2 (p_go s))
    refine bX5_readComparison_48 _ _ (c_adv (by omega) hs (fun M1 f1 r1 => hA (by omega) r1 hw (p_bd_1 b1) (fun M2 f2 w2 r2 => ⟨fun _ => ?_, fun q => absurd q (by decide)⟩) (fun M2 f2 r2 => ⟨fun q => absurd rfl q, fun _ => h0 M2 (c_fr_tr f1 f2) (by rw [p_code_w r2.1]; exact r2)⟩)))
    rw [r2.2.2.1]
    exact ⟨r2.2.2.2.1, c_add (c := code) (by omega) r2 w2 hv (p_bd_n9 b2 n9) (fun M3 f3 w3 r3 => h1 M3 (c_fr_tr f1 (c_fr_tr f2 f3)) w3 r3)⟩
  have ex : ∀ {k k2 : Int}, k ≠ k2 → p_is (z_tks bt n) k s = true → ¬ p_is (z_tks bt n) k2 s = true := fun {k k2} ne g => by
    rw [c_is0 (fun q => ne ((p_is_lt (n := n + s.1 + 1) (k := k) (tk := z_tks bt n) (fun t ht => by have := z_tks_lt (bt := bt) t ht; omega) (fun q2 => by
      unfold p_is at g
      rw [Bool.and_eq_true, decide_eq_true_eq, decide_eq_true_eq] at g
      have := z_tks_lt (bt := bt) (n := n) s.1
      exact ne (by rw [← q, g.2])) g).2.1.symm.trans q))]
    decide
  refine q_goI hd rfl (plainFor_of_name (by decide +kernel)) rfl (fun h => nomatch h) (Nat.le_of_ble_eq_true rfl) (fun d hd => bX5_readComparison_0 _ (c_isSign (by omega) hs hw (j := 10) (k := 40) (by decide) (by decide +kernel) rfl (fun g => ⟨fun q => absurd q (by decide), fun _ => ?_⟩) (fun g => ⟨fun _ => c_isSign (by omega) hs hw (j := 11) (k := 41) (by decide) (by decide +kernel) rfl (fun g2 => ⟨fun q => absurd q (by decide), fun _ => ?_⟩) (fun g2 => ⟨fun _ => c_isSign (by omega) hs hw (j := 9) (k := 39) (by decide) (by decide +kernel) rfl (fun g3 => ⟨fun _ => ?_, fun q => absurd q (by decide)⟩) (fun g3 => ⟨fun q => absurd rfl q, fun _ => ?_⟩), fun q => absurd rfl q⟩), fun q => absurd rfl q⟩)))
  · rw [if_neg (ex (by decide) g), if_pos g] at h1 h0
    exact go 40 3004 (-10) (by decide) (by decide) g h1 h0 _ (by omega)
  · rw [if_neg (ex (by decide) g2), if_neg (ex (by decide) g2), if_pos g2] at h1 h0
    exact go 41 3005 (-11) (by decide) (by decide) g2 h1 h0 _ (by omega)
  · rw [if_pos g3] at h1 h0
    exact go 39 3003 (-9) (by decide) (by decide) g3 h1 h0 _ (by omega)
  · rw [if_neg (by rw [g3]; decide), if_neg (by rw [g]; decide), if_neg (by rw [g2]; decide)] at h0
    exact c_ref (by omega) hs hw (by decide) (fun M1 f1 r1 => ⟨Or.inl rfl, h0 M1 f1 r1⟩)
theorem c_unit {bt : Nat → Int} {n c D0 F : Nat} {x e : Int} {SN TN UN : p_S → p_S} (hF : n < F) (h7 : 6 ≤ D0) (he : 0 ≤ e ∧ e + (c : Int) = 6) (hS : 0 < c → p_ok n SN ∧ c_im bt n x D0 yX5_readSum mX5_readSum (e + 1) SN) (hN : 0 < c → p_ok n TN ∧ c_im bt n x D0 yX5_readTruth mX5_readTruth (e + 1) TN) (hU : 0 < c → p_ok n UN ∧ c_im bt n x D0 yX5_readUnit mX5_readUnit (e + 1) UN) : c_im bt n x (D0 + 6) yX5_readUnit mX5_readUnit e (p_unit (z_tks bt n) F c SN TN UN) := by
  intro d M K s hd hs hw hb h1 h0
  have n9 := hs.1.2.2.1
  have W := fun (k : Int) (hk : k ≠ 21) => p_want_ok (n := n) (z_tks_lt (bt := bt)) hk
  have A := c_sum hF h7 he hS hN
  have ok : p_ok n (p_sum (z_tks bt n) F c SN TN) := p_sum_ok z_tks_lt (fun q => (hS q).1) (fun q => (hN q).1)
  have B := c_cmp (D1 := D0 + 4) (by omega) ok A
  unfold p_unit at h1 h0
  rw [if_pos hw] at h1 h0
  refine q_goI hd rfl (plainFor_of_name (by decide +kernel)) rfl (fun h => nomatch h) (Nat.le_of_ble_eq_true rfl) (fun d hd => bX5_readUnit_0 _ (c_isSign (by omega) hs hw (j := 7) (k := 37) (by decide) (by decide +kernel) rfl (fun g => ⟨fun q => absurd q (by decide), fun _ => ?_⟩) (fun g => ⟨fun _ => c_isWord (by omega) hs hw (by decide) (k := 18) rfl (fun g2 => ⟨fun q => absurd q (by decide), fun _ => ?_⟩) (fun g2 => ⟨fun _ => ?_, fun q => absurd rfl q⟩), fun q => absurd rfl q⟩)))
  · obtain ⟨_, k, lt⟩ := p_is_n (by decide) g
    rw [k, if_neg (by decide), if_pos rfl] at h1 h0
    refine c_nests (by omega) hs hw he (fun M1 f1 c0 e1 r1 => ⟨fun q => absurd q (by decide), fun _ => ?_⟩) (fun M1 f1 r1 => ⟨fun _ => h0 M1 f1 (by rw [if_neg r1.1]; exact r1), fun q => absurd rfl q⟩)
    rw [e1, if_pos (show (p_go s).2.1 = 0 from hw)] at h1 h0
    rw [q_add_eq (show -2147483648 ≤ e + 1 ∧ e + 1 < 2147483648 by omega)]
    have b1 := p_bd_go hb lt
    refine (hN c0).2 (by omega) r1 hw (p_bd_1 b1) (fun M2 f2 w2 r2 => ⟨fun q => absurd q (by decide), fun _ => ?_⟩) (fun M2 f2 r2 => ⟨fun _ => h0 M2 (c_fr_tr f1 f2) (by rw [(W 38 (by decide)).1 _ r2.1]; exact r2), fun q => absurd rfl q⟩)
    exact c_takeSign (by omega) r2 w2 (j := 8) (k := 38) (by decide) (by decide +kernel) rfl (fun M3 f3 w3 r3 => ⟨fun q => absurd q (by decide), fun _ => h1 M3 (c_fr_tr f1 (c_fr_tr f2 f3)) w3 r3⟩) (fun M3 f3 r3 => ⟨fun _ => h0 M3 (c_fr_tr f1 (c_fr_tr f2 f3)) r3, fun q => absurd rfl q⟩)
  · obtain ⟨_, k, lt⟩ := p_is_n (by decide) g2
    rw [k, if_pos rfl] at h1 h0
    refine c_nests (by omega) hs hw he (fun M1 f1 c0 e1 r1 => ⟨fun q => absurd q (by decide), fun _ => ?_⟩) (fun M1 f1 r1 => ⟨fun _ => h0 M1 f1 (by rw [if_neg r1.1]; exact r1), fun q => absurd rfl q⟩)
    rw [e1, if_pos (show (p_go s).2.1 = 0 from hw)] at h1 h0
    rw [q_add_eq (show -2147483648 ≤ e + 1 ∧ e + 1 < 2147483648 by omega)]
    have b1 := p_bd_go hb lt
    have b2 := p_bd_up b1 ((hU c0).1.2 _)
    refine (hU c0).2 (by omega) r1 hw (p_bd_1 b1) (fun M2 f2 w2 r2 => ⟨fun _ => ?_, fun q => absurd q (by decide)⟩) (fun M2 f2 r2 => ⟨fun q => absurd rfl q, fun _ => h0 M2 (c_fr_tr f1 f2) (by rw [p_code_w r2.1]; exact r2)⟩)
    rw [r2.2.2.1]
    exact ⟨r2.2.2.2.1, c_add (c := 3006) (by omega) r2 w2 (by decide) (p_bd_n9 b2 n9) (fun M3 f3 w3 r3 => h1 M3 (c_fr_tr f1 (c_fr_tr f2 f3)) w3 r3)⟩
  · rw [if_neg (c_nf hw g2), if_neg (c_nf hw g)] at h1 h0
    refine A (by omega) hs hw hb (fun M1 f1 w1 r1 => ⟨fun q => absurd q (by decide), fun _ => ?_⟩) (fun M1 f1 r1 => ⟨fun _ => h0 M1 f1 (by rw [(p_cmp_ok z_tks_lt ok).1 _ r1.1]; exact r1), fun q => absurd rfl q⟩)
    exact B (by omega) r1 w1 (p_bd_up hb (ok.2 _)) (fun M2 f2 w2 r2 => ⟨fun q => absurd q (by decide), fun _ => h1 M2 (c_fr_tr f1 f2) w2 r2⟩) (fun M2 f2 r2 => ⟨fun _ => h0 M2 (c_fr_tr f1 f2) r2, fun q => absurd rfl q⟩)
theorem l_cboth {bt : Nat → Int} {n d D1 : Nat} {x : Int} {M0 : q_Mem} {K : Int → q_Mem → Prop} {e : Int} {X : p_S → p_S} (hd : D1 + 1 ≤ d) (h6 : 6 ≤ D1) (hX : p_ok n X) (hA : c_im bt n x D1 yX5_readUnit mX5_readUnit e X) :
    ∀ (f : Nat) (s : p_S) (M : q_Mem) (i : Nat), s.2.1 = 0 → p_bd 0 n s → n < f + s.1 → i < s.1 → c_fr x M0 M → c_at bt n x s M → (∀ M', c_fr x M0 M' → (p_loop (z_tks bt n) 16 3007 X f s).2.1 = 0 → c_at bt n x (p_loop (z_tks bt n) 16 3007 X f s) M' → K 1 M') → (∀ M', c_fr x M0 M' → c_bad (p_loop (z_tks bt n) 16 3007 X f s) M' → K 0 M') → q_v mX5_readBoth d (qPI K) M 12 [some (qR 33), some (qI e), some (qI (i : Int))] []
  | 0, s, M, i, hw, hb, hn, hi, _, _, _, _ => by have := hb.2; omega
  | f + 1, s, M, i, hw, hb, hn, hi, f0, hs, h1, h0 => by
    have n9 := hs.1.2.2.1
    have lp := p_loop_ok (code := 3007) (k := 16) (z_tks_lt (bt := bt) (n := n)) (by decide) hX f
    unfold p_loop at h1 h0
    refine bX5_readBoth_12 _ _ ?_
    rw [hs.1.2.1, q_add_eq (show -2147483648 ≤ (i : Int) + 1 ∧ (i : Int) + 1 < 2147483648 by have := hb.2; omega)]
    refine ⟨fun q => absurd q (by have := hb.2; omega), fun _ => c_isWord (by omega) hs hw (by decide) (k := 16) rfl (fun g => ⟨fun q => absurd q (by decide), fun _ => ?_⟩) (fun g => ⟨fun _ => ?_, fun q => absurd rfl q⟩)⟩
    · rw [if_pos g] at h1 h0
      have lt := (p_is_n (by decide) g).2.2
      have b1 := p_bd_go hb lt
      have u := hX.2 (p_go s)
      have b2 := p_bd_up b1 u
      have u1 : s.1 + 1 ≤ (X (p_go s)).1 := u.1
      have e1 : (p_code 3007 (X (p_go s))).1 = (X (p_go s)).1 := by unfold p_code; split <;> rfl
      refine c_adv (by omega) hs (fun M1 f1 r1 => hA (by omega) r1 hw (p_bd_1 b1) (fun M2 f2 w2 r2 => ⟨fun _ => ?_, fun q => absurd q (by decide)⟩) (fun M2 f2 r2 => ⟨fun q => absurd rfl q, fun _ => h0 M2 (c_fr_tr f0 (c_fr_tr f1 f2)) (by rw [p_code_w r2.1, lp.1 _ r2.1]; exact r2)⟩))
      rw [r2.2.2.1]
      refine ⟨r2.2.2.2.1, c_add (c := 3007) (by omega) r2 w2 (by decide) (p_bd_n9 b2 n9) (fun M3 f3 w3 r3 => ?_)⟩
      have := l_cboth hd h6 hX hA f _ M3 (i + 1) w3 (p_bd_c b2) (by rw [e1]; omega) (by rw [e1]; omega) (c_fr_tr f0 (c_fr_tr f1 (c_fr_tr f2 f3))) r3 h1 h0
      rw [show ((i + 1 : Nat) : Int) = (i : Int) + 1 by omega] at this
      exact this
    · rw [if_neg (by rw [g]; decide)] at h1
      exact h1 M f0 hw hs
theorem c_both {bt : Nat → Int} {n c D0 F : Nat} {x e : Int} {SN TN UN : p_S → p_S} (hF : n < F) (h7 : 6 ≤ D0) (he : 0 ≤ e ∧ e + (c : Int) = 6) (hS : 0 < c → p_ok n SN ∧ c_im bt n x D0 yX5_readSum mX5_readSum (e + 1) SN) (hN : 0 < c → p_ok n TN ∧ c_im bt n x D0 yX5_readTruth mX5_readTruth (e + 1) TN) (hU : 0 < c → p_ok n UN ∧ c_im bt n x D0 yX5_readUnit mX5_readUnit (e + 1) UN) : c_im bt n x (D0 + 7) yX5_readBoth mX5_readBoth e (p_both (z_tks bt n) F c SN TN UN) := by
  intro d M K s hd hs hw hb h1 h0
  have A := c_unit hF h7 he hS hN hU
  have ok : p_ok n (p_unit (z_tks bt n) F c SN TN UN) := p_unit_ok z_tks_lt (fun q => (hS q).1) (fun q => (hN q).1) (fun q => (hU q).1)
  have ok2 := p_loop_ok (code := 3007) (k := 16) (z_tks_lt (bt := bt) (n := n)) (by decide) ok F
  unfold p_both at h1 h0
  refine q_goI hd rfl (plainFor_of_name (by decide +kernel)) rfl (fun h => nomatch h) (Nat.le_of_ble_eq_true rfl) (fun d hd => bX5_readBoth_0 _ (A (by omega) hs hw hb (fun M1 f1 w1 r1 => ⟨fun _ => ?_, fun q => absurd q (by decide)⟩) (fun M1 f1 r1 => ⟨fun q => absurd rfl q, fun _ => h0 M1 f1 (by rw [ok2.1 _ r1.1]; exact r1)⟩)))
  have b1 := p_bd_up hb (ok.2 _)
  exact l_cboth (D1 := D0 + 6) (by omega) (by omega) ok A F _ M1 0 w1 b1 (by omega) (by have := b1.1; omega) f1 r1 h1 h0
theorem l_ctruth {bt : Nat → Int} {n d D1 : Nat} {x : Int} {M0 : q_Mem} {K : Int → q_Mem → Prop} {e : Int} {X : p_S → p_S} (hd : D1 + 1 ≤ d) (h6 : 6 ≤ D1) (hX : p_ok n X) (hA : c_im bt n x D1 yX5_readBoth mX5_readBoth e X) :
    ∀ (f : Nat) (s : p_S) (M : q_Mem) (i : Nat), s.2.1 = 0 → p_bd 0 n s → n < f + s.1 → i < s.1 → c_fr x M0 M → c_at bt n x s M → (∀ M', c_fr x M0 M' → (p_loop (z_tks bt n) 17 3008 X f s).2.1 = 0 → c_at bt n x (p_loop (z_tks bt n) 17 3008 X f s) M' → K 1 M') → (∀ M', c_fr x M0 M' → c_bad (p_loop (z_tks bt n) 17 3008 X f s) M' → K 0 M') → q_v mX5_readTruth d (qPI K) M 12 [some (qR 33), some (qI e), some (qI (i : Int))] []
  | 0, s, M, i, hw, hb, hn, hi, _, _, _, _ => by have := hb.2; omega
  | f + 1, s, M, i, hw, hb, hn, hi, f0, hs, h1, h0 => by
    have n9 := hs.1.2.2.1
    have lp := p_loop_ok (code := 3008) (k := 17) (z_tks_lt (bt := bt) (n := n)) (by decide) hX f
    unfold p_loop at h1 h0
    refine bX5_readTruth_12 _ _ ?_
    rw [hs.1.2.1, q_add_eq (show -2147483648 ≤ (i : Int) + 1 ∧ (i : Int) + 1 < 2147483648 by have := hb.2; omega)]
    refine ⟨fun q => absurd q (by have := hb.2; omega), fun _ => c_isWord (by omega) hs hw (by decide) (k := 17) rfl (fun g => ⟨fun q => absurd q (by decide), fun _ => ?_⟩) (fun g => ⟨fun _ => ?_, fun q => absurd rfl q⟩)⟩
    · rw [if_pos g] at h1 h0
      have lt := (p_is_n (by decide) g).2.2
      have b1 := p_bd_go hb lt
      have u := hX.2 (p_go s)
      have b2 := p_bd_up b1 u
      have u1 : s.1 + 1 ≤ (X (p_go s)).1 := u.1
      have e1 : (p_code 3008 (X (p_go s))).1 = (X (p_go s)).1 := by unfold p_code; split <;> rfl
      refine c_adv (by omega) hs (fun M1 f1 r1 => hA (by omega) r1 hw (p_bd_1 b1) (fun M2 f2 w2 r2 => ⟨fun _ => ?_, fun q => absurd q (by decide)⟩) (fun M2 f2 r2 => ⟨fun q => absurd rfl q, fun _ => h0 M2 (c_fr_tr f0 (c_fr_tr f1 f2)) (by rw [p_code_w r2.1, lp.1 _ r2.1]; exact r2)⟩))
      rw [r2.2.2.1]
      refine ⟨r2.2.2.2.1, c_add (c := 3008) (by omega) r2 w2 (by decide) (p_bd_n9 b2 n9) (fun M3 f3 w3 r3 => ?_)⟩
      have := l_ctruth hd h6 hX hA f _ M3 (i + 1) w3 (p_bd_c b2) (by rw [e1]; omega) (by rw [e1]; omega) (c_fr_tr f0 (c_fr_tr f1 (c_fr_tr f2 f3))) r3 h1 h0
      rw [show ((i + 1 : Nat) : Int) = (i : Int) + 1 by omega] at this
      exact this
    · rw [if_neg (by rw [g]; decide)] at h1
      exact h1 M f0 hw hs
theorem c_truth {bt : Nat → Int} {n c D0 F : Nat} {x e : Int} {SN TN UN : p_S → p_S} (hF : n < F) (h7 : 6 ≤ D0) (he : 0 ≤ e ∧ e + (c : Int) = 6) (hS : 0 < c → p_ok n SN ∧ c_im bt n x D0 yX5_readSum mX5_readSum (e + 1) SN) (hN : 0 < c → p_ok n TN ∧ c_im bt n x D0 yX5_readTruth mX5_readTruth (e + 1) TN) (hU : 0 < c → p_ok n UN ∧ c_im bt n x D0 yX5_readUnit mX5_readUnit (e + 1) UN) : c_im bt n x (D0 + 8) yX5_readTruth mX5_readTruth e (p_truth (z_tks bt n) F c SN TN UN) := by
  intro d M K s hd hs hw hb h1 h0
  have A := c_both hF h7 he hS hN hU
  have ok : p_ok n (p_both (z_tks bt n) F c SN TN UN) := p_both_ok z_tks_lt (fun q => (hS q).1) (fun q => (hN q).1) (fun q => (hU q).1)
  have ok2 := p_loop_ok (code := 3008) (k := 17) (z_tks_lt (bt := bt) (n := n)) (by decide) ok F
  unfold p_truth at h1 h0
  refine q_goI hd rfl (plainFor_of_name (by decide +kernel)) rfl (fun h => nomatch h) (Nat.le_of_ble_eq_true rfl) (fun d hd => bX5_readTruth_0 _ (A (by omega) hs hw hb (fun M1 f1 w1 r1 => ⟨fun _ => ?_, fun q => absurd q (by decide)⟩) (fun M1 f1 r1 => ⟨fun q => absurd rfl q, fun _ => h0 M1 f1 (by rw [ok2.1 _ r1.1]; exact r1)⟩)))
  have b1 := p_bd_up hb (ok.2 _)
  exact l_ctruth (D1 := D0 + 7) (by omega) (by omega) ok A F _ M1 0 w1 b1 (by omega) (by have := b1.1; omega) f1 r1 h1 h0
theorem c_lv {bt : Nat → Int} {n F : Nat} {x : Int} (hF : n < F) : ∀ (c : Nat) (e : Int), 0 ≤ e ∧ e + (c : Int) = 6 → c_im bt n x (8 * c + 10) yX5_readSum mX5_readSum e (p_lv (z_tks bt n) F c).1 ∧ c_im bt n x (8 * c + 14) yX5_readTruth mX5_readTruth e (p_lv (z_tks bt n) F c).2.1 ∧ c_im bt n x (8 * c + 12) yX5_readUnit mX5_readUnit e (p_lv (z_tks bt n) F c).2.2
  | 0, e, he => by
    have no : ∀ {P : Prop}, 0 < 0 → P := fun h => absurd h (by decide)
    exact ⟨c_sum (D0 := 6) (c := 0) hF (by decide) he (fun h => no h) (fun h => no h), c_truth (D0 := 6) (c := 0) hF (by decide) he (fun h => no h) (fun h => no h) (fun h => no h), c_unit (D0 := 6) (c := 0) hF (by decide) he (fun h => no h) (fun h => no h) (fun h => no h)⟩
  | c + 1, e, he => by
    have ih := c_lv (bt := bt) (x := x) hF c (e + 1) (by omega)
    have ok := p_lv_ok (n := n) (F := F) (z_tks_lt (bt := bt)) c
    have hS := fun (_ : 0 < c + 1) => (⟨ok.1, c_im_up ih.1 (by omega)⟩ : p_ok n (p_lv (z_tks bt n) F c).1 ∧ c_im bt n x (8 * c + 14) yX5_readSum mX5_readSum (e + 1) (p_lv (z_tks bt n) F c).1)
    have hN := fun (_ : 0 < c + 1) => (⟨ok.2.1, ih.2.1⟩ : p_ok n (p_lv (z_tks bt n) F c).2.1 ∧ c_im bt n x (8 * c + 14) yX5_readTruth mX5_readTruth (e + 1) (p_lv (z_tks bt n) F c).2.1)
    have hU := fun (_ : 0 < c + 1) => (⟨ok.2.2, c_im_up ih.2.2 (by omega)⟩ : p_ok n (p_lv (z_tks bt n) F c).2.2 ∧ c_im bt n x (8 * c + 14) yX5_readUnit mX5_readUnit (e + 1) (p_lv (z_tks bt n) F c).2.2)
    exact ⟨c_im_up (c_sum (c := c + 1) hF (by omega) he hS hN) (by omega), c_im_up (c_truth (c := c + 1) hF (by omega) he hS hN hU) (by omega), c_im_up (c_unit (c := c + 1) hF (by omega) he hS hN hU) (by omega)⟩
