-- the class reads a law: its small methods
def c_fr (x : Int) (M M' : q_Mem) : Prop := (∀ a, a ≠ 33 → a ≠ x → a ≠ x + 1 → M' a = M a) ∧ (∀ k, k ≠ 0 → k ≠ 1 → k ≠ 4 → k ≠ 5 → k ≠ 6 → k ≠ 7 → M' 33 k = M 33 k) ∧ ∀ k, k ≠ 0 → M' x k = M x k
theorem c_fr_rf {x : Int} {M : q_Mem} : c_fr x M M := ⟨fun _ _ _ _ => rfl, fun _ _ _ _ _ _ _ => rfl, fun _ _ => rfl⟩
theorem c_fr_tr {x : Int} {M M' M'' : q_Mem} (h : c_fr x M M') (h2 : c_fr x M' M'') : c_fr x M M'' :=
  ⟨fun a g g2 g3 => (h2.1 a g g2 g3).trans (h.1 a g g2 g3), fun k a b c d e f => (h2.2.1 k a b c d e f).trans (h.2.1 k a b c d e f), fun k g => (h2.2.2 k g).trans (h.2.2 k g)⟩
theorem c_kx {x : Int} (h : q_kd x = 2) : x ≠ 33 ∧ x + 1 ≠ 33 ∧ x ≠ 2 ∧ x + 1 ≠ 2 ∧ q_lay x 1 = x + 1 := by
  have h1 := z_k2w h
  refine ⟨fun e => ?_, fun e => ?_, fun e => ?_, fun e => ?_, (z_k2 h).1⟩
  · rw [e] at h; revert h; decide +kernel
  · rw [e] at h1; revert h1; decide +kernel
  · rw [e] at h; revert h; decide +kernel
  · rw [e] at h1; revert h1; decide +kernel
theorem c_fr_33 {x : Int} {M M' : q_Mem} (h : z_f33 M M') (hx : q_kd x = 2) : c_fr x M M' :=
  ⟨fun a g _ _ => h.1 a g, fun k _ _ a b c d => h.2 k a b c d, fun k _ => by rw [h.1 x (c_kx hx).1]⟩
def c_at (bt : Nat → Int) (n : Nat) (x : Int) (s : p_S) (M : q_Mem) : Prop := z_rd M bt n ∧ z_ctk M bt (z_tA bt n (z_P bt n s.1)) (z_tB bt n (z_P bt n s.1)) (z_tK bt n (z_P bt n s.1)) (z_tN bt n (z_P bt n s.1)) ∧ M 33 9 = x ∧ q_kd x = 2 ∧ M x 0 = (s.2.2.2.length : Int) ∧ (∀ k : Nat, k < s.2.2.2.length → M (x + 1) k = z_te (s.2.2.2.getD k 0)) ∧ M 33 0 = 0 ∧ M 33 1 = -1
def c_bad (s : p_S) (M : q_Mem) : Prop := ¬ s.2.1 = 0 ∧ M 33 0 = s.2.1 ∧ M 33 1 = s.2.2.1
theorem c_tn {bt : Nat → Int} {n t : Nat} : z_tB bt n (z_P bt n t) ≤ n := (z_tB_ok (z_P_le t)).2.1
theorem c_key {bt : Nat → Int} {a b : Nat} : z_key bt a b ≤ 19 := by
  have := (z_find_ok (p := fun k => z_wdm bt a b (q_sb (z_kx.getD k 0))) (k := 19) (i := 0)).2.1
  unfold z_key
  omega
theorem c_s6 {bt : Nat → Int} {a b : Nat} {kd nm : Int} {M : q_Mem} (h : z_ctk M bt a b kd nm) : (M 33 6 = 4 ↔ kd = 22) ∧ (M 33 6 = 2 ↔ kd = 20) ∧ (M 33 6 = 0 ↔ kd = 21) ∧ (kd = 20 → M 33 7 = nm ∧ 0 ≤ nm ∧ nm ≤ 999) := by
  have kl := c_key (bt := bt) (a := a) (b := b)
  rcases h.2.2.2.2 with ⟨a1, a2⟩ | ⟨a1, a2⟩ | ⟨a1, a2, a3⟩ | ⟨i, hi, a1, a2, a3⟩ | ⟨a1, a2⟩
  · exact ⟨by omega, by omega, by omega, by omega⟩
  · exact ⟨by omega, by omega, by omega, by omega⟩
  · exact ⟨by omega, by omega, by omega, fun _ => a3⟩
  · exact ⟨by omega, by omega, by omega, by omega⟩
  · exact ⟨by omega, by omega, by omega, by omega⟩
theorem c_is1 {tk : p_T} {k : Int} {s : p_S} (hw : s.2.1 = 0) (h : (tk s.1).1 = k) : p_is tk k s = true := by
  unfold p_is
  rw [decide_eq_true hw, decide_eq_true h]
  rfl
theorem c_is0 {tk : p_T} {k : Int} {s : p_S} (h : ¬ (tk s.1).1 = k) : p_is tk k s = false := by
  unfold p_is
  rw [decide_eq_false h, Bool.and_false]
theorem c_isSign {d : Nat} {M : q_Mem} {K : Int → q_Mem → Prop} {bt : Nat → Int} {n j : Nat} {x c k : Int} {s : p_S} (hd : 0 < d) (hs : c_at bt n x s M) (hw : s.2.1 = 0) (hj : j < 12) (hc : c = (q_sb 19).getD j 0) (hk : k = 30 + (j : Int)) (h1 : p_is (z_tks bt n) k s = true → K 1 M) (h0 : p_is (z_tks bt n) k s = false → K 0 M) : q_kI yX5_isSign mX5_isSign d [qR 33, qI c] M K :=
  k_isSign hd hj hc hs.2.1 (fun g => h1 (c_is1 hw (hk ▸ g))) (fun g => h0 (c_is0 (hk ▸ g)))
theorem c_isWord {d : Nat} {M : q_Mem} {K : Int → q_Mem → Prop} {bt : Nat → Int} {n i : Nat} {x k : Int} {s : p_S} (hd : 4 < d) (hs : c_at bt n x s M) (hw : s.2.1 = 0) (hi : i < 19) (hk : k = (z_kk i : Int)) (h1 : p_is (z_tks bt n) k s = true → K 1 M) (h0 : p_is (z_tks bt n) k s = false → K 0 M) : q_kI yX5_isWord mX5_isWord d [qR 33, qR (-(i : Int) - 1)] M K :=
  k_isWord hd hs.1 hi hs.2.1 c_tn (fun g => h1 (c_is1 hw (hk ▸ g))) (fun g => h0 (c_is0 (hk ▸ g)))
theorem c_adv {d : Nat} {M : q_Mem} {K : q_Mem → Prop} {bt : Nat → Int} {n : Nat} {x : Int} {s : p_S} (hd : 5 < d) (hs : c_at bt n x s M) (h : ∀ M', c_fr x M M' → c_at bt n x (p_go s) M' → K M') : q_kU yX5_advance mX5_advance d [qR 33] M K := by
  have kx := c_kx hs.2.2.2.1
  refine k_advance hd hs.1 c_tn hs.2.1.2.1 (fun M' f t => h M' (c_fr_33 f hs.2.2.2.1) ⟨z_rd_f hs.1 f, t, ?_, hs.2.2.2.1, ?_, ?_, ?_, ?_⟩)
  · rw [f.2 9 (by decide) (by decide) (by decide) (by decide)]; exact hs.2.2.1
  · rw [f.1 x kx.1]; exact hs.2.2.2.2.1
  · rw [f.1 (x + 1) kx.2.1]; exact hs.2.2.2.2.2.1
  · rw [f.2 0 (by decide) (by decide) (by decide) (by decide)]; exact hs.2.2.2.2.2.2.1
  · rw [f.2 1 (by decide) (by decide) (by decide) (by decide)]; exact hs.2.2.2.2.2.2.2
theorem c_ref {d : Nat} {M : q_Mem} {K : Int → q_Mem → Prop} {bt : Nat → Int} {n : Nat} {x f : Int} {s : p_S} (hd : 0 < d) (hs : c_at bt n x s M) (hw : s.2.1 = 0) (hf : f ≠ 0) (h : ∀ M', c_fr x M M' → c_bad (p_fail (z_tks bt n) f s) M' → K 0 M') : q_kI yX5_refuse mX5_refuse d [qR 33, qI f] M K := by
  have kx := c_kx hs.2.2.2.1
  have s6 := c_s6 hs.2.1
  have go : ∀ (v : Int) (M1 M2 : q_Mem), v ≠ 0 → M1 = q_up M 33 0 v → M2 = q_up M1 33 1 (M1 33 4) → v = (if (z_tks bt n s.1).1 = 22 then 1 else f) → K 0 M2 := by
    intro v M1 M2 v0 e1 e2 ev
    refine h M2 ⟨fun a g _ _ => by rw [e2, q_up_o g, e1, q_up_o g], fun k a b _ _ _ _ => by rw [e2, q_up_n b, e1, q_up_n a], fun k _ => by rw [e2, q_up_o kx.1, e1, q_up_o kx.1]⟩ ?_
    unfold p_fail
    rw [if_pos hw]
    refine ⟨?_, ?_, ?_⟩
    · show ¬ (if (z_tks bt n s.1).1 = 22 then (1 : Int) else f) = 0
      rw [← ev]; exact v0
    · rw [e2, q_up_n (by decide), e1, q_up_s]; exact ev
    · rw [e2, q_up_s, e1, q_up_n (by decide)]; exact hs.2.1.1
  refine q_goI hd rfl (plainFor_of_name (by decide +kernel)) rfl (fun h => nomatch h) (Nat.le_of_ble_eq_true rfl) (fun d hd => bX5_refuse_0 _ ⟨fun g M1 e1 M2 e2 => go f M1 M2 hf e1 e2 ?_, fun g M1 e1 M2 e2 => go 1 M1 M2 (by decide) e1 e2 ?_⟩)
  · rw [if_neg (show ¬ (z_tks bt n s.1).1 = 22 from fun q => g (s6.1.mpr q))]
  · rw [if_pos (show (z_tks bt n s.1).1 = 22 from s6.1.mp g)]
theorem c_takeSign {d : Nat} {M : q_Mem} {K : Int → q_Mem → Prop} {bt : Nat → Int} {n j : Nat} {x c k : Int} {s : p_S} (hd : 6 < d) (hs : c_at bt n x s M) (hw : s.2.1 = 0) (hj : j < 12) (hc : c = (q_sb 19).getD j 0) (hk : k = 30 + (j : Int)) (h1 : ∀ M', c_fr x M M' → (p_want (z_tks bt n) k s).2.1 = 0 → c_at bt n x (p_want (z_tks bt n) k s) M' → K 1 M') (h0 : ∀ M', c_fr x M M' → c_bad (p_want (z_tks bt n) k s) M' → K 0 M') : q_kI yX5_takeSign mX5_takeSign d [qR 33, qI c] M K := by
  unfold p_want at h1 h0
  refine q_goI hd rfl (plainFor_of_name (by decide +kernel)) rfl (fun h => nomatch h) (Nat.le_of_ble_eq_true rfl) (fun d hd => bX5_takeSign_0 _ (c_isSign (by omega) hs hw hj hc hk (fun g => ⟨fun _ => c_adv (by omega) hs (fun M' f r => ?_), fun q => absurd q (by decide)⟩) (fun g => ⟨fun q => absurd rfl q, fun _ => c_ref (by omega) hs hw (by decide) (fun M' f r => ⟨Or.inl rfl, ?_⟩)⟩)))
  · rw [if_pos g] at h1
    exact h1 M' f hw r
  · rw [if_neg (by rw [g]; decide)] at h0
    exact h0 M' f r
theorem c_takeWord {d : Nat} {M : q_Mem} {K : Int → q_Mem → Prop} {bt : Nat → Int} {n i : Nat} {x k : Int} {s : p_S} (hd : 6 < d) (hs : c_at bt n x s M) (hw : s.2.1 = 0) (hi : i < 19) (hk : k = (z_kk i : Int)) (h1 : ∀ M', c_fr x M M' → (p_want (z_tks bt n) k s).2.1 = 0 → c_at bt n x (p_want (z_tks bt n) k s) M' → K 1 M') (h0 : ∀ M', c_fr x M M' → c_bad (p_want (z_tks bt n) k s) M' → K 0 M') : q_kI yX5_takeWord mX5_takeWord d [qR 33, qR (-(i : Int) - 1)] M K := by
  unfold p_want at h1 h0
  refine q_goI hd rfl (plainFor_of_name (by decide +kernel)) rfl (fun h => nomatch h) (Nat.le_of_ble_eq_true rfl) (fun d hd => bX5_takeWord_0 i (by omega) (c_isWord (by omega) hs hw hi hk (fun g => ⟨fun _ => c_adv (by omega) hs (fun M' f r => ?_), fun q => absurd q (by decide)⟩) (fun g => ⟨fun q => absurd rfl q, fun _ => c_ref (by omega) hs hw (by decide) (fun M' f r => ⟨Or.inl rfl, ?_⟩)⟩)))
  · rw [if_pos g] at h1
    exact h1 M' f hw r
  · rw [if_neg (by rw [g]; decide)] at h0
    exact h0 M' f r
theorem c_nests {d : Nat} {M : q_Mem} {K : Int → q_Mem → Prop} {bt : Nat → Int} {n c : Nat} {x e : Int} {s : p_S} (hd : 6 < d) (hs : c_at bt n x s M) (hw : s.2.1 = 0) (he : 0 ≤ e ∧ e + (c : Int) = 6) (h1 : ∀ M', c_fr x M M' → 0 < c → p_in (z_tks bt n) c s = p_go s → c_at bt n x (p_go s) M' → K 1 M') (h0 : ∀ M', c_fr x M M' → c_bad (p_in (z_tks bt n) c s) M' → K 0 M') : q_kI yX5_nests mX5_nests d [qR 33, qI e] M K := by
  unfold p_in at h1 h0
  refine q_goI hd rfl (plainFor_of_name (by decide +kernel)) rfl (fun h => nomatch h) (Nat.le_of_ble_eq_true rfl) (fun d hd => bX5_nests_0 _ ⟨fun g => c_adv (by omega) hs (fun M' f r => ?_), fun g => c_ref (by omega) hs hw (by decide) (fun M' f r => ⟨Or.inl rfl, ?_⟩)⟩)
  · rw [if_neg (show ¬ c = 0 by omega), if_pos hw] at h1
    exact h1 M' f (by omega) rfl r
  · rw [if_pos (show c = 0 by omega)] at h0
    exact h0 M' f r
theorem c_add {d : Nat} {M : q_Mem} {K : q_Mem → Prop} {bt : Nat → Int} {n : Nat} {x v c : Int} {s : p_S} (hd : 0 < d) (hs : c_at bt n x s M) (hw : s.2.1 = 0) (hv : v = z_te c) (hl : s.2.2.2.length < 900) (h : ∀ M', c_fr x M M' → (p_code c s).2.1 = 0 → c_at bt n x (p_code c s) M' → K M') : q_kU yX2_add mX2_add d [qR x, qI v] M K := by
  obtain ⟨a1, a2, a3, a4, a5, a6, a7, a8⟩ := hs
  have kx := c_kx a4
  refine q_goU hd rfl (plainFor_of_name (by decide +kernel)) rfl (fun h => nomatch h) (Nat.le_of_ble_eq_true rfl) (fun d hd => bX2_add_0 _ _ a4 ?_)
  rw [a5]
  refine ⟨fun g => absurd g (by omega), fun _ => ⟨by omega, fun M2 e2 M3 e3 => ?_⟩⟩
  rw [kx.2.2.2.2] at e2
  have e20 : M2 x 0 = (s.2.2.2.length : Int) := by rw [e2, q_up_o (by omega)]; exact a5
  rw [e20, q_add_eq (by omega)] at e3
  have ox : ∀ a, a ≠ x → a ≠ x + 1 → M3 a = M a := fun a g g2 => by rw [e3, q_up_o g, e2, q_up_o g2]
  have pc : p_code c s = (s.1, s.2.1, s.2.2.1, s.2.2.2 ++ [c]) := by unfold p_code; rw [if_pos hw]
  refine h M3 ⟨fun a _ g g2 => ox a g g2, fun k _ _ _ _ _ _ => by rw [ox 33 kx.1.symm kx.2.1.symm], fun k g => by rw [e3, q_up_n g, e2, q_up_o (by omega)]⟩ (by rw [pc]; exact hw) ?_
  rw [pc]
  have o33 := ox 33 kx.1.symm kx.2.1.symm
  refine ⟨?_, ?_, by rw [o33]; exact a3, a4, ?_, fun k hk => ?_, by rw [o33]; exact a7, by rw [o33]; exact a8⟩
  · unfold z_rd
    rw [o33, ox 2 kx.2.2.1.symm kx.2.2.2.1.symm]
    exact a1
  · unfold z_ctk
    rw [o33]
    exact a2
  · show M3 x 0 = ((s.2.2.2 ++ [c]).length : Int)
    rw [e3, q_up_s, List.length_append, List.length_singleton]
    omega
  · have hk : k < (s.2.2.2 ++ [c]).length := hk
    rw [List.length_append, List.length_singleton] at hk
    show M3 (x + 1) k = z_te ((s.2.2.2 ++ [c]).getD k 0)
    rw [e3, q_up_o (by omega), e2]
    by_cases q : k = s.2.2.2.length
    · subst q
      rw [q_up_s, hv, List.getD_eq_getElem?_getD, List.getElem?_append_right (Nat.le_refl _), Nat.sub_self]
      rfl
    · rw [q_up_n (by omega), a6 k (by omega), List.getD_eq_getElem?_getD, List.getD_eq_getElem?_getD, List.getElem?_append_left (by omega)]
theorem c_plain {d : Nat} {M : q_Mem} {K : Int → q_Mem → Prop} {bt : Nat → Int} {n : Nat} {x : Int} {s : p_S} (hd : 5 < d) (hs : c_at bt n x s M) (hw : s.2.1 = 0) (h20 : (z_tks bt n s.1).1 = 20 → (0 ≤ (z_tks bt n s.1).2.2 ∧ (z_tks bt n s.1).2.2 ≤ 999) → K (z_tks bt n s.1).2.2 M) (hwd : (z_tks bt n s.1).1 ≠ 20 → p_wd (z_tks bt n s.1).1 ≠ -1 → (0 ≤ p_wd (z_tks bt n s.1).1 ∧ p_wd (z_tks bt n s.1).1 ≤ 4) → K (-1 - p_wd (z_tks bt n s.1).1) M) (h15 : (z_tks bt n s.1).1 ≠ 20 → p_wd (z_tks bt n s.1).1 = -1 → K (-15) M) : q_kI yX5_plainAtom mX5_plainAtom d [qR 33] M K := by
  have s6 := c_s6 hs.2.1
  have nf : ∀ {k : Int}, p_is (z_tks bt n) k s = false → ¬ (z_tks bt n s.1).1 = k := fun {k} g g3 => by
    unfold p_is at g
    rw [decide_eq_true hw, decide_eq_true g3] at g
    exact absurd g (by decide)
  have yes : ∀ {k : Int}, p_is (z_tks bt n) k s = true → (z_tks bt n s.1).1 = k := fun {k} g => by
    unfold p_is at g
    rw [Bool.and_eq_true, decide_eq_true_eq, decide_eq_true_eq] at g
    exact g.2
  refine q_goI hd rfl (plainFor_of_name (by decide +kernel)) rfl (fun h => nomatch h) (Nat.le_of_ble_eq_true rfl) (fun d hd => bX5_plainAtom_0 ⟨fun g => ?_, fun g => ?_⟩)
  · have n20 : (z_tks bt n s.1).1 ≠ 20 := fun q => g (s6.2.1.mpr q)
    have W : ∀ {k v : Int}, p_is (z_tks bt n) k s = true → p_wd k = v → (0 ≤ v ∧ v ≤ 4) → K (-1 - v) M := fun {k v} g2 e vb => by
      have ek := yes g2
      have := hwd n20 (by rw [ek, e]; omega) (by rw [ek, e]; exact vb)
      rw [ek, e] at this
      exact this
    refine c_isWord (by omega) hs hw (by decide) (k := 13) rfl (fun g2 => ⟨fun q => absurd q (by decide), fun _ => W g2 (v := 0) (by decide) (by decide)⟩) (fun g2 => ⟨fun _ => ?_, fun q => absurd rfl q⟩)
    refine c_isWord (by omega) hs hw (by decide) (k := 14) rfl (fun g3 => ⟨fun q => absurd q (by decide), fun _ => W g3 (v := 1) (by decide) (by decide)⟩) (fun g3 => ⟨fun _ => ?_, fun q => absurd rfl q⟩)
    refine c_isWord (by omega) hs hw (by decide) (k := 15) rfl (fun g4 => ⟨fun q => absurd q (by decide), fun _ => W g4 (v := 2) (by decide) (by decide)⟩) (fun g4 => ⟨fun _ => ?_, fun q => absurd rfl q⟩)
    refine c_isWord (by omega) hs hw (by decide) (k := 3) rfl (fun g5 => ⟨fun q => absurd q (by decide), fun _ => W g5 (v := 3) (by decide) (by decide)⟩) (fun g5 => ⟨fun _ => ?_, fun q => absurd rfl q⟩)
    refine c_isWord (by omega) hs hw (by decide) (k := 1) rfl (fun g6 => ⟨fun q => absurd q (by decide), fun _ => W g6 (v := 4) (by decide) (by decide)⟩) (fun g6 => ⟨fun _ => ?_, fun q => absurd rfl q⟩)
    refine h15 n20 ?_
    unfold p_wd
    rw [if_neg (nf g2), if_neg (nf g3), if_neg (nf g4), if_neg (nf g5), if_neg (nf g6)]
  · have k20 := s6.2.1.mp g
    have := s6.2.2.2 k20
    rw [this.1]
    exact h20 k20 this.2
