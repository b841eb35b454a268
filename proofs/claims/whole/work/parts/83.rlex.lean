-- the reference's tokens
def z_rt (M : q_Mem) (bt : Nat → Int) (n : Nat) : Prop := M 178 10 = (n : Int) ∧ n ≤ 900 ∧ ∀ j : Nat, j < n → M 181 j = bt j ∧ 0 ≤ bt j ∧ bt j ≤ 255
theorem z_rt_f {S F : List Int} {M M' : q_Mem} {bt : Nat → Int} {n : Nat} (h : z_rt M bt n) (f : z_fr S F M M') (h1 : (181 : Int) ∉ S) (h2 : (10 : Int) ∉ F) : z_rt M' bt n := by
  unfold z_rt
  rw [f.2 10 h2, f.1 181 h1 (by decide)]
  exact h
abbrev z_KF : List Int := [8, 9, 11, 12]
def z_rtk (M : q_Mem) (a b : Nat) (kd nm : Int) : Prop := M 178 8 = (a : Int) ∧ M 178 9 = (b : Int) ∧ M 178 11 = kd ∧ (kd = 20 → M 178 12 = nm ∧ 0 ≤ nm ∧ nm ≤ 999) ∧ a ≤ b ∧ b ≤ 900
theorem k_see {d : Nat} {M : q_Mem} {K : Int → q_Mem → Prop} {bt : Nat → Int} {n j : Nat} (hd : 0 < d) (hr : z_rt M bt n) (h : K (if j < n then bt j else -1) M) : q_kI yX12_see mX12_see d [qR 178, qI (j : Int)] M K := by
  obtain ⟨h1, h9, hb⟩ := hr
  refine q_goI hd rfl (plainFor_of_name (by decide +kernel)) rfl (fun h => nomatch h) (Nat.le_of_ble_eq_true rfl) (fun d hd => bX12_see_0 _ ?_)
  rw [h1]
  refine ⟨fun g => ?_, fun g => ⟨by omega, ?_⟩⟩
  · rw [if_neg (by omega)] at h; exact h
  · rw [if_pos (by omega)] at h
    rw [(hb j (by omega)).1]; exact h
theorem k_isSmall {d : Nat} {M : q_Mem} {K : Int → q_Mem → Prop} {c : Int} (hd : 0 < d) (h : K (if z_sml c then 1 else 0) M) : q_kI yX12_isSmall mX12_isSmall d [qI c] M K := by
  unfold z_sml at h
  refine q_goI hd rfl (plainFor_of_name (by decide +kernel)) rfl (fun h => nomatch h) (Nat.le_of_ble_eq_true rfl) (fun d hd => bX12_isSmall_0 _ ⟨fun g => ?_, fun g => ⟨fun g2 => ?_, fun g2 => ?_⟩⟩)
  · rw [if_neg (by simp; omega)] at h; exact h
  · rw [if_neg (by simp; omega)] at h; exact h
  · rw [if_pos (by simp; omega)] at h; exact h
theorem k_risDigit {d : Nat} {M : q_Mem} {K : Int → q_Mem → Prop} {c : Int} (hd : 0 < d) (h : K (if z_dgt c then 1 else 0) M) : q_kI yX12_isDigit mX12_isDigit d [qI c] M K := by
  unfold z_dgt at h
  refine q_goI hd rfl (plainFor_of_name (by decide +kernel)) rfl (fun h => nomatch h) (Nat.le_of_ble_eq_true rfl) (fun d hd => bX12_isDigit_0 _ ⟨fun g => ?_, fun g => ⟨fun g2 => ?_, fun g2 => ?_⟩⟩)
  · rw [if_neg (by simp; omega)] at h; exact h
  · rw [if_neg (by simp; omega)] at h; exact h
  · rw [if_pos (by simp; omega)] at h; exact h
def z_wn (n : Nat) : List Int := q_sb (z_kx.getD n 0)
/-- where each word begins in the row of words -/
def z_of : Nat → Nat
  | 0 => 1
  | n + 1 => z_of n + (q_sb (z_kx.getD n 0)).length + 1
theorem z_of_ok : ∀ n : Nat, n < 19 → (z_of n + (z_wn n).length < (q_sb 20).length ∧ (q_sb 20).getD (z_of n + (z_wn n).length) 0 = 32) ∧ ∀ i : Nat, i < (z_wn n).length → (q_sb 20).getD (z_of n + i) 0 = (z_wn n).getD i 0 ∧ ¬ (q_sb 20).getD (z_of n + i) 0 = 32 := by decide +kernel
theorem z_of_19 : z_of 19 = (q_sb 20).length ∧ (q_sb 20).length < 200 := by decide +kernel
theorem z_of_le : ∀ n : Nat, n < 20 → z_of n ≤ (q_sb 20).length := by decide +kernel
theorem l_key97 {d : Nat} {M : q_Mem} {K : Int → q_Mem → Prop} {n : Nat} (hd : 4 ≤ d) (hn : n < 19) (h : q_v mX12_keyAt d (qPI K) M 4 [some (qR 178), some (qI ((n + 1 : Nat) : Int)), some (qI ((z_of (n + 1) : Nat) : Int)), none] []) :
    ∀ (j i : Nat), i + j = (z_wn n).length → q_v mX12_keyAt d (qPI K) M 97 [some (qR 178), some (qI (n : Int)), some (qI ((z_of n + i : Nat) : Int)), none] [] := by
  have ok := z_of_ok n hn
  have l200 := z_of_19.2
  intro j
  induction j with
  | zero =>
    intro i e
    have ei : i = (z_wn n).length := by omega
    subst ei
    refine bX12_keyAt_97 _ _ (k_charAt (by omega) (by omega) (by omega) (by omega) ?_)
    rw [Int.toNat_natCast, ok.1.2, q_add_eq (a := (n : Int)) (by omega), q_add_eq (by omega), show (n : Int) + 1 = ((n + 1 : Nat) : Int) by omega, show ((z_of n + (z_wn n).length : Nat) : Int) + 1 = ((z_of (n + 1) : Nat) : Int) by show _ = ((z_of n + (z_wn n).length + 1 : Nat) : Int); omega]
    exact ⟨fun _ => h, fun g => absurd rfl g⟩
  | succ j ih =>
    intro i e
    refine bX12_keyAt_97 _ _ (k_charAt (by omega) (by omega) (by omega) (by omega) ?_)
    rw [Int.toNat_natCast, q_add_eq (a := ((z_of n + i : Nat) : Int)) (by omega), show ((z_of n + i : Nat) : Int) + 1 = ((z_of n + (i + 1) : Nat) : Int) by omega]
    exact ⟨fun g => absurd g (ok.2 i (by omega)).2, fun _ => ih (i + 1) (by omega)⟩
theorem l_key15 {d : Nat} {M : q_Mem} {K : Int → q_Mem → Prop} {bt : Nat → Int} {N n a b : Nat} (hd : 4 ≤ d) (hn : n < 19) (hr : z_rt M bt N) (hbN : b ≤ N) (hab : a ≤ b) (h8 : M 178 8 = (a : Int)) (h9 : M 178 9 = (b : Int)) (hy : z_wdm bt a b (z_wn n) = true → K (n : Int) M) (hno : z_wdm bt a b (z_wn n) = false → q_v mX12_keyAt d (qPI K) M 4 [some (qR 178), some (qI ((n + 1 : Nat) : Int)), some (qI ((z_of (n + 1) : Nat) : Int)), none] []) :
    ∀ (j i : Nat), i + j = (z_wn n).length → a + i ≤ b → (∀ x : Nat, x < i → bt (a + x) = (z_wn n).getD x 0) → q_v mX12_keyAt d (qPI K) M 15 [some (qR 178), some (qI (n : Int)), some (qI ((z_of n : Nat) : Int)), some (qI (i : Int))] [] := by
  have ok := z_of_ok n hn
  have l200 := z_of_19.2
  have N9 := hr.2.1
  have all : ∀ k, (∀ x : Nat, x < k → bt (a + x) = (z_wn n).getD x 0) → z_alb (fun j => decide (bt (a + j) = (z_wn n).getD j 0)) k = true := fun k => by
    induction k with
    | zero => intro _; rfl
    | succ k ih =>
      intro q
      show (z_alb (fun j => decide (bt (a + j) = (z_wn n).getD j 0)) k && decide (bt (a + k) = (z_wn n).getD k 0)) = true
      rw [ih (fun x hx => q x (by omega)), q k (by omega)]
      simp
  have out : ∀ i, i ≤ (z_wn n).length → (¬ (i = (z_wn n).length ∧ a + i = b) → z_wdm bt a b (z_wn n) = false) → (i = (z_wn n).length → a + i = b → z_wdm bt a b (z_wn n) = true) → a + i ≤ b → q_v mX12_keyAt d (qPI K) M 69 [some (qR 178), some (qI (n : Int)), some (qI ((z_of n : Nat) : Int)), some (qI (i : Int))] [] := by
    intro i hi w0 w1 hib
    have go97 : z_wdm bt a b (z_wn n) = false → q_v mX12_keyAt d (qPI K) M 97 [some (qR 178), some (qI (n : Int)), some (qI ((z_of n : Nat) : Int)), none] [] := fun w => by
      have := l_key97 hd hn (hno w) (z_wn n).length 0 (by omega)
      rw [Nat.add_zero] at this
      exact this
    refine bX12_keyAt_69 _ _ _ ?_
    rw [q_add_eq (a := ((z_of n : Nat) : Int)) (by omega), show ((z_of n : Nat) : Int) + (i : Int) = ((z_of n + i : Nat) : Int) by omega]
    refine k_charAt (by omega) (by omega) (by omega) (by omega) ?_
    rw [Int.toNat_natCast]
    by_cases c : i = (z_wn n).length
    · subst c
      rw [ok.1.2]
      refine ⟨fun g => absurd rfl g, fun _ => ?_⟩
      rw [h8, h9, q_add_eq (by omega)]
      refine ⟨fun g => go97 (w0 (fun q => g (by omega))), fun g => hy (w1 rfl (by omega))⟩
    · exact ⟨fun _ => go97 (w0 (fun q => c q.1)), fun g => absurd g (ok.2 i (by omega)).2⟩
  intro j
  induction j with
  | zero =>
    intro i e hib q
    have ei : i = (z_wn n).length := by omega
    refine bX12_keyAt_15 _ _ _ ?_
    rw [q_add_eq (a := ((z_of n : Nat) : Int)) (by omega), show ((z_of n : Nat) : Int) + (i : Int) = ((z_of n + i : Nat) : Int) by omega]
    refine k_charAt (by omega) (by omega) (by omega) (by omega) ?_
    rw [Int.toNat_natCast, ei, ok.1.2]
    refine ⟨fun _ => ?_, fun g => absurd rfl g⟩
    rw [← ei]
    refine out i (by omega) (fun g => ?_) (fun _ g => ?_) hib
    · unfold z_wdm
      rw [decide_eq_false (fun q2 => g ⟨ei, by omega⟩), Bool.false_and]
    · unfold z_wdm
      rw [decide_eq_true (by omega), ← ei, all i q]
      rfl
  | succ j ih =>
    intro i e hib q
    refine bX12_keyAt_15 _ _ _ ?_
    rw [q_add_eq (a := ((z_of n : Nat) : Int)) (by omega), show ((z_of n : Nat) : Int) + (i : Int) = ((z_of n + i : Nat) : Int) by omega]
    refine k_charAt (by omega) (by omega) (by omega) (by omega) ?_
    rw [Int.toNat_natCast]
    refine ⟨fun g => absurd g (ok.2 i (by omega)).2, fun _ => ?_⟩
    rw [h8, h9, q_add_eq (a := (a : Int)) (by omega)]
    refine ⟨fun g => ?_, fun g => ⟨by omega, k_charAt (by omega) (by omega) (by omega) (by omega) ?_⟩⟩
    · refine out i (by omega) (fun _ => ?_) (fun g2 => by omega) hib
      unfold z_wdm
      rw [decide_eq_false (by omega), Bool.false_and]
    · rw [Int.toNat_natCast, (ok.2 i (by omega)).1, show (a : Int) + (i : Int) = ((a + i : Nat) : Int) by omega, (hr.2.2 (a + i) (by omega)).1, q_add_eq (by omega), show (i : Int) + 1 = ((i + 1 : Nat) : Int) by omega]
      refine ⟨fun g2 => ?_, fun g2 => ih (i + 1) (by omega) (by omega) (fun x hx => ?_)⟩
      · refine out i (by omega) (fun _ => ?_) (fun g3 => by omega) hib
        unfold z_wdm
        rw [z_alb_no (i := i) (by omega) (by simpa using g2), Bool.and_false]
      · by_cases c : x = i
        · subst c; exact g2
        · exact q x (by omega)
theorem l_key4 {d : Nat} {M : q_Mem} {K : Int → q_Mem → Prop} {bt : Nat → Int} {N a b : Nat} (hd : 4 ≤ d) (hr : z_rt M bt N) (hbN : b ≤ N) (hab : a ≤ b) (h8 : M 178 8 = (a : Int)) (h9 : M 178 9 = (b : Int)) (h : K (z_key bt a b : Int) M) :
    ∀ (j n : Nat), n + j = 19 → z_find (fun k => z_wdm bt a b (z_wn k)) j n = z_key bt a b → q_v mX12_keyAt d (qPI K) M 4 [some (qR 178), some (qI (n : Int)), some (qI ((z_of n : Nat) : Int)), none] [] := by
  have l200 := z_of_19.2
  intro j
  induction j with
  | zero =>
    intro n e q
    have en : n = 19 := by omega
    subst en
    have q : 19 = z_key bt a b := q
    refine bX12_keyAt_4 _ _ (k_len (by omega) (by omega) ⟨fun _ => ?_, fun g => absurd (by have := z_of_19.1; omega) g⟩)
    rw [← q] at h
    exact h
  | succ j ih =>
    intro n e q
    have ok := z_of_ok n (by omega)
    refine bX12_keyAt_4 _ _ (k_len (by omega) (by omega) ⟨fun g => absurd g (by omega), fun _ => ?_⟩)
    refine l_key15 hd (by omega) hr hbN hab h8 h9 (fun w => ?_) (fun w => ?_) (z_wn n).length 0 (by omega) (by omega) (fun x hx => by omega)
    · rw [z_find_h w] at q
      rw [← q] at h
      exact h
    · rw [z_find_s w] at q
      exact ih (n + 1) (by omega) q
theorem k_keyAt {d : Nat} {M : q_Mem} {K : Int → q_Mem → Prop} {bt : Nat → Int} {N a b : Nat} (hd : 4 < d) (hr : z_rt M bt N) (hbN : b ≤ N) (hab : a ≤ b) (h8 : M 178 8 = (a : Int)) (h9 : M 178 9 = (b : Int)) (h : K (z_key bt a b : Int) M) : q_kI yX12_keyAt mX12_keyAt d [qR 178] M K :=
  q_goI hd rfl (plainFor_of_name (by decide +kernel)) rfl (fun h => nomatch h) (Nat.le_of_ble_eq_true rfl) (fun d hd => bX12_keyAt_0 (l_key4 hd hr hbN hab h8 h9 h 19 0 (by omega) rfl))
