-- tokens: what they are; the class's
theorem z_find_ok {p : Nat → Bool} : ∀ {k i : Nat}, i ≤ z_find p k i ∧ z_find p k i ≤ i + k ∧ (∀ m, i ≤ m → m < z_find p k i → p m = false) ∧ (z_find p k i < i + k → p (z_find p k i) = true)
  | 0, i => ⟨Nat.le_refl _, Nat.le_refl _, fun m a b => absurd b (by show ¬ m < i; omega), fun h => absurd h (by show ¬ i < i + 0; omega)⟩
  | k + 1, i => by
    have ih := z_find_ok (p := p) (k := k) (i := i + 1)
    unfold z_find
    by_cases c : p i = true
    · rw [if_pos c]
      exact ⟨Nat.le_refl _, by omega, fun m a b => by omega, fun _ => c⟩
    · rw [if_neg c]
      refine ⟨by omega, by omega, fun m a b => ?_, fun h => ih.2.2.2 (by omega)⟩
      by_cases e : m = i
      · subst e; simpa using c
      · exact ih.2.2.1 m (by omega) b
theorem z_find_s {p : Nat → Bool} {k i : Nat} (h : p i = false) : z_find p (k + 1) i = z_find p k (i + 1) := by
  show (if p i then i else z_find p k (i + 1)) = _
  rw [h]
  rfl
theorem z_find_h {p : Nat → Bool} {k i : Nat} (h : p i = true) : z_find p (k + 1) i = i := by
  show (if p i then i else z_find p k (i + 1)) = _
  rw [h]
  rfl
def z_blk (c : Int) : Bool := decide (c = 10) || decide (c = 32)
def z_sml (c : Int) : Bool := decide (97 ≤ c) && decide (c ≤ 122)
def z_dgt (c : Int) : Bool := decide (48 ≤ c) && decide (c ≤ 57)
def z_wdm (bt : Nat → Int) (a b : Nat) (w : List Int) : Bool := decide (b - a = w.length) && z_alb (fun j => decide (bt (a + j) = w.getD j 0)) w.length
def z_kx : List Nat := [0, 1, 2, 3, 8, 7, 4, 5, 6, 9, 13, 14, 15, 10, 11, 12, 17, 16, 18]
def z_key (bt : Nat → Int) (a b : Nat) : Nat := z_find (fun k => z_wdm bt a b (q_sb (z_kx.getD k 0))) 19 0
def z_sgn (c : Int) : Int := if z_find (fun j => decide ((q_sb 19).getD j 0 = c)) 12 0 < 12 then 30 + (z_find (fun j => decide ((q_sb 19).getD j 0 = c)) 12 0 : Int) else 22
def z_nv (bt : Nat → Int) (a : Nat) : Nat → Int
  | 0 => 0
  | k + 1 => if k < 3 then 10 * z_nv bt a k + bt (a + k) - 48 else z_nv bt a k
def z_tA (bt : Nat → Int) (n p : Nat) : Nat := z_find (fun j => !z_blk (bt j)) (n - p) p
def z_tB (bt : Nat → Int) (n p : Nat) : Nat := if n ≤ z_tA bt n p then z_tA bt n p else if z_sml (bt (z_tA bt n p)) then z_find (fun j => !z_sml (bt j)) (n - z_tA bt n p) (z_tA bt n p) else if z_dgt (bt (z_tA bt n p)) then z_find (fun j => !z_dgt (bt j)) (n - z_tA bt n p) (z_tA bt n p) else z_tA bt n p + 1
def z_tK (bt : Nat → Int) (n p : Nat) : Int := if n ≤ z_tA bt n p then 21 else if z_sml (bt (z_tA bt n p)) then (z_key bt (z_tA bt n p) (z_tB bt n p) : Int) else if z_dgt (bt (z_tA bt n p)) then (if 3 < z_tB bt n p - z_tA bt n p then 22 else 20) else z_sgn (bt (z_tA bt n p))
def z_tN (bt : Nat → Int) (n p : Nat) : Int := z_nv bt (z_tA bt n p) (z_tB bt n p - z_tA bt n p)
theorem z_tA_ok {bt : Nat → Int} {n p : Nat} (h : p ≤ n) : p ≤ z_tA bt n p ∧ z_tA bt n p ≤ n := by
  have := z_find_ok (p := fun j => !z_blk (bt j)) (k := n - p) (i := p)
  unfold z_tA
  omega
theorem z_tB_ok {bt : Nat → Int} {n p : Nat} (h : p ≤ n) : z_tA bt n p ≤ z_tB bt n p ∧ z_tB bt n p ≤ n ∧ (z_tK bt n p ≠ 21 → p < z_tB bt n p) := by
  have a := z_tA_ok (bt := bt) h
  unfold z_tB z_tK
  by_cases c : n ≤ z_tA bt n p
  · rw [if_pos c, if_pos c]
    exact ⟨Nat.le_refl _, by omega, fun g => absurd rfl g⟩
  · rw [if_neg c]
    have f1 := z_find_ok (p := fun j => !z_sml (bt j)) (k := n - z_tA bt n p) (i := z_tA bt n p)
    have f2 := z_find_ok (p := fun j => !z_dgt (bt j)) (k := n - z_tA bt n p) (i := z_tA bt n p)
    by_cases c1 : z_sml (bt (z_tA bt n p)) = true
    · rw [if_pos c1]
      refine ⟨f1.1, by omega, fun _ => ?_⟩
      by_cases e : z_find (fun j => !z_sml (bt j)) (n - z_tA bt n p) (z_tA bt n p) = z_tA bt n p
      · have := f1.2.2.2 (by omega)
        rw [e] at this
        simp [c1] at this
      · omega
    · rw [if_neg c1]
      by_cases c2 : z_dgt (bt (z_tA bt n p)) = true
      · rw [if_pos c2]
        refine ⟨f2.1, by omega, fun _ => ?_⟩
        by_cases e : z_find (fun j => !z_dgt (bt j)) (n - z_tA bt n p) (z_tA bt n p) = z_tA bt n p
        · have := f2.2.2.2 (by omega)
          rw [e] at this
          simp [c2] at this
        · omega
      · rw [if_neg c2]
        exact ⟨by omega, by omega, fun _ => by omega⟩
/-- the class reads these bytes -/
def z_rd (M : q_Mem) (bt : Nat → Int) (n : Nat) : Prop := M 33 2 = 2 ∧ M 33 3 = (n : Int) ∧ n ≤ 900 ∧ ∀ j : Nat, j < n → q_and (M 2 j) 255 = bt j ∧ 0 ≤ bt j ∧ bt j ≤ 255
def z_f33 (M M' : q_Mem) : Prop := (∀ a, a ≠ 33 → M' a = M a) ∧ ∀ k, k ≠ 4 → k ≠ 5 → k ≠ 6 → k ≠ 7 → M' 33 k = M 33 k
theorem z_f33_rf {M : q_Mem} : z_f33 M M := ⟨fun _ _ => rfl, fun _ _ _ _ _ => rfl⟩
theorem z_f33_tr {M M' M'' : q_Mem} (h : z_f33 M M') (h2 : z_f33 M' M'') : z_f33 M M'' := ⟨fun a g => (h2.1 a g).trans (h.1 a g), fun k a b c d => (h2.2 k a b c d).trans (h.2 k a b c d)⟩
theorem z_f33_u {M0 M M2 : q_Mem} {k v : Int} (f : z_f33 M0 M) (e : M2 = q_up M 33 k v) (h : k = 4 ∨ k = 5 ∨ k = 6 ∨ k = 7) : z_f33 M0 M2 :=
  z_f33_tr f ⟨fun a g => by rw [e, q_up_o g], fun j a b c d => by rw [e, q_up_n (by omega)]⟩
theorem z_rd_f {M M' : q_Mem} {bt : Nat → Int} {n : Nat} (h : z_rd M bt n) (f : z_f33 M M') : z_rd M' bt n := by
  unfold z_rd
  rw [f.2 2 (by decide) (by decide) (by decide) (by decide), f.2 3 (by decide) (by decide) (by decide) (by decide), f.1 2 (by decide)]
  exact h
theorem k_byteAt {d : Nat} {M : q_Mem} {K : Int → q_Mem → Prop} {bt : Nat → Int} {n j : Nat} (hd : 0 < d) (hr : z_rd M bt n) (h : K (if j < n then bt j else -1) M) : q_kI yX5_byteAt mX5_byteAt d [qR 33, qI (j : Int)] M K := by
  obtain ⟨h2, h3, h9, hb⟩ := hr
  refine q_goI hd rfl (plainFor_of_name (by decide +kernel)) rfl (fun h => nomatch h) (Nat.le_of_ble_eq_true rfl) (fun d hd => bX5_byteAt_0 _ ⟨fun g => absurd g (by omega), fun _ => ?_⟩)
  rw [h2, h3]
  refine ⟨fun g => ?_, fun g => ⟨by decide +kernel, by rw [show q_ln 2 = 900 by decide +kernel]; omega, ?_⟩⟩
  · rw [if_neg (by omega)] at h; exact h
  · rw [if_pos (by omega)] at h
    rw [(hb j (by omega)).1]; exact h
theorem k_isBlank {d : Nat} {M : q_Mem} {K : Int → q_Mem → Prop} {c : Int} (hd : 0 < d) (h : K (if z_blk c then 1 else 0) M) : q_kI yX5_isBlank mX5_isBlank d [qI c] M K := by
  unfold z_blk at h
  refine q_goI hd rfl (plainFor_of_name (by decide +kernel)) rfl (fun h => nomatch h) (Nat.le_of_ble_eq_true rfl) (fun d hd => bX5_isBlank_0 _ ⟨fun g => ?_, fun g => ⟨fun g2 => ?_, fun g2 => ?_⟩⟩)
  · simp [g] at h; exact h
  · simp [g, g2] at h; exact h
  · simp [g2] at h; exact h
theorem k_isLetter {d : Nat} {M : q_Mem} {K : Int → q_Mem → Prop} {c : Int} (hd : 0 < d) (h : K (if z_sml c then 1 else 0) M) : q_kI yX5_isLetter mX5_isLetter d [qI c] M K := by
  unfold z_sml at h
  refine q_goI hd rfl (plainFor_of_name (by decide +kernel)) rfl (fun h => nomatch h) (Nat.le_of_ble_eq_true rfl) (fun d hd => bX5_isLetter_0 _ ⟨fun g => ?_, fun g => ⟨fun g2 => ?_, fun g2 => ?_⟩⟩)
  · rw [if_neg (by simp; omega)] at h; exact h
  · rw [if_neg (by simp; omega)] at h; exact h
  · rw [if_pos (by simp; omega)] at h; exact h
theorem k_cisDigit {d : Nat} {M : q_Mem} {K : Int → q_Mem → Prop} {c : Int} (hd : 0 < d) (h : K (if z_dgt c then 1 else 0) M) : q_kI yX5_isDigit mX5_isDigit d [qI c] M K := by
  unfold z_dgt at h
  refine q_goI hd rfl (plainFor_of_name (by decide +kernel)) rfl (fun h => nomatch h) (Nat.le_of_ble_eq_true rfl) (fun d hd => bX5_isDigit_0 _ ⟨fun g => ?_, fun g => ⟨fun g2 => ?_, fun g2 => ?_⟩⟩)
  · rw [if_neg (by simp; omega)] at h; exact h
  · rw [if_neg (by simp; omega)] at h; exact h
  · rw [if_pos (by simp; omega)] at h; exact h
/-- the class's token -/
def z_ctk (M : q_Mem) (bt : Nat → Int) (a b : Nat) (kd nm : Int) : Prop := M 33 4 = (a : Int) ∧ M 33 5 = (b : Int) ∧ a ≤ b ∧ b ≤ 900 ∧ ((kd = 21 ∧ M 33 6 = 0) ∨ (kd = (z_key bt a b : Int) ∧ M 33 6 = 1) ∨ (kd = 20 ∧ M 33 6 = 2 ∧ M 33 7 = nm ∧ 0 ≤ nm ∧ nm ≤ 999) ∨ (∃ j : Nat, j < 12 ∧ kd = 30 + (j : Int) ∧ M 33 6 = 3 ∧ M 33 7 = (q_sb 19).getD j 0) ∨ (kd = 22 ∧ M 33 6 = 4))
theorem l_pw {d : Nat} {M0 : q_Mem} {K : q_Mem → Prop} {bt : Nat → Int} {n : Nat} (hd : 1 ≤ d) (hr : z_rd M0 bt n) {E : Nat} (h : ∀ M', z_f33 M0 M' → M' 33 4 = M0 33 4 → M' 33 6 = M0 33 6 → M' 33 5 = (E : Int) → K M') :
    ∀ (j i : Nat) (M : q_Mem), i + j = n → z_f33 M0 M → M 33 4 = M0 33 4 → M 33 6 = M0 33 6 → M 33 5 = (i : Int) → z_find (fun x => !z_sml (bt x)) j i = E → q_v mX5_passWord d (qPU K) M 5 [some (qR 33)] [] := by
  intro j
  induction j with
  | zero =>
    intro i M e f h4 h6 h5 q
    have q : i = E := q
    refine bX5_passWord_5 ?_
    rw [(z_rd_f hr f).2.1, h5]
    exact ⟨fun _ => h M f h4 h6 (by rw [h5, q]), fun g => absurd (by omega) g⟩
  | succ j ih =>
    intro i M e f h4 h6 h5 q
    have rd := z_rd_f hr f
    refine bX5_passWord_5 ?_
    rw [rd.2.1, h5]
    refine ⟨fun g => absurd g (by omega), fun _ => k_byteAt (by omega) rd (k_isLetter (by omega) ?_)⟩
    rw [if_pos (show i < n by omega), h5, q_add_eq (by have := rd.2.2.1; omega), show (i : Int) + 1 = ((i + 1 : Nat) : Int) by omega]
    cases c : z_sml (bt i) with
    | true =>
      rw [z_find_s (by simp [c])] at q
      exact ⟨fun g => absurd g (by decide), fun _ M5 e5 => ih (i + 1) M5 (by omega) (z_f33_u f e5 (by omega)) (by rw [e5, q_up_n (by decide)]; exact h4) (by rw [e5, q_up_n (by decide)]; exact h6) (by rw [e5, q_up_s]) q⟩
    | false =>
      rw [z_find_h (by simp [c])] at q
      exact ⟨fun _ => h M f h4 h6 (by rw [h5, q]), fun g => absurd rfl g⟩
theorem z_nv_s {bt : Nat → Int} {a : Nat} : ∀ {m k : Nat}, 3 ≤ k → k ≤ m → z_nv bt a m = z_nv bt a k
  | 0, k, h1, h2 => by omega
  | m + 1, k, h1, h2 => by
    by_cases e : k = m + 1
    · rw [e]
    · show (if m < 3 then 10 * z_nv bt a m + bt (a + m) - 48 else z_nv bt a m) = _
      rw [if_neg (by omega)]
      exact z_nv_s h1 (by omega)
theorem l_pn {d : Nat} {M0 : q_Mem} {K : q_Mem → Prop} {bt : Nat → Int} {n a : Nat} (hd : 1 ≤ d) (hr : z_rd M0 bt n) {E : Nat} (ha : M0 33 4 = (a : Int)) (h : ∀ M', z_f33 M0 M' → M' 33 4 = (a : Int) → M' 33 5 = (E : Int) → M' 33 7 = z_nv bt a (E - a) → M' 33 6 = (if 3 < E - a then 4 else 2) → a ≤ E → (0 ≤ z_nv bt a (E - a) ∧ z_nv bt a (E - a) ≤ 999) → K M') :
    ∀ (j i : Nat) (M : q_Mem), i + j = n → a ≤ i → z_f33 M0 M → M 33 4 = (a : Int) → M 33 5 = (i : Int) → M 33 7 = z_nv bt a (i - a) → (0 ≤ z_nv bt a (i - a) ∧ z_nv bt a (i - a) ≤ 999 ∧ (i - a < 3 → z_nv bt a (i - a) ≤ 99) ∧ (i - a < 2 → z_nv bt a (i - a) ≤ 9)) → (i = a → z_nv bt a (i - a) = 0) → z_find (fun x => !z_dgt (bt x)) j i = E → q_v mX5_passNumber d (qPU K) M 5 [some (qR 33)] [] := by
  have last : ∀ (M : q_Mem), z_f33 M0 M → M 33 4 = (a : Int) → M 33 5 = (E : Int) → M 33 7 = z_nv bt a (E - a) → a ≤ E → E ≤ n → (0 ≤ z_nv bt a (E - a) ∧ z_nv bt a (E - a) ≤ 999) → q_v mX5_passNumber d (qPU K) M 79 [some (qR 33)] [] := by
    intro M f h4 h5 h7 ae en nb
    have n9 := hr.2.2.1
    refine bX5_passNumber_79 ?_
    rw [h4, h5, q_sub_eq (by omega)]
    refine ⟨fun g M1 e1 => ?_, fun g M1 e1 => ?_⟩
    · exact h M1 (z_f33_u f e1 (by omega)) (by rw [e1, q_up_n (by decide)]; exact h4) (by rw [e1, q_up_n (by decide)]; exact h5) (by rw [e1, q_up_n (by decide)]; exact h7) (by rw [e1, q_up_s, if_neg (by omega)]) ae nb
    · exact h M1 (z_f33_u f e1 (by omega)) (by rw [e1, q_up_n (by decide)]; exact h4) (by rw [e1, q_up_n (by decide)]; exact h5) (by rw [e1, q_up_n (by decide)]; exact h7) (by rw [e1, q_up_s, if_pos (by omega)]) ae nb
  intro j
  induction j with
  | zero =>
    intro i M e ai f h4 h5 h7 hb h0 q
    have q : i = E := q
    subst q
    refine bX5_passNumber_5 ?_
    rw [(z_rd_f hr f).2.1, h5]
    exact ⟨fun _ => last M f h4 h5 h7 ai (by omega) ⟨hb.1, hb.2.1⟩, fun g => absurd (by omega) g⟩
  | succ j ih =>
    intro i M e ai f h4 h5 h7 hb h0 q
    have rd := z_rd_f hr f
    have n9 := rd.2.2.1
    refine bX5_passNumber_5 ?_
    rw [rd.2.1, h5]
    refine ⟨fun g => absurd g (by omega), fun _ => k_byteAt (by omega) rd (k_cisDigit (by omega) ?_)⟩
    rw [if_pos (show i < n by omega), h5, h4, q_add_eq (b := 1) (by omega), show (i : Int) + 1 = ((i + 1 : Nat) : Int) by omega, q_sub_eq (a := (i : Int)) (by omega)]
    cases c : z_dgt (bt i) with
    | false =>
      rw [z_find_h (by simp [c])] at q
      subst q
      exact ⟨fun _ => last M f h4 h5 h7 ai (by omega) ⟨hb.1, hb.2.1⟩, fun g => absurd rfl g⟩
    | true =>
      have cd : 48 ≤ bt i ∧ bt i ≤ 57 := by
        unfold z_dgt at c
        simpa using c
      rw [z_find_s (by simp [c])] at q
      have st : z_nv bt a (i + 1 - a) = if i - a < 3 then 10 * z_nv bt a (i - a) + bt i - 48 else z_nv bt a (i - a) := by
        rw [show i + 1 - a = (i - a) + 1 by omega]
        show (if i - a < 3 then 10 * z_nv bt a (i - a) + bt (a + (i - a)) - 48 else z_nv bt a (i - a)) = _
        rw [show a + (i - a) = i by omega]
      have hb1 : 0 ≤ z_nv bt a (i + 1 - a) ∧ z_nv bt a (i + 1 - a) ≤ 999 ∧ (i + 1 - a < 3 → z_nv bt a (i + 1 - a) ≤ 99) ∧ (i + 1 - a < 2 → z_nv bt a (i + 1 - a) ≤ 9) := by
        rw [st]
        by_cases c3 : i - a < 3
        · rw [if_pos c3]
          by_cases e0 : i = a
          · have := h0 e0; omega
          · omega
        · rw [if_neg c3]; omega
      refine ⟨fun g => absurd g (by decide), fun _ => ⟨fun g M5 e5 => ?_, fun g => k_byteAt (by omega) rd (fun M8 e8 M9 e9 => ?_)⟩⟩
      · exact ih (i + 1) M5 (by omega) (by omega) (z_f33_u f e5 (by omega)) (by rw [e5, q_up_n (by decide)]; exact h4) (by rw [e5, q_up_s]) (by rw [e5, q_up_n (by decide), h7, st, if_neg (by omega)]) hb1 (fun g => by omega) q
      · rw [if_pos (show i < n by omega), h7, q_mul_eq (by omega), q_add_eq (by omega), q_sub_eq (by omega)] at e8
        have e85 : M8 33 5 = (i : Int) := by rw [e8, q_up_n (by decide)]; exact h5
        rw [e85, q_add_eq (by omega), show (i : Int) + 1 = ((i + 1 : Nat) : Int) by omega] at e9
        exact ih (i + 1) M9 (by omega) (by omega) (z_f33_u (z_f33_u f e8 (by omega)) e9 (by omega)) (by rw [e9, q_up_n (by decide), e8, q_up_n (by decide)]; exact h4) (by rw [e9, q_up_s]) (by rw [e9, q_up_n (by decide), e8, q_up_s, st, if_pos (by omega)]; omega) hb1 (fun g => by omega) q
