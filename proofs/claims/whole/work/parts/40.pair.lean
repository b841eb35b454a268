-- pairings: what both look for
/-- a set without two of its members -/
def z_wo2 (s i j : Nat) : Nat := s ^^^ 2 ^ i ^^^ 2 ^ j
theorem z_wo2_bit {s i j x : Nat} (hi : s.testBit i = true) (hj : s.testBit j = true) (hij : i ≠ j) : (z_wo2 s i j).testBit x = (s.testBit x && decide (x ≠ i) && decide (x ≠ j)) := by
  unfold z_wo2
  rw [Nat.testBit_xor, Nat.testBit_xor, Nat.testBit_two_pow, Nat.testBit_two_pow]
  by_cases a : i = x
  · subst a
    have b : ¬ j = i := fun e => hij e.symm
    simp [hi, b]
  · by_cases b : j = x
    · subst b
      simp [hj, a]
    · simp [a, b, show ¬ x = i from fun e => a e.symm, show ¬ x = j from fun e => b e.symm]
theorem z_wo2_lt {s i j : Nat} (hi : s.testBit i = true) (hj : s.testBit j = true) (hij : i < j) : z_wo2 s i j < s := by
  have e : s &&& z_wo2 s i j = z_wo2 s i j := by
    apply Nat.eq_of_testBit_eq
    intro x
    rw [Nat.testBit_and, z_wo2_bit hi hj (by omega)]
    cases s.testBit x <;> simp
  have le : z_wo2 s i j ≤ s := by
    rw [← e]
    exact Nat.and_le_left
  have ne : z_wo2 s i j ≠ s := by
    intro q
    have := congrArg (fun y => y.testBit j) q
    simp only [z_wo2_bit hi hj (show i ≠ j by omega), hj] at this
    simp at this
  omega
theorem z_low_un {s i j : Nat} (h : z_low s i) (h' : z_low s j) : i = j := by
  apply Classical.byContradiction
  intro c
  by_cases d : i < j
  · have := h'.2 i d; rw [h.1] at this; cases this
  · have := h.2 j (by omega); rw [h'.1] at this; cases this
section PAIR
variable {fa fb aw q : Nat → Nat} {L F : Nat}
/-- in m pairs, so heavy, across so many links -/
def z_pr (fa fb aw : Nat → Nat) (L : Nat) (q : Nat → Nat) : Nat → Nat → Nat → Nat → Prop
  | 0, s, W, k => s = 0 ∧ W = 0 ∧ k = 0
  | m + 1, s, W, k => ∃ i j W1 k1 W2 k2, z_low s i ∧ i < j ∧ s.testBit j = true ∧ z_op fa fb aw L (q i) (q j) W1 k1 ∧ z_pr fa fb aw L q m (z_wo2 s i j) W2 k2 ∧ W = W1 + W2 ∧ k = k1 + k2
def z_po (fa fb aw : Nat → Nat) (L : Nat) (q : Nat → Nat) (s W k : Nat) : Prop := (∃ m, z_pr fa fb aw L q m s W k) ∧ ∀ m' W' k', z_pr fa fb aw L q m' s W' k' → W < W' ∨ (W = W' ∧ k ≤ k')
theorem z_po_un {s W k W' k' : Nat} (h : z_po fa fb aw L q s W k) (h' : z_po fa fb aw L q s W' k') : W = W' ∧ k = k' := by
  obtain ⟨m, a⟩ := h.1
  obtain ⟨m', a'⟩ := h'.1
  have x := h.2 _ _ _ a'
  have y := h'.2 _ _ _ a
  omega
theorem z_po_ex {s W k m : Nat} (h : z_pr fa fb aw L q m s W k) : ∃ W k, z_po fa fb aw L q s W k := by
  obtain ⟨W0, ⟨m0, k0, h0⟩, m1⟩ := z_min (p := fun W => ∃ m k, z_pr fa fb aw L q m s W k) W ⟨m, k, h⟩
  obtain ⟨k1, ⟨m2, h2⟩, m3⟩ := z_min (p := fun k => ∃ m, z_pr fa fb aw L q m s W0 k) k0 ⟨m0, h0⟩
  refine ⟨W0, k1, ⟨m2, h2⟩, fun m' W' k' h' => ?_⟩
  have := m1 W' ⟨m', k', h'⟩
  by_cases e : W0 = W'
  · subst e; exact Or.inr ⟨rfl, m3 k' ⟨m', h'⟩⟩
  · exact Or.inl (by omega)
theorem z_pr_ne {s W k m : Nat} (h : z_pr fa fb aw L q m s W k) (hs : s ≠ 0) : ∃ m', m = m' + 1 := by
  match m, h with
  | 0, h => exact absurd h.1 hs
  | m + 1, _ => exact ⟨m, rfl⟩
theorem z_low_ne {s i : Nat} (h : z_low s i) : s ≠ 0 := fun e => by subst e; simpa using h.1
/-- a partner of the lowest in a best pairing -/
def z_pj (fa fb aw : Nat → Nat) (L : Nat) (q : Nat → Nat) (s i j : Nat) : Prop := i < j ∧ s.testBit j = true ∧ ∃ W1 k1 W2 k2, z_op fa fb aw L (q i) (q j) W1 k1 ∧ z_po fa fb aw L q (z_wo2 s i j) W2 k2 ∧ z_po fa fb aw L q s (W1 + W2) (k1 + k2)
theorem z_po_step {s W k : Nat} (h : z_po fa fb aw L q s W k) (hs : s ≠ 0) : ∃ i j, z_low s i ∧ z_pj fa fb aw L q s i j := by
  obtain ⟨m, h1⟩ := h.1
  obtain ⟨m', rfl⟩ := z_pr_ne h1 hs
  obtain ⟨i, j, W1, k1, W2, k2, a1, a2, a3, a4, a5, a6, a7⟩ := h1
  refine ⟨i, j, a1, a2, a3, W1, k1, W2, k2, a4, ⟨⟨m', a5⟩, fun m3 W3 k3 h3 => ?_⟩, by rw [← a6, ← a7]; exact h⟩
  have := h.2 (m3 + 1) (W1 + W3) (k1 + k3) ⟨i, j, W1, k1, W3, k3, a1, a2, a3, a4, h3, rfl, rfl⟩
  omega
theorem z_po_cons {s i j W1 k1 W2 k2 : Nat} (hi : z_low s i) (hij : i < j) (hj : s.testBit j = true) (h1 : z_op fa fb aw L (q i) (q j) W1 k1) (h2 : z_po fa fb aw L q (z_wo2 s i j) W2 k2) : ∃ m, z_pr fa fb aw L q m s (W1 + W2) (k1 + k2) := by
  obtain ⟨m, h⟩ := h2.1
  exact ⟨m + 1, i, j, W1, k1, W2, k2, hi, hij, hj, h1, h, rfl, rfl⟩
theorem z_po_zero : z_po fa fb aw L q 0 0 0 := ⟨⟨0, rfl, rfl, rfl⟩, fun m' W' k' _ => by omega⟩
/-- how heavy at most: by the number of bits -/
theorem z_pr_bd (hF : ∀ l, l < L → fa l < F ∧ fb l < F) (hw : ∀ l, l < L → aw l ≤ 99) (hF16 : F ≤ 16) (hq : ∀ i, q i < F) : ∀ {m s W k : Nat}, z_pr fa fb aw L q m s W k → W ≤ 1485 * m ∧ k ≤ 15 * m
  | 0, s, W, k, h => by have := h.2; omega
  | m + 1, s, W, k, ⟨i, j, W1, k1, W2, k2, _, _, _, a4, a5, a6, a7⟩ => by
    have ih := z_pr_bd hF hw hF16 hq a5
    have ks := z_op_short hF (hq i) a4
    have ws := z_wl_heavy hw a4.1
    omega
/-- two fewer bits a pair -/
theorem z_bc_wo2 {s i j : Nat} (hi : s.testBit i = true) (hj : s.testBit j = true) (hij : i < j) : ∀ n, j < n → z_bc (z_wo2 s i j) n + 2 = z_bc s n := by
  have e : ∀ s' n, z_bc s' n = z_cn (fun x => s'.testBit x) n := by
    intro s' n
    induction n with
    | zero => rfl
    | succ n ih => show z_bc s' n + (if s'.testBit n then 1 else 0) = z_cn (fun x => s'.testBit x) n + (if s'.testBit n then 1 else 0); rw [ih]
  intro n hn
  rw [e, e]
  have a1 := z_cn_add (n := n) (c := i) (p := fun x => s.testBit x && decide (x ≠ i)) (q := fun x => s.testBit x) (by omega) (by simp) hi (fun k hk => by simp [hk])
  have a2 := z_cn_add (n := n) (c := j) (p := fun x => s.testBit x && decide (x ≠ i) && decide (x ≠ j)) (q := fun x => s.testBit x && decide (x ≠ i)) hn (by simp) (by simp [hj, show j ≠ i by omega]) (fun k hk => by simp [hk])
  have a3 : z_cn (fun x => (z_wo2 s i j).testBit x) n = z_cn (fun x => s.testBit x && decide (x ≠ i) && decide (x ≠ j)) n := z_cn_congr (fun k _ => z_wo2_bit hi hj (by omega))
  omega
theorem z_pr_m {n : Nat} : ∀ {m s W k : Nat}, s < 2 ^ n → z_pr fa fb aw L q m s W k → 2 * m = z_bc s n
  | 0, s, W, k, hs, h => by
    rw [h.1]
    clear hs
    induction n with
    | zero => rfl
    | succ n ih => show 0 = z_bc 0 n + (if Nat.testBit 0 n then 1 else 0); rw [← ih]; simp
  | m + 1, s, W, k, hs, ⟨i, j, W1, k1, W2, k2, a1, a2, a3, a4, a5, a6, a7⟩ => by
    have hj : j < n := Classical.byContradiction (fun c => by
      have := Nat.testBit_lt_two_pow (x := s) (i := j) (Nat.lt_of_lt_of_le hs (Nat.pow_le_pow_right (by decide) (by omega)))
      rw [a3] at this; cases this)
    have b := z_bc_wo2 a1.1 a3 a2 n hj
    have lt := z_wo2_lt a1.1 a3 a2
    have := z_pr_m (n := n) (Nat.lt_trans lt hs) a5
    omega
theorem z_po_bd (hF : ∀ l, l < L → fa l < F ∧ fb l < F) (hw : ∀ l, l < L → aw l ≤ 99) (hF16 : F ≤ 16) (hq : ∀ i, q i < F) {s W k n : Nat} (hs : s < 2 ^ n) (hn : n ≤ 16) (h : z_po fa fb aw L q s W k) : W ≤ 11880 ∧ k ≤ 120 := by
  obtain ⟨m, a⟩ := h.1
  have b := z_pr_bd hF hw hF16 hq a
  have c := z_pr_m hs a
  have d := z_bc_le (s := s) (n := n)
  omega
/-- ways go both ways -/
theorem z_wl_one {l f b : Nat} (hl : l < L) (ha : z_ad fa fb l f b) : z_wl fa fb aw L 1 f b (aw l) := ⟨l, b, 0, hl, ha, rfl, rfl, rfl⟩
theorem z_ad_sym {l f b : Nat} (h : z_ad fa fb l f b) : z_ad fa fb l b f := ⟨h.1, h.2.symm.imp (fun x => ⟨x.2, x.1⟩) (fun x => ⟨x.2, x.1⟩)⟩
def z_R (fa fb aw : Nat → Nat) (L f g : Nat) : Prop := ∃ k W, z_wl fa fb aw L k f g W
theorem z_R_sym : ∀ {k f g W : Nat}, z_wl fa fb aw L k f g W → z_R fa fb aw L g f
  | 0, f, g, W, h => ⟨0, 0, h.1.symm, rfl⟩
  | k + 1, f, g, W, ⟨l, b, W', h1, h2, h3, h4⟩ => by
    obtain ⟨k2, W2, r⟩ := z_R_sym h4
    exact ⟨k2 + 1, W2 + aw l, z_wl_app r (z_wl_one h1 (z_ad_sym h2))⟩
theorem z_R_tr {f g h : Nat} (a : z_R fa fb aw L f g) (b : z_R fa fb aw L g h) : z_R fa fb aw L f h := by
  obtain ⟨k, W, a⟩ := a
  obtain ⟨k2, W2, b⟩ := b
  exact ⟨k + k2, W + W2, z_wl_app a b⟩
noncomputable def z_rb (fa fb aw : Nat → Nat) (L g f : Nat) : Bool := @decide (z_R fa fb aw L f g) (Classical.propDecidable _)
theorem z_rb_iff {g f : Nat} : z_rb fa fb aw L g f = true ↔ z_R fa fb aw L f g := by
  unfold z_rb
  exact @decide_eq_true_iff _ (Classical.propDecidable _)
theorem z_rb_ad {g l : Nat} (hl : l < L) : z_rb fa fb aw L g (fa l) = z_rb fa fb aw L g (fb l) := by
  by_cases e : fa l = fb l
  · rw [e]
  · have a : z_ad fa fb l (fa l) (fb l) := ⟨e, Or.inl ⟨rfl, rfl⟩⟩
    have i : z_R fa fb aw L (fa l) g ↔ z_R fa fb aw L (fb l) g := ⟨fun h => z_R_tr ⟨1, _, z_wl_one hl (z_ad_sym a)⟩ h, fun h => z_R_tr ⟨1, _, z_wl_one hl a⟩ h⟩
    cases c : z_rb fa fb aw L g (fa l) <;> cases c2 : z_rb fa fb aw L g (fb l)
    · rfl
    · exact absurd (z_rb_iff.mpr (i.mpr (z_rb_iff.mp c2))) (by rw [c]; decide)
    · exact absurd (z_rb_iff.mpr (i.mp (z_rb_iff.mp c))) (by rw [c2]; decide)
    · rfl
/-- an odd number of those below n -/
def z_px (p : Nat → Bool) : Nat → Bool
  | 0 => false
  | n + 1 => z_px p n != p n
theorem z_px_congr {p r : Nat → Bool} : ∀ {n : Nat}, (∀ k, k < n → p k = r k) → z_px p n = z_px r n
  | 0, _ => rfl
  | n + 1, h => by
    show (z_px p n != p n) = (z_px r n != r n)
    rw [z_px_congr (fun k hk => h k (by omega)), h n (by omega)]
theorem z_px_xor {p r : Nat → Bool} : ∀ {n : Nat}, z_px (fun f => p f != r f) n = (z_px p n != z_px r n)
  | 0 => rfl
  | n + 1 => by
    show (z_px (fun f => p f != r f) n != (p n != r n)) = ((z_px p n != p n) != (z_px r n != r n))
    rw [z_px_xor]
    cases z_px p n <;> cases z_px r n <;> cases p n <;> cases r n <;> rfl
theorem z_px_one {r : Nat → Bool} {a : Nat} : ∀ {n : Nat}, z_px (fun f => r f && decide (a = f)) n = (decide (a < n) && r a)
  | 0 => by simp [z_px]
  | n + 1 => by
    show (z_px (fun f => r f && decide (a = f)) n != (r n && decide (a = n))) = _
    rw [z_px_one]
    by_cases e : a = n
    · subst e; simp
    · by_cases c : a < n
      · simp [c, e, show a < n + 1 by omega]
      · simp [c, e, show ¬ a < n + 1 by omega]
theorem z_px_cn {p : Nat → Bool} : ∀ {n : Nat}, z_px p n = decide (z_cn p n % 2 = 1)
  | 0 => rfl
  | n + 1 => by
    show (z_px p n != p n) = decide ((z_cn p n + (if p n then 1 else 0)) % 2 = 1)
    rw [z_px_cn]
    cases hp : p n
    · simp
    · by_cases c : z_cn p n % 2 = 1
      · simp [c, show ¬ (z_cn p n + 1) % 2 = 1 by omega]
      · simp [c, show (z_cn p n + 1) % 2 = 1 by omega]
end PAIR
/-- of faces that hang together by ways an even number is odd -/
theorem z_even {fo : Nat → Int} {L F gd g : Nat} {aw : Nat → Nat} (hin : ∀ x, x < 2 * L → 0 ≤ fo x ∧ fo x < (F : Int)) : ∀ l, l ≤ L → z_px (fun f => z_rb (z_fa fo) (z_fb fo) aw L g f && z_par fo gd f (2 * l)) F = false
  | 0, _ => by
    have : ∀ n, z_px (fun _ => false) n = false := by
      intro n
      induction n with
      | zero => rfl
      | succ n ih => show (z_px (fun _ => false) n != false) = false; rw [ih]; rfl
    rw [z_px_congr (r := fun _ => false) (fun k _ => by simp [z_par])]
    exact this F
  | l + 1, hl => by
    have ih := z_even (gd := gd) (g := g) (aw := aw) hin l (by omega)
    have fb := z_fab hin (l := l) (by omega)
    have st : ∀ f : Nat, z_par fo gd f (2 * (l + 1)) = ((z_par fo gd f (2 * l) != (gd.testBit l && decide (z_fa fo l = f))) != (gd.testBit l && decide (z_fb fo l = f))) := by
      intro f
      show ((z_par fo gd f (2 * l) != (gd.testBit (2 * l / 2) && decide (fo (2 * l) = (f : Int)))) != (gd.testBit ((2 * l + 1) / 2) && decide (fo (2 * l + 1) = (f : Int)))) = _
      rw [show 2 * l / 2 = l by omega, show (2 * l + 1) / 2 = l by omega, fb.1, fb.2.1, decide_eq_decide.mpr (show (z_fa fo l : Int) = (f : Int) ↔ z_fa fo l = f by omega), decide_eq_decide.mpr (show (z_fb fo l : Int) = (f : Int) ↔ z_fb fo l = f by omega)]
    cases hg : gd.testBit l
    · rw [z_px_congr (r := fun f => z_rb (z_fa fo) (z_fb fo) aw L g f && z_par fo gd f (2 * l)) (fun k _ => by rw [st, hg]; simp)]
      exact ih
    · rw [z_px_congr (r := fun f => ((z_rb (z_fa fo) (z_fb fo) aw L g f && z_par fo gd f (2 * l)) != (z_rb (z_fa fo) (z_fb fo) aw L g f && decide (z_fa fo l = f))) != (z_rb (z_fa fo) (z_fb fo) aw L g f && decide (z_fb fo l = f))) (fun k _ => by
        rw [st, hg]
        cases z_rb (z_fa fo) (z_fb fo) aw L g k <;> simp), z_px_xor, z_px_xor, ih, z_px_one, z_px_one, decide_eq_true fb.2.2.1, decide_eq_true fb.2.2.2, z_rb_ad (by omega)]
      simp
/-- the odd ones in a row -/
def z_ol (p : Nat → Bool) (n : Nat) : List Nat := (List.range n).filter p
theorem z_ol_succ {p : Nat → Bool} {n : Nat} : z_ol p (n + 1) = if p n then z_ol p n ++ [n] else z_ol p n := by
  unfold z_ol
  rw [List.range_succ, List.filter_append]
  cases h : p n <;> simp [h]
theorem z_ol_len {p : Nat → Bool} {n : Nat} : (z_ol p n).length ≤ n := by
  have := List.length_filter_le p (List.range n)
  simpa [z_ol] using this
def z_at (ls : List Nat) (i : Nat) : Nat := ls.getD i 0
theorem z_ol_in {p : Nat → Bool} {n i : Nat} (h : i < (z_ol p n).length) : z_at (z_ol p n) i < n ∧ p (z_at (z_ol p n) i) = true := by
  have hm : z_at (z_ol p n) i ∈ z_ol p n := by
    unfold z_at
    rw [List.getD_eq_getElem?_getD, List.getElem?_eq_getElem h]
    exact List.getElem_mem h
  unfold z_ol at hm
  rw [List.mem_filter, List.mem_range] at hm
  exact hm
theorem z_at_app {ls : List Nat} {x i : Nat} : z_at (ls ++ [x]) i = if i < ls.length then z_at ls i else if i = ls.length then x else 0 := by
  unfold z_at
  rw [List.getD_eq_getElem?_getD, List.getD_eq_getElem?_getD]
  by_cases c : i < ls.length
  · rw [if_pos c, List.getElem?_append_left c]
  · rw [if_neg c, List.getElem?_append_right (by omega)]
    by_cases e : i = ls.length
    · subst e; simp
    · rw [if_neg e, List.getElem?_eq_none (by simp; omega)]
      rfl
theorem z_ol_px {p r : Nat → Bool} : ∀ {n : Nat}, z_px (fun i => r (z_at (z_ol p n) i)) (z_ol p n).length = z_px (fun f => r f && p f) n
  | 0 => rfl
  | n + 1 => by
    have ih := z_ol_px (p := p) (r := r) (n := n)
    show _ = (z_px (fun f => r f && p f) n != (r n && p n))
    rw [z_ol_succ]
    cases hp : p n
    · simp [ih]
    · rw [if_pos rfl, List.length_append]
      show (z_px (fun i => r (z_at (z_ol p n ++ [n]) i)) (z_ol p n).length != r (z_at (z_ol p n ++ [n]) (z_ol p n).length)) = _
      rw [z_px_congr (r := fun i => r (z_at (z_ol p n) i)) (fun k hk => by rw [z_at_app, if_pos hk]), ih, z_at_app, if_neg (by omega), if_pos rfl, Bool.and_true]
theorem z_ol_mono {p : Nat → Bool} {n i j : Nat} (hij : i < j) (hj : j < (z_ol p n).length) : z_at (z_ol p n) i < z_at (z_ol p n) j := by
  induction n with
  | zero => simp [z_ol] at hj
  | succ n ih =>
    rw [z_ol_succ] at hj ⊢
    cases hp : p n
    · rw [hp] at hj; exact ih hj
    · rw [hp, if_pos rfl, List.length_append, List.length_singleton] at hj
      rw [if_pos rfl, z_at_app, z_at_app, if_pos (by omega)]
      by_cases c : j < (z_ol p n).length
      · rw [if_pos c]; exact ih c
      · rw [if_neg c, if_pos (by omega)]
        exact (z_ol_in (by omega)).1
/-- sets in which each class of faces is even can be paired -/
theorem z_pairs_ex {fa fb aw q : Nat → Nat} {L n : Nat} : ∀ (c s : Nat), s < 2 ^ n → z_bc s n ≤ c → (∀ g, z_px (fun i => s.testBit i && z_rb fa fb aw L g (q i)) n = false) → ∃ m W k, z_pr fa fb aw L q m s W k := by
  intro c
  induction c with
  | zero =>
    intro s hs hc _
    by_cases h0 : s = 0
    · exact ⟨0, 0, 0, h0, rfl, rfl⟩
    · obtain ⟨i, hi, hl⟩ := z_low_ex (by omega) hs
      exfalso
      have : ∀ m, i < m → 0 < z_bc s m := by
        intro m
        induction m with
        | zero => intro h; omega
        | succ m ih =>
          intro h
          show 0 < z_bc s m + (if s.testBit m then 1 else 0)
          by_cases e : i = m
          · subst e; rw [hl.1]; simp
          · have := ih (by omega); omega
      have := this n hi
      omega
  | succ c ih =>
    intro s hs hc hev
    by_cases h0 : s = 0
    · exact ⟨0, 0, 0, h0, rfl, rfl⟩
    · obtain ⟨i, hi, hl⟩ := z_low_ex (by omega) hs
      have rii : z_rb fa fb aw L (q i) (q i) = true := z_rb_iff.mpr ⟨0, 0, rfl, rfl⟩
      have ex : ∃ j, j < n ∧ j ≠ i ∧ s.testBit j = true ∧ z_rb fa fb aw L (q i) (q j) = true := by
        apply Classical.byContradiction
        intro no
        have e : z_px (fun x => s.testBit x && z_rb fa fb aw L (q i) (q x)) n = z_px (fun x => true && decide (i = x)) n := by
          refine z_px_congr (fun x hx => ?_)
          by_cases e : i = x
          · subst e; simp [hl.1, rii]
          · simp only [e, decide_false, Bool.and_false]
            cases a : s.testBit x <;> cases b : z_rb fa fb aw L (q i) (q x)
            · rfl
            · rfl
            · rfl
            · exact absurd ⟨x, hx, fun q => e q.symm, a, b⟩ no
        rw [z_px_one (r := fun _ => true), hev (q i), decide_eq_true hi] at e
        cases e
      obtain ⟨j, hj, hji, sj, rj⟩ := ex
      have hij : i < j := by
        apply Classical.byContradiction
        intro g
        have := hl.2 j (by omega)
        rw [sj] at this; cases this
      have lt := z_wo2_lt hl.1 sj hij
      have bc := z_bc_wo2 hl.1 sj hij n hj
      obtain ⟨m, W, k, hm⟩ := ih (z_wo2 s i j) (by omega) (by omega) (fun g => by
        rw [z_px_congr (r := fun x => ((s.testBit x && z_rb fa fb aw L g (q x)) != (z_rb fa fb aw L g (q x) && decide (i = x))) != (z_rb fa fb aw L g (q x) && decide (j = x))) (fun x _ => by
          rw [z_wo2_bit hl.1 sj (by omega)]
          by_cases e : i = x
          · subst e
            simp [hl.1, show ¬ j = i by omega]
          · by_cases e2 : j = x
            · subst e2
              simp [sj, e]
            · simp [e, e2, show ¬ x = i from fun q => e q.symm, show ¬ x = j from fun q => e2 q.symm])]
        rw [z_px_xor, z_px_xor, hev g, z_px_one (r := fun x => z_rb fa fb aw L g (q x)), z_px_one (r := fun x => z_rb fa fb aw L g (q x)), decide_eq_true hi, decide_eq_true hj]
        have : z_rb fa fb aw L g (q i) = z_rb fa fb aw L g (q j) := by
          have rji := z_rb_iff.mp rj
          obtain ⟨kk, ww, hh⟩ := rji
          have rij := z_R_sym hh
          cases a : z_rb fa fb aw L g (q i) <;> cases b : z_rb fa fb aw L g (q j)
          · rfl
          · exact absurd (z_rb_iff.mpr (z_R_tr rij (z_rb_iff.mp b))) (by rw [a]; decide)
          · exact absurd (z_rb_iff.mpr (z_R_tr ⟨kk, ww, hh⟩ (z_rb_iff.mp a))) (by rw [b]; decide)
          · rfl
        rw [this]
        simp)
      obtain ⟨kk, ww, hh⟩ := z_rb_iff.mp rj
      obtain ⟨k2, w2, h2⟩ := z_R_sym hh
      obtain ⟨W1, k1, o1⟩ := z_op_ex h2
      exact ⟨m + 1, W1 + W, k1 + k, i, j, W1, k1, W, k, hl, hij, sj, o1, hm, rfl, rfl⟩
/-- what comes out: partners, the join -/
def z_up2 (p : Nat → Int) (a b : Nat) : Nat → Int := fun x => if x = b then (a : Int) else if x = a then (b : Int) else p x
def z_fin (fa fb aw : Nat → Nat) (L : Nat) (q : Nat → Nat) : Nat → Nat → (Nat → Int) → Nat → (Nat → Int) → Nat → Prop
  | 0, s, p, jn, p', jn' => s = 0 ∧ p' = p ∧ jn' = jn
  | m + 1, s, p, jn, p', jn' => ∃ i j W k ls, z_low s i ∧ z_pj fa fb aw L q s i j ∧ (∀ j', j' < j → ¬ z_pj fa fb aw L q s i j') ∧ z_op fa fb aw L (q i) (q j) W k ∧ z_pth fa fb aw L (q j) k (q i) ls ∧ z_fin fa fb aw L q m (z_wo2 s i j) (z_up2 p (q i) (q j)) (jn ^^^ z_orb 0 ls) p' jn'
theorem z_pth_un {fa fb aw : Nat → Nat} {L g : Nat} : ∀ {k f : Nat} {ls ls' : List Nat}, z_pth fa fb aw L g k f ls → z_pth fa fb aw L g k f ls' → ls = ls'
  | 0, f, [], [], _, _ => rfl
  | 0, f, _ :: _, _, h, _ => h.elim
  | 0, f, [], _ :: _, _, h => h.elim
  | _ + 1, f, [], _, h, _ => h.elim
  | _ + 1, f, _ :: _, [], _, h => h.elim
  | k + 1, f, l :: ls, l' :: ls', ⟨b, h1, h2, h3⟩, ⟨b', h1', h2', h3'⟩ => by
    have e : l = l' := by
      apply Classical.byContradiction
      intro c
      by_cases d : l < l'
      · exact h2' l b d h1
      · exact h2 l' b' (by omega) h1'
    subst e
    have e2 := z_ad_un h1.2.1 h1'.2.1
    subst e2
    rw [z_pth_un h3 h3']
theorem z_fin_un {fa fb aw q : Nat → Nat} {L : Nat} : ∀ {m m2 s : Nat} {p p1 p2 : Nat → Int} {jn j1 j2 : Nat}, z_fin fa fb aw L q m s p jn p1 j1 → z_fin fa fb aw L q m2 s p jn p2 j2 → p1 = p2 ∧ j1 = j2
  | 0, 0, s, p, p1, p2, jn, j1, j2, h, h' => ⟨h.2.1.trans h'.2.1.symm, h.2.2.trans h'.2.2.symm⟩
  | 0, m2 + 1, s, p, p1, p2, jn, j1, j2, h, ⟨i, _, _, _, _, hl, _⟩ => absurd h.1 (z_low_ne hl)
  | m + 1, 0, s, p, p1, p2, jn, j1, j2, ⟨i, _, _, _, _, hl, _⟩, h => absurd h.1 (z_low_ne hl)
  | m + 1, m2 + 1, s, p, p1, p2, jn, j1, j2, ⟨i, j, W, k, ls, a1, a2, a3, a4, a5, a6⟩, ⟨i', j', W', k', ls', b1, b2, b3, b4, b5, b6⟩ => by
    have ei := z_low_un a1 b1
    subst ei
    have ej : j = j' := by
      apply Classical.byContradiction
      intro c
      by_cases d : j < j'
      · exact b3 j d a2
      · exact a3 j' (by omega) b2
    subst ej
    have eo := z_op_un a4 b4
    obtain ⟨rfl, rfl⟩ := eo
    have el := z_pth_un a5 b5
    subst el
    exact z_fin_un a6 b6
