-- pairings: tables of least costs of sets, the reference's pairing
section PV
variable {fa fb aw q : Nat → Nat} {L F S n : Nat} {B top : Int}
def z_pv (fa fb aw : Nat → Nat) (L : Nat) (q : Nat → Nat) (S : Nat) (B top : Int) (s : Nat) (v : Int) : Prop := (∃ W k, z_po fa fb aw L q s W k ∧ v = ((S * W + k : Nat) : Int)) ∨ ((∀ m W k, ¬ z_pr fa fb aw L q m s W k) ∧ B ≤ v ∧ v ≤ top)
def z_fn (fa fb aw : Nat → Nat) (L : Nat) (q : Nat → Nat) (s i j W k : Nat) : Prop := ∃ W1 k1 W2 k2, z_op fa fb aw L (q i) (q j) W1 k1 ∧ z_po fa fb aw L q (z_wo2 s i j) W2 k2 ∧ W = W1 + W2 ∧ k = k1 + k2
def z_tm (fa fb aw : Nat → Nat) (L : Nat) (q : Nat → Nat) (S : Nat) (B : Int) (s i j : Nat) (t : Int) : Prop := 0 ≤ t ∧ ((∃ W k, z_fn fa fb aw L q s i j W k ∧ t = ((S * W + k : Nat) : Int)) ∨ ((∀ W k, ¬ z_fn fa fb aw L q s i j W k) ∧ B ≤ t))
def z_bs (fa fb aw : Nat → Nat) (L : Nat) (q : Nat → Nat) (S : Nat) (B top : Int) (s i j : Nat) (v : Int) : Prop :=
  (∀ j' W k, i < j' → j' < j → s.testBit j' = true → z_fn fa fb aw L q s i j' W k → v ≤ ((S * W + k : Nat) : Int)) ∧ (B ≤ v ∨ ∃ j' W k, i < j' ∧ j' < j ∧ s.testBit j' = true ∧ z_fn fa fb aw L q s i j' W k ∧ v = ((S * W + k : Nat) : Int)) ∧ 0 ≤ v ∧ v ≤ top
theorem z_fn_un {s i j W k W' k' : Nat} (h : z_fn fa fb aw L q s i j W k) (h' : z_fn fa fb aw L q s i j W' k') : W = W' ∧ k = k' := by
  obtain ⟨a, b, c, d, h1, h2, h3, h4⟩ := h
  obtain ⟨a', b', c', d', h1', h2', h3', h4'⟩ := h'
  have := z_op_un h1 h1'
  have := z_po_un h2 h2'
  omega
theorem z_bs_skip {s i j : Nat} {v : Int} (h : z_bs fa fb aw L q S B top s i j v) (hj : s.testBit j = false) : z_bs fa fb aw L q S B top s i (j + 1) v := by
  refine ⟨fun j' W k a b c d => ?_, ?_, h.2.2⟩
  · refine h.1 j' W k a ?_ c d
    have : j' ≠ j := fun e => by rw [e, hj] at c; cases c
    omega
  · rcases h.2.1 with x | ⟨j', W, k, a, b, c, d, e⟩
    · exact Or.inl x
    · exact Or.inr ⟨j', W, k, a, by omega, c, d, e⟩
theorem z_bs_step {s i j : Nat} {v t : Int} (h : z_bs fa fb aw L q S B top s i j v) (hij : i < j) (hj : s.testBit j = true) (ht : z_tm fa fb aw L q S B s i j t) : z_bs fa fb aw L q S B top s i (j + 1) (min v t) := by
  obtain ⟨t0, ht⟩ := ht
  have hv := h.2.2
  refine ⟨fun j' W k a b c d => ?_, ?_, by omega, by omega⟩
  · by_cases e : j' = j
    · subst e
      rcases ht with ⟨W', k', f, e⟩ | ⟨no, _⟩
      · have u := z_fn_un d f
        rw [u.1, u.2]
        omega
      · exact absurd d (no W k)
    · have := h.1 j' W k a (by omega) c d
      omega
  · by_cases c : v ≤ t
    · rw [Int.min_eq_left c]
      rcases h.2.1 with x | ⟨j', W, k, a, b, c, d, e⟩
      · exact Or.inl x
      · exact Or.inr ⟨j', W, k, a, by omega, c, d, e⟩
    · rw [Int.min_eq_right (by omega)]
      rcases ht with ⟨W', k', f, e⟩ | ⟨_, x⟩
      · exact Or.inr ⟨j, W', k', hij, by omega, hj, f, e⟩
      · exact Or.inl x
theorem z_lex {S W k W' k' : Nat} (hk : k < S) (h : W < W' ∨ (W = W' ∧ k ≤ k')) : S * W + k ≤ S * W' + k' := by
  rcases h with h | h
  · have : S * (W + 1) ≤ S * W' := Nat.mul_le_mul (Nat.le_refl _) (by omega)
    rw [Nat.mul_add, Nat.mul_one] at this
    omega
  · rw [h.1]; omega
theorem z_bs_end (hF : ∀ l, l < L → fa l < F ∧ fb l < F) (hw : ∀ l, l < L → aw l ≤ 99) (hF16 : F ≤ 16) (hq : ∀ i, q i < F) (hS : 1000 ≤ S) (hS2 : S ≤ 1024) (hB : 67108864 ≤ B) (hn : n ≤ 16) {s i : Nat} {v : Int} (hs : s < 2 ^ n) (hi : z_low s i) (h : z_bs fa fb aw L q S B top s i n v) : z_pv fa fb aw L q S B top s v := by
  by_cases ex : ∃ m W k, z_pr fa fb aw L q m s W k
  · left
    obtain ⟨m, W0, k0, h0⟩ := ex
    obtain ⟨W, k, ho⟩ := z_po_ex h0
    have bd := z_po_bd hF hw hF16 hq hs hn ho
    refine ⟨W, k, ho, ?_⟩
    obtain ⟨i', j, hl, hij, hj, W1, k1, W2, k2, a1, a2, a3⟩ := z_po_step ho (z_low_ne hi)
    have ei := z_low_un hi hl
    subst ei
    have u := z_po_un ho a3
    have hjn : j < n := Classical.byContradiction (fun c => by
      have := Nat.testBit_lt_two_pow (x := s) (i := j) (Nat.lt_of_lt_of_le hs (Nat.pow_le_pow_right (by decide) (by omega)))
      rw [hj] at this; cases this)
    have le := h.1 j W k hij hjn hj ⟨W1, k1, W2, k2, a1, a2, u.1, u.2⟩
    have sw : S * W ≤ 1024 * 11880 := Nat.mul_le_mul hS2 bd.1
    rcases h.2.1 with x | ⟨j', W', k', b1, b2, b3, b4, b5⟩
    · omega
    · obtain ⟨c1, c2, c3, c4, d1, d2, d3, d4⟩ := b4
      obtain ⟨mm, pr⟩ := z_po_cons hi b1 b3 d1 d2
      rw [← d3, ← d4] at pr
      have lx := z_lex (S := S) (by omega) (ho.2 _ _ _ pr)
      omega
  · right
    refine ⟨fun m W k g => ex ⟨m, W, k, g⟩, ?_, h.2.2.2⟩
    rcases h.2.1 with x | ⟨j', W', k', b1, b2, b3, b4, b5⟩
    · exact x
    · obtain ⟨c1, c2, c3, c4, d1, d2, d3, d4⟩ := b4
      obtain ⟨mm, pr⟩ := z_po_cons hi b1 b3 d1 d2
      exact absurd ⟨mm, _, _, pr⟩ ex
theorem z_bs_0 {s i : Nat} {v : Int} (h0 : 0 ≤ v) (h : B ≤ v) (h2 : v ≤ top) : z_bs fa fb aw L q S B top s i (i + 1) v :=
  ⟨fun j' W k a b => by omega, Or.inl h, h0, h2⟩
/-- which partner: numbers tell -/
theorem z_pj_iff (hF : ∀ l, l < L → fa l < F ∧ fb l < F) (hw : ∀ l, l < L → aw l ≤ 99) (hF16 : F ≤ 16) (hq : ∀ i, q i < F) (hS : 1000 ≤ S) (hS2 : S ≤ 1024) (hB : 67108864 ≤ B) (hn : n ≤ 16) {s i j W k : Nat} {t : Int} (hs : s < 2 ^ n) (ho : z_po fa fb aw L q s W k) (hi : z_low s i) (hij : i < j) (hj : s.testBit j = true) (ht : z_tm fa fb aw L q S B s i j t) : t = ((S * W + k : Nat) : Int) ↔ z_pj fa fb aw L q s i j := by
  have bd := z_po_bd hF hw hF16 hq hs hn ho
  have sw : S * W ≤ 1024 * 11880 := Nat.mul_le_mul hS2 bd.1
  constructor
  · intro e
    rcases ht.2 with ⟨W', k', ⟨W1, k1, W2, k2, a1, a2, a3, a4⟩, e2⟩ | ⟨_, x⟩
    · obtain ⟨m, pr⟩ := z_po_cons hi hij hj a1 a2
      have lx := ho.2 _ _ _ pr
      have lt2 := z_wo2_lt hi.1 hj hij
      have b2 := z_po_bd hF hw hF16 hq (s := z_wo2 s i j) (by omega) hn a2
      have ks := z_op_short hF (hq i) a1
      have e3 : S * W' + k' = S * W + k := by omega
      have eW : W' = W := by
        apply Classical.byContradiction
        intro c
        have : W + 1 ≤ W' := by omega
        have := Nat.mul_le_mul (Nat.le_refl S) this
        rw [Nat.mul_add, Nat.mul_one] at this
        omega
      subst eW
      have ek : k' = k := by omega
      refine ⟨hij, hj, W1, k1, W2, k2, a1, a2, ?_⟩
      rw [← a3, ← a4, ek]
      exact ho
    · omega
  · rintro ⟨_, _, W1, k1, W2, k2, a1, a2, a3⟩
    have u := z_po_un ho a3
    rcases ht.2 with ⟨W', k', f, e2⟩ | ⟨no, _⟩
    · have u2 := z_fn_un f ⟨W1, k1, W2, k2, a1, a2, rfl, rfl⟩
      rw [e2, u2.1, u2.2, u.1, u.2]
    · exact absurd ⟨W1, k1, W2, k2, a1, a2, rfl, rfl⟩ (no _ _)
end PV
theorem l_lowest {d : Nat} {M : q_Mem} {K : Int → q_Mem → Prop} {s t : Nat} (hd : 1 ≤ d) (hs : s < 65536) (ht : t < 16) (hl : z_low s t) (h : K (t : Int) M) : ∀ (j i : Nat), i + j = t → q_v mX12_lowest d (qPI K) M 2 [some (qI (s : Int)), some (qI (i : Int))] [] := by
  intro j
  induction j with
  | zero =>
    intro i e
    have : i = t := by omega
    subst this
    exact bX12_lowest_2 _ _ (k_isIn2 (by omega) (by omega) (by omega) (fun _ => ⟨fun _ => h, fun g => by omega⟩) (fun g => by rw [hl.1] at g; cases g))
  | succ j ih =>
    intro i e
    refine bX12_lowest_2 _ _ (k_isIn2 (by omega) (by omega) (by omega) (fun g => by rw [hl.2 i (by omega)] at g; cases g) (fun _ => ⟨fun g => absurd rfl g, fun _ => ?_⟩))
    rw [q_add_eq (by omega)]
    exact ih (i + 1) (by omega)
theorem k_lowest {d : Nat} {M : q_Mem} {K : Int → q_Mem → Prop} {s t : Nat} (hd : 1 < d) (hs : s < 65536) (ht : t < 16) (hl : z_low s t) (h : K (t : Int) M) : q_kI yX12_lowest mX12_lowest d [qI (s : Int)] M K :=
  q_goI hd rfl (plainFor_of_name (by decide +kernel)) rfl (fun h => nomatch h) (Nat.le_of_ble_eq_true rfl) (fun d hd => bX12_lowest_0 _ (l_lowest hd hs ht hl h t 0 (by omega)))
theorem k_wayBetween {d : Nat} {M : q_Mem} {K : Int → q_Mem → Prop} {F i j : Nat} {q : Nat → Nat} {T : Nat → Nat → Int} (hd : 0 < d) (hF : F ≤ 16) (hi : i < 16) (hj : j < 16) (qi : M 196 i = (q i : Int)) (qj : M 196 j = (q j : Int)) (hqi : q i < F) (hqj : q j < F) (hT : z_tab (M 194) F T) (h : K (T (q i) (q j)) M) : q_kI yX12_wayBetween mX12_wayBetween d [qR 178, qI (i : Int), qI (j : Int)] M K :=
  q_goI hd rfl (plainFor_of_name (by decide +kernel)) rfl (fun h => nomatch h) (Nat.le_of_ble_eq_true rfl) (fun d hd => bX12_wayBetween_0 _ _ (by
    rw [qi, qj, q_mul_eq (by omega), q_add_eq (by omega), show 16 * (q i : Int) + (q j : Int) = ((16 * q i + q j : Nat) : Int) by omega, hT _ _ hqi hqj]
    exact ⟨by omega, by omega, by omega, h⟩))
theorem z_xor2 {s i j : Nat} (hs : s < 65536) (hi : i < 16) (hj : j < 16) : q_xor (q_xor (s : Int) (q_shl 1 (i : Int))) (q_shl 1 (j : Int)) = (z_wo2 s i j : Int) := by
  rw [q_xor1 (by omega) (by omega), q_xor1 (Nat.lt_trans (Nat.xor_lt_two_pow (n := 16) hs (Nat.pow_lt_pow_right (a := 2) (by decide) hi)) (by decide)) (by omega)]
  rfl
theorem z_xor2' {s i j : Nat} (hs : s < 65536) (hi : i < 16) (hj : j < 16) : q_xor (s : Int) (q_xor (q_shl 1 (i : Int)) (q_shl 1 (j : Int))) = (z_wo2 s i j : Int) := by
  have pi := q_pow31 (k := i) (by omega)
  have pj := q_pow31 (k := j) (by omega)
  rw [q_shl1 i (by omega), q_shl1 j (by omega), q_xor_nat pi pj, q_xor_nat (by omega) (Nat.xor_lt_two_pow (n := 31) pi pj)]
  unfold z_wo2
  rw [Nat.xor_assoc]
/-- the term of a partner, in the reference -/
theorem z_tm_ref {fa fb aw q : Nat → Nat} {L F s i j : Nat} (hF : ∀ l, l < L → fa l < F ∧ fb l < F) (hw : ∀ l, l < L → aw l ≤ 99) (hF16 : F ≤ 16) (hq : ∀ i, q i < F) {v : Int} (hv : z_pv fa fb aw L q 1000 67108864 1073741824 (z_wo2 s i j) v) : z_tm fa fb aw L q 1000 67108864 s i j (v + z_tb fa fb aw L F 1000 67108864 (q i) (q j)) ∧ 0 ≤ v ∧ 0 ≤ z_tb fa fb aw L F 1000 67108864 (q i) (q j) ∧ z_tb fa fb aw L F 1000 67108864 (q i) (q j) ≤ 67108864 := by
  have T := z_tb_ok (S := 1000) (I := 67108864) hF hw hF16 (by decide) (by decide) (by decide) (hq i) (hq j)
  rcases T with ⟨W1, k1, o1, hk, hW, e⟩ | ⟨no, e⟩
  · rw [e]
    rcases hv with ⟨W2, k2, o2, ev⟩ | ⟨no2, b1, b2⟩
    · refine ⟨⟨by omega, Or.inl ⟨W1 + W2, k1 + k2, ⟨W1, k1, W2, k2, o1, o2, rfl, rfl⟩, ?_⟩⟩, by omega, by omega, by omega⟩
      rw [ev, Nat.mul_add]
      omega
    · refine ⟨⟨by omega, Or.inr ⟨fun W k ⟨_, _, W2, k2, _, o2, _, _⟩ => ?_, by omega⟩⟩, by omega, by omega, by omega⟩
      obtain ⟨m, pr⟩ := o2.1
      exact no2 _ _ _ pr
  · rw [e]
    have v0 : 0 ≤ v := by rcases hv with ⟨W2, k2, o2, ev⟩ | ⟨no2, b1, b2⟩ <;> omega
    exact ⟨⟨by omega, Or.inr ⟨fun W k ⟨W1, k1, _, _, o1, _, _, _⟩ => no _ _ o1.1, by omega⟩⟩, v0, by decide, by decide⟩
/-- the reference's odd faces in their row -/
def z_Q (M : q_Mem) (q : Nat → Nat) (F n : Nat) : Prop := n ≤ 16 ∧ M 178 34 = (n : Int) ∧ (∀ i : Nat, i < n → M 196 i = (q i : Int)) ∧ ∀ i, q i < F
theorem z_pv_top {fa fb aw q : Nat → Nat} {L F s n : Nat} {v : Int} (hF : ∀ l, l < L → fa l < F ∧ fb l < F) (hw : ∀ l, l < L → aw l ≤ 99) (hF16 : F ≤ 16) (hq : ∀ i, q i < F) (hs : s < 2 ^ n) (hn : n ≤ 16) (h : z_pv fa fb aw L q 1000 67108864 1073741824 s v) : 0 ≤ v ∧ v ≤ 1073741824 := by
  rcases h with ⟨W, k, o, e⟩ | ⟨_, a, b⟩
  · have := z_po_bd hF hw hF16 hq hs hn o
    omega
  · omega
theorem l_ls33 {d : Nat} {K : q_Mem → Prop} {M : q_Mem} (hd : 1 ≤ d) {fo : Nat → Int} {F n : Nat} {q : Nat → Nat} (hW : z_W M fo F) (hQ : z_Q M q F n) {s i : Nat} (hs : s < 2 ^ n) (hi : z_low s i) (hin : i < n)
    (hP : ∀ s', s' < s → z_pv (z_fa fo) (z_fb fo) (z_aw (M 187)) (z_L (M 179)) q 1000 67108864 1073741824 s' (M 197 s'))
    (h : ∀ v M', z_pv (z_fa fo) (z_fb fo) (z_aw (M 187)) (z_L (M 179)) q 1000 67108864 1073741824 s v → M' = q_up M 197 (s : Int) v → q_v mX12_laysSets d (qPU K) M' 9 [some (qR 178), some (qI (q_add (s : Int) 1)), none, none, none, none] []) :
    ∀ (k j : Nat) (v : Int), j + k = n → i < j → z_bs (z_fa fo) (z_fb fo) (z_aw (M 187)) (z_L (M 179)) q 1000 67108864 1073741824 s i j v → q_v mX12_laysSets d (qPU K) M 33 [some (qR 178), some (qI (s : Int)), some (qI (i : Int)), some (qI v), some (qI (j : Int)), none] [] := by
  obtain ⟨hnet, h16, hfo, hin2, hw, hT⟩ := id hW
  obtain ⟨n16, en, eq, hq⟩ := id hQ
  have hF := fun l hl => (z_fab hin2 (l := l) hl).2.2
  have s16 : s < 65536 := Nat.lt_of_lt_of_le hs (by show 2 ^ n ≤ 2 ^ 16; exact Nat.pow_le_pow_right (by decide) n16)
  intro k
  induction k with
  | zero =>
    intro j v e hij hb
    have ej : j = n := by omega
    subst ej
    refine bX12_laysSets_33 _ _ _ _ ?_
    rw [en]
    refine ⟨fun _ => ⟨by omega, fun M2 e2 => ?_⟩, fun g => absurd (by omega) g⟩
    exact h v M2 (z_bs_end hF (z_aw99 hw) h16 hq (by decide) (by decide) (by decide) n16 hs hi hb) e2
  | succ k ih =>
    intro j v e hij hb
    refine bX12_laysSets_33 _ _ _ _ ?_
    rw [en, q_add_eq (a := (j : Int)) (by omega), show (j : Int) + 1 = ((j + 1 : Nat) : Int) by omega]
    refine ⟨fun g => by omega, fun _ => k_isIn2 (by omega) (by omega) (by omega) (fun tb => ⟨fun _ => ?_, fun g => by omega⟩) (fun tb => ⟨fun g => absurd rfl g, fun _ => ih (j + 1) v (by omega) (by omega) (z_bs_skip hb tb)⟩)⟩
    have lt := z_wo2_lt hi.1 tb hij
    have pv := hP _ lt
    have tm := z_tm_ref hF (z_aw99 hw) h16 hq pv
    have tp := z_pv_top hF (z_aw99 hw) h16 hq (Nat.lt_trans lt hs) n16 pv
    rw [z_xor2 s16 (by omega) (by omega)]
    refine ⟨by omega, k_wayBetween (by omega) h16 (by omega) (by omega) (eq i hin) (eq j (by omega)) (hq i) (hq j) hT (fun x ex => ?_)⟩
    rw [q_add_eq (by omega)] at ex
    have st := z_bs_step hb hij tb tm.1
    refine ⟨fun g => ?_, fun g => ?_⟩
    · refine ih (j + 1) v (by omega) (by omega) ?_
      rw [Int.min_eq_left (by omega)] at st
      exact st
    · refine ih (j + 1) x (by omega) (by omega) ?_
      rw [Int.min_eq_right (by omega), ← ex] at st
      exact st
theorem l_ls9 {d : Nat} {K : q_Mem → Prop} {M0 : q_Mem} (hd : 2 ≤ d) {fo : Nat → Int} {F n : Nat} {q : Nat → Nat} (hW : z_W M0 fo F) (hQ : z_Q M0 q F n)
    (h : ∀ M', z_fr [197] [] M0 M' → (∀ s : Nat, s < 2 ^ n → z_pv (z_fa fo) (z_fb fo) (z_aw (M0 187)) (z_L (M0 179)) q 1000 67108864 1073741824 s (M' 197 s)) → K M') :
    ∀ (j s : Nat) (M : q_Mem), s + j = 2 ^ n → 0 < s → z_fr [197] [] M0 M → (∀ s' : Nat, s' < s → z_pv (z_fa fo) (z_fb fo) (z_aw (M0 187)) (z_L (M0 179)) q 1000 67108864 1073741824 s' (M 197 s')) → q_v mX12_laysSets d (qPU K) M 9 [some (qR 178), some (qI (s : Int)), none, none, none, none] [] := by
  obtain ⟨n16, en, eq, hq⟩ := id hQ
  have p16 : 2 ^ n ≤ 65536 := by show 2 ^ n ≤ 2 ^ 16; exact Nat.pow_le_pow_right (by decide) n16
  intro j
  induction j with
  | zero =>
    intro s M e h0 fr hP
    have es : s = 2 ^ n := by omega
    refine bX12_laysSets_9 _ ?_
    rw [fr.2 34 (by decide), en, q_shl1 n (by omega)]
    exact ⟨fun _ => h M fr (by rw [← es]; exact hP), fun g => absurd (by omega) g⟩
  | succ j ih =>
    intro s M e h0 fr hP
    have o1 : M 179 = M0 179 := fr.1 179 (by decide) (by decide)
    have w1 : M 187 = M0 187 := fr.1 187 (by decide) (by decide)
    obtain ⟨i, hi, hl⟩ := z_low_ex h0 (show s < 2 ^ n by omega)
    refine bX12_laysSets_9 _ ?_
    rw [fr.2 34 (by decide), en, q_shl1 n (by omega)]
    refine ⟨fun g => by omega, fun _ => k_lowest (by omega) (by omega) (by omega) hl (fun x ex => ?_)⟩
    rw [q_add_eq (by omega), show (i : Int) + 1 = ((i + 1 : Nat) : Int) by omega] at ex
    subst ex
    refine l_ls33 (by omega) (z_W_fr hW fr (by decide) (by decide) (by decide) (by decide)) (q := q) (n := n) ⟨n16, by rw [fr.2 34 (by decide)]; exact en, by rw [fr.1 196 (by decide) (by decide)]; exact eq, hq⟩ (by omega) hl hi (by rw [o1, w1]; exact hP) (fun v M' pv e' => ?_) (n - (i + 1)) (i + 1) 1073741824 (by omega) (by omega) (z_bs_0 (by decide) (by decide) (by decide))
    rw [q_add_eq (by omega), show (s : Int) + 1 = ((s + 1 : Nat) : Int) by omega]
    refine ih (s + 1) M' (by omega) (by omega) (z_fr_u fr e' (by decide) (by decide)) (fun s' hs' => ?_)
    by_cases c : s' = s
    · subst c
      rw [e', q_up_s]
      rw [o1, w1] at pv
      exact pv
    · rw [e', q_up_n (by omega)]
      exact hP s' (by omega)
theorem k_laysSets {d : Nat} {M : q_Mem} {K : q_Mem → Prop} {fo : Nat → Int} {F n : Nat} {q : Nat → Nat} (hd : 2 < d) (hW : z_W M fo F) (hQ : z_Q M q F n) (h : ∀ M', z_fr [197] [] M M' → (∀ s : Nat, s < 2 ^ n → z_pv (z_fa fo) (z_fb fo) (z_aw (M 187)) (z_L (M 179)) q 1000 67108864 1073741824 s (M' 197 s)) → K M') : q_kU yX12_laysSets mX12_laysSets d [qR 178] M K :=
  q_goU hd rfl (plainFor_of_name (by decide +kernel)) rfl (fun h => nomatch h) (Nat.le_of_ble_eq_true rfl) (fun d hd => bX12_laysSets_0 (fun M1 e1 => by
    have f1 : z_fr [197] [] M M1 := z_fr_u z_fr_rf e1 (by decide) (by decide)
    have pos := Nat.two_pow_pos n
    exact l_ls9 hd hW hQ h (2 ^ n - 1) 1 M1 (by omega) (by decide) f1 (fun s' hs' => Or.inl ⟨0, 0, by rw [show s' = 0 by omega]; exact z_po_zero, by rw [e1, show s' = 0 by omega]; exact q_up_s⟩)))
theorem l_lp54 {d : Nat} {K : q_Mem → Prop} {M0 : q_Mem} {ls : List Nat} (hls : ∀ l ∈ ls, l < 16) (h16 : ls.length ≤ 16) (e5 : ∀ i : Nat, i < ls.length → M0 195 i = (ls.getD i 0 : Int))
    (h : ∀ (M' : q_Mem) (jn' : Nat), z_fr [] [35] M0 M' → M' 178 35 = (jn' : Int) → (∃ jn, M0 178 35 = ((jn : Nat) : Int) ∧ jn' = z_xrb jn ls) → K M') {jn : Nat} (hj : jn < 65536) (ej : M0 178 35 = (jn : Int)) :
    ∀ (j i a : Nat) (M : q_Mem), i + j = ls.length → z_fr [] [35] M0 M → M 178 35 = (a : Int) → a < 65536 → z_xrb a (ls.drop i) = z_xrb jn ls → q_v mX12_laysPair d (qPU K) M 54 [some (qR 178), none, none, some (qI (ls.length : Int)), some (qI (i : Int))] [] := by
  intro j
  induction j with
  | zero =>
    intro i a M e fr ea ha q
    have dn : ls.drop i = [] := List.drop_eq_nil_of_le (by omega)
    rw [dn] at q
    exact bX12_laysPair_54 _ _ ⟨fun _ => h M a fr ea ⟨jn, ej, q⟩, fun g => absurd (by omega) g⟩
  | succ j ih =>
    intro i a M e fr ea ha q
    have dr : ls.drop i = ls.getD i 0 :: ls.drop (i + 1) := by
      rw [List.drop_eq_getElem_cons (by omega)]
      congr 1
      rw [List.getD_eq_getElem?_getD, List.getElem?_eq_getElem (by omega)]
      rfl
    have hm : ls.getD i 0 < 16 := by
      refine hls _ ?_
      rw [List.getD_eq_getElem?_getD, List.getElem?_eq_getElem (by omega)]
      exact List.getElem_mem (by omega)
    refine bX12_laysPair_54 _ _ ⟨fun g => by omega, fun _ => ⟨by omega, fun M2 e2 => ?_⟩⟩
    rw [ea, fr.1 195 (by decide) (by decide), e5 i (by omega), q_xor1 (by omega) (by omega)] at e2
    rw [q_add_eq (by omega), show (i : Int) + 1 = ((i + 1 : Nat) : Int) by omega]
    refine ih (i + 1) (a ^^^ 2 ^ ls.getD i 0) M2 (by omega) (z_fr_uf fr e2 (by decide)) (by rw [e2, q_up_s]) (Nat.xor_lt_two_pow (n := 16) ha (Nat.pow_lt_pow_right (a := 2) (by decide) hm)) ?_
    rw [dr] at q
    exact q
theorem k_laysPair {d : Nat} {M : q_Mem} {K : q_Mem → Prop} {fo : Nat → Int} {F n i j jn W k : Nat} {q : Nat → Nat} {ls : List Nat} {p : Nat → Int} (hd : 3 < d) (hW : z_W M fo F) (hQ : z_Q M q F n) (hi : i < n) (hj : j < n) (hp : ∀ f : Nat, f < F → M 198 f = p f) (ej : M 178 35 = (jn : Int)) (hjn : jn < 65536) (ho : z_op (z_fa fo) (z_fb fo) (z_aw (M 187)) (z_L (M 179)) (q i) (q j) W k) (hls : z_pth (z_fa fo) (z_fb fo) (z_aw (M 187)) (z_L (M 179)) (q j) k (q i) ls) (h : ∀ M', z_fr [195, 198] [35] M M' → (∀ f : Nat, f < F → M' 198 f = z_up2 p (q i) (q j) f) → M' 178 35 = ((jn ^^^ z_orb 0 ls : Nat) : Int) → K M') : q_kU yX12_laysPair mX12_laysPair d [qR 178, qI (i : Int), qI (j : Int)] M K := by
  obtain ⟨hnet, h16, hfo, hin2, hw, hT⟩ := id hW
  obtain ⟨n16, en, eq, hq⟩ := id hQ
  have hqi := hq i
  have hqj := hq j
  refine q_goU hd rfl (plainFor_of_name (by decide +kernel)) rfl (fun h => nomatch h) (Nat.le_of_ble_eq_true rfl) (fun d hd => bX12_laysPair_0 _ _ ?_)
  rw [eq i hi, eq j hj]
  refine ⟨by omega, by omega, by omega, fun M4 e4 => ?_⟩
  have m4 : M4 196 = M 196 := by rw [e4, q_up_o (by decide)]
  rw [m4, eq i hi, eq j hj]
  refine ⟨by omega, by omega, by omega, fun M8 e8 => ?_⟩
  have f8 : z_fr [195, 198] [35] M M8 := z_fr_u (z_fr_u z_fr_rf e4 (by decide) (by decide)) e8 (by decide) (by decide)
  have m8 : M8 196 = M 196 := f8.1 196 (by decide) (by decide)
  have o8 : M8 179 = M 179 := f8.1 179 (by decide) (by decide)
  have w8 : M8 187 = M 187 := f8.1 187 (by decide) (by decide)
  have j8 : M8 178 35 = (jn : Int) := by rw [e8, q_up_o (by decide), e4, q_up_o (by decide)]; exact ej
  rw [m8, eq i hi, eq j hj]
  refine ⟨by omega, by omega, k_laysCrossed (by omega) (z_W_fr hW f8 (by decide) (by decide) (by decide) (by decide)) hqi hqj (fun W' k' ls' M' ho' hk' hp' f' q' => ?_) (fun no => ?_)⟩
  · rw [o8, w8] at ho' hp'
    have u := z_op_un ho ho'
    obtain ⟨rfl, rfl⟩ := u
    have el := z_pth_un hls hp'
    subst el
    have len := z_pth_len hls
    have lt := z_pth_lt hls
    have L16 := z_net_L16 hnet
    rw [← len]
    have jj : M' 178 35 = (jn : Int) := by rw [f'.2 35 (by decide)]; exact j8
    refine l_lp54 (ls := ls) (M0 := M') (fun l hl => by have := lt l hl; omega) (by omega) (fun i hi => q' i (by omega)) (fun M2 jn' fr2 e2 ⟨jn0, x1, x2⟩ => ?_) hjn jj ls.length 0 jn M' (by omega) z_fr_rf jj hjn rfl
    have ejn : jn0 = jn := by rw [jj] at x1; omega
    subst ejn
    refine h M2 (z_fr_tr (z_fr_tr f8 (z_fr_mono f' (by decide) (by decide))) (z_fr_mono fr2 (by decide) (by decide))) (fun f hf => ?_) (by rw [e2, x2, z_xrb_orb (z_pth_nd hls ho)])
    rw [fr2.1 198 (by decide) (by decide), f'.1 198 (by decide) (by decide), e8]
    unfold z_up2
    by_cases c : f = q j
    · rw [if_pos c, c, q_up_s]
    · rw [if_neg c, q_up_n (by omega), e4]
      by_cases c2 : f = q i
      · rw [if_pos c2, c2, q_up_s]
      · rw [if_neg c2, q_up_n (by omega)]
        exact hp f hf
  · rw [o8, w8] at no
    exact absurd ho.1 (no _ _)
