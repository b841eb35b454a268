-- all sides: what each is worth; how many are greatest, stuck; how far
def z_V2 (o : Int → Int) (s : Nat) : Int := z_worth o (z_wr o) s
theorem z_worth_c {o w w' : Int → Int} {s : Nat} (h : ∀ l : Nat, l < z_L o → w l = w' l) : z_worth o w s = z_worth o w' s := z_sum_congr (fun l hl => by rw [h l hl])
theorem z_worth_bd {o w : Int → Int} {s : Nat} (hn : z_net o) (h : ∀ l : Nat, l < z_L o → -99 ≤ w l ∧ w l ≤ 99) : -1584 ≤ z_worth o w s ∧ z_worth o w s ≤ 1584 := by
  have hL := z_net_L16 hn
  have := z_sum_bd (f := fun l => if z_cut o s l then w l else 0) (b := 99) (n := z_L o) (fun k hk => by have := h k hk; show -99 ≤ (if z_cut o s k then w k else 0) ∧ (if z_cut o s k then w k else 0) ≤ 99; split <;> omega)
  unfold z_worth
  omega
theorem z_V2_bd {o : Int → Int} {s : Nat} (hn : z_net o) : -1584 ≤ z_V2 o s ∧ z_V2 o s ≤ 1584 := z_worth_bd hn (fun l _ => z_wr_bd)
theorem z_V2_0 {o : Int → Int} : z_V2 o 0 = 0 := by
  unfold z_V2 z_worth
  have : ∀ n, z_sum (fun l => if z_cut o 0 l then z_wr o l else 0) n = 0 := by
    intro n
    induction n with
    | zero => rfl
    | succ n ih => show z_sum _ n + (if z_cut o 0 n then z_wr o n else 0) = 0; rw [ih]; simp [z_cut]
  exact this _
def z_hi (V : Nat → Int) : Nat → Int
  | 0 => 0
  | n + 1 => max (z_hi V n) (V n)
def z_lo (V : Nat → Int) : Nat → Int
  | 0 => 0
  | n + 1 => min (z_lo V n) (V n)
theorem z_hi_ge {V : Nat → Int} : ∀ {n s : Nat}, s < n → V s ≤ z_hi V n
  | n + 1, s, h => by
    show V s ≤ max (z_hi V n) (V n)
    by_cases e : s = n
    · subst e; omega
    · have := z_hi_ge (V := V) (n := n) (s := s) (by omega); omega
theorem z_lo_le {V : Nat → Int} : ∀ {n s : Nat}, s < n → z_lo V n ≤ V s
  | n + 1, s, h => by
    show min (z_lo V n) (V n) ≤ V s
    by_cases e : s = n
    · subst e; omega
    · have := z_lo_le (V := V) (n := n) (s := s) (by omega); omega
theorem z_hi_bd {V : Nat → Int} {b : Int} (hb : 0 ≤ b) (h : ∀ s, -b ≤ V s ∧ V s ≤ b) : ∀ n, (0 ≤ z_hi V n ∧ z_hi V n ≤ b) ∧ (-b ≤ z_lo V n ∧ z_lo V n ≤ 0)
  | 0 => ⟨⟨Int.le_refl _, hb⟩, by show -b ≤ 0 ∧ (0 : Int) ≤ 0; omega⟩
  | n + 1 => by
    have ih := z_hi_bd hb h n
    have := h n
    show (0 ≤ max (z_hi V n) (V n) ∧ max (z_hi V n) (V n) ≤ b) ∧ (-b ≤ min (z_lo V n) (V n) ∧ min (z_lo V n) (V n) ≤ 0)
    omega
theorem z_hi_at {V : Nat → Int} (h0 : V 0 = 0) : ∀ n, ∃ s, s < n + 1 ∧ V s = z_hi V (n + 1)
  | 0 => ⟨0, by omega, by show V 0 = max 0 (V 0); omega⟩
  | n + 1 => by
    obtain ⟨s, h1, h2⟩ := z_hi_at h0 n
    by_cases c : z_hi V (n + 1) ≤ V (n + 1)
    · exact ⟨n + 1, by omega, by show V (n + 1) = max (z_hi V (n + 1)) (V (n + 1)); omega⟩
    · exact ⟨s, by omega, by show V s = max (z_hi V (n + 1)) (V (n + 1)); omega⟩
/-- the reference's row of worths -/
def z_RT (o : Int → Int) (M : q_Mem) : Prop := M 178 39 = ((2 ^ z_N o : Nat) : Int) ∧ M 178 40 = z_hi (z_V2 o) (2 ^ z_N o) ∧ M 178 41 = z_lo (z_V2 o) (2 ^ z_N o) ∧ ∀ s : Nat, s < 2 ^ z_N o → M 199 s = z_V2 o s
theorem z_2N {o : Int → Int} (hn : z_net o) : 2 ^ z_N o ≤ 1024 ∧ 0 < 2 ^ z_N o := ⟨by show 2 ^ z_N o ≤ 2 ^ 10; exact Nat.pow_le_pow_right (by decide) (z_net_N10 hn), Nat.two_pow_pos _⟩
theorem l_lws {d : Nat} {K : q_Mem → Prop} {M0 : q_Mem} (hd : 2 ≤ d) (hn : z_net (M0 179)) (hw : z_wts (M0 179) (M0 187) (z_L (M0 179)))
    (h : ∀ M', z_fr [199] [39, 40, 41] M0 M' → z_RT (M0 179) M' → K M') :
    ∀ (j i : Nat) (M : q_Mem), i + j = 2 ^ z_N (M0 179) → z_fr [199] [39, 40, 41] M0 M → M 178 39 = ((2 ^ z_N (M0 179) : Nat) : Int) → M 178 40 = z_hi (z_V2 (M0 179)) i → M 178 41 = z_lo (z_V2 (M0 179)) i → (∀ s : Nat, s < i → M 199 s = z_V2 (M0 179) s) → q_v mX12_laysWorths d (qPU K) M 29 [some (qR 178), some (qI (i : Int))] [] := by
  have p10 := z_2N hn
  intro j
  induction j with
  | zero =>
    intro i M e fr e39 e40 e41 q
    have ei : i = 2 ^ z_N (M0 179) := by omega
    refine bX12_laysWorths_29 _ ?_
    rw [e39]
    exact ⟨fun _ => h M fr ⟨e39, by rw [e40, ei], by rw [e41, ei], by rw [← ei]; exact q⟩, fun g => absurd (by omega) g⟩
  | succ j ih =>
    intro i M e fr e39 e40 e41 q
    have o1 : M 179 = M0 179 := fr.1 179 (by decide) (by decide)
    have w1 : M 187 = M0 187 := fr.1 187 (by decide) (by decide)
    have bd : ∀ l : Nat, l < z_L (M 179) → -99 ≤ M 187 l ∧ M 187 l ≤ 99 := fun l hl => by rw [w1, hw l (by rw [o1] at hl; exact hl)]; exact z_wt_bd
    have ev : z_worth (M 179) (M 187) i = z_V2 (M0 179) i := by
      rw [o1, w1]
      exact z_worth_c (fun l hl => z_wts_wr hw hl)
    refine bX12_laysWorths_29 _ ?_
    rw [e39]
    refine ⟨fun g => by omega, fun _ => k_worthOf (by omega) (by omega) (by rw [o1]; exact hn) bd ?_⟩
    rw [ev]
    refine ⟨by omega, fun M4 e4 => ⟨by omega, ?_⟩⟩
    have m40 : M4 178 40 = z_hi (z_V2 (M0 179)) i := by rw [e4, q_up_o (by decide)]; exact e40
    have m41 : M4 178 41 = z_lo (z_V2 (M0 179)) i := by rw [e4, q_up_o (by decide)]; exact e41
    have m39 : M4 178 39 = ((2 ^ z_N (M0 179) : Nat) : Int) := by rw [e4, q_up_o (by decide)]; exact e39
    have mi : M4 199 i = z_V2 (M0 179) i := by rw [e4, q_up_s]
    have q4 : ∀ s : Nat, s < i + 1 → M4 199 s = z_V2 (M0 179) s := by
      intro s hs
      by_cases c : s = i
      · subst c; exact mi
      · rw [e4, q_up_n (by omega)]; exact q s (by omega)
    rw [m40, mi]
    have fin : ∀ y : Int, y = z_hi (z_V2 (M0 179)) (i + 1) → q_v mX12_laysWorths d (qPU K) M4 75 [some (qR 178), some (qI (i : Int))] [qI y, qR 178] := by
      intro y ey
      refine bX12_laysWorths_75 _ _ _ (by decide +kernel) (fun M1 e1 => ?_)
      have n41 : M1 178 41 = z_lo (z_V2 (M0 179)) i := by rw [e1, q_up_n (by decide)]; exact m41
      have n199 : M1 199 = M4 199 := by rw [e1, q_up_o (by decide)]
      rw [n41, n199, mi, q_add_eq (by omega), show (i : Int) + 1 = ((i + 1 : Nat) : Int) by omega]
      have es : z_lo (z_V2 (M0 179)) (i + 1) = min (z_lo (z_V2 (M0 179)) i) (z_V2 (M0 179) i) := rfl
      refine ⟨by omega, fun g M3 e3 => ?_, fun g => ⟨by omega, fun M3 e3 => ?_⟩⟩
      · refine ih (i + 1) M3 (by omega) (z_fr_uf (z_fr_uf (z_fr_u fr e4 (by decide) (by decide)) e1 (by decide)) e3 (by decide)) (by rw [e3, q_up_n (by decide), e1, q_up_n (by decide)]; exact m39) (by rw [e3, q_up_n (by decide), e1, q_up_s]; exact ey) (by rw [e3, q_up_s, es, Int.min_eq_left g]) (by rw [e3, q_up_o (by decide), n199]; exact q4)
      · refine ih (i + 1) M3 (by omega) (z_fr_uf (z_fr_uf (z_fr_u fr e4 (by decide) (by decide)) e1 (by decide)) e3 (by decide)) (by rw [e3, q_up_n (by decide), e1, q_up_n (by decide)]; exact m39) (by rw [e3, q_up_n (by decide), e1, q_up_s]; exact ey) (by rw [e3, q_up_s, es, Int.min_eq_right (by omega)]) (by rw [e3, q_up_o (by decide), n199]; exact q4)
    have eh : z_hi (z_V2 (M0 179)) (i + 1) = max (z_hi (z_V2 (M0 179)) i) (z_V2 (M0 179) i) := rfl
    exact ⟨fun g => fin _ (by rw [eh, Int.max_eq_left g]), fun g => ⟨by omega, fin _ (by rw [eh, Int.max_eq_right (by omega)])⟩⟩
abbrev z_WS : List Int := [185, 186, 187, 199]
abbrev z_WF : List Int := [39, 40, 41]
theorem k_laysWorths {d : Nat} {M : q_Mem} {K : q_Mem → Prop}  (hd : 4 < d) (hE : z_E (M 179)) (h : ∀ M', z_fr z_WS z_WF M M' → z_wts (M 179) (M' 187) (z_L (M 179)) → z_RT (M 179) M' → K M') : q_kU yX12_laysWorths mX12_laysWorths d [qR 178] M K :=
  q_goU hd rfl (plainFor_of_name (by decide +kernel)) rfl (fun h => nomatch h) (Nat.le_of_ble_eq_true rfl) (fun d hd => bX12_laysWorths_0 (k_laysWeights (by omega) hE.1 hE.2.1 hE.2.2.1 hE.2.2.2.1 (fun M1 f1 w1 M2 e2 M3 e3 M4 e4 => by
    have o1 : M1 179 = M 179 := f1.1 179 (by decide) (by decide)
    have hn := hE.1
    have f4 : z_fr z_WS z_WF M M4 := z_fr_uf (z_fr_uf (z_fr_uf (z_fr_mono f1 (by decide) (by decide)) e2 (by decide)) e3 (by decide)) e4 (by decide)
    have o4 : M4 179 = M 179 := f4.1 179 (by decide) (by decide)
    have w4 : M4 187 = M1 187 := by rw [e4, q_up_o (by decide), e3, q_up_o (by decide), e2, q_up_o (by decide)]
    refine l_lws (M0 := M4) (by omega) (by rw [o4]; exact hn) (by rw [o4, w4]; exact w1) (fun M' f' r' => h M' (z_fr_tr f4 (z_fr_mono f' (by decide) (by decide))) (by rw [f'.1 187 (by decide) (by decide), w4]; exact w1) (by rw [o4] at r'; exact r')) (2 ^ z_N (M4 179)) 0 M4 (by omega) z_fr_rf ?_ (by rw [e4, q_up_n (by decide), e3, q_up_s]; rfl) (by rw [e4, q_up_s]; rfl) (fun s hs => by omega)
    rw [o4, e4, q_up_n (by decide), e3, q_up_n (by decide), e2, q_up_s, o1, z_net_N hn, q_shl1 _ (by have := z_net_N10 hn; omega)])))
/-- the class's table -/
def z_CT (o : Int → Int) (M : q_Mem) : Prop := M 117 2 = (z_N o : Int) ∧ M 117 3 = ((2 ^ z_N o : Nat) : Int) ∧ M 117 0 = z_hi (z_V2 o) (2 ^ z_N o) ∧ M 117 1 = z_lo (z_V2 o) (2 ^ z_N o) ∧ ∀ s : Nat, s < 2 ^ z_N o → M 118 s = z_V2 o s
theorem z_cutq {s a b : Nat} (hs : s < 2147483648) (ha : a < 32) (hb : b < 32) : q_and (q_xor (q_shr (s : Int) (a : Int)) (q_shr (s : Int) (b : Int))) 1 = 0 ↔ s.testBit a = s.testBit b := by
  have la : s >>> a ≤ s := by rw [Nat.shiftRight_eq_div_pow]; exact Nat.div_le_self _ _
  have lb : s >>> b ≤ s := by rw [Nat.shiftRight_eq_div_pow]; exact Nat.div_le_self _ _
  have lx : s >>> a ^^^ s >>> b < 2147483648 := Nat.xor_lt_two_pow (n := 31) (by omega) (by omega)
  rw [q_shr_nat hs ha, q_shr_nat hs hb, q_xor_nat (by omega) (by omega), show (1 : Int) = ((1 : Nat) : Int) from rfl, q_and_nat lx (by omega)]
  have e0 : ∀ x : Nat, (x &&& 1) = 0 ↔ x.testBit 0 = false := by
    intro x
    rw [Nat.and_one_is_mod, Nat.testBit_zero, decide_eq_false_iff_not]
    omega
  have : (((s >>> a ^^^ s >>> b) &&& 1 : Nat) : Int) = 0 ↔ ((s >>> a ^^^ s >>> b) &&& 1) = 0 := by omega
  rw [this, e0, Nat.testBit_xor, Nat.testBit_shiftRight, Nat.testBit_shiftRight, Nat.add_zero, Nat.add_zero]
  cases s.testBit a <;> cases s.testBit b <;> simp
theorem l_tw44 {d : Nat} {K : q_Mem → Prop} {M : q_Mem} {p : Int} {o : Int → Int} (hd : 1 ≤ d) (hn : z_net o) (hp : z_pn M p o) (hw : ∀ l : Nat, l < z_L o → M 90 l = z_wr o l) {s : Nat} (hs : s < 2 ^ z_N o)
    (h : ∀ M2 M5 M8, M2 = q_up M 118 s (z_V2 o s) → M5 = q_up M2 117 0 (max (M 117 0) (z_V2 o s)) → M8 = q_up M5 117 1 (min (M 117 1) (z_V2 o s)) → q_v mX8_workOut d (qPU K) M8 30 [some (qR 117), some (qR p), some (qR 90), some (qI (q_add (s : Int) 1)), none, none] []) :
    ∀ (j l : Nat), l + j = z_L o → q_v mX8_workOut d (qPU K) M 44 [some (qR 117), some (qR p), some (qR 90), some (qI (s : Int)), some (qI (z_sum (fun l => if z_cut o s l then z_wr o l else 0) l)), some (qI (l : Int))] [] := by
  have kk := z_k4 hp.1
  have p10 := z_2N hn
  have hL := z_net_L16 hn
  have eL := z_net_L hn
  have hN := z_net_N10 hn
  intro j
  induction j with
  | zero =>
    intro l e
    have el : l = z_L o := by omega
    subst el
    refine bX8_workOut_44 _ _ _ _ _ hp.1 (by decide +kernel) ?_
    rw [hp.2.2.1]
    refine ⟨fun _ => ⟨by omega, fun M2 e2 => k_max (by omega) (fun M5 e5 => k_min (by omega) (fun M8 e8 => ?_))⟩, fun g => absurd (by omega) g⟩
    rw [show M2 117 0 = M 117 0 by rw [e2, q_up_o (by decide)]] at e5
    rw [show M5 117 1 = M 117 1 by rw [e5, q_up_n (by decide), e2, q_up_o (by decide)]] at e8
    exact h M2 M5 M8 e2 e5 e8
  | succ j ih =>
    intro l e
    have ends := hp.2.2.2.1 l (by omega)
    have ea := z_net_a hn (l := l) (by omega)
    have eb := z_net_b hn (l := l) (by omega)
    have bd := z_sum_bd (f := fun l => if z_cut o s l then z_wr o l else 0) (b := 99) (n := l) (fun k hk => by have := z_wr_bd (o := o) (i := (k : Int)); show -99 ≤ (if z_cut o s k then z_wr o k else 0) ∧ (if z_cut o s k then z_wr o k else 0) ≤ 99; split <;> omega)
    have wb := z_wr_bd (o := o) (i := (l : Int))
    have nx := ih (l + 1) (by omega)
    have ex : z_sum (fun l => if z_cut o s l then z_wr o l else 0) (l + 1) = z_sum (fun l => if z_cut o s l then z_wr o l else 0) l + (if z_cut o s l then z_wr o l else 0) := rfl
    refine bX8_workOut_44 _ _ _ _ _ hp.1 (by decide +kernel) ?_
    rw [hp.2.2.1, kk.1, kk.2.1, ends.1, ends.2, ea.1, eb.1, z_cutq (by omega) (by omega) (by omega), show q_ln 90 = 16 by decide +kernel, hw l (by omega), q_add_eq (a := (l : Int)) (by omega)]
    refine ⟨fun g => by omega, fun _ => ⟨by omega, by omega, fun g => ?_, fun g => ⟨by omega, fun x e2 => ?_⟩⟩⟩
    · have : z_cut o s l = false := by unfold z_cut; rw [g]; simp
      rw [ex, this] at nx
      simpa using nx
    · have : z_cut o s l = true := by unfold z_cut; simpa using g
      rw [ex, this] at nx
      rw [e2, q_add_eq (by omega)]
      exact nx
theorem l_tw30 {d : Nat} {K : q_Mem → Prop} {M0 : q_Mem} {p : Int} {o : Int → Int} (hd : 1 ≤ d) (hn : z_net o) (hps : p ∉ [117, 118] ∧ p + 1 ∉ [117, 118] ∧ p + 2 ∉ [117, 118] ∧ p + 4 ∉ [117, 118]) (hp : z_pn M0 p o) (hw : ∀ l : Nat, l < z_L o → M0 90 l = z_wr o l)
    (h : ∀ M', z_cf [117, 118] M0 M' → z_CT o M' → K M') :
    ∀ (j i : Nat) (M : q_Mem), i + j = 2 ^ z_N o → z_cf [117, 118] M0 M → M 117 2 = (z_N o : Int) → M 117 3 = ((2 ^ z_N o : Nat) : Int) → M 117 0 = z_hi (z_V2 o) i → M 117 1 = z_lo (z_V2 o) i → (∀ s : Nat, s < i → M 118 s = z_V2 o s) → q_v mX8_workOut d (qPU K) M 30 [some (qR 117), some (qR p), some (qR 90), some (qI (i : Int)), none, none] [] := by
  have p10 := z_2N hn
  intro j
  induction j with
  | zero =>
    intro i M e f e2 e3 e0 e1 q
    have ei : i = 2 ^ z_N o := by omega
    refine bX8_workOut_30 _ _ _ hp.1 (by decide +kernel) ?_
    rw [e3]
    exact ⟨fun _ => h M f ⟨e2, e3, by rw [e0, ei], by rw [e1, ei], by rw [← ei]; exact q⟩, fun g => absurd (by omega) g⟩
  | succ j ih =>
    intro i M e f e2 e3 e0 e1 q
    refine bX8_workOut_30 _ _ _ hp.1 (by decide +kernel) ?_
    rw [e3]
    refine ⟨fun g => by omega, fun _ => l_tw44 hd hn (z_pn_cf hp f hps.1 hps.2.1 hps.2.2.1 hps.2.2.2) (by rw [f 90 (by decide)]; exact hw) (s := i) (by omega) (fun M2 M5 M8 q2 q5 q8 => ?_) (z_L o) 0 (by omega)⟩
    rw [q_add_eq (by omega), show (i : Int) + 1 = ((i + 1 : Nat) : Int) by omega]
    refine ih (i + 1) M8 (by omega) (z_cf_u (z_cf_u (z_cf_u f q2 (by decide)) q5 (by decide)) q8 (by decide)) (by rw [q8, q_up_n (by decide), q5, q_up_n (by decide), q2, q_up_o (by decide)]; exact e2) (by rw [q8, q_up_n (by decide), q5, q_up_n (by decide), q2, q_up_o (by decide)]; exact e3) (by rw [q8, q_up_n (by decide), q5, q_up_s, e0]; rfl) (by rw [q8, q_up_s, e1]; rfl) (fun s hs => ?_)
    rw [q8, q_up_o (by decide), q5, q_up_o (by decide)]
    by_cases c : s = i
    · subst c; rw [q2, q_up_s]
    · rw [q2, q_up_n (by omega)]; exact q s (by omega)
theorem k_table {d : Nat} {M : q_Mem} {K : q_Mem → Prop} {p : Int} {o : Int → Int} (hd : 1 < d) (hn : z_net o) (hps : p ∉ [117, 118] ∧ p + 1 ∉ [117, 118] ∧ p + 2 ∉ [117, 118] ∧ p + 4 ∉ [117, 118]) (hp : z_pn M p o) (hw : ∀ l : Nat, l < z_L o → M 90 l = z_wr o l) (h : ∀ M', z_cf [117, 118] M M' → z_CT o M' → K M') : q_kU yX8_workOut mX8_workOut d [qR 117, qR p, qR 90] M K :=
  q_goU hd rfl (plainFor_of_name (by decide +kernel)) rfl (fun h => nomatch h) (Nat.le_of_ble_eq_true rfl) (fun d hd => bX8_workOut_0 _ _ hp.1 (by decide +kernel) (fun M1 e1 M2 e2 M3 e3 M4 e4 => by
    have hN := z_net_N10 hn
    have f4 : z_cf [117, 118] M M4 := z_cf_u (z_cf_u (z_cf_u (z_cf_u z_cf_rf e1 (by decide)) e2 (by decide)) e3 (by decide)) e4 (by decide)
    have n1 : M1 117 2 = (z_N o : Int) := by rw [e1, q_up_s, hp.2.1]; exact z_net_N hn
    rw [n1, q_shl1 _ (by omega)] at e2
    refine l_tw30 (M0 := M) hd hn hps hp hw h (2 ^ z_N o) 0 M4 (by omega) f4 ?_ ?_ (by rw [e4, q_up_n (by decide), e3, q_up_s]; rfl) (by rw [e4, q_up_s]; rfl) (fun s hs => by omega)
    · rw [e4, q_up_n (by decide), e3, q_up_n (by decide), e2, q_up_n (by decide)]; exact n1
    · rw [e4, q_up_n (by decide), e3, q_up_n (by decide), e2, q_up_s]))
/-- how many -/
def z_best (o : Int → Int) : Nat := z_cn (fun s => decide (z_V2 o s = z_hi (z_V2 o) (2 ^ z_N o))) (2 ^ z_N o)
theorem l_cbest {d : Nat} {K : Int → q_Mem → Prop} {M : q_Mem} {o : Int → Int} (hn : z_net o) (ht : z_CT o M) (h : K (z_best o : Int) M) :
    ∀ (j i : Nat), i + j = 2 ^ z_N o → q_v mX8_bestSets d (qPI K) M 4 [some (qR 117), some (qI (z_cn (fun s => decide (z_V2 o s = z_hi (z_V2 o) (2 ^ z_N o))) i : Int)), some (qI (i : Int))] [] := by
  have p10 := z_2N hn
  intro j
  induction j with
  | zero =>
    intro i e
    have ei : i = 2 ^ z_N o := by omega
    subst ei
    refine bX8_bestSets_4 _ _ ?_
    rw [ht.2.1]
    exact ⟨fun _ => h, fun g => absurd (by omega) g⟩
  | succ j ih =>
    intro i e
    have cl := z_cn_le (p := fun s => decide (z_V2 o s = z_hi (z_V2 o) (2 ^ z_N o))) (n := i)
    have nx := ih (i + 1) (by omega)
    have ex : z_cn (fun s => decide (z_V2 o s = z_hi (z_V2 o) (2 ^ z_N o))) (i + 1) = z_cn (fun s => decide (z_V2 o s = z_hi (z_V2 o) (2 ^ z_N o))) i + (if decide (z_V2 o i = z_hi (z_V2 o) (2 ^ z_N o)) then 1 else 0) := rfl
    refine bX8_bestSets_4 _ _ ?_
    rw [ht.2.1, ht.2.2.1, ht.2.2.2.2 i (by omega), q_add_eq (a := (i : Int)) (by omega), q_add_eq (by omega)]
    refine ⟨fun g => by omega, fun _ => ⟨by omega, fun g => ?_, fun g => ?_⟩⟩
    · rw [ex, decide_eq_false g] at nx; exact nx
    · rw [ex, decide_eq_true g] at nx; exact nx
theorem k_cbest {d : Nat} {M : q_Mem} {K : Int → q_Mem → Prop} {o : Int → Int} (hd : 0 < d) (hn : z_net o) (ht : z_CT o M) (h : K (z_best o : Int) M) : q_kI yX8_bestSets mX8_bestSets d [qR 117] M K :=
  q_goI hd rfl (plainFor_of_name (by decide +kernel)) rfl (fun h => nomatch h) (Nat.le_of_ble_eq_true rfl) (fun d hd => bX8_bestSets_0 (l_cbest hn ht h (2 ^ z_N o) 0 (by omega)))
theorem l_best {d : Nat} {K : Int → q_Mem → Prop} {M : q_Mem} {o : Int → Int} (hn : z_net o) (ht : z_RT o M) (h : K (z_best o : Int) M) :
    ∀ (j i : Nat), i + j = 2 ^ z_N o → q_v mX12_best d (qPI K) M 13 [some (qR 178), some (qI (z_cn (fun s => decide (z_V2 o s = z_hi (z_V2 o) (2 ^ z_N o))) i : Int)), some (qI (i : Int))] [] := by
  have p10 := z_2N hn
  intro j
  induction j with
  | zero =>
    intro i e
    have ei : i = 2 ^ z_N o := by omega
    subst ei
    refine bX12_best_13 _ _ ?_
    rw [ht.1]
    exact ⟨fun _ => h, fun g => absurd (by omega) g⟩
  | succ j ih =>
    intro i e
    have cl := z_cn_le (p := fun s => decide (z_V2 o s = z_hi (z_V2 o) (2 ^ z_N o))) (n := i)
    have nx := ih (i + 1) (by omega)
    have ex : z_cn (fun s => decide (z_V2 o s = z_hi (z_V2 o) (2 ^ z_N o))) (i + 1) = z_cn (fun s => decide (z_V2 o s = z_hi (z_V2 o) (2 ^ z_N o))) i + (if decide (z_V2 o i = z_hi (z_V2 o) (2 ^ z_N o)) then 1 else 0) := rfl
    refine bX12_best_13 _ _ ?_
    rw [ht.1, ht.2.1, ht.2.2.2 i (by omega), q_add_eq (a := (i : Int)) (by omega), q_add_eq (by omega), q_add_eq (by omega)]
    refine ⟨fun g => by omega, fun _ => ⟨by omega, fun g x e2 => ?_, fun g x e2 => ?_⟩⟩
    · rw [ex, decide_eq_false g] at nx; rw [e2]; exact nx
    · rw [ex, decide_eq_true g] at nx; rw [e2]; exact nx
