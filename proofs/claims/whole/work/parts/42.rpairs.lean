-- the reference's pairing, whole; what it rests on is of the links alone
section CONG
variable {fa fb aw aw' q : Nat → Nat} {L : Nat}
theorem z_wl_c (h : ∀ l, l < L → aw l = aw' l) : ∀ {k f g W : Nat}, z_wl fa fb aw L k f g W → z_wl fa fb aw' L k f g W
  | 0, f, g, W, x => x
  | k + 1, f, g, W, ⟨l, b, W', h1, h2, h3, h4⟩ => ⟨l, b, W', h1, h2, by rw [← h l h1]; exact h3, z_wl_c h h4⟩
theorem z_op_c (h : ∀ l, l < L → aw l = aw' l) {f g W k : Nat} (x : z_op fa fb aw L f g W k) : z_op fa fb aw' L f g W k :=
  ⟨z_wl_c h x.1, fun W' k' y => x.2 W' k' (z_wl_c (fun l hl => (h l hl).symm) y)⟩
theorem z_fl_c (h : ∀ l, l < L → aw l = aw' l) {g f l b : Nat} (x : z_fl fa fb aw L g f l b) : z_fl fa fb aw' L g f l b := by
  obtain ⟨h1, h2, W, k, h3, h4⟩ := x
  exact ⟨h1, h2, W, k, z_op_c h h3, by rw [← h l h1]; exact z_op_c h h4⟩
theorem z_pth_c (h : ∀ l, l < L → aw l = aw' l) {g : Nat} : ∀ {k f : Nat} {ls : List Nat}, z_pth fa fb aw L g k f ls → z_pth fa fb aw' L g k f ls
  | 0, f, [], x => x
  | 0, f, _ :: _, x => x.elim
  | _ + 1, f, [], x => x.elim
  | k + 1, f, l :: ls, ⟨b, h1, h2, h3⟩ => ⟨b, z_fl_c h h1, fun l' b' hl x => h2 l' b' hl (z_fl_c (fun l hl => (h l hl).symm) x), z_pth_c h h3⟩
theorem z_pr_c (h : ∀ l, l < L → aw l = aw' l) : ∀ {m s W k : Nat}, z_pr fa fb aw L q m s W k → z_pr fa fb aw' L q m s W k
  | 0, s, W, k, x => x
  | m + 1, s, W, k, ⟨i, j, W1, k1, W2, k2, a1, a2, a3, a4, a5, a6, a7⟩ => ⟨i, j, W1, k1, W2, k2, a1, a2, a3, z_op_c h a4, z_pr_c h a5, a6, a7⟩
theorem z_po_c (h : ∀ l, l < L → aw l = aw' l) {s W k : Nat} (x : z_po fa fb aw L q s W k) : z_po fa fb aw' L q s W k := by
  obtain ⟨⟨m, a⟩, b⟩ := x
  exact ⟨⟨m, z_pr_c h a⟩, fun m' W' k' y => b m' W' k' (z_pr_c (fun l hl => (h l hl).symm) y)⟩
theorem z_pj_c (h : ∀ l, l < L → aw l = aw' l) {s i j : Nat} (x : z_pj fa fb aw L q s i j) : z_pj fa fb aw' L q s i j := by
  obtain ⟨a, b, W1, k1, W2, k2, c, d, e⟩ := x
  exact ⟨a, b, W1, k1, W2, k2, z_op_c h c, z_po_c h d, z_po_c h e⟩
theorem z_fin_c (h : ∀ l, l < L → aw l = aw' l) : ∀ {m s : Nat} {p p' : Nat → Int} {jn jn' : Nat}, z_fin fa fb aw L q m s p jn p' jn' → z_fin fa fb aw' L q m s p jn p' jn'
  | 0, s, p, p', jn, jn', x => x
  | m + 1, s, p, p', jn, jn', ⟨i, j, W, k, ls, a1, a2, a3, a4, a5, a6⟩ => ⟨i, j, W, k, ls, a1, z_pj_c h a2, fun j' hj x => a3 j' hj (z_pj_c (fun l hl => (h l hl).symm) x), z_op_c h a4, z_pth_c h a5, z_fin_c h a6⟩
end CONG
/-- weights as they are; the pairing by one sign -/
def z_wr (o : Int → Int) : Int → Int := fun i => z_wt o i.toNat (o 1)
theorem z_wr_bd {o : Int → Int} {i : Int} : -99 ≤ z_wr o i ∧ z_wr o i ≤ 99 := z_wt_bd
theorem z_wts_wr {o w : Int → Int} {n : Nat} (h : z_wts o w n) {l : Nat} (hl : l < n) : w l = z_wr o l := by
  rw [h l hl]; unfold z_wr; rw [Int.toNat_natCast]
def z_op1 (o : Int → Int) (sg : Int) : List Nat := z_ol (fun f => z_par (z_fo o) (z_gd (z_wr o) sg (z_L o)) f (2 * z_L o)) (z_fm o)
def z_PF (o : Int → Int) (sg : Int) (p' : Nat → Int) (jn' : Nat) : Prop := ∃ m, z_fin (z_fa (z_fo o)) (z_fb (z_fo o)) (z_aw (z_wr o)) (z_L o) (z_at (z_op1 o sg)) m (2 ^ (z_op1 o sg).length - 1) (fun _ => -1) 0 p' jn'
theorem z_PF_un {o : Int → Int} {sg : Int} {p1 p2 : Nat → Int} {j1 j2 : Nat} (h : z_PF o sg p1 j1) (h' : z_PF o sg p2 j2) : p1 = p2 ∧ j1 = j2 := by
  obtain ⟨m, a⟩ := h
  obtain ⟨m', b⟩ := h'
  exact z_fin_un a b
theorem z_gd_c {w w' : Int → Int} {sg : Int} {L : Nat} (h : ∀ l : Nat, l < L → w l = w' l) : z_gd w sg L = z_gd w' sg L := z_set_congr (fun k hk => by rw [h k hk])
theorem z_op1_in {o : Int → Int} {sg : Int} {i : Nat} (h : 0 < (z_op1 o sg).length) : z_at (z_op1 o sg) i < z_fm o := by
  by_cases c : i < (z_op1 o sg).length
  · exact (z_ol_in c).1
  · have : z_at (z_op1 o sg) i = 0 := by
      unfold z_at
      rw [List.getD_eq_getElem?_getD, List.getElem?_eq_none (by omega)]
      rfl
    rw [this]
    have := (z_ol_in h).1
    omega
/-- the whole set can be paired -/
theorem z_whole {o : Int → Int} (hn : z_net o) (hr : z_ring o 1) {sg : Int} : ∃ W k, z_po (z_fa (z_fo o)) (z_fb (z_fo o)) (z_aw (z_wr o)) (z_L o) (z_at (z_op1 o sg)) (2 ^ (z_op1 o sg).length - 1) W k := by
  have pos := Nat.two_pow_pos (z_op1 o sg).length
  obtain ⟨m, W, k, h⟩ := z_pairs_ex (fa := z_fa (z_fo o)) (fb := z_fb (z_fo o)) (aw := z_aw (z_wr o)) (q := z_at (z_op1 o sg)) (L := z_L o) (n := (z_op1 o sg).length) (z_op1 o sg).length (2 ^ (z_op1 o sg).length - 1) (by omega) z_bc_le (fun g => by
    rw [z_px_congr (r := fun i => z_rb (z_fa (z_fo o)) (z_fb (z_fo o)) (z_aw (z_wr o)) (z_L o) g (z_at (z_op1 o sg) i)) (fun i hi => by rw [Nat.testBit_two_pow_sub_one, decide_eq_true hi, Bool.true_and])]
    have := z_ol_px (p := fun f => z_par (z_fo o) (z_gd (z_wr o) sg (z_L o)) f (2 * z_L o)) (r := z_rb (z_fa (z_fo o)) (z_fb (z_fo o)) (z_aw (z_wr o)) (z_L o) g) (n := z_fm o)
    exact this.trans (z_even (fun x hx => z_fo_in hn hr hx) (z_L o) (Nat.le_refl _)))
  exact z_po_ex h
theorem l_ps100 {d : Nat} {K : Int → q_Mem → Prop} (hd : 4 ≤ d) {fo : Nat → Int} {F n : Nat} {q : Nat → Nat} {w : Int → Int} {L : Nat} {M0 : q_Mem} :
    ∀ (m s : Nat) (M : q_Mem) (p : Nat → Int) (jn W k : Nat), z_fr [195, 198] [35] M0 M → z_W M fo F → z_Q M q F n → M 187 = w → z_L (M 179) = L → (∀ s : Nat, s < 2 ^ n → z_pv (z_fa fo) (z_fb fo) (z_aw w) L q 1000 67108864 1073741824 s (M 197 s)) → s < 2 ^ n → z_pr (z_fa fo) (z_fb fo) (z_aw w) L q m s W k → z_po (z_fa fo) (z_fb fo) (z_aw w) L q s W k → (∀ f : Nat, f < F → M 198 f = p f) → M 178 35 = (jn : Int) → jn < 65536 →
      (∀ (M' : q_Mem) (p' : Nat → Int) (jn' : Nat), z_fr [195, 198] [35] M0 M' → (∀ f : Nat, f < F → M' 198 f = p' f) → M' 178 35 = (jn' : Int) → jn' < 65536 → z_fin (z_fa fo) (z_fb fo) (z_aw w) L q m s p jn p' jn' → K 1 M') →
      q_v mX12_laysPairs d (qPI K) M 100 [some (qR 178), none, some (qI (s : Int)), none, none] [] := by
  intro m
  induction m with
  | zero =>
    intro s M p jn W k fr hW hQ ew eL hP hs hpr ho hp ej hj h
    refine bX12_laysPairs_100 _ ⟨fun _ => h M p jn fr hp ej hj ⟨hpr.1, rfl, rfl⟩, fun g => absurd (by have := hpr.1; omega) g⟩
  | succ m ih =>
    intro s M p jn W k fr hW hQ ew eL hP hs hpr ho hp ej hj h
    obtain ⟨hnet, h16, hfo, hin2, hw, hT⟩ := id hW
    obtain ⟨n16, en, eq, hq⟩ := id hQ
    have hF := fun l hl => (z_fab hin2 (l := l) hl).2.2
    have s16 : s < 65536 := Nat.lt_of_lt_of_le hs (by show 2 ^ n ≤ 2 ^ 16; exact Nat.pow_le_pow_right (by decide) n16)
    have hs0 : s ≠ 0 := by
      obtain ⟨i, _, _, _, _, _, hl, _⟩ := hpr
      exact z_low_ne hl
    obtain ⟨i, j0, hl, hpj0⟩ := z_po_step ho hs0
    obtain ⟨j, hpj, hmin⟩ := z_min (p := fun j => z_pj (z_fa fo) (z_fb fo) (z_aw w) L q s i j) j0 hpj0
    have hjn : j < n := Classical.byContradiction (fun c => by
      have := Nat.testBit_lt_two_pow (x := s) (i := j) (Nat.lt_of_lt_of_le hs (Nat.pow_le_pow_right (by decide) (by omega)))
      rw [hpj.2.1] at this; cases this)
    have hij := hpj.1
    subst ew eL
    have key : ∀ j', i < j' → s.testBit j' = true → z_tm (z_fa fo) (z_fb fo) (z_aw (M 187)) (z_L (M 179)) q 1000 67108864 s i j' (M 197 (z_wo2 s i j') + z_tb (z_fa fo) (z_fb fo) (z_aw (M 187)) (z_L (M 179)) F 1000 67108864 (q i) (q j')) ∧ (0 ≤ M 197 (z_wo2 s i j') ∧ M 197 (z_wo2 s i j') ≤ 1073741824) ∧ 0 ≤ z_tb (z_fa fo) (z_fb fo) (z_aw (M 187)) (z_L (M 179)) F 1000 67108864 (q i) (q j') ∧ z_tb (z_fa fo) (z_fb fo) (z_aw (M 187)) (z_L (M 179)) F 1000 67108864 (q i) (q j') ≤ 67108864 := by
      intro j' h1 h2
      have lt := z_wo2_lt hl.1 h2 h1
      have pv := hP _ (Nat.lt_trans lt hs)
      have tm := z_tm_ref hF (z_aw99 hw) h16 hq pv
      have tp := z_pv_top hF (z_aw99 hw) h16 hq (Nat.lt_trans lt hs) n16 pv
      exact ⟨tm.1, tp, tm.2.2⟩
    have vs : M 197 s = ((1000 * W + k : Nat) : Int) := by
      rcases hP s hs with ⟨W', k', o', e⟩ | ⟨no, _⟩
      · have u := z_po_un ho o'
        rw [e, u.1, u.2]
      · exact absurd hpr (no _ _ _)
    have fin : ∀ (e : Nat) (jj : Nat), jj + e = j → i < jj → q_v mX12_laysPairs d (qPI K) M 114 [some (qR 178), none, some (qI (s : Int)), some (qI (i : Int)), some (qI (jj : Int))] [] := by
      intro e
      induction e with
      | zero =>
        intro jj ejj hijj
        have ejj : jj = j := by omega
        subst ejj
        have kj := key jj hij hpj.2.1
        have lt := z_wo2_lt hl.1 hpj.2.1 hij
        have eqv := (z_pj_iff hF (z_aw99 hw) h16 hq (by decide) (by decide) (by decide) n16 hs ho hl hij hpj.2.1 kj.1).mpr hpj
        refine bX12_laysPairs_114 _ _ _ (k_isIn2 (by omega) (by omega) (by omega) (fun tb => ⟨fun g => by omega, fun _ => ?_⟩) (fun tb => by rw [hpj.2.1] at tb; cases tb))
        rw [z_xor2 s16 (by omega) (by omega), z_xor2' s16 (by omega) (by omega)]
        refine ⟨by omega, k_wayBetween (by omega) h16 (by omega) (by omega) (eq i (by omega)) (eq jj hjn) (hq i) (hq jj) hT ?_⟩
        rw [q_add_eq (by omega), vs]
        refine ⟨by omega, fun _ => ?_, fun g => absurd eqv g⟩
        obtain ⟨_, _, W1, k1, W2, k2, o1, o2, o3⟩ := hpj
        obtain ⟨ls, hls⟩ := z_pth_ex o1
        refine k_laysPair (by omega) hW hQ (by omega) hjn hp ej hj o1 hls (fun M7 f7 p7 j7 x ex => ?_)
        subst ex
        have o7 : M7 179 = M 179 := f7.1 179 (by decide) (by decide)
        have w7 : M7 187 = M 187 := f7.1 187 (by decide) (by decide)
        obtain ⟨m', pr'⟩ := o2.1
        have mm : m' = m := by
          have a := z_pr_m hs hpr
          have b := z_pr_m (Nat.lt_trans lt hs) pr'
          have c := z_bc_wo2 hl.1 (by assumption) hij n hjn
          omega
        subst mm
        have hl16 : ∀ l ∈ ls, l < 16 := fun l hx => by have := z_pth_lt hls l hx; have := z_net_L16 hnet; omega
        refine ih (z_wo2 s i jj) M7 (z_up2 p (q i) (q jj)) (jn ^^^ z_orb 0 ls) W2 k2 (z_fr_tr fr f7) (z_W_fr hW f7 (by decide) (by decide) (by decide) (by decide)) ⟨n16, by rw [f7.2 34 (by decide)]; exact en, by rw [f7.1 196 (by decide) (by decide)]; exact eq, hq⟩ w7 (by rw [o7]) (by rw [f7.1 197 (by decide) (by decide)]; exact hP) (Nat.lt_trans lt hs) pr' o2 p7 j7 (Nat.xor_lt_two_pow (n := 16) hj (z_orb_lt (by decide) hl16)) (fun M' p' jn' a1 a2 a3 a4 a5 => h M' p' jn' a1 a2 a3 a4 ⟨i, jj, W1, k1, ls, hl, ⟨hij, by assumption, W1, k1, W2, k2, o1, o2, o3⟩, fun j' hj' hx => by have := hmin j' hx; omega, o1, hls, a5⟩)
      | succ e ih2 =>
        intro jj ejj hijj
        have nx := ih2 (jj + 1) (by omega) (by omega)
        have nx' : q_v mX12_laysPairs d (qPI K) M 114 [some (qR 178), none, some (qI (s : Int)), some (qI (i : Int)), some (qI (q_add (jj : Int) 1))] [] := by
          rw [q_add_eq (by omega)]
          exact nx
        refine bX12_laysPairs_114 _ _ _ (k_isIn2 (by omega) (by omega) (by omega) (fun tb => ⟨fun g => by omega, fun _ => ?_⟩) (fun tb => ⟨fun _ => nx', fun g => absurd rfl g⟩))
        have kj := key jj hijj tb
        have lt := z_wo2_lt hl.1 tb hijj
        rw [z_xor2 s16 (by omega) (by omega), z_xor2' s16 (by omega) (by omega)]
        refine ⟨by omega, k_wayBetween (by omega) h16 (by omega) (by omega) (eq i (by omega)) (eq jj (by omega)) (hq i) (hq jj) hT ?_⟩
        rw [q_add_eq (a := M 197 (z_wo2 s i jj : Int)) (by omega), vs]
        refine ⟨by omega, fun g => ?_, fun _ => nx'⟩
        have := (z_pj_iff hF (z_aw99 hw) h16 hq (by decide) (by decide) (by decide) n16 hs ho hl hijj tb kj.1).mp g
        have := hmin jj this
        omega
    refine bX12_laysPairs_100 _ ⟨fun g => absurd (show s = 0 by omega) hs0, fun _ => k_lowest (by omega) s16 (by omega) hl (fun x ex => ?_)⟩
    rw [q_add_eq (by omega), show (i : Int) + 1 = ((i + 1 : Nat) : Int) by omega] at ex
    subst ex
    exact fin (j - (i + 1)) (i + 1) (by omega) (by omega)
