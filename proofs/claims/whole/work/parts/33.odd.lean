-- darts of a face, odd faces, good links, nodes met, sides by a cut
def z_it (f : Nat → Nat) : Nat → Nat → Nat
  | 0, x => x
  | k + 1, x => f (z_it f k x)
theorem z_it_lt {f : Nat → Nat} {D x : Nat} (h : ∀ y, y < D → f y < D) (hx : x < D) : ∀ k, z_it f k x < D
  | 0 => hx
  | k + 1 => h _ (z_it_lt h hx k)
theorem l_dartAt {d : Nat} {M : q_Mem} {K : Int → q_Mem → Prop} (hd : 2 ≤ d) (hn : z_net (M 179)) (hr : z_ring (M 179) 1) {x n : Nat} (hx : x < 2 * z_L (M 179)) (hn9 : n < 1000) (h : K (z_it (z_nx (M 179) 1) n x : Int) M) : ∀ (j i : Nat), i + j = n → q_v mX12_dartAt d (qPI K) M 10 [some (qR 178), none, some (qI (n : Int)), some (qI (z_it (z_nx (M 179) 1) i x : Int)), some (qI (i : Int))] [] := by
  intro j
  induction j with
  | zero =>
    intro i e
    have : i = n := by omega
    subst this
    exact bX12_dartAt_10 _ _ _ ⟨fun _ => h, fun g => absurd (by omega) g⟩
  | succ j ih =>
    intro i e
    refine bX12_dartAt_10 _ _ _ ⟨fun g => by omega, fun _ => k_nextOf (by omega) hn hr (z_it_lt (fun y hy => z_nx_lt hn hr hy) hx i) ?_⟩
    rw [q_add_eq (by omega)]
    exact ih (i + 1) (by omega)
theorem k_dartAt {d : Nat} {M : q_Mem} {K : Int → q_Mem → Prop} {f n x : Nat} (hd : 2 < d) (hn : z_net (M 179)) (hr : z_ring (M 179) 1) (hf : f < 16) (ex : M 189 f = (x : Int)) (hx : x < 2 * z_L (M 179)) (hn9 : n < 1000) (h : K (z_it (z_nx (M 179) 1) n x : Int) M) : q_kI yX12_dartAt mX12_dartAt d [qR 178, qI (f : Int), qI (n : Int)] M K :=
  q_goI hd rfl (plainFor_of_name (by decide +kernel)) rfl (fun h => nomatch h) (Nat.le_of_ble_eq_true rfl) (fun d hd => bX12_dartAt_0 _ _ ⟨by omega, fun y e => by
    rw [ex] at e
    subst e
    exact l_dartAt hd hn hr hx hn9 h n 0 (by omega)⟩)
theorem k_isFace {d : Nat} {M : q_Mem} {K : Int → q_Mem → Prop} {v : Int} {c : Nat} (hd : 1 < d) (hc : M 178 25 = (c : Int)) (h16 : c ≤ 16) (h1 : 0 ≤ v → v < (c : Int) → K 1 M) (h0 : ¬ (0 ≤ v ∧ v < (c : Int)) → K 0 M) : q_kI yX12_isFace mX12_isFace d [qR 178, qL v] M K :=
  q_goI hd rfl (plainFor_of_name (by decide +kernel)) rfl (fun h => nomatch h) (Nat.le_of_ble_eq_true rfl) (fun d hd => bX12_isFace_0 _ (by
    rw [hc, q_sub_eq (by omega)]
    exact k_within (by omega) (fun g1 g2 => ⟨Or.inr rfl, h1 g1 (by omega)⟩) (fun g => ⟨Or.inl rfl, h0 (by omega)⟩)))
theorem l_cdartAt {d : Nat} {M : q_Mem} {K : Int → q_Mem → Prop} {o : Int → Int} (hn : z_net o) (hr : z_ring o 1) (hnx : ∀ e : Nat, e < 2 * z_L o → M 92 e = (z_nx o 1 e : Int)) {x n : Nat} (hx : x < 2 * z_L o) (hn9 : n < 1000) (h : K (z_it (z_nx o 1) n x : Int) M) : ∀ (j i : Nat), i + j = n → q_v mX6_dartAt d (qPI K) M 22 [some (qR 91), none, some (qI (n : Int)), some (qI (z_it (z_nx o 1) i x : Int)), some (qI (i : Int))] [] := by
  have hL := z_net_L16 hn
  intro j
  induction j with
  | zero =>
    intro i e
    have : i = n := by omega
    subst this
    exact bX6_dartAt_22 _ _ _ ⟨fun _ => h, fun g => absurd (by omega) g⟩
  | succ j ih =>
    intro i e
    have lt := z_it_lt (f := z_nx o 1) (fun y hy => z_nx_lt hn hr hy) hx i
    refine bX6_dartAt_22 _ _ _ ⟨fun g => by omega, fun _ => ⟨by omega, fun y ey => ?_⟩⟩
    rw [hnx _ lt] at ey
    subst ey
    rw [q_add_eq (by omega)]
    exact ih (i + 1) (by omega)
theorem k_cdartAt {d : Nat} {M : q_Mem} {K : Int → q_Mem → Prop} {o : Int → Int} {f x sz : Nat} {i : Int} (hd : 0 < d) (hn : z_net o) (hr : z_ring o 1) (hnx : ∀ e : Nat, e < 2 * z_L o → M 92 e = (z_nx o 1 e : Int)) (hf : f < 16) (ex : M 94 f = (x : Int)) (es : M 95 f = (sz : Int)) (hx : x < 2 * z_L o) (hs : sz < 1000) (hi : 0 ≤ i) (h : K (if i < (sz : Int) then (z_it (z_nx o 1) i.toNat x : Int) else -1) M) : q_kI yX6_dartAt mX6_dartAt d [qR 91, qI (f : Int), qI i] M K :=
  q_goI hd rfl (plainFor_of_name (by decide +kernel)) rfl (fun h => nomatch h) (Nat.le_of_ble_eq_true rfl) (fun d hd => bX6_dartAt_0 _ _ (by
    rw [es]
    refine ⟨by omega, fun g => ⟨by omega, fun y e => ?_⟩, fun g => by rw [if_neg g] at h; exact h⟩
    rw [ex] at e
    subst e
    rw [if_pos g] at h
    have := l_cdartAt (d := d) hn hr hnx hx (n := i.toNat) (by omega) h i.toNat 0 (by omega)
    rwa [show ((i.toNat : Nat) : Int) = i by omega] at this))
/-- of a face: whether an odd number of its first d darts go along links of g -/
def z_par (fo : Nat → Int) (g : Nat) (f : Int) : Nat → Bool
  | 0 => false
  | d + 1 => z_par fo g f d != (g.testBit (d / 2) && decide (fo d = f))
theorem z_par_no {fo : Nat → Int} {g : Nat} {f : Int} : ∀ {d : Nat}, (∀ x, x < d → fo x ≠ f) → z_par fo g f d = false
  | 0, _ => rfl
  | d + 1, h => by
    show (z_par fo g f d != (g.testBit (d / 2) && decide (fo d = f))) = false
    rw [z_par_no (fun x hx => h x (by omega)), decide_eq_false (h d (by omega))]
    simp
theorem z_par_far {fo : Nat → Int} {g : Nat} {f : Int} {D : Nat} (hg : ∀ l, D ≤ 2 * l → g.testBit l = false) (hD : D % 2 = 0) : ∀ {k : Nat}, z_par fo g f (D + k) = z_par fo g f D
  | 0 => rfl
  | k + 1 => by
    show (z_par fo g f (D + k) != (g.testBit ((D + k) / 2) && decide (fo (D + k) = f))) = _
    rw [z_par_far hg hD, hg _ (by omega)]
    simp
theorem z_par_congr {fo fo' : Nat → Int} {g : Nat} {f : Int} : ∀ {d : Nat}, (∀ x, x < d → fo x = fo' x) → z_par fo g f d = z_par fo' g f d
  | 0, _ => rfl
  | d + 1, h => by
    show (z_par fo g f d != _) = (z_par fo' g f d != _)
    rw [z_par_congr (fun x hx => h x (by omega)), h d (by omega)]
def z_gd (w : Int → Int) (sg : Int) (L : Nat) : Nat := z_set (fun l => decide (0 < sg * w l)) L
theorem z_gd_lt {w : Int → Int} {sg : Int} {L : Nat} (h : L ≤ 16) : z_gd w sg L < 65536 := Nat.lt_of_lt_of_le z_set_lt (by show 2 ^ L ≤ 2 ^ 16; exact Nat.pow_le_pow_right (by decide) h)
theorem z_sg {sg w : Int} (hs : sg = 1 ∨ sg = -1) (hw : -99 ≤ w ∧ w ≤ 99) : q_mul sg w = sg * w ∧ q_mul w sg = sg * w := by
  rcases hs with rfl | rfl
  · exact ⟨q_mul_eq (by omega), by rw [q_mul_eq (by omega)]; omega⟩
  · exact ⟨q_mul_eq (by omega), by rw [q_mul_eq (by omega)]; omega⟩
theorem z_nz0 : q_nz 0 = 0 := by decide
theorem z_nz1 : q_nz 1 = 1 := by decide
def z_fo (o : Int → Int) : Nat → Int := (z_fs (z_nx o 1) (2 * z_L o)).1
theorem z_fo_in {o : Int → Int} (hn : z_net o) (hr : z_ring o 1) {x : Nat} (hx : x < 2 * z_L o) : 0 ≤ z_fo o x ∧ z_fo o x < (z_fm o : Int) := by
  have hL := z_net_L16 hn
  obtain ⟨a, b⟩ := z_fs_inv (z_pm_nx hn hr) (by omega) (2 * z_L o) (Nat.le_refl _)
  have := (a.2.2.1 x).resolve_left (b x hx)
  exact ⟨this.1, this.2.1⟩
theorem z_fm_16 {o : Int → Int} (hn : z_net o) (hr : z_ring o 1) : z_fm o ≤ 16 := (z_fs_16 (z_pm_nx hn hr) (by have := z_net_L16 hn; omega) (Nat.le_refl _)).1
theorem l_od25 {d : Nat} {K : q_Mem → Prop} {M0 : q_Mem} {sg : Int} (hs : sg = 1 ∨ sg = -1) (hn : z_net (M0 179)) (hr : z_ring (M0 179) 1) (hw : ∀ l : Nat, l < z_L (M0 179) → -99 ≤ M0 187 l ∧ M0 187 l ≤ 99) (hf : ∀ x : Nat, x < 32 → M0 188 x = z_fo (M0 179) x)
    (h : ∀ M', z_fr [192] [] M0 M' → (∀ f : Nat, f < z_fm (M0 179) → M' 192 f = if z_par (z_fo (M0 179)) (z_gd (M0 187) sg (z_L (M0 179))) f (2 * z_L (M0 179)) then 1 else 0) → K M') :
    ∀ (j i : Nat) (M : q_Mem), i + j = 2 * z_L (M0 179) → z_fr [192] [] M0 M → (∀ f : Nat, f < z_fm (M0 179) → M 192 f = if z_par (z_fo (M0 179)) (z_gd (M0 187) sg (z_L (M0 179))) f i then 1 else 0) → q_v mX12_laysOdd d (qPU K) M 25 [some (qR 178), some (qI sg), some (qI (i : Int))] [] := by
  have eL := z_net_L hn
  have hL := z_net_L16 hn
  have h16 := z_fm_16 hn hr
  intro j
  induction j with
  | zero =>
    intro i M e f q
    have o1 : M 179 = M0 179 := f.1 179 (by decide) (by decide)
    have ei : i = 2 * z_L (M0 179) := by omega
    refine bX12_laysOdd_25 _ _ ?_
    rw [o1, eL, q_mul_eq (by omega)]
    exact ⟨fun _ => h M f (by rw [← ei]; exact q), fun g => absurd (by omega) g⟩
  | succ j ih =>
    intro i M e f q
    have o1 : M 179 = M0 179 := f.1 179 (by decide) (by decide)
    have w1 : M 187 = M0 187 := f.1 187 (by decide) (by decide)
    have f1 : M 188 = M0 188 := f.1 188 (by decide) (by decide)
    have fin := z_fo_in hn hr (x := i) (by omega)
    have sgw := z_sg hs (hw (i / 2) (by omega))
    have pst : ∀ f : Nat, z_par (z_fo (M0 179)) (z_gd (M0 187) sg (z_L (M0 179))) f (i + 1) = (z_par (z_fo (M0 179)) (z_gd (M0 187) sg (z_L (M0 179))) f i != ((z_gd (M0 187) sg (z_L (M0 179))).testBit (i / 2) && decide (z_fo (M0 179) i = (f : Int)))) := fun _ => rfl
    have tb : (z_gd (M0 187) sg (z_L (M0 179))).testBit (i / 2) = decide (0 < sg * M0 187 ((i / 2 : Nat) : Int)) := by
      unfold z_gd
      rw [z_set_bit, decide_eq_true (show i / 2 < z_L (M0 179) by omega), Bool.true_and]
    refine bX12_laysOdd_25 _ _ ?_
    rw [o1, eL, q_mul_eq (a := 2) (by omega), z_dv2 (by omega), w1, f1, hf i (by omega), sgw.1, q_add_eq (a := (i : Int)) (by omega), show (i : Int) + 1 = ((i + 1 : Nat) : Int) by omega]
    refine ⟨fun g => by omega, fun _ => ⟨by omega, fun g => ih (i + 1) M (by omega) f (fun fc hfc => ?_), fun g => ⟨by omega, by omega, by omega, ?_⟩⟩⟩
    · rw [pst, tb, decide_eq_false (by omega), q fc hfc]
      simp
    · have fnat : z_fo (M0 179) i = ((z_fo (M0 179) i).toNat : Int) := by omega
      have qf := q (z_fo (M0 179) i).toNat (by omega)
      rw [← fnat] at qf
      have step : ∀ (v : Int) (M6 : q_Mem), v = (if z_par (z_fo (M0 179)) (z_gd (M0 187) sg (z_L (M0 179))) (z_fo (M0 179) i) i then 0 else 1) → M6 = q_up M 192 (z_fo (M0 179) i) v → q_v mX12_laysOdd d (qPU K) M6 25 [some (qR 178), some (qI sg), some (qI ((i + 1 : Nat) : Int))] [] := by
        intro v M6 ev e6
        refine ih (i + 1) M6 (by omega) (z_fr_u f e6 (by decide) (by decide)) (fun fc hfc => ?_)
        rw [pst, tb, decide_eq_true (by omega), e6]
        by_cases c : (fc : Int) = z_fo (M0 179) i
        · rw [c, q_up_s, ev]
          cases z_par (z_fo (M0 179)) (z_gd (M0 187) sg (z_L (M0 179))) (z_fo (M0 179) i) i <;> simp
        · rw [q_up_n c, q fc hfc, decide_eq_false (fun g => c g.symm)]
          simp
      refine ⟨fun g2 => ⟨by omega, fun M6 e6 => step _ M6 ?_ e6⟩, fun g2 => ⟨by omega, fun M6 e6 => step _ M6 ?_ e6⟩⟩
      · rw [z_nz0]
        cases hp : z_par (z_fo (M0 179)) (z_gd (M0 187) sg (z_L (M0 179))) (z_fo (M0 179) i) i
        · rw [qf, hp] at g2; exact absurd rfl g2
        · rfl
      · rw [z_nz1]
        cases hp : z_par (z_fo (M0 179)) (z_gd (M0 187) sg (z_L (M0 179))) (z_fo (M0 179) i) i
        · rfl
        · rw [qf, hp] at g2; exact absurd g2 (by decide)
theorem l_od2 {d : Nat} {K : q_Mem → Prop} {M0 : q_Mem} {sg : Int} {c : Nat} (h16 : c ≤ 16) (hc : M0 178 25 = (c : Int)) (h : ∀ M', z_fr [192] [] M0 M' → (∀ f : Nat, f < c → M' 192 f = 0) → q_v mX12_laysOdd d (qPU K) M' 25 [some (qR 178), some (qI sg), some (qI 0)] []) :
    ∀ (j i : Nat) (M : q_Mem), i + j = c → z_fr [192] [] M0 M → (∀ f : Nat, f < i → M 192 f = 0) → q_v mX12_laysOdd d (qPU K) M 2 [some (qR 178), some (qI sg), some (qI (i : Int))] [] := by
  intro j
  induction j with
  | zero =>
    intro i M e f q
    refine bX12_laysOdd_2 _ _ ?_
    rw [f.2 25 (by decide), hc]
    exact ⟨fun _ => h M f (by rw [← e]; exact q), fun g => absurd (by omega) g⟩
  | succ j ih =>
    intro i M e f q
    refine bX12_laysOdd_2 _ _ ?_
    rw [f.2 25 (by decide), hc, q_add_eq (by omega), show (i : Int) + 1 = ((i + 1 : Nat) : Int) by omega]
    refine ⟨fun g => by omega, fun _ => ⟨by omega, fun M2 e2 => ih (i + 1) M2 (by omega) (z_fr_u f e2 (by decide) (by decide)) (fun x hx => ?_)⟩⟩
    by_cases ex : x = i
    · subst ex; rw [e2, q_up_s, z_nz0]
    · rw [e2, q_up_n (by omega)]; exact q x (by omega)
theorem k_laysOdd {d : Nat} {M : q_Mem} {K : q_Mem → Prop} {sg : Int} (hd : 0 < d) (hs : sg = 1 ∨ sg = -1) (hn : z_net (M 179)) (hr : z_ring (M 179) 1) (hw : ∀ l : Nat, l < z_L (M 179) → -99 ≤ M 187 l ∧ M 187 l ≤ 99) (hf : ∀ x : Nat, x < 32 → M 188 x = z_fo (M 179) x) (hc : M 178 25 = (z_fm (M 179) : Int)) (h : ∀ M', z_fr [192] [] M M' → (∀ f : Nat, f < z_fm (M 179) → M' 192 f = if z_par (z_fo (M 179)) (z_gd (M 187) sg (z_L (M 179))) f (2 * z_L (M 179)) then 1 else 0) → K M') : q_kU yX12_laysOdd mX12_laysOdd d [qR 178, qI sg] M K :=
  q_goU hd rfl (plainFor_of_name (by decide +kernel)) rfl (fun h => nomatch h) (Nat.le_of_ble_eq_true rfl) (fun d hd => bX12_laysOdd_0 _ (l_od2 (z_fm_16 hn hr) hc (fun M' f' q' => by
    have o1 : M' 179 = M 179 := f'.1 179 (by decide) (by decide)
    have w1 : M' 187 = M 187 := f'.1 187 (by decide) (by decide)
    have f1 : M' 188 = M 188 := f'.1 188 (by decide) (by decide)
    have := l_od25 (d := d) (K := K) (M0 := M') hs (by rw [o1]; exact hn) (by rw [o1]; exact hr) (by rw [o1, w1]; exact hw) (by rw [o1, f1]; exact hf) (fun M2 f2 q2 => h M2 (z_fr_tr f' f2) (by rw [o1, w1] at q2; exact q2)) (2 * z_L (M' 179)) 0 M' (by omega) z_fr_rf (fun f hf => by rw [o1] at hf; exact q' f hf)
    exact this) (z_fm (M 179)) 0 M (by omega) z_fr_rf (fun f hf => by omega)))
theorem l_good {d : Nat} {M : q_Mem} {K : Int → q_Mem → Prop} {sg : Int} (hs : sg = 1 ∨ sg = -1) (hn : z_net (M 179)) (hw : ∀ l : Nat, l < z_L (M 179) → -99 ≤ M 187 l ∧ M 187 l ≤ 99) (h : K (z_gd (M 187) sg (z_L (M 179)) : Int) M) :
    ∀ (j i : Nat), i + j = z_L (M 179) → q_v mX12_goodLinks d (qPI K) M 4 [some (qR 178), some (qI sg), some (qI (z_gd (M 187) sg i : Int)), some (qI (i : Int))] [] := by
  have eL := z_net_L hn
  have hL := z_net_L16 hn
  intro j
  induction j with
  | zero =>
    intro i e
    have : i = z_L (M 179) := by omega
    subst this
    exact bX12_goodLinks_4 _ _ _ ⟨fun _ => h, fun g => absurd (by omega) g⟩
  | succ j ih =>
    intro i e
    have lt := z_gd_lt (w := M 187) (sg := sg) (L := i) (by omega)
    have nx := ih (i + 1) (by omega)
    have ex : z_gd (M 187) sg (i + 1) = z_gd (M 187) sg i ||| (if decide (0 < sg * M 187 i) then 2 ^ i else 0) := rfl
    refine bX12_goodLinks_4 _ _ _ ⟨fun g => by omega, fun _ => ?_⟩
    rw [(z_sg hs (hw i (by omega))).1, q_add_eq (by omega)]
    refine ⟨by omega, fun g x e2 => ?_, fun g x e2 => ?_⟩
    · rw [ex, decide_eq_false (by omega)] at nx
      rw [e2, q_or0 (by omega)]
      simpa using nx
    · rw [ex, decide_eq_true (by omega), if_pos rfl] at nx
      rw [e2, q_or1 (by omega) (by omega)]
      exact nx
theorem k_goodLinks {d : Nat} {M : q_Mem} {K : Int → q_Mem → Prop} {sg : Int} (hd : 0 < d) (hs : sg = 1 ∨ sg = -1) (hn : z_net (M 179)) (hw : ∀ l : Nat, l < z_L (M 179) → -99 ≤ M 187 l ∧ M 187 l ≤ 99) (h : K (z_gd (M 187) sg (z_L (M 179)) : Int) M) : q_kI yX12_goodLinks mX12_goodLinks d [qR 178, qI sg] M K :=
  q_goI hd rfl (plainFor_of_name (by decide +kernel)) rfl (fun h => nomatch h) (Nat.le_of_ble_eq_true rfl) (fun d hd => bX12_goodLinks_0 _ (l_good hs hn hw h (z_L (M 179)) 0 (by omega)))
/-- weights of a set of links, added -/
def z_ws (w : Int → Int) (s L : Nat) : Int := z_sum (fun l => if s.testBit l then w l else 0) L
theorem z_ws_bd {w : Int → Int} {s L : Nat} (hw : ∀ l : Nat, l < L → -99 ≤ w l ∧ w l ≤ 99) : ∀ i, i ≤ L → -(99 * (i : Int)) ≤ z_ws w s i ∧ z_ws w s i ≤ 99 * (i : Int) := by
  intro i hi
  refine z_sum_bd (fun k hk => ?_)
  have := hw k (by omega)
  split <;> omega
theorem l_wsum {d : Nat} {M : q_Mem} {K : Int → q_Mem → Prop} {s : Nat} (hd : 1 ≤ d) (hs : s < 2147483648) (hn : z_net (M 179)) (hw : ∀ l : Nat, l < z_L (M 179) → -99 ≤ M 187 l ∧ M 187 l ≤ 99) (h : K (z_ws (M 187) s (z_L (M 179))) M) :
    ∀ (j i : Nat), i + j = z_L (M 179) → q_v mX12_weightsOf d (qPI K) M 4 [some (qR 178), some (qI (s : Int)), some (qI (z_ws (M 187) s i)), some (qI (i : Int))] [] := by
  have eL := z_net_L hn
  have hL := z_net_L16 hn
  intro j
  induction j with
  | zero =>
    intro i e
    have : i = z_L (M 179) := by omega
    subst this
    exact bX12_weightsOf_4 _ _ _ ⟨fun _ => h, fun g => absurd (by omega) g⟩
  | succ j ih =>
    intro i e
    have bd := z_ws_bd (s := s) hw i (by omega)
    have hwi := hw i (by omega)
    have nx := ih (i + 1) (by omega)
    have ex : z_ws (M 187) s (i + 1) = z_ws (M 187) s i + (if s.testBit i then M 187 i else 0) := rfl
    refine bX12_weightsOf_4 _ _ _ ⟨fun g => by omega, fun _ => k_isIn2 (by omega) hs (by omega) (fun tb => ⟨fun g => by omega, fun _ => ⟨by omega, fun x e2 => ?_⟩⟩) (fun tb => ⟨fun _ x e2 => ?_, fun g => absurd rfl g⟩)⟩
    · rw [e2, q_add_eq (by omega), q_add_eq (by omega)]
      rw [ex, tb] at nx
      exact nx
    · rw [e2, q_add_eq (by omega), q_add_eq (by omega)]
      rw [ex, tb] at nx
      exact nx
theorem k_weightsOf {d : Nat} {M : q_Mem} {K : Int → q_Mem → Prop} {s : Nat} (hd : 1 < d) (hs : s < 2147483648) (hn : z_net (M 179)) (hw : ∀ l : Nat, l < z_L (M 179) → -99 ≤ M 187 l ∧ M 187 l ≤ 99) (h : K (z_ws (M 187) s (z_L (M 179))) M) : q_kI yX12_weightsOf mX12_weightsOf d [qR 178, qI (s : Int)] M K :=
  q_goI hd rfl (plainFor_of_name (by decide +kernel)) rfl (fun h => nomatch h) (Nat.le_of_ble_eq_true rfl) (fun d hd => bX12_weightsOf_0 _ (l_wsum hd hs hn hw h (z_L (M 179)) 0 (by omega)))
theorem z_bc_le {s : Nat} : ∀ {n : Nat}, z_bc s n ≤ n
  | 0 => Nat.le_refl _
  | n + 1 => by
    have := z_bc_le (s := s) (n := n)
    show z_bc s n + (if s.testBit n then 1 else 0) ≤ n + 1
    split <;> omega
theorem l_meets52 {d : Nat} {M : q_Mem} {K : Int → q_Mem → Prop} {s : Nat} (hd : 1 ≤ d) (hs : s < 1024) (h : K (z_bc s 10 : Int) M) :
    ∀ (j i : Nat), i + j = 10 → q_v mX12_meets d (qPI K) M 52 [none, none, some (qI (s : Int)), some (qI (z_bc s i : Int)), some (qI (i : Int))] [] := by
  intro j
  induction j with
  | zero =>
    intro i e
    have : i = 10 := by omega
    subst this
    exact bX12_meets_52 _ _ _ ⟨fun _ => h, fun g => absurd (by decide) g⟩
  | succ j ih =>
    intro i e
    have bd := z_bc_le (s := s) (n := i)
    have nx := ih (i + 1) (by omega)
    have ex : z_bc s (i + 1) = z_bc s i + (if s.testBit i then 1 else 0) := rfl
    refine bX12_meets_52 _ _ _ ⟨fun g => by omega, fun _ => k_isIn2 (by omega) (by omega) (by omega) (fun tb => ⟨fun g => by omega, fun _ x e2 => ?_⟩) (fun tb => ⟨fun _ x e2 => ?_, fun g => absurd rfl g⟩)⟩
    · rw [e2, q_add_eq (by omega), q_add_eq (by omega)]
      rw [ex, tb] at nx
      exact nx
    · rw [e2, q_add_eq (by omega), q_add_eq (by omega)]
      rw [ex, tb] at nx
      exact nx
theorem l_meets7 {d : Nat} {M : q_Mem} {K : Int → q_Mem → Prop} {f : Int} {m : Nat} (hd : 1 ≤ d) (hn : z_net (M 179)) (hf : ∀ x : Nat, x < 32 → M 188 x = z_fo (M 179) x) (hm : z_mt (M 179) (z_fo (M 179)) f m) (h : K (z_bc m 10 : Int) M) :
    ∀ (j i s : Nat), i + j = 2 * z_L (M 179) → s < 1024 → (∀ n, s.testBit n = true ↔ ∃ x, x < i ∧ z_fo (M 179) x = f ∧ z_fd (M 179) x = n) → q_v mX12_meets d (qPI K) M 7 [some (qR 178), some (qI f), some (qI (s : Int)), some (qI 0), some (qI (i : Int))] [] := by
  have eL := z_net_L hn
  have hL := z_net_L16 hn
  have hN := z_net_N10 hn
  intro j
  induction j with
  | zero =>
    intro i s e hs q
    have ei : i = 2 * z_L (M 179) := by omega
    have es : s = m := by
      apply Nat.eq_of_testBit_eq
      intro n
      have h1 := q n
      have h2 := hm.2 n
      rw [ei] at h1
      cases c1 : s.testBit n <;> cases c2 : m.testBit n
      · rfl
      · rw [c1] at h1; rw [c2] at h2; exact absurd (h1.mpr (h2.mp rfl)) (by decide)
      · rw [c1] at h1; rw [c2] at h2; exact absurd (h2.mpr (h1.mp rfl)) (by decide)
      · rfl
    refine bX12_meets_7 _ _ _ _ ?_
    rw [eL, q_mul_eq (by omega)]
    exact ⟨fun _ => l_meets52 hd hs (by rw [es]; exact h) 10 0 (by omega), fun g => absurd (by omega) g⟩
  | succ j ih =>
    intro i s e hs q
    have fl := z_fd_lt hn (d := i) (by omega)
    refine bX12_meets_7 _ _ _ _ ?_
    rw [eL, q_mul_eq (by omega), hf i (by omega), q_add_eq (a := (i : Int)) (by omega), show (i : Int) + 1 = ((i + 1 : Nat) : Int) by omega]
    refine ⟨fun g => by omega, fun _ => ⟨by omega, fun g => ih (i + 1) s (by omega) hs (fun n => (q n).trans ⟨?_, ?_⟩), fun g => k_fromOf (by omega) hn (by omega) (fun x ex => ?_)⟩⟩
    · rintro ⟨x, h1, h2, h3⟩; exact ⟨x, by omega, h2, h3⟩
    · rintro ⟨x, h1, h2, h3⟩
      refine ⟨x, ?_, h2, h3⟩
      by_cases c : x = i
      · subst c; exact absurd h2 g
      · omega
    · rw [ex, q_or1 (by omega) (by omega)]
      refine ih (i + 1) _ (by omega) (Nat.or_lt_two_pow (n := 10) hs (Nat.pow_lt_pow_right (a := 2) (by decide) (by omega))) (fun n => ?_)
      rw [Nat.testBit_or, Nat.testBit_two_pow, Bool.or_eq_true, q n, decide_eq_true_eq]
      constructor
      · rintro (⟨x, h1, h2, h3⟩ | h1)
        · exact ⟨x, by omega, h2, h3⟩
        · exact ⟨i, by omega, g, h1⟩
      · rintro ⟨x, h1, h2, h3⟩
        by_cases c : x = i
        · subst c; exact Or.inr h3
        · exact Or.inl ⟨x, by omega, h2, h3⟩
theorem k_meets {d : Nat} {M : q_Mem} {K : Int → q_Mem → Prop} {f : Int} {m : Nat} (hd : 1 < d) (hn : z_net (M 179)) (hf : ∀ x : Nat, x < 32 → M 188 x = z_fo (M 179) x) (hm : z_mt (M 179) (z_fo (M 179)) f m) (h : K (z_bc m 10 : Int) M) : q_kI yX12_meets mX12_meets d [qR 178, qI f] M K :=
  q_goI hd rfl (plainFor_of_name (by decide +kernel)) rfl (fun h => nomatch h) (Nat.le_of_ble_eq_true rfl) (fun d hd => bX12_meets_0 _ (l_meets7 hd hn hf hm h (2 * z_L (M 179)) 0 0 (by omega) (by decide) (fun n => ⟨fun g => by simp at g, fun ⟨x, h1, _⟩ => by omega⟩)))
