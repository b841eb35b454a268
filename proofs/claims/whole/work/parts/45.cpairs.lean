-- the class: the least partner, the whole pairing
theorem l_pt12 {d : Nat} (hd : 19 ≤ d) {K : Int → q_Mem → Prop} {x : Int} {w : Int → Int} {fo : Nat → Int} {L F n s i j W k : Nat} {q : Nat → Nat} (hi : z_low s i) (hs : s < 2 ^ n) (ho : z_po (z_fa fo) (z_fb fo) (z_aw w) L q s W k) (hpj : z_pj (z_fa fo) (z_fb fo) (z_aw w) L q s i j) (hmin : ∀ j', z_pj (z_fa fo) (z_fb fo) (z_aw w) L q s i j' → j ≤ j') {M0 : q_Mem} (h : ∀ M', z_f9 M0 M' → z_mo M' w fo L q n → K (j : Int) M') :
    ∀ (e jj : Nat) (M : q_Mem), jj + e = j → i < jj → z_f9 M0 M → z_V M w fo L F → z_CQ M x q F n → z_mo M w fo L q n → q_v mX3_leastPartner d (qPI K) M 12 [some (qR x), some (qI (s : Int)), some (qI (i : Int)), some (qI ((1024 * W + k : Nat) : Int)), some (qI (jj : Int))] [] := by
  have hjn : j < n := Classical.byContradiction (fun c => by
    have := Nat.testBit_lt_two_pow (x := s) (i := j) (Nat.lt_of_lt_of_le hs (Nat.pow_le_pow_right (by decide) (by omega)))
    rw [hpj.2.1] at this; cases this)
  intro e
  induction e with
  | zero =>
    intro jj M ej hij f hV hC hm
    have ej : jj = j := by omega
    subst ej
    obtain ⟨v1, v2, v3, v4, v5, v6, v7, v8⟩ := id hV
    obtain ⟨c1, c2, c3, c4, c5, c6⟩ := id hC
    have kk := z_k3 c1
    have s16 : s < 65536 := Nat.lt_of_lt_of_le hs (by show 2 ^ n ≤ 2 ^ 16; exact Nat.pow_le_pow_right (by decide) c4)
    have bl := z_bc_le (s := s) (n := n)
    refine bX3_leastPartner_12 _ _ _ _ _ kk.1 ?_
    rw [c3, q_bit0 (by omega) (by omega)]
    refine ⟨fun g => by omega, fun _ => ⟨fun tb => (by rw [hpj.2.1] at tb; cases tb), fun _ => ?_⟩⟩
    refine z_costWith (z_lc_all 8) d M _ x w fo L F n s 0 i jj q (by omega) hV hC hm hs (by omega) (by omega) hi.1 hpj.2.1 hij hjn (fun t M' f' m' tm ht => ?_)
    have iff := z_pj_iff (fun l hl => (z_fab v4 (l := l) hl).2.2) (z_aw99 v5) v1 c6 (by decide) (by decide) (by decide) c4 hs ho hi hij hpj.2.1 tm
    exact ⟨fun g => absurd (iff.mpr hpj) g, fun _ => h M' (fun a ha => (f' a ha).trans (f a ha)) m'⟩
  | succ e ihe =>
    intro jj M ej hij f hV hC hm
    obtain ⟨v1, v2, v3, v4, v5, v6, v7, v8⟩ := id hV
    obtain ⟨c1, c2, c3, c4, c5, c6⟩ := id hC
    have kk := z_k3 c1
    have s16 : s < 65536 := Nat.lt_of_lt_of_le hs (by show 2 ^ n ≤ 2 ^ 16; exact Nat.pow_le_pow_right (by decide) c4)
    have bl := z_bc_le (s := s) (n := n)
    refine bX3_leastPartner_12 _ _ _ _ _ kk.1 ?_
    rw [c3, q_bit0 (by omega) (by omega), q_add_eq (a := (jj : Int)) (by omega), show (jj : Int) + 1 = ((jj + 1 : Nat) : Int) by omega]
    refine ⟨fun g => by omega, fun _ => ⟨fun tb => ihe (jj + 1) M (by omega) (by omega) f hV hC hm, fun tb => ?_⟩⟩
    have tb : s.testBit jj = true := by simpa using tb
    refine z_costWith (z_lc_all 8) d M _ x w fo L F n s 0 i jj q (by omega) hV hC hm hs (by omega) (by omega) hi.1 tb hij (by omega) (fun t M' f' m' tm ht => ?_)
    have iff := z_pj_iff (fun l hl => (z_fab v4 (l := l) hl).2.2) (z_aw99 v5) v1 c6 (by decide) (by decide) (by decide) c4 hs ho hi hij tb tm
    refine ⟨fun _ => ihe (jj + 1) M' (by omega) (by omega) (fun a ha => (f' a ha).trans (f a ha)) (z_V_9 hV f') (z_CQ_9 hC f') m', fun g => ?_⟩
    have := hmin jj (iff.mp g)
    omega
theorem k_leastPartner {d : Nat} {M : q_Mem} {K : Int → q_Mem → Prop} {x : Int} {w : Int → Int} {fo : Nat → Int} {L F n s i j W k : Nat} {q : Nat → Nat} (hd : 19 < d) (hV : z_V M w fo L F) (hC : z_CQ M x q F n) (hm : z_mo M w fo L q n) (hi : z_low s i) (hs : s < 2 ^ n) (ho : z_po (z_fa fo) (z_fb fo) (z_aw w) L q s W k) (hpj : z_pj (z_fa fo) (z_fb fo) (z_aw w) L q s i j) (hmin : ∀ j', z_pj (z_fa fo) (z_fb fo) (z_aw w) L q s i j' → j ≤ j') (h : ∀ M', z_f9 M M' → z_mo M' w fo L q n → K (j : Int) M') : q_kI yX3_leastPartner mX3_leastPartner d [qR x, qI (s : Int), qI (i : Int)] M K := by
  have kk := z_k3 hC.1
  have n16 := hC.2.2.2.1
  have bl := z_bc_le (s := s) (n := n)
  have hij := hpj.1
  have hin : i < n := Classical.byContradiction (fun c => by
    have := Nat.testBit_lt_two_pow (x := s) (i := i) (Nat.lt_of_lt_of_le hs (Nat.pow_le_pow_right (by decide) (by omega)))
    rw [hi.1] at this; cases this)
  refine q_goI hd rfl (plainFor_of_name (by decide +kernel)) rfl (fun h => nomatch h) (Nat.le_of_ble_eq_true rfl) (fun d hd => bX3_leastPartner_0 _ _ _ kk.1 ?_)
  refine z_lc_all 8 d M _ x w fo L F n s 0 q (by omega) hV hC hm hs (by omega) (by omega) (fun v M' f' m' pv y ey => ?_)
  rw [q_add_eq (by omega), show (i : Int) + 1 = ((i + 1 : Nat) : Int) by omega] at ey
  subst ey
  have ev : v = ((1024 * W + k : Nat) : Int) := by
    rcases pv with ⟨W', k', o', e⟩ | ⟨no, _⟩
    · have u := z_po_un ho o'
      rw [e, u.1, u.2]
    · obtain ⟨m, pr⟩ := ho.1
      exact absurd pr (no _ _ _)
  subst ev
  exact l_pt12 hd hi hs ho hpj hmin (M0 := M) h (j - (i + 1)) (i + 1) M' (by omega) (by omega) f' (z_V_9 hV f') (z_CQ_9 hC f') m'
/-- what lies outside a pairing -/
def z_pf (x : Int) (M M' : q_Mem) : Prop := ∀ a, a ≠ x → a ≠ x + 1 → a ≠ x + 3 → a ≠ 169 → M' a = M a
theorem z_V_p {M M' : q_Mem} {x : Int} {w : Int → Int} {fo : Nat → Int} {L F : Nat} (hx : x = 170 ∨ x = 174) (h : z_V M w fo L F) (f : z_pf x M M') : z_V M' w fo L F := by
  obtain ⟨a, b, c, d, e, g1, g2, g3⟩ := h
  refine ⟨a, b, by rw [f 93 (by omega) (by omega) (by omega) (by decide)]; exact c, d, e, z_ct_o g1 (fun y hy => f _ (by omega) (by omega) (by omega) (by omega)), by rw [f 116 (by omega) (by omega) (by omega) (by decide)]; exact g2, by rw [f 98 (by omega) (by omega) (by omega) (by decide)]; exact g3⟩
theorem l_cp102 {d : Nat} (hd : 20 ≤ d) {K : q_Mem → Prop} {x : Int} {w : Int → Int} {fo : Nat → Int} {L F n : Nat} {q : Nat → Nat} {M0 : q_Mem} :
    ∀ (m s c : Nat) (M : q_Mem) (p : Nat → Int) (jn W k : Nat), m + c ≤ 8 → z_pf x M0 M → z_V M w fo L F → z_CQ M x q F n → z_mo M w fo L q n → s < 2 ^ n → z_pr (z_fa fo) (z_fb fo) (z_aw w) L q m s W k → z_po (z_fa fo) (z_fb fo) (z_aw w) L q s W k → (∀ f : Nat, f < 16 → M (x + 1) f = p f) → M x 0 = (jn : Int) → jn < 65536 →
      (∀ (M' : q_Mem) (p' : Nat → Int) (jn' : Nat), z_pf x M0 M' → (∀ f : Nat, f < 16 → M' (x + 1) f = p' f) → M' x 0 = (jn' : Int) → jn' < 65536 → z_fin (z_fa fo) (z_fb fo) (z_aw w) L q m s p jn p' jn' → K M') →
      q_v mX3_workOut d (qPU K) M 102 [some (qR x), some (qR 91), some (qR 98), none, none, some (qI (s : Int)), some (qI (c : Int)), none, none, none, none] [] := by
  intro m
  induction m with
  | zero =>
    intro s c M p jn W k hc f hV hC hm hs hpr ho hp ej hj h
    have kk := z_k3 hC.1
    have e := hpr.1
    have dn := h M p jn f hp ej hj ⟨hpr.1, rfl, rfl⟩
    exact bX3_workOut_102 _ _ _ _ _ kk.1 z_k99.2.2.2.2.1 z_k99.2.2.2.1 ⟨fun _ => dn, fun _ => ⟨fun _ => dn, fun g => absurd (by omega) g⟩⟩
  | succ m ih =>
    intro s c M p jn W k hc f hV hC hm hs hpr ho hp ej hj h
    obtain ⟨v1, v2, v3, v4, v5, v6, v7, v8⟩ := id hV
    obtain ⟨c1, c2, c3, c4, c5, c6⟩ := id hC
    have kk := z_k3 c1
    have s16 : s < 65536 := Nat.lt_of_lt_of_le hs (by show 2 ^ n ≤ 2 ^ 16; exact Nat.pow_le_pow_right (by decide) c4)
    have hs0 : s ≠ 0 := by
      obtain ⟨i, _, _, _, _, _, hl, _⟩ := hpr
      exact z_low_ne hl
    obtain ⟨i, j0, hl, hpj0⟩ := z_po_step ho hs0
    obtain ⟨j, hpj, hmin⟩ := z_min (p := fun j => z_pj (z_fa fo) (z_fb fo) (z_aw w) L q s i j) j0 hpj0
    have hjn : j < n := Classical.byContradiction (fun c => by
      have := Nat.testBit_lt_two_pow (x := s) (i := j) (Nat.lt_of_lt_of_le hs (Nat.pow_le_pow_right (by decide) (by omega)))
      rw [hpj.2.1] at this; cases this)
    have hij := hpj.1
    refine bX3_workOut_102 _ _ _ _ _ kk.1 z_k99.2.2.2.2.1 z_k99.2.2.2.1 ⟨fun g => by omega, fun _ => ⟨fun g => absurd (show s = 0 by omega) hs0, fun _ => k_tz (by omega) s16 hl (by omega) (k_leastPartner (by omega) hV hC hm hl hs ho hpj hmin (fun M3 f3 m3 => ⟨fun _ => ?_, fun g => by omega⟩))⟩⟩
    have hV3 := z_V_9 hV f3
    have hC3 := z_CQ_9 hC f3
    have hqi := c6 i
    have hqj := c6 j
    rw [kk.2.2.2, kk.2.1, hC3.2.2.2.2.1 i (by omega), hC3.2.2.2.2.1 j hjn, z_andnot s16 (by omega) (by omega) hl.1 hpj.2.1 (by omega), q_add_eq (a := (c : Int)) (by omega), show (c : Int) + 1 = ((c + 1 : Nat) : Int) by omega]
    refine ⟨by omega, fun x9 e9 => ⟨by omega, fun x10 e10 => ?_⟩⟩
    subst e9 e10
    refine ⟨by omega, fun M10 e10 => ⟨by omega, fun M12 e12 => ?_⟩⟩
    obtain ⟨_, bj, W1, k1, W2, k2, o1, o2, o3⟩ := id hpj
    obtain ⟨ls, hls⟩ := z_pth_ex o1
    have f12 : z_pf x M M12 := fun a h1 h2 h3 h4 => by rw [e12, q_up_o h2, e10, q_up_o h2]; exact f3 a h4
    have hV12 := z_V_p c1 hV f12
    refine k_crossedBits (by omega) hV12 hqi hqj o1 hls (fun M15 e15 y ey => ?_)
    subst ey
    have j12 : M12 x 0 = (jn : Int) := by rw [e12, q_up_o (by omega), e10, q_up_o (by omega), f3 x (by omega)]; exact ej
    have hl16 : ∀ l ∈ ls, l < 16 := fun l hx => by have := z_pth_lt hls l hx; omega
    have ob := z_orb_lt (a := 0) (by decide) hl16
    rw [j12, q_xor_nat (by omega) (by omega)] at e15
    have lt := z_wo2_lt hl.1 bj hij
    obtain ⟨m', pr'⟩ := o2.1
    have mm : m' = m := by
      have a := z_pr_m hs hpr
      have b := z_pr_m (Nat.lt_trans lt hs) pr'
      have c := z_bc_wo2 hl.1 bj hij n hjn
      omega
    subst mm
    have f15 : z_pf x M M15 := fun a h1 h2 h3 h4 => by rw [e15, q_up_o h1]; exact f12 a h1 h2 h3 h4
    have r3 : M15 (x + 3) = M (x + 3) := by rw [e15, q_up_o (by omega), e12, q_up_o (by omega), e10, q_up_o (by omega), f3 _ (by omega)]
    have r9 : M15 169 = M3 169 := by rw [e15, q_up_o (by omega), e12, q_up_o (by omega), e10, q_up_o (by omega)]
    have rx : ∀ y : Int, y ≠ 0 → M15 x y = M x y := fun y hy => by rw [e15, q_up_n hy, e12, q_up_o (by omega), e10, q_up_o (by omega), f3 x (by omega)]
    refine ih (z_wo2 s i j) (c + 1) M15 (z_up2 p (q i) (q j)) (jn ^^^ z_orb 0 ls) W2 k2 (by omega) (fun a h1 h2 h3 h4 => (f15 a h1 h2 h3 h4).trans (f a h1 h2 h3 h4)) (z_V_p c1 hV f15) ⟨c1, by rw [rx 2 (by decide)]; exact c2, by rw [rx 5 (by decide)]; exact c3, c4, by rw [r3]; exact c5, c6⟩ (by unfold z_mo; rw [r9]; exact m3) (Nat.lt_trans lt hs) pr' o2 (fun fc hf => ?_) (by rw [e15, q_up_s]) (Nat.xor_lt_two_pow (n := 16) hj ob) (fun M' p' jn' a1 a2 a3 a4 a5 => h M' p' jn' a1 a2 a3 a4 ⟨i, j, W1, k1, ls, hl, hpj, fun j' hj' hx => by have := hmin j' hx; omega, o1, hls, a5⟩)
    rw [e15, q_up_o (by omega), e12]
    unfold z_up2
    by_cases cc : fc = q j
    · rw [if_pos cc, cc, q_up_s]
    · rw [if_neg cc, q_up_n (by omega), e10]
      by_cases c2 : fc = q i
      · rw [if_pos c2, c2, q_up_s]
      · rw [if_neg c2, q_up_n (by omega), f3 _ (by omega)]
        exact hp fc hf
theorem l_cp16 {d : Nat} (hd : 20 ≤ d) {K : q_Mem → Prop} {x : Int} (hx : x = 170 ∨ x = 174) {w : Int → Int} {fo : Nat → Int} {L F ob W k : Nat} (hob : ob < 65536) (hq : 0 < (z_ol (fun f => ob.testBit f) 16).length → ∀ i, z_at (z_ol (fun f => ob.testBit f) 16) i < F) (ho : z_po (z_fa fo) (z_fb fo) (z_aw w) L (z_at (z_ol (fun f => ob.testBit f) 16)) (2 ^ (z_ol (fun f => ob.testBit f) 16).length - 1) W k) {M0 : q_Mem} (hV0 : z_V M0 w fo L F)
    (h : ∀ (M' : q_Mem) (p' : Nat → Int) (jn' m : Nat), z_pf x M0 M' → (∀ f : Nat, f < 16 → M' (x + 1) f = p' f) → M' x 0 = (jn' : Int) → jn' < 65536 → z_fin (z_fa fo) (z_fb fo) (z_aw w) L (z_at (z_ol (fun f => ob.testBit f) 16)) m (2 ^ (z_ol (fun f => ob.testBit f) 16).length - 1) (fun _ => -1) 0 p' jn' → K M') :
    ∀ (j f : Nat) (M : q_Mem), f + j = 16 → z_pf x M0 M → M x 2 = 99 → M x 5 = ((z_ol (fun f => ob.testBit f) f).length : Int) → (∀ i : Nat, i < (z_ol (fun f => ob.testBit f) f).length → M (x + 3) i = (z_at (z_ol (fun f => ob.testBit f) f) i : Int)) → (∀ y : Nat, y < f → M (x + 1) y = -1) → q_v mX3_workOut d (qPU K) M 16 [some (qR x), some (qR 91), some (qR 98), some (qI (ob : Int)), some (qI (f : Int)), none, none, none, none, none, none] [] := by
  have kk := z_k3 hx
  intro j
  induction j with
  | zero =>
    intro f M e fr e2 e5 e3 e1
    have ef : f = 16 := by omega
    subst ef
    have n16 := z_ol_len (p := fun f => ob.testBit f) (n := 16)
    have pos := Nat.two_pow_pos (z_ol (fun f => ob.testBit f) 16).length
    have p16 : 2 ^ (z_ol (fun f => ob.testBit f) 16).length ≤ 65536 := by show _ ≤ 2 ^ 16; exact Nat.pow_le_pow_right (by decide) n16
    refine bX3_workOut_16 _ _ _ _ _ kk.1 z_k99.2.2.2.2.1 z_k99.2.2.2.1 ⟨fun _ y ey => ?_, fun g => absurd (by decide) g⟩
    rw [e5, q_shl1 _ (by omega), q_sub_eq (by omega), show ((2 ^ (z_ol (fun f => ob.testBit f) 16).length : Nat) : Int) - 1 = ((2 ^ (z_ol (fun f => ob.testBit f) 16).length - 1 : Nat) : Int) by omega] at ey
    subst ey
    rw [kk.2.2.1, q_add_eq (by omega)]
    refine k_fill3 (by omega) z_k99.2.2.2.2.2.1 (by decide) (by omega) (by rw [z_k99.2.2.2.2.2.2]; omega) (by omega) (fun M3 e3' => ?_)
    have ra : ∀ a, a ≠ x → a ≠ 169 → M3 a = M a := fun a h1 h2 => by rw [e3', q_up_o h1, z_fill_o h2]
    have f3 : z_pf x M0 M3 := fun a h1 h2 h3 h4 => (ra a h1 h4).trans (fr a h1 h2 h3 h4)
    have rx : ∀ y : Int, y ≠ 0 → M3 x y = M x y := fun y hy => by rw [e3', q_up_n hy, z_fill_o (by omega)]
    have j3 : M3 x 0 = 0 := by rw [e3', q_up_s]
    have p3 : ∀ y : Nat, y < 16 → M3 (x + 1) y = -1 := by rw [ra _ (by omega) (by omega)]; exact e1
    obtain ⟨m, hpr⟩ := ho.1
    by_cases c0 : (z_ol (fun f => ob.testBit f) 16).length = 0
    · have hz : 2 ^ (z_ol (fun f => ob.testBit f) 16).length - 1 = 0 := by rw [c0]
      have dn := h M3 (fun _ => -1) 0 0 f3 p3 j3 (by decide) ⟨hz, rfl, rfl⟩
      exact bX3_workOut_102 _ _ _ _ _ kk.1 z_k99.2.2.2.2.1 z_k99.2.2.2.1 ⟨fun _ => dn, fun _ => ⟨fun _ => dn, fun g => absurd (by omega) g⟩⟩
    · have mm := z_pr_m (n := (z_ol (fun f => ob.testBit f) 16).length) (by omega) hpr
      have bl := z_bc_le (s := 2 ^ (z_ol (fun f => ob.testBit f) 16).length - 1) (n := (z_ol (fun f => ob.testBit f) 16).length)
      refine l_cp102 hd (M0 := M0) (F := F) (n := (z_ol (fun f => ob.testBit f) 16).length) m _ 0 M3 (fun _ => -1) 0 W k (by omega) f3 (z_V_p hx hV0 f3) ⟨hx, by rw [rx 2 (by decide)]; exact e2, by rw [rx 5 (by decide)]; exact e5, n16, by rw [ra _ (by omega) (by omega)]; exact e3, hq (by omega)⟩ (fun s h1 h2 => ?_) (by omega) hpr ho p3 j3 (by decide) (fun M' p' jn' a1 a2 a3 a4 a5 => h M' p' jn' m a1 a2 a3 a4 a5)
      left
      rw [e3', q_up_o (by omega), z_fill_s (by omega)]
  | succ j ih =>
    intro f M e fr e2 e5 e3 e1
    have ln := z_ol_len (p := fun f => ob.testBit f) (n := f)
    refine bX3_workOut_16 _ _ _ _ _ kk.1 z_k99.2.2.2.2.1 z_k99.2.2.2.1 ⟨fun g => by omega, fun _ => ?_⟩
    rw [kk.2.1, kk.2.2.2, q_bit0 (by omega) (by omega), q_add_eq (a := (f : Int)) (by omega), show (f : Int) + 1 = ((f + 1 : Nat) : Int) by omega]
    refine ⟨by omega, fun M5 q5 => ?_⟩
    have f5 : z_pf x M0 M5 := fun a h1 h2 h3 h4 => by rw [q5, q_up_o h2]; exact fr a h1 h2 h3 h4
    have x5 : M5 x = M x := by rw [q5, q_up_o (by omega)]
    have r5 : M5 (x + 3) = M (x + 3) := by rw [q5, q_up_o (by omega)]
    have n1 : ∀ y : Nat, y < f + 1 → M5 (x + 1) y = -1 := by
      intro y hy
      by_cases c : y = f
      · subst c; rw [q5, q_up_s]
      · rw [q5, q_up_n (by omega)]; exact e1 y (by omega)
    rw [x5, e5]
    refine ⟨fun tb => ?_, fun tb => ⟨by omega, fun M7 e7 M8 e8 => ?_⟩⟩
    · have es : z_ol (fun f => ob.testBit f) (f + 1) = z_ol (fun f => ob.testBit f) f := by rw [z_ol_succ, tb]; rfl
      refine ih (f + 1) M5 (by omega) f5 (by rw [x5]; exact e2) (by rw [es, x5]; exact e5) (by rw [es, r5]; exact e3) n1
    · have tb : ob.testBit f = true := by simpa using tb
      have es : z_ol (fun f => ob.testBit f) (f + 1) = z_ol (fun f => ob.testBit f) f ++ [f] := by rw [z_ol_succ, tb]; rfl
      rw [show M7 x 5 = ((z_ol (fun f => ob.testBit f) f).length : Int) by rw [e7, q_up_o (by omega), x5]; exact e5, q_add_eq (by omega)] at e8
      refine ih (f + 1) M8 (by omega) (fun a h1 h2 h3 h4 => by rw [e8, q_up_o h1, e7, q_up_o h3]; exact f5 a h1 h2 h3 h4) (by rw [e8, q_up_n (by decide), e7, q_up_o (by omega), x5]; exact e2) ?_ (fun i hi => ?_) (fun y hy => by rw [e8, q_up_o (by omega), e7, q_up_o (by omega)]; exact n1 y hy)
      · rw [e8, q_up_s, es, List.length_append, List.length_singleton]; omega
      · rw [es, List.length_append, List.length_singleton] at hi
        rw [e8, q_up_o (by omega), es, z_at_app, e7]
        by_cases c : i < (z_ol (fun f => ob.testBit f) f).length
        · rw [if_pos c, q_up_n (by omega), r5]; exact e3 i c
        · rw [if_neg c, if_pos (by omega), show i = (z_ol (fun f => ob.testBit f) f).length by omega, q_up_s]
theorem z_ol_ext {p r : Nat → Bool} {F : Nat} (h : ∀ f, f < F → p f = r f) (h2 : ∀ f, F ≤ f → p f = false) : ∀ k, z_ol p (F + k) = z_ol r F
  | 0 => by
    unfold z_ol
    exact List.filter_congr (fun x hx => h x (List.mem_range.mp hx))
  | k + 1 => by
    rw [show F + (k + 1) = (F + k) + 1 by omega, z_ol_succ, h2 (F + k) (by omega), z_ol_ext h h2 k]
    rfl
theorem k_pairing {d : Nat} {M : q_Mem} {K : q_Mem → Prop} {x sg : Int} {o w : Int → Int} (hd : 20 < d) (hx : x = 170 ∨ x = 174) (hE : z_E o) (hV : z_V M w (z_fo o) (z_L o) (z_fm o)) (hww : ∀ l : Nat, l < z_L o → w l = z_wr o l) (h : ∀ (M' : q_Mem) (p' : Nat → Int) (jn' : Nat), z_pf x M M' → (∀ f : Nat, f < 16 → M' (x + 1) f = p' f) → M' x 0 = (jn' : Int) → jn' < 65536 → z_PF o sg p' jn' → K M') : q_kU yX3_workOut mX3_workOut d [qR x, qR 91, qR 98, qI (z_odd (z_fo o) (z_gd w sg (z_L o)) 32 : Int)] M K := by
  obtain ⟨hn, hlw, hg, ht, _, hr⟩ := id hE
  have kk := z_k3 hx
  have hL := z_net_L16 hn
  have h16 := z_fm_16 hn hr
  have gdc : z_gd w sg (z_L o) = z_gd (z_wr o) sg (z_L o) := z_gd_c hww
  rw [gdc]
  have wc : ∀ l, l < z_L o → z_aw w l = z_aw (z_wr o) l := fun l hl => by unfold z_aw; rw [hww l hl]
  have far : ∀ l, 2 * z_L o ≤ 2 * l → (z_gd (z_wr o) sg (z_L o)).testBit l = false := fun l hl => by
    unfold z_gd
    rw [z_set_bit, decide_eq_false (by omega)]
    rfl
  have bits : ∀ f, (z_odd (z_fo o) (z_gd (z_wr o) sg (z_L o)) 32).testBit f = (decide (f < 16) && z_par (z_fo o) (z_gd (z_wr o) sg (z_L o)) f (2 * z_L o)) := by
    intro f
    rw [z_odd_bit]
    congr 1
    have := z_par_far (fo := z_fo o) (g := z_gd (z_wr o) sg (z_L o)) (f := (f : Int)) (D := 2 * z_L o) far (by omega) (k := 32 - 2 * z_L o)
    rw [show 2 * z_L o + (32 - 2 * z_L o) = 32 by omega] at this
    exact this
  have eol : z_ol (fun f => (z_odd (z_fo o) (z_gd (z_wr o) sg (z_L o)) 32).testBit f) 16 = z_op1 o sg := by
    have := z_ol_ext (p := fun f => (z_odd (z_fo o) (z_gd (z_wr o) sg (z_L o)) 32).testBit f) (r := fun f => z_par (z_fo o) (z_gd (z_wr o) sg (z_L o)) f (2 * z_L o)) (F := z_fm o) (fun f hf => by rw [bits, decide_eq_true (by omega), Bool.true_and]) (fun f hf => by
      rw [bits, z_par_no (fun y hy e => by have := z_fo_in hn hr hy; omega), Bool.and_false]) (16 - z_fm o)
    rw [show z_fm o + (16 - z_fm o) = 16 by omega] at this
    exact this
  obtain ⟨W, k, ho⟩ := z_whole hn hr (sg := sg)
  have ho' := z_po_c (fun l hl => (wc l hl).symm) ho
  refine q_goU hd rfl (plainFor_of_name (by decide +kernel)) rfl (fun h => nomatch h) (Nat.le_of_ble_eq_true rfl) (fun d hd => bX3_workOut_0 _ _ _ _ kk.1 z_k99.2.2.2.2.1 z_k99.2.2.2.1 (fun M1 e1 M2 e2 => ?_))
  rw [z_k99.2.2.1] at e1
  have f2 : z_pf x M M2 := fun a h1 h2 h3 h4 => by rw [e2, q_up_o h1, e1, q_up_o h1]
  refine l_cp16 (F := z_fm o) (w := w) (fo := z_fo o) (L := z_L o) (W := W) (k := k) (M0 := M) hd hx z_odd_lt (by rw [eol]; exact fun h i => z_op1_in h) (by rw [eol]; exact ho') hV (fun M' p' jn' m a1 a2 a3 a4 a5 => h M' p' jn' a1 a2 a3 a4 ⟨m, ?_⟩) 16 0 M2 (by omega) f2 (by rw [e2, q_up_n (by decide), e1, q_up_s]) (by rw [e2, q_up_s]; rfl) (fun i hi => absurd hi (Nat.not_lt_zero _)) (fun y hy => by omega)
  rw [eol] at a5
  exact z_fin_c wc a5
