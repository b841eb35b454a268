-- the class: first link, links crossed
def z_V (M : q_Mem) (w : Int → Int) (fo : Nat → Int) (L F : Nat) : Prop := F ≤ 16 ∧ L ≤ 16 ∧ (∀ x : Nat, x < 32 → M 93 x = fo x) ∧ (∀ x, x < 2 * L → 0 ≤ fo x ∧ fo x < (F : Int)) ∧ (∀ l : Nat, l < L → -99 ≤ w l ∧ w l ≤ 99) ∧ z_wv w fo L F M
theorem l_fi23 {d : Nat} {K : Int → q_Mem → Prop} {M : q_Mem} (hd : 1 ≤ d) {w : Int → Int} {fo : Nat → Int} {L F : Nat} (hV : z_V M w fo L F) {f g W k l0 b0 : Nat} (hf : f < F) (hg : g < F) (ho : z_op (z_fa fo) (z_fb fo) (z_aw w) L f g W k)
    (hl0 : z_fl (z_fa fo) (z_fb fo) (z_aw w) L g f l0 b0) (hmin : ∀ l' b', l' < l0 → ¬ z_fl (z_fa fo) (z_fb fo) (z_aw w) L g f l' b') (h : K (l0 : Int) M) :
    ∀ (j l : Nat), l + j = l0 → q_v mX10_firstLink d (qPI K) M 23 [some (qR 98), some (qR 91), some (qI (f : Int)), some (qI (g : Int)), some (qI (l : Int)), none] [] := by
  obtain ⟨h16, hL, hfo, hin, hw, hT, hco, hlk⟩ := id hV
  have hF := fun l hl => (z_fab hin (l := l) hl).2.2
  have hl0L := hl0.1
  have Tf := hT f g hf hg
  intro j
  induction j with
  | zero =>
    intro l e
    have el : l = l0 := by omega
    subst el
    have fb := z_fab hin hl0L
    have key := z_fl_iff (S := 1024) (I := 536870912) hF (z_aw99 hw) h16 (by decide) (by decide) (by decide) hf hg ho hl0L hl0.2.1
    have eq := key.2.2.2.mpr hl0
    have ev : (if fo (2 * l) = fo (2 * l + 1) then -1 else if fo (2 * l) = (f : Int) then fo (2 * l + 1) else if fo (2 * l + 1) = (f : Int) then fo (2 * l) else -1) = (b0 : Int) := by
      rw [fb.1, fb.2.1]
      have := hl0.2.1
      have n := this.1
      rw [if_neg (by omega)]
      rcases this.2 with q | q
      · rw [if_pos (by omega)]; omega
      · rw [if_neg (by omega), if_pos (by omega)]; omega
    have Tb := hT b0 g key.1 hg
    have c9 : 0 ≤ z_co (z_aw w) 1024 l ∧ z_co (z_aw w) 1024 l ≤ 110000 := by
      have := z_aw99 hw l hl0L
      unfold z_co
      omega
    have kb := z_k100n b0 (by have := key.1; omega)
    have kf := z_k100n f (by omega)
    have k1 := key.1
    refine bX10_firstLink_23 _ _ _ _ (by decide +kernel) ?_
    rw [hlk]
    refine ⟨fun g => by omega, fun _ => k_cbeyond (by omega) (by omega) hfo ?_⟩
    rw [ev]
    refine ⟨fun q => by omega, fun _ => ?_⟩
    rw [z_l99' (by omega), z_l99' (by omega), kb.2, kf.2, Tb, Tf, hco l hl0L, q_add_eq (by have := key.2; omega)]
    exact ⟨by omega, by omega, kb.1, by omega, by omega, kf.1, by omega, fun q => absurd eq q, fun _ => h⟩
  | succ j ih =>
    intro l e
    have hlL : l < L := by omega
    have fb := z_fab hin hlL
    have nx := ih (l + 1) (by omega)
    have nx' : q_v mX10_firstLink d (qPI K) M 23 [some (qR 98), some (qR 91), some (qI (f : Int)), some (qI (g : Int)), some (qI (q_add (l : Int) 1)), none] [] := by
      rw [q_add_eq (by omega)]
      exact nx
    refine bX10_firstLink_23 _ _ _ _ (by decide +kernel) ?_
    rw [hlk]
    refine ⟨fun g => by omega, fun _ => k_cbeyond (by omega) (by omega) hfo ?_⟩
    rw [fb.1, fb.2.1]
    by_cases c0 : (z_fa fo l : Int) = (z_fb fo l : Int)
    · rw [if_pos c0]
      exact ⟨fun _ => nx', fun q => absurd rfl q⟩
    · rw [if_neg c0]
      by_cases c1 : (z_fa fo l : Int) = (f : Int) ∨ (z_fb fo l : Int) = (f : Int)
      · have ex : ∃ b, b < F ∧ (if (z_fa fo l : Int) = (f : Int) then (z_fb fo l : Int) else if (z_fb fo l : Int) = (f : Int) then (z_fa fo l : Int) else -1) = (b : Int) ∧ z_ad (z_fa fo) (z_fb fo) l f b := by
          by_cases c2 : (z_fa fo l : Int) = (f : Int)
          · rw [if_pos c2]
            exact ⟨z_fb fo l, fb.2.2.2, rfl, by omega, Or.inl ⟨by omega, rfl⟩⟩
          · rw [if_neg c2, if_pos (c1.resolve_left c2)]
            exact ⟨z_fa fo l, fb.2.2.1, rfl, by omega, Or.inr ⟨by omega, rfl⟩⟩
        obtain ⟨b, hb, ev, had⟩ := ex
        have Tb := hT b g hb hg
        have c9 : 1 ≤ z_co (z_aw w) 1024 l ∧ z_co (z_aw w) 1024 l ≤ 110000 := by
          have := z_aw99 hw l hlL
          unfold z_co
          omega
        have key := z_fl_iff (S := 1024) (I := 536870912) hF (z_aw99 hw) h16 (by decide) (by decide) (by decide) hf hg ho hlL had
        have kb := z_k100n b (by omega)
        have kf := z_k100n f (by omega)
        rw [ev]
        refine ⟨fun q => by omega, fun _ => ?_⟩
        rw [z_l99' (by omega), z_l99' (by omega), kb.2, kf.2, Tb, Tf, hco l hlL, q_add_eq (a := z_co (z_aw w) 1024 l) (by have := key.2; omega)]
        exact ⟨by omega, by omega, kb.1, by omega, by omega, kf.1, by omega, fun _ => nx', fun q => absurd (key.2.2.2.mp q) (hmin l b (by omega))⟩
      · rw [if_neg (fun q => c1 (Or.inl q)), if_neg (fun q => c1 (Or.inr q))]
        exact ⟨fun _ => nx', fun q => absurd rfl q⟩
/-- the first link of a way; none -/
def z_hd (ls : List Nat) : Int := match ls with
  | [] => -1
  | l :: _ => (l : Int)
theorem k_firstLink {d : Nat} {M : q_Mem} {K : Int → q_Mem → Prop} {w : Int → Int} {fo : Nat → Int} {L F f g W k : Nat} {ls : List Nat} (hd : 1 < d) (hV : z_V M w fo L F) (hf : f < F) (hg : g < F) (ho : z_op (z_fa fo) (z_fb fo) (z_aw w) L f g W k) (hp : z_pth (z_fa fo) (z_fb fo) (z_aw w) L g k f ls) (h : K (z_hd ls) M) : q_kI yX10_firstLink mX10_firstLink d [qR 98, qR 91, qI (f : Int), qI (g : Int)] M K := by
  obtain ⟨h16, hL, hfo, hin, hw, hT, hco, hlk⟩ := id hV
  have hF := fun l hl => (z_fab hin (l := l) hl).2.2
  have T := (z_tb_ok (S := 1024) (I := 536870912) hF (z_aw99 hw) h16 (by decide) (by decide) (by decide) hf hg).resolve_right (fun q => q.1 _ _ ho.1)
  have kf := z_k100n f (by omega)
  refine q_goI hd rfl (plainFor_of_name (by decide +kernel)) rfl (fun h => nomatch h) (Nat.le_of_ble_eq_true rfl) (fun d hd => bX10_firstLink_0 _ _ _ (by decide +kernel) ?_)
  match k, ls, hp with
  | 0, [], hp =>
    exact ⟨fun _ => h, fun q => absurd (show (f : Int) = (g : Int) by have : f = g := hp; omega) q⟩
  | k + 1, l :: ls, ⟨b, h1, h2, h3⟩ =>
    have ne : f ≠ g := by
      intro q
      subst q
      have := (z_op_self ho).2
      omega
    obtain ⟨W', k', _, k16, W9, e⟩ := T
    refine ⟨fun q => absurd (show f = g by omega) ne, fun _ => ?_⟩
    rw [z_l99' (by omega), kf.2, hT f g hf hg, e]
    exact ⟨by omega, kf.1, by omega, fun _ => l_fi23 hd hV hf hg ho h1 h2 h l 0 (by omega), fun q => absurd (by omega) q⟩
theorem k_firstNo {d : Nat} {M : q_Mem} {K : Int → q_Mem → Prop} {w : Int → Int} {fo : Nat → Int} {L F f g : Nat} (hd : 1 < d) (hV : z_V M w fo L F) (hf : f < F) (hg : g < F) (no : ∀ W k, ¬ z_wl (z_fa fo) (z_fb fo) (z_aw w) L k f g W) (h : K (-1) M) : q_kI yX10_firstLink mX10_firstLink d [qR 98, qR 91, qI (f : Int), qI (g : Int)] M K := by
  obtain ⟨h16, hL, hfo, hin, hw, hT, hco, hlk⟩ := id hV
  have hF := fun l hl => (z_fab hin (l := l) hl).2.2
  have T := (z_tb_ok (S := 1024) (I := 536870912) hF (z_aw99 hw) h16 (by decide) (by decide) (by decide) hf hg).resolve_left (fun ⟨W, k, o, _⟩ => no W k o.1)
  have kf := z_k100n f (by omega)
  refine q_goI hd rfl (plainFor_of_name (by decide +kernel)) rfl (fun h => nomatch h) (Nat.le_of_ble_eq_true rfl) (fun d hd => bX10_firstLink_0 _ _ _ (by decide +kernel) ⟨fun _ => h, fun _ => ?_⟩)
  rw [z_l99' (by omega), kf.2, hT f g hf hg, T.2]
  exact ⟨by omega, kf.1, by omega, fun q => absurd q (by decide), fun _ => h⟩
theorem z_cby {fo : Nat → Int} {L F f l b : Nat} (hin : ∀ x, x < 2 * L → 0 ≤ fo x ∧ fo x < (F : Int)) (hl : l < L) (ha : z_ad (z_fa fo) (z_fb fo) l f b) : (if fo (2 * l) = fo (2 * l + 1) then -1 else if fo (2 * l) = (f : Int) then fo (2 * l + 1) else if fo (2 * l + 1) = (f : Int) then fo (2 * l) else -1) = (b : Int) := by
  have fb := z_fab hin hl
  have n := ha.1
  rw [fb.1, fb.2.1, if_neg (by omega)]
  rcases ha.2 with q | q
  · rw [if_pos (by omega)]; omega
  · rw [if_neg (by omega), if_pos (by omega)]; omega
theorem l_crossed {d : Nat} {K : Int → q_Mem → Prop} {M : q_Mem} (hd : 2 ≤ d) {w : Int → Int} {fo : Nat → Int} {L F g n : Nat} (hV : z_V M w fo L F) (hg : g < F) (hn : n < 16) :
    ∀ (k f i W : Nat) (ls : List Nat), f < F → i ≤ n → z_op (z_fa fo) (z_fb fo) (z_aw w) L f g W k → z_pth (z_fa fo) (z_fb fo) (z_aw w) L g k f ls → K (if n - i < k then (ls.getD (n - i) 0 : Int) else -1) M →
      q_v mX10_crossed d (qPI K) M 25 [some (qR 98), some (qR 91), none, some (qI (g : Int)), some (qI (n : Int)), some (qI (f : Int)), some (qI (z_hd ls)), some (qI (i : Int))] [] := by
  intro k
  induction k with
  | zero =>
    intro f i W ls hf hi ho hp h
    match ls, hp with
    | [], hp =>
      rw [if_neg (by omega)] at h
      exact bX10_crossed_25 _ _ _ _ _ _ (by decide +kernel) ⟨fun _ => h, fun _ => ⟨fun _ => h, fun q => absurd rfl q⟩⟩
  | succ k ih =>
    intro f i W ls hf hi ho hp h
    match ls, hp with
    | l :: ls, ⟨b, h1, h2, h3⟩ =>
      obtain ⟨W1, _, o1⟩ := z_fl_op h1 ho
      have hb : b < F := by
        have := (z_fab hV.2.2.2.1 h1.1).2.2
        rcases h1.2.1.2 with q | q <;> omega
      have hl16 : l < 16 := by have := h1.1; have := hV.2.1; omega
      refine bX10_crossed_25 _ _ _ _ _ _ (by decide +kernel) ⟨fun q => ?_, fun q => ⟨fun q2 => ?_, fun _ => k_cbeyond (by omega) hl16 hV.2.2.1 ?_⟩⟩
      · have e : n - i = 0 := by omega
        rw [e, if_pos (by omega)] at h
        exact h
      · exact absurd (show (l : Int) = -1 from q2) (by omega)
      · rw [z_cby hV.2.2.2.1 h1.1 h1.2.1]
        refine k_firstLink (by omega) hV hb hg o1 h3 ?_
        rw [q_add_eq (by omega), show (i : Int) + 1 = ((i + 1 : Nat) : Int) by omega]
        refine ih b (i + 1) W1 ls hb (by omega) o1 h3 ?_
        have e : n - i = (n - (i + 1)) + 1 := by omega
        rw [e] at h
        by_cases c : n - (i + 1) < k
        · rw [if_pos (by omega)] at h
          rw [if_pos c]
          exact h
        · rw [if_neg (by omega)] at h
          rw [if_neg c]
          exact h
theorem k_crossed {d : Nat} {M : q_Mem} {K : Int → q_Mem → Prop} {w : Int → Int} {fo : Nat → Int} {L F f g : Nat} {i : Int} (hd : 2 < d) (hV : z_V M w fo L F) (hf : f < F) (hg : g < F) (hi : 0 ≤ i) (h1 : ∀ W k ls, z_op (z_fa fo) (z_fb fo) (z_aw w) L f g W k → z_pth (z_fa fo) (z_fb fo) (z_aw w) L g k f ls → K (if i < (k : Int) then (ls.getD i.toNat 0 : Int) else -1) M) (h0 : (∀ W k, ¬ z_wl (z_fa fo) (z_fb fo) (z_aw w) L k f g W) → K (-1) M) : q_kI yX10_crossed mX10_crossed d [qR 98, qR 91, qI (f : Int), qI (g : Int), qI i] M K := by
  have hF := fun l hl => (z_fab hV.2.2.2.1 (l := l) hl).2.2
  refine q_goI hd rfl (plainFor_of_name (by decide +kernel)) rfl (fun h => nomatch h) (Nat.le_of_ble_eq_true rfl) (fun d hd => bX10_crossed_0 _ _ _ _ (by decide +kernel) ⟨fun g1 => ?_, fun g1 => ?_⟩)
  · by_cases ex : ∃ W k, z_wl (z_fa fo) (z_fb fo) (z_aw w) L k f g W
    · obtain ⟨W0, k0, h9⟩ := ex
      obtain ⟨W, k, ho⟩ := z_op_ex h9
      obtain ⟨ls, hp⟩ := z_pth_ex ho
      refine k_firstLink (by omega) hV hf hg ho hp ?_
      have := l_crossed (K := K) (d := d) (n := i.toNat) hd hV hg (by omega) k f 0 W ls hf (by omega) ho hp (by
        have := h1 W k ls ho hp
        rw [Nat.sub_zero]
        by_cases c : i < (k : Int)
        · rw [if_pos c] at this; rw [if_pos (by omega)]; exact this
        · rw [if_neg c] at this; rw [if_neg (by omega)]; exact this)
      rwa [show ((i.toNat : Nat) : Int) = i by omega] at this
    · have no : ∀ W k, ¬ z_wl (z_fa fo) (z_fb fo) (z_aw w) L k f g W := fun W k h => ex ⟨W, k, h⟩
      refine k_firstNo (by omega) hV hf hg no ?_
      exact bX10_crossed_25 _ _ _ _ _ _ (by decide +kernel) ⟨fun _ => h0 no, fun _ => ⟨fun _ => h0 no, fun q => absurd rfl q⟩⟩
  · by_cases ex : ∃ W k, z_wl (z_fa fo) (z_fb fo) (z_aw w) L k f g W
    · obtain ⟨W0, k0, h9⟩ := ex
      obtain ⟨W, k, ho⟩ := z_op_ex h9
      obtain ⟨ls, hp⟩ := z_pth_ex ho
      have := h1 W k ls ho hp
      have ks := z_op_short hF hf ho
      rw [if_neg (by have := hV.1; omega)] at this
      exact this
    · exact h0 (fun W k h => ex ⟨W, k, h⟩)
theorem l_cbits {d : Nat} {K : Int → q_Mem → Prop} {M : q_Mem} (hd : 2 ≤ d) {w : Int → Int} {fo : Nat → Int} {L F g : Nat} (hV : z_V M w fo L F) (hg : g < F) :
    ∀ (k f i a W : Nat) (ls : List Nat), f < F → i + k < 16 → a < 65536 → z_op (z_fa fo) (z_fb fo) (z_aw w) L f g W k → z_pth (z_fa fo) (z_fb fo) (z_aw w) L g k f ls → K (z_orb a ls : Int) M →
      q_v mX10_crossedBits d (qPI K) M 9 [some (qR 98), some (qR 91), none, some (qI (g : Int)), some (qI (a : Int)), some (qI (f : Int)), some (qI (i : Int)), none] [] := by
  intro k
  induction k with
  | zero =>
    intro f i a W ls hf hi ha ho hp h
    match ls, hp with
    | [], hp =>
      have hp : f = g := hp
      exact bX10_crossedBits_9 _ _ _ _ _ (by decide +kernel) ⟨fun _ => h, fun _ => ⟨fun _ => h, fun q => absurd (by omega) q⟩⟩
  | succ k ih =>
    intro f i a W ls hf hi ha ho hp h
    match ls, hp with
    | l :: ls, hp0 =>
      obtain ⟨b, h1, h2, h3⟩ := id hp0
      obtain ⟨W1, _, o1⟩ := z_fl_op h1 ho
      have hb : b < F := by
        have := (z_fab hV.2.2.2.1 h1.1).2.2
        rcases h1.2.1.2 with q | q <;> omega
      have hl16 : l < 16 := by have := h1.1; have := hV.2.1; omega
      have ne : f ≠ g := by
        intro q
        subst q
        have := (z_op_self ho).2
        omega
      refine bX10_crossedBits_9 _ _ _ _ _ (by decide +kernel) ⟨fun q => by omega, fun _ => ⟨fun q => absurd (show f = g by omega) ne, fun _ => k_firstLink (ls := l :: ls) (by omega) hV hf hg ho hp0 ⟨fun _ x ex => ?_, fun q => absurd (show (l : Int) = -1 from q) (by omega)⟩⟩⟩
      refine k_cbeyond (l := l) (by omega) hl16 hV.2.2.1 ?_
      rw [z_cby hV.2.2.2.1 h1.1 h1.2.1, ex, q_add_eq (by omega), show (i : Int) + 1 = ((i + 1 : Nat) : Int) by omega]
      show q_v mX10_crossedBits d (qPI K) M 9 [some (qR 98), some (qR 91), none, some (qI (g : Int)), some (qI (q_or (a : Int) (q_shl 1 (l : Int)))), some (qI (b : Int)), some (qI ((i + 1 : Nat) : Int)), none] []
      rw [q_or1 (by omega) (by omega)]
      exact ih b (i + 1) (a ||| 2 ^ l) W1 ls hb (by omega) (Nat.or_lt_two_pow (n := 16) ha (Nat.pow_lt_pow_right (a := 2) (by decide) hl16)) o1 h3 h
theorem k_crossedBits {d : Nat} {M : q_Mem} {K : Int → q_Mem → Prop} {w : Int → Int} {fo : Nat → Int} {L F f g W k : Nat} {ls : List Nat} (hd : 2 < d) (hV : z_V M w fo L F) (hf : f < F) (hg : g < F) (ho : z_op (z_fa fo) (z_fb fo) (z_aw w) L f g W k) (hp : z_pth (z_fa fo) (z_fb fo) (z_aw w) L g k f ls) (h : K (z_orb 0 ls : Int) M) : q_kI yX10_crossedBits mX10_crossedBits d [qR 98, qR 91, qI (f : Int), qI (g : Int)] M K := by
  have ks := z_op_short (fun l hl => (z_fab hV.2.2.2.1 (l := l) hl).2.2) hf ho
  have := hV.1
  exact q_goI hd rfl (plainFor_of_name (by decide +kernel)) rfl (fun h => nomatch h) (Nat.le_of_ble_eq_true rfl) (fun d hd => bX10_crossedBits_0 _ _ _ (by decide +kernel) (l_cbits hd hV hg k f 0 0 W ls hf (by omega) (by decide) ho hp h))
