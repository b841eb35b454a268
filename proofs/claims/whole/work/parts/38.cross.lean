-- the links that a lightest way crosses
section CROSS
variable {fa fb aw : Nat → Nat} {L F S : Nat} {I : Int}
def z_fl (fa fb aw : Nat → Nat) (L g f l b : Nat) : Prop := l < L ∧ z_ad fa fb l f b ∧ ∃ W k, z_op fa fb aw L b g W k ∧ z_op fa fb aw L f g (aw l + W) (k + 1)
def z_pth (fa fb aw : Nat → Nat) (L g : Nat) : Nat → Nat → List Nat → Prop
  | 0, f, [] => f = g
  | k + 1, f, l :: ls => ∃ b, z_fl fa fb aw L g f l b ∧ (∀ l' b', l' < l → ¬ z_fl fa fb aw L g f l' b') ∧ z_pth fa fb aw L g k b ls
  | _, _, _ => False
theorem z_ad_un {l f b b' : Nat} (h : z_ad fa fb l f b) (h' : z_ad fa fb l f b') : b = b' := by
  have := h.1
  rcases h.2 with q | q <;> rcases h'.2 with r | r <;> omega
theorem z_fl_op {g f l b W k : Nat} (h : z_fl fa fb aw L g f l b) (ho : z_op fa fb aw L f g W (k + 1)) : ∃ W', W = aw l + W' ∧ z_op fa fb aw L b g W' k := by
  obtain ⟨_, _, W', k', h1, h2⟩ := h
  have := z_op_un h2 ho
  have e : k' = k := by omega
  subst e
  exact ⟨W', this.1.symm, h1⟩
theorem z_pth_ex : ∀ {k f g W : Nat}, z_op fa fb aw L f g W k → ∃ ls, z_pth fa fb aw L g k f ls
  | 0, f, g, W, h => ⟨[], z_op_zero h⟩
  | k + 1, f, g, W, h => by
    obtain ⟨l, b, W', h1, h2, h3, h4⟩ := id h.1
    have ex : ∃ l b, z_fl fa fb aw L g f l b := ⟨l, b, h1, h2, W', k, z_op_tail h h1 h2 h3 h4, by rw [← h3]; exact h⟩
    obtain ⟨l0, b0, hl0⟩ := ex
    obtain ⟨l1, ⟨b1, hl1⟩, m1⟩ := z_min (p := fun l => ∃ b, z_fl fa fb aw L g f l b) l0 ⟨b0, hl0⟩
    obtain ⟨W1, _, o1⟩ := z_fl_op hl1 h
    obtain ⟨ls, hls⟩ := z_pth_ex o1
    exact ⟨l1 :: ls, b1, hl1, fun l' b' hlt hf => by have := m1 l' ⟨b', hf⟩; omega, hls⟩
theorem z_pth_len : ∀ {k f g : Nat} {ls : List Nat}, z_pth fa fb aw L g k f ls → ls.length = k
  | 0, f, g, [], _ => rfl
  | k + 1, f, g, l :: ls, ⟨b, _, _, h⟩ => by simp [z_pth_len h]
  | 0, f, g, _ :: _, h => h.elim
  | _ + 1, f, g, [], h => h.elim
theorem z_pth_end : ∀ {k f g W : Nat} {ls : List Nat}, z_pth fa fb aw L g k f ls → z_op fa fb aw L f g W k → ∀ l, l ∈ ls → ∀ x, x = fa l ∨ x = fb l → ∃ W' j, z_op fa fb aw L x g W' j ∧ j ≤ k
  | 0, f, g, W, [], _, _, l, hl => by cases hl
  | 0, f, g, W, _ :: _, h, _, _, _ => h.elim
  | _ + 1, f, g, W, [], h, _, _, _ => h.elim
  | k + 1, f, g, W, l0 :: ls, ⟨b, h1, h2, h3⟩, ho, l, hl => by
    intro x hx
    obtain ⟨W1, _, o1⟩ := z_fl_op h1 ho
    rcases List.mem_cons.mp hl with e | e
    · subst e
      have : x = f ∨ x = b := by
        rcases h1.2.1.2 with q | q <;> omega
      rcases this with q | q
      · subst q; exact ⟨W, k + 1, ho, Nat.le_refl _⟩
      · subst q; exact ⟨W1, k, o1, by omega⟩
    · obtain ⟨W2, j, o2, hj⟩ := z_pth_end h3 o1 l e x hx
      exact ⟨W2, j, o2, by omega⟩
theorem z_pth_nd : ∀ {k f g W : Nat} {ls : List Nat}, z_pth fa fb aw L g k f ls → z_op fa fb aw L f g W k → ls.Nodup
  | 0, f, g, W, [], _, _ => List.nodup_nil
  | 0, f, g, W, _ :: _, h, _ => h.elim
  | _ + 1, f, g, W, [], h, _ => h.elim
  | k + 1, f, g, W, l :: ls, ⟨b, h1, h2, h3⟩, ho => by
    obtain ⟨W1, _, o1⟩ := z_fl_op h1 ho
    rw [List.nodup_cons]
    refine ⟨fun hm => ?_, z_pth_nd h3 o1⟩
    have hx : f = fa l ∨ f = fb l := by
      rcases h1.2.1.2 with q | q <;> omega
    obtain ⟨W2, j, o2, hj⟩ := z_pth_end h3 o1 l hm f hx
    have := (z_op_un o2 ho).2
    omega
theorem z_pth_lt : ∀ {k f g : Nat} {ls : List Nat}, z_pth fa fb aw L g k f ls → ∀ l, l ∈ ls → l < L
  | 0, f, g, [], _, l, hl => by cases hl
  | 0, f, g, _ :: _, h, _, _ => h.elim
  | _ + 1, f, g, [], h, _, _ => h.elim
  | k + 1, f, g, l0 :: ls, ⟨b, h1, h2, h3⟩, l, hl => by
    rcases List.mem_cons.mp hl with e | e
    · subst e; exact h1.1
    · exact z_pth_lt h3 l e
/-- the table tells which link comes first -/
theorem z_fl_iff (hF : ∀ l, l < L → fa l < F ∧ fb l < F) (hw : ∀ l, l < L → aw l ≤ 99) (hF16 : F ≤ 16) (hS : 1000 ≤ S) (hS2 : S ≤ 1024) (hI : 67108864 ≤ I) {f g l b W k : Nat} (hf : f < F) (hg : g < F) (ho : z_op fa fb aw L f g W k) (hl : l < L) (ha : z_ad fa fb l f b) :
    b < F ∧ 0 ≤ z_tb fa fb aw L F S I b g ∧ z_tb fa fb aw L F S I b g ≤ 2000000 ∧ (z_co aw S l + z_tb fa fb aw L F S I b g = z_tb fa fb aw L F S I f g ↔ z_fl fa fb aw L g f l b) := by
  have hl2 := hF l hl
  have hb : b < F := by rcases ha.2 with q | q <;> omega
  have hab : z_ad fa fb l b f := ⟨ha.1, ha.2.symm.imp (fun x => ⟨x.2, x.1⟩) (fun x => ⟨x.2, x.1⟩)⟩
  have tf := z_tb_ok (S := S) (I := I) hF hw hF16 hS hS2 hI hf hg
  have tb := z_tb_ok (S := S) (I := I) hF hw hF16 hS hS2 hI hb hg
  obtain ⟨Wf, kf, of, kf16, Wf9, ef⟩ := tf.resolve_right (fun q => q.1 W k ho.1)
  have wb : z_wl fa fb aw L (k + 1) b g (aw l + W) := ⟨l, f, W, hl, hab, rfl, ho.1⟩
  obtain ⟨Wb, kb, ob, kb16, Wb9, eb⟩ := tb.resolve_right (fun q => q.1 _ _ wb)
  have swb : S * Wb ≤ 1024 * 1485 := Nat.mul_le_mul hS2 Wb9
  refine ⟨hb, by omega, by omega, ?_⟩
  rw [ef, eb]
  unfold z_co
  have ca : aw l ≤ 99 := hw l hl
  constructor
  · intro e
    have e1 : S * (aw l + Wb) + (kb + 1) = S * Wf + kf := by rw [Nat.mul_add]; omega
    have eW : aw l + Wb = Wf := by
      apply Classical.byContradiction
      intro c
      by_cases c2 : aw l + Wb < Wf
      · have : S * (aw l + Wb + 1) ≤ S * Wf := Nat.mul_le_mul (Nat.le_refl _) (by omega)
        rw [Nat.mul_add, Nat.mul_one] at this
        omega
      · have : S * (Wf + 1) ≤ S * (aw l + Wb) := Nat.mul_le_mul (Nat.le_refl _) (by omega)
        rw [Nat.mul_add, Nat.mul_one] at this
        omega
    rw [eW] at e1
    have ek : kf = kb + 1 := by omega
    subst eW ek
    exact ⟨hl, ha, Wb, kb, ob, of⟩
  · rintro ⟨_, _, W2, k2, o2, o3⟩
    have u1 := z_op_un o2 ob
    have u2 := z_op_un o3 of
    rw [← u2.1, ← u2.2, ← u1.1, ← u1.2, Nat.mul_add]
    omega
end CROSS
/-- the numbers of a way's links, together -/
def z_orb : Nat → List Nat → Nat
  | a, [] => a
  | a, l :: ls => z_orb (a ||| 2 ^ l) ls
def z_xrb : Nat → List Nat → Nat
  | a, [] => a
  | a, l :: ls => z_xrb (a ^^^ 2 ^ l) ls
theorem z_orb_bit : ∀ {ls : List Nat} {a j : Nat}, (z_orb a ls).testBit j = (a.testBit j || decide (j ∈ ls))
  | [], a, j => by simp [z_orb]
  | l :: ls, a, j => by
    show (z_orb (a ||| 2 ^ l) ls).testBit j = _
    rw [z_orb_bit, Nat.testBit_or, Nat.testBit_two_pow]
    by_cases c : l = j
    · subst c; simp
    · rw [decide_eq_false c, Bool.or_false]
      congr 1
      exact decide_eq_decide.mpr ⟨fun h => List.mem_cons_of_mem _ h, fun h => by rcases List.mem_cons.mp h with q | q; exact absurd q.symm c; exact q⟩
theorem z_xrb_bit : ∀ {ls : List Nat} {a j : Nat}, ls.Nodup → (z_xrb a ls).testBit j = (a.testBit j != decide (j ∈ ls))
  | [], a, j, _ => by simp [z_xrb]
  | l :: ls, a, j, h => by
    rw [List.nodup_cons] at h
    show (z_xrb (a ^^^ 2 ^ l) ls).testBit j = _
    rw [z_xrb_bit h.2, Nat.testBit_xor, Nat.testBit_two_pow]
    by_cases c : l = j
    · subst c
      rw [decide_eq_true rfl, decide_eq_false h.1, decide_eq_true (List.mem_cons_self)]
      cases a.testBit l <;> rfl
    · rw [decide_eq_false c]
      have : decide (j ∈ ls) = decide (j ∈ l :: ls) := decide_eq_decide.mpr ⟨fun h => List.mem_cons_of_mem _ h, fun h => by rcases List.mem_cons.mp h with q | q; exact absurd q.symm c; exact q⟩
      rw [this]
      cases a.testBit j <;> cases decide (j ∈ l :: ls) <;> rfl
theorem z_xrb_orb {ls : List Nat} {a : Nat} (h : ls.Nodup) : z_xrb a ls = a ^^^ z_orb 0 ls := by
  apply Nat.eq_of_testBit_eq
  intro j
  rw [z_xrb_bit h, Nat.testBit_xor, z_orb_bit, Nat.zero_testBit, Bool.false_or]
theorem z_orb_lt : ∀ {ls : List Nat} {a : Nat}, a < 65536 → (∀ l ∈ ls, l < 16) → z_orb a ls < 65536
  | [], a, h, _ => h
  | l :: ls, a, h, hl => by
    show z_orb (a ||| 2 ^ l) ls < 65536
    exact z_orb_lt (Nat.or_lt_two_pow (n := 16) h (Nat.pow_lt_pow_right (a := 2) (by decide) (hl l List.mem_cons_self))) (fun x hx => hl x (List.mem_cons_of_mem _ hx))
/-- the face beyond a link -/
theorem k_beyond {d : Nat} {M : q_Mem} {K : Int → q_Mem → Prop} {l : Nat} {f : Int} {fo : Nat → Int} (hd : 0 < d) (hl : l < 16) (hfo : ∀ x : Nat, x < 32 → M 188 x = fo x) (h : K (if fo (2 * l) = f then fo (2 * l + 1) else if fo (2 * l + 1) = f then fo (2 * l) else -1) M) : q_kI yX12_beyond mX12_beyond d [qR 178, qI (l : Int), qI f] M K := by
  have q1 := hfo (2 * l) (by omega)
  have q2 := hfo (2 * l + 1) (by omega)
  rw [show ((2 * l : Nat) : Int) = 2 * (l : Int) by omega] at q1
  rw [show ((2 * l + 1 : Nat) : Int) = 2 * (l : Int) + 1 by omega] at q2
  refine q_goI hd rfl (plainFor_of_name (by decide +kernel)) rfl (fun h => nomatch h) (Nat.le_of_ble_eq_true rfl) (fun d hd => bX12_beyond_0 _ _ ?_)
  rw [q_mul_eq (by omega), q_add_eq (by omega), q1, q2]
  refine ⟨by omega, fun g => ⟨by omega, fun g2 => ?_, fun g2 => ⟨by omega, ?_⟩⟩, fun g => ⟨by omega, ?_⟩⟩
  · rw [if_neg g, if_neg g2] at h; exact h
  · rw [if_neg g, if_pos g2] at h; exact h
  · rw [if_pos g] at h; exact h
theorem k_cbeyond {d : Nat} {M : q_Mem} {K : Int → q_Mem → Prop} {l : Nat} {f : Int} {fo : Nat → Int} (hd : 0 < d) (hl : l < 16) (hfo : ∀ x : Nat, x < 32 → M 93 x = fo x) (h : K (if fo (2 * l) = fo (2 * l + 1) then -1 else if fo (2 * l) = f then fo (2 * l + 1) else if fo (2 * l + 1) = f then fo (2 * l) else -1) M) : q_kI yX6_beyond mX6_beyond d [qR 91, qI (l : Int), qI f] M K := by
  have q1 := hfo (2 * l) (by omega)
  have q2 := hfo (2 * l + 1) (by omega)
  rw [show ((2 * l : Nat) : Int) = 2 * (l : Int) by omega] at q1
  rw [show ((2 * l + 1 : Nat) : Int) = 2 * (l : Int) + 1 by omega] at q2
  refine q_goI hd rfl (plainFor_of_name (by decide +kernel)) rfl (fun h => nomatch h) (Nat.le_of_ble_eq_true rfl) (fun d hd => bX6_beyond_0 _ _ ?_)
  rw [q_mul_eq (by omega), q_add_eq (by omega), q1, q2]
  refine ⟨by omega, fun x3 e3 => ⟨by omega, fun x4 e4 => ?_⟩⟩
  subst e3 e4
  refine ⟨fun g0 => ⟨fun g => ⟨fun g2 => ?_, fun g2 => ?_⟩, fun g => ?_⟩, fun g0 => ?_⟩
  · rw [if_neg g0, if_neg g, if_neg g2] at h; exact h
  · rw [if_neg g0, if_neg g, if_pos g2] at h; exact h
  · rw [if_neg g0, if_pos g] at h; exact h
  · rw [if_pos g0] at h; exact h
/-- faces, weights, ways of the reference stand -/
def z_W (M : q_Mem) (fo : Nat → Int) (F : Nat) : Prop := z_net (M 179) ∧ F ≤ 16 ∧ (∀ x : Nat, x < 32 → M 188 x = fo x) ∧ (∀ x, x < 2 * z_L (M 179) → 0 ≤ fo x ∧ fo x < (F : Int)) ∧ (∀ l : Nat, l < z_L (M 179) → -99 ≤ M 187 l ∧ M 187 l ≤ 99) ∧ z_tab (M 194) F (z_tb (z_fa fo) (z_fb fo) (z_aw (M 187)) (z_L (M 179)) F 1000 67108864)
theorem z_W_fr {S9 Fl : List Int} {M M' : q_Mem} {fo : Nat → Int} {F : Nat} (h : z_W M fo F) (f : z_fr S9 Fl M M') (h1 : (179 : Int) ∉ S9) (h2 : (188 : Int) ∉ S9) (h3 : (187 : Int) ∉ S9) (h4 : (194 : Int) ∉ S9) : z_W M' fo F := by
  unfold z_W
  rw [f.1 179 h1 (by decide), f.1 188 h2 (by decide), f.1 187 h3 (by decide), f.1 194 h4 (by decide)]
  exact h
theorem z_fab {fo : Nat → Int} {L F : Nat} (h : ∀ x, x < 2 * L → 0 ≤ fo x ∧ fo x < (F : Int)) {l : Nat} (hl : l < L) : fo (2 * l) = (z_fa fo l : Int) ∧ fo (2 * l + 1) = (z_fb fo l : Int) ∧ z_fa fo l < F ∧ z_fb fo l < F := by
  have a := h (2 * l) (by omega)
  have b := h (2 * l + 1) (by omega)
  unfold z_fa z_fb
  omega
theorem z_aw99 {w : Int → Int} {L : Nat} (h : ∀ l : Nat, l < L → -99 ≤ w l ∧ w l ≤ 99) : ∀ l, l < L → z_aw w l ≤ 99 := by
  intro l hl
  have := h l hl
  unfold z_aw
  omega
theorem l_lc33 {d : Nat} {K : Int → q_Mem → Prop} {M : q_Mem} (hd : 2 ≤ d) {fo : Nat → Int} {F : Nat} (hW : z_W M fo F) {f g many W k l0 b0 : Nat} (hf : f < F) (hg : g < F) (hmany : many < 16) (ho : z_op (z_fa fo) (z_fb fo) (z_aw (M 187)) (z_L (M 179)) f g W k)
    (hl0 : z_fl (z_fa fo) (z_fb fo) (z_aw (M 187)) (z_L (M 179)) g f l0 b0) (hmin : ∀ l' b', l' < l0 → ¬ z_fl (z_fa fo) (z_fb fo) (z_aw (M 187)) (z_L (M 179)) g f l' b')
    (h : ∀ M', M' = q_up M 195 (many : Int) (l0 : Int) → q_v mX12_laysCrossed d (qPI K) M' 24 [some (qR 178), none, some (qI (g : Int)), some (qI (q_add (many : Int) 1)), some (qI (b0 : Int)), none] []) :
    ∀ (j l : Nat), l + j = l0 → q_v mX12_laysCrossed d (qPI K) M 33 [some (qR 178), none, some (qI (g : Int)), some (qI (many : Int)), some (qI (f : Int)), some (qI (l : Int))] [] := by
  obtain ⟨hn, h16, hfo, hin, hw, hT⟩ := id hW
  have hL := z_net_L16 hn
  have hF := fun l hl => (z_fab hin (l := l) hl).2.2
  have hl0L := hl0.1
  have Tf := hT f g hf hg
  intro j
  induction j with
  | zero =>
    intro l e
    have el : l = l0 := by omega
    subst el
    have fb := z_fab hin hl0L
    have key := z_fl_iff (S := 1000) (I := 67108864) hF (z_aw99 hw) h16 (by decide) (by decide) (by decide) hf hg ho hl0L hl0.2.1
    have eq := key.2.2.2.mpr hl0
    have ev : (if fo (2 * l) = (f : Int) then fo (2 * l + 1) else if fo (2 * l + 1) = (f : Int) then fo (2 * l) else -1) = (b0 : Int) := by
      rw [fb.1, fb.2.1]
      have := hl0.2.1
      have n := this.1
      rcases this.2 with q | q
      · rw [if_pos (by omega)]; omega
      · rw [if_neg (by omega), if_pos (by omega)]; omega
    have Tb := hT b0 g key.1 hg
    have hco : 0 ≤ z_co (z_aw (M 187)) 1000 l ∧ z_co (z_aw (M 187)) 1000 l ≤ 100000 := by
      have := z_aw99 hw l hl0L
      unfold z_co
      omega
    have kf := key.1
    refine bX12_laysCrossed_33 _ _ _ _ (k_beyond (by omega) (by omega) hfo ?_)
    rw [ev]
    refine ⟨fun q => by omega, fun _ => k_costOf (by omega) (by omega) (hw l hl0L) (k_beyond (by omega) (by omega) hfo ?_)⟩
    rw [ev, q_mul_eq (b := (b0 : Int)) (by omega), q_mul_eq (b := (f : Int)) (by omega), q_add_eq (a := 16 * (b0 : Int)) (by omega), q_add_eq (a := 16 * (f : Int)) (by omega), show 16 * (b0 : Int) + (g : Int) = ((16 * b0 + g : Nat) : Int) by omega, show 16 * (f : Int) + (g : Int) = ((16 * f + g : Nat) : Int) by omega, Tb, Tf, q_add_eq (a := z_co (z_aw (M 187)) 1000 l) (by have := key.2; omega)]
    refine ⟨by omega, by omega, fun _ => ⟨by omega, fun M10 e10 => k_beyond (by omega) (by omega) (fo := fo) (fun x hx => by rw [e10, q_up_o (by decide)]; exact hfo x hx) ?_⟩, fun q => absurd eq q⟩
    rw [ev]
    exact h M10 e10
  | succ j ih =>
    intro l e
    have hlL : l < z_L (M 179) := by omega
    have fb := z_fab hin hlL
    have nx := ih (l + 1) (by omega)
    have nx' : q_v mX12_laysCrossed d (qPI K) M 33 [some (qR 178), none, some (qI (g : Int)), some (qI (many : Int)), some (qI (f : Int)), some (qI (q_add (l : Int) 1))] [] := by
      rw [q_add_eq (by omega)]
      exact nx
    refine bX12_laysCrossed_33 _ _ _ _ (k_beyond (by omega) (by omega) hfo ?_)
    rw [fb.1, fb.2.1]
    by_cases c1 : (z_fa fo l : Int) = (f : Int) ∨ (z_fb fo l : Int) = (f : Int)
    · have ex : ∃ b, b < F ∧ (if (z_fa fo l : Int) = (f : Int) then (z_fb fo l : Int) else if (z_fb fo l : Int) = (f : Int) then (z_fa fo l : Int) else -1) = (b : Int) ∧ ((z_fa fo l ≠ z_fb fo l → z_ad (z_fa fo) (z_fb fo) l f b) ∧ (z_fa fo l = z_fb fo l → b = f)) := by
        by_cases c2 : (z_fa fo l : Int) = (f : Int)
        · rw [if_pos c2]
          exact ⟨z_fb fo l, fb.2.2.2, rfl, fun n => ⟨n, Or.inl ⟨by omega, rfl⟩⟩, fun n => by omega⟩
        · rw [if_neg c2, if_pos (c1.resolve_left c2)]
          exact ⟨z_fa fo l, fb.2.2.1, rfl, fun n => ⟨n, Or.inr ⟨by omega, rfl⟩⟩, fun n => by omega⟩
      obtain ⟨b, hb, ev, had⟩ := ex
      have ev2 : (if fo (2 * l) = (f : Int) then fo (2 * l + 1) else if fo (2 * l + 1) = (f : Int) then fo (2 * l) else -1) = (b : Int) := by
        rw [fb.1, fb.2.1]; exact ev
      have Tb := hT b g hb hg
      have hco : 1 ≤ z_co (z_aw (M 187)) 1000 l ∧ z_co (z_aw (M 187)) 1000 l ≤ 100000 := by
        have := z_aw99 hw l hlL
        unfold z_co
        omega
      have Tbb : 0 ≤ z_tb (z_fa fo) (z_fb fo) (z_aw (M 187)) (z_L (M 179)) F 1000 67108864 b g ∧ z_tb (z_fa fo) (z_fb fo) (z_aw (M 187)) (z_L (M 179)) F 1000 67108864 b g ≤ 67108864 ∧ z_co (z_aw (M 187)) 1000 l + z_tb (z_fa fo) (z_fb fo) (z_aw (M 187)) (z_L (M 179)) F 1000 67108864 b g ≠ z_tb (z_fa fo) (z_fb fo) (z_aw (M 187)) (z_L (M 179)) F 1000 67108864 f g := by
        by_cases n : z_fa fo l = z_fb fo l
        · have e := had.2 n
          subst e
          have sn := (z_bys_ok (z_lks_ok (S := 1000) (I := 67108864) (aw := z_aw (M 187)) hF (by decide) (z_L (M 179)) (Nat.le_refl _)).1 F (Nat.le_refl _)).1 b g hb hg
          exact ⟨sn.1.1, sn.1.2, by omega⟩
        · have key := z_fl_iff (S := 1000) (I := 67108864) hF (z_aw99 hw) h16 (by decide) (by decide) (by decide) hf hg ho hlL (had.1 n)
          exact ⟨key.2.1, by omega, fun q => hmin l b (by omega) (key.2.2.2.mp q)⟩
      rw [ev]
      refine ⟨fun q => by omega, fun _ => k_costOf (by omega) (by omega) (hw l hlL) (k_beyond (by omega) (by omega) hfo ?_)⟩
      rw [ev2, q_mul_eq (b := (b : Int)) (by omega), q_mul_eq (b := (f : Int)) (by omega), q_add_eq (a := 16 * (b : Int)) (by omega), q_add_eq (a := 16 * (f : Int)) (by omega), show 16 * (b : Int) + (g : Int) = ((16 * b + g : Nat) : Int) by omega, show 16 * (f : Int) + (g : Int) = ((16 * f + g : Nat) : Int) by omega, Tb, Tf, q_add_eq (a := z_co (z_aw (M 187)) 1000 l) (by omega)]
      exact ⟨by omega, by omega, fun q => absurd q Tbb.2.2, fun _ => nx'⟩
    · rw [if_neg (fun q => c1 (Or.inl q)), if_neg (fun q => c1 (Or.inr q))]
      exact ⟨fun _ => nx', fun q => absurd rfl q⟩
theorem l_lc24 {d : Nat} {K : Int → q_Mem → Prop} (hd : 2 ≤ d) {fo : Nat → Int} {F g : Nat} (hg : g < F) {w : Int → Int} {L : Nat} :
    ∀ (k f many W : Nat) (ls : List Nat) (M : q_Mem), z_W M fo F → M 187 = w → z_L (M 179) = L → f < F → many + k ≤ 16 → z_op (z_fa fo) (z_fb fo) (z_aw w) L f g W k → z_pth (z_fa fo) (z_fb fo) (z_aw w) L g k f ls →
      (∀ M', z_fr [195] [] M M' → (∀ i : Nat, i < many → M' 195 i = M 195 i) → (∀ i : Nat, i < k → M' 195 ((many + i : Nat) : Int) = (ls.getD i 0 : Int)) → K ((many + k : Nat) : Int) M') →
      q_v mX12_laysCrossed d (qPI K) M 24 [some (qR 178), none, some (qI (g : Int)), some (qI (many : Int)), some (qI (f : Int)), none] [] := by
  intro k
  induction k with
  | zero =>
    intro f many W ls M hW e1 e2 hf hm ho hp h
    have efg := z_op_zero ho
    exact bX12_laysCrossed_24 _ _ _ ⟨fun _ => h M z_fr_rf (fun _ _ => rfl) (fun i hi => by omega), fun q => absurd (by omega) q⟩
  | succ k ih =>
    intro f many W ls M hW e1 e2 hf hm ho hp h
    match ls, hp with
    | l :: ls, ⟨b, h1, h2, h3⟩ =>
      subst e1 e2
      obtain ⟨W1, _, o1⟩ := z_fl_op h1 ho
      have hb : b < F := by
        have := (z_fab hW.2.2.2.1 h1.1).2.2
        rcases h1.2.1.2 with q | q <;> omega
      have ne : f ≠ g := by
        intro q
        subst q
        have := (z_op_self ho).2
        omega
      refine bX12_laysCrossed_24 _ _ _ ⟨fun q => absurd (show f = g by omega) ne, fun _ => ?_⟩
      refine l_lc33 hd hW hf hg (by omega) ho h1 h2 (fun M' e' => ?_) l 0 (by omega)
      have f' : z_fr [195] [] M M' := z_fr_u z_fr_rf e' (by decide) (by decide)
      rw [q_add_eq (by omega), show (many : Int) + 1 = ((many + 1 : Nat) : Int) by omega]
      refine ih b (many + 1) W1 ls M' (z_W_fr hW f' (by decide) (by decide) (by decide) (by decide)) (f'.1 187 (by decide) (by decide)) (by rw [f'.1 179 (by decide) (by decide)]) hb (by omega) o1 h3 (fun M2 f2 p2 q2 => ?_)
      have := h M2 (z_fr_tr f' f2) (fun i hi => by rw [p2 i (by omega), e', q_up_n (by omega)]) (fun i hi => ?_)
      · rw [show many + 1 + k = many + (k + 1) by omega]
        exact this
      · match i with
        | 0 =>
          rw [Nat.add_zero, p2 many (by omega), e', q_up_s]
          rfl
        | i + 1 =>
          have := q2 i (by omega)
          rw [show many + 1 + i = many + (i + 1) by omega] at this
          rw [this]
          rfl
theorem k_laysCrossed {d : Nat} {M : q_Mem} {K : Int → q_Mem → Prop} {fo : Nat → Int} {F f g : Nat} (hd : 2 < d) (hW : z_W M fo F) (hf : f < F) (hg : g < F) (h1 : ∀ W k ls M', z_op (z_fa fo) (z_fb fo) (z_aw (M 187)) (z_L (M 179)) f g W k → k < 16 → z_pth (z_fa fo) (z_fb fo) (z_aw (M 187)) (z_L (M 179)) g k f ls → z_fr [195] [] M M' → (∀ i : Nat, i < k → M' 195 i = (ls.getD i 0 : Int)) → K (k : Int) M') (h0 : (∀ W k, ¬ z_wl (z_fa fo) (z_fb fo) (z_aw (M 187)) (z_L (M 179)) k f g W) → K (-1) M) : q_kI yX12_laysCrossed mX12_laysCrossed d [qR 178, qI (f : Int), qI (g : Int)] M K := by
  obtain ⟨hn, h16, hfo, hin, hw, hT⟩ := id hW
  have hF := fun l hl => (z_fab hin (l := l) hl).2.2
  have T := z_tb_ok (S := 1000) (I := 67108864) hF (z_aw99 hw) h16 (by decide) (by decide) (by decide) hf hg
  refine q_goI hd rfl (plainFor_of_name (by decide +kernel)) rfl (fun h => nomatch h) (Nat.le_of_ble_eq_true rfl) (fun d hd => bX12_laysCrossed_0 _ _ ?_)
  rw [q_mul_eq (by omega), q_add_eq (by omega), show 16 * (f : Int) + (g : Int) = ((16 * f + g : Nat) : Int) by omega, hT f g hf hg]
  rcases T with ⟨W, k, ho, hk, hW9, e⟩ | ⟨no, e⟩
  · rw [e]
    obtain ⟨ls, hp⟩ := z_pth_ex ho
    refine ⟨by omega, fun _ => l_lc24 hd hg k f 0 W ls M hW rfl rfl hf (by omega) ho hp (fun M' f' _ q' => ?_), fun q => by omega⟩
    rw [Nat.zero_add]
    exact h1 W k ls M' ho hk hp f' (fun i hi => by have := q' i hi; rwa [Nat.zero_add] at this)
  · rw [e]
    exact ⟨by omega, fun q => absurd rfl q, fun _ => h0 no⟩
