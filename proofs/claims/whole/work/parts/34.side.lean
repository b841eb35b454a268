-- sides by a cut, odd faces, beyond: in both
def z_s1 (o : Int → Int) (cut : Nat) (st : Nat × Nat) (l : Nat) : Nat × Nat :=
  if st.1.testBit (z_a o l) = true ∧ st.1.testBit (z_b o l) = false then (st.1 ||| 2 ^ z_b o l, st.2 ||| (if st.2.testBit (z_a o l) != cut.testBit l then 2 ^ z_b o l else 0))
  else if st.1.testBit (z_b o l) = true ∧ st.1.testBit (z_a o l) = false then (st.1 ||| 2 ^ z_a o l, st.2 ||| (if st.2.testBit (z_b o l) != cut.testBit l then 2 ^ z_a o l else 0)) else st
def z_s2 (o : Int → Int) (cut : Nat) (st : Nat × Nat) : Nat → Nat × Nat
  | 0 => st
  | l + 1 => z_s1 o cut (z_s2 o cut st l) l
def z_s3 (o : Int → Int) (cut : Nat) : Nat → Nat × Nat
  | 0 => (z_set (fun n => z_pt o n == n) (z_N o), 0)
  | r + 1 => z_s2 o cut (z_s3 o cut r) (z_L o)
def z_sides (o : Int → Int) (cut : Nat) : Nat := (z_s3 o cut (z_N o)).2
def z_lt2 (N : Nat) (st : Nat × Nat) : Prop := st.1 < 2 ^ N ∧ st.2 < 2 ^ N
theorem z_or_lt {a N k : Nat} {b : Bool} (h : a < 2 ^ N) (hk : k < N) : a ||| (if b then 2 ^ k else 0) < 2 ^ N := by
  apply Nat.or_lt_two_pow h
  split
  · exact Nat.pow_lt_pow_right (by decide) hk
  · exact Nat.two_pow_pos _
theorem z_or_lt' {a N k : Nat} (h : a < 2 ^ N) (hk : k < N) : a ||| 2 ^ k < 2 ^ N := Nat.or_lt_two_pow h (Nat.pow_lt_pow_right (by decide) hk)
theorem z_s1_lt {o : Int → Int} (hn : z_net o) {cut l : Nat} (hl : l < z_L o) {st : Nat × Nat} (h : z_lt2 (z_N o) st) : z_lt2 (z_N o) (z_s1 o cut st l) := by
  have ha := (z_net_a hn hl).2
  have hb := (z_net_b hn hl).2
  unfold z_s1
  split
  · exact ⟨z_or_lt' h.1 hb, z_or_lt h.2 hb⟩
  · split
    · exact ⟨z_or_lt' h.1 ha, z_or_lt h.2 ha⟩
    · exact h
theorem z_s2_lt {o : Int → Int} (hn : z_net o) {cut : Nat} {st : Nat × Nat} (h : z_lt2 (z_N o) st) : ∀ l, l ≤ z_L o → z_lt2 (z_N o) (z_s2 o cut st l)
  | 0, _ => h
  | l + 1, hl => z_s1_lt hn (by omega) (z_s2_lt hn h l (by omega))
theorem z_s3_lt {o : Int → Int} (hn : z_net o) {cut : Nat} : ∀ r, z_lt2 (z_N o) (z_s3 o cut r)
  | 0 => ⟨z_set_lt, Nat.two_pow_pos _⟩
  | r + 1 => z_s2_lt hn (z_s3_lt hn r) _ (Nat.le_refl _)
theorem z_p10 {a N : Nat} (h : a < 2 ^ N) (hN : N ≤ 10) : a < 1024 := Nat.lt_of_lt_of_le h (by show 2 ^ N ≤ 2 ^ 10; exact Nat.pow_le_pow_right (by decide) hN)
/-- one dart's step of the reference -/
def z_sd1 (o : Int → Int) (cut : Nat) (st : Nat × Nat) (e : Nat) : Nat × Nat :=
  if st.1.testBit (z_fd o e) = true ∧ st.1.testBit (z_td o e) = false then (st.1 ||| 2 ^ z_td o e, st.2 ||| (if st.2.testBit (z_fd o e) != cut.testBit (e / 2) then 2 ^ z_td o e else 0)) else st
theorem z_sd_two {o : Int → Int} (hn : z_net o) {cut l : Nat} (hl : l < z_L o) (st : Nat × Nat) : z_sd1 o cut (z_sd1 o cut st (2 * l)) (2 * l + 1) = z_s1 o cut st l := by
  have f0 : z_fd o (2 * l) = z_a o l := by unfold z_fd; rw [if_pos (by omega), show 2 * l / 2 = l by omega]
  have t0 : z_td o (2 * l) = z_b o l := by unfold z_td; rw [if_pos (by omega), show 2 * l / 2 = l by omega]
  have f1 : z_fd o (2 * l + 1) = z_b o l := by unfold z_fd; rw [if_neg (by omega), show (2 * l + 1) / 2 = l by omega]
  have t1 : z_td o (2 * l + 1) = z_a o l := by unfold z_td; rw [if_neg (by omega), show (2 * l + 1) / 2 = l by omega]
  unfold z_s1
  by_cases c : st.1.testBit (z_a o l) = true ∧ st.1.testBit (z_b o l) = false
  · have e1 : z_sd1 o cut st (2 * l) = (st.1 ||| 2 ^ z_b o l, st.2 ||| (if st.2.testBit (z_a o l) != cut.testBit l then 2 ^ z_b o l else 0)) := by
      unfold z_sd1
      rw [f0, t0, if_pos c, show 2 * l / 2 = l by omega]
    rw [if_pos c, e1]
    unfold z_sd1
    rw [f1, t1, if_neg]
    rintro ⟨-, g⟩
    rw [Nat.testBit_or, c.1] at g
    exact absurd g (by simp)
  · have e1 : z_sd1 o cut st (2 * l) = st := by
      unfold z_sd1
      rw [f0, t0, if_neg c]
    rw [if_neg c, e1]
    unfold z_sd1
    rw [f1, t1, show (2 * l + 1) / 2 = l by omega]
theorem l_sd66 {d : Nat} {M : q_Mem} {K : Int → q_Mem → Prop} {cut : Nat} {x4 : Int} (hd : 1 ≤ d) (hc : cut < 65536) (hn : z_net (M 179)) {st0 : Nat × Nat} (h0 : z_lt2 (z_N (M 179)) st0)
    (h : ∀ st, st = z_s2 (M 179) cut st0 (z_L (M 179)) → q_v mX12_sidesOf d (qPI K) M 51 [some (qR 178), some (qI (cut : Int)), some (qI (st.1 : Int)), some (qI (st.2 : Int)), some (qI (q_add x4 1)), none, none, none] []) :
    ∀ (j l : Nat) (st : Nat × Nat), l + j = z_L (M 179) → st = z_s2 (M 179) cut st0 l → q_v mX12_sidesOf d (qPI K) M 66 [some (qR 178), some (qI (cut : Int)), some (qI (st.1 : Int)), some (qI (st.2 : Int)), some (qI x4), some (qI ((2 * l : Nat) : Int)), none, none] [] := by
  have eL := z_net_L hn
  have hL := z_net_L16 hn
  have hN := z_net_N10 hn
  have one : ∀ (e : Nat) (st : Nat × Nat), e < 2 * z_L (M 179) → z_lt2 (z_N (M 179)) st → (∀ st', st' = z_sd1 (M 179) cut st e → q_v mX12_sidesOf d (qPI K) M 66 [some (qR 178), some (qI (cut : Int)), some (qI (st'.1 : Int)), some (qI (st'.2 : Int)), some (qI x4), some (qI ((e + 1 : Nat) : Int)), none, none] []) → q_v mX12_sidesOf d (qPI K) M 66 [some (qR 178), some (qI (cut : Int)), some (qI (st.1 : Int)), some (qI (st.2 : Int)), some (qI x4), some (qI (e : Int)), none, none] [] := by
    intro e st he hst k
    have s1 := z_p10 hst.1 hN
    have s2 := z_p10 hst.2 hN
    have fl := z_fd_lt hn he
    have tl := z_td_lt hn he
    have k := k _ rfl
    unfold z_sd1 at k
    refine bX12_sidesOf_66 _ _ _ _ _ ?_
    rw [eL, q_mul_eq (by omega), q_add_eq (a := (e : Int)) (by omega), z_dv2 (by omega)]
    refine ⟨fun g => by omega, fun _ => k_fromOf (by omega) hn he (k_backOf (by omega) (by omega) (k_fromOf (by omega) hn (z_bk_lt he) ?_))⟩
    rw [z_bk_fd]
    refine k_isIn2 (by omega) (by omega) (by omega) (fun t1 => ⟨fun g => by omega, fun _ => k_isIn2 (by omega) (by omega) (by omega) (fun t2 => ⟨fun g => by omega, fun _ => ?_⟩) (fun t2 => ⟨fun _ x ex => k_isIn (by omega) (by omega) (by omega) (k_isIn (by omega) (by omega) (by omega) ⟨fun g y ey => ?_, fun g y ey => ?_⟩), fun g => absurd rfl g⟩)⟩) (fun t1 => ⟨fun _ => ?_, fun g => absurd rfl g⟩)
    · rw [if_neg (fun c => by rw [t2] at c; exact absurd c.2 (by decide))] at k
      exact k
    · rw [if_pos ⟨t1, t2⟩] at k
      rw [ex, ey, q_or1 (by omega) (by omega), q_or0 (by omega)]
      have : (st.2.testBit (z_fd (M 179) e) != cut.testBit (e / 2)) = false := by
        cases c1 : st.2.testBit (z_fd (M 179) e) <;> cases c2 : cut.testBit (e / 2) <;> simp [c1, c2] at g ⊢
      rw [this] at k
      simpa using k
    · rw [if_pos ⟨t1, t2⟩] at k
      rw [ex, ey, q_or1 (by omega) (by omega), q_or1 (by omega) (by omega)]
      have : (st.2.testBit (z_fd (M 179) e) != cut.testBit (e / 2)) = true := by
        cases c1 : st.2.testBit (z_fd (M 179) e) <;> cases c2 : cut.testBit (e / 2) <;> simp [c1, c2] at g ⊢
      rw [this] at k
      exact k
    · rw [if_neg (fun c => by rw [t1] at c; exact absurd c.1 (by decide))] at k
      exact k
  intro j
  induction j with
  | zero =>
    intro l st e es
    have el : l = z_L (M 179) := by omega
    refine bX12_sidesOf_66 _ _ _ _ _ ?_
    rw [eL, q_mul_eq (by omega)]
    exact ⟨fun _ => h st (by rw [← el]; exact es), fun g => absurd (by omega) g⟩
  | succ j ih =>
    intro l st e es
    have lt := z_s2_lt hn (cut := cut) h0 l (by omega)
    rw [← es] at lt
    have lt2 : z_lt2 (z_N (M 179)) (z_sd1 (M 179) cut st (2 * l)) := by
      have tl := z_td_lt hn (d := 2 * l) (by omega)
      unfold z_sd1
      split
      · exact ⟨z_or_lt' lt.1 tl, z_or_lt lt.2 tl⟩
      · exact lt
    refine one (2 * l) st (by omega) lt (fun st1 e1 => one (2 * l + 1) st1 (by omega) (by rw [e1]; exact lt2) (fun st2 e2 => ?_))
    exact ih (l + 1) st2 (by omega) (by rw [e2, e1, z_sd_two hn (by omega), es]; rfl)
theorem l_sd51 {d : Nat} {M : q_Mem} {K : Int → q_Mem → Prop} {cut : Nat} (hd : 1 ≤ d) (hc : cut < 65536) (hn : z_net (M 179)) (h : K (z_sides (M 179) cut : Int) M) :
    ∀ (j r : Nat) (st : Nat × Nat), r + j = z_N (M 179) → st = z_s3 (M 179) cut r → q_v mX12_sidesOf d (qPI K) M 51 [some (qR 178), some (qI (cut : Int)), some (qI (st.1 : Int)), some (qI (st.2 : Int)), some (qI (r : Int)), none, none, none] [] := by
  have eN := z_net_N hn
  have hN := z_net_N10 hn
  intro j
  induction j with
  | zero =>
    intro r st e es
    have er : r = z_N (M 179) := by omega
    refine bX12_sidesOf_51 _ _ _ _ ⟨fun _ => ?_, fun g => absurd (by omega) g⟩
    rw [es, er]
    exact h
  | succ j ih =>
    intro r st e es
    refine bX12_sidesOf_51 _ _ _ _ ⟨fun g => by omega, fun _ => l_sd66 hd hc hn (st0 := st) (by rw [es]; exact z_s3_lt hn r) (fun st2 e2 => ?_) (z_L (M 179)) 0 st (by omega) rfl⟩
    rw [q_add_eq (by omega)]
    exact ih (r + 1) st2 (by omega) (by rw [e2, es]; rfl)
theorem l_sd7 {d : Nat} {M : q_Mem} {K : Int → q_Mem → Prop} {cut : Nat} (hn : z_net (M 179)) (hp : z_lrow (z_pt (M 179)) (M 191) (z_N (M 179)))
    (h : q_v mX12_sidesOf d (qPI K) M 51 [some (qR 178), some (qI (cut : Int)), some (qI (z_set (fun n => z_pt (M 179) n == n) (z_N (M 179)) : Int)), some (qI 0), some (qI 0), none, none, none] []) :
    ∀ (j i : Nat), i + j = z_N (M 179) → q_v mX12_sidesOf d (qPI K) M 7 [some (qR 178), some (qI (cut : Int)), some (qI (z_set (fun n => z_pt (M 179) n == n) i : Int)), some (qI 0), some (qI (i : Int)), none, none, none] [] := by
  have eN := z_net_N hn
  have hN := z_net_N10 hn
  intro j
  induction j with
  | zero =>
    intro i e
    have ei : i = z_N (M 179) := by omega
    subst ei
    exact bX12_sidesOf_7 _ _ _ _ ⟨fun _ => h, fun g => absurd (by omega) g⟩
  | succ j ih =>
    intro i e
    have lt := z_p10 (z_set_lt (p := fun n => z_pt (M 179) n == n) (n := i)) (by omega)
    have nx := ih (i + 1) (by omega)
    have ex : z_set (fun n => z_pt (M 179) n == n) (i + 1) = z_set (fun n => z_pt (M 179) n == n) i ||| (if z_pt (M 179) i == i then 2 ^ i else 0) := rfl
    refine bX12_sidesOf_7 _ _ _ _ ⟨fun g => by omega, fun _ => ?_⟩
    rw [hp i (by omega), q_add_eq (by omega)]
    refine ⟨by omega, fun g x e2 => ?_, fun g x e2 => ?_⟩
    · rw [ex, beq_eq_false_iff_ne.mpr (show z_pt (M 179) i ≠ i by omega)] at nx
      rw [e2, q_or0 (by omega)]
      simpa using nx
    · rw [ex, beq_iff_eq.mpr (show z_pt (M 179) i = i by omega), if_pos rfl] at nx
      rw [e2, q_or1 (by omega) (by omega)]
      exact nx
theorem k_sidesOf {d : Nat} {M : q_Mem} {K : Int → q_Mem → Prop} {cut : Nat} (hd : 1 < d) (hc : cut < 65536) (hn : z_net (M 179)) (hp : z_lrow (z_pt (M 179)) (M 191) (z_N (M 179))) (h : K (z_sides (M 179) cut : Int) M) : q_kI yX12_sidesOf mX12_sidesOf d [qR 178, qI (cut : Int)] M K :=
  q_goI hd rfl (plainFor_of_name (by decide +kernel)) rfl (fun h => nomatch h) (Nat.le_of_ble_eq_true rfl) (fun d hd => bX12_sidesOf_0 _ (l_sd7 hn hp (l_sd51 hd hc hn h (z_N (M 179)) 0 (z_s3 (M 179) cut 0) (by omega) rfl) (z_N (M 179)) 0 (by omega)))
/-- the same in the class -/
theorem z_shlb {b : Bool} {k : Nat} (hk : k < 31) : q_shl (if b then 1 else 0) (k : Int) = ((if b then 2 ^ k else 0 : Nat) : Int) := by
  have h0 : ∀ k : Nat, k < 31 → q_shl 0 (k : Int) = 0 := by decide +kernel
  cases b
  · simp [h0 k hk]
  · simp [q_shl1 k hk]
theorem z_xb {a b : Bool} : q_xor (if a then 1 else 0) (if b then 1 else 0) = if a != b then 1 else 0 := by
  cases a <;> cases b <;> decide
theorem l_cs57 {d : Nat} {M : q_Mem} {K : Int → q_Mem → Prop} {p : Int} {o : Int → Int} {cut : Nat} {x5 : Int} (hc : cut < 65536) (hn : z_net o) (hp : z_pn M p o) {st0 : Nat × Nat} (h0 : z_lt2 (z_N o) st0)
    (h : ∀ st, st = z_s2 o cut st0 (z_L o) → q_v mX6_sidesOf d (qPI K) M 45 [none, some (qR p), some (qI (cut : Int)), some (qI (st.1 : Int)), some (qI (st.2 : Int)), some (qI (q_add x5 1)), none, none, none, none] []) :
    ∀ (j l : Nat) (st : Nat × Nat), l + j = z_L o → st = z_s2 o cut st0 l → q_v mX6_sidesOf d (qPI K) M 57 [none, some (qR p), some (qI (cut : Int)), some (qI (st.1 : Int)), some (qI (st.2 : Int)), some (qI x5), some (qI (l : Int)), none, none, none] [] := by
  have kk := z_k4 hp.1
  have eL := z_net_L hn
  have hL := z_net_L16 hn
  have hN := z_net_N10 hn
  intro j
  induction j with
  | zero =>
    intro l st e es
    have el : l = z_L o := by omega
    refine bX6_sidesOf_57 _ _ _ _ _ _ hp.1 ?_
    rw [hp.2.2.1]
    exact ⟨fun _ => h st (by rw [← el]; exact es), fun g => absurd (by omega) g⟩
  | succ j ih =>
    intro l st e es
    have lt := z_s2_lt hn (cut := cut) h0 l (by omega)
    rw [← es] at lt
    have s1 := z_p10 lt.1 hN
    have s2 := z_p10 lt.2 hN
    have ends := hp.2.2.2.1 l (by omega)
    have ea := z_net_a hn (l := l) (by omega)
    have eb := z_net_b hn (l := l) (by omega)
    have nx : ∀ st', st' = z_s1 o cut st l → q_v mX6_sidesOf d (qPI K) M 57 [none, some (qR p), some (qI (cut : Int)), some (qI (st'.1 : Int)), some (qI (st'.2 : Int)), some (qI x5), some (qI (q_add (l : Int) 1)), none, none, none] [] := by
      intro st' e'
      rw [q_add_eq (by omega)]
      exact ih (l + 1) st' (by omega) (by rw [e', es]; rfl)
    have nx := nx _ rfl
    unfold z_s1 at nx
    have back : ¬ (st.1.testBit (z_a o l) = true ∧ st.1.testBit (z_b o l) = false) → q_v mX6_sidesOf d (qPI K) M 138 [none, some (qR p), some (qI (cut : Int)), some (qI (st.1 : Int)), some (qI (st.2 : Int)), some (qI x5), some (qI (l : Int)), some (qI (z_a o l : Int)), some (qI (z_b o l : Int)), some (qI (if cut.testBit l then 1 else 0))] [] := by
      intro g
      rw [if_neg g] at nx
      refine bX6_sidesOf_138 _ _ _ _ _ _ _ _ _ hp.1 ⟨fun g1 => ?_, fun g1 => ⟨fun g2 => ?_, fun g2 y1 e1 y2 e2 => ?_⟩⟩
      · rw [q_bit0 (by omega) (by omega)] at g1
        rw [if_neg (fun c => by rw [g1] at c; exact absurd c.1 (by decide))] at nx
        exact nx
      · rw [q_bit0 (by omega) (by omega)] at g2
        rw [if_neg (fun c => g2 c.2)] at nx
        exact nx
      · rw [q_bit0 (by omega) (by omega)] at g1 g2
        have g1 : st.1.testBit (z_b o l) = true := by simpa using g1
        rw [if_pos ⟨g1, g2⟩] at nx
        rw [e1, e2, q_bit (by omega) (by omega), z_xb, z_shlb (by omega), q_or1 (by omega) (by omega)]
        have pl := q_pow31 (k := z_a o l) (by omega)
        rw [q_or_nat (by omega) (by split <;> omega)]
        exact nx
    refine bX6_sidesOf_57 _ _ _ _ _ _ hp.1 ?_
    rw [hp.2.2.1, kk.1, kk.2.1, ends.1, ends.2, ea.1, eb.1]
    refine ⟨fun g => by omega, fun _ => ⟨by omega, fun x7 e7 => ⟨by omega, fun x8 e8 x9 e9 => ?_⟩⟩⟩
    rw [q_bit (by omega) (by omega)] at e9
    subst e7 e8 e9
    refine ⟨fun g1 => back (fun c => ?_), fun g1 => ⟨fun g2 => back (fun c => ?_), fun g2 y1 e1 y2 e2 => ?_⟩⟩
    · rw [q_bit0 (by omega) (by omega)] at g1
      rw [g1] at c; exact absurd c.1 (by decide)
    · rw [q_bit0 (by omega) (by omega)] at g2
      exact g2 c.2
    · rw [q_bit0 (by omega) (by omega)] at g1 g2
      have g1 : st.1.testBit (z_a o l) = true := by simpa using g1
      rw [if_pos ⟨g1, g2⟩] at nx
      rw [e1, e2, q_bit (by omega) (by omega), z_xb, z_shlb (by omega), q_or1 (by omega) (by omega)]
      have pl := q_pow31 (k := z_b o l) (by omega)
      rw [q_or_nat (by omega) (by split <;> omega)]
      exact nx
theorem l_cs45 {d : Nat} {M : q_Mem} {K : Int → q_Mem → Prop} {p : Int} {o : Int → Int} {cut : Nat} (hc : cut < 65536) (hn : z_net o) (hp : z_pn M p o) (h : K (z_sides o cut : Int) M) :
    ∀ (j r : Nat) (st : Nat × Nat), r + j = z_N o → st = z_s3 o cut r → q_v mX6_sidesOf d (qPI K) M 45 [none, some (qR p), some (qI (cut : Int)), some (qI (st.1 : Int)), some (qI (st.2 : Int)), some (qI (r : Int)), none, none, none, none] [] := by
  have eN := z_net_N hn
  have hN := z_net_N10 hn
  intro j
  induction j with
  | zero =>
    intro r st e es
    have er : r = z_N o := by omega
    refine bX6_sidesOf_45 _ _ _ _ _ hp.1 ?_
    rw [hp.2.1]
    refine ⟨fun _ => ?_, fun g => absurd (by omega) g⟩
    rw [es, er]
    exact h
  | succ j ih =>
    intro r st e es
    refine bX6_sidesOf_45 _ _ _ _ _ hp.1 ?_
    rw [hp.2.1]
    refine ⟨fun g => by omega, fun _ => l_cs57 hc hn hp (st0 := st) (by rw [es]; exact z_s3_lt hn r) (fun st2 e2 => ?_) (z_L o) 0 st (by omega) rfl⟩
    rw [q_add_eq (by omega)]
    exact ih (r + 1) st2 (by omega) (by rw [e2, es]; rfl)
theorem l_cs5 {d : Nat} {M : q_Mem} {K : Int → q_Mem → Prop} {p : Int} {o : Int → Int} {cut : Nat} (hn : z_net o) (hp : z_pn M p o) (hl : z_lrow (z_pt o) (M 97) (z_N o))
    (h : q_v mX6_sidesOf d (qPI K) M 45 [none, some (qR p), some (qI (cut : Int)), some (qI (z_set (fun n => z_pt o n == n) (z_N o) : Int)), some (qI 0), some (qI 0), none, none, none, none] []) :
    ∀ (j i : Nat), i + j = z_N o → q_v mX6_sidesOf d (qPI K) M 5 [some (qR 91), some (qR p), some (qI (cut : Int)), some (qI (z_set (fun n => z_pt o n == n) i : Int)), some (qI (i : Int)), none, none, none, none, none] [] := by
  have eN := z_net_N hn
  have hN := z_net_N10 hn
  intro j
  induction j with
  | zero =>
    intro i e
    have ei : i = z_N o := by omega
    subst ei
    refine bX6_sidesOf_5 _ _ _ _ hp.1 ?_
    rw [hp.2.1]
    exact ⟨fun _ => h, fun g => absurd (by omega) g⟩
  | succ j ih =>
    intro i e
    have lt := z_p10 (z_set_lt (p := fun n => z_pt o n == n) (n := i)) (by omega)
    have nx := ih (i + 1) (by omega)
    have ex : z_set (fun n => z_pt o n == n) (i + 1) = z_set (fun n => z_pt o n == n) i ||| (if z_pt o i == i then 2 ^ i else 0) := rfl
    refine bX6_sidesOf_5 _ _ _ _ hp.1 ?_
    rw [hp.2.1, hl i (by omega), q_add_eq (by omega)]
    refine ⟨fun g => by omega, fun _ => ⟨by omega, fun g => ?_, fun g x e2 => ?_⟩⟩
    · rw [ex, beq_eq_false_iff_ne.mpr (show z_pt o i ≠ i by omega)] at nx
      simpa using nx
    · rw [ex, beq_iff_eq.mpr (show z_pt o i = i by omega), if_pos rfl] at nx
      rw [e2, q_or1 (by omega) (by omega)]
      exact nx
theorem k_csidesOf {d : Nat} {M : q_Mem} {K : Int → q_Mem → Prop} {p : Int} {o : Int → Int} {cut : Nat} (hd : 0 < d) (hc : cut < 65536) (hn : z_net o) (hp : z_pn M p o) (hl : z_lrow (z_pt o) (M 97) (z_N o)) (h : K (z_sides o cut : Int) M) : q_kI yX6_sidesOf mX6_sidesOf d [qR 91, qR p, qI (cut : Int)] M K :=
  q_goI hd rfl (plainFor_of_name (by decide +kernel)) rfl (fun h => nomatch h) (Nat.le_of_ble_eq_true rfl) (fun d hd => bX6_sidesOf_0 _ _ hp.1 (l_cs5 hn hp hl (l_cs45 hc hn hp h (z_N o) 0 (z_s3 o cut 0) (by omega) rfl) (z_N o) 0 (by omega)))
/-- odd faces, as bits -/
def z_odd (fo : Nat → Int) (g D : Nat) : Nat := z_set (fun f => z_par fo g f D) 16
theorem z_odd_bit {fo : Nat → Int} {g D f : Nat} : (z_odd fo g D).testBit f = (decide (f < 16) && z_par fo g f D) := z_set_bit
theorem z_odd_lt {fo : Nat → Int} {g D : Nat} : z_odd fo g D < 65536 := z_set_lt (n := 16)
theorem z_odd_step {fo : Nat → Int} {g l a b : Nat} (ha : fo (2 * l) = (a : Int)) (hb : fo (2 * l + 1) = (b : Int)) (ha2 : a < 16) (hb2 : b < 16) (hg : g.testBit l = true) : z_odd fo g (2 * (l + 1)) = z_odd fo g (2 * l) ^^^ (2 ^ a ^^^ 2 ^ b) := by
  apply Nat.eq_of_testBit_eq
  intro f
  rw [Nat.testBit_xor, Nat.testBit_xor, Nat.testBit_two_pow, Nat.testBit_two_pow, z_odd_bit, z_odd_bit]
  have e : z_par fo g f (2 * (l + 1)) = ((z_par fo g f (2 * l) != decide (a = f)) != decide (b = f)) := by
    show ((z_par fo g f (2 * l) != (g.testBit (2 * l / 2) && decide (fo (2 * l) = (f : Int)))) != (g.testBit ((2 * l + 1) / 2) && decide (fo (2 * l + 1) = (f : Int)))) = _
    rw [show 2 * l / 2 = l by omega, show (2 * l + 1) / 2 = l by omega, hg, ha, hb, Bool.true_and, Bool.true_and]
    congr 1
    · congr 1
      exact decide_eq_decide.mpr (by omega)
    · exact decide_eq_decide.mpr (by omega)
  rw [e]
  by_cases c : f < 16
  · rw [decide_eq_true c, Bool.true_and, Bool.true_and]
    cases z_par fo g f (2 * l) <;> cases decide (a = f) <;> cases decide (b = f) <;> rfl
  · rw [decide_eq_false c, decide_eq_false (show ¬ a = f by omega), decide_eq_false (show ¬ b = f by omega)]
    rfl
theorem z_odd_skip {fo : Nat → Int} {g l : Nat} (hg : g.testBit l = false) : z_odd fo g (2 * (l + 1)) = z_odd fo g (2 * l) := by
  refine z_set_congr (fun f _ => ?_)
  show ((z_par fo g f (2 * l) != (g.testBit (2 * l / 2) && decide (fo (2 * l) = (f : Int)))) != (g.testBit ((2 * l + 1) / 2) && decide (fo (2 * l + 1) = (f : Int)))) = _
  rw [show 2 * l / 2 = l by omega, show (2 * l + 1) / 2 = l by omega, hg]
  simp
theorem l_odd {d : Nat} {M : q_Mem} {K : Int → q_Mem → Prop} {fo : Nat → Int} {g : Nat} (hg : g < 65536) (hf : ∀ l, g.testBit l = true → ∃ a b : Nat, fo (2 * l) = (a : Int) ∧ fo (2 * l + 1) = (b : Int) ∧ a < 16 ∧ b < 16) (hm : ∀ x : Nat, x < 32 → M 93 x = fo x) (h : K (z_odd fo g 32 : Int) M) :
    ∀ (j l : Nat), l + j = 16 → q_v mX6_oddFaces d (qPI K) M 4 [some (qR 91), some (qI (g : Int)), some (qI (z_odd fo g (2 * l) : Int)), some (qI (l : Int))] [] := by
  intro j
  induction j with
  | zero =>
    intro l e
    have : l = 16 := by omega
    subst this
    exact bX6_oddFaces_4 _ _ _ ⟨fun _ => h, fun g => absurd (by decide) g⟩
  | succ j ih =>
    intro l e
    have nx := ih (l + 1) (by omega)
    have lt := z_odd_lt (fo := fo) (g := g) (D := 2 * l)
    refine bX6_oddFaces_4 _ _ _ ⟨fun g => by omega, fun _ => ?_⟩
    rw [q_bit0 (by omega) (by omega), q_add_eq (a := (l : Int)) (by omega), q_mul_eq (by omega), q_add_eq (by omega)]
    refine ⟨fun t => ?_, fun t => ?_⟩
    · rw [z_odd_skip t] at nx
      exact nx
    · have t : g.testBit l = true := by simpa using t
      obtain ⟨a, b, h1, h2, h3, h4⟩ := hf l t
      rw [z_odd_step h1 h2 h3 h4 t] at nx
      have e1 := hm (2 * l) (by omega)
      have e2 := hm (2 * l + 1) (by omega)
      rw [show ((2 * l : Nat) : Int) = 2 * (l : Int) by omega, h1] at e1
      rw [show ((2 * l + 1 : Nat) : Int) = 2 * (l : Int) + 1 by omega, h2] at e2
      have pa := q_pow31 (k := a) (by omega)
      have pb := q_pow31 (k := b) (by omega)
      refine ⟨by omega, by omega, fun x ex => ?_⟩
      rw [ex, e1, e2, q_shl1 a (by omega), q_shl1 b (by omega), q_xor_nat pa pb, q_xor_nat (by omega) (Nat.xor_lt_two_pow (n := 31) pa pb)]
      exact nx
theorem k_oddFaces {d : Nat} {M : q_Mem} {K : Int → q_Mem → Prop} {fo : Nat → Int} {g : Nat} (hd : 0 < d) (hg : g < 65536) (hf : ∀ l, g.testBit l = true → ∃ a b : Nat, fo (2 * l) = (a : Int) ∧ fo (2 * l + 1) = (b : Int) ∧ a < 16 ∧ b < 16) (hm : ∀ x : Nat, x < 32 → M 93 x = fo x) (h : K (z_odd fo g 32 : Int) M) : q_kI yX6_oddFaces mX6_oddFaces d [qR 91, qI (g : Int)] M K :=
  q_goI hd rfl (plainFor_of_name (by decide +kernel)) rfl (fun h => nomatch h) (Nat.le_of_ble_eq_true rfl) (fun d hd => bX6_oddFaces_0 _ (by
    have := l_odd (d := d) hg hf hm h 16 0 (by omega)
    have e0 : z_odd fo g (2 * 0) = 0 := by
      apply Nat.eq_of_testBit_eq
      intro f
      rw [z_odd_bit]
      simp [z_par]
    rw [e0] at this
    exact this))
