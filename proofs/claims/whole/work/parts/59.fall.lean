-- gains, falls: in both
/-- what a flip gains, by links -/
def z_tc (o : Int → Int) (n l : Nat) : Bool := decide (z_a o l = n) || decide (z_b o l = n)
theorem z_cut_fl {o : Int → Int} (hn : z_net o) {s n l : Nat} (hl : l < z_L o) : z_cut o (s ^^^ 2 ^ n) l = (z_cut o s l != z_tc o n l) := by
  have ne := z_net_ne hn hl
  unfold z_cut z_tc
  rw [Nat.testBit_xor, Nat.testBit_xor, Nat.testBit_two_pow, Nat.testBit_two_pow]
  by_cases c1 : z_a o l = n
  · have c2 : ¬ z_b o l = n := fun e => ne (c1.trans e.symm)
    simp only [c1, c2, decide_true, decide_false, show ¬ n = z_b o l from fun e => c2 e.symm]
    cases s.testBit n <;> cases s.testBit (z_b o l) <;> rfl
  · by_cases c2 : z_b o l = n
    · simp only [c1, c2, decide_true, decide_false, show ¬ n = z_a o l from fun e => c1 e.symm]
      cases s.testBit n <;> cases s.testBit (z_a o l) <;> rfl
    · simp only [c1, c2, decide_false, show ¬ n = z_a o l from fun e => c1 e.symm, show ¬ n = z_b o l from fun e => c2 e.symm]
      cases s.testBit (z_a o l) <;> cases s.testBit (z_b o l) <;> rfl
def z_g1 (o : Int → Int) (s n l : Nat) : Int := if z_tc o n l then (if z_cut o s l then -z_wr o (l : Int) else z_wr o (l : Int)) else 0
theorem z_gsum {o : Int → Int} (hn : z_net o) {s n : Nat} : ∀ {m : Nat}, m ≤ z_L o → z_sum (z_g1 o s n) m = z_sum (fun l => if z_cut o (s ^^^ 2 ^ n) l then z_wr o (l : Int) else 0) m - z_sum (fun l => if z_cut o s l then z_wr o (l : Int) else 0) m
  | 0, _ => rfl
  | m + 1, h => by
    show z_sum (z_g1 o s n) m + z_g1 o s n m = (z_sum (fun l => if z_cut o (s ^^^ 2 ^ n) l then z_wr o (l : Int) else 0) m + (if z_cut o (s ^^^ 2 ^ n) m then z_wr o (m : Int) else 0)) - (z_sum (fun l => if z_cut o s l then z_wr o (l : Int) else 0) m + (if z_cut o s m then z_wr o (m : Int) else 0))
    rw [z_gsum hn (by omega), z_cut_fl hn (by omega)]
    unfold z_g1
    cases z_cut o s m <;> cases z_tc o n m <;> simp <;> omega
theorem z_gsum_all {o : Int → Int} (hn : z_net o) {s n : Nat} : z_sum (z_g1 o s n) (z_L o) = z_V2 o (s ^^^ 2 ^ n) - z_V2 o s := z_gsum hn (Nat.le_refl _)
theorem l_cgain {d : Nat} {M : q_Mem} {K : Int → q_Mem → Prop} {o : Int → Int} {n : Nat} (hd : 1 ≤ d) (h9 : n < 10) (hE : z_E o) (hc : z_cst M o) (hw : ∀ l : Nat, l < z_L o → M 90 l = z_wr o l) (h : K (z_V2 o (z_s o ^^^ 2 ^ n) - z_V2 o (z_s o)) M) :
    ∀ (j i : Nat), i + j = z_L o → q_v mX11_gainOf d (qPI K) M 4 [some (qR 1), some (qI (n : Int)), some (qI (z_sum (z_g1 o (z_s o) n) i)), some (qI (i : Int))] [] := by
  have hL := z_net_L16 hE.1
  intro j
  induction j with
  | zero =>
    intro i e
    have ei : i = z_L o := by omega
    subst ei
    refine bX11_gainOf_4 _ _ _ ⟨z_cst_k hc, ?_⟩
    rw [z_cst_L hc hE.1]
    rw [← z_gsum_all hE.1] at h
    exact ⟨fun _ => h, fun g => absurd (by omega) g⟩
  | succ j ih =>
    intro i e
    have wb : -99 ≤ z_wr o (i : Int) ∧ z_wr o (i : Int) ≤ 99 := z_wr_bd
    have bd := z_sum_bd (f := z_g1 o (z_s o) n) (b := 99) (n := i) (fun k hk => by
      have : -99 ≤ z_wr o (k : Int) ∧ z_wr o (k : Int) ≤ 99 := z_wr_bd
      unfold z_g1
      split
      · split <;> omega
      · omega)
    have nx := ih (i + 1) (by omega)
    have ex : z_sum (z_g1 o (z_s o) n) (i + 1) = z_sum (z_g1 o (z_s o) n) i + z_g1 o (z_s o) n i := rfl
    refine bX11_gainOf_4 _ _ _ ⟨z_cst_k hc, ?_⟩
    rw [z_cst_L hc hE.1, q_add_eq (a := (i : Int)) (by omega), show (i : Int) + 1 = ((i + 1 : Nat) : Int) by omega]
    refine ⟨fun g => absurd g (by omega), fun _ => k_touches (by omega) hE.1 hc (by omega) (fun t => ⟨fun g => absurd g (by decide), fun _ => k_isCut (by omega) hE hc (by omega) (fun c => ⟨fun g => absurd g (by decide), fun _ => ⟨by omega, fun x e2 => ?_⟩⟩) (fun c => ⟨fun _ => ⟨by omega, fun x e2 => ?_⟩, fun g => absurd rfl g⟩)⟩) (fun t => ⟨fun _ => ?_, fun g => absurd rfl g⟩)⟩
    · have : z_g1 o (z_s o) n i = -z_wr o (i : Int) := by
        unfold z_g1 z_tc
        rw [c]
        rcases t with t | t <;> simp [t]
      rw [ex, this] at nx
      rw [e2, hw i (by omega), q_neg_eq (by omega), q_add_eq (by omega)]
      exact nx
    · have : z_g1 o (z_s o) n i = z_wr o (i : Int) := by
        unfold z_g1 z_tc
        rw [c]
        rcases t with t | t <;> simp [t]
      rw [ex, this] at nx
      rw [e2, hw i (by omega), q_add_eq (by omega)]
      exact nx
    · have : z_g1 o (z_s o) n i = 0 := by
        unfold z_g1 z_tc
        simp only [not_or] at t
        simp [t.1, t.2]
      rw [ex, this] at nx
      simpa using nx
theorem k_cgain {d : Nat} {M : q_Mem} {K : Int → q_Mem → Prop} {o : Int → Int} {n : Nat} (hd : 1 < d) (h9 : n < 10) (hE : z_E o) (hc : z_cst M o) (hw : ∀ l : Nat, l < z_L o → M 90 l = z_wr o l) (h : K (z_V2 o (z_s o ^^^ 2 ^ n) - z_V2 o (z_s o)) M) : q_kI yX11_gainOf mX11_gainOf d [qR 1, qI (n : Int)] M K :=
  q_goI hd rfl (plainFor_of_name (by decide +kernel)) rfl (fun h => nomatch h) (Nat.le_of_ble_eq_true rfl) (fun d hd => bX11_gainOf_0 _ (l_cgain hd h9 hE hc hw h (z_L o) 0 (by omega)))
/-- the flip that gains most -/
def z_bf (V : Nat → Int) (s : Nat) : Nat → Int × Int
  | 0 => (0, -1)
  | n + 1 => if (z_bf V s n).1 < V (s ^^^ 2 ^ n) - V s then (V (s ^^^ 2 ^ n) - V s, (n : Int)) else z_bf V s n
theorem z_bf_ok {V : Nat → Int} {s : Nat} : ∀ {n : Nat}, 0 ≤ (z_bf V s n).1 ∧ ((z_bf V s n).2 = -1 ∨ ∃ m : Nat, m < n ∧ (z_bf V s n).2 = (m : Int) ∧ V s < V (s ^^^ 2 ^ m))
  | 0 => ⟨by show (0 : Int) ≤ 0; decide, Or.inl rfl⟩
  | n + 1 => by
    have ih := z_bf_ok (V := V) (s := s) (n := n)
    show 0 ≤ (if (z_bf V s n).1 < V (s ^^^ 2 ^ n) - V s then (V (s ^^^ 2 ^ n) - V s, (n : Int)) else z_bf V s n).1 ∧ ((if (z_bf V s n).1 < V (s ^^^ 2 ^ n) - V s then (V (s ^^^ 2 ^ n) - V s, (n : Int)) else z_bf V s n).2 = -1 ∨ ∃ m : Nat, m < n + 1 ∧ (if (z_bf V s n).1 < V (s ^^^ 2 ^ n) - V s then (V (s ^^^ 2 ^ n) - V s, (n : Int)) else z_bf V s n).2 = (m : Int) ∧ V s < V (s ^^^ 2 ^ m))
    by_cases c : (z_bf V s n).1 < V (s ^^^ 2 ^ n) - V s
    · rw [if_pos c]
      refine ⟨by show 0 ≤ V (s ^^^ 2 ^ n) - V s; omega, Or.inr ⟨n, by omega, rfl, by omega⟩⟩
    · rw [if_neg c]
      refine ⟨ih.1, ih.2.imp id ?_⟩
      rintro ⟨m, a, b⟩
      exact ⟨m, by omega, b⟩
/-- where it falls to -/
def z_fa2 (V : Nat → Int) (N : Nat) : Nat → Nat → Nat
  | 0, s => s
  | k + 1, s => if (z_bf V s N).2 = -1 then s else z_fa2 V N k (s ^^^ 2 ^ (z_bf V s N).2.toNat)
theorem z_fa2_lt {V : Nat → Int} {N : Nat} : ∀ {k s : Nat}, s < 2 ^ N → z_fa2 V N k s < 2 ^ N
  | 0, _, h => h
  | k + 1, s, h => by
    unfold z_fa2
    by_cases c : (z_bf V s N).2 = -1
    · rw [if_pos c]; exact h
    · rw [if_neg c]
      rcases (z_bf_ok (V := V) (s := s) (n := N)).2 with g | ⟨m, a, b, e⟩
      · exact absurd g c
      · rw [b, Int.toNat_natCast]
        exact z_fa2_lt (z_flip_lt h a)
/-- with enough steps it stands still -/
theorem z_fa2_end {V : Nat → Int} {N : Nat} : ∀ {k s : Nat}, s < 2 ^ N → z_rk V N s < k → ∀ f, z_rk V N s ≤ f → z_fa2 V N f s = z_fa2 V N k s
  | 0, s, _, h, _, _ => by omega
  | k + 1, s, hs, h, f, hf => by
    rcases (z_bf_ok (V := V) (s := s) (n := N)).2 with g | ⟨m, a, b, e⟩
    · cases f with
      | zero => unfold z_fa2; rw [if_pos g]
      | succ f => unfold z_fa2; rw [if_pos g, if_pos g]
    · have r := z_rk_lt (N := N) (z_flip_lt hs a) e
      cases f with
      | zero => omega
      | succ f =>
        unfold z_fa2
        rw [if_neg (by omega), if_neg (by omega), b, Int.toNat_natCast]
        exact z_fa2_end (z_flip_lt hs a) (by omega) f (by omega)
theorem z_rk_1024 {V : Nat → Int} {N s : Nat} (hN : N ≤ 10) (hs : s < 2 ^ N) : z_rk V N s < 1024 := by
  have h1 : z_rk V N s < z_cn (fun _ => true) (2 ^ N) := z_cn_lt (fun _ _ => rfl) hs (by simp) rfl
  have h2 : z_cn (fun _ => true) (2 ^ N) ≤ 2 ^ N := z_cn_le
  have h3 : 2 ^ N ≤ 2 ^ 10 := Nat.pow_le_pow_right (by decide) hN
  have h4 : (2 : Nat) ^ 10 = 1024 := rfl
  omega
def z_fall (o : Int → Int) : Nat := z_fa2 (z_V2 o) (z_N o) 1024 (z_s o)
/-- a row with other sides is worth the same by them -/
theorem z_V2_put {o : Int → Int} (hE : z_E o) {s : Nat} : z_V2 (z_put o 2 (s : Int)) = z_V2 o ∧ z_N (z_put o 2 (s : Int)) = z_N o ∧ z_L (z_put o 2 (s : Int)) = z_L o := by
  have en := z_ost_n (z_ost_put (o := o) (k := 2) (v := (s : Int)) (by omega))
  exact ⟨e_V2 en hE.1 hE.2.1 ⟨z_put_n (by omega), fun l _ => z_put_n (by omega)⟩, e_N en, e_L en⟩
theorem z_put_put {o : Int → Int} {k v w : Int} : z_put (z_put o k v) k w = z_put o k w := by
  funext j
  unfold z_put
  by_cases c : j = k
  · rw [if_pos c, if_pos c]
  · rw [if_neg c, if_neg c, if_neg c]
theorem z_put_id {o : Int → Int} {k v : Int} (h : o k = v) : z_put o k v = o := by
  funext j
  unfold z_put
  by_cases c : j = k
  · rw [if_pos c, c, h]
  · rw [if_neg c]
/-- the reference's search for the flip -/
theorem l_rf26 {d : Nat} {M : q_Mem} {K : Int → q_Mem → Prop} (hd : 3 ≤ d) (hE : z_E (M 179)) (hw : ∀ l : Nat, l < z_L (M 179) → M 187 l = z_wr (M 179) l)
    (h : ∀ x : Int, x = (z_bf (z_V2 (M 179)) (z_s (M 179)) (z_N (M 179))).2 → q_v mX12_fall d (qPI K) M 83 [some (qR 178), none, some (qI x), none, none, none] [qI (if x = -1 then 0 else 1)]) :
    ∀ (j n : Nat), n + j = z_N (M 179) → q_v mX12_fall d (qPI K) M 26 [some (qR 178), none, some (qI (z_bf (z_V2 (M 179)) (z_s (M 179)) n).2), some (qI (z_bf (z_V2 (M 179)) (z_s (M 179)) n).1), some (qI (n : Int)), none] [] := by
  have hN := z_net_N10 hE.1
  have s := z_E_s hE
  intro j
  induction j with
  | zero =>
    intro n e
    have en : n = z_N (M 179) := by omega
    subst en
    have hh := h _ rfl
    refine bX12_fall_26 _ _ _ ?_
    rw [z_net_N hE.1]
    refine ⟨fun _ => ⟨fun g => ?_, fun g => ?_⟩, fun g => absurd (by omega) g⟩
    · rw [if_pos g] at hh; exact hh
    · rw [if_neg g] at hh; exact hh
  | succ j ih =>
    intro n e
    have nx := ih (n + 1) (by omega)
    have ex : z_bf (z_V2 (M 179)) (z_s (M 179)) (n + 1) = if (z_bf (z_V2 (M 179)) (z_s (M 179)) n).1 < z_V2 (M 179) (z_s (M 179) ^^^ 2 ^ n) - z_V2 (M 179) (z_s (M 179)) then (z_V2 (M 179) (z_s (M 179) ^^^ 2 ^ n) - z_V2 (M 179) (z_s (M 179)), (n : Int)) else z_bf (z_V2 (M 179)) (z_s (M 179)) n := rfl
    refine bX12_fall_26 _ _ _ ?_
    rw [z_net_N hE.1, s.1, q_add_eq (by omega), show (n : Int) + 1 = ((n + 1 : Nat) : Int) by omega]
    refine ⟨fun g => absurd g (by omega), fun _ => k_rgainOf (by omega) (by omega) (by omega) hE.1 hw ⟨fun g => ?_, fun g => ?_⟩⟩
    · rw [ex, if_pos g] at nx; exact nx
    · rw [ex, if_neg g] at nx; exact nx
theorem l_rf15 {d : Nat} {M0 : q_Mem} {K : Int → q_Mem → Prop} {o : Int → Int} (hd : 3 ≤ d) (hE : z_E o) (hb : 0 ≤ o 102 ∧ o 102 ≤ 10) {e : Nat}
    (h : ∀ M', z_fr [179] [] M0 M' → M' 179 = z_note (z_put o 2 (e : Int)) (M0 193) → K (z_V2 o e) M') (hw : ∀ l : Nat, l < z_L o → M0 187 l = z_wr o l) (he : e < 2 ^ z_N o) :
    ∀ (k : Nat) (M : q_Mem) (s : Nat), z_fr [179] [] M0 M → s < 2 ^ z_N o → M 179 = z_put o 2 (s : Int) → z_rk (z_V2 o) (z_N o) s < k → z_fa2 (z_V2 o) (z_N o) k s = e → q_v mX12_fall d (qPI K) M 15 [some (qR 178), some (qI 1), none, none, none, none] [] := by
  have hN := z_net_N10 hE.1
  intro k
  induction k with
  | zero => intro M s f hs q r; omega
  | succ k ih =>
    intro M s f hs q r eq
    have vp := z_V2_put hE (s := s)
    have E1 := z_E_put2 hE hs
    have en := z_ost_n (z_ost_put (o := o) (k := 2) (v := (s : Int)) (by omega))
    have w1 : ∀ l : Nat, l < z_L (M 179) → M 187 l = z_wr (M 179) l := fun l hl => by
      rw [q, vp.2.2] at hl
      rw [f.1 187 (by decide) (by decide), q, hw l hl]
      exact (e_wr en hE.2.1 ⟨z_put_n (by omega), fun l _ => z_put_n (by omega)⟩ (by have := z_net_L16 hE.1; omega)).symm
    have E1' : z_E (M 179) := by rw [q]; exact E1
    refine bX12_fall_15 _ ⟨fun g => absurd g (by decide), fun _ => ?_⟩
    refine l_rf26 hd E1' w1 (fun x ex => ?_) (z_N (M 179)) 0 (by omega)
    have es : z_s (M 179) = s := by rw [q, z_s_put]
    rw [q, vp.1, vp.2.1, z_s_put] at ex
    refine bX12_fall_83 _ _ ?_
    rcases (z_bf_ok (V := z_V2 o) (s := s) (n := z_N o)).2 with g | ⟨m, a, b, lt⟩
    · rw [g] at ex
      subst ex
      refine ⟨fun _ => bX12_fall_15 _ ⟨fun _ => k_notes (by omega) (by rw [q, z_put_n (by omega)]; exact hb) (fun M1 f1 e1 => ?_), fun g => absurd rfl g⟩, fun g => absurd rfl g⟩
      have es2 : s = e := by
        unfold z_fa2 at eq
        rw [if_pos g] at eq
        exact eq
      subst es2
      have o1 : ∀ j : Int, j < 102 ∨ 603 ≤ j → M1 179 j = z_put o 2 (s : Int) j := fun j hj => by
        rw [e1, q]
        unfold z_note
        split <;> (rw [z_put_n (by omega)]; unfold z_wri; rw [if_neg (by rw [z_put_n (by omega)] at *; omega)])
        rw [z_put_n (by omega)]
        unfold z_shi
        rw [if_neg (by omega)]
      have en1 : z_eqn (z_put o 2 (s : Int)) (M1 179) := fun j hj => o1 j (by omega)
      have wr1 : ∀ l : Nat, l < z_L (M1 179) → M1 187 l = z_wr (z_put o 2 (s : Int)) l := fun l hl => by
        rw [e_L en1] at hl
        rw [f1.1 187 (by decide) (by decide), w1 l (by rw [q]; exact hl), q]
      have e2 : M1 179 2 = (s : Int) := by rw [o1 2 (by omega), z_put_s]
      rw [e2]
      have lt10 := z_p10 hs hN
      refine k_worthOf (by omega) (by omega) (e_net en1 E1.1) (fun l hl => by rw [wr1 l hl]; exact z_wr_bd) ?_
      have := h M1 (z_fr_tr f f1) (by rw [e1, q, f.1 193 (by decide) (by decide)])
      rw [z_worth_c (w' := z_wr (M1 179)) (fun l hl => by
        rw [wr1 l hl]
        rw [e_L en1] at hl
        exact (e_wr en1 E1.2.1 ⟨o1 1 (by omega), fun l hl2 => o1 _ (by omega)⟩ (by have := z_net_L16 E1.1; omega)).symm)]
      show K (z_V2 (M1 179) s) M1
      rw [e_V2 en1 E1.1 E1.2.1 ⟨o1 1 (by omega), fun l hl2 => o1 _ (by omega)⟩, vp.1]
      exact this
    · rw [b] at ex
      subst ex
      rw [if_neg (by omega)]
      refine ⟨fun g => absurd g (by decide), fun _ M1 e1 => ?_⟩
      rw [q, z_put_s, q_xor1 (by have := z_p10 hs hN; omega) (by omega)] at e1
      have rk := z_rk_lt (N := z_N o) (z_flip_lt hs a) lt
      refine ih M1 (s ^^^ 2 ^ m) (z_fr_u f e1 (by decide) (by decide)) (z_flip_lt hs a) (by rw [e1, z_upP, q, z_put_put]) (by omega) ?_
      unfold z_fa2 at eq
      rw [if_neg (by omega), b, Int.toNat_natCast] at eq
      exact eq
theorem k_rfall {d : Nat} {M : q_Mem} {K : Int → q_Mem → Prop}  (hd : 4 < d) (hE : z_E (M 179)) (hb : 0 ≤ M 179 102 ∧ M 179 102 ≤ 10) (h : ∀ M', z_fr [179, 185, 186, 187, 193] [0] M M' → M' 179 = z_note (z_put (M 179) 2 (z_fall (M 179) : Int)) (fun k => M 179 (1 + k)) → K (z_V2 (M 179) (z_fall (M 179))) M') : q_kI yX12_fall mX12_fall d [qR 178] M K := by
  have hN := z_net_N10 hE.1
  have s := z_E_s hE
  refine q_goI hd rfl (plainFor_of_name (by decide +kernel)) rfl (fun h => nomatch h) (Nat.le_of_ble_eq_true rfl) (fun d hd => bX12_fall_0 (fun M1 e1 => ?_))
  have f1 : z_fr [179, 185, 186, 187, 193] [0] M M1 := by rw [e1]; exact z_fr_f (by decide)
  have o1 : M1 179 = M 179 := by rw [e1, q_up_o (by decide)]
  refine k_laysWeights (by omega) (by rw [o1]; exact hE.1) (by rw [o1]; exact hE.2.1) (by rw [o1]; exact hE.2.2.1) (by rw [o1]; exact hE.2.2.2.1) (fun M2 f2 w2 => k_stores (by omega) (fun M3 f3 w3 => ?_))
  have o2 : M2 179 = M 179 := (f2.1 179 (by decide) (by decide)).trans o1
  have o3 : M3 179 = M 179 := (f3.1 179 (by decide) (by decide)).trans o2
  have ff : z_fr [179, 185, 186, 187, 193] [0] M M3 := z_fr_tr (z_fr_tr f1 (z_fr_mono f2 (by decide) (by decide))) (z_fr_mono f3 (by decide) (by decide))
  have w : ∀ l : Nat, l < z_L (M 179) → M3 187 l = z_wr (M 179) l := fun l hl => by
    rw [f3.1 187 (by decide) (by decide)]
    rw [o1] at w2
    exact z_wts_wr w2 hl
  refine l_rf15 (M0 := M3) (o := M 179) (e := z_fall (M 179)) (by omega) hE hb (fun M' f' e' => h M' (z_fr_tr ff (z_fr_mono f' (by decide) (by decide))) ?_) w (z_fa2_lt s.2.1) 1024 M3 (z_s (M 179)) z_fr_rf s.2.1 (by rw [o3, z_put_id s.1]) (z_rk_1024 hN s.2.1) rfl
  rw [e']
  exact z_note_c (fun k hk => by rw [w3 k hk, o2])
/-- the class's search for the flip -/
theorem l_cmg {d : Nat} {M : q_Mem} {K : Int → q_Mem → Prop} {o : Int → Int} (hd : 2 ≤ d) (hE : z_E o) (hc : z_cst M o) (hw : ∀ l : Nat, l < z_L o → M 90 l = z_wr o l) (h : K (z_bf (z_V2 o) (z_s o) (z_N o)).2 M) :
    ∀ (j n : Nat), n + j = z_N o → q_v mX11_nodeOfMostGain d (qPI K) M 6 [some (qR 1), some (qI (z_bf (z_V2 o) (z_s o) n).1), some (qI (z_bf (z_V2 o) (z_s o) n).2), some (qI (n : Int)), none] [] := by
  have hN := z_net_N10 hE.1
  intro j
  induction j with
  | zero =>
    intro n e
    have en : n = z_N o := by omega
    subst en
    refine bX11_nodeOfMostGain_6 _ _ _ ⟨z_cst_k hc, ?_⟩
    rw [z_cst_N hc hE.1]
    exact ⟨fun _ => h, fun g => absurd (by omega) g⟩
  | succ j ih =>
    intro n e
    have nx := ih (n + 1) (by omega)
    have ex : z_bf (z_V2 o) (z_s o) (n + 1) = if (z_bf (z_V2 o) (z_s o) n).1 < z_V2 o (z_s o ^^^ 2 ^ n) - z_V2 o (z_s o) then (z_V2 o (z_s o ^^^ 2 ^ n) - z_V2 o (z_s o), (n : Int)) else z_bf (z_V2 o) (z_s o) n := rfl
    refine bX11_nodeOfMostGain_6 _ _ _ ⟨z_cst_k hc, ?_⟩
    rw [z_cst_N hc hE.1, q_add_eq (by omega), show (n : Int) + 1 = ((n + 1 : Nat) : Int) by omega]
    refine ⟨fun g => absurd g (by omega), fun _ => k_cgain (by omega) (by omega) hE hc hw ⟨fun g => ?_, fun g => ?_⟩⟩
    · rw [ex, if_neg (by omega)] at nx; exact nx
    · rw [ex, if_pos (by omega)] at nx; exact nx
theorem k_cmost {d : Nat} {M : q_Mem} {K : Int → q_Mem → Prop} {o : Int → Int} (hd : 2 < d) (hE : z_E o) (hc : z_cst M o) (hw : ∀ l : Nat, l < z_L o → M 90 l = z_wr o l) (h : K (z_bf (z_V2 o) (z_s o) (z_N o)).2 M) : q_kI yX11_nodeOfMostGain mX11_nodeOfMostGain d [qR 1] M K :=
  q_goI hd rfl (plainFor_of_name (by decide +kernel)) rfl (fun h => nomatch h) (Nat.le_of_ble_eq_true rfl) (fun d hd => bX11_nodeOfMostGain_0 (l_cmg hd hE hc hw h (z_N o) 0 (by omega)))
