-- lots drawn: the class
def z_sp (N : Nat) (D : Nat → Int) (S v t : Nat) : Int := D t * (10 - (N : Int)) + z_sum (fun u => if t ^^^ 2 ^ u < S ∨ (t ^^^ 2 ^ u = S ∧ u < v) then D (t ^^^ 2 ^ u) else 0) N
theorem z_flip2 {t v : Nat} : (t ^^^ 2 ^ v) ^^^ 2 ^ v = t := by rw [Nat.xor_assoc, Nat.xor_self, Nat.xor_zero]
theorem z_sp_bd {N m sd : Nat} (hN : N ≤ 10) (hm : m < 4) (S v t : Nat) : 0 ≤ z_sp N (z_dr N sd m) S v t ∧ z_sp N (z_dr N sd m) S v t ≤ 100000 := by
  have bd := z_dr_bd (sd := sd) hN m
  have b4 := z_10n m (by omega)
  have a := z_sum_nn (f := fun u => if t ^^^ 2 ^ u < S ∨ (t ^^^ 2 ^ u = S ∧ u < v) then z_dr N sd m (t ^^^ 2 ^ u) else 0) (n := N) (fun u _ => by have := (bd (t ^^^ 2 ^ u)).1; show 0 ≤ (if t ^^^ 2 ^ u < S ∨ (t ^^^ 2 ^ u = S ∧ u < v) then z_dr N sd m (t ^^^ 2 ^ u) else 0); split <;> omega)
  have b := z_sum_ub (f := fun u => if t ^^^ 2 ^ u < S ∨ (t ^^^ 2 ^ u = S ∧ u < v) then z_dr N sd m (t ^^^ 2 ^ u) else 0) (b := 10000) (n := N) (fun u _ => by have := (bd (t ^^^ 2 ^ u)).2; show (if t ^^^ 2 ^ u < S ∨ (t ^^^ 2 ^ u = S ∧ u < v) then z_dr N sd m (t ^^^ 2 ^ u) else 0) ≤ 10000; split <;> omega)
  have c : 0 ≤ z_dr N sd m t * (10 - (N : Int)) := Int.mul_nonneg (bd t).1 (by omega)
  have e : z_dr N sd m t * (10 - (N : Int)) ≤ 10000 * (10 - (N : Int)) := Int.mul_le_mul_of_nonneg_right (by have := (bd t).2; omega) (by omega)
  unfold z_sp
  omega
theorem z_sp_step {N S v : Nat} {D : Nat → Int} (hv : v < N) (t : Nat) : z_sp N D S (v + 1) t = if t = S ^^^ 2 ^ v then z_sp N D S v t + D S else z_sp N D S v t := by
  unfold z_sp
  by_cases c : t = S ^^^ 2 ^ v
  · have e : t ^^^ 2 ^ v = S := by rw [c, z_flip2]
    have := z_sum_up (f := fun u => if t ^^^ 2 ^ u < S ∨ (t ^^^ 2 ^ u = S ∧ u < v) then D (t ^^^ 2 ^ u) else 0) (f' := fun u => if t ^^^ 2 ^ u < S ∨ (t ^^^ 2 ^ u = S ∧ u < v + 1) then D (t ^^^ 2 ^ u) else 0) hv (fun x hx => by
      show (if t ^^^ 2 ^ x < S ∨ (t ^^^ 2 ^ x = S ∧ x < v + 1) then D (t ^^^ 2 ^ x) else 0) = (if t ^^^ 2 ^ x < S ∨ (t ^^^ 2 ^ x = S ∧ x < v) then D (t ^^^ 2 ^ x) else 0)
      by_cases q : t ^^^ 2 ^ x < S ∨ (t ^^^ 2 ^ x = S ∧ x < v)
      · rw [if_pos q, if_pos (q.imp id (fun y => ⟨y.1, by omega⟩))]
      · rw [if_neg q, if_neg (fun y => q (y.imp id (fun z => ⟨z.1, by omega⟩)))])
    rw [if_pos c, this]
    show _ + (_ + ((if t ^^^ 2 ^ v < S ∨ (t ^^^ 2 ^ v = S ∧ v < v + 1) then D (t ^^^ 2 ^ v) else 0) - (if t ^^^ 2 ^ v < S ∨ (t ^^^ 2 ^ v = S ∧ v < v) then D (t ^^^ 2 ^ v) else 0))) = _
    rw [e, if_pos (Or.inr ⟨rfl, by omega⟩), if_neg (by omega)]
    omega
  · rw [if_neg c]
    congr 1
    refine z_sum_congr (fun x hx => ?_)
    by_cases q : t ^^^ 2 ^ x < S ∨ (t ^^^ 2 ^ x = S ∧ x < v)
    · rw [if_pos q, if_pos (q.imp id (fun y => ⟨y.1, by omega⟩))]
    · rw [if_neg q, if_neg]
      rintro (y | y)
      · exact q (Or.inl y)
      · by_cases e : x = v
        · subst e
          exact c (by rw [← y.1, z_flip2])
        · exact q (Or.inr ⟨y.1, by omega⟩)
theorem z_sp_zero {N S v : Nat} {D : Nat → Int} (h : D S = 0) (t : Nat) : z_sp N D S v t = z_sp N D S N t := by
  unfold z_sp
  congr 1
  refine z_sum_congr (fun x hx => ?_)
  by_cases q : t ^^^ 2 ^ x < S
  · rw [if_pos (Or.inl q), if_pos (Or.inl q)]
  · by_cases e : t ^^^ 2 ^ x = S
    · rw [e, h]
      simp
    · rw [if_neg (fun y => y.elim q (fun z => e z.1)), if_neg (fun y => y.elim q (fun z => e z.1))]
theorem z_sp_next {N S : Nat} {D : Nat → Int} (t : Nat) : z_sp N D S N t = z_sp N D (S + 1) 0 t := by
  unfold z_sp
  congr 1
  refine z_sum_congr (fun x hx => ?_)
  by_cases q : t ^^^ 2 ^ x < S + 1
  · rw [if_pos (Or.inl q), if_pos]
    by_cases e : t ^^^ 2 ^ x = S
    · exact Or.inr ⟨e, hx⟩
    · exact Or.inl (by omega)
  · rw [if_neg (fun y => y.elim (fun z => by omega) (fun z => by omega)), if_neg (fun y => y.elim (fun z => by omega) (fun z => by omega))]
theorem z_sp_0 {N : Nat} {D : Nat → Int} (t : Nat) : z_sp N D 0 0 t = D t * (10 - (N : Int)) := by
  unfold z_sp
  have : z_sum (fun u => if t ^^^ 2 ^ u < 0 ∨ (t ^^^ 2 ^ u = 0 ∧ u < 0) then D (t ^^^ 2 ^ u) else 0) N = z_sum (fun _ => 0) N := z_sum_congr (fun x _ => by rw [if_neg (by omega)])
  rw [this, z_sum_const]
  simp
theorem z_sp_end {N m sd t : Nat} (ht : t < 2 ^ N) : z_sp N (z_dr N sd m) (2 ^ N) 0 t = z_dr N sd (m + 1) t := by
  unfold z_sp
  show _ = z_dr N sd m t * (10 - (N : Int)) + z_sum (fun v => z_dr N sd m (t ^^^ 2 ^ v)) N
  congr 1
  exact z_sum_congr (fun x hx => by rw [if_pos (Or.inl (z_flip_lt ht hx))])
theorem l_spr {d : Nat} {K : q_Mem → Prop} {M0 : q_Mem} {o : Int → Int} (hn : z_net o) (ht : z_CT o M0) {m sd S : Nat} (hm : m < 4) (hS : S < 2 ^ z_N o) (h : ∀ M', z_cf [121] M0 M' → (∀ t : Nat, t < 2 ^ z_N o → M' 121 t = z_sp (z_N o) (z_dr (z_N o) sd m) S (z_N o) t) → K M') :
    ∀ (j v : Nat) (M : q_Mem), v + j = z_N o → z_cf [121] M0 M → (∀ t : Nat, t < 2 ^ z_N o → M 121 t = z_sp (z_N o) (z_dr (z_N o) sd m) S v t) → q_v mX8_spread d (qPU K) M 2 [some (qR 117), some (qI (S : Int)), some (qI (z_dr (z_N o) sd m S)), some (qI (v : Int))] [] := by
  have p10 := z_2N hn
  have hN := z_net_N10 hn
  intro j
  induction j with
  | zero =>
    intro v M e f q
    have ev : v = z_N o := by omega
    subst ev
    have tM := z_CT_cf ht f (by decide) (by decide)
    refine bX8_spread_2 _ _ _ ?_
    rw [tM.1]
    exact ⟨fun _ => h M f q, fun g => absurd (by omega) g⟩
  | succ j ih =>
    intro v M e f q
    have tM := z_CT_cf ht f (by decide) (by decide)
    have fl := z_flip_lt hS (n := v) (by omega)
    have sb := z_sp_bd (sd := sd) hN hm S v (S ^^^ 2 ^ v)
    have db := z_dr_bd (sd := sd) hN m S
    have b4 := z_10n m (by omega)
    refine bX8_spread_2 _ _ _ ?_
    rw [tM.1, q_xor1 (by omega) (by omega), q _ fl, q_add_eq (a := (v : Int)) (by omega), q_add_eq (by omega), show (v : Int) + 1 = ((v + 1 : Nat) : Int) by omega]
    refine ⟨fun g => by omega, fun _ => ⟨fun g => h M f (fun t htt => by rw [q t htt, z_sp_zero g]), fun g => ⟨by omega, by omega, fun M3 e3 => ih (v + 1) M3 (by omega) (z_cf_u f e3 (by decide)) (fun t htt => ?_)⟩⟩⟩
    rw [z_sp_step (by omega), e3]
    by_cases c : t = S ^^^ 2 ^ v
    · rw [if_pos c, c, q_up_s]
    · rw [if_neg c, q_up_n (by omega)]; exact q t htt
theorem k_spread {d : Nat} {M : q_Mem} {K : q_Mem → Prop} {o : Int → Int} {m sd S : Nat} (hd : 0 < d) (hn : z_net o) (ht : z_CT o M) (hm : m < 4) (hS : S < 2 ^ z_N o) (q : ∀ t : Nat, t < 2 ^ z_N o → M 121 t = z_sp (z_N o) (z_dr (z_N o) sd m) S 0 t) (h : ∀ M', z_cf [121] M M' → (∀ t : Nat, t < 2 ^ z_N o → M' 121 t = z_sp (z_N o) (z_dr (z_N o) sd m) S (z_N o) t) → K M') : q_kU yX8_spread mX8_spread d [qR 117, qI (S : Int), qI (z_dr (z_N o) sd m S)] M K :=
  q_goU hd rfl (plainFor_of_name (by decide +kernel)) rfl (fun h => nomatch h) (Nat.le_of_ble_eq_true rfl) (fun d hd => bX8_spread_0 _ _ (l_spr hn ht hm hS h (z_N o) 0 M (by omega) z_cf_rf q))
theorem l_dl87 {d : Nat} {K : q_Mem → Prop} {M0 : q_Mem} {o : Int → Int} (hd : 1 ≤ d) (hn : z_net o) (ht : z_CT o M0) {m sd n k : Nat} (hm : m < 4) (hO : ∀ s : Nat, s < 2 ^ z_N o → M0 120 s = z_dr (z_N o) sd m s)
    (h : ∀ M', z_cf [121] M0 M' → (∀ t : Nat, t < 2 ^ z_N o → M' 121 t = z_dr (z_N o) sd (m + 1) t) → q_v mX8_drawLots d (qPU K) M' 22 [some (qR 117), none, some (qI (n : Int)), some (qI (q_add (k : Int) 1)), none] []) :
    ∀ (j S : Nat) (M : q_Mem), S + j = 2 ^ z_N o → z_cf [121] M0 M → (∀ t : Nat, t < 2 ^ z_N o → M 121 t = z_sp (z_N o) (z_dr (z_N o) sd m) S 0 t) → q_v mX8_drawLots d (qPU K) M 87 [some (qR 117), none, some (qI (n : Int)), some (qI (k : Int)), some (qI (S : Int))] [] := by
  have p10 := z_2N hn
  intro j
  induction j with
  | zero =>
    intro S M e f q
    have es : S = 2 ^ z_N o := by omega
    subst es
    have tM := z_CT_cf ht f (by decide) (by decide)
    refine bX8_drawLots_87 _ _ _ ?_
    rw [tM.2.1]
    exact ⟨fun _ => h M f (fun t htt => by rw [q t htt, z_sp_end htt]), fun g => absurd (by omega) g⟩
  | succ j ih =>
    intro S M e f q
    have tM := z_CT_cf ht f (by decide) (by decide)
    refine bX8_drawLots_87 _ _ _ ?_
    rw [tM.2.1, f 120 (by decide), hO S (by omega)]
    refine ⟨fun g => by omega, fun _ => ⟨by omega, k_spread (by omega) hn tM hm (by omega) q (fun M' f' q' => ?_)⟩⟩
    rw [q_add_eq (by omega), show (S : Int) + 1 = ((S + 1 : Nat) : Int) by omega]
    exact ih (S + 1) M' (by omega) (z_cf_tr f f') (fun t htt => by rw [q' t htt, z_sp_next])
theorem l_dl47 {d : Nat} {K : q_Mem → Prop} {M0 : q_Mem} {o : Int → Int} (hd : 1 ≤ d) (hn : z_net o) (ht : z_CT o M0) {m sd n k : Nat} (hm : m < 4) (hO : ∀ s : Nat, s < 2 ^ z_N o → M0 120 s = z_dr (z_N o) sd m s)
    (h : ∀ M', z_cf [121] M0 M' → (∀ t : Nat, t < 2 ^ z_N o → M' 121 t = z_dr (z_N o) sd (m + 1) t) → q_v mX8_drawLots d (qPU K) M' 22 [some (qR 117), none, some (qI (n : Int)), some (qI (q_add (k : Int) 1)), none] []) :
    ∀ (j i : Nat) (M : q_Mem), i + j = 2 ^ z_N o → z_cf [121] M0 M → (∀ t : Nat, t < i → M 121 t = z_dr (z_N o) sd m t * (10 - (z_N o : Int))) → q_v mX8_drawLots d (qPU K) M 47 [some (qR 117), none, some (qI (n : Int)), some (qI (k : Int)), some (qI (i : Int))] [] := by
  have p10 := z_2N hn
  have hN := z_net_N10 hn
  intro j
  induction j with
  | zero =>
    intro i M e f q
    have ei : i = 2 ^ z_N o := by omega
    have tM := z_CT_cf ht f (by decide) (by decide)
    refine bX8_drawLots_47 _ _ _ ?_
    rw [tM.2.1]
    exact ⟨fun _ => l_dl87 hd hn ht hm hO h (2 ^ z_N o) 0 M (by omega) f (fun t htt => by rw [q t (by omega), z_sp_0]), fun g => absurd (by omega) g⟩
  | succ j ih =>
    intro i M e f q
    have tM := z_CT_cf ht f (by decide) (by decide)
    have bd := z_dr_bd (sd := sd) hN m i
    have b4 := z_10n m (by omega)
    have c : 0 ≤ z_dr (z_N o) sd m i * (10 - (z_N o : Int)) := Int.mul_nonneg bd.1 (by omega)
    have c2 : z_dr (z_N o) sd m i * (10 - (z_N o : Int)) ≤ 10000 * (10 - (z_N o : Int)) := Int.mul_le_mul_of_nonneg_right (by omega) (by omega)
    refine bX8_drawLots_47 _ _ _ ?_
    rw [tM.2.1, tM.1, f 120 (by decide), hO i (by omega), q_sub_eq (by omega), q_mul_eq (by omega), q_add_eq (a := (i : Int)) (by omega), show (i : Int) + 1 = ((i + 1 : Nat) : Int) by omega]
    refine ⟨fun g => by omega, fun _ => ⟨by omega, by omega, fun M3 e3 => ih (i + 1) M3 (by omega) (z_cf_u f e3 (by decide)) (fun t htt => ?_)⟩⟩
    by_cases c : t = i
    · subst c; rw [e3, q_up_s]
    · rw [e3, q_up_n (by omega)]; exact q t (by omega)
theorem l_dl22 {d : Nat} {K : q_Mem → Prop} {M0 : q_Mem} {o : Int → Int} (hd : 1 ≤ d) (hn : z_net o) (ht : z_CT o M0) {sd n : Nat} (hn4 : n ≤ 4) (h : ∀ M', z_cf [120, 121] M0 M' → (∀ t : Nat, t < 2 ^ z_N o → M' 121 t = z_dr (z_N o) sd n t) → K M') :
    ∀ (j k : Nat) (M : q_Mem), k + j = n → z_cf [120, 121] M0 M → (∀ t : Nat, t < 2 ^ z_N o → M 121 t = z_dr (z_N o) sd k t) → q_v mX8_drawLots d (qPU K) M 22 [some (qR 117), none, some (qI (n : Int)), some (qI (k : Int)), none] [] := by
  have p10 := z_2N hn
  intro j
  induction j with
  | zero =>
    intro k M e f q
    have ek : k = n := by omega
    subst ek
    exact bX8_drawLots_22 _ _ ⟨fun _ => h M f q, fun g => absurd (by omega) g⟩
  | succ j ih =>
    intro k M e f q
    have tM := z_CT_cf ht f (by decide) (by decide)
    refine bX8_drawLots_22 _ _ ⟨fun g => by omega, fun _ => ?_⟩
    rw [tM.2.1]
    refine ⟨⟨by omega, by omega, hd⟩, fun M2 e2 => ?_⟩
    have f2 : z_cf [120, 121] M M2 := fun a ha => by rw [e2]; exact q_cp_o (fun e => ha (by rw [e]; decide))
    have o2 : ∀ s : Nat, s < 2 ^ z_N o → M2 120 s = z_dr (z_N o) sd k s := fun s hs => by
      rw [e2]
      unfold q_cp
      rw [if_pos ⟨rfl, by omega, by omega⟩, show (0 : Int) + ((s : Int) - 0) = (s : Int) by omega]
      exact q s hs
    refine l_dl47 (M0 := M2) (m := k) hd hn (z_CT_cf tM f2 (by decide) (by decide)) (by omega) o2 (fun M' f' q' => ?_) (2 ^ z_N o) 0 M2 (by omega) z_cf_rf (fun t htt => by omega)
    rw [q_add_eq (by omega), show (k : Int) + 1 = ((k + 1 : Nat) : Int) by omega]
    exact ih (k + 1) M' (by omega) (z_cf_tr (z_cf_tr f f2) (z_cf_mono f' (by decide))) q'
theorem k_drawLots {d : Nat} {M : q_Mem} {K : q_Mem → Prop} {o : Int → Int} {sd n : Nat} (hd : 2 < d) (hn : z_net o) (ht : z_CT o M) (hsd : sd < 2 ^ z_N o) (hn4 : n ≤ 4) (h : ∀ M', z_cf [120, 121] M M' → (∀ t : Nat, t < 2 ^ z_N o → M' 121 t = z_dr (z_N o) sd n t) → K M') : q_kU yX8_drawLots mX8_drawLots d [qR 117, qI (sd : Int), qI (n : Int)] M K := by
  have p10 := z_2N hn
  refine q_goU hd rfl (plainFor_of_name (by decide +kernel)) rfl (fun h => nomatch h) (Nat.le_of_ble_eq_true rfl) (fun d hd => bX8_drawLots_0 _ _ ?_)
  rw [ht.2.1]
  refine k_fill3 (by omega) (by decide +kernel) (by decide) (by omega) (by rw [show q_ln 121 = 1024 by decide +kernel]; omega) (by omega) ⟨by omega, fun M3 e3 => ?_⟩
  have f3 : z_cf [120, 121] M M3 := z_cf_u (M := z_fill M 121 0 ((2 ^ z_N o : Nat) : Int) 0) (fun a ha => z_fill_o (fun e => ha (by rw [e]; decide))) e3 (by decide)
  refine l_dl22 (M0 := M) (by omega) hn ht hn4 h n 0 M3 (by omega) f3 (fun t htt => ?_)
  rw [e3]
  show _ = if t = sd then (1 : Int) else 0
  by_cases c : t = sd
  · subst c; rw [q_up_s, if_pos rfl]
  · rw [q_up_n (by omega), if_neg c, z_fill_s (by omega)]
theorem l_dw12 {d : Nat} {K : Int → q_Mem → Prop} {M : q_Mem} {o : Int → Int} {n : Nat} {k : Int} (hE : z_E o) (ht : z_CT o M) (hn4 : n ≤ 4) (hq : ∀ s : Nat, s < 2 ^ z_N o → M 121 s = z_dr (z_N o) (z_s o) n s) (h : K (z_ch o k n) M) :
    ∀ (j i : Nat), i + j = 2 ^ z_N o → q_v mX8_drawsWorth d (qPI K) M 12 [some (qR 117), none, none, some (qI k), some (qI (z_sum (fun s => if z_V2 o s < k then 0 else z_dr (z_N o) (z_s o) n s) i)), some (qI (i : Int))] [] := by
  have p10 := z_2N hE.1
  intro j
  induction j with
  | zero =>
    intro i e
    have ei : i = 2 ^ z_N o := by omega
    subst ei
    refine bX8_drawsWorth_12 _ _ _ ?_
    rw [ht.2.1]
    exact ⟨fun _ => h, fun g => absurd (by omega) g⟩
  | succ j ih =>
    intro i e
    have bd := z_ch_bd hE (k := k) hn4 (show i ≤ 2 ^ z_N o by omega)
    have bi := z_dr_bd (sd := z_s o) (z_net_N10 hE.1) n i
    have b4 := z_10n n hn4
    have nx := ih (i + 1) (by omega)
    have ex : z_sum (fun s => if z_V2 o s < k then 0 else z_dr (z_N o) (z_s o) n s) (i + 1) = z_sum (fun s => if z_V2 o s < k then 0 else z_dr (z_N o) (z_s o) n s) i + (if z_V2 o i < k then 0 else z_dr (z_N o) (z_s o) n i) := rfl
    refine bX8_drawsWorth_12 _ _ _ ?_
    rw [ht.2.1, ht.2.2.2.2 i (by omega), hq i (by omega), q_add_eq (a := (i : Int)) (by omega)]
    refine ⟨fun g => by omega, fun _ => ⟨by omega, fun g => ?_, fun g => ⟨by omega, fun x e2 => ?_⟩⟩⟩
    · rw [ex, if_pos g] at nx
      simpa using nx
    · rw [ex, if_neg g] at nx
      rw [e2, q_add_eq (by omega)]; exact nx
theorem k_drawsWorth {d : Nat} {M : q_Mem} {K : Int → q_Mem → Prop} {o : Int → Int} {n : Nat} {k : Int} (hd : 3 < d) (hE : z_E o) (ht : z_CT o M) (hn4 : n ≤ 4) (h : ∀ M', z_cf [120, 121] M M' → K (z_ch o k n) M') : q_kI yX8_drawsWorth mX8_drawsWorth d [qR 117, qI (z_s o : Int), qI (n : Int), qI k] M K :=
  q_goI hd rfl (plainFor_of_name (by decide +kernel)) rfl (fun h => nomatch h) (Nat.le_of_ble_eq_true rfl) (fun d hd => bX8_drawsWorth_0 _ _ _ (k_drawLots (by omega) hE.1 ht (z_E_s hE).2.1 hn4 (fun M' f' q' => l_dw12 hE (z_CT_cf ht f' (by decide) (by decide)) hn4 q' (h M' f') (2 ^ z_N o) 0 (by omega))))
theorem l_wd11 {d : Nat} {K : Int → q_Mem → Prop} {M : q_Mem} {o : Int → Int} {n : Nat} (hE : z_E o) (ht : z_CT o M) (hn4 : n ≤ 4) (hq : ∀ s : Nat, s < 2 ^ z_N o → M 121 s = z_dr (z_N o) (z_s o) n s) (h : K (z_mn o n) M) :
    ∀ (j i : Nat), i + j = 2 ^ z_N o → q_v mX8_worthOfDraws d (qPI K) M 11 [some (qR 117), none, none, some (qI (z_sum (fun s => z_V2 o s * z_dr (z_N o) (z_s o) n s) i)), some (qI (i : Int))] [] := by
  have p10 := z_2N hE.1
  intro j
  induction j with
  | zero =>
    intro i e
    have ei : i = 2 ^ z_N o := by omega
    subst ei
    refine bX8_worthOfDraws_11 _ _ ?_
    rw [ht.2.1]
    exact ⟨fun _ => h, fun g => absurd (by omega) g⟩
  | succ j ih =>
    intro i e
    have bd := z_mn_bd hE hn4 (show i ≤ 2 ^ z_N o by omega)
    have vd := z_VD_bd hE (s := i) hn4
    have nx := ih (i + 1) (by omega)
    have ex : z_sum (fun s => z_V2 o s * z_dr (z_N o) (z_s o) n s) (i + 1) = z_sum (fun s => z_V2 o s * z_dr (z_N o) (z_s o) n s) i + z_V2 o i * z_dr (z_N o) (z_s o) n i := rfl
    refine bX8_worthOfDraws_11 _ _ ?_
    rw [ht.2.1, ht.2.2.2.2 i (by omega), hq i (by omega), q_add_eq (a := (i : Int)) (by omega), q_mul_eq (by omega), q_add_eq (by omega)]
    refine ⟨fun g => by omega, fun _ => ⟨by omega, by omega, fun x e2 => ?_⟩⟩
    rw [ex] at nx
    rw [e2]; exact nx
theorem k_worthOfDraws {d : Nat} {M : q_Mem} {K : Int → q_Mem → Prop} {o : Int → Int} {n : Nat} (hd : 3 < d) (hE : z_E o) (ht : z_CT o M) (hn4 : n ≤ 4) (h : ∀ M', z_cf [120, 121] M M' → K (z_mn o n) M') : q_kI yX8_worthOfDraws mX8_worthOfDraws d [qR 117, qI (z_s o : Int), qI (n : Int)] M K :=
  q_goI hd rfl (plainFor_of_name (by decide +kernel)) rfl (fun h => nomatch h) (Nat.le_of_ble_eq_true rfl) (fun d hd => bX8_worthOfDraws_0 _ _ (k_drawLots (by omega) hE.1 ht (z_E_s hE).2.1 hn4 (fun M' f' q' => l_wd11 hE (z_CT_cf ht f' (by decide) (by decide)) hn4 q' (h M' f') (2 ^ z_N o) 0 (by omega))))
