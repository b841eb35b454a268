-- lots drawn, in both
theorem l_lo131 {d : Nat} {K : q_Mem → Prop} {M0 : q_Mem} {n k : Nat} {o : Int → Int} (hn : z_net o) (h39 : M0 178 39 = ((2 ^ z_N o : Nat) : Int)) {D : Nat → Int} (hD : ∀ s : Nat, s < 2 ^ z_N o → M0 204 s = D s)
    (h : ∀ M', z_fr [203] [] M0 M' → (∀ s : Nat, s < 2 ^ z_N o → M' 203 s = D s) → q_v mX12_laysLots d (qPU K) M' 43 [some (qR 178), some (qI (n : Int)), some (qI (q_add (k : Int) 1)), none, none] []) :
    ∀ (j i : Nat) (M : q_Mem), i + j = 2 ^ z_N o → z_fr [203] [] M0 M → (∀ s : Nat, s < i → M 203 s = D s) → q_v mX12_laysLots d (qPU K) M 131 [some (qR 178), some (qI (n : Int)), some (qI (k : Int)), some (qI (i : Int)), none] [] := by
  have p10 := z_2N hn
  intro j
  induction j with
  | zero =>
    intro i M e fr q
    have ei : i = 2 ^ z_N o := by omega
    refine bX12_laysLots_131 _ _ _ ?_
    rw [fr.2 39 (by decide), h39]
    exact ⟨fun _ => h M fr (by rw [← ei]; exact q), fun g => absurd (by omega) g⟩
  | succ j ih =>
    intro i M e fr q
    refine bX12_laysLots_131 _ _ _ ?_
    rw [fr.2 39 (by decide), h39, q_add_eq (a := (i : Int)) (by omega), show (i : Int) + 1 = ((i + 1 : Nat) : Int) by omega, fr.1 204 (by decide) (by decide), hD i (by omega)]
    refine ⟨fun g => by omega, fun _ => ⟨by omega, by omega, fun M3 e3 => ih (i + 1) M3 (by omega) (z_fr_u fr e3 (by decide) (by decide)) (fun s hs => ?_)⟩⟩
    by_cases c : s = i
    · subst c; rw [e3, q_up_s]
    · rw [e3, q_up_n (by omega)]; exact q s (by omega)
theorem l_lo85 {d : Nat} {K : q_Mem → Prop} {M0 : q_Mem} {n k m s : Nat} (hn : z_net (M0 179)) {sd : Nat} (hm : m < 4) (hD : ∀ s : Nat, s < 2 ^ z_N (M0 179) → M0 203 s = z_dr (z_N (M0 179)) sd m s) (hs : s < 2 ^ z_N (M0 179))
    (h : ∀ M', z_fr [204] [] M0 M' → M' 204 s = z_dr (z_N (M0 179)) sd (m + 1) s → (∀ x : Int, x ≠ s → M' 204 x = M0 204 x) → q_v mX12_laysLots d (qPU K) M' 50 [some (qR 178), some (qI (n : Int)), some (qI (k : Int)), some (qI (q_add (s : Int) 1)), none] []) :
    ∀ (j v : Nat) (M : q_Mem), v + j = z_N (M0 179) → z_fr [204] [] M0 M → M 204 s = z_dr (z_N (M0 179)) sd m s * (10 - (z_N (M0 179) : Int)) + z_sum (fun v => z_dr (z_N (M0 179)) sd m (s ^^^ 2 ^ v)) v → (∀ x : Int, x ≠ s → M 204 x = M0 204 x) → q_v mX12_laysLots d (qPU K) M 85 [some (qR 178), some (qI (n : Int)), some (qI (k : Int)), some (qI (s : Int)), some (qI (v : Int))] [] := by
  have p10 := z_2N hn
  have hN := z_net_N10 hn
  have eN := z_net_N hn
  have b4 := z_10n m (by omega)
  intro j
  induction j with
  | zero =>
    intro v M e fr q qo
    have ev : v = z_N (M0 179) := by omega
    subst ev
    refine bX12_laysLots_85 _ _ _ _ ?_
    rw [fr.1 179 (by decide) (by decide)]
    exact ⟨fun _ => h M fr q qo, fun g => absurd (by omega) g⟩
  | succ j ih =>
    intro v M e fr q qo
    have fl := z_flip_lt hs (n := v) (by omega)
    have bd := z_dr_bd (sd := sd) hN m
    have a := z_sum_nn (f := fun v => z_dr (z_N (M0 179)) sd m (s ^^^ 2 ^ v)) (n := v) (fun v _ => (bd _).1)
    have b := z_sum_ub (f := fun v => z_dr (z_N (M0 179)) sd m (s ^^^ 2 ^ v)) (b := 10000) (n := v) (fun v _ => by have := (bd (s ^^^ 2 ^ v)).2; omega)
    have c : 0 ≤ z_dr (z_N (M0 179)) sd m s * (10 - (z_N (M0 179) : Int)) := Int.mul_nonneg (bd s).1 (by omega)
    have c2 : z_dr (z_N (M0 179)) sd m s * (10 - (z_N (M0 179) : Int)) ≤ 10000 * (10 - (z_N (M0 179) : Int)) := Int.mul_le_mul_of_nonneg_right (by have := (bd s).2; omega) (by omega)
    have bf := bd (s ^^^ 2 ^ v)
    refine bX12_laysLots_85 _ _ _ _ ?_
    rw [fr.1 179 (by decide) (by decide), q_xor1 (by omega) (by omega), q, fr.1 203 (by decide) (by decide), hD _ fl, q_ladd_eq (by omega), q_add_eq (a := (v : Int)) (by omega), show (v : Int) + 1 = ((v + 1 : Nat) : Int) by omega]
    refine ⟨fun g => by omega, fun _ => ⟨by omega, by omega, by omega, fun M4 e4 => ih (v + 1) M4 (by omega) (z_fr_u fr e4 (by decide) (by decide)) ?_ (fun x hx => by rw [e4, q_up_n hx]; exact qo x hx)⟩⟩
    rw [e4, q_up_s]
    show _ = z_dr (z_N (M0 179)) sd m s * (10 - (z_N (M0 179) : Int)) + (z_sum (fun v => z_dr (z_N (M0 179)) sd m (s ^^^ 2 ^ v)) v + z_dr (z_N (M0 179)) sd m (s ^^^ 2 ^ v))
    omega
theorem l_lo50 {d : Nat} {K : q_Mem → Prop} {M0 : q_Mem} {n k m : Nat} (hn : z_net (M0 179)) {sd : Nat} (hm : m < 4) (h39 : M0 178 39 = ((2 ^ z_N (M0 179) : Nat) : Int)) (hD : ∀ s : Nat, s < 2 ^ z_N (M0 179) → M0 203 s = z_dr (z_N (M0 179)) sd m s)
    (h : ∀ M', z_fr [204] [] M0 M' → (∀ s : Nat, s < 2 ^ z_N (M0 179) → M' 204 s = z_dr (z_N (M0 179)) sd (m + 1) s) → q_v mX12_laysLots d (qPU K) M' 131 [some (qR 178), some (qI (n : Int)), some (qI (k : Int)), some (qI 0), none] []) :
    ∀ (j i : Nat) (M : q_Mem), i + j = 2 ^ z_N (M0 179) → z_fr [204] [] M0 M → (∀ s : Nat, s < i → M 204 s = z_dr (z_N (M0 179)) sd (m + 1) s) → q_v mX12_laysLots d (qPU K) M 50 [some (qR 178), some (qI (n : Int)), some (qI (k : Int)), some (qI (i : Int)), none] [] := by
  have p10 := z_2N hn
  have hN := z_net_N10 hn
  have eN := z_net_N hn
  have b4 := z_10n m (by omega)
  intro j
  induction j with
  | zero =>
    intro i M e fr q
    have ei : i = 2 ^ z_N (M0 179) := by omega
    refine bX12_laysLots_50 _ _ _ ?_
    rw [fr.2 39 (by decide), h39]
    exact ⟨fun _ => h M fr (by rw [← ei]; exact q), fun g => absurd (by omega) g⟩
  | succ j ih =>
    intro i M e fr q
    have bd := z_dr_bd (sd := sd) hN m i
    have o1 : M 179 = M0 179 := fr.1 179 (by decide) (by decide)
    have c : 0 ≤ z_dr (z_N (M0 179)) sd m i * (10 - (z_N (M0 179) : Int)) := Int.mul_nonneg bd.1 (by omega)
    have c2 : z_dr (z_N (M0 179)) sd m i * (10 - (z_N (M0 179) : Int)) ≤ 10000 * (10 - (z_N (M0 179) : Int)) := Int.mul_le_mul_of_nonneg_right (by omega) (by omega)
    refine bX12_laysLots_50 _ _ _ ?_
    rw [fr.2 39 (by decide), h39, o1, eN, q_sub_eq (by omega), fr.1 203 (by decide) (by decide), hD i (by omega), q_lmul_eq (by omega)]
    refine ⟨fun g => by omega, fun _ => ⟨by omega, by omega, fun M3 e3 => ?_⟩⟩
    have f3 := z_fr_u fr e3 (S := [204]) (F := []) (by decide) (by decide)
    have o3 : M3 179 = M0 179 := f3.1 179 (by decide) (by decide)
    have := l_lo85 (d := d) (K := K) (M0 := M3) (n := n) (k := k) (m := m) (s := i) (by rw [o3]; exact hn) (sd := sd) hm (by rw [o3, f3.1 203 (by decide) (by decide)]; exact hD) (by rw [o3]; omega) (fun M' f' q' qo => ?_) (z_N (M3 179)) 0 M3 (by omega) z_fr_rf (by rw [o3, e3, q_up_s]; show _ = _ + 0; omega) (fun x _ => rfl)
    · exact this
    · rw [q_add_eq (by omega), show (i : Int) + 1 = ((i + 1 : Nat) : Int) by omega]
      refine ih (i + 1) M' (by omega) (z_fr_tr f3 f') (fun s hs => ?_)
      by_cases c : s = i
      · subst c; rw [o3] at q'; exact q'
      · rw [qo s (by omega), e3, q_up_n (by omega)]; exact q s (by omega)
abbrev z_LS : List Int := [185, 186, 187, 199, 203, 204]
theorem l_lo43 {d : Nat} {K : q_Mem → Prop} {M0 : q_Mem} {n : Nat} (hE : z_E (M0 179)) (ht : z_RT (M0 179) M0) (hn4 : n ≤ 4)
    (h : ∀ M', z_fr [203, 204] [] M0 M' → (∀ s : Nat, s < 2 ^ z_N (M0 179) → M' 203 s = z_dr (z_N (M0 179)) (z_s (M0 179)) n s) → K M') :
    ∀ (j k : Nat) (M : q_Mem), k + j = n → z_fr [203, 204] [] M0 M → (∀ s : Nat, s < 2 ^ z_N (M0 179) → M 203 s = z_dr (z_N (M0 179)) (z_s (M0 179)) k s) → q_v mX12_laysLots d (qPU K) M 43 [some (qR 178), some (qI (n : Int)), some (qI (k : Int)), none, none] [] := by
  have hn := hE.1
  intro j
  induction j with
  | zero =>
    intro k M e fr q
    have ek : k = n := by omega
    subst ek
    exact bX12_laysLots_43 _ _ ⟨fun _ => h M fr q, fun g => absurd (by omega) g⟩
  | succ j ih =>
    intro k M e fr q
    have o1 : M 179 = M0 179 := fr.1 179 (by decide) (by decide)
    have e39 : M 178 39 = ((2 ^ z_N (M0 179) : Nat) : Int) := by rw [fr.2 39 (by decide)]; exact ht.1
    refine bX12_laysLots_43 _ _ ⟨fun g => by omega, fun _ => ?_⟩
    refine l_lo50 (M0 := M) (m := k) (by rw [o1]; exact hn) (sd := z_s (M0 179)) (by omega) (by rw [o1]; exact e39) (by rw [o1]; exact q) (fun M' f' q' => ?_) (2 ^ z_N (M 179)) 0 M (by omega) z_fr_rf (fun s hs => by omega)
    rw [o1] at q'
    refine l_lo131 (M0 := M') (o := M0 179) hn (by rw [f'.2 39 (by decide)]; exact e39) q' (fun M2 f2 q2 => ?_) (2 ^ z_N (M0 179)) 0 M' (by omega) z_fr_rf (fun s hs => by omega)
    rw [q_add_eq (by omega), show (k : Int) + 1 = ((k + 1 : Nat) : Int) by omega]
    exact ih (k + 1) M2 (by omega) (z_fr_tr (z_fr_tr fr (z_fr_mono f' (by decide) (by decide))) (z_fr_mono f2 (by decide) (by decide))) q2
theorem l_lo6 {d : Nat} {K : q_Mem → Prop} {M0 : q_Mem} {n : Nat} (hE : z_E (M0 179)) (ht : z_RT (M0 179) M0) (hn4 : n ≤ 4)
    (h : ∀ M', z_fr [203, 204] [] M0 M' → (∀ s : Nat, s < 2 ^ z_N (M0 179) → M' 203 s = z_dr (z_N (M0 179)) (z_s (M0 179)) n s) → K M') :
    ∀ (j i : Nat) (M : q_Mem), i + j = 2 ^ z_N (M0 179) → z_fr [203, 204] [] M0 M → (∀ s : Nat, s < i → M 203 s = z_dr (z_N (M0 179)) (z_s (M0 179)) 0 s) → q_v mX12_laysLots d (qPU K) M 6 [some (qR 178), some (qI (n : Int)), some (qI (i : Int)), none, none] [] := by
  have hn := hE.1
  have p10 := z_2N hn
  have es := z_E_s hE
  intro j
  induction j with
  | zero =>
    intro i M e fr q
    have ei : i = 2 ^ z_N (M0 179) := by omega
    refine bX12_laysLots_6 _ _ ?_
    rw [fr.2 39 (by decide), ht.1]
    exact ⟨fun _ => l_lo43 hE ht hn4 h n 0 M (by omega) fr (by rw [← ei]; exact q), fun g => absurd (by omega) g⟩
  | succ j ih =>
    intro i M e fr q
    refine bX12_laysLots_6 _ _ ?_
    rw [fr.2 39 (by decide), ht.1, fr.1 179 (by decide) (by decide), es.1, q_add_eq (by omega), show (i : Int) + 1 = ((i + 1 : Nat) : Int) by omega]
    refine ⟨fun g => by omega, fun _ => ⟨fun g => ⟨by omega, fun M2 e2 => ih (i + 1) M2 (by omega) (z_fr_u fr e2 (by decide) (by decide)) (fun s hs => ?_)⟩, fun g => ⟨by omega, fun M2 e2 => ih (i + 1) M2 (by omega) (z_fr_u fr e2 (by decide) (by decide)) (fun s hs => ?_)⟩⟩⟩
    · by_cases c : s = i
      · subst c; rw [e2, q_up_s]; show 0 = if s = z_s (M0 179) then (1 : Int) else 0; rw [if_neg (by omega)]
      · rw [e2, q_up_n (by omega)]; exact q s (by omega)
    · by_cases c : s = i
      · subst c; rw [e2, q_up_s]; show 1 = if s = z_s (M0 179) then (1 : Int) else 0; rw [if_pos (by omega)]
      · rw [e2, q_up_n (by omega)]; exact q s (by omega)
theorem k_laysLots {d : Nat} {M : q_Mem} {K : q_Mem → Prop} {n : Nat} (hd : 5 < d) (hE : z_E (M 179)) (hn4 : n ≤ 4) (h : ∀ M', z_fr z_LS z_WF M M' → z_RT (M 179) M' → (∀ s : Nat, s < 2 ^ z_N (M 179) → M' 203 s = z_dr (z_N (M 179)) (z_s (M 179)) n s) → K M') : q_kU yX12_laysLots mX12_laysLots d [qR 178, qI (n : Int)] M K :=
  q_goU hd rfl (plainFor_of_name (by decide +kernel)) rfl (fun h => nomatch h) (Nat.le_of_ble_eq_true rfl) (fun d hd => bX12_laysLots_0 _ (k_laysWorths (by omega) hE (fun M1 f1 w1 t1 => by
    have o1 : M1 179 = M 179 := f1.1 179 (by decide) (by decide)
    exact l_lo6 (M0 := M1) (by rw [o1]; exact hE) (by rw [o1]; exact t1) hn4 (fun M' f' q' => h M' (z_fr_tr (z_fr_mono f1 (by decide) (by decide)) (z_fr_mono f' (by decide) (by decide))) (z_RT_fr t1 f' (by decide) (by decide) (by decide) (by decide)) (by rw [o1] at q'; exact q')) (2 ^ z_N (M1 179)) 0 M1 (by omega) z_fr_rf (fun s hs => by omega))))
/-- draws that make it worth k at least; what they are worth together -/
def z_ch (o : Int → Int) (k : Int) (n : Nat) : Int := z_sum (fun s => if z_V2 o s < k then 0 else z_dr (z_N o) (z_s o) n s) (2 ^ z_N o)
def z_mn (o : Int → Int) (n : Nat) : Int := z_sum (fun s => z_V2 o s * z_dr (z_N o) (z_s o) n s) (2 ^ z_N o)
theorem z_sum_mono {f : Nat → Int} (h : ∀ k, 0 ≤ f k) : ∀ {n m : Nat}, n ≤ m → z_sum f n ≤ z_sum f m
  | n, 0, hm => by rw [show n = 0 by omega]; exact Int.le_refl _
  | n, m + 1, hm => by
    by_cases e : n = m + 1
    · subst e; exact Int.le_refl _
    · have := z_sum_mono h (n := n) (m := m) (by omega)
      have := h m
      show z_sum f n ≤ z_sum f m + f m
      omega
theorem z_ch_bd {o : Int → Int} (hE : z_E o) {k : Int} {n i : Nat} (hn4 : n ≤ 4) (hi : i ≤ 2 ^ z_N o) : 0 ≤ z_sum (fun s => if z_V2 o s < k then 0 else z_dr (z_N o) (z_s o) n s) i ∧ z_sum (fun s => if z_V2 o s < k then 0 else z_dr (z_N o) (z_s o) n s) i ≤ 10000 := by
  have hN := z_net_N10 hE.1
  have bd := z_dr_bd (sd := z_s o) hN n
  have es := z_E_s hE
  have t := z_dr_sum hN es.2.1 n
  have b4 := z_10n n hn4
  have m := z_sum_mono (f := fun s => z_dr (z_N o) (z_s o) n s) (fun k => (bd k).1) hi
  have le := z_sum_le (f := fun s => if z_V2 o s < k then 0 else z_dr (z_N o) (z_s o) n s) (g := fun s => z_dr (z_N o) (z_s o) n s) (n := i) (fun s _ => by have := (bd s).1; show (if z_V2 o s < k then 0 else z_dr (z_N o) (z_s o) n s) ≤ _; split <;> omega)
  refine ⟨z_sum_nn (fun s _ => by have := (bd s).1; show 0 ≤ (if z_V2 o s < k then 0 else z_dr (z_N o) (z_s o) n s); split <;> omega), by omega⟩
theorem z_mn_bd {o : Int → Int} (hE : z_E o) {n i : Nat} (hn4 : n ≤ 4) (hi : i ≤ 2 ^ z_N o) : -15840000 ≤ z_sum (fun s => z_V2 o s * z_dr (z_N o) (z_s o) n s) i ∧ z_sum (fun s => z_V2 o s * z_dr (z_N o) (z_s o) n s) i ≤ 15840000 := by
  have hN := z_net_N10 hE.1
  have bd := z_dr_bd (sd := z_s o) hN n
  have es := z_E_s hE
  have t := z_dr_sum hN es.2.1 n
  have b4 := z_10n n hn4
  have m := z_sum_mono (f := fun s => z_dr (z_N o) (z_s o) n s) (fun k => (bd k).1) hi
  have u := z_sum_le (f := fun s => z_V2 o s * z_dr (z_N o) (z_s o) n s) (g := fun s => z_dr (z_N o) (z_s o) n s * 1584) (n := i) (fun s _ => by
    have := Int.mul_le_mul_of_nonneg_right (z_V2_bd (s := s) hE.1).2 (bd s).1
    rw [Int.mul_comm (z_dr (z_N o) (z_s o) n s)]
    exact this)
  have l := z_sum_le (f := fun s => z_dr (z_N o) (z_s o) n s * (-1584)) (g := fun s => z_V2 o s * z_dr (z_N o) (z_s o) n s) (n := i) (fun s _ => by
    have := Int.mul_le_mul_of_nonneg_right (z_V2_bd (s := s) hE.1).1 (bd s).1
    rw [Int.mul_comm (z_dr (z_N o) (z_s o) n s)]
    exact this)
  rw [z_sum_mulr] at u l
  have m2 : z_sum (z_dr (z_N o) (z_s o) n) i ≤ ((10 ^ n : Nat) : Int) := by rw [← t]; exact m
  omega
theorem z_VD_bd {o : Int → Int} (hE : z_E o) {n s : Nat} (hn4 : n ≤ 4) : -15840000 ≤ z_V2 o s * z_dr (z_N o) (z_s o) n s ∧ z_V2 o s * z_dr (z_N o) (z_s o) n s ≤ 15840000 := by
  have hN := z_net_N10 hE.1
  have bd := z_dr_bd (sd := z_s o) hN n s
  have b4 := z_10n n hn4
  have v := z_V2_bd (s := s) hE.1
  have h1 : (z_V2 o s * z_dr (z_N o) (z_s o) n s).natAbs ≤ 15840000 := by
    rw [Int.natAbs_mul]
    exact Nat.le_trans (Nat.mul_le_mul (show (z_V2 o s).natAbs ≤ 1584 by omega) (show (z_dr (z_N o) (z_s o) n s).natAbs ≤ 10000 by omega)) (by decide)
  omega
theorem l_ch58 {d : Nat} {K : Int → q_Mem → Prop} {M : q_Mem} {o : Int → Int} {n : Nat} {k what : Int} (hd : 31 ≤ d) (hE : z_E o) (ht : z_RT o M) (hn4 : n ≤ 4) (hq : ∀ s : Nat, s < 2 ^ z_N o → M 203 s = z_dr (z_N o) (z_s o) n s) (h : K (z_frac (z_ch o k n) n what) M) :
    ∀ (j i : Nat), i + j = 2 ^ z_N o → q_v mX12_chance d (qPI K) M 58 [some (qR 178), some (qI k), some (qI (n : Int)), some (qI what), some (qL (z_sum (fun s => if z_V2 o s < k then 0 else z_dr (z_N o) (z_s o) n s) i)), none, some (qI (i : Int))] [] := by
  have p10 := z_2N hE.1
  intro j
  induction j with
  | zero =>
    intro i e
    have ei : i = 2 ^ z_N o := by omega
    subst ei
    have bd := z_ch_bd hE (k := k) hn4 (Nat.le_refl (2 ^ z_N o))
    refine bX12_chance_58 _ _ _ _ _ ?_
    rw [ht.1]
    exact ⟨fun _ => k_part (by omega) (by omega) hn4 h, fun g => absurd (by omega) g⟩
  | succ j ih =>
    intro i e
    have bd := z_ch_bd hE (k := k) hn4 (show i ≤ 2 ^ z_N o by omega)
    have bi := z_dr_bd (sd := z_s o) (z_net_N10 hE.1) n i
    have b4 := z_10n n hn4
    have nx := ih (i + 1) (by omega)
    have ex : z_sum (fun s => if z_V2 o s < k then 0 else z_dr (z_N o) (z_s o) n s) (i + 1) = z_sum (fun s => if z_V2 o s < k then 0 else z_dr (z_N o) (z_s o) n s) i + (if z_V2 o i < k then 0 else z_dr (z_N o) (z_s o) n i) := rfl
    refine bX12_chance_58 _ _ _ _ _ ?_
    rw [ht.1, ht.2.2.2 i (by omega), hq i (by omega), q_add_eq (by omega)]
    refine ⟨fun g => by omega, fun _ => ⟨by omega, fun g x e2 => ?_, fun g => ⟨by omega, fun x e2 => ?_⟩⟩⟩
    · rw [ex, if_pos g] at nx
      rw [e2, q_ladd_eq (by omega)]; exact nx
    · rw [ex, if_neg g] at nx
      rw [e2, q_ladd_eq (by omega)]; exact nx
theorem l_mn45 {d : Nat} {K : Int → q_Mem → Prop} {M : q_Mem} {o : Int → Int} {n : Nat} {what : Int} (hd : 31 ≤ d) (hE : z_E o) (ht : z_RT o M) (hn4 : n ≤ 4) (hq : ∀ s : Nat, s < 2 ^ z_N o → M 203 s = z_dr (z_N o) (z_s o) n s) (h : K (z_frac (z_mn o n) n what) M) :
    ∀ (j i : Nat), i + j = 2 ^ z_N o → q_v mX12_mean d (qPI K) M 45 [some (qR 178), some (qI (n : Int)), some (qI what), some (qL (z_sum (fun s => z_V2 o s * z_dr (z_N o) (z_s o) n s) i)), none, some (qI (i : Int))] [] := by
  have p10 := z_2N hE.1
  intro j
  induction j with
  | zero =>
    intro i e
    have ei : i = 2 ^ z_N o := by omega
    subst ei
    have bd := z_mn_bd hE hn4 (Nat.le_refl (2 ^ z_N o))
    refine bX12_mean_45 _ _ _ _ ?_
    rw [ht.1]
    exact ⟨fun _ => k_part (by omega) (by omega) hn4 h, fun g => absurd (by omega) g⟩
  | succ j ih =>
    intro i e
    have bd := z_mn_bd hE hn4 (show i ≤ 2 ^ z_N o by omega)
    have vd := z_VD_bd hE (s := i) hn4
    have nx := ih (i + 1) (by omega)
    have ex : z_sum (fun s => z_V2 o s * z_dr (z_N o) (z_s o) n s) (i + 1) = z_sum (fun s => z_V2 o s * z_dr (z_N o) (z_s o) n s) i + z_V2 o i * z_dr (z_N o) (z_s o) n i := rfl
    refine bX12_mean_45 _ _ _ _ ?_
    rw [ht.1, ht.2.2.2 i (by omega), hq i (by omega), q_add_eq (by omega), q_lmul_eq (by omega), q_ladd_eq (by omega)]
    refine ⟨fun g => by omega, fun _ => ⟨by omega, by omega, fun x e2 => ?_⟩⟩
    rw [ex] at nx
    rw [e2]; exact nx
