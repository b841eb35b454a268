-- warms: the reference; the weights alike, ask
theorem l_rrw {d : Nat} {M : q_Mem} {K : Int → q_Mem → Prop} {t m : Nat} (hd : 2 ≤ d) (ht : t < 4) (hE : z_E (M 179)) (hm : M 206 t = (m : Int)) (hm8 : m ≤ 8) (h1 : (∀ i, i < m → z_vo (M 179) (z_tv M t i)) → K 0 M) (h0 : ¬ (∀ i, i < m → z_vo (M 179) (z_tv M t i)) → K (-3) M) :
    ∀ (j i : Nat), i + j = m → (∀ k, k < i → z_vo (M 179) (z_tv M t k)) → q_v mX12_noWeighed d (qPI K) M 34 [some (qR 178), some (qI (t : Int)), none, some (qI (i : Int)), none, none] [] := by
  have hL := z_net_L16 hE.1
  intro j
  induction j with
  | zero =>
    intro i e q
    have ei : i = m := by omega
    subst ei
    refine bX12_noWeighed_34 _ _ ⟨by omega, ?_⟩
    rw [hm]
    exact ⟨fun _ => h1 q, fun g => absurd (by omega) g⟩
  | succ j ih =>
    intro i e q
    have no : ¬ z_vo (M 179) (z_tv M t i) → K (-3) M := fun g => h0 (fun q => g (q i (by omega)))
    refine qr_mem 34 (fun hM _ _ => ?_)
    have in64 : q_in64 (M 207 (40 * (t : Int) + (i : Int))) := by
      have := hM.2.1 207 (40 * t + i)
      rw [show q_sl (q_kd 207) (40 * t + i) = 1 by rw [show q_kd 207 = 15 by decide +kernel]; rfl] at this
      rw [show ((40 * t + i : Nat) : Int) = 40 * (t : Int) + (i : Int) by omega] at this
      exact this
    refine bX12_noWeighed_34 _ _ ⟨by omega, ?_⟩
    rw [hm, q_mul_eq (by omega), q_add_eq (by omega), q_add_eq (by omega), show (i : Int) + 1 = ((i + 1 : Nat) : Int) by omega]
    refine ⟨fun g => absurd g (by omega), fun _ => ⟨by omega, fun x4 e4 => ?_⟩⟩
    have ev : z_tv M t i = x4 := e4.symm
    rw [ev] at no
    rw [← e4] at in64
    refine ⟨fun g => ?_, fun g => ?_⟩
    · rw [q_lcmp_lt] at g
      exact no (by unfold z_vo; omega)
    · rw [q_lcmp_lt] at g
      rw [q_ldiv_nn in64 (by unfold q_in64; decide) (by omega), q_lrem_nn in64 (by unfold q_in64; decide) (by omega) (by decide)]
      refine k_isLink (by omega) hE.1 (fun g1 g2 => ⟨fun q => absurd q (by decide), fun _ => k_within (by omega) (fun g3 g4 => ⟨fun _ => ?_, fun q => absurd q (by decide)⟩) (fun g3 => ⟨fun q => absurd rfl q, fun _ => no (by unfold z_vo; omega)⟩)⟩) (fun g1 => ⟨fun _ => no (by unfold z_vo; omega), fun q => absurd rfl q⟩)
      refine ih (i + 1) (by omega) (fun k hk => ?_)
      by_cases c : k = i
      · subst c; rw [ev]; unfold z_vo; omega
      · exact q k (by omega)
theorem r_refw {d : Nat} {M : q_Mem} {K : Int → q_Mem → Prop} {t : Int} (hd : 3 < d) (hE : z_E (M 179)) (hm : 0 ≤ t → t < 4 → ¬ M 205 t = -1 → 0 ≤ M 206 t ∧ M 206 t ≤ 40) (h : ∀ c, z_rfP M t c → K c M) : q_kI yX12_noWeighed mX12_noWeighed d [qR 178, qI t] M K := by
  refine q_goI hd rfl (plainFor_of_name (by decide +kernel)) rfl (fun h => nomatch h) (Nat.le_of_ble_eq_true rfl) (fun d hd => bX12_noWeighed_0 _ (k_noTray (by omega) (fun g => ⟨fun q => absurd q (by decide), fun _ => h _ (Or.inl ⟨g, rfl⟩)⟩) (fun g1 g2 g => ⟨fun q => absurd q (by decide), fun _ => h _ (Or.inr (Or.inl ⟨⟨g1, g2⟩, g, rfl⟩))⟩) (fun g1 g2 g => ⟨fun _ => ⟨by omega, ?_⟩, fun q => absurd rfl q⟩)))
  have hm := hm g1 g2 g
  obtain ⟨m, rfl⟩ : ∃ m : Nat, t = (m : Int) := ⟨t.toNat, by omega⟩
  obtain ⟨mm, rm⟩ : ∃ mm : Nat, M 206 (m : Int) = (mm : Int) := ⟨(M 206 (m : Int)).toNat, by omega⟩
  have tm : (M 206 (m : Int)).toNat = mm := by rw [rm, Int.toNat_natCast]
  refine k_within (by omega) (fun g3 g4 => ⟨fun _ => ?_, fun q => absurd q (by decide)⟩) (fun g3 => ⟨fun q => absurd rfl q, fun _ => h _ (Or.inr (Or.inr (Or.inl ⟨⟨g1, g2⟩, g, g3, rfl⟩)))⟩)
  exact l_rrw (m := mm) (by omega) (by omega) hE rm (by omega) (fun q => h _ (Or.inr (Or.inr (Or.inr (Or.inr ⟨⟨g1, g2⟩, g, ⟨g3, g4⟩, by rw [tm]; exact q, rfl⟩))))) (fun q => h _ (Or.inr (Or.inr (Or.inr (Or.inl ⟨⟨g1, g2⟩, g, ⟨g3, g4⟩, by rw [tm]; exact q, rfl⟩))))) mm 0 (by omega) (fun k hk => by omega)
theorem z_and01 : q_and 1 0 = 0 ∧ q_and 0 0 = 0 ∧ q_and 1 1 = 1 ∧ q_and 0 1 = 0 := by decide +kernel
theorem l_rwo {d : Nat} {M0 : q_Mem} {K : Int → q_Mem → Prop} {t m : Nat} (hd : 3 ≤ d) (ht : t < 4) (hE : z_E (M0 179)) (hm : M0 206 t = (m : Int)) (hm8 : m ≤ 8) {v : Nat → Int} (hv : ∀ i : Nat, i < m → M0 207 (40 * (t : Int) + i) = v i) (ok : ∀ i, i < m → z_vo (M0 179) (v i)) (hk : ∀ M', z_fr [185, 186] [] M0 M' → K (z_wms (M0 179) v m : Int) M') :
    ∀ (j h : Nat) (M : q_Mem), h + j = 10 → z_fr [185, 186] [] M0 M → q_v mX12_warmthsOf d (qPI K) M 4 [some (qR 178), some (qI (t : Int)), some (qI (z_set (fun h => z_alb (z_wq (M0 179) v h) m) h : Int)), some (qI (h : Int)), none, none, none] [] := by
  intro j
  induction j with
  | zero =>
    intro h M e f
    have eh : h = 10 := by omega
    subst eh
    exact bX12_warmthsOf_4 _ _ _ ⟨fun _ => hk M f, fun g => absurd (by omega) g⟩
  | succ j ih =>
    intro h M e f
    have lt : z_set (fun h => z_alb (z_wq (M0 179) v h) m) h < 1024 := Nat.lt_of_lt_of_le z_set_lt (by show 2 ^ h ≤ 2 ^ 10; exact Nat.pow_le_pow_right (by decide) (by omega))
    have ex : z_set (fun h => z_alb (z_wq (M0 179) v h) m) (h + 1) = z_set (fun h => z_alb (z_wq (M0 179) v h) m) h ||| (if z_alb (z_wq (M0 179) v h) m then 2 ^ h else 0) := rfl
    have inner : ∀ (j2 i : Nat) (M : q_Mem), i + j2 = m → z_fr [185, 186] [] M0 M → q_v mX12_warmthsOf d (qPI K) M 16 [some (qR 178), some (qI (t : Int)), some (qI (z_set (fun h => z_alb (z_wq (M0 179) v h) m) h : Int)), some (qI (h : Int)), some (qI (if z_alb (z_wq (M0 179) v h) i then 1 else 0)), some (qI (i : Int)), none] [] := by
      intro j2
      induction j2 with
      | zero =>
        intro i M e2 f2
        have ei : i = m := by omega
        subst ei
        have nx := ih (h + 1) M (by omega) f2
        refine bX12_warmthsOf_16 _ _ _ _ _ ⟨by omega, ?_⟩
        rw [f2.1 206 (by decide) (by decide), hm, q_or0 (by omega), q_or1 (by omega) (by omega), q_add_eq (a := (h : Int)) (by omega), show (h : Int) + 1 = ((h + 1 : Nat) : Int) by omega]
        refine ⟨fun _ => ⟨fun g x2 ex2 => ?_, fun g x2 ex2 => ?_⟩, fun g => absurd (by omega) g⟩
        · cases c : z_alb (z_wq (M0 179) v h) i with
          | true => rw [c] at g; exact absurd g (by decide)
          | false => rw [ex, c] at nx; rw [ex2]; simpa using nx
        · cases c : z_alb (z_wq (M0 179) v h) i with
          | true => rw [ex, c] at nx; rw [ex2]; exact nx
          | false => rw [c] at g; exact absurd rfl g
      | succ j2 ih2 =>
        intro i M e2 f2
        have vq := z_vo_q hE.1 (ok i (by omega))
        have o2 : M 179 = M0 179 := f2.1 179 (by decide) (by decide)
        refine bX12_warmthsOf_16 _ _ _ _ _ ⟨by omega, ?_⟩
        rw [f2.1 206 (by decide) (by decide), hm, f2.1 207 (by decide) (by decide), q_mul_eq (by omega), q_add_eq (a := 40 * (t : Int)) (by omega), hv i (by omega), vq.1]
        refine ⟨fun g => absurd g (by omega), fun _ => ⟨by omega, fun x6 e6 => ?_⟩⟩
        subst e6
        rw [vq.2.1, vq.2.2.1, ← vq.2.2.2.1]
        refine k_weightOf (by omega) (by rw [o2]; exact hE.1) (by rw [o2]; exact hE.2.1) (by rw [o2]; exact hE.2.2.1) (by rw [o2]; exact vq.2.2.2.2.1) (by omega) (fun M6 f6 => ?_)
        have F6 := z_fr_tr f2 f6
        have nx := ih2 (i + 1) M6 (by omega) F6
        have exb : z_alb (z_wq (M0 179) v h) (i + 1) = (z_alb (z_wq (M0 179) v h) i && z_wq (M0 179) v h i) := rfl
        rw [o2, q_add_eq (by omega), show (i : Int) + 1 = ((i + 1 : Nat) : Int) by omega]
        refine ⟨fun g x4 e4 => ?_, fun g x4 e4 => ?_⟩
        · have w : z_wq (M0 179) v h i = false := by unfold z_wq; simpa using g
          rw [exb, w, Bool.and_false] at nx
          rw [e4]
          cases c : z_alb (z_wq (M0 179) v h) i with
          | true => rw [if_pos rfl, z_and01.1]; exact nx
          | false => rw [if_neg (by decide), z_and01.2.1]; exact nx
        · have w : z_wq (M0 179) v h i = true := by unfold z_wq; simpa using g
          rw [exb, w, Bool.and_true] at nx
          rw [e4]
          cases c : z_alb (z_wq (M0 179) v h) i with
          | true => rw [c] at nx; rw [if_pos rfl, z_and01.2.2.1]; exact nx
          | false => rw [c] at nx; rw [if_neg (by decide), z_and01.2.2.2]; exact nx
    exact bX12_warmthsOf_4 _ _ _ ⟨fun g => absurd g (by omega), fun _ => inner m 0 M (by omega) f⟩
/-- how many warmths weigh a link alike -/
def z_ac (o : Int → Int) (set l : Nat) (c : Int) (n : Nat) : Nat := z_cn (fun h => set.testBit h && decide (z_wt o l (h : Int) = c)) n
def z_ma (o : Int → Int) (set l : Nat) : Nat := z_mxn (fun h => if set.testBit h then z_ac o set l (z_wt o l (h : Int)) 10 else 0) 10
theorem z_ac_mono {o : Int → Int} {set l : Nat} {c : Int} : ∀ {n m : Nat}, n ≤ m → z_ac o set l c n ≤ z_ac o set l c m
  | n, 0, h => by rw [show n = 0 by omega]; exact Nat.le_refl _
  | n, m + 1, h => by
    by_cases e : n = m + 1
    · subst e; exact Nat.le_refl _
    · have := z_ac_mono (o := o) (set := set) (l := l) (c := c) (show n ≤ m by omega)
      have s : z_ac o set l c (m + 1) = z_ac o set l c m + (if set.testBit m && decide (z_wt o l (m : Int) = c) then 1 else 0) := rfl
      omega
theorem z_ac_last {o : Int → Int} {set l : Nat} {c : Int} : ∀ {n : Nat}, 0 < z_ac o set l c n → ∃ h, h < n ∧ set.testBit h = true ∧ z_wt o l (h : Int) = c ∧ z_ac o set l c (h + 1) = z_ac o set l c n
  | 0, h => by exact absurd h (by unfold z_ac z_cn; omega)
  | n + 1, h => by
    have s : z_ac o set l c (n + 1) = z_ac o set l c n + (if set.testBit n && decide (z_wt o l (n : Int) = c) then 1 else 0) := rfl
    by_cases g : (set.testBit n && decide (z_wt o l (n : Int) = c)) = true
    · rw [Bool.and_eq_true, decide_eq_true_eq] at g
      exact ⟨n, by omega, g.1, g.2, rfl⟩
    · rw [if_neg g] at s
      obtain ⟨h0, a, b, e, f⟩ := z_ac_last (show 0 < z_ac o set l c n by omega)
      exact ⟨h0, by omega, b, e, by omega⟩
theorem z_ma_eq {o : Int → Int} {set l : Nat} : z_mxn (fun h => if set.testBit h then z_ac o set l (z_wt o l (h : Int)) (h + 1) else 0) 10 = z_ma o set l := by
  apply Nat.le_antisymm
  · refine z_mxn_le (fun k hk => ?_)
    refine Nat.le_trans ?_ (z_mxn_ge (g := fun h => if set.testBit h then z_ac o set l (z_wt o l (h : Int)) 10 else 0) hk)
    show (if set.testBit k then z_ac o set l (z_wt o l (k : Int)) (k + 1) else 0) ≤ (if set.testBit k then z_ac o set l (z_wt o l (k : Int)) 10 else 0)
    split
    · exact z_ac_mono (by omega)
    · exact Nat.le_refl _
  · refine z_mxn_le (fun k hk => ?_)
    by_cases g : set.testBit k = true
    · rw [if_pos g]
      have pos : 0 < z_ac o set l (z_wt o l (k : Int)) 10 := by
        have h1 : z_ac o set l (z_wt o l (k : Int)) (k + 1) ≤ z_ac o set l (z_wt o l (k : Int)) 10 := z_ac_mono (by omega)
        have s : z_ac o set l (z_wt o l (k : Int)) (k + 1) = z_ac o set l (z_wt o l (k : Int)) k + (if set.testBit k && decide (z_wt o l (k : Int) = z_wt o l (k : Int)) then 1 else 0) := rfl
        rw [g] at s
        simp at s
        omega
      obtain ⟨h0, a, b, e, f⟩ := z_ac_last pos
      rw [← f]
      have := z_mxn_ge (g := fun h => if set.testBit h then z_ac o set l (z_wt o l (h : Int)) (h + 1) else 0) a
      simp only [b, e] at this
      exact this
    · rw [if_neg g]; exact Nat.zero_le _
theorem z_ma_10 {o : Int → Int} {set l : Nat} : z_ma o set l ≤ 10 := z_mxn_le (fun k _ => by
  split
  · exact z_cn_le
  · exact Nat.zero_le _)
/-- the class's -/
abbrev z_TL : List Int := [12, 13, 16, 17, 27, 28, 31, 32, 122]
theorem l_cma {d : Nat} {M0 : q_Mem} {K : Int → q_Mem → Prop} {o : Int → Int} {l set : Nat} (hd : 5 ≤ d) (hE : z_E o) (hc : z_cst M0 o) (hl : l < z_L o) (hs : set < 1024) (hk : ∀ M', z_cf z_TL M0 M' → K (z_ma o set l : Int) M') :
    ∀ (j h : Nat) (M : q_Mem), h + j = 10 → z_cf z_TL M0 M → (∀ c : Nat, c < 199 → M 122 c = (z_ac o set l ((c : Int) - 99) h : Int)) → q_v mX11_mostAlike d (qPI K) M 14 [some (qR 1), some (qI (l : Int)), some (qI (set : Int)), some (qR 122), some (qI (z_mxn (fun h => if set.testBit h then z_ac o set l (z_wt o l (h : Int)) (h + 1) else 0) h : Int)), some (qI (h : Int)), none] [] := by
  have hL := z_net_L16 hE.1
  have k122 : q_kd 122 = 14 := by decide +kernel
  have l122 : q_ln 122 = 3170 := by decide +kernel
  intro j
  induction j with
  | zero =>
    intro h M e f q
    have eh : h = 10 := by omega
    subst eh
    rw [z_ma_eq]
    exact bX11_mostAlike_14 _ _ _ _ _ k122 ⟨fun _ => hk M f, fun g => absurd (by omega) g⟩
  | succ j ih =>
    intro h M e f q
    have cM := z_cst_cf hc f (by decide) (by decide)
    have wb := z_wt_bd (o := o) (l := l) (h := (h : Int))
    refine bX11_mostAlike_14 _ _ _ _ _ k122 ⟨fun g => absurd g (by omega), fun _ => ?_⟩
    rw [q_bit0 (by omega) (by omega), q_add_eq (a := (h : Int)) (by omega), show (h : Int) + 1 = ((h + 1 : Nat) : Int) by omega]
    have st : ∀ c : Int, z_ac o set l c (h + 1) = z_ac o set l c h + (if set.testBit h && decide (z_wt o l (h : Int) = c) then 1 else 0) := fun c => rfl
    have sx : z_mxn (fun h => if set.testBit h then z_ac o set l (z_wt o l (h : Int)) (h + 1) else 0) (h + 1) = max (z_mxn (fun h => if set.testBit h then z_ac o set l (z_wt o l (h : Int)) (h + 1) else 0) h) (if set.testBit h then z_ac o set l (z_wt o l (h : Int)) (h + 1) else 0) := rfl
    refine ⟨fun g => ?_, fun g => ⟨by omega, z_cst_k cM, ?_⟩⟩
    · have := ih (h + 1) M (by omega) f (fun c hc => by rw [q c hc, st, g]; simp)
      rw [sx, g] at this
      simpa using this
    · have g : set.testBit h = true := by simpa using g
      refine k_cweightOf (by omega) cM.2.1 hE.1 hE.2.1 hE.2.2.1 hl (z_cst_g cM hl) (by omega) (fun M3 f3 => ?_)
      have F3 := z_cst_lw (o := 0) cM.1 f3
      intro x6 e6
      rw [q_add_eq (by omega)] at e6
      obtain ⟨at', ea⟩ : ∃ a : Nat, x6 = (a : Int) := ⟨x6.toNat, by omega⟩
      have hat : at' < 199 := by omega
      have v3 : M3 122 x6 = (z_ac o set l (z_wt o l (h : Int)) h : Int) := by
        rw [F3 122 (by decide), ea, q at' hat]
        congr 2
        omega
      have ac10 : z_ac o set l (z_wt o l (h : Int)) h ≤ h := z_cn_le
      rw [v3, q_add_eq (by omega)]
      refine ⟨by omega, by omega, fun M8 e8 => ⟨by omega, ?_⟩⟩
      have v8 : M8 122 x6 = (z_ac o set l (z_wt o l (h : Int)) (h + 1) : Int) := by
        rw [e8, q_up_s, st, g]
        simp
      rw [v8]
      refine k_max (by omega) ?_
      have := ih (h + 1) M8 (by omega) (z_cf_u (z_cf_tr f (z_cf_mono F3 (by decide))) e8 (by decide)) (fun c hc => ?_)
      · rw [sx, g, if_pos rfl] at this
        rw [show max ((z_mxn (fun h => if set.testBit h then z_ac o set l (z_wt o l (h : Int)) (h + 1) else 0) h : Nat) : Int) ((z_ac o set l (z_wt o l (h : Int)) (h + 1) : Nat) : Int) = ((max (z_mxn (fun h => if set.testBit h then z_ac o set l (z_wt o l (h : Int)) (h + 1) else 0) h) (z_ac o set l (z_wt o l (h : Int)) (h + 1)) : Nat) : Int) by omega]
        exact this
      · by_cases ce : (c : Int) = x6
        · rw [ce, v8]
          congr 2
          omega
        · rw [e8, q_up_n ce, F3 122 (by decide), q c hc, st, g]
          have : ¬ z_wt o l (h : Int) = (c : Int) - 99 := by omega
          simp [this]
theorem k_clr {d : Nat} {M : q_Mem} {K : Int → q_Mem → Prop}  (hd : 2 < d) (h : K 122 (z_fill M 122 0 199 0)) : q_kR yX8_clearedTally mX8_clearedTally d [qR 117] M K :=
  q_goR hd rfl (plainFor_of_name (by decide +kernel)) rfl (fun h => nomatch h) (Nat.le_of_ble_eq_true rfl) (fun d hd => bX8_clearedTally_0 (k_fill3 (by omega) (by decide +kernel) (by decide) (by decide) (by rw [show q_ln 122 = 3170 by decide +kernel]; decide) (by decide) h))
theorem k_cmostAlike {d : Nat} {M : q_Mem} {K : Int → q_Mem → Prop} {o : Int → Int} {l set : Nat} (hd : 5 < d) (hE : z_E o) (hc : z_cst M o) (hl : l < z_L o) (hs : set < 1024) (h : ∀ M', z_cf z_TL M M' → K (z_ma o set l : Int) M') : q_kI yX11_mostAlike mX11_mostAlike d [qR 1, qI (l : Int), qI (set : Int)] M K := by
  have f0 : z_cf z_TL M (z_fill M 122 0 199 0) := fun a ha => z_fill_o (fun e => ha (by rw [e]; decide))
  exact q_goI hd rfl (plainFor_of_name (by decide +kernel)) rfl (fun h => nomatch h) (Nat.le_of_ble_eq_true rfl) (fun d hd => bX11_mostAlike_0 _ _ (k_clr (by omega) (l_cma hd hE (z_cst_cf hc f0 (by decide) (by decide)) hl hs (fun M' f' => h M' (z_cf_tr f0 f')) 10 0 _ (by omega) z_cf_rf (fun c hc => by rw [z_fill_s (by omega)]; rfl))))
/-- the reference's -/
theorem z_cn_step {p : Nat → Bool} {n : Nat} : z_cn p (n + 1) = z_cn p n + if p n then 1 else 0 := rfl
theorem l_rma44 {d : Nat} {M : q_Mem} {K : Int → q_Mem → Prop} {o : Int → Int} {l set a : Nat} {x3 : Int} (hd : 1 ≤ d) (hs : set < 1024) (ha : a < 10) (hw : ∀ h : Nat, h < 10 → M 202 h = z_wt o l (h : Int))
    (hk : ∀ c : Int, c = ((if set.testBit a then z_ac o set l (z_wt o l (a : Int)) 10 else 0 : Nat) : Int) → q_v mX12_mostAlike d (qPI K) M 31 [some (qR 178), some (qI (set : Int)), none, some (qI (max x3 c)), some (qI (q_add (a : Int) 1)), none, none] []) :
    ∀ (j b : Nat), b + j = 10 → q_v mX12_mostAlike d (qPI K) M 44 [some (qR 178), some (qI (set : Int)), none, some (qI x3), some (qI (a : Int)), some (qI ((if set.testBit a then z_ac o set l (z_wt o l (a : Int)) b else 0 : Nat) : Int)), some (qI (b : Int))] [] := by
  intro j
  induction j with
  | zero =>
    intro b e
    have eb : b = 10 := by omega
    subst eb
    have := hk _ rfl
    refine bX12_mostAlike_44 _ _ _ _ _ ⟨fun _ => ⟨fun g => ?_, fun g => ?_⟩, fun g => absurd (by omega) g⟩
    · rw [Int.max_eq_left g] at this; exact this
    · rw [Int.max_eq_right (by omega)] at this; exact this
  | succ j ih =>
    intro b e
    have nx := ih (b + 1) (by omega)
    have st : z_ac o set l (z_wt o l (a : Int)) (b + 1) = z_ac o set l (z_wt o l (a : Int)) b + (if set.testBit b && decide (z_wt o l (b : Int) = z_wt o l (a : Int)) then 1 else 0) := rfl
    have le : z_ac o set l (z_wt o l (a : Int)) b ≤ b := z_cn_le
    refine bX12_mostAlike_44 _ _ _ _ _ ⟨fun g => absurd g (by omega), fun _ => ?_⟩
    rw [q_add_eq (a := (b : Int)) (by omega), show (b : Int) + 1 = ((b + 1 : Nat) : Int) by omega]
    refine k_isIn2 (by omega) (by omega) (by omega) (fun ga => ⟨fun q => absurd q (by decide), fun _ => ?_⟩) (fun ga => ⟨fun _ x5 e5 => ?_, fun q => absurd rfl q⟩)
    · rw [if_pos ga] at nx ⊢
      rw [st] at nx
      rw [q_add_eq (by omega), q_add_eq (by omega)]
      refine k_isIn2 (by omega) (by omega) (by omega) (fun gb => ⟨fun q => absurd q (by decide), fun _ => ⟨by omega, by omega, ?_⟩⟩) (fun gb => ⟨fun _ x5 e5 => ?_, fun q => absurd rfl q⟩)
      · rw [hw a ha, hw b (by omega)]
        refine ⟨fun g x5 e5 => ?_, fun g x5 e5 => ?_⟩
        · have : ¬ z_wt o l (b : Int) = z_wt o l (a : Int) := fun q => g q.symm
          rw [gb] at nx
          simp [this] at nx
          rw [e5]
          simpa using nx
        · rw [gb] at nx
          simp [g.symm] at nx
          rw [e5]
          simpa using nx
      · rw [gb] at nx
        simp at nx
        rw [e5]
        simpa using nx
    · rw [ga] at nx e5
      have e0 : x5 = 0 := e5.trans (show q_add 0 0 = 0 by decide +kernel)
      rw [e0]
      simpa using nx
theorem l_rma31 {d : Nat} {M : q_Mem} {K : Int → q_Mem → Prop} {o : Int → Int} {l set : Nat} (hd : 1 ≤ d) (hs : set < 1024) (hw : ∀ h : Nat, h < 10 → M 202 h = z_wt o l (h : Int)) (hk : K (z_ma o set l : Int) M) :
    ∀ (j a : Nat), a + j = 10 → q_v mX12_mostAlike d (qPI K) M 31 [some (qR 178), some (qI (set : Int)), none, some (qI (z_mxn (fun h => if set.testBit h then z_ac o set l (z_wt o l (h : Int)) 10 else 0) a : Int)), some (qI (a : Int)), none, none] [] := by
  intro j
  induction j with
  | zero =>
    intro a e
    have ea : a = 10 := by omega
    subst ea
    exact bX12_mostAlike_31 _ _ _ ⟨fun _ => hk, fun g => absurd (by omega) g⟩
  | succ j ih =>
    intro a e
    have nx := ih (a + 1) (by omega)
    have sx : z_mxn (fun h => if set.testBit h then z_ac o set l (z_wt o l (h : Int)) 10 else 0) (a + 1) = max (z_mxn (fun h => if set.testBit h then z_ac o set l (z_wt o l (h : Int)) 10 else 0) a) (if set.testBit a then z_ac o set l (z_wt o l (a : Int)) 10 else 0) := rfl
    refine bX12_mostAlike_31 _ _ _ ⟨fun g => absurd g (by omega), fun _ => ?_⟩
    have i0 := l_rma44 (x3 := (z_mxn (fun h => if set.testBit h then z_ac o set l (z_wt o l (h : Int)) 10 else 0) a : Int)) (K := K) hd hs (show a < 10 by omega) hw (fun c ec => by
      rw [q_add_eq (by omega), show (a : Int) + 1 = ((a + 1 : Nat) : Int) by omega, ec, show max ((z_mxn (fun h => if set.testBit h then z_ac o set l (z_wt o l (h : Int)) 10 else 0) a : Nat) : Int) ((if set.testBit a then z_ac o set l (z_wt o l (a : Int)) 10 else 0 : Nat) : Int) = ((max (z_mxn (fun h => if set.testBit h then z_ac o set l (z_wt o l (h : Int)) 10 else 0) a) (if set.testBit a then z_ac o set l (z_wt o l (a : Int)) 10 else 0) : Nat) : Int) by omega, ← sx]
      exact nx) 10 0 (by omega)
    have z0 : z_ac o set l (z_wt o l (a : Int)) 0 = 0 := rfl
    rw [z0] at i0
    simpa using i0
theorem l_rma2 {d : Nat} {M0 : q_Mem} {K : Int → q_Mem → Prop} {l set : Nat} (hd : 3 ≤ d) (hE : z_E (M0 179)) (hl : l < z_L (M0 179)) (hs : set < 1024) (hk : ∀ M', z_fr [185, 186, 202] [] M0 M' → K (z_ma (M0 179) set l : Int) M') :
    ∀ (j h : Nat) (M : q_Mem), h + j = 10 → z_fr [185, 186, 202] [] M0 M → (∀ k : Nat, k < h → M 202 k = z_wt (M0 179) l (k : Int)) → q_v mX12_mostAlike d (qPI K) M 2 [some (qR 178), some (qI (set : Int)), some (qI (l : Int)), some (qI (h : Int)), none, none, none] [] := by
  intro j
  induction j with
  | zero =>
    intro h M e f q
    have eh : h = 10 := by omega
    subst eh
    exact bX12_mostAlike_2 _ _ _ ⟨fun _ => l_rma31 (by omega) hs q (hk M f) 10 0 (by omega), fun g => absurd (by omega) g⟩
  | succ j ih =>
    intro h M e f q
    have o2 : M 179 = M0 179 := f.1 179 (by decide) (by decide)
    refine bX12_mostAlike_2 _ _ _ ⟨fun g => absurd g (by omega), fun _ => k_weightOf (by omega) (by rw [o2]; exact hE.1) (by rw [o2]; exact hE.2.1) (by rw [o2]; exact hE.2.2.1) (by rw [o2]; exact hl) (by omega) (fun M1 f1 => ⟨by omega, fun M4 e4 => ?_⟩)⟩
    rw [o2] at e4
    rw [q_add_eq (by omega), show (h : Int) + 1 = ((h + 1 : Nat) : Int) by omega]
    refine ih (h + 1) M4 (by omega) (z_fr_u (z_fr_tr f (z_fr_mono f1 (by decide) (by decide))) e4 (by decide) (by decide)) (fun k hk2 => ?_)
    rw [e4]
    by_cases c : k = h
    · subst c; rw [q_up_s]
    · rw [q_up_n (by omega), f1.1 202 (by decide) (by decide)]; exact q k (by omega)
theorem k_rmostAlike {d : Nat} {M : q_Mem} {K : Int → q_Mem → Prop} {l set : Nat} (hd : 3 < d) (hE : z_E (M 179)) (hl : l < z_L (M 179)) (hs : set < 1024) (h : ∀ M', z_fr [185, 186, 202] [] M M' → K (z_ma (M 179) set l : Int) M') : q_kI yX12_mostAlike mX12_mostAlike d [qR 178, qI (set : Int), qI (l : Int)] M K :=
  q_goI hd rfl (plainFor_of_name (by decide +kernel)) rfl (fun h => nomatch h) (Nat.le_of_ble_eq_true rfl) (fun d hd => bX12_mostAlike_0 _ _ (l_rma2 hd hE hl hs h 10 0 M (by omega) z_fr_rf (fun k hk => by omega)))
