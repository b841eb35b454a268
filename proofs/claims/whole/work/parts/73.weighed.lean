-- warmths by told weights, the link to ask
def z_vo (o : Int → Int) (v : Int) : Prop := 0 ≤ v ∧ v < 1000 * (z_L o : Int) ∧ 1 ≤ v % 1000 ∧ v % 1000 ≤ 199
def z_alb (p : Nat → Bool) : Nat → Bool
  | 0 => true
  | n + 1 => z_alb p n && p n
theorem z_alb_no {p : Nat → Bool} {i : Nat} : ∀ {n : Nat}, i < n → p i = false → z_alb p n = false
  | 0, h, _ => by omega
  | n + 1, h, g => by
    show (z_alb p n && p n) = false
    by_cases c : i = n
    · subst c; rw [g, Bool.and_false]
    · rw [z_alb_no (show i < n by omega) g, Bool.false_and]
theorem z_alb_congr {p q : Nat → Bool} : ∀ {n : Nat}, (∀ k, k < n → p k = q k) → z_alb p n = z_alb q n
  | 0, _ => rfl
  | n + 1, h => by
    show (z_alb p n && p n) = (z_alb q n && q n)
    rw [z_alb_congr (fun k hk => h k (by omega)), h n (by omega)]
def z_wq (o : Int → Int) (v : Nat → Int) (h : Nat) (i : Nat) : Bool := decide (z_wt o (v i / 1000).toNat (h : Int) = v i % 1000 - 100)
def z_wms (o : Int → Int) (v : Nat → Int) (m : Nat) : Nat := z_set (fun h => z_alb (z_wq o v h) m) 10
abbrev z_LW : List Int := [12, 13, 16, 17, 27, 28, 31, 32]
theorem z_cst_lw {M M' : q_Mem} {p o : Int} (h : p = 3 ∨ p = 18) (f : ∀ a, a ≠ p + 9 → a ≠ p + 10 → a ≠ p + 13 → a ≠ p + 14 → M' a = M a) : z_cf z_LW M M' := fun a ha => by
  have q1 : a ≠ 12 ∧ a ≠ 13 ∧ a ≠ 16 ∧ a ≠ 17 ∧ a ≠ 27 ∧ a ≠ 28 ∧ a ≠ 31 ∧ a ≠ 32 := by
    refine ⟨?_, ?_, ?_, ?_, ?_, ?_, ?_, ?_⟩ <;> (intro e; subst e; exact ha (by decide))
  rcases h with g | g <;> (rw [g] at f; exact f a (by omega) (by omega) (by omega) (by omega))
theorem z_IV_lw {S : List Int} {M M' : q_Mem} (h : z_IV M) (f : z_cf S M M') (hS : ∀ a ∈ S, (a = 12 ∨ a = 13 ∨ a = 16 ∨ a = 17 ∨ a = 27 ∨ a = 28 ∨ a = 31 ∨ a = 32) ∨ (119 ≤ a ∧ a ≤ 122)) : z_IV M' ∧ ∀ a, 178 ≤ a → M' a = M a := by
  have e : ∀ a, ¬ ((a = 12 ∨ a = 13 ∨ a = 16 ∨ a = 17 ∨ a = 27 ∨ a = 28 ∨ a = 31 ∨ a = 32) ∨ (119 ≤ a ∧ a ≤ 122)) → M' a = M a := fun a g => f a (fun q => g (hS a q))
  have q : z_qf M M' := ⟨fun a g1 g2 => e a (fun g => g2 (by unfold z_QP; omega)), fun k _ => by rw [e 1 (by omega)]⟩
  obtain ⟨hc, fr, ca⟩ := h.2.1
  exact ⟨z_IV_q h q (z_cst_qf hc q) (z_ca_eq h.1 ca (by rw [e 1 (by omega)]) (fun k a hk ha => e a (by unfold z_OP at ha; omega))), fun a ha => e a (by omega)⟩
theorem z_vo_q {o : Int → Int} (hn : z_net o) {v : Int} (h : z_vo o v) : q_l2i v = v ∧ q_div v 1000 = v / 1000 ∧ q_sub (q_rem v 1000) 100 = v % 1000 - 100 ∧ ((v / 1000).toNat : Int) = v / 1000 ∧ (v / 1000).toNat < z_L o ∧ 0 ≤ v / 1000 ∧ v / 1000 < z_L o := by
  have hL := z_net_L16 hn
  unfold z_vo at h
  refine ⟨q_l2i_eq (by unfold q_in32; omega), q_div_nn (by unfold q_in32; omega) (by unfold q_in32; decide) (by omega), ?_, by omega, by omega, by omega, by omega⟩
  rw [q_rem_nn (by unfold q_in32; omega) (by unfold q_in32; decide) (by omega) (by decide), q_sub_eq (by omega)]
/-- the class: whether a warmth weighs all so -/
theorem l_cis {d : Nat} {M0 : q_Mem} {K : Int → q_Mem → Prop} {o : Int → Int} {x : Int} {m h : Nat} (hd : 5 ≤ d) (hx : x = 161 ∨ x = 163 ∨ x = 165 ∨ x = 167) (hh : h < 10) (hE : z_E o) (hc : z_cst M0 o) (hm : M0 x 0 = (m : Int)) (hm8 : m ≤ 8) {v : Nat → Int} (hv : ∀ i : Nat, i < m → M0 (x + 1) i = v i) (ok : ∀ i, i < m → z_vo o (v i))
    (hk : ∀ M', z_cf z_LW M0 M' → K (if z_alb (z_wq o v h) m then 1 else 0) M') :
    ∀ (j i : Nat) (M : q_Mem), i + j = m → z_cf z_LW M0 M → z_alb (z_wq o v h) i = true → q_v mX11_isWeighedSo d (qPI K) M 2 [some (qR 1), some (qR x), some (qI (h : Int)), some (qI (i : Int)), none, none] [] := by
  have hL := z_net_L16 hE.1
  have kx : q_kd x = 9 := by rcases hx with rfl | rfl | rfl | rfl <;> decide +kernel
  have lx : q_lay x 2 = x + 1 := by rcases hx with rfl | rfl | rfl | rfl <;> decide +kernel
  have nx : x ∉ z_LW ∧ x + 1 ∉ z_LW := by rcases hx with rfl | rfl | rfl | rfl <;> decide
  intro j
  induction j with
  | zero =>
    intro i M e f q
    have ei : i = m := by omega
    subst ei
    have := hk M f
    rw [if_pos q] at this
    refine bX11_isWeighedSo_2 _ _ _ kx ?_
    rw [f x nx.1, hm]
    exact ⟨fun _ => this, fun g => absurd (by omega) g⟩
  | succ j ih =>
    intro i M e f q
    have cM := z_cst_cf hc f (by decide) (by decide)
    have vq := z_vo_q hE.1 (ok i (by omega))
    refine bX11_isWeighedSo_2 _ _ _ kx ?_
    rw [f x nx.1, hm, lx, f (x + 1) nx.2, hv i (by omega), vq.1]
    refine ⟨fun g => absurd g (by omega), fun _ => ⟨by omega, fun x4 e4 x5 e5 => ?_⟩⟩
    subst e4
    rw [vq.2.1] at e5
    rw [e5]
    refine k_hasLink (by omega) hE.1 cM (fun g1 g2 => ⟨fun q => absurd q (by decide), fun _ => ⟨by omega, z_cst_k cM, ?_⟩⟩) (fun g => absurd ⟨vq.2.2.2.2.2.1, vq.2.2.2.2.2.2⟩ g)
    rw [vq.2.2.1, ← vq.2.2.2.1]
    refine k_cweightOf (by omega) cM.2.1 hE.1 hE.2.1 hE.2.2.1 vq.2.2.2.2.1 (z_cst_g cM vq.2.2.2.2.1) (by omega) (fun M3 f3 => ?_)
    have F3 := z_cf_tr f (z_cst_lw (o := 0) cM.1 f3)
    rw [q_add_eq (by omega), show (i : Int) + 1 = ((i + 1 : Nat) : Int) by omega]
    refine ⟨fun g => ih (i + 1) M3 (by omega) F3 ?_, fun g => ?_⟩
    · show (z_alb (z_wq o v h) i && z_wq o v h i) = true
      rw [q]
      unfold z_wq
      simpa using g
    · have := hk M3 F3
      rw [z_alb_no (i := i) (by omega) (by unfold z_wq; simpa using g)] at this
      exact this
theorem l_cwb {d : Nat} {M0 : q_Mem} {K : Int → q_Mem → Prop} {o : Int → Int} {x : Int} {m : Nat} (hd : 6 ≤ d) (hx : x = 161 ∨ x = 163 ∨ x = 165 ∨ x = 167) (hE : z_E o) (hc : z_cst M0 o) (hm : M0 x 0 = (m : Int)) (hm8 : m ≤ 8) {v : Nat → Int} (hv : ∀ i : Nat, i < m → M0 (x + 1) i = v i) (ok : ∀ i, i < m → z_vo o (v i))
    (hk : ∀ M', z_cf z_LW M0 M' → K (z_wms o v m : Int) M') :
    ∀ (j h : Nat) (M : q_Mem), h + j = 10 → z_cf z_LW M0 M → q_v mX11_warmthsBy d (qPI K) M 4 [some (qR 1), some (qR x), some (qI (z_set (fun h => z_alb (z_wq o v h) m) h : Int)), some (qI (h : Int))] [] := by
  have kx : q_kd x = 9 := by rcases hx with rfl | rfl | rfl | rfl <;> decide +kernel
  have nx : x ∉ z_LW ∧ x + 1 ∉ z_LW := by rcases hx with rfl | rfl | rfl | rfl <;> decide
  intro j
  induction j with
  | zero =>
    intro h M e f
    have eh : h = 10 := by omega
    subst eh
    exact bX11_warmthsBy_4 _ _ _ kx ⟨fun _ => hk M f, fun g => absurd (by omega) g⟩
  | succ j ih =>
    intro h M e f
    have cM := z_cst_cf hc f (by decide) (by decide)
    have lt : z_set (fun h => z_alb (z_wq o v h) m) h < 1024 := Nat.lt_of_lt_of_le z_set_lt (by show 2 ^ h ≤ 2 ^ 10; exact Nat.pow_le_pow_right (by decide) (by omega))
    have ex : z_set (fun h => z_alb (z_wq o v h) m) (h + 1) = z_set (fun h => z_alb (z_wq o v h) m) h ||| (if z_alb (z_wq o v h) m then 2 ^ h else 0) := rfl
    refine bX11_warmthsBy_4 _ _ _ kx ⟨fun g => absurd g (by omega), fun _ => ?_⟩
    have hd0 : 5 < d := by omega
    refine q_goI hd0 rfl (plainFor_of_name (by decide +kernel)) rfl (fun h => nomatch h) (Nat.le_of_ble_eq_true rfl) (fun d hd => bX11_isWeighedSo_0 _ _ kx (l_cis hd hx (by omega) hE cM (by rw [f x nx.1]; exact hm) hm8 (fun i hi => by rw [f (x + 1) nx.2]; exact hv i hi) ok (fun M' f' => ?_) m 0 M (by omega) z_cf_rf rfl))
    have nx2 := ih (h + 1) M' (by omega) (z_cf_tr f f')
    rw [q_or1 (by omega) (by omega), q_add_eq (by omega), show (h : Int) + 1 = ((h + 1 : Nat) : Int) by omega]
    cases c : z_alb (z_wq o v h) m with
    | true =>
      rw [ex, c] at nx2
      refine ⟨fun q => absurd q (by decide), fun _ x2 e2 => ?_⟩
      rw [e2]; exact nx2
    | false =>
      rw [ex, c] at nx2
      refine ⟨fun _ => ?_, fun q => absurd rfl q⟩
      simpa using nx2
/-- told weights that are right -/
theorem l_crw {d : Nat} {M : q_Mem} {K : Int → q_Mem → Prop} {o : Int → Int} {x : Int} {m : Nat} (hx : x = 161 ∨ x = 163 ∨ x = 165 ∨ x = 167) (hE : z_E o) (hc : z_cst M o) (hm : M x 0 = (m : Int)) (hm8 : m ≤ 8) {v : Nat → Int} (hv : ∀ i : Nat, i < m → M (x + 1) i = v i) (h1 : (∀ i, i < m → z_vo o (v i)) → K 0 M) (h0 : ¬ (∀ i, i < m → z_vo o (v i)) → K (-3) M) :
    ∀ (j i : Nat), i + j = m → (∀ k, k < i → z_vo o (v k)) → q_v mX11_refusedWeighed d (qPI K) M 49 [some (qR 1), none, some (qR x), some (qI (i : Int)), none, none] [] := by
  have hL := z_net_L16 hE.1
  have kx : q_kd x = 9 := by rcases hx with rfl | rfl | rfl | rfl <;> decide +kernel
  have lx : q_lay x 2 = x + 1 := by rcases hx with rfl | rfl | rfl | rfl <;> decide +kernel
  intro j
  induction j with
  | zero =>
    intro i e q
    have ei : i = m := by omega
    subst ei
    refine bX11_refusedWeighed_49 _ _ kx ?_
    rw [hm]
    exact ⟨fun _ => h1 q, fun g => absurd (by omega) g⟩
  | succ j ih =>
    intro i e q
    have no : ¬ z_vo o (v i) → K (-3) M := fun g => h0 (fun q => g (q i (by omega)))
    refine qr_mem 49 (fun hM _ _ => ?_)
    refine bX11_refusedWeighed_49 _ _ kx ?_
    rw [hm, lx, hv i (by omega), z_cst_L hc hE.1, q_lmul_eq (by omega)]
    refine ⟨fun g => absurd g (by omega), fun _ => ⟨by omega, fun x4 e4 => ?_⟩⟩
    subst e4
    refine ⟨fun g => ?_, fun g => ⟨z_cst_k hc, fun g2 => ?_, fun g2 => ⟨fun g3 => ?_, fun g3 => ⟨fun g4 => ?_, fun g4 => ?_⟩⟩⟩⟩
    · rw [q_lcmp_lt] at g
      exact no (by unfold z_vo; omega)
    · rw [q_lcmp_ge] at g2
      exact no (by unfold z_vo; omega)
    · rw [q_lcmp_lt] at g
      rw [q_lcmp_ge] at g2
      rw [q_lrem_nn (by unfold q_in64; omega) (by unfold q_in64; decide) (by omega) (by decide), q_lcmp_lt] at g3
      exact no (by unfold z_vo; omega)
    · rw [q_lcmp_lt] at g
      rw [q_lcmp_ge] at g2
      rw [q_lrem_nn (by unfold q_in64; omega) (by unfold q_in64; decide) (by omega) (by decide)] at g3 g4
      rw [q_lcmp_lt] at g3
      rw [q_lcmp_le] at g4
      rw [q_add_eq (by omega), show (i : Int) + 1 = ((i + 1 : Nat) : Int) by omega]
      refine ih (i + 1) (by omega) (fun k hk => ?_)
      by_cases c : k = i
      · subst c; unfold z_vo; omega
      · exact q k (by omega)
    · rw [q_lcmp_lt] at g
      rw [q_lcmp_ge] at g2
      rw [q_lrem_nn (by unfold q_in64; omega) (by unfold q_in64; decide) (by omega) (by decide), q_lcmp_le] at g4
      exact no (by unfold z_vo; omega)
theorem z_trx {t : Nat} (h : t < 4) : (161 + 2 * (t : Int) = 161 ∨ 161 + 2 * (t : Int) = 163 ∨ 161 + 2 * (t : Int) = 165 ∨ 161 + 2 * (t : Int) = 167) := by omega
/-- refused or not: the same words for both -/
def z_tv (M : q_Mem) (t : Int) : Nat → Int := fun i => M 207 (40 * t + (i : Int))
def z_rfP (M : q_Mem) (t c : Int) : Prop := (¬ (0 ≤ t ∧ t < 4) ∧ c = -2) ∨ ((0 ≤ t ∧ t < 4) ∧ M 205 t = -1 ∧ c = -6) ∨ ((0 ≤ t ∧ t < 4) ∧ ¬ M 205 t = -1 ∧ ¬ (1 ≤ M 206 t ∧ M 206 t ≤ 8) ∧ c = -4) ∨ ((0 ≤ t ∧ t < 4) ∧ ¬ M 205 t = -1 ∧ (1 ≤ M 206 t ∧ M 206 t ≤ 8) ∧ ¬ (∀ i, i < (M 206 t).toNat → z_vo (M 179) (z_tv M t i)) ∧ c = -3) ∨ ((0 ≤ t ∧ t < 4) ∧ ¬ M 205 t = -1 ∧ (1 ≤ M 206 t ∧ M 206 t ≤ 8) ∧ (∀ i, i < (M 206 t).toNat → z_vo (M 179) (z_tv M t i)) ∧ c = 0)
theorem z_rfP_un {M : q_Mem} {t c c' : Int} (h : z_rfP M t c) (h' : z_rfP M t c') : c = c' := by
  rcases h with ⟨a, b⟩ | ⟨a, b, e⟩ | ⟨a, b, e, f⟩ | ⟨a, b, e, f, g⟩ | ⟨a, b, e, f, g⟩ <;> rcases h' with ⟨a', b'⟩ | ⟨a', b', e'⟩ | ⟨a', b', e', f'⟩ | ⟨a', b', e', f', g'⟩ | ⟨a', b', e', f', g'⟩ <;> first | omega | exact absurd a' a | exact absurd a a' | exact absurd b b' | exact absurd b' b | exact absurd e' e | exact absurd e e' | exact absurd f f' | exact absurd f' f
theorem c_refw {d : Nat} {M : q_Mem} {K : Int → q_Mem → Prop} {t : Int} (hd : 1 < d) (hR : z_IV M) (h : ∀ c, z_rfP M t c → K c M) : q_kI yX11_refusedWeighed mX11_refusedWeighed d [qR 1, qI t] M K := by
  have hY := hR.2.2.2.2.2.1
  refine q_goI hd rfl (plainFor_of_name (by decide +kernel)) rfl (fun h => nomatch h) (Nat.le_of_ble_eq_true rfl) (fun d hd => bX11_refusedWeighed_0 _ (k_hasTray (by omega) (fun g1 g2 => ⟨fun _ => ⟨by omega, fun x3 e3 => ?_⟩, fun q => absurd q (by decide)⟩) (fun g => ⟨fun q => absurd rfl q, fun _ => h _ (Or.inl ⟨g, rfl⟩)⟩)))
  obtain ⟨m, rfl⟩ : ∃ m : Nat, t = (m : Int) := ⟨t.toNat, by omega⟩
  have l := z_l89 m (by omega)
  rw [Int.toNat_natCast, l.1] at e3
  subst e3
  refine ⟨l.2.1, fun g4 => ?_, fun g4 => h _ (Or.inr (Or.inl ⟨⟨g1, g2⟩, Classical.byContradiction (fun q => g4 ((z_RY_0 hY (by omega)).mpr q)), rfl⟩))⟩
  have hp := (z_RY_0 hY (t := m) (by omega)).mp g4
  obtain ⟨mm, rm, m40, sz, so, sr, vs⟩ := z_RY_t hY (t := m) (by omega) hp
  rw [sz]
  refine ⟨fun g => h _ (Or.inr (Or.inr (Or.inl ⟨⟨g1, g2⟩, hp, by omega, rfl⟩))), fun g => ⟨fun g5 => ?_, fun g5 => h _ (Or.inr (Or.inr (Or.inl ⟨⟨g1, g2⟩, hp, by omega, rfl⟩)))⟩⟩
  have tm : (M 206 (m : Int)).toNat = mm := by rw [rm, Int.toNat_natCast]
  exact l_crw (o := M 179) (m := mm) (v := z_tv M m) (z_trx (by omega)) hR.1 hR.2.1.1 sz (by omega) (fun i hi => by rw [show (161 : Int) + 2 * (m : Int) + 1 = 162 + 2 * (m : Int) by omega]; exact vs i hi) (fun q => h _ (Or.inr (Or.inr (Or.inr (Or.inr ⟨⟨g1, g2⟩, hp, by omega, by rw [tm]; exact q, rfl⟩))))) (fun q => h _ (Or.inr (Or.inr (Or.inr (Or.inl ⟨⟨g1, g2⟩, hp, by omega, by rw [tm]; exact q, rfl⟩))))) mm 0 (by omega) (fun k hk => by omega)
