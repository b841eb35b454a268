-- lists
theorem l_clists {d : Nat} {M0 : q_Mem} {K : Int → q_Mem → Prop} {o : Int → Int} {t f n : Nat} (hd : 1 ≤ d) (ht : t < 4) (hE : z_E o) (hs : z_sh o M0) (hf : f < z_fm o) (hn : n ≤ 40) (hnz : n ≤ z_sz o f) (h : ∀ M', z_cf [162 + 2 * (t : Int)] M0 M' → (∀ j : Int, (n : Int) ≤ j → M' (162 + 2 * (t : Int)) j = M0 (162 + 2 * (t : Int)) j) → (∀ i : Nat, i < n → M' (162 + 2 * (t : Int)) i = (z_it (z_nx o 1) i (z_f1 o f) : Int)) → K (n : Int) M') :
    ∀ (j i : Nat) (M : q_Mem), i + j = n → z_cf [162 + 2 * (t : Int)] M0 M → (∀ j : Int, (n : Int) ≤ j → M (162 + 2 * (t : Int)) j = M0 (162 + 2 * (t : Int)) j) → (∀ k : Nat, k < i → M (162 + 2 * (t : Int)) k = (z_it (z_nx o 1) k (z_f1 o f) : Int)) → q_v mX11_lists d (qPI K) M 56 [some (qR 1), none, some (qI (f : Int)), some (qR (161 + 2 * (t : Int))), some (qI (n : Int)), some (qI (i : Int))] [] := by
  have l := z_l89 t ht
  have h16 := z_fm_16 hE.1 hE.2.2.2.2.2
  have b := z_szf hE hf
  intro j
  induction j with
  | zero =>
    intro i M e fr qe q
    have ei : i = n := by omega
    subst ei
    exact bX11_lists_56 _ _ _ _ l.2.1 ⟨fun _ => h M fr qe q, fun g => absurd (by omega) g⟩
  | succ j ih =>
    intro i M e fr qe q
    have o9 : ∀ a, a ≠ 162 + 2 * (t : Int) → M a = M0 a := fun a ha => fr a (by simpa using ha)
    have e9 := hs.2.1.2.2 f hf
    refine bX11_lists_56 _ _ _ _ l.2.1 ⟨fun g => absurd g (by omega), fun _ => ?_⟩
    refine k_cdartAt (o := o) (x := z_f1 o f) (sz := z_sz o f) (by omega) hE.1 hE.2.2.2.2.2 (fun e he => by rw [o9 92 (by omega)]; exact hs.1 e he) (by omega) (by rw [o9 94 (by omega)]; exact e9.1) (by rw [o9 95 (by omega)]; exact e9.2) b.2 b.1 (by omega) ?_
    rw [if_pos (by omega), Int.toNat_natCast, l.2.2, q_add_eq (by omega), show (i : Int) + 1 = ((i + 1 : Nat) : Int) by omega]
    refine ⟨by omega, fun M4 e4 => ih (i + 1) M4 (by omega) (z_cf_u fr e4 (by simp)) (fun j hj => by rw [e4, q_up_n (by omega)]; exact qe j hj) (fun k hk => ?_)⟩
    rw [e4]
    by_cases c : k = i
    · subst c; rw [q_up_s]
    · rw [q_up_n (by omega)]; exact q k (by omega)
theorem c_lists {d : Nat} {M : q_Mem} {K : Int → q_Mem → Prop} {t f : Int} (hd : 5 < d) (hR : z_IV M) (h2 : ¬ ((0 ≤ t ∧ t < 4) ∧ 0 ≤ f ∧ f < z_fm (M 179)) → ∀ M', z_IV M' → (∀ a, 178 ≤ a → M' a = M a) → K (-2) M') (h6 : ((0 ≤ t ∧ t < 4) ∧ 0 ≤ f ∧ f < z_fm (M 179)) → M 205 t = -1 → ∀ M', z_IV M' → (∀ a, 178 ≤ a → M' a = M a) → K (-6) M') (h1 : ((0 ≤ t ∧ t < 4) ∧ 0 ≤ f ∧ f < z_fm (M 179)) → ¬ M 205 t = -1 → ∀ (M1 M' : q_Mem) (n : Nat), z_IV M1 → (∀ a, 178 ≤ a → M1 a = M a) → z_cf [162 + 2 * t] M1 M' → (n : Int) = min (M 206 t) (z_sz (M 179) f.toNat) → (∀ j : Int, (n : Int) ≤ j → M' (162 + 2 * t) j = M1 (162 + 2 * t) j) → (∀ i : Nat, i < n → M' (162 + 2 * t) i = (z_it (z_nx (M 179) 1) i (z_f1 (M 179) f.toNat) : Int)) → K (n : Int) M') : q_kI yX11_lists mX11_lists d [qR 1, qI t, qI f] M K := by
  have hE := hR.1
  have hY := hR.2.2.2.2.2.1
  have h16 := z_fm_16 hE.1 hE.2.2.2.2.2
  refine q_goI hd rfl (plainFor_of_name (by decide +kernel)) rfl (fun h => nomatch h) (Nat.le_of_ble_eq_true rfl) (fun d hd => bX11_lists_0 _ _ (k_hasTray (by omega) (fun g1 g2 => ⟨fun q => absurd q (by decide), fun _ => R_hasFace (by omega) hR (fun M1 fr R1 f1 c1 a1 s1 => ?_)⟩) (fun g => ⟨fun _ => h2 (fun q => g q.1) M hR (fun _ _ => rfl), fun q => absurd rfl q⟩)))
  have hi : ∀ a, 178 ≤ a → M1 a = M a := fun a ha => z_qf_hi f1 ha
  obtain ⟨m, rfl⟩ : ∃ m : Nat, t = (m : Int) := ⟨t.toNat, by omega⟩
  have l := z_l89 m (by omega)
  refine ⟨fun g3 g4 => ⟨fun _ => ⟨by omega, fun x3 e3 => ?_⟩, fun q => absurd q (by decide)⟩, fun g => ⟨fun q => absurd rfl q, fun _ => h2 (fun q => g q.2) M1 R1 hi⟩⟩
  rw [Int.toNat_natCast, l.1] at e3
  subst e3
  have e161 : M1 (161 + 2 * (m : Int)) = M (161 + 2 * (m : Int)) := f1.1 _ (by omega) (by unfold z_QP; omega)
  rw [e161]
  refine ⟨l.2.1, fun g5 => ?_, fun g5 => h6 ⟨⟨g1, g2⟩, g3, g4⟩ (Classical.byContradiction (fun q => g5 ((z_RY_0 hY (by omega)).mpr q))) M1 R1 hi⟩
  have hp := (z_RY_0 hY (t := m) (by omega)).mp g5
  obtain ⟨mm, rm, m40, sz, so, sr, vs⟩ := z_RY_t hY (t := m) (by omega) hp
  obtain ⟨k, rfl⟩ : ∃ m : Nat, f = (m : Int) := ⟨f.toNat, by omega⟩
  rw [Int.toNat_natCast] at h1
  have b := z_szf hE (f := k) (by omega)
  have e9 := s1.2.1.2.2 k (by show k < z_fm (M 179); omega)
  rw [sz, show M1 95 (k : Int) = (z_sz (M 179) k : Int) from e9.2]
  rw [rm] at h1
  refine ⟨by omega, k_min (by omega) ?_⟩
  rw [show min (mm : Int) (z_sz (M 179) k : Int) = ((min mm (z_sz (M 179) k) : Nat) : Int) by omega] at h1 ⊢
  exact l_clists (M0 := M1) (o := M 179) (n := min mm (z_sz (M 179) k)) (by omega) (by omega) hE s1 (by omega) (by omega) (Nat.min_le_right _ _) (fun M' f' w' v' => h1 ⟨⟨g1, g2⟩, g3, g4⟩ hp M1 M' _ R1 hi f' rfl w' v') _ 0 M1 (Nat.zero_add _) z_cf_rf (fun _ _ => rfl) (fun k hk => by omega)
theorem l_rlists {d : Nat} {M0 : q_Mem} {K : Int → q_Mem → Prop} {t f n x : Nat} (hd : 3 ≤ d) (ht : t < 4) (hE : z_E (M0 179)) (hf : f < 16) (hx : M0 189 f = (x : Int)) (hx2 : x < 2 * z_L (M0 179)) (hn : n ≤ 40) (h : ∀ M', z_fr [207] [] M0 M' → (∀ j : Int, ¬ (40 * (t : Int) ≤ j ∧ j < 40 * (t : Int) + 40) → M' 207 j = M0 207 j) → (∀ j : Int, 40 * (t : Int) + n ≤ j → M' 207 j = M0 207 j) → (∀ i : Nat, i < n → M' 207 (40 * (t : Int) + i) = (z_it (z_nx (M0 179) 1) i x : Int)) → K (n : Int) M') :
    ∀ (j i : Nat) (M : q_Mem), i + j = n → z_fr [207] [] M0 M → (∀ j : Int, ¬ (40 * (t : Int) ≤ j ∧ j < 40 * (t : Int) + 40) → M 207 j = M0 207 j) → (∀ j : Int, 40 * (t : Int) + n ≤ j → M 207 j = M0 207 j) → (∀ k : Nat, k < i → M 207 (40 * (t : Int) + k) = (z_it (z_nx (M0 179) 1) k x : Int)) → q_v mX12_lists d (qPI K) M 80 [some (qR 178), some (qI (t : Int)), some (qI (f : Int)), some (qI (n : Int)), some (qI (i : Int))] [] := by
  intro j
  induction j with
  | zero =>
    intro i M e fr o o2 q
    have ei : i = n := by omega
    subst ei
    exact bX12_lists_80 _ _ _ _ ⟨fun _ => h M fr o o2 q, fun g => absurd (by omega) g⟩
  | succ j ih =>
    intro i M e fr o o2 q
    have oM : M 179 = M0 179 := fr.1 179 (by decide) (by decide)
    refine bX12_lists_80 _ _ _ _ ⟨fun g => absurd g (by omega), fun _ => k_dartAt (x := x) (by omega) (by rw [oM]; exact hE.1) (by rw [oM]; exact hE.2.2.2.2.2) hf (by rw [fr.1 189 (by decide) (by decide)]; exact hx) (by rw [oM]; exact hx2) (by omega) ?_⟩
    rw [oM, q_mul_eq (by omega), q_add_eq (by omega), q_add_eq (by omega), show (i : Int) + 1 = ((i + 1 : Nat) : Int) by omega]
    refine ⟨by omega, fun M4 e4 => ih (i + 1) M4 (by omega) (z_fr_u fr e4 (by decide) (by decide)) (fun j hj => ?_) (fun j hj => ?_) (fun k hk => ?_)⟩
    · rw [e4, q_up_n (by omega)]; exact o j hj
    · rw [e4, q_up_n (by omega)]; exact o2 j hj
    · rw [e4]
      by_cases c : k = i
      · subst c; rw [q_up_s]
      · rw [q_up_n (by omega)]; exact q k (by omega)
abbrev z_LF : List Int := [188, 189, 190, 207]
theorem r_lists {d : Nat} {M : q_Mem} {K : Int → q_Mem → Prop} {t f : Int} (hd : 4 < d) (hE : z_E (M 179)) (hm : 0 ≤ t → t < 4 → ¬ M 205 t = -1 → 0 ≤ M 206 t ∧ M 206 t ≤ 40) (h2 : ¬ ((0 ≤ t ∧ t < 4) ∧ 0 ≤ f ∧ f < z_fm (M 179)) → ∀ M', z_fr [188, 189, 190] [0, 25] M M' → K (-2) M') (h6 : ((0 ≤ t ∧ t < 4) ∧ 0 ≤ f ∧ f < z_fm (M 179)) → M 205 t = -1 → ∀ M', z_fr [188, 189, 190] [0, 25] M M' → K (-6) M') (h1 : ((0 ≤ t ∧ t < 4) ∧ 0 ≤ f ∧ f < z_fm (M 179)) → ¬ M 205 t = -1 → ∀ (M' : q_Mem) (n : Nat), z_fr z_LF [0, 25] M M' → (n : Int) = min (M 206 t) (z_sz (M 179) f.toNat) → (∀ j : Int, ¬ (40 * t ≤ j ∧ j < 40 * t + 40) → M' 207 j = M 207 j) → (∀ j : Int, 40 * t + n ≤ j → M' 207 j = M 207 j) → (∀ i : Nat, i < n → M' 207 (40 * t + i) = (z_it (z_nx (M 179) 1) i (z_f1 (M 179) f.toNat) : Int)) → K (n : Int) M') : q_kI yX12_lists mX12_lists d [qR 178, qI t, qI f] M K := by
  have h16 := z_fm_16 hE.1 hE.2.2.2.2.2
  refine q_goI hd rfl (plainFor_of_name (by decide +kernel)) rfl (fun h => nomatch h) (Nat.le_of_ble_eq_true rfl) (fun d hd => bX12_lists_0 _ _ (fun M1 e1 => ?_))
  have f1 : z_fr [] [0] M M1 := by rw [e1]; exact z_fr_f (by decide)
  have o1 : M1 179 = M 179 := f1.1 179 (by decide) (by decide)
  refine k_laysFaces (by omega) (by rw [o1]; exact hE.1) (by rw [o1]; exact hE.2.2.2.2.2) (fun M6 f6 q6 => ?_)
  have o6 : M6 179 = M 179 := (f6.1 179 (by decide) (by decide)).trans o1
  have F6 : z_fr [188, 189, 190] [0, 25] M M6 := z_fr_tr (z_fr_mono f1 (by decide) (by decide)) (z_fr_mono f6 (by decide) (by decide))
  rw [o1] at q6
  have e205 : M6 205 = M 205 := F6.1 205 (by decide) (by decide)
  have e206 : M6 206 = M 206 := F6.1 206 (by decide) (by decide)
  refine k_within (by omega) (fun g1 g2 => ⟨fun q => absurd q (by decide), fun _ => k_isFace (c := z_fm (M 179)) (by omega) q6.1 h16 (fun g3 g4 => ⟨fun _ => ⟨by omega, ?_⟩, fun q => absurd q (by decide)⟩) (fun g => ⟨fun q => absurd rfl q, fun _ => h2 (fun q => g q.2) M6 F6⟩)⟩) (fun g => ⟨fun _ => h2 (by omega) M6 F6, fun q => absurd rfl q⟩)
  rw [e205, e206]
  refine ⟨fun g => ⟨by omega, by omega, ?_⟩, fun g => h6 (by omega) g M6 F6⟩
  have hm := hm g1 (by omega) g
  obtain ⟨m, rfl⟩ : ∃ m : Nat, t = (m : Int) := ⟨t.toNat, by omega⟩
  obtain ⟨k, rfl⟩ : ∃ m : Nat, f = (m : Int) := ⟨f.toNat, by omega⟩
  obtain ⟨mm, rm⟩ : ∃ mm : Nat, M 206 (m : Int) = (mm : Int) := ⟨(M 206 (m : Int)).toNat, by omega⟩
  rw [Int.toNat_natCast, rm] at h1
  have b := z_szf hE (f := k) (by omega)
  have e9 := q6.2.2 k (by show k < z_fm (M 179); omega)
  rw [rm, show M6 190 (k : Int) = (z_sz (M 179) k : Int) from e9.2]
  have go : ∀ n : Nat, (n : Int) = min (mm : Int) (z_sz (M 179) k : Int) → q_v mX12_lists d (qPI K) M6 80 [some (qR 178), some (qI (m : Int)), some (qI (k : Int)), some (qI (n : Int)), some (qI 0)] [] := fun n hn => by
    refine l_rlists (M0 := M6) (n := n) (x := z_f1 (M 179) k) (by omega) (by omega) (by rw [o6]; exact hE) (by omega) e9.1 (by rw [o6]; exact b.2) (by omega) (fun M' f' oo oo2 v' => ?_) n 0 M6 (by omega) z_fr_rf (fun _ _ => rfl) (fun _ _ => rfl) (fun k hk => by omega)
    rw [o6] at v'
    have e207 : M6 207 = M 207 := F6.1 207 (by decide) (by decide)
    exact h1 (by omega) g M' n (z_fr_tr (z_fr_mono F6 (by decide) (by decide)) (z_fr_mono f' (by decide) (by decide))) hn (fun j hj => by rw [oo j hj, e207]) (fun j hj => by rw [oo2 j hj, e207]) v'
  refine ⟨fun q => ⟨by omega, fun x3 e3 => ?_⟩, fun q => ⟨by omega, fun x3 e3 => ?_⟩⟩
  · rw [e3]; exact go mm (by omega)
  · rw [e3]; exact go (z_sz (M 179) k) (by omega)
theorem tt_lists {d : Nat} {M : q_Mem} {K : Int → Int → q_Mem → Prop} {t f : Int} (hd : 60 < d) (hR : z_IV M) (h : ∀ v M', z_IV M' → K v v M') : q_kI yX11_lists mX11_lists d [qR 1, qI t, qI f] M (fun v M1 => q_kI yX12_lists mX12_lists d [qR 178, qI t, qI f] M1 (fun v2 M2 => K v v2 M2)) :=
  c_lists (by omega) hR (fun g M1 R1 hi => r_lists (by omega) R1.1 (z_hiM R1 (fun _ _ => rfl)) (fun _ M' f' => h _ M' (z_IV_r R1 f' (by decide) (by decide))) (fun q => by rw [hi 179 (by decide)] at q; exact absurd q g) (fun q => by rw [hi 179 (by decide)] at q; exact absurd q g)) (fun g g6 M1 R1 hi => r_lists (by omega) R1.1 (z_hiM R1 (fun _ _ => rfl)) (fun q => by rw [hi 179 (by decide)] at q; exact absurd g q) (fun _ _ M' f' => h _ M' (z_IV_r R1 f' (by decide) (by decide))) (fun _ q => by rw [hi 205 (by decide)] at q; exact absurd g6 q)) (fun g g6 M1 M' n R1 hi f1 hn w1 v1 => by
    obtain ⟨m, rfl⟩ : ∃ m : Nat, t = (m : Int) := ⟨t.toNat, by omega⟩
    have oo : ∀ a, a ≠ 162 + 2 * (m : Int) → M' a = M1 a := fun a ha => f1 a (by simpa using ha)
    have hi' : ∀ a, 178 ≤ a → M' a = M a := fun a ha => (oo a (by omega)).trans (hi a ha)
    have g6' : ¬ M1 205 (m : Int) = -1 := by rw [hi 205 (by decide)]; exact g6
    obtain ⟨mm, rm, m40, sz, so, sr, vs⟩ := z_RY_t R1.2.2.2.2.2.1 (t := m) (by omega) g6'
    refine r_lists (by omega) (by rw [hi' 179 (by decide)]; exact hR.1) (z_hiM hR hi') (fun q => by rw [hi' 179 (by decide)] at q; exact absurd g q) (fun _ q => by rw [hi' 205 (by decide)] at q; exact absurd q g6) (fun _ _ M2 n2 f2 hn2 o2 oe v2 => ?_)
    rw [hi' 206 (by decide), hi' 179 (by decide)] at hn2
    rw [hi' 179 (by decide)] at v2
    have en : n2 = n := by omega
    subst en
    have e2 : ∀ a, a < 178 → M2 a = M' a := fun a ha => f2.1 a (by simp; omega) (by omega)
    have e3 : ∀ a, 178 ≤ a → a ≠ 178 → a ∉ z_LF → M2 a = M1 a := fun a ha a8 aS => (f2.1 a aS a8).trans (oo a (by omega))
    have e25 : M2 205 = M1 205 := e3 205 (by decide) (by decide) (by decide)
    have e26 : M2 206 = M1 206 := e3 206 (by decide) (by decide) (by decide)
    have s78 : M' 178 = M1 178 := oo 178 (by omega)
    refine h _ M2 (z_IV_t R1 (fun k _ => by rw [e2 1 (by decide), oo 1 (by omega)]) (fun a _ a1 _ a2 => (e2 a a1).trans (oo a (by omega))) (z_RC_tr R1.2.1 R1.1 (fun a a1 a2 => (e2 a a2).trans (oo a (by omega)))) (e3 179 (by decide) (by decide) (by decide)) (e3 180 (by decide) (by decide) (by decide)) (e3 181 (by decide) (by decide) (by decide)) ((f2.2 7 (by decide)).trans (by rw [s78])) ((f2.2 15 (by decide)).trans (by rw [s78])) ((f2.2 16 (by decide)).trans (by rw [s78])) ?_)
    refine z_RY_up R1.2.2.2.2.2.1 (t := m) (by omega) (fun a a1 a2 a3 a4 => (e2 a (by omega)).trans (oo a a4)) (fun j hj => by rw [e25]) (fun j hj => by rw [e26]) (fun j hj => by rw [o2 j hj, hi' 207 (by decide), hi 207 (by decide)]) ?_
    rw [e25, e26, e2 _ (by omega), e2 _ (by omega), oo (161 + 2 * (m : Int)) (by omega), rm]
    refine ⟨sr, by omega, sz, so, fun k hk => ?_⟩
    by_cases c : k < n2
    · rw [v1 k c, v2 k c]
    · rw [oe _ (by omega), hi' 207 (by decide), ← hi 207 (by decide), ← vs k (by omega)]
      exact w1 k (by omega))
