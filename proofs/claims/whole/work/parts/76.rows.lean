-- trays made, written, filled
theorem z_IV_t {M M2 : q_Mem} (h : z_IV M) (e1 : ∀ k, k ≠ 18 → M2 1 k = M 1 k) (e : ∀ a, a ≠ 1 → a < 178 → ¬ z_QP a → ¬ (161 ≤ a ∧ a ≤ 168) → M2 a = M a) (rc : z_RC M2 (M 179)) (s1 : M2 179 = M 179) (s2 : M2 180 = M 180) (s3 : M2 181 = M 181) (s7 : M2 178 7 = M 178 7) (s8 : M2 178 15 = M 178 15) (s9 : M2 178 16 = M 178 16) (ry : z_RY M2 (M2 205) (M2 206) (M2 207)) : z_IV M2 := by
  obtain ⟨h1, h2, h3, h4, h5, h6, h7, h8⟩ := h
  refine ⟨by rw [s1]; exact h1, by rw [s1]; exact rc, by rw [e1 5 (by decide), e1 4 (by decide)]; exact h3, ?_, ?_, ry, ?_, ?_⟩
  · rw [s1]; exact z_hs_eq h4 (fun a g1 g2 => e a (by omega) (by omega) (by unfold z_QP; omega) (by omega))
  · rw [s1, s2]; exact z_RI_eq h5 (fun a g1 g2 => e a (by omega) (by omega) (by unfold z_QP; omega) (by omega))
  · rw [s7, s3]; exact z_RP_eq h7 (e1 1 (by decide)) (e 2 (by decide) (by decide) (by unfold z_QP; omega) (by decide))
  · rw [s8, s9, e1 2 (by decide), e1 3 (by decide)]; exact h8
theorem z_RC_tr {M M' : q_Mem} {o : Int → Int} (h : z_RC M o) (hE : z_E o) (e : ∀ a, ¬ (161 ≤ a ∧ a ≤ 168) → a < 178 → M' a = M a) : z_RC M' o := by
  obtain ⟨c, fr, ca⟩ := h
  refine ⟨z_cst_eq c (by rw [e 1 (by omega) (by omega)]) (fun a ha => ?_), fr, z_ca_eq hE ca (by rw [e 1 (by omega) (by omega)]) (fun k a hk ha => e a (by unfold z_OP at ha; omega) (by unfold z_OP at ha; omega))⟩
  have : ∀ b ∈ z_CO, b < 53 := by decide
  have := this a ha
  exact e a (by omega) (by omega)
/-- one tray has changed, in both -/
theorem z_RY_up {M M2 : q_Mem} (h : z_RY M (M 205) (M 206) (M 207)) {t : Nat} (ht : t < 4) (e : ∀ a, 161 ≤ a → a ≤ 168 → a ≠ 161 + 2 * (t : Int) → a ≠ 162 + 2 * (t : Int) → M2 a = M a) (r5 : ∀ j : Int, j ≠ (t : Int) → M2 205 j = M 205 j) (r6 : ∀ j : Int, j ≠ (t : Int) → M2 206 j = M 206 j) (r7 : ∀ j : Int, ¬ (40 * (t : Int) ≤ j ∧ j < 40 * (t : Int) + 40) → M2 207 j = M 207 j)
    (n : (0 ≤ M2 205 t ∧ M2 205 t ≤ 3) ∧ (0 ≤ M2 206 t ∧ M2 206 t ≤ 40) ∧ M2 (161 + 2 * (t : Int)) 0 = M2 206 t ∧ M2 (161 + 2 * (t : Int)) 1 = M2 205 t ∧ ∀ i : Nat, (i : Int) < M2 206 t → M2 (162 + 2 * (t : Int)) i = M2 207 (40 * (t : Int) + i)) : z_RY M2 (M2 205) (M2 206) (M2 207) := by
  intro u hu
  by_cases c : u = t
  · subst c; exact Or.inr n
  · rw [e (161 + 2 * (u : Int)) (by omega) (by omega) (by omega) (by omega), e (162 + 2 * (u : Int)) (by omega) (by omega) (by omega) (by omega), r5 u (by omega), r6 u (by omega)]
    rcases h u hu with ⟨a, b⟩ | ⟨a, b, c1, d, f⟩
    · exact Or.inl ⟨a, b⟩
    · exact Or.inr ⟨a, b, c1, d, fun i hi => by rw [r7 _ (by omega)]; exact f i hi⟩
/-- numbers -/
theorem c_numbers {d : Nat} {M : q_Mem} {K : Int → q_Mem → Prop} {t s n : Int} (hd : 2 < d) (h2 : ¬ ((0 ≤ t ∧ t < 4) ∧ 0 ≤ s ∧ s ≤ 3) → K (-2) M) (h3 : ((0 ≤ t ∧ t < 4) ∧ 0 ≤ s ∧ s ≤ 3) → ¬ (0 ≤ n ∧ n ≤ 40) → K (-3) M) (h1 : ((0 ≤ t ∧ t < 4) ∧ 0 ≤ s ∧ s ≤ 3) → (0 ≤ n ∧ n ≤ 40) → ∀ M', z_cf [161 + 2 * t, 162 + 2 * t] M M' → M' (161 + 2 * t) 0 = n → M' (161 + 2 * t) 1 = s → (∀ i : Int, 0 ≤ i → i < 40 → M' (162 + 2 * t) i = 0) → K 0 M') : q_kI yX11_numbers mX11_numbers d [qR 1, qI t, qI s, qI n] M K := by
  refine q_goI hd rfl (plainFor_of_name (by decide +kernel)) rfl (fun h => nomatch h) (Nat.le_of_ble_eq_true rfl) (fun d hd => bX11_numbers_0 _ _ _ (k_hasTray (by omega) (fun g1 g2 => ⟨fun q => absurd q (by decide), fun _ => ⟨fun g => h2 (by omega), fun g => ⟨fun g3 => ⟨fun g4 => h3 (by omega) (by omega), fun g4 => ⟨fun g5 => ⟨by omega, ?_⟩, fun g5 => h3 (by omega) (by omega)⟩⟩, fun g3 => h2 (by omega)⟩⟩⟩) (fun g => ⟨fun _ => h2 (fun q => g q.1), fun q => absurd rfl q⟩)))
  obtain ⟨m, rfl⟩ : ∃ m : Nat, t = (m : Int) := ⟨t.toNat, by omega⟩
  have l := z_l89 m (by omega)
  have kd15 : ∀ m : Nat, m < 4 → q_kd (162 + 2 * (m : Int)) = 15 ∧ q_ln (162 + 2 * (m : Int)) = 40 := by decide +kernel
  have k5 := kd15 m (by omega)
  rw [Int.toNat_natCast, l.1]
  refine ⟨l.2.1, ?_⟩
  have hd1 : 1 < d := by omega
  refine q_goU hd1 rfl (plainFor_of_name (by decide +kernel)) rfl (fun h => nomatch h) (Nat.le_of_ble_eq_true rfl) (fun d hd => bX9_remake_0 _ _ _ l.2.1 (fun M1 e1 M2 e2 => ?_))
  rw [l.2.2]
  refine k_fillL 40 (by omega) k5.1 k5.2 (by decide) ?_
  refine h1 (by omega) (by omega) _ (fun a ha => ?_) ?_ ?_ (fun i i0 i4 => z_fill_s (by omega))
  · have a1 : a ≠ 161 + 2 * (m : Int) := fun e => ha (by simp [e])
    have a2 : a ≠ 162 + 2 * (m : Int) := fun e => ha (by simp [e])
    rw [z_fill_o a2, e2, q_up_o a1, e1, q_up_o a1]
  · rw [z_fill_o (by omega), e2, q_up_s]
  · rw [z_fill_o (by omega), e2, q_up_n (by decide), e1, q_up_s]
theorem l_rnum {d : Nat} {M0 : q_Mem} {K : Int → q_Mem → Prop} {t n : Nat} (ht : t < 4) (hn : n ≤ 40) (h : ∀ M', z_fr [207] [] M0 M' → (∀ k : Nat, k < n → M' 207 (40 * (t : Int) + k) = 0) → (∀ j : Int, ¬ (40 * (t : Int) ≤ j ∧ j < 40 * (t : Int) + 40) → M' 207 j = M0 207 j) → K 0 M') :
    ∀ (j i : Nat) (M : q_Mem), i + j = n → z_fr [207] [] M0 M → (∀ k : Nat, k < i → M 207 (40 * (t : Int) + k) = 0) → (∀ j : Int, ¬ (40 * (t : Int) ≤ j ∧ j < 40 * (t : Int) + 40) → M 207 j = M0 207 j) → q_v mX12_numbers d (qPI K) M 64 [some (qR 178), some (qI (t : Int)), none, some (qI (n : Int)), some (qI (i : Int))] [] := by
  intro j
  induction j with
  | zero =>
    intro i M e f q q2
    have ei : i = n := by omega
    subst ei
    exact bX12_numbers_64 _ _ _ ⟨fun _ => h M f q q2, fun g => absurd (by omega) g⟩
  | succ j ih =>
    intro i M e f q q2
    refine bX12_numbers_64 _ _ _ ⟨fun g => absurd g (by omega), fun _ => ?_⟩
    rw [q_mul_eq (by omega), q_add_eq (by omega), q_add_eq (by omega), show (i : Int) + 1 = ((i + 1 : Nat) : Int) by omega]
    refine ⟨by omega, fun M2 e2 => ih (i + 1) M2 (by omega) (z_fr_u f e2 (by decide) (by decide)) (fun k hk => ?_) (fun j hj => ?_)⟩
    · rw [e2]
      by_cases c : k = i
      · subst c; rw [q_up_s]
      · rw [q_up_n (by omega)]; exact q k (by omega)
    · rw [e2, q_up_n (by omega)]; exact q2 j hj
theorem r_numbers {d : Nat} {M : q_Mem} {K : Int → q_Mem → Prop} {t s n : Int} (hd : 1 < d) (h2 : ¬ ((0 ≤ t ∧ t < 4) ∧ 0 ≤ s ∧ s ≤ 3) → ∀ M', z_fr [] [0] M M' → K (-2) M') (h3 : ((0 ≤ t ∧ t < 4) ∧ 0 ≤ s ∧ s ≤ 3) → ¬ (0 ≤ n ∧ n ≤ 40) → ∀ M', z_fr [] [0] M M' → K (-3) M') (h1 : ((0 ≤ t ∧ t < 4) ∧ 0 ≤ s ∧ s ≤ 3) → (0 ≤ n ∧ n ≤ 40) → ∀ M', z_fr [205, 206, 207] [0] M M' → M' 205 = z_put (M 205) t s → M' 206 = z_put (M 206) t n → (∀ k : Nat, (k : Int) < n → M' 207 (40 * t + k) = 0) → (∀ j : Int, ¬ (40 * t ≤ j ∧ j < 40 * t + 40) → M' 207 j = M 207 j) → K 0 M') : q_kI yX12_numbers mX12_numbers d [qR 178, qI t, qI s, qI n] M K := by
  refine q_goI hd rfl (plainFor_of_name (by decide +kernel)) rfl (fun h => nomatch h) (Nat.le_of_ble_eq_true rfl) (fun d hd => bX12_numbers_0 _ _ _ (fun M1 e1 => ?_))
  have f1 : z_fr [] [0] M M1 := by rw [e1]; exact z_fr_f (by decide)
  refine k_within (by omega) (fun g1 g2 => ⟨fun q => absurd q (by decide), fun _ => k_within (by omega) (fun g3 g4 => ⟨fun _ => k_within (by omega) (fun g5 g6 => ⟨fun _ => ⟨by omega, fun M9 e9 => ⟨by omega, fun M11 e11 => ?_⟩⟩, fun q => absurd q (by decide)⟩) (fun g => ⟨fun q => absurd rfl q, fun _ => h3 (by omega) g M1 f1⟩), fun q => absurd q (by decide)⟩) (fun g => ⟨fun q => absurd rfl q, fun _ => h2 (fun q => g q.2) M1 f1⟩)⟩) (fun g => ⟨fun _ => h2 (by omega) M1 f1, fun q => absurd rfl q⟩)
  obtain ⟨m, rfl⟩ : ∃ m : Nat, t = (m : Int) := ⟨t.toNat, by omega⟩
  obtain ⟨k, rfl⟩ : ∃ m : Nat, n = (m : Int) := ⟨n.toNat, by omega⟩
  have f11 : z_fr [205, 206, 207] [0] M M11 := z_fr_u (z_fr_u (z_fr_mono f1 (by decide) (by decide)) e9 (by decide) (by decide)) e11 (by decide) (by decide)
  have e207 : M11 207 = M 207 := by rw [e11, q_up_o (by decide), e9, q_up_o (by decide), f1.1 207 (by decide) (by decide)]
  refine l_rnum (M0 := M11) (n := k) (by omega) (by omega) (fun M' f' q' q2' => ?_) k 0 M11 (by omega) z_fr_rf (fun k hk => by omega) (fun _ _ => rfl)
  refine h1 (by omega) (by omega) M' (z_fr_tr f11 (z_fr_mono f' (by decide) (by decide))) ?_ ?_ (fun i hi => q' i (by omega)) (fun j hj => by rw [q2' j hj, e207])
  · rw [f'.1 205 (by decide) (by decide), e11, q_up_o (by decide), e9, z_upP, f1.1 205 (by decide) (by decide)]
  · rw [f'.1 206 (by decide) (by decide), e11, z_upP, e9, q_up_o (by decide), f1.1 206 (by decide) (by decide)]
theorem z_trn {S : List Int} {M M1 : q_Mem} (hR : z_IV M) {t : Nat} (ht : t < 4) (f : z_cf [161 + 2 * (t : Int), 162 + 2 * (t : Int)] M M1) : (∀ a, ¬ (161 ≤ a ∧ a ≤ 168) → M1 a = M a) ∧ (∀ a, a ≠ 161 + 2 * (t : Int) → a ≠ 162 + 2 * (t : Int) → M1 a = M a) :=
  ⟨fun a g => f a (by simp; omega), fun a g1 g2 => f a (by simp [g1, g2])⟩
theorem tt_numbers {d : Nat} {M : q_Mem} {K : Int → Int → q_Mem → Prop} {t s n : Int} (hd : 60 < d) (hR : z_IV M) (h : ∀ v M', z_IV M' → K v v M') : q_kI yX11_numbers mX11_numbers d [qR 1, qI t, qI s, qI n] M (fun v M1 => q_kI yX12_numbers mX12_numbers d [qR 178, qI t, qI s, qI n] M1 (fun v2 M2 => K v v2 M2)) :=
  c_numbers (by omega) (fun g => r_numbers (by omega) (fun _ M' f' => h _ M' (z_IV_r hR f' (by decide) (by decide))) (fun q => absurd q g) (fun q => absurd q g)) (fun g g3 => r_numbers (by omega) (fun q => absurd g q) (fun _ _ M' f' => h _ M' (z_IV_r hR f' (by decide) (by decide))) (fun _ q => absurd q g3)) (fun g g3 M1 f1 z1 o1 v1 => r_numbers (by omega) (fun q => absurd g q) (fun _ q => absurd g3 q) (fun _ _ M2 f2 e5 e6 v2 o2 => by
    obtain ⟨m, rfl⟩ : ∃ m : Nat, t = (m : Int) := ⟨t.toNat, by omega⟩
    have q1 := z_trn (S := []) hR (t := m) (by omega) f1
    have hi : ∀ a, 178 ≤ a → M1 a = M a := fun a ha => q1.1 a (by omega)
    have e2 : ∀ a, a < 178 → M2 a = M1 a := fun a ha => f2.1 a (by simp; omega) (by omega)
    rw [hi 205 (by decide)] at e5
    rw [hi 206 (by decide)] at e6
    refine h _ M2 (z_IV_t hR (fun k _ => by rw [e2 1 (by decide), q1.1 1 (by decide)]) (fun a _ a1 _ a2 => (e2 a a1).trans (q1.1 a a2)) (z_RC_tr hR.2.1 hR.1 (fun a a1 a2 => (e2 a a2).trans (q1.1 a a1))) ((f2.1 179 (by decide) (by decide)).trans (hi 179 (by decide))) ((f2.1 180 (by decide) (by decide)).trans (hi 180 (by decide))) ((f2.1 181 (by decide) (by decide)).trans (hi 181 (by decide))) ((f2.2 7 (by decide)).trans (by rw [hi 178 (by decide)])) ((f2.2 15 (by decide)).trans (by rw [hi 178 (by decide)])) ((f2.2 16 (by decide)).trans (by rw [hi 178 (by decide)])) ?_)
    refine z_RY_up hR.2.2.2.2.2.1 (t := m) (by omega) (fun a a1 a2 a3 a4 => (e2 a (by omega)).trans (q1.2 a a3 a4)) (fun j hj => by rw [e5, z_put_n hj]) (fun j hj => by rw [e6, z_put_n hj]) (fun j hj => by rw [o2 j hj, hi 207 (by decide)]) ?_
    rw [e5, e6, z_put_s, z_put_s, e2 _ (by omega), e2 _ (by omega)]
    exact ⟨g.2, g3, z1, o1, fun i hi2 => by rw [v1 i (by omega) (by omega), v2 i hi2]⟩))
/-- write -/
def z_ctt (s v : Int) : Int := if s = 0 then q_i2b (q_l2i v) else if s = 1 then q_i2s (q_l2i v) else if s = 2 then q_l2i v else v
theorem c_write {d : Nat} {M : q_Mem} {K : Int → q_Mem → Prop} {t i v : Int} (hd : 1 < d) (hR : z_IV M) (h2 : ¬ (0 ≤ t ∧ t < 4) → K (-2) M) (h6 : (0 ≤ t ∧ t < 4) → M 205 t = -1 → K (-6) M) (h7 : (0 ≤ t ∧ t < 4) → ¬ M 205 t = -1 → ¬ (0 ≤ i ∧ i < M 206 t) → K (-7) M) (h1 : (0 ≤ t ∧ t < 4) → ¬ M 205 t = -1 → (0 ≤ i ∧ i < M 206 t) → ∀ M', M' = q_up M (162 + 2 * t) i (z_ctt (M 205 t) v) → K (z_ctt (M 205 t) v) M') : q_kL yX11_write mX11_write d [qR 1, qI t, qI i, qL v] M K := by
  have hY := hR.2.2.2.2.2.1
  refine q_goL hd rfl (plainFor_of_name (by decide +kernel)) rfl (fun h => nomatch h) (Nat.le_of_ble_eq_true rfl) (fun d hd => bX11_write_0 _ _ _ (k_hasTray (by omega) (fun g1 g2 => ⟨fun _ => ⟨by omega, fun x5 e5 => ?_⟩, fun q => absurd q (by decide)⟩) (fun g => ⟨fun q => absurd rfl q, fun _ => h2 g⟩)))
  obtain ⟨m, rfl⟩ : ∃ m : Nat, t = (m : Int) := ⟨t.toNat, by omega⟩
  have l := z_l89 m (by omega)
  rw [Int.toNat_natCast, l.1] at e5
  subst e5
  refine ⟨l.2.1, fun g4 => ?_, fun g4 => h6 ⟨g1, g2⟩ (Classical.byContradiction (fun q => g4 ((z_RY_0 hY (by omega)).mpr q)))⟩
  have hp := (z_RY_0 hY (t := m) (by omega)).mp g4
  obtain ⟨mm, rm, m40, sz, so, sr, vs⟩ := z_RY_t hY (t := m) (by omega) hp
  rw [sz, l.2.2]
  rw [rm] at h7 h1
  refine ⟨fun g => h7 ⟨g1, g2⟩ hp (by omega), fun g => ⟨fun g5 => ?_, fun g5 => h7 ⟨g1, g2⟩ hp (by omega)⟩⟩
  have hd1 : 0 < d := by omega
  have fin : (∀ w : Int, w = z_ctt (M 205 (m : Int)) v → (0 ≤ i ∧ i < (40 : Int)) ∧ (∀ M9 : q_Mem, M9 = q_up M (162 + 2 * (m : Int)) i w → (0 ≤ i ∧ i < (40 : Int)) ∧ K (M9 (162 + 2 * (m : Int)) i) M9)) := fun w ew => ⟨by omega, fun M9 e9 => ⟨by omega, by
    rw [e9, q_up_s, ← e9, ew]
    exact h1 ⟨g1, g2⟩ hp ⟨by omega, g5⟩ M9 (by rw [e9, ew])⟩⟩
  refine q_goL hd1 rfl (plainFor_of_name (by decide +kernel)) rfl (fun h => nomatch h) (Nat.le_of_ble_eq_true rfl) (fun d hd => bX9_cutToSort_0 _ _ l.2.1 ?_)
  rw [so]
  unfold z_ctt at fin
  refine ⟨fun s0 => ⟨fun s1 => ⟨fun s2 => ?_, fun s2 => ?_⟩, fun s1 => ?_⟩, fun s0 => ?_⟩
  · exact fin _ (by rw [if_neg s0, if_neg s1, if_neg s2])
  · exact fin _ (by rw [if_neg s0, if_neg s1, if_pos s2])
  · exact fin _ (by rw [if_neg s0, if_pos s1])
  · exact fin _ (by rw [if_pos s0])
theorem r_write {d : Nat} {M : q_Mem} {K : Int → q_Mem → Prop} {t i v : Int} (hd : 2 < d) (hm : 0 ≤ t → t < 4 → ¬ M 205 t = -1 → 0 ≤ M 206 t ∧ M 206 t ≤ 40) (h2 : ¬ (0 ≤ t ∧ t < 4) → ∀ M', z_fr [] [0] M M' → K (-2) M') (h6 : (0 ≤ t ∧ t < 4) → M 205 t = -1 → ∀ M', z_fr [] [0] M M' → K (-6) M') (h7 : (0 ≤ t ∧ t < 4) → ¬ M 205 t = -1 → ¬ (0 ≤ i ∧ i < M 206 t) → ∀ M', z_fr [] [0] M M' → K (-7) M') (h1 : (0 ≤ t ∧ t < 4) → ¬ M 205 t = -1 → (0 ≤ i ∧ i < M 206 t) → ∀ M', z_fr [207] [0] M M' → M' 207 = z_put (M 207) (40 * t + i) (z_ctt (M 205 t) v) → K (z_ctt (M 205 t) v) M') : q_kL yX12_write mX12_write d [qR 178, qI t, qI i, qL v] M K := by
  refine q_goL hd rfl (plainFor_of_name (by decide +kernel)) rfl (fun h => nomatch h) (Nat.le_of_ble_eq_true rfl) (fun d hd => bX12_write_0 _ _ _ (fun M1 e1 => ?_))
  have f1 : z_fr [] [0] M M1 := by rw [e1]; exact z_fr_f (by decide)
  have e205 : M1 205 = M 205 := f1.1 205 (by decide) (by decide)
  have e206 : M1 206 = M 206 := f1.1 206 (by decide) (by decide)
  have e207 : M1 207 = M 207 := f1.1 207 (by decide) (by decide)
  refine k_noTray (by omega) (fun g => ⟨fun q => absurd q (by decide), fun _ => h2 g M1 f1⟩) (fun g1 g2 g => ⟨fun q => absurd q (by decide), fun _ => h6 ⟨g1, g2⟩ (by rw [← e205]; exact g) M1 f1⟩) (fun g1 g2 g => ⟨fun _ => ⟨by omega, ?_⟩, fun q => absurd rfl q⟩)
  rw [e205] at g
  have hm := hm g1 g2 g
  rw [e206, q_sub_eq (by omega)]
  refine k_within (by omega) (fun g3 g4 => ⟨fun _ => ⟨by omega, ?_⟩, fun q => absurd q (by decide)⟩) (fun g3 => ⟨fun q => absurd rfl q, fun _ => h7 ⟨g1, g2⟩ g (by omega) M1 f1⟩)
  have hd1 : 0 < d := by omega
  rw [e205, q_mul_eq (by omega), q_add_eq (by omega)]
  have fin : (∀ w : Int, w = z_ctt (M 205 t) v → (0 ≤ 40 * t + i ∧ 40 * t + i < (160 : Int)) ∧ (∀ M11 : q_Mem, M11 = q_up M1 207 (40 * t + i) w → (0 ≤ 40 * t + i ∧ 40 * t + i < (160 : Int)) ∧ K (M11 207 (40 * t + i)) M11)) := fun w ew => ⟨by omega, fun M9 e9 => ⟨by omega, by
    rw [e9, q_up_s, ← e9, ew]
    exact h1 ⟨g1, g2⟩ g ⟨g3, by omega⟩ M9 (z_fr_u (z_fr_mono f1 (by decide) (by decide)) e9 (by decide) (by decide)) (by rw [e9, z_upP, e207, ew])⟩⟩
  refine q_goL hd1 rfl (plainFor_of_name (by decide +kernel)) rfl (fun h => nomatch h) (Nat.le_of_ble_eq_true rfl) (fun d hd => bX12_cutTo_0 _ _ ?_)
  unfold z_ctt at fin
  refine ⟨fun s0 => ⟨fun s1 => ⟨fun s2 => ?_, fun s2 => ?_⟩, fun s1 => ?_⟩, fun s0 => ?_⟩
  · exact fin _ (by rw [if_neg s0, if_neg s1, if_neg s2])
  · exact fin _ (by rw [if_neg s0, if_neg s1, if_pos s2])
  · exact fin _ (by rw [if_neg s0, if_pos s1])
  · exact fin _ (by rw [if_pos s0])
theorem tt_write {d : Nat} {M : q_Mem} {K : Int → Int → q_Mem → Prop} {t i v : Int} (hd : 60 < d) (hR : z_IV M) (h : ∀ v M', z_IV M' → K v v M') : q_kL yX11_write mX11_write d [qR 1, qI t, qI i, qL v] M (fun v1 M1 => q_kL yX12_write mX12_write d [qR 178, qI t, qI i, qL v] M1 (fun v2 M2 => K v1 v2 M2)) :=
  c_write (by omega) hR (fun g => r_write (by omega) (z_hiM hR (fun _ _ => rfl)) (fun _ M' f' => h _ M' (z_IV_r hR f' (by decide) (by decide))) (fun q => absurd q g) (fun q => absurd q g) (fun q => absurd q g)) (fun g g6 => r_write (by omega) (z_hiM hR (fun _ _ => rfl)) (fun q => absurd g q) (fun _ _ M' f' => h _ M' (z_IV_r hR f' (by decide) (by decide))) (fun _ q => absurd g6 q) (fun _ q => absurd g6 q)) (fun g g6 g7 => r_write (by omega) (z_hiM hR (fun _ _ => rfl)) (fun q => absurd g q) (fun _ q => absurd q g6) (fun _ _ _ M' f' => h _ M' (z_IV_r hR f' (by decide) (by decide))) (fun _ _ q => absurd q g7)) (fun g g6 g7 M1 e1 => by
    obtain ⟨m, rfl⟩ : ∃ m : Nat, t = (m : Int) := ⟨t.toNat, by omega⟩
    obtain ⟨mm, rm, m40, sz, so, sr, vs⟩ := z_RY_t hR.2.2.2.2.2.1 (t := m) (by omega) g6
    have o1 : ∀ a, a ≠ 162 + 2 * (m : Int) → M1 a = M a := fun a ha => by rw [e1, q_up_o ha]
    have hi : ∀ a, 178 ≤ a → M1 a = M a := fun a ha => o1 a (by omega)
    have r5 := hi 205 (by decide)
    have r6 := hi 206 (by decide)
    refine r_write (by omega) (z_hiM hR hi) (fun q => absurd g q) (fun _ q => by rw [r5] at q; exact absurd q g6) (fun _ _ q => by rw [r6] at q; exact absurd g7 q) (fun _ _ _ M2 f2 e7 => ?_)
    rw [r5, hi 207 (by decide)] at e7
    rw [r5]
    have e2 : ∀ a, a < 178 → M2 a = M1 a := fun a ha => f2.1 a (by simp; omega) (by omega)
    have e25 : M2 205 = M 205 := (f2.1 205 (by decide) (by decide)).trans r5
    have e26 : M2 206 = M 206 := (f2.1 206 (by decide) (by decide)).trans r6
    refine h _ M2 (z_IV_t hR (fun k _ => by rw [e2 1 (by decide), o1 1 (by omega)]) (fun a _ a1 _ a2 => (e2 a a1).trans (o1 a (by omega))) (z_RC_tr hR.2.1 hR.1 (fun a a1 a2 => (e2 a a2).trans (o1 a (by omega)))) ((f2.1 179 (by decide) (by decide)).trans (hi 179 (by decide))) ((f2.1 180 (by decide) (by decide)).trans (hi 180 (by decide))) ((f2.1 181 (by decide) (by decide)).trans (hi 181 (by decide))) ((f2.2 7 (by decide)).trans (by rw [hi 178 (by decide)])) ((f2.2 15 (by decide)).trans (by rw [hi 178 (by decide)])) ((f2.2 16 (by decide)).trans (by rw [hi 178 (by decide)])) ?_)
    refine z_RY_up hR.2.2.2.2.2.1 (t := m) (by omega) (fun a a1 a2 a3 a4 => (e2 a (by omega)).trans (o1 a a4)) (fun j hj => by rw [e25]) (fun j hj => by rw [e26]) (fun j hj => by rw [e7, z_put_n (by omega)]) ?_
    rw [e25, e26, e2 _ (by omega), e2 _ (by omega), o1 _ (by omega), rm]
    refine ⟨sr, by omega, sz, so, fun k hk => ?_⟩
    rw [e1, e7]
    by_cases c : (k : Int) = i
    · rw [c, q_up_s, z_put_s]
    · rw [q_up_n c, z_put_n (by omega)]; exact vs k (by omega))
