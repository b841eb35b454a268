-- image, restore: both
theorem tt_image {d : Nat} {M : q_Mem} {K : Int → Int → q_Mem → Prop} {i : Int} (hd : 60 < d) (hR : z_IV M) (h : ∀ v M', z_IV M' → K v v M') : q_kI yX11_image mX11_image d [qR 1, qI i] M (fun v M1 => q_kI yX12_image mX12_image d [qR 178, qI i] M1 (fun v2 M2 => K v v2 M2)) := by
  refine c_image (by omega) hR (fun g => r_image (by omega) (fun _ M' f' => h _ M' (z_IV_r hR f' (by decide) (by decide))) (fun q => absurd q g)) (fun g M1 f1 a1 p1 s1 => r_image (by omega) (fun q => absurd g q) (fun _ M2 f2 o2 h2 => ?_))
  obtain ⟨m, rfl⟩ : ∃ m : Nat, i = (m : Int) := ⟨i.toNat, by omega⟩
  rw [Int.toNat_natCast] at o2
  have hi : ∀ a, 178 ≤ a → M1 a = M a := fun a ha => f1 a (by omega)
  have e2 : ∀ a, a < 178 → M2 a = M1 a := fun a ha => f2.1 a (by simp; omega) (by omega)
  rw [hi 179 (by decide)] at o2
  rw [hi 180 (by decide)] at h2
  have lo : ∀ j : Int, 0 ≤ j → j < 1504 → M2 179 j = M 179 j := fun j j0 j1 => by rw [o2]; unfold z_imi; rw [if_neg (by omega)]
  have l1 : z_low1 (M 179) (M2 179) := fun j j0 j1 _ => lo j j0 j1
  obtain ⟨h1, h2', h3, h4, h5, h6, h7, h8⟩ := hR
  have ob : ∀ a, ¬ (123 ≤ a ∧ a ≤ 160) → a < 178 → M2 a = M a := fun a g g2 => (e2 a g2).trans (f1 a (by omega))
  have rc : z_RC M2 (M 179) := by
    obtain ⟨c, fr, ca⟩ := h2'
    refine ⟨z_cst_eq c (by rw [ob 1 (by decide) (by decide)]) (fun a ha => ?_), fr, z_ca_eq h1 ca (by rw [ob 1 (by decide) (by decide)]) (fun k a hk ha => ob a (by unfold z_OP at ha; omega) (by unfold z_OP at ha; omega))⟩
    have : ∀ b ∈ z_CO, b < 53 := by decide
    have := this a ha
    exact ob a (by omega) (by omega)
  have s78 : ∀ k, k ≠ 0 → M2 178 k = M 178 k := fun k hk => (f2.2 k (by simpa using hk)).trans (by rw [hi 178 (by decide)])
  refine h _ M2 ⟨z_E_l l1 h1, z_RC_l l1 h1 rc, by rw [ob 1 (by decide) (by decide)]; exact h3, z_hs_l lo h1 (z_hs_eq h4 (fun a g1 g2 => ob a (by omega) (by omega))), ?_, ?_, ?_, ?_⟩
  · intro j hj
    by_cases c : j = m
    · subst c
      have low : z_low1 (M 179) (z_imr (M2 179) j) := fun x x0 x1 _ => by
        unfold z_imr
        rw [if_pos ⟨x0, x1⟩, o2]
        unfold z_imi
        rw [if_pos (by omega)]
        congr 1 <;> omega
      refine Or.inr ⟨by rw [e2 _ (by omega)]; exact a1, by rw [h2, z_put_s], z_E_l low h1, ?_, ?_⟩
      · refine e_pl (z_low1_n low) h1.1 h1.2.1 (z_pl_eq p1 (e2 _ (by omega)) (e2 _ (by omega)) (e2 _ (by omega)) (e2 _ (by omega)) (e2 _ (by omega)) (e2 _ (by omega)) (e2 _ (by omega)) (e2 _ (by omega)))
      · exact e_sd (z_low1_n low) h1.1 (fun x x0 x1 => low _ (by omega) (by omega) (by omega)) (z_sd_eq s1 (e2 _ (by omega)) (e2 _ (by omega)) (e2 _ (by omega)))
    · have sm : z_imr (M2 179) j = z_imr (M 179) j := by
        funext x
        unfold z_imr
        by_cases g : 0 ≤ x ∧ x < 1504
        · rw [if_pos g, if_pos g, o2]
          unfold z_imi
          rw [if_neg (by omega)]
        · rw [if_neg g, if_neg g]
      have ej : ∀ a, 123 + 19 * (j : Int) ≤ a → a ≤ 141 + 19 * (j : Int) → M2 a = M a := fun a q1 q2 => (e2 a (by omega)).trans (f1 a (by omega))
      rw [sm, ej _ (by omega) (by omega), h2, z_put_n (by omega)]
      rcases h5 j hj with ⟨q1, q2⟩ | ⟨q1, q2, q3, q4, q5⟩
      · exact Or.inl ⟨q1, q2⟩
      · exact Or.inr ⟨q1, q2, q3, z_pl_eq q4 (ej _ (by omega) (by omega)) (ej _ (by omega) (by omega)) (ej _ (by omega) (by omega)) (ej _ (by omega) (by omega)) (ej _ (by omega) (by omega)) (ej _ (by omega) (by omega)) (ej _ (by omega) (by omega)) (ej _ (by omega) (by omega)), z_sd_eq q5 (ej _ (by omega) (by omega)) (ej _ (by omega) (by omega)) (ej _ (by omega) (by omega))⟩
  · rw [(f2.1 205 (by decide) (by decide)).trans (hi 205 (by decide)), (f2.1 206 (by decide) (by decide)).trans (hi 206 (by decide)), (f2.1 207 (by decide) (by decide)).trans (hi 207 (by decide))]
    exact z_RY_eq h6 (fun a g1 g2 => ob a (by omega) (by omega))
  · rw [s78 7 (by decide), (f2.1 181 (by decide) (by decide)).trans (hi 181 (by decide))]
    exact z_RP_eq h7 (by rw [ob 1 (by decide) (by decide)]) (ob 2 (by decide) (by decide))
  · rw [s78 15 (by decide), s78 16 (by decide), ob 1 (by decide) (by decide)]; exact h8
/-- gone back to -/
def z_rsi (o : Int → Int) (i : Nat) (n : Int) : Int → Int := fun j => if 0 ≤ j ∧ j < n then o (1504 * ((i : Int) + 1) + j) else o j
def z_rst (o : Int → Int) (i : Nat) : Int → Int := z_put (z_rsi o i 1504) 102 0
theorem z_rst_low {o : Int → Int} {i : Nat} : z_low1 (z_imr o i) (z_rst o i) := fun j j0 j1 g => by
  unfold z_rst
  rw [z_put_n (by omega)]
  unfold z_rsi z_imr
  rw [if_pos ⟨j0, j1⟩, if_pos ⟨j0, j1⟩]
theorem c_restore {d : Nat} {M : q_Mem} {K : Int → q_Mem → Prop} {i : Int} (hd : 3 < d) (hR : z_IV M) (h2 : ¬ (0 ≤ i ∧ i < 2) → K (-2) M) (h5 : (0 ≤ i ∧ i < 2) → M 180 i = 0 → K (-5) M) (h1 : (0 ≤ i ∧ i < 2) → ¬ M 180 i = 0 → ∀ M', (∀ a, 178 ≤ a → M' a = M a) → z_K M' (z_ro M (z_rst (M 179) i.toNat)) → K 0 M') : q_kI yX11_restore mX11_restore d [qR 1, qI i] M K := by
  have hE := hR.1
  have hc := hR.2.1.1
  refine q_goI hd rfl (plainFor_of_name (by decide +kernel)) rfl (fun h => nomatch h) (Nat.le_of_ble_eq_true rfl) (fun d hd => bX11_restore_0 _ ⟨fun g => h2 (by omega), fun g => ⟨fun g2 => ⟨by omega, fun x2 e2 => ?_⟩, fun g2 => h2 (by omega)⟩⟩)
  obtain ⟨m, rfl⟩ : ∃ m : Nat, i = (m : Int) := ⟨i.toNat, by omega⟩
  have l := z_l88 m (by omega)
  rw [Int.toNat_natCast] at h1
  rw [Int.toNat_natCast, l.1] at e2
  subst e2
  rw [l.2.2.1, l.2.2.2.1]
  have im := hR.2.2.2.2.1 m (by omega)
  refine ⟨l.2.1, fun g3 => ⟨z_cst_k hc, ?_⟩, fun g3 => h5 ⟨by omega, g2⟩ (by rcases im with ⟨a, b⟩ | ⟨a, b⟩ <;> omega)⟩
  rcases im with ⟨a, b⟩ | ⟨a, b, E, pl, sd⟩
  · exact absurd a g3
  have hp := hc.1
  refine k_ptake (o := z_imr (M 179) m) (by omega) (z_cst_k hc) l.2.2.2.2.1 (by omega) E.1 E.2.1 pl (fun M5 f5 p5 => k_stake (by omega) (by decide +kernel) l.2.2.2.2.2 (by omega) (fun M6 f6 s6 => k_forget (by omega) (fun M7 e7 M8 e8 => ?_)))
  have g6 : ∀ a, ¬ (50 ≤ a ∧ a ≤ 52) → M6 a = M5 a := fun a g => f6 a (by simp; omega)
  have o8 : ∀ a, a ≠ 1 → a ≠ 56 → M8 a = M6 a := fun a q1 q2 => by rw [e8, q_up_o q1, e7, q_up_o q2]
  have c8 : ∀ k, k ≠ 18 → M8 1 k = M 1 k := fun k hk => by rw [e8, q_up_n hk, e7, q_up_o (by decide), g6 1 (by omega), f5 1 (by omega)]
  have p14 : M8 1 4 = M 1 4 := c8 4 (by decide)
  have ob : ∀ a, a ≠ 1 → ¬ (50 ≤ a ∧ a ≤ 56) → ¬ (M 1 4 ≤ a ∧ a ≤ M 1 4 + 14) → M8 a = M a := fun a q1 q2 q3 => (o8 a q1 (by omega)).trans ((g6 a (by omega)).trans (f5 a q3))
  have low := z_rst_low (o := M 179) (i := m)
  have sd5 : z_sd M5 (139 + 19 * (m : Int)) (z_imr (M 179) m) 1 := z_sd_eq sd (f5 _ (by omega)) (f5 _ (by omega)) (f5 _ (by omega))
  have E' := z_E_l low E
  have q : ∀ k : Int, 0 ≤ k → k ≤ 14 → M8 (M 1 4 + k) = M5 (M 1 4 + k) := fun k k0 k1 => (o8 _ (by omega) (by omega)).trans (g6 _ (by omega))
  have q0 := q 0 (by omega) (by omega)
  simp only [Int.add_zero] at q0
  have rc : z_RC M8 (z_rst (M 179) m) := by
    refine ⟨⟨by rw [p14]; exact hc.1, ?_, ?_⟩, 0, by rw [e8, q_up_s]; rfl, by decide, fun k hk hb => by simp at hb⟩
    · rw [p14]
      exact e_pl (z_low1_n low) E.1 E.2.1 (z_pl_eq p5 q0 (q 1 (by omega) (by omega)) (q 2 (by omega) (by omega)) (q 4 (by omega) (by omega)) (q 7 (by omega) (by omega)) ((o8 _ (by omega) (by omega)).trans (g6 _ (by omega))) (q 11 (by omega) (by omega)) ((o8 _ (by omega) (by omega)).trans (g6 _ (by omega))))
    · exact e_sd (z_low1_n low) E.1 (fun j j0 j1 => low _ (by omega) (by omega) (by omega)) (z_sd_eq (s6 _ _ E.1 sd5) (o8 50 (by decide) (by decide)) (o8 51 (by decide) (by decide)) (o8 52 (by decide) (by decide)))
  obtain ⟨h1', h2', h3', h4', h5', h6', h7', h8'⟩ := hR
  have hs : z_hs M8 (z_rst (M 179) m) := by
    obtain ⟨t, n, a1, b1, t1, n1, _, _⟩ := h4'
    refine ⟨t, 0, a1, by omega, ?_, ?_, by unfold z_rst; rw [z_put_s]; rfl, fun i hi => by omega⟩
    · rw [e8, q_up_o (by decide), e7, q_up_n (by decide), g6 56 (by omega), f5 56 (by omega)]; exact t1
    · rw [e8, q_up_o (by decide), e7, q_up_s]; rfl
  have hi : ∀ j : Int, 1504 ≤ j → z_rst (M 179) m j = M 179 j := fun j hj => by
    unfold z_rst
    rw [z_put_n (by omega)]
    unfold z_rsi
    rw [if_neg (by omega)]
  refine h1 ⟨by omega, g2⟩ (by omega) M8 (fun a ha => ob a (by omega) (by omega) (by omega)) ?_
  unfold z_K
  rw [z_ro_s, z_ro_n (by decide), z_ro_n (by decide), z_ro_n (by decide), z_ro_n (by decide), z_ro_n (by decide), z_ro_n (by decide)]
  refine ⟨E', rc, by rw [c8 5 (by decide), c8 4 (by decide)]; exact h3', hs, ?_, ?_, ?_, ?_⟩
  · exact z_RI_o (z_RI_eq h5' (fun a g1 g2 => ob a (by omega) (by omega) (by omega))) hi
  · exact z_RY_eq h6' (fun a g1 g2 => ob a (by omega) (by omega) (by omega))
  · exact z_RP_eq h7' (c8 1 (by decide)) (ob 2 (by decide) (by decide) (by omega))
  · rw [c8 2 (by decide), c8 3 (by decide)]; exact h8'
theorem l_rrst {d : Nat} {M0 : q_Mem} {K : Int → q_Mem → Prop} {i : Nat} (hi : i < 2) (h : ∀ M', z_fr [179] [] M0 M' → M' 179 = z_rst (M0 179) i → K 0 M') :
    ∀ (j k : Nat) (M : q_Mem), k + j = 1504 → z_fr [179] [] M0 M → M 179 = z_rsi (M0 179) i k → q_v mX12_restore d (qPI K) M 32 [some (qR 178), some (qI (i : Int)), some (qI (k : Int))] [] := by
  intro j
  induction j with
  | zero =>
    intro k M e f q
    have ek : k = 1504 := by omega
    subst ek
    refine bX12_restore_32 _ _ ⟨fun _ M2 e2 => ?_, fun g => absurd (by omega) g⟩
    exact h M2 (z_fr_u f e2 (by decide) (by decide)) (by rw [e2, z_upP, q]; rfl)
  | succ j ih =>
    intro k M e f q
    have e0 : M 179 (1504 * ((i : Int) + 1) + (k : Int)) = M0 179 (1504 * ((i : Int) + 1) + (k : Int)) := by rw [q]; unfold z_rsi; rw [if_neg (by omega)]
    refine bX12_restore_32 _ _ ⟨fun g => absurd g (by omega), fun _ => ?_⟩
    rw [q_add_eq (a := (i : Int)) (by omega), q_mul_eq (by omega), q_add_eq (a := 1504 * ((i : Int) + 1)) (by omega), q_add_eq (by omega), show (k : Int) + 1 = ((k + 1 : Nat) : Int) by omega, e0]
    refine ⟨by omega, by omega, fun M5 e5 => ih (k + 1) M5 (by omega) (z_fr_u f e5 (by decide) (by decide)) ?_⟩
    rw [e5, z_upP, q]
    funext x
    unfold z_put z_rsi
    by_cases c : x = (k : Int)
    · subst c
      rw [if_pos rfl, if_pos (by omega)]
    · rw [if_neg c]
      by_cases c2 : 0 ≤ x ∧ x < (k : Int)
      · rw [if_pos c2, if_pos (by omega)]
      · rw [if_neg c2, if_neg (by omega)]
theorem r_restore {d : Nat} {M : q_Mem} {K : Int → q_Mem → Prop} {i : Int} (hd : 1 < d) (h2 : ¬ (0 ≤ i ∧ i < 2) → ∀ M', z_fr [] [0] M M' → K (-2) M') (h5 : (0 ≤ i ∧ i < 2) → M 180 i = 0 → ∀ M', z_fr [] [0] M M' → K (-5) M') (h1 : (0 ≤ i ∧ i < 2) → ¬ M 180 i = 0 → ∀ M', z_fr [179] [0] M M' → M' 179 = z_rst (M 179) i.toNat → K 0 M') : q_kI yX12_restore mX12_restore d [qR 178, qI i] M K := by
  refine q_goI hd rfl (plainFor_of_name (by decide +kernel)) rfl (fun h => nomatch h) (Nat.le_of_ble_eq_true rfl) (fun d hd => bX12_restore_0 _ (fun M1 e1 => ?_))
  have f1 : z_fr [] [0] M M1 := by rw [e1]; exact z_fr_f (by decide)
  have o1 : M1 179 = M 179 := f1.1 179 (by decide) (by decide)
  have h80 : M1 180 = M 180 := f1.1 180 (by decide) (by decide)
  refine k_within (by omega) (fun g1 g2 => ⟨fun _ => ⟨by omega, fun g => ?_, fun g => h5 (by omega) (by rw [← h80]; exact g) M1 f1⟩, fun q => absurd q (by decide)⟩) (fun g => ⟨fun q => absurd rfl q, fun _ => h2 (by omega) M1 f1⟩)
  rw [h80] at g
  obtain ⟨m, rfl⟩ : ∃ m : Nat, i = (m : Int) := ⟨i.toNat, by omega⟩
  rw [Int.toNat_natCast] at h1
  exact l_rrst (M0 := M1) (by omega) (fun M' f' a' => h1 (by omega) g M' (z_fr_tr (z_fr_mono f1 (by decide) (by decide)) (z_fr_mono f' (by decide) (by decide))) (by rw [a', o1])) 1504 0 M1 (by omega) z_fr_rf (by funext x; unfold z_rsi; rw [if_neg (by omega)])
theorem tt_restore {d : Nat} {M : q_Mem} {K : Int → Int → q_Mem → Prop} {i : Int} (hd : 60 < d) (hR : z_IV M) (h : ∀ v M', z_IV M' → K v v M') : q_kI yX11_restore mX11_restore d [qR 1, qI i] M (fun v M1 => q_kI yX12_restore mX12_restore d [qR 178, qI i] M1 (fun v2 M2 => K v v2 M2)) :=
  c_restore (by omega) hR (fun g => r_restore (by omega) (fun _ M' f' => h _ M' (z_IV_r hR f' (by decide) (by decide))) (fun q => absurd q g) (fun q => absurd q g)) (fun g g5 => r_restore (by omega) (fun q => absurd g q) (fun _ _ M' f' => h _ M' (z_IV_r hR f' (by decide) (by decide))) (fun _ q => absurd g5 q)) (fun g g5 M1 hi k1 => r_restore (by omega) (fun q => absurd g q) (fun _ q => by rw [hi 180 (by decide)] at q; exact absurd q g5) (fun _ _ M2 f2 e2 => by
    rw [hi 179 (by decide)] at e2
    exact h _ M2 (z_IV_d k1 hi f2 (by decide) (by decide) e2)))
