-- images: laid and gone back to
theorem z_k2wn : ∀ n : Nat, n < 208 → q_kd (n : Int) = 2 → q_kd ((n : Int) + 1) = 14 := by decide +kernel
theorem z_k2w {x : Int} (h : q_kd x = 2) : q_kd (x + 1) = 14 := by
  have h1 := z_kd_in (a := x) (by rw [h]; decide)
  have := z_k2wn x.toNat (by omega)
  rw [show ((x.toNat : Nat) : Int) = x by omega] at this
  exact this h
theorem k_ltake {d : Nat} {M : q_Mem} {K : q_Mem → Prop} {x y : Int} {o : Int → Int} {law : Nat} (hd : 1 < d) (kx : q_kd x = 2) (ky : q_kd y = 2) (ne : x ≠ y) (hl : o (96 + law) = 1 → z_lawok o law) (hw : z_lw M y o law) (h : ∀ M', (∀ a, a ≠ x → a ≠ x + 1 → M' a = M a) → z_lw M' x o law → K M') : q_kU yX2_takeFrom mX2_takeFrom d [qR x, qR y] M K := by
  have lx := z_k2 kx
  have ly := z_k2 ky
  have n1 : y ≠ x + 1 := fun e => by rw [e, z_k2w kx] at ky; exact absurd ky (by decide)
  have n2 : x ≠ y + 1 := fun e => by rw [e, z_k2w ky] at kx; exact absurd kx (by decide)
  have sz : ∃ n : Nat, M y 0 = (n : Int) ∧ n ≤ 900 ∧ ((o (96 + law) = 1 ∧ n = (z_code o law).length) ∨ ¬ o (96 + law) = 1) := by
    rcases hw with ⟨a, b, c⟩ | ⟨a, b⟩
    · have := (hl a).1
      have e := z_code_len (o := o) (law := law)
      exact ⟨(z_code o law).length, b.1, by omega, Or.inl ⟨a, rfl⟩⟩
    · exact ⟨0, b, by omega, Or.inr a⟩
  obtain ⟨n, en, n9, hn⟩ := sz
  refine q_goU hd rfl (plainFor_of_name (by decide +kernel)) rfl (fun h => nomatch h) (Nat.le_of_ble_eq_true rfl) (fun d hd => bX2_takeFrom_0 _ _ kx ky (fun M1 e1 => ?_))
  have y1 : M1 y 0 = (n : Int) := by rw [e1, q_up_o (by omega)]; exact en
  rw [y1, lx.1, ly.1]
  refine ⟨⟨by omega, by omega, by omega⟩, fun M3 e3 => h M3 (fun a a1 a2 => by rw [e3, q_cp_o a2, e1, q_up_o a1]) ?_⟩
  have x3 : M3 x 0 = (n : Int) := by rw [e3, q_cp_o (by omega), e1, q_up_s, en]
  rcases hw with ⟨a, b, c⟩ | ⟨a, b⟩
  · rcases hn with ⟨_, hn⟩ | hn
    · refine Or.inl ⟨a, ⟨by rw [x3, hn], fun k hk => ?_⟩, c⟩
      rw [e3]
      unfold q_cp
      rw [if_pos ⟨rfl, by omega, by omega⟩, e1, q_up_o (by omega), show (0 : Int) + ((k : Int) - 0) = (k : Int) by omega]
      exact b.2 k hk
    · exact absurd a hn
  · exact Or.inr ⟨a, by rw [x3, ← en]; exact b⟩
theorem k_ptake {d : Nat} {M : q_Mem} {K : q_Mem → Prop} {x y : Int} {o : Int → Int} (hd : 2 < d) (kx : q_kd x = 4) (ky : q_kd y = 4) (ap : x + 15 ≤ y ∨ y + 15 ≤ x) (hn : z_net o) (hl : z_laws o) (hp : z_pl M y o) (h : ∀ M', (∀ a, ¬ (x ≤ a ∧ a ≤ x + 14) → M' a = M a) → z_pl M' x o → K M') : q_kU yX4_takeFrom mX4_takeFrom d [qR x, qR y] M K := by
  have lx := z_k4 kx
  have ly := z_k4 ky
  have wx := z_k4w kx
  have wy := z_k4w ky
  have hL := z_net_L16 hn
  have hN := z_net_N10 hn
  refine q_goU hd rfl (plainFor_of_name (by decide +kernel)) rfl (fun h => nomatch h) (Nat.le_of_ble_eq_true rfl) (fun d hd => bX4_takeFrom_0 _ _ kx ky (fun M1 e1 M2 e2 M3 e3 M4 e4 => ?_))
  rw [lx.1, ly.1, lx.2.1, ly.2.1, lx.2.2.1, ly.2.2.1, lx.2.2.2.1, ly.2.2.2.1, lx.2.2.2.2.1, ly.2.2.2.2.1, lx.2.2.2.2.2.1, ly.2.2.2.2.2.1, lx.2.2.2.2.2.2.1, ly.2.2.2.2.2.2.1, lx.2.2.2.2.2.2.2.1, ly.2.2.2.2.2.2.2.1]
  refine ⟨⟨by omega, by omega, by omega⟩, fun M6 e6 => ⟨⟨by omega, by omega, by omega⟩, fun M8 e8 => ⟨⟨by omega, by omega, by omega⟩, fun M10 e10 => ⟨⟨by omega, by omega, by omega⟩, fun M12 e12 => ⟨⟨by omega, by omega, by omega⟩, fun M14 e14 => ⟨⟨by omega, by omega, by omega⟩, fun M16 e16 => ?_⟩⟩⟩⟩⟩⟩
  have f4 : ∀ a, a ≠ x → M4 a = M a := fun a g => by rw [e4, q_up_o g, e3, q_up_o g, e2, q_up_o g, e1, q_up_o g]
  have f16 : ∀ a, ¬ (x ≤ a ∧ a ≤ x + 6) → M16 a = M a := fun a g => by rw [e16, q_cp_o (by omega), e14, q_cp_o (by omega), e12, q_cp_o (by omega), e10, q_cp_o (by omega), e8, q_cp_o (by omega), e6, q_cp_o (by omega), f4 a (by omega)]
  have x0 : M16 x = M4 x := by rw [e16, q_cp_o (by omega), e14, q_cp_o (by omega), e12, q_cp_o (by omega), e10, q_cp_o (by omega), e8, q_cp_o (by omega), e6, q_cp_o (by omega)]
  have w : ∀ law : Nat, law < 2 → (o (96 + (law : Int)) = 1 → z_lawok o law) := fun law hlw => by
    match law, hlw with
    | 0, _ => exact hl.1
    | 1, _ => exact hl.2
  have lwe : ∀ (A B : q_Mem) (z : Int) (law : Nat), A z = B z → A (z + 1) = B (z + 1) → z_lw B z o law → z_lw A z o law := fun A B z law q1 q2 q => by
    unfold z_lw z_lr at *
    rw [q1, q2]
    exact q
  refine k_ltake (law := 0) (by omega) wx.1 wy.1 (by omega) (w 0 (by decide)) (lwe _ _ _ _ (f16 _ (by omega)) (f16 _ (by omega)) hp.2.2.2.2.2.2.1) (fun M17 f17 w17 => ?_)
  refine k_ltake (law := 1) (by omega) wx.2 wy.2 (by omega) (w 1 (by decide)) (lwe _ _ _ _ ((f17 _ (by omega) (by omega)).trans (f16 _ (by omega))) ((f17 _ (by omega) (by omega)).trans (f16 _ (by omega))) hp.2.2.2.2.2.2.2) (fun M18 f18 w18 => ?_)
  have f : ∀ a, a ≠ x + 7 → a ≠ x + 8 → a ≠ x + 11 → a ≠ x + 12 → M18 a = M16 a := fun a a1 a2 a3 a4 => (f18 a a3 (by omega)).trans (f17 a a1 (by omega))
  refine h M18 (fun a g => (f a (by omega) (by omega) (by omega) (by omega)).trans (f16 a (by omega))) ⟨kx, ?_, ?_, ?_, fun l hl2 => ⟨?_, ?_⟩, fun n hn2 => ?_, lwe _ _ _ _ (f18 _ (by omega) (by omega)) (f18 _ (by omega) (by omega)) w17, w18⟩
  · rw [f x (by omega) (by omega) (by omega) (by omega), x0, e4, q_up_n (by decide), e3, q_up_n (by decide), e2, q_up_n (by decide), e1, q_up_s]; exact hp.2.1
  · rw [f x (by omega) (by omega) (by omega) (by omega), x0, e4, q_up_n (by decide), e3, q_up_n (by decide), e2, q_up_s, e1, q_up_o (by omega)]; exact hp.2.2.1
  · rw [f x (by omega) (by omega) (by omega) (by omega), x0, e4, q_up_n (by decide), e3, q_up_s, e2, q_up_o (by omega), e1, q_up_o (by omega)]; exact hp.2.2.2.1
  · rw [f (x + 1) (by omega) (by omega) (by omega) (by omega), e16, q_cp_o (by omega), e14, q_cp_o (by omega), e12, q_cp_o (by omega), e10, q_cp_o (by omega), e8, q_cp_o (by omega), e6]
    unfold q_cp
    rw [if_pos ⟨rfl, by omega, by omega⟩, show (0 : Int) + ((l : Int) - 0) = (l : Int) by omega, f4 _ (by omega)]
    exact (hp.2.2.2.2.1 l hl2).1
  · rw [f (x + 2) (by omega) (by omega) (by omega) (by omega), e16, q_cp_o (by omega), e14, q_cp_o (by omega), e12, q_cp_o (by omega), e10, q_cp_o (by omega), e8]
    unfold q_cp
    rw [if_pos ⟨rfl, by omega, by omega⟩, show (0 : Int) + ((l : Int) - 0) = (l : Int) by omega, e6, q_cp_o (by omega), f4 _ (by omega)]
    exact (hp.2.2.2.2.1 l hl2).2
  · rw [f (x + 4) (by omega) (by omega) (by omega) (by omega), e16, q_cp_o (by omega), e14, q_cp_o (by omega), e12]
    unfold q_cp
    rw [if_pos ⟨rfl, by omega, by omega⟩, show (0 : Int) + ((n : Int) - 0) = (n : Int) by omega, e10, q_cp_o (by omega), e8, q_cp_o (by omega), e6, q_cp_o (by omega), f4 _ (by omega)]
    exact hp.2.2.2.2.2.1 n hn2
/-- rows that agree where one net lies -/
def z_low1 (o o' : Int → Int) : Prop := ∀ j : Int, 0 ≤ j → j < 1504 → (j < 102 ∨ 603 ≤ j) → o' j = o j
theorem z_low1_n {o o' : Int → Int} (h : z_low1 o o') : z_eqn o o' := fun j g => h j (by omega) (by omega) (by omega)
theorem z_E_l {o o' : Int → Int} (h : z_low1 o o') (hE : z_E o) : z_E o' := z_E_of (e_net (z_low1_n h) hE.1) (e_laws (z_low1_n h) hE.2.1) (e_ok (z_low1_n h) hE.1 (fun j g1 g2 => h _ (by omega) (by omega) (by omega)) (z_ok_of hE))
theorem z_RC_l {o o' : Int → Int} (h : z_low1 o o') (hE : z_E o) {M : q_Mem} (q : z_RC M o) : z_RC M o' := by
  obtain ⟨c, fr, ca⟩ := q
  have en := z_low1_n h
  exact ⟨⟨c.1, e_pl en hE.1 hE.2.1 c.2.1, e_sd en hE.1 (fun j g1 g2 => h _ (by omega) (by omega) (by omega)) c.2.2⟩, fr, ca.1, ca.2.1, fun k hk hb => e_hv en hE (fun _ j g1 g2 => h j (by omega) (by omega) (by omega)) (fun _ => ⟨h 1 (by omega) (by omega) (by omega), fun l hl => h _ (by omega) (by omega) (by omega)⟩) (ca.2.2 k hk hb)⟩
theorem z_hs_l {o o' : Int → Int} (h : ∀ j : Int, 0 ≤ j → j < 1504 → o' j = o j) (hE : z_E o) {M : q_Mem} (q : z_hs M o) : z_hs M o' := by
  have en : z_eqn o o' := fun j g => h j (by omega) (by omega)
  obtain ⟨t, n, a, b, c, d, e, f⟩ := q
  exact ⟨t, n, a, b, c, d, by rw [h 102 (by omega) (by omega)]; exact e, fun i hi => ⟨e_sd en hE.1 (fun j g1 g2 => h _ (by omega) (by omega)) (f i hi).1, e_ok en hE.1 (fun j g1 g2 => h _ (by omega) (by omega)) (f i hi).2⟩⟩
def z_imi (o : Int → Int) (i : Nat) (n : Int) : Int → Int := fun j => if 1504 * ((i : Int) + 1) ≤ j ∧ j < 1504 * ((i : Int) + 1) + n then o (j - 1504 * ((i : Int) + 1)) else o j
theorem z_l88 : ∀ i : Nat, i < 2 → q_lay 88 i = 123 + 19 * (i : Int) ∧ q_kd (123 + 19 * (i : Int)) = 1 ∧ q_lay (123 + 19 * (i : Int)) 1 = 124 + 19 * (i : Int) ∧ q_lay (123 + 19 * (i : Int)) 2 = 139 + 19 * (i : Int) ∧ q_kd (124 + 19 * (i : Int)) = 4 ∧ q_kd (139 + 19 * (i : Int)) = 7 := by decide +kernel
theorem c_image {d : Nat} {M : q_Mem} {K : Int → q_Mem → Prop} {i : Int} (hd : 3 < d) (hR : z_IV M) (h0 : ¬ (0 ≤ i ∧ i < 2) → K (-2) M) (h1 : (0 ≤ i ∧ i < 2) → ∀ M', (∀ a, ¬ (123 + 19 * i ≤ a ∧ a ≤ 141 + 19 * i) → M' a = M a) → M' (123 + 19 * i) 0 = 1 → z_pl M' (124 + 19 * i) (M 179) → z_sd M' (139 + 19 * i) (M 179) 1 → K 0 M') : q_kI yX11_image mX11_image d [qR 1, qI i] M K := by
  have hE := hR.1
  have hc := hR.2.1.1
  refine q_goI hd rfl (plainFor_of_name (by decide +kernel)) rfl (fun h => nomatch h) (Nat.le_of_ble_eq_true rfl) (fun d hd => bX11_image_0 _ ⟨fun g => h0 (by omega), fun g => ⟨fun g2 => ⟨by omega, fun x2 e2 => ?_⟩, fun g2 => h0 (by omega)⟩⟩)
  obtain ⟨m, rfl⟩ : ∃ m : Nat, i = (m : Int) := ⟨i.toNat, by omega⟩
  have l := z_l88 m (by omega)
  rw [Int.toNat_natCast, l.1] at e2
  subst e2
  rw [l.2.2.1, l.2.2.2.1]
  have hp := hc.1
  refine ⟨l.2.1, k_ptake (o := M 179) (by omega) l.2.2.2.2.1 (z_cst_k hc) (by omega) hE.1 hE.2.1 hc.2.1 (fun M4 f4 p4 => k_stake (by omega) l.2.2.2.2.2 (by decide +kernel) (by omega) (fun M5 f5 s5 M6 e6 => ?_))⟩
  have g5 : ∀ a, ¬ (139 + 19 * (m : Int) ≤ a ∧ a ≤ 141 + 19 * (m : Int)) → M5 a = M4 a := fun a g => f5 a (by simp; omega)
  have o6 : ∀ a, a ≠ 123 + 19 * (m : Int) → M6 a = M5 a := fun a g => by rw [e6, q_up_o g]
  have sd4 : z_sd M4 50 (M 179) 1 := z_sd_eq hc.2.2 (f4 50 (by omega)) (f4 51 (by omega)) (f4 52 (by omega))
  refine h1 ⟨by omega, g2⟩ M6 (fun a ha => (o6 a (by omega)).trans ((g5 a (by omega)).trans (f4 a (by omega)))) (by rw [e6, q_up_s]) ?_ (z_sd_eq (s5 _ _ hE.1 sd4) (o6 _ (by omega)) (o6 _ (by omega)) (o6 _ (by omega)))
  have q : ∀ k : Int, 0 ≤ k → k ≤ 14 → M6 (124 + 19 * (m : Int) + k) = M4 (124 + 19 * (m : Int) + k) := fun k k0 k1 => (o6 _ (by omega)).trans (g5 _ (by omega))
  have q0 := q 0 (by omega) (by omega)
  simp only [Int.add_zero] at q0
  exact z_pl_eq p4 q0 (q 1 (by omega) (by omega)) (q 2 (by omega) (by omega)) (q 4 (by omega) (by omega)) (q 7 (by omega) (by omega)) ((o6 _ (by omega)).trans (g5 _ (by omega))) (q 11 (by omega) (by omega)) ((o6 _ (by omega)).trans (g5 _ (by omega)))
theorem l_rimg {d : Nat} {M0 : q_Mem} {K : Int → q_Mem → Prop} {i : Nat} (hi : i < 2) (h : ∀ M', z_fr [179, 180] [] M0 M' → M' 179 = z_imi (M0 179) i 1504 → M' 180 = z_put (M0 180) i 1 → K 0 M') :
    ∀ (j k : Nat) (M : q_Mem), k + j = 1504 → z_fr [179] [] M0 M → M 179 = z_imi (M0 179) i k → q_v mX12_image d (qPI K) M 20 [some (qR 178), some (qI (i : Int)), some (qI (k : Int))] [] := by
  intro j
  induction j with
  | zero =>
    intro k M e f q
    have ek : k = 1504 := by omega
    subst ek
    refine bX12_image_20 _ _ ⟨fun _ => ⟨by omega, fun M2 e2 => ?_⟩, fun g => absurd (by omega) g⟩
    rw [z_nz1] at e2
    exact h M2 (z_fr_u (z_fr_mono f (by decide) (by decide)) e2 (by decide) (by decide)) (by rw [e2, q_up_o (by decide)]; exact q) (by rw [e2, z_upP, f.1 180 (by decide) (by decide)])
  | succ j ih =>
    intro k M e f q
    have e0 : M 179 (k : Int) = M0 179 (k : Int) := by rw [q]; unfold z_imi; rw [if_neg (by omega)]
    refine bX12_image_20 _ _ ⟨fun g => absurd g (by omega), fun _ => ?_⟩
    rw [e0, q_add_eq (a := (i : Int)) (by omega), q_mul_eq (by omega), q_add_eq (a := 1504 * ((i : Int) + 1)) (by omega), q_add_eq (by omega), show (k : Int) + 1 = ((k + 1 : Nat) : Int) by omega]
    refine ⟨by omega, by omega, fun M5 e5 => ih (k + 1) M5 (by omega) (z_fr_u f e5 (by decide) (by decide)) ?_⟩
    rw [e5, z_upP, q]
    funext x
    unfold z_put z_imi
    by_cases c : x = 1504 * ((i : Int) + 1) + (k : Int)
    · subst c
      rw [if_pos rfl, if_pos (by omega)]
      congr 1 <;> omega
    · rw [if_neg c]
      by_cases c2 : 1504 * ((i : Int) + 1) ≤ x ∧ x < 1504 * ((i : Int) + 1) + (k : Int)
      · rw [if_pos c2, if_pos (by omega)]
      · rw [if_neg c2, if_neg (by omega)]
theorem r_image {d : Nat} {M : q_Mem} {K : Int → q_Mem → Prop} {i : Int} (hd : 1 < d) (h0 : ¬ (0 ≤ i ∧ i < 2) → ∀ M', z_fr [] [0] M M' → K (-2) M') (h1 : (0 ≤ i ∧ i < 2) → ∀ M', z_fr [179, 180] [0] M M' → M' 179 = z_imi (M 179) i.toNat 1504 → M' 180 = z_put (M 180) i 1 → K 0 M') : q_kI yX12_image mX12_image d [qR 178, qI i] M K := by
  refine q_goI hd rfl (plainFor_of_name (by decide +kernel)) rfl (fun h => nomatch h) (Nat.le_of_ble_eq_true rfl) (fun d hd => bX12_image_0 _ (fun M1 e1 => ?_))
  have f1 : z_fr [] [0] M M1 := by rw [e1]; exact z_fr_f (by decide)
  refine k_within (by omega) (fun g1 g2 => ⟨fun _ => ?_, fun q => absurd q (by decide)⟩) (fun g => ⟨fun q => absurd rfl q, fun _ => h0 (by omega) M1 f1⟩)
  obtain ⟨m, rfl⟩ : ∃ m : Nat, i = (m : Int) := ⟨i.toNat, by omega⟩
  rw [Int.toNat_natCast] at h1
  have o1 : M1 179 = M 179 := f1.1 179 (by decide) (by decide)
  have h80 : M1 180 = M 180 := f1.1 180 (by decide) (by decide)
  exact l_rimg (M0 := M1) (by omega) (fun M' f' a' b' => h1 (by omega) M' (z_fr_tr (z_fr_mono f1 (by decide) (by decide)) (z_fr_mono f' (by decide) (by decide))) (by rw [a', o1]) (by rw [b', h80])) 1504 0 M1 (by omega) z_fr_rf (by funext x; unfold z_imi; rw [if_neg (by omega)])
