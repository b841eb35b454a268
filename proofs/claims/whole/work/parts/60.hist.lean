-- the class: standings copied, the history
theorem z_k7n : ∀ n : Nat, n < 208 → q_kd (n : Int) = 7 → q_lay n 2 = (n : Int) + 1 ∧ q_lay n 3 = (n : Int) + 2 ∧ q_kd ((n : Int) + 1) = 14 ∧ q_kd ((n : Int) + 2) = 14 := by decide +kernel
theorem z_k7 {x : Int} (h : q_kd x = 7) : q_lay x 2 = x + 1 ∧ q_lay x 3 = x + 2 ∧ q_kd (x + 1) = 14 ∧ q_kd (x + 2) = 14 := by
  have h1 := z_kd_in (a := x) (by rw [h]; decide)
  have := z_k7n x.toNat (by omega)
  rw [show ((x.toNat : Nat) : Int) = x by omega] at this
  exact this h
theorem z_sd_mk {M M' : q_Mem} {x y b : Int} {o : Int → Int} (hn : z_net o) (h : z_sd M x o b) (e0 : M' y 0 = M x 0) (e1 : M' y 1 = M x 1) (e2 : ∀ k : Int, 0 ≤ k → k < 16 → M' (y + 1) k = M (x + 1) k) (e3 : ∀ k : Int, 0 ≤ k → k < 160 → M' (y + 2) k = M (x + 2) k) : z_sd M' y o b := by
  have hL := z_net_L16 hn
  have hN := z_net_N10 hn
  obtain ⟨h1, h2, h3, h4⟩ := h
  refine ⟨e0.trans h1, e1.trans h2, fun l hl => by rw [e2 _ (by omega) (by omega)]; exact h3 l hl, fun n hn2 i hi => ?_⟩
  have dg := z_net_dg hn (n := n) (by omega)
  rw [e3 _ (by omega) (by omega)]
  exact h4 n hn2 i hi
theorem k_stake {d : Nat} {M : q_Mem} {K : q_Mem → Prop} {x y : Int} (hd : 1 < d) (kx : q_kd x = 7) (ky : q_kd y = 7) (ne : x ≠ y) (h : ∀ M', z_cf [x, x + 1, x + 2] M M' → (∀ o b, z_net o → z_sd M y o b → z_sd M' x o b) → K M') : q_kU yX7_takeFrom mX7_takeFrom d [qR x, qR y] M K := by
  have lx := z_k7 kx
  have ly := z_k7 ky
  have n1 : y ≠ x + 1 := fun e => by rw [e, lx.2.2.1] at ky; exact absurd ky (by decide)
  have n2 : y ≠ x + 2 := fun e => by rw [e, lx.2.2.2] at ky; exact absurd ky (by decide)
  have n3 : x ≠ y + 1 := fun e => by rw [e, ly.2.2.1] at kx; exact absurd kx (by decide)
  have n4 : x ≠ y + 2 := fun e => by rw [e, ly.2.2.2] at kx; exact absurd kx (by decide)
  refine q_goU hd rfl (plainFor_of_name (by decide +kernel)) rfl (fun h => nomatch h) (Nat.le_of_ble_eq_true rfl) (fun d hd => bX7_takeFrom_0 _ _ kx ky (fun M1 e1 M2 e2 => ⟨⟨by omega, by omega, by omega⟩, fun M4 e4 => ⟨⟨by omega, by omega, by omega⟩, fun M6 e6 => ?_⟩⟩))
  rw [lx.1, ly.1] at e4
  rw [lx.2.1, ly.2.1] at e6
  have f1 : ∀ a, a ≠ x → M1 a = M a := fun a g => by rw [e1, q_up_o g]
  have f2 : ∀ a, a ≠ x → M2 a = M a := fun a g => by rw [e2, q_up_o g, f1 a g]
  have f4 : ∀ a, a ≠ x → a ≠ x + 1 → M4 a = M a := fun a g g1 => by rw [e4, q_cp_o g1, f2 a g]
  have f6 : ∀ a, a ≠ x → a ≠ x + 1 → a ≠ x + 2 → M6 a = M a := fun a g g1 g2 => by rw [e6, q_cp_o g2, f4 a g g1]
  refine h M6 (fun a ha => f6 a (fun e => ha (by simp [e])) (fun e => ha (by simp [e])) (fun e => ha (by simp [e]))) (fun o b hn hs => z_sd_mk hn hs ?_ ?_ (fun k k1 k2 => ?_) (fun k k1 k2 => ?_))
  · rw [e6, q_cp_o (by omega), e4, q_cp_o (by omega), e2, q_up_n (by decide), e1, q_up_s]
  · rw [e6, q_cp_o (by omega), e4, q_cp_o (by omega), e2, q_up_s, f1 y (by omega)]
  · rw [e6, q_cp_o (by omega), e4]
    unfold q_cp
    rw [if_pos ⟨rfl, by omega, by omega⟩, f2 (y + 1) (by omega)]
    congr 1 <;> omega
  · rw [e6]
    unfold q_cp
    rw [if_pos ⟨rfl, by omega, by omega⟩, f4 (y + 2) (by omega) (by omega)]
    congr 1 <;> omega
/-- where the i-th of n kept lies -/
def z_ka (top n i : Nat) : Int := 58 + 3 * (((top + 10 - n + i) % 10 : Nat) : Int)
def z_hs (M : q_Mem) (o : Int → Int) : Prop := ∃ top n : Nat, top < 10 ∧ n ≤ 10 ∧ M 56 1 = (top : Int) ∧ M 56 0 = (n : Int) ∧ o 102 = (n : Int) ∧ ∀ i : Nat, i < n → z_sd M (z_ka top n i) o (103 + 50 * (i : Int)) ∧ z_ok o (103 + 50 * (i : Int))
theorem z_hs_n {M : q_Mem} {o : Int → Int} (h : z_hs M o) : 0 ≤ o 102 ∧ o 102 ≤ 10 := by
  obtain ⟨t, n, a, b, c, d, e, f⟩ := h
  omega
theorem z_hs_s {M : q_Mem} {o : Int → Int} (h : z_hs M o) : M 56 0 = o 102 := by
  obtain ⟨t, n, a, b, c, d, e, f⟩ := h
  omega
theorem z_hs_eq {M M' : q_Mem} {o : Int → Int} (h : z_hs M o) (e : ∀ a, 56 ≤ a → a ≤ 87 → M' a = M a) : z_hs M' o := by
  obtain ⟨t, n, a, b, c, d, e1, f⟩ := h
  refine ⟨t, n, a, b, by rw [e 56 (by omega) (by omega)]; exact c, by rw [e 56 (by omega) (by omega)]; exact d, e1, fun i hi => ⟨?_, (f i hi).2⟩⟩
  unfold z_ka at f ⊢
  exact z_sd_eq (f i hi).1 (e _ (by omega) (by omega)) (e _ (by omega) (by omega)) (e _ (by omega) (by omega))
/-- only what is kept has changed -/
def z_onh (o o' : Int → Int) : Prop := ∀ j : Int, ¬ (102 ≤ j ∧ j < 603) → o' j = o j
theorem z_onh_n {o o' : Int → Int} (h : z_onh o o') : z_eqn o o' := fun j g => h j (by omega)
theorem z_onh_r {o o' : Int → Int} (h : z_onh o o') : z_eqr o o' := fun j g1 g2 => h j (by omega)
theorem z_onh_w {o o' : Int → Int} (h : z_onh o o') : z_eqw o o' := ⟨h 1 (by omega), fun l _ => h _ (by omega)⟩
theorem z_onh_note {o w : Int → Int} (h : 0 ≤ o 102 ∧ o 102 ≤ 10) : z_onh o (z_note o w) := by
  intro j g
  unfold z_note
  split
  · rw [z_put_n (by omega)]
    unfold z_wri
    rw [if_neg (by omega), z_put_n (by omega)]
    unfold z_shi
    rw [if_neg (by omega)]
  · rw [z_put_n (by omega)]
    unfold z_wri
    rw [if_neg (by omega)]
theorem z_E_h {o o' : Int → Int} (h : z_onh o o') (hE : z_E o) : z_E o' := z_E_of (e_net (z_onh_n h) hE.1) (e_laws (z_onh_n h) hE.2.1) (e_ok (z_onh_n h) hE.1 (fun j g1 g2 => h _ (by omega)) (z_ok_of hE))
theorem z_s_h {o o' : Int → Int} (h : z_onh o o') : z_s o' = z_s o := by unfold z_s; rw [h 2 (by omega)]
theorem z_cst_h {o o' : Int → Int} (h : z_onh o o') (hE : z_E o) {M : q_Mem} (q : z_cst M o) : z_cst M o' := ⟨q.1, e_pl (z_onh_n h) hE.1 hE.2.1 q.2.1, e_sd (z_onh_n h) hE.1 (fun j g1 g2 => h _ (by omega)) q.2.2⟩
theorem z_ca_h {o o' : Int → Int} (h : z_onh o o') (hE : z_E o) {M : q_Mem} {fr : Nat} (q : z_ca M o fr) : z_ca M o' fr := ⟨q.1, q.2.1, fun k hk hb => e_hv (z_onh_n h) hE (fun _ => z_onh_r h) (fun _ => z_onh_w h) (q.2.2 k hk hb)⟩
/-- one kept more: the record -/
theorem z_note_v {o o1 w : Int → Int} (ho : z_ost o o1) (hb : 0 ≤ o 102 ∧ o 102 ≤ 10) {i : Nat} {j : Int} (h0 : 0 ≤ j) (h50 : j < 50) :
    (o 102 < 10 → (z_note o1 w 102 = o 102 + 1 ∧ ((i : Int) < o 102 → z_note o1 w (103 + 50 * (i : Int) + j) = o (103 + 50 * (i : Int) + j)) ∧ ((i : Int) = o 102 → z_note o1 w (103 + 50 * (i : Int) + j) = w j))) ∧
    (o 102 = 10 → (z_note o1 w 102 = 10 ∧ (i < 9 → z_note o1 w (103 + 50 * (i : Int) + j) = o (103 + 50 * ((i : Int) + 1) + j)) ∧ (i = 9 → z_note o1 w (103 + 50 * (i : Int) + j) = w j))) := by
  have e102 : o1 102 = o 102 := ho 102 (by omega)
  unfold z_note
  rw [e102]
  constructor
  · intro g
    rw [if_neg (by omega)]
    refine ⟨z_put_s, fun gi => ?_, fun gi => ?_⟩
    · rw [z_put_n (by omega)]
      unfold z_wri
      rw [if_neg (by omega)]
      exact ho _ (by omega)
    · rw [z_put_n (by omega)]
      unfold z_wri
      rw [if_pos (by omega)]
      congr 1 <;> omega
  · intro g
    rw [if_pos g]
    refine ⟨z_put_s, fun gi => ?_, fun gi => ?_⟩
    · rw [z_put_n (by omega)]
      unfold z_wri
      rw [if_neg (by omega), z_put_n (by omega)]
      unfold z_shi
      rw [if_pos (by omega), ho _ (by omega)]
      congr 1 <;> omega
    · rw [z_put_n (by omega)]
      unfold z_wri
      rw [if_pos (by omega)]
      congr 1 <;> omega
theorem z_hs_note {M M' : q_Mem} {o o1 : Int → Int} (hE : z_E o) (ho : z_ost o o1) {top n : Nat} (ht : top < 10) (hn : n ≤ 10) (e102 : o 102 = (n : Int)) (h : ∀ i : Nat, i < n → z_sd M (z_ka top n i) o (103 + 50 * (i : Int)) ∧ z_ok o (103 + 50 * (i : Int)))
    (t' : M' 56 1 = (((top + 1) % 10 : Nat) : Int)) (n' : M' 56 0 = min ((n : Int) + 1) 10) (f : ∀ a, a ≠ 56 → a ≠ 58 + 3 * (top : Int) → a ≠ 58 + 3 * (top : Int) + 1 → a ≠ 58 + 3 * (top : Int) + 2 → M' a = M a) (g : z_sd M' (58 + 3 * (top : Int)) o 1) : z_hs M' (z_note o1 (fun k => o (1 + k))) := by
  have hb : 0 ≤ o 102 ∧ o 102 ≤ 10 := by omega
  have hb1 : 0 ≤ o1 102 ∧ o1 102 ≤ 10 := by rw [ho 102 (by omega)]; exact hb
  have en : z_eqn o (z_note o1 (fun k => o (1 + k))) := z_eqn_tr (z_ost_n ho) (z_onh_n (z_onh_note hb1))
  have old : ∀ i k : Nat, k < n → ((top + 10 - n + k) % 10 ≠ top) → (∀ j : Int, 0 ≤ j → j < 50 → z_note o1 (fun k => o (1 + k)) (103 + 50 * (i : Int) + j) = o (103 + 50 * (k : Int) + j)) → z_sd M' (z_ka top n k) (z_note o1 (fun k => o (1 + k))) (103 + 50 * (i : Int)) ∧ z_ok (z_note o1 (fun k => o (1 + k))) (103 + 50 * (i : Int)) := by
    intro i k hk hne hv
    obtain ⟨q1, q2⟩ := h k hk
    refine ⟨e_sd en hE.1 hv ?_, e_ok en hE.1 hv q2⟩
    unfold z_ka at q1 ⊢
    exact z_sd_eq q1 (f _ (by omega) (by omega) (by omega) (by omega)) (f _ (by omega) (by omega) (by omega) (by omega)) (f _ (by omega) (by omega) (by omega) (by omega))
  have new : ∀ i : Nat, (∀ j : Int, 0 ≤ j → j < 50 → z_note o1 (fun k => o (1 + k)) (103 + 50 * (i : Int) + j) = o (1 + j)) → z_sd M' (58 + 3 * (top : Int)) (z_note o1 (fun k => o (1 + k))) (103 + 50 * (i : Int)) ∧ z_ok (z_note o1 (fun k => o (1 + k))) (103 + 50 * (i : Int)) :=
    fun i hv => ⟨e_sd en hE.1 hv g, e_ok en hE.1 hv (z_ok_of hE)⟩
  have nv := fun (i : Nat) (j : Int) (a : 0 ≤ j) (b : j < 50) => z_note_v (w := fun k => o (1 + k)) ho hb (i := i) a b
  by_cases c : n = 10
  · subst c
    have c0 := ((nv 0 0 (by omega) (by omega)).2 e102).1
    refine ⟨(top + 1) % 10, 10, by omega, by omega, t', by rw [n']; omega, c0, fun i hi => ?_⟩
    by_cases c9 : i = 9
    · have := new i (fun j a b => ((nv i j a b).2 e102).2.2 c9)
      unfold z_ka
      rw [show 58 + 3 * ((((top + 1) % 10 + 10 - 10 + i) % 10 : Nat) : Int) = 58 + 3 * (top : Int) by omega]
      exact this
    · have := old i (i + 1) (by omega) (by omega) (fun j a b => by rw [((nv i j a b).2 e102).2.1 (by omega)]; congr 1 <;> omega)
      unfold z_ka at this ⊢
      rw [show ((top + 1) % 10 + 10 - 10 + i) % 10 = (top + 10 - 10 + (i + 1)) % 10 by omega]
      exact this
  · have c0 := ((nv 0 0 (by omega) (by omega)).1 (by omega)).1
    refine ⟨(top + 1) % 10, n + 1, by omega, by omega, t', by rw [n']; omega, by rw [c0, e102]; omega, fun i hi => ?_⟩
    by_cases c9 : i = n
    · have := new i (fun j a b => ((nv i j a b).1 (by omega)).2.2 (by omega))
      unfold z_ka
      rw [show 58 + 3 * ((((top + 1) % 10 + 10 - (n + 1) + i) % 10 : Nat) : Int) = 58 + 3 * (top : Int) by omega]
      exact this
    · have := old i i (by omega) (by omega) (fun j a b => ((nv i j a b).1 (by omega)).2.1 (by omega))
      unfold z_ka at this ⊢
      rw [show ((top + 1) % 10 + 10 - (n + 1) + i) % 10 = (top + 10 - n + i) % 10 by omega]
      exact this
theorem z_l57 : ∀ n : Nat, n < 10 → q_lay 57 n = 58 + 3 * (n : Int) ∧ q_kd (58 + 3 * (n : Int)) = 7 := by decide +kernel
theorem k_keep {d : Nat} {M : q_Mem} {K : q_Mem → Prop} {x : Int} {o : Int → Int} (hd : 2 < d) (hx : x = 50 ∨ x = 53) (hE : z_E o) (hs : z_hs M o) (hd1 : z_sd M x o 1) (h : ∀ M', (∀ a, ¬ (56 ≤ a ∧ a ≤ 87) → M' a = M a) → (∀ o1, z_ost o o1 → z_hs M' (z_note o1 (fun k => o (1 + k)))) → K M') : q_kU yX0_keep mX0_keep d [qR 56, qR x] M K := by
  obtain ⟨top, n, ht, hn, e1, e0, e102, hk⟩ := hs
  have kx : q_kd x = 7 := by rcases hx with rfl | rfl <;> decide +kernel
  have l := z_l57 top ht
  refine q_goU hd rfl (plainFor_of_name (by decide +kernel)) rfl (fun h => nomatch h) (Nat.le_of_ble_eq_true rfl) (fun d hd => bX0_keep_0 _ kx ?_)
  rw [e1, Int.toNat_natCast, l.1]
  refine ⟨by omega, l.2, k_stake (by omega) l.2 kx (by omega) (fun M3 f3 s3 M4 e4 => ?_)⟩
  have g3 : ∀ a, a ≠ 58 + 3 * (top : Int) → a ≠ 58 + 3 * (top : Int) + 1 → a ≠ 58 + 3 * (top : Int) + 2 → M3 a = M a := fun a q1 q2 q3 => f3 a (by simp [q1, q2, q3])
  have q1 : M3 56 = M 56 := g3 56 (by omega) (by omega) (by omega)
  rw [q1, e1, q_add_eq (by omega), q_rem_nn (by unfold q_in32; omega) (by unfold q_in32; decide) (by omega) (by decide)] at e4
  have e40 : M4 56 0 = (n : Int) := by rw [e4, q_up_n (by decide), q1, e0]
  rw [e40, q_add_eq (by omega)]
  refine k_min (by omega) (fun M7 e7 => h M7 (fun a ha => ?_) (fun o1 ho => ?_))
  · rw [e7, q_up_o (by omega), e4, q_up_o (by omega)]
    exact g3 a (by omega) (by omega) (by omega)
  · refine z_hs_note (M := M) hE ho ht hn e102 hk ?_ ?_ (fun a a1 a2 a3 a4 => ?_) (z_sd_eq (s3 o 1 hE.1 hd1) ?_ ?_ ?_)
    · rw [e7, q_up_n (by decide), e4, q_up_s]; omega
    · rw [e7, q_up_s]
    · rw [e7, q_up_o a1, e4, q_up_o a1]; exact g3 a a2 a3 a4
    · rw [e7, q_up_o (by omega), e4, q_up_o (by omega)]
    · rw [e7, q_up_o (by omega), e4, q_up_o (by omega)]
    · rw [e7, q_up_o (by omega), e4, q_up_o (by omega)]
/-- taken back -/
def z_und (o : Int → Int) (m : Int) : Int → Int := fun j => if j = 102 then m else if 1 ≤ j ∧ j < 51 then o (103 + 50 * m + (j - 1)) else o j
theorem z_und_n {o : Int → Int} {m : Int} : z_eqn o (z_und o m) := fun j g => by
  unfold z_und
  rw [if_neg (by omega), if_neg (by omega)]
theorem k_takeBack {d : Nat} {M : q_Mem} {K : q_Mem → Prop} {o : Int → Int} {n : Int} (hd : 2 < d) (hE : z_E o) (hs : z_hs M o) (h1 : 1 ≤ n) (h2 : n ≤ o 102) (h : ∀ M', (∀ a, ¬ (50 ≤ a ∧ a ≤ 52) → a ≠ 56 → M' a = M a) → z_hs M' (z_und o (o 102 - n)) → z_sd M' 50 (z_und o (o 102 - n)) 1 → z_E (z_und o (o 102 - n)) → M' 56 0 = o 102 - n → K M') : q_kU yX0_takeBack mX0_takeBack d [qR 56, qI n, qR 50] M K := by
  obtain ⟨top, c, ht, hc, e1, e0, e102, hk⟩ := hs
  obtain ⟨m, hm⟩ : ∃ m : Nat, o 102 - n = (m : Int) := ⟨(o 102 - n).toNat, by omega⟩
  have en := z_und_n (o := o) (m := (m : Int))
  have hv : ∀ i : Nat, ∀ j : Int, 0 ≤ j → j < 50 → z_und o m (103 + 50 * (i : Int) + j) = o (103 + 50 * (i : Int) + j) := fun i j a b => by
    unfold z_und
    rw [if_neg (by omega), if_neg (by omega)]
  have hw : ∀ j : Int, 0 ≤ j → j < 50 → z_und o m (1 + j) = o (103 + 50 * (m : Int) + j) := fun j a b => by
    unfold z_und
    rw [if_neg (by omega), if_pos (by omega)]
    congr 1 <;> omega
  rw [hm] at h
  refine q_goU hd rfl (plainFor_of_name (by decide +kernel)) rfl (fun h => nomatch h) (Nat.le_of_ble_eq_true rfl) (fun d hd => bX0_takeBack_0 _ _ (by decide +kernel) ?_)
  rw [e1, q_sub_eq (by omega)]
  refine k_floorMod (by omega) (by omega) (fun M3 e3 => ?_)
  have e30 : M3 56 0 = (c : Int) := by rw [e3, q_up_n (by decide), e0]
  rw [e30, q_sub_eq (by omega)]
  refine k_max (by omega) (fun M6 e6 => ?_)
  have e61 : M6 56 1 = (((top + 10 - c + m) % 10 : Nat) : Int) := by rw [e6, q_up_n (by decide), e3, q_up_s]; omega
  have l := z_l57 ((top + 10 - c + m) % 10) (by omega)
  rw [e61, Int.toNat_natCast, l.1]
  refine ⟨by omega, k_stake (by omega) (by decide +kernel) l.2 (by omega) (fun M8 f8 s8 => ?_)⟩
  have g8 : ∀ a, ¬ (50 ≤ a ∧ a ≤ 52) → M8 a = M6 a := fun a q => f8 a (by simp; omega)
  have g6 : ∀ a, a ≠ 56 → M6 a = M a := fun a q => by rw [e6, q_up_o q, e3, q_up_o q]
  have f : ∀ a, ¬ (50 ≤ a ∧ a ≤ 52) → a ≠ 56 → M8 a = M a := fun a q1 q2 => (g8 a q1).trans (g6 a q2)
  have km := hk m (by omega)
  have e80 : M8 56 0 = (m : Int) := by rw [g8 56 (by omega), e6, q_up_s]; omega
  refine h M8 f ⟨(top + 10 - c + m) % 10, m, by omega, by omega, by rw [g8 56 (by omega)]; exact e61, e80, by unfold z_und; rw [if_pos rfl], fun i hi => ?_⟩ ?_ ?_ e80
  · obtain ⟨q1, q2⟩ := hk i (by omega)
    refine ⟨e_sd en hE.1 (hv i) ?_, e_ok en hE.1 (hv i) q2⟩
    unfold z_ka at q1 ⊢
    rw [show ((top + 10 - c + m) % 10 + 10 - m + i) % 10 = (top + 10 - c + i) % 10 by omega]
    exact z_sd_eq q1 (f _ (by omega) (by omega)) (f _ (by omega) (by omega)) (f _ (by omega) (by omega))
  · refine e_sd en hE.1 hw (s8 o _ hE.1 ?_)
    have := km.1
    unfold z_ka at this
    exact z_sd_eq this (g6 _ (by omega)) (g6 _ (by omega)) (g6 _ (by omega))
  · exact z_E_of (e_net en hE.1) (e_laws en hE.2.1) (e_ok en hE.1 hw km.2)
theorem k_forget {d : Nat} {M : q_Mem} {K : q_Mem → Prop}  (hd : 0 < d) (h : ∀ M', M' = q_up M 56 0 0 → K M') : q_kU yX0_forget mX0_forget d [qR 56] M K :=
  q_goU hd rfl (plainFor_of_name (by decide +kernel)) rfl (fun h => nomatch h) (Nat.le_of_ble_eq_true rfl) (fun d hd => bX0_forget_0 h)
