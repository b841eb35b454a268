-- days by draws
def z_rg (x : Int) : Int := q_add (q_mul 1103515245 x) 12345
def z_dso (x : Int) : Int := q_rem (q_ushr (z_rg x) 16) 6
def z_dfi (x : Int) : Int := q_ushr (z_rg (z_rg x)) 16
def z_dse (x : Int) : Int := q_ushr (z_rg (z_rg (z_rg x))) 16
def z_dv (x : Int) : Int := if z_dso x < 2 then q_rem (z_dfi x) 10 else if z_dso x = 2 then q_add 10 (q_rem (z_dfi x) 10) else if z_dso x = 3 then q_add 100 (q_rem (z_dfi x) 160) else q_add (q_add 1000 (q_mul 1000 (q_rem (z_dfi x) 16))) (q_rem (z_dse x) 199)
def z_dx (x : Int) : Int := if z_dso x ≤ 3 then z_rg (z_rg x) else z_rg (z_rg (z_rg x))
/-- so many days' deeds -/
def z_dy : Nat → Int → (Int → Int) → Nat → (Int → Int) → Prop
  | 0, _, o, n, o' => n = 0 ∧ o' = o
  | k + 1, x, o, n, o' => (z_can o (z_dv x) ∧ ∃ n2, n = n2 + 1 ∧ z_dy k (z_dx x) (z_do o (z_dv x)) n2 o') ∨ (¬ z_can o (z_dv x) ∧ z_dy k (z_dx x) o n o')
theorem z_dy_un : ∀ {k : Nat} {x : Int} {o : Int → Int} {n1 n2 : Nat} {o1 o2 : Int → Int}, z_dy k x o n1 o1 → z_dy k x o n2 o2 → n1 = n2 ∧ o1 = o2
  | 0, _, _, _, _, _, _, a, b => ⟨a.1.trans b.1.symm, a.2.trans b.2.symm⟩
  | k + 1, x, o, n1, n2, o1, o2, a, b => by
    rcases a with ⟨a1, p, a2, a3⟩ | ⟨a1, a2⟩ <;> rcases b with ⟨b1, q, b2, b3⟩ | ⟨b1, b2⟩
    · have := z_dy_un a3 b3
      exact ⟨by omega, this.2⟩
    · exact absurd a1 b1
    · exact absurd b1 a1
    · exact z_dy_un a2 b2
theorem z_dy_ok : ∀ {k : Nat} {x : Int} {o : Int → Int} {n : Nat} {o' : Int → Int}, z_E o → z_dy k x o n o' → z_E o' ∧ z_ost o o' ∧ n ≤ k ∧ (n = 0 → o' = o)
  | 0, _, o, n, o', hE, a => by
    obtain ⟨a, b⟩ := a
    subst b
    exact ⟨hE, z_ost_rf, by omega, fun _ => rfl⟩
  | k + 1, x, o, n, o', hE, a => by
    rcases a with ⟨a1, p, a2, a3⟩ | ⟨a1, a2⟩
    · have d := z_E_do hE a1
      obtain ⟨b1, b2, b3, b4⟩ := z_dy_ok d.1 a3
      exact ⟨b1, z_ost_tr d.2 b2, by omega, fun g => by omega⟩
    · obtain ⟨b1, b2, b3, b4⟩ := z_dy_ok hE a2
      exact ⟨b1, b2, by omega, b4⟩
theorem k_cdrawn {d : Nat} {M : q_Mem} {K : Int → q_Mem → Prop} {x : Int} (hd : 0 < d) (h : K (z_rg x) M) : q_kI yX11_drawn mX11_drawn d [qI x] M K :=
  q_goI hd rfl (plainFor_of_name (by decide +kernel)) rfl (fun h => nomatch h) (Nat.le_of_ble_eq_true rfl) (fun d hd => bX11_drawn_0 _ h)
theorem k_draw {d : Nat} {M : q_Mem} {K : Int → q_Mem → Prop} {b : Int} (hd : 0 < d) (hb : b ≠ 0) (h : ∀ M', M' = q_up M 178 28 (z_rg (M 178 28)) → K (q_rem (q_ushr (z_rg (M 178 28)) 16) b) M') : q_kI yX12_draw mX12_draw d [qR 178, qI b] M K :=
  q_goI hd rfl (plainFor_of_name (by decide +kernel)) rfl (fun h => nomatch h) (Nat.le_of_ble_eq_true rfl) (fun d hd => bX12_draw_0 _ (fun M1 e1 => ⟨hb, by rw [show M1 178 28 = z_rg (M 178 28) by rw [e1, q_up_s]; rfl]; exact h M1 e1⟩))
theorem k_drawn {d : Nat} {M : q_Mem} {K : Int → q_Mem → Prop} {x : Int} (hd : 1 < d) (hx : M 178 28 = x) (h : ∀ M', z_fr [] [28] M M' → M' 178 28 = z_dx x → K (z_dv x) M') : q_kI yX12_drawn mX12_drawn d [qR 178] M K := by
  refine q_goI hd rfl (plainFor_of_name (by decide +kernel)) rfl (fun h => nomatch h) (Nat.le_of_ble_eq_true rfl) (fun d hd => bX12_drawn_0 (k_draw (by omega) (by decide) (fun M1 e1 => ?_)))
  rw [hx] at e1 ⊢
  have x1 : M1 178 28 = z_rg x := by rw [e1, q_up_s]
  have f1 : z_fr [] [28] M M1 := by rw [e1]; exact z_fr_f (by decide)
  have two : ∀ b : Int, b ≠ 0 → ∀ K2 : Int → q_Mem → Prop, (∀ M', z_fr [] [28] M M' → M' 178 28 = z_rg (z_rg x) → K2 (q_rem (z_dfi x) b) M') → q_kI yX12_draw mX12_draw d [qR 178, qI b] M1 K2 := fun b hb K2 hh => k_draw (by omega) hb (fun M2 e2 => by
    rw [x1] at e2 ⊢
    exact hh M2 (z_fr_tr f1 (by rw [e2]; exact z_fr_f (by decide))) (by rw [e2, q_up_s]))
  unfold z_dx z_dv at h
  refine ⟨fun g => ⟨fun g2 => ⟨fun g3 => ?_, fun g3 => ?_⟩, fun g2 => ?_⟩, fun g => ?_⟩
  · have g : (2 : Int) ≤ z_dso x := g
    have g2 : ¬ z_dso x = 2 := g2
    have g3 : ¬ z_dso x = 3 := g3
    refine two 16 (by decide) _ (fun M2 f2 e2 x5 e5 => k_draw (by omega) (by decide) (fun M3 e3 => ?_))
    rw [e2] at e3 ⊢
    have := h M3 (z_fr_tr f2 (by rw [e3]; exact z_fr_f (by decide)))
    by_cases c : z_dso x ≤ 3
    · omega
    · rw [if_neg c, if_neg (by omega), if_neg g2, if_neg g3] at this
      rw [e5]
      exact this (by rw [e3, q_up_s])
  · have g3 : z_dso x = 3 := g3
    refine two 160 (by decide) _ (fun M2 f2 e2 => ?_)
    have := h M2 f2
    rw [if_pos (by omega), if_neg (by omega), if_neg (by omega), if_pos g3] at this
    exact this e2
  · have g2 : z_dso x = 2 := g2
    refine two 10 (by decide) _ (fun M2 f2 e2 => ?_)
    have := h M2 f2
    rw [if_pos (by omega), if_neg (by omega), if_pos g2] at this
    exact this e2
  · have g : ¬ (2 : Int) ≤ z_dso x := g
    refine two 10 (by decide) _ (fun M2 f2 e2 => ?_)
    have := h M2 f2
    rw [if_pos (by omega), if_pos (by omega)] at this
    exact this e2
theorem l_rday {d : Nat} {M0 : q_Mem} {K : Int → q_Mem → Prop} {T : Nat} {x0 : Int} {o0 : Int → Int} (hd : 4 ≤ d) (hT : T ≤ 40) (hb : 0 ≤ o0 102 ∧ o0 102 ≤ 10)
    (h : ∀ (M' : q_Mem) (n : Nat) (o1 : Int → Int), z_fr [179] [28] M0 M' → z_dy T x0 o0 n o1 → M' 179 = (if n = 0 then o1 else z_note o1 (M0 193)) → K (n : Int) M') :
    ∀ (j i n : Nat) (M : q_Mem) (x : Int), i + j = T → n ≤ i → z_fr [179] [28] M0 M → z_E (M 179) → M 179 102 = o0 102 → M 178 28 = x → (∀ n2 o1, z_dy j x (M 179) n2 o1 → z_dy T x0 o0 (n + n2) o1) → q_v mX12_day d (qPI K) M 34 [some (qR 178), none, some (qI (T : Int)), some (qI (n : Int)), some (qI (i : Int)), none] [] := by
  intro j
  induction j with
  | zero =>
    intro i n M x e hn f hE h102 hx q
    have ei : i = T := by omega
    subst ei
    have := q 0 (M 179) ⟨rfl, rfl⟩
    refine bX12_day_34 _ _ _ ⟨fun _ => ⟨fun g => ?_, fun g => k_notes (by omega) (by rw [h102]; exact hb) (fun M6 f6 e6 => ?_)⟩, fun g => absurd (by omega) g⟩
    · exact h M n (M 179) f this (by rw [if_pos (by omega)])
    · refine h M6 n (M 179) (z_fr_tr f (z_fr_mono f6 (by decide) (by decide))) this ?_
      rw [if_neg (by omega), e6, f.1 193 (by decide) (by decide)]
  | succ j ih =>
    intro i n M x e hn f hE h102 hx q
    refine bX12_day_34 _ _ _ ⟨fun g => absurd g (by omega), fun _ => k_drawn (x := x) (by omega) hx (fun M2 f2 e2 => ?_)⟩
    have o2 : M2 179 = M 179 := f2.1 179 (by decide) (by decide)
    have F2 : z_fr [179] [28] M0 M2 := z_fr_tr f (z_fr_mono f2 (by decide) (by decide))
    rw [q_add_eq (a := (i : Int)) (by omega), q_add_eq (a := (n : Int)) (by omega), show (i : Int) + 1 = ((i + 1 : Nat) : Int) by omega, show (n : Int) + 1 = ((n + 1 : Nat) : Int) by omega]
    refine k_canBe (by omega) (by rw [o2]; exact hE.1) (fun g => ⟨fun _ => ?_, fun q => absurd q (by decide)⟩) (fun g => ⟨fun q => absurd rfl q, fun _ => ?_⟩)
    · rw [o2] at g
      refine k_does (by omega) (by rw [o2]; exact hE) (by rw [o2]; exact g) (fun M6 f6 e6 => ?_)
      rw [o2] at e6
      have d := z_E_do hE g
      refine ih (i + 1) (n + 1) M6 (z_dx x) (by omega) (by omega) (z_fr_tr F2 (z_fr_mono f6 (by decide) (by decide))) (by rw [e6]; exact d.1) (by rw [e6, d.2 102 (by omega)]; exact h102) (by rw [f6.2 28 (by decide)]; exact e2) (fun n2 o1 a => ?_)
      rw [e6] at a
      have := q (n2 + 1) o1 (Or.inl ⟨g, n2, rfl, a⟩)
      rw [show n + 1 + n2 = n + (n2 + 1) by omega]
      exact this
    · rw [o2] at g
      exact ih (i + 1) n M2 (z_dx x) (by omega) (by omega) F2 (by rw [o2]; exact hE) (by rw [o2]; exact h102) e2 (fun n2 o1 a => q n2 o1 (Or.inr ⟨g, by rw [o2] at a; exact a⟩))
theorem r_day {d : Nat} {M : q_Mem} {K : Int → q_Mem → Prop} {x t : Int} (hd : 5 < d) (hE : z_E (M 179)) (hb : 0 ≤ M 179 102 ∧ M 179 102 ≤ 10) (h0 : ¬ (1 ≤ t ∧ t ≤ 40) → ∀ M', z_fr [] [0] M M' → K (-3) M') (h1 : (1 ≤ t ∧ t ≤ 40) → ∀ (M' : q_Mem) (n : Nat) (o1 : Int → Int), z_fr [179, 193] [0, 28] M M' → z_dy t.toNat x (M 179) n o1 → M' 179 = z_pfo (M 179) o1 n → K (n : Int) M') : q_kI yX12_day mX12_day d [qR 178, qI x, qI t] M K := by
  refine q_goI hd rfl (plainFor_of_name (by decide +kernel)) rfl (fun h => nomatch h) (Nat.le_of_ble_eq_true rfl) (fun d hd => bX12_day_0 _ _ (fun M1 e1 => ?_))
  have f1 : z_fr [] [0] M M1 := by rw [e1]; exact z_fr_f (by decide)
  have o1 : M1 179 = M 179 := f1.1 179 (by decide) (by decide)
  refine k_within (by omega) (fun g1 g2 => ⟨fun _ => k_stores (by omega) (fun M4 f4 w4 M5 e5 => ?_), fun q => absurd q (by decide)⟩) (fun g => ⟨fun q => absurd rfl q, fun _ => h0 g M1 f1⟩)
  obtain ⟨T, rfl⟩ : ∃ m : Nat, t = (m : Int) := ⟨t.toNat, by omega⟩
  rw [Int.toNat_natCast] at h1
  have f5 : z_fr [] [28] M4 M5 := by rw [e5]; exact z_fr_f (by decide)
  have o5 : M5 179 = M 179 := (f5.1 179 (by decide) (by decide)).trans ((f4.1 179 (by decide) (by decide)).trans o1)
  refine l_rday (M0 := M5) (x0 := x) (o0 := M 179) (by omega) (by omega) hb (fun M' n o' f' dy e' => h1 ⟨g1, g2⟩ M' n o' (z_fr_tr (z_fr_tr (z_fr_tr (z_fr_mono f1 (by decide) (by decide)) (z_fr_mono f4 (by decide) (by decide))) (z_fr_mono f5 (by decide) (by decide))) (z_fr_mono f' (by decide) (by decide))) dy ?_) T 0 0 M5 x (by omega) (by omega) z_fr_rf (by rw [o5]; exact hE) (by rw [o5]) (by rw [e5, q_up_s]) (fun n2 o1 a => by rw [o5] at a; rw [Nat.zero_add]; exact a)
  have ok := z_dy_ok hE dy
  unfold z_pfo
  rw [e']
  by_cases c : n = 0
  · rw [if_pos c, if_pos c, ok.2.2.2 c]
  · rw [if_neg c, if_neg c]
    exact z_note_c (fun k hk => by rw [f5.1 193 (by decide) (by decide), w4 k hk, o1])
/-- the class's -/
theorem l_cday {d : Nat} {M0 : q_Mem} {K : Int → q_Mem → Prop} {T : Nat} {x0 : Int} {o0 : Int → Int} (hd : 5 ≤ d) (hT : T ≤ 40)
    (h : ∀ (M' : q_Mem) (n : Nat) (o1 : Int → Int), z_df M0 M' → z_dy T x0 o0 n o1 → z_RC M' o1 → ((n : Int) ≤ 0 → K (n : Int) M') ∧ (¬ (n : Int) ≤ 0 → q_kU yX0_keep mX0_keep d [qR 56, qR 53] M' (fun M1 => K (n : Int) M1))) :
    ∀ (j i n : Nat) (M : q_Mem) (o : Int → Int) (x : Int), i + j = T → n ≤ i → z_df M0 M → z_E o → z_RC M o → (∀ n2 o1, z_dy j x o n2 o1 → z_dy T x0 o0 (n + n2) o1) → q_v mX11_day d (qPI K) M 33 [some (qR 1), none, some (qI (T : Int)), some (qI x), some (qI (n : Int)), some (qI (i : Int)), none, none, none] [] := by
  intro j
  induction j with
  | zero =>
    intro i n M o x e hn f hE hc q
    have ei : i = T := by omega
    subst ei
    exact bX11_day_33 _ _ _ _ ⟨fun _ => h M n o f (q 0 o ⟨rfl, rfl⟩) hc, fun g => absurd (by omega) g⟩
  | succ j ih =>
    intro i n M o x e hn f hE hc q
    have go : ∀ x8 : Int, (¬ z_dso x ≤ 3 → x8 = z_dse x) → q_v mX11_day d (qPI K) M 84 [some (qR 1), none, some (qI (T : Int)), some (qI (z_dx x)), some (qI (n : Int)), some (qI (i : Int)), some (qI (z_dso x)), some (qI (z_dfi x)), some (qI x8)] [] := by
      intro x8 e8
      have last : ∀ K2 : Int → q_Mem → Prop, (∀ v, v = z_dv x → K2 v M) → q_kI yX11_deedOf mX11_deedOf d [qI (z_dso x), qI (z_dfi x), qI x8] M K2 := by
        intro K2 hh
        have hh := hh _ rfl
        unfold z_dv at hh
        have hd0 : 0 < d := by omega
        refine q_goI hd0 rfl (plainFor_of_name (by decide +kernel)) rfl (fun h => nomatch h) (Nat.le_of_ble_eq_true rfl) (fun d hd => bX11_deedOf_0 _ _ _ ⟨fun g => ⟨fun g2 => ⟨fun g3 => ?_, fun g3 => ?_⟩, fun g2 => ?_⟩, fun g => ?_⟩)
        · rw [if_neg (by omega), if_neg g2, if_neg g3] at hh
          rw [e8 (by omega)]; exact hh
        · rw [if_neg (by omega), if_neg g2, if_pos g3] at hh; exact hh
        · rw [if_neg (by omega), if_pos g2] at hh; exact hh
        · rw [if_pos (by omega)] at hh; exact hh
      refine bX11_day_84 _ _ _ _ _ _ _ (last _ (fun v ev => ?_))
      rw [ev, q_add_eq (a := (i : Int)) (by omega), q_add_eq (a := (n : Int)) (by omega), show (i : Int) + 1 = ((i + 1 : Nat) : Int) by omega, show (n : Int) + 1 = ((n + 1 : Nat) : Int) by omega]
      refine k_doDeed (by omega) hE hc (fun g M' f' c' => ⟨fun q => absurd q (by decide), fun _ => ?_⟩) (fun g => ⟨fun _ => ?_, fun q => absurd rfl q⟩)
      · refine ih (i + 1) (n + 1) M' _ (z_dx x) (by omega) (by omega) (z_df_tr f f') (z_E_do hE g).1 c' (fun n2 o1 a => ?_)
        have := q (n2 + 1) o1 (Or.inl ⟨g, n2, rfl, a⟩)
        rw [show n + 1 + n2 = n + (n2 + 1) by omega]
        exact this
      · exact ih (i + 1) n M o (z_dx x) (by omega) (by omega) f hE hc (fun n2 o1 a => q n2 o1 (Or.inr ⟨g, a⟩))
    unfold z_dx at go
    refine bX11_day_33 _ _ _ _ ⟨fun g => absurd g (by omega), fun _ => k_cdrawn (by omega) (fun x6 e6 => k_cdrawn (by omega) (fun x7 e7 => ⟨fun g => ?_, fun g => k_cdrawn (by omega) (fun x8 e8 => ?_)⟩))⟩
    · have g : z_dso x ≤ 3 := by rw [e6] at g; exact g
      have := go 0 (fun c => absurd g c)
      rw [if_pos g] at this
      rw [e6, e7]
      exact this
    · have g : ¬ z_dso x ≤ 3 := by rw [e6] at g; exact g
      have := go x8 (fun _ => e8)
      rw [if_neg g] at this
      rw [e6, e7]
      exact this
theorem c_day {d : Nat} {M : q_Mem} {K : Int → q_Mem → Prop} {x t : Int} (hd : 6 < d) (hR : z_IV M) (h0 : ¬ (1 ≤ t ∧ t ≤ 40) → K (-3) M) (h1 : (1 ≤ t ∧ t ≤ 40) → ∀ (M' : q_Mem) (n : Nat) (o1 : Int → Int), (∀ a, 178 ≤ a → M' a = M a) → z_dy t.toNat x (M 179) n o1 → z_K M' (z_ro M (z_pfo (M 179) o1 n)) → K (n : Int) M') : q_kI yX11_day mX11_day d [qR 1, qI x, qI t] M K := by
  have hE := hR.1
  refine q_goI hd rfl (plainFor_of_name (by decide +kernel)) rfl (fun h => nomatch h) (Nat.le_of_ble_eq_true rfl) (fun d hd => bX11_day_0 _ _ ⟨fun g => h0 (by omega), fun g => ⟨fun g2 => k_stake (by omega) (by decide +kernel) (by decide +kernel) (by decide) (fun M6 f6 s6 => ?_), fun g2 => h0 (by omega)⟩⟩)
  obtain ⟨T, rfl⟩ : ∃ m : Nat, t = (m : Int) := ⟨t.toNat, by omega⟩
  rw [Int.toNat_natCast] at h1
  have e6 : ∀ a, ¬ (53 ≤ a ∧ a ≤ 55) → M6 a = M a := fun a g => f6 a (by simp; omega)
  have rc6 := z_RC_kp hR.2.1 hE (fun a g => e6 a (by omega))
  have d6 : z_dq M M6 := ⟨fun a g1 g2 _ _ => e6 a (by omega), fun k _ => by rw [e6 1 (by omega)]⟩
  refine l_cday (M0 := M6) (x0 := x) (o0 := M 179) (by omega) (by omega) (fun M7 n o1 f7 dy c7 => ?_) T 0 0 M6 (M 179) x (by omega) (by omega) z_df_rf hE rc6 (fun n2 o1 a => by rw [Nat.zero_add]; exact a)
  obtain ⟨E1, ho, nk, n0⟩ := z_dy_ok hE dy
  have d7 : z_dq M M7 := z_dq_tr d6 (z_dq_df f7)
  have k7 : ∀ a, 56 ≤ a → a ≤ 87 → M7 a = M a := fun a q1 q2 => (f7.1 a (by omega) (by omega)).trans (e6 a (by omega))
  have hs7 := z_hs_eq hR.2.2.2.1 k7
  have a7 : z_sd M7 53 (M 179) 1 := z_sd_eq (s6 _ _ hE.1 hR.2.1.1.2.2) (f7.1 53 (by decide) (by decide)) (f7.1 54 (by decide) (by decide)) (f7.1 55 (by decide) (by decide))
  refine ⟨fun g => ?_, fun g => k_keep (by omega) (Or.inr rfl) hE hs7 a7 (fun M9 f9 s9 => ?_)⟩
  · have on : o1 = M 179 := n0 (by omega)
    rw [on] at c7
    refine h1 ⟨by omega, g2⟩ M7 n o1 (fun a ha => z_dq_hi d7 ha) dy ?_
    unfold z_pfo
    rw [if_pos (by omega)]
    exact z_K_new hR d7 hE c7 hs7 (fun _ _ => rfl)
  · have d9 : z_dq M M9 := z_dq_tr d7 (z_dq_kp f9)
    refine h1 ⟨by omega, g2⟩ M9 n o1 (fun a ha => z_dq_hi d9 ha) dy ?_
    unfold z_pfo
    rw [if_neg (by omega)]
    exact z_K_note hR d9 ho E1 (z_RC_kp c7 E1 (fun a q => f9 a (by omega))) (s9 _ ho) (fun _ _ _ => rfl)
theorem tt_day {d : Nat} {M : q_Mem} {K : Int → Int → q_Mem → Prop} {x t : Int} (hd : 60 < d) (hR : z_IV M) (h : ∀ v M', z_IV M' → K v v M') : q_kI yX11_day mX11_day d [qR 1, qI x, qI t] M (fun v M1 => q_kI yX12_day mX12_day d [qR 178, qI x, qI t] M1 (fun v2 M2 => K v v2 M2)) :=
  c_day (by omega) hR (fun g => r_day (by omega) hR.1 (z_hs_n hR.2.2.2.1) (fun _ M' f' => h _ M' (z_IV_r hR f' (by decide) (by decide))) (fun q => absurd q g)) (fun g1 M1 n o1 hi dy k1 => r_day (by omega) (z_hiE hR hi).1 (z_hiE hR hi).2 (fun q => absurd g1 q) (fun _ M' n2 o2 f2 dy2 e2 => by
    rw [hi 179 (by decide)] at e2 dy2
    have u := z_dy_un dy dy2
    rw [← u.1, ← u.2] at e2
    rw [← u.1]
    exact h _ M' (z_IV_d k1 hi f2 (by decide) (by decide) e2)))
