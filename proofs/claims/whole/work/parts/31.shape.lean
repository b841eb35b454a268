-- the class's shape: next, faces, nodes met, parts, twists
def z_cf (S : List Int) (M M' : q_Mem) : Prop := ∀ a, a ∉ S → M' a = M a
theorem z_cf_rf {S : List Int} {M : q_Mem} : z_cf S M M := fun _ _ => rfl
theorem z_cf_tr {S : List Int} {M M' M'' : q_Mem} (h : z_cf S M M') (h2 : z_cf S M' M'') : z_cf S M M'' := fun a h1 => (h2 a h1).trans (h a h1)
theorem z_cf_mono {S S' : List Int} {M M' : q_Mem} (h : z_cf S M M') (h1 : ∀ a ∈ S, a ∈ S') : z_cf S' M M' := fun a g => h a (fun g2 => g (h1 a g2))
theorem z_cf_u {S : List Int} {M0 M M2 : q_Mem} {a k v : Int} (f : z_cf S M0 M) (e : M2 = q_up M a k v) (h : a ∈ S) : z_cf S M0 M2 := by
  subst e
  intro b g
  have ne : b ≠ a := fun e => g (by rw [e]; exact h)
  rw [q_up_o ne]
  exact f b g
/-- what the class's plan gives, once and for all, of a net -/
def z_pn (M : q_Mem) (p : Int) (o : Int → Int) : Prop := q_kd p = 4 ∧ M p 0 = o 51 ∧ M p 1 = o 52 ∧ (∀ l : Nat, l < z_L o → M (p + 1) l = o (53 + l) ∧ M (p + 2) l = o (69 + l)) ∧ (∀ n : Nat, n < z_N o → M (p + 4) n = (z_dg o n : Int))
theorem z_pl_pn {M : q_Mem} {p : Int} {o : Int → Int} (h : z_pl M p o) : z_pn M p o := ⟨h.1, h.2.1, h.2.2.1, h.2.2.2.2.1, h.2.2.2.2.2.1⟩
theorem z_pn_cf {S : List Int} {M M' : q_Mem} {p : Int} {o : Int → Int} (h : z_pn M p o) (f : z_cf S M M') (h0 : p ∉ S) (h1 : p + 1 ∉ S) (h2 : p + 2 ∉ S) (h4 : p + 4 ∉ S) : z_pn M' p o := by
  unfold z_pn
  rw [f p h0, f (p + 1) h1, f (p + 2) h2, f (p + 4) h4]
  exact h
/-- the class's rings -/
def z_rr (r : Int → Int) (o : Int → Int) (b : Int) : Prop := ∀ n, n < z_N o → ∀ i, i < z_dg o n → r (((16 * n + i : Nat)) : Int) = o (b + 18 + (z_st o n : Int) + (i : Int))
theorem l_lu {d : Nat} {K : q_Mem → Prop} {M0 : q_Mem} {p x : Int} {o : Int → Int} (hn : z_net o) (hr : z_ring o 1) (kx : q_kd x = 14) (kl : q_ln x = 160) (hx : x ≠ 92) (hp92 : p + 1 ≠ 92 ∧ p + 2 ≠ 92) (hp : z_pn M0 p o) (hrr : z_rr (M0 x) o 1) {n : Nat} (hnn : n < z_N o)
    (h : ∀ M', z_cf [92] M0 M' → (∀ e : Nat, e < 2 * z_L o → M' 92 e = if z_td o e = n then (z_nx o 1 e : Int) else M0 92 e) → K M') :
    ∀ (j i : Nat) (M : q_Mem), i + j = z_dg o n → z_cf [92] M0 M → (∀ e : Nat, e < 2 * z_L o → M 92 e = if z_td o e = n ∧ z_ps o 1 n (e / 2) < i then (z_nx o 1 e : Int) else M0 92 e) →
      q_v mX6_linkUp d (qPU K) M 11 [some (qR 91), some (qR p), some (qR x), some (qI (n : Int)), some (qI (z_dg o n : Int)), some (qI (i : Int)), none, none, none] [] := by
  have kk := z_k4 hp.1
  have hN := z_net_N10 hn
  have hL := z_net_L16 hn
  have hdg := (z_net_dg hn (n := n) (by omega)).2
  have rx : ∀ (M : q_Mem), z_cf [92] M0 M → ∀ i, i < z_dg o n → M x ((16 * n + i : Nat) : Int) = (z_ri o 1 n i : Int) := by
    intro M f i hi
    rw [f x (by simpa using hx), hrr n hnn i hi]
    exact z_ring_v hr hnn hi
  intro j
  induction j with
  | zero =>
    intro i M e f q
    refine bX6_linkUp_11 _ _ _ _ _ hp.1 kx ⟨fun _ => h M f (fun e2 he => ?_), fun g => absurd (by omega) g⟩
    rw [q e2 he]
    by_cases c : z_td o e2 = n
    · have := (z_ps_ok hn hr hnn (l := e2 / 2) (by omega) (by rw [← c]; exact z_td_in)).1
      rw [if_pos ⟨c, by omega⟩, if_pos c]
    · rw [if_neg (fun g => c g.1), if_neg c]
  | succ j ih =>
    intro i M e f q
    have ri := (hr n hnn).1 i (by omega)
    have p1 : M (p + 1) = M0 (p + 1) := f _ (by simpa using hp92.1)
    have p2 : M (p + 2) = M0 (p + 2) := f _ (by simpa using hp92.2)
    refine bX6_linkUp_11 _ _ _ _ _ hp.1 kx ⟨fun g => by omega, fun _ => ?_⟩
    rw [q_mul_eq (by omega), q_add_eq (b := (i : Int)) (by omega), q_add_eq (a := (i : Int)) (by omega), kl, show (n : Int) * 16 + (i : Int) = ((16 * n + i : Nat) : Int) by omega, rx M f i (by omega)]
    refine ⟨by omega, fun x6 e6 => ?_⟩
    have go : ∀ (nxt : Nat), nxt = (if i + 1 < z_dg o n then i + 1 else 0) → q_v mX6_linkUp d (qPU K) M 51 [some (qR 91), some (qR p), some (qR x), some (qI (n : Int)), some (qI (z_dg o n : Int)), some (qI (i : Int)), some (qI x6), none, none] [qI (nxt : Int), qI ((n : Int) * 16), qR x] := by
      intro nxt en
      have hnx : nxt < z_dg o n := by rw [en]; split <;> omega
      have rn := (hr n hnn).1 nxt hnx
      refine bX6_linkUp_51 _ _ _ _ _ _ _ _ _ hp.1 kx kx ?_
      rw [q_add_eq (by omega), kl, show (n : Int) * 16 + (nxt : Int) = ((16 * n + nxt : Nat) : Int) by omega, rx M f nxt hnx, kk.2.1, p2, e6, (hp.2.2.2.1 _ ri.2.1).2, (z_net_b hn ri.2.1).1]
      refine ⟨by omega, fun x7 e7 => ⟨by omega, ?_⟩⟩
      have fin : ∀ (y : Nat), y / 2 = z_ri o 1 n i → z_td o y = n → q_v mX6_linkUp d (qPU K) M 79 [some (qR 91), some (qR p), some (qR x), some (qI (n : Int)), some (qI (z_dg o n : Int)), some (qI (i : Int)), none, some (qI x7), none] [qI (y : Int)] := by
        intro y hy hty
        have hyl : y < 2 * z_L o := by omega
        have psy : z_ps o 1 n (y / 2) = i := by rw [hy]; exact z_ps_eq hn hr hnn (by omega)
        have nxy : z_nx o 1 y = z_nd o 1 n nxt := by
          unfold z_nx
          rw [hty, psy, ← en]
        have step : ∀ M3, M3 = q_up M 92 (y : Int) (z_nx o 1 y : Int) → q_v mX6_linkUp d (qPU K) M3 11 [some (qR 91), some (qR p), some (qR x), some (qI (n : Int)), some (qI (z_dg o n : Int)), some (qI (q_add (i : Int) 1)), none, none, none] [] := by
          intro M3 e3
          rw [q_add_eq (a := (i : Int)) (by omega), show (i : Int) + 1 = ((i + 1 : Nat) : Int) by omega]
          refine ih (i + 1) M3 (by omega) (z_cf_u f e3 (by decide)) (fun e2 he => ?_)
          rw [e3]
          by_cases c : e2 = y
          · subst c
            rw [q_up_s, if_pos ⟨hty, by omega⟩]
          · rw [q_up_n (by omega), q e2 he]
            by_cases c2 : z_td o e2 = n
            · by_cases c3 : z_ps o 1 n (e2 / 2) < i
              · rw [if_pos ⟨c2, c3⟩, if_pos ⟨c2, by omega⟩]
              · by_cases c4 : z_ps o 1 n (e2 / 2) = i
                · have := (z_ps_ok hn hr hnn (l := e2 / 2) (by omega) (by rw [← c2]; exact z_td_in)).2
                  rw [c4] at this
                  exact absurd (z_dart_eq (by omega) (by rw [c2, hty]) hn he) c
                · rw [if_neg (fun g => c3 g.2), if_neg (fun g => by omega)]
            · rw [if_neg (fun g => c2 g.1), if_neg (fun g => c2 g.1)]
        refine bX6_linkUp_79 _ _ _ _ _ _ _ hp.1 kx ?_
        rw [kk.1, p1, e7, (hp.2.2.2.1 _ rn.2.1).1, (z_net_a hn rn.2.1).1, q_mul_eq (by omega), q_add_eq (by omega)]
        unfold z_nd at nxy
        refine ⟨by omega, fun g => ⟨by omega, fun M3 e3 => step M3 ?_⟩, fun g => ⟨by omega, fun M3 e3 => step M3 ?_⟩⟩
        · rw [if_neg (by omega)] at nxy
          rw [e3, nxy]; congr 1
        · rw [if_pos (by omega)] at nxy
          rw [e3, nxy]; congr 1
      rw [q_mul_eq (by omega), q_add_eq (by omega)]
      refine ⟨fun g => ?_, fun g => ?_⟩
      · have := fin (2 * z_ri o 1 n i + 1) (by omega) (by
          unfold z_td
          rw [if_neg (by omega), show (2 * z_ri o 1 n i + 1) / 2 = z_ri o 1 n i by omega]
          exact ri.2.2.resolve_right (by omega))
        exact this
      · have := fin (2 * z_ri o 1 n i) (by omega) (by
          unfold z_td
          rw [if_pos (by omega), show 2 * z_ri o 1 n i / 2 = z_ri o 1 n i by omega]
          omega)
        exact this
    refine ⟨fun g => ?_, fun g => ?_⟩
    · have := go 0 (by rw [if_neg (by omega)])
      exact this
    · have := go (i + 1) (by rw [if_pos (by omega)])
      exact this
theorem k_linkUp {d : Nat} {M : q_Mem} {K : q_Mem → Prop} {p x : Int} {o : Int → Int} {n : Nat} (hd : 0 < d) (hn : z_net o) (hr : z_ring o 1) (kx : q_kd x = 14) (kl : q_ln x = 160) (hx : x ≠ 92) (hp92 : p + 1 ≠ 92 ∧ p + 2 ≠ 92) (hp : z_pn M p o) (hrr : z_rr (M x) o 1) (hnn : n < z_N o) (h : ∀ M', z_cf [92] M M' → (∀ e : Nat, e < 2 * z_L o → M' 92 e = if z_td o e = n then (z_nx o 1 e : Int) else M 92 e) → K M') : q_kU yX6_linkUp mX6_linkUp d [qR 91, qR p, qR x, qI (n : Int)] M K :=
  q_goU hd rfl (plainFor_of_name (by decide +kernel)) rfl (fun h => nomatch h) (Nat.le_of_ble_eq_true rfl) (fun d hd => bX6_linkUp_0 _ _ _ hp.1 kx (by
    have hN := z_net_N10 hn
    refine ⟨by omega, fun x4 e4 => ?_⟩
    rw [(z_k4 hp.1).2.2.2.1, hp.2.2.2.2 n hnn] at e4
    subst e4
    exact l_lu hn hr kx kl hx hp92 hp hrr hnn h (z_dg o n) 0 M (by omega) z_cf_rf (fun e he => by rw [if_neg (by omega)])))
/-- the nodes that a face meets -/
def z_mt (o : Int → Int) (fo : Nat → Int) (f : Int) (m : Nat) : Prop := m < 1024 ∧ ∀ n, m.testBit n = true ↔ ∃ x, x < 2 * z_L o ∧ fo x = f ∧ z_fd o x = n
theorem l_wf86 {d : Nat} {K : q_Mem → Prop} {M : q_Mem} {x2 x4 x5 : Int} {c : Nat} (hc : M 91 0 = (c : Int)) (hc16 : c < 16) (h : ∀ M2 M4 M6, M2 = q_up M 94 c x2 → M4 = q_up M2 95 c x4 → M6 = q_up M4 96 c x5 → K M6) : q_v mX6_walkFace d (qPU K) M 86 [some (qR 91), none, some (qI x2), none, some (qI x4), some (qI x5), none] [] := by
  refine bX6_walkFace_86 _ _ _ ?_
  rw [hc]
  refine ⟨by omega, fun M2 e2 => ?_⟩
  rw [show M2 91 0 = (c : Int) by rw [e2, q_up_o (by decide)]; exact hc]
  refine ⟨by omega, fun M4 e4 => ?_⟩
  rw [show M4 91 0 = (c : Int) by rw [e4, q_up_o (by decide), e2, q_up_o (by decide)]; exact hc]
  exact ⟨by omega, fun M6 e6 => h M2 M4 M6 e2 e4 e6⟩
theorem l_wf {d : Nat} {K : q_Mem → Prop} {M0 : q_Mem} {p : Int} {o : Int → Int} (hn : z_net o) (hr : z_ring o 1) (hps : p + 1 ∉ [93, 94, 95, 96] ∧ p + 2 ∉ [93, 94, 95, 96]) (hp : z_pn M0 p o) (hnx : ∀ e : Nat, e < 2 * z_L o → M0 92 e = (z_nx o 1 e : Int)) {c : Nat} (hc : c < 16) (hc0 : M0 91 0 = (c : Int)) {x2 : Int} :
    ∀ (k i : Nat) (M : q_Mem) (fo : Nat → Int) (e sz m : Nat), i + k = 32 → z_cf [93] M0 M → (∀ x : Nat, x < 32 → M 93 x = fo x) → sz ≤ i → e < 2 * z_L o → 2 * z_L o - z_vc fo (2 * z_L o) ≤ k → z_mt o fo c m →
      (∀ (M' : q_Mem) (m' : Nat), z_cf [93, 94, 95, 96] M0 M' → (∀ x : Nat, x < 32 → M' 93 x = (z_wk (z_nx o 1) c k fo e).1 x) → M' 95 c = ((sz + (z_wk (z_nx o 1) c k fo e).2 : Nat) : Int) → M' 94 c = x2 → M' 96 c = (m' : Int) → z_mt o (z_wk (z_nx o 1) c k fo e).1 c m' → (∀ j : Int, j ≠ c → M' 94 j = M0 94 j ∧ M' 95 j = M0 95 j ∧ M' 96 j = M0 96 j) → K M') →
      q_v mX6_walkFace d (qPU K) M 11 [some (qR 91), some (qR p), some (qI x2), some (qI (e : Int)), some (qI (sz : Int)), some (qI (m : Int)), some (qI (i : Int))] [] := by
  have kk := z_k4 hp.1
  have hN := z_net_N10 hn
  have hL := z_net_L16 hn
  have stop : ∀ (M : q_Mem) (fo : Nat → Int) (sz m : Nat), z_cf [93] M0 M → (∀ x : Nat, x < 32 → M 93 x = fo x) → z_mt o fo c m →
      (∀ (M' : q_Mem) (m' : Nat), z_cf [93, 94, 95, 96] M0 M' → (∀ x : Nat, x < 32 → M' 93 x = fo x) → M' 95 c = (sz : Int) → M' 94 c = x2 → M' 96 c = (m' : Int) → z_mt o fo c m' → (∀ j : Int, j ≠ c → M' 94 j = M0 94 j ∧ M' 95 j = M0 95 j ∧ M' 96 j = M0 96 j) → K M') →
      q_v mX6_walkFace d (qPU K) M 86 [some (qR 91), none, some (qI x2), none, some (qI (sz : Int)), some (qI (m : Int)), none] [] := by
    intro M fo sz m f q hm h
    refine l_wf86 (c := c) (by rw [f 91 (by decide)]; exact hc0) hc (fun M2 M4 M6 e2 e4 e6 => ?_)
    refine h M6 m (z_cf_u (z_cf_u (z_cf_u (z_cf_mono f (by decide)) e2 (by decide)) e4 (by decide)) e6 (by decide)) (fun x hx => ?_) ?_ ?_ ?_ hm (fun j hj => ⟨?_, ?_, ?_⟩)
    · rw [e6, q_up_o (by decide), e4, q_up_o (by decide), e2, q_up_o (by decide)]; exact q x hx
    · rw [e6, q_up_o (by decide), e4, q_up_s]
    · rw [e6, q_up_o (by decide), e4, q_up_o (by decide), e2, q_up_s]
    · rw [e6, q_up_s]
    · rw [e6, q_up_o (by decide), e4, q_up_o (by decide), e2, q_up_n hj, f 94 (by decide)]
    · rw [e6, q_up_o (by decide), e4, q_up_n hj, e2, q_up_o (by decide), f 95 (by decide)]
    · rw [e6, q_up_n hj, e4, q_up_o (by decide), e2, q_up_o (by decide), f 96 (by decide)]
  intro k
  induction k with
  | zero =>
    intro i M fo e sz m ei f q hs he hk hm h
    exact bX6_walkFace_11 _ _ _ _ _ _ hp.1 ⟨fun _ => stop M fo sz m f q hm h, fun g => absurd (by omega) g⟩
  | succ k ih =>
    intro i M fo e sz m ei f q hs he hk hm h
    refine bX6_walkFace_11 _ _ _ _ _ _ hp.1 ⟨fun g => by omega, fun _ => ?_⟩
    rw [q e (by omega), f 91 (by decide), hc0]
    unfold z_wk at h
    refine ⟨by omega, fun g => ?_, fun g => ⟨by omega, fun M3 e3 => ?_⟩⟩
    · rw [if_neg g] at h
      exact stop M fo sz m f q hm h
    · rw [if_pos g] at h
      have f3 : z_cf [93] M0 M3 := z_cf_u f e3 (by decide)
      have vc := z_vc_up (D := 2 * z_L o) (f := (c : Int)) (by omega) he g
      have p1 : M3 (p + 1) = M0 (p + 1) := f3 _ (fun g => hps.1 (by simp at g; simp [g]))
      have p2 : M3 (p + 2) = M0 (p + 2) := f3 _ (fun g => hps.2 (by simp at g; simp [g]))
      have ends := hp.2.2.2.1 (e / 2) (by omega)
      have ea := z_net_a hn (l := e / 2) (by omega)
      have eb := z_net_b hn (l := e / 2) (by omega)
      have hx3 : M3 92 (e : Int) = (z_nx o 1 e : Int) := by rw [f3 92 (by decide)]; exact hnx e he
      have fl := z_fd_lt hn he
      have go : ∀ (x5 : Int), x5 = ((m ||| 2 ^ z_fd o e : Nat) : Int) → q_v mX6_walkFace d (qPU K) M3 11 [some (qR 91), some (qR p), some (qI x2), some (qI (z_nx o 1 e : Int)), some (qI (q_add (sz : Int) 1)), some (qI x5), some (qI (q_add (i : Int) 1))] [] := by
        intro x5 e5
        rw [e5, q_add_eq (a := (sz : Int)) (by omega), q_add_eq (a := (i : Int)) (by omega)]
        refine ih (i + 1) M3 (z_upf fo e c) (z_nx o 1 e) (sz + 1) (m ||| 2 ^ z_fd o e) (by omega) f3 (fun x hx => ?_) (by omega) (z_nx_lt hn hr he) (by omega) ⟨?_, fun n => ?_⟩ (fun M' m' a1 a2 a3 a4 a5 a6 a7 => h M' m' a1 a2 (by rw [a3]; congr 1; omega) a4 a5 a6 a7)
        · rw [e3]
          by_cases ex : x = e
          · subst ex; rw [q_up_s, z_upf_s]
          · rw [q_up_n (by omega), z_upf_n ex]; exact q x hx
        · exact Nat.or_lt_two_pow (n := 10) hm.1 (Nat.pow_lt_pow_right (a := 2) (by decide) (by omega))
        · rw [Nat.testBit_or, Nat.testBit_two_pow, Bool.or_eq_true, hm.2 n, decide_eq_true_eq]
          constructor
          · rintro (⟨x, h1, h2, h3⟩ | h1)
            · refine ⟨x, h1, ?_, h3⟩
              rw [z_upf_n (fun ex => by rw [ex, g] at h2; omega)]; exact h2
            · exact ⟨e, he, z_upf_s, h1⟩
          · rintro ⟨x, h1, h2, h3⟩
            by_cases ex : x = e
            · subst ex; exact Or.inr h3
            · rw [z_upf_n ex] at h2; exact Or.inl ⟨x, h1, h2, h3⟩
      have hm31 : m < 2147483648 := by have := hm.1; omega
      rw [kk.1, kk.2.1, z_rm2 (by omega), z_dv2 (by omega), p1, p2, ends.1, ends.2, ea.1, eb.1, hx3, q_or1 hm31 (by omega), q_or1 hm31 (by omega)]
      refine ⟨fun g2 => ⟨by omega, fun x5 e5 => ⟨by omega, fun x7 e7 => ?_⟩⟩, fun g2 => ⟨by omega, fun x5 e5 => ⟨by omega, fun x7 e7 => ?_⟩⟩⟩
      · subst e7
        exact go x5 (by rw [e5]; unfold z_fd; rw [if_neg (by omega)])
      · subst e7
        exact go x5 (by rw [e5]; unfold z_fd; rw [if_pos (by omega)])
