-- the class's shape: faces, parts, all of it
theorem z_wk_or {nx : Nat → Nat} {f : Int} : ∀ (k : Nat) (fo : Nat → Int) (d x : Nat), (z_wk nx f k fo d).1 x = fo x ∨ (fo x = -1 ∧ (z_wk nx f k fo d).1 x = f)
  | 0, fo, d, x => Or.inl rfl
  | k + 1, fo, d, x => by
    unfold z_wk
    split
    · rename_i h
      show (z_wk nx f k (z_upf fo d f) (nx d)).1 x = fo x ∨ (fo x = -1 ∧ (z_wk nx f k (z_upf fo d f) (nx d)).1 x = f)
      by_cases e : x = d
      · subst e
        rcases z_wk_or k (z_upf fo x f) (nx x) x with g | g
        · rw [z_upf_s] at g; exact Or.inr ⟨h, g⟩
        · exact Or.inr ⟨h, g.2⟩
      · rcases z_wk_or k (z_upf fo d f) (nx d) x with g | g
        · rw [z_upf_n e] at g; exact Or.inl g
        · rw [z_upf_n e] at g; exact Or.inr g
    · exact Or.inl rfl
theorem k_walkFace {d : Nat} {M : q_Mem} {K : q_Mem → Prop} {p : Int} {o : Int → Int} {c e : Nat} {fo : Nat → Int} (hd : 0 < d) (hn : z_net o) (hr : z_ring o 1) (hps : p + 1 ∉ [93, 94, 95, 96] ∧ p + 2 ∉ [93, 94, 95, 96]) (hp : z_pn M p o) (hnx : ∀ e : Nat, e < 2 * z_L o → M 92 e = (z_nx o 1 e : Int)) (hc : c < 16) (hc0 : M 91 0 = (c : Int)) (he : e < 2 * z_L o) (q : ∀ x : Nat, x < 32 → M 93 x = fo x) (hfo : ∀ x, fo x ≠ c) (h : ∀ (M' : q_Mem) (m' : Nat), z_cf [93, 94, 95, 96] M M' → (∀ x : Nat, x < 32 → M' 93 x = (z_wk (z_nx o 1) c 32 fo e).1 x) → M' 95 c = ((z_wk (z_nx o 1) c 32 fo e).2 : Int) → M' 94 c = (e : Int) → M' 96 c = (m' : Int) → z_mt o (z_wk (z_nx o 1) c 32 fo e).1 c m' → (∀ j : Int, j ≠ c → M' 94 j = M 94 j ∧ M' 95 j = M 95 j ∧ M' 96 j = M 96 j) → K M') : q_kU yX6_walkFace mX6_walkFace d [qR 91, qR p, qI (e : Int)] M K :=
  q_goU hd rfl (plainFor_of_name (by decide +kernel)) rfl (fun h => nomatch h) (Nat.le_of_ble_eq_true rfl) (fun d hd => bX6_walkFace_0 _ _ hp.1 (by
    have hL := z_net_L16 hn
    exact l_wf hn hr hps hp hnx hc hc0 32 0 M fo e 0 0 (by omega) z_cf_rf q (by omega) he (by omega) ⟨by decide, fun n => ⟨fun g => by simp at g, fun ⟨x, _, g, _⟩ => absurd g (hfo x)⟩⟩ (fun M' m' a1 a2 a3 a4 a5 a6 a7 => h M' m' a1 a2 (by rw [a3, Nat.zero_add]) a4 a5 a6 a7)))
def z_mts (o : Int → Int) (s : z_S) (r : Int → Int) : Prop := ∀ f : Nat, f < s.2.1 → ∃ m : Nat, r f = (m : Int) ∧ z_mt o s.1 f m
theorem l_wfs {d : Nat} {K : q_Mem → Prop} {M0 : q_Mem} {p : Int} {o : Int → Int} (hd : 1 ≤ d) (hn : z_net o) (hr : z_ring o 1) (hps : p ∉ [91, 93, 94, 95, 96] ∧ p + 1 ∉ [91, 93, 94, 95, 96] ∧ p + 2 ∉ [91, 93, 94, 95, 96] ∧ p + 4 ∉ [91, 93, 94, 95, 96]) (hp : z_pn M0 p o) (hnx : ∀ e : Nat, e < 2 * z_L o → M0 92 e = (z_nx o 1 e : Int))
    (h : ∀ M', z_cf [91, 93, 94, 95, 96] M0 M' → (∀ k : Int, k ≠ 0 → M' 91 k = M0 91 k) → z_fr4 o (M' 93) (M' 94) (M' 95) (M' 91 0) → z_mts o (z_fs (z_nx o 1) (2 * z_L o)) (M' 96) → K M') :
    ∀ (j i : Nat) (M : q_Mem), i + j = 2 * z_L o → z_cf [91, 93, 94, 95, 96] M0 M → (∀ k : Int, k ≠ 0 → M 91 k = M0 91 k) → z_fr3 (z_fs (z_nx o 1) i) (M 93) (M 94) (M 95) (M 91 0) → z_mts o (z_fs (z_nx o 1) i) (M 96) →
      q_v mX6_walkFaces d (qPU K) M 22 [some (qR 91), some (qR p), some (qI ((2 * z_L o : Nat) : Int)), some (qI (i : Int))] [] := by
  have hL := z_net_L16 hn
  have hpm := z_pm_nx hn hr
  intro j
  induction j with
  | zero =>
    intro i M e f u q m
    have ei : i = 2 * z_L o := by omega
    exact bX6_walkFaces_22 _ _ _ hp.1 ⟨fun _ => h M f u (by rw [ei] at q; exact q) (by rw [← ei]; exact m), fun g => absurd (by omega) g⟩
  | succ j ih =>
    intro i M e f u q m
    have inv := z_fs_inv hpm (by omega) i (by omega)
    have c16 := z_fs_16 hpm (by omega) (d := i) (by omega)
    have es : z_fs (z_nx o 1) (i + 1) = z_fstep (z_nx o 1) (z_fs (z_nx o 1) i) i := rfl
    refine bX6_walkFaces_22 _ _ _ hp.1 ⟨fun g => by omega, fun _ => ?_⟩
    rw [q.2.1 i (by omega), q.1, q_add_eq (a := (i : Int)) (by omega), show (i : Int) + 1 = ((i + 1 : Nat) : Int) by omega]
    refine ⟨by omega, fun g => ?_, fun g => ⟨fun g2 => ?_, fun g2 => ?_⟩⟩
    · refine ih (i + 1) M (by omega) f u ?_ ?_
      · rw [es]; unfold z_fstep; rw [if_neg g]; exact q
      · rw [es]; unfold z_fstep; rw [if_neg g]; exact m
    · have := c16.2 (by omega) g; omega
    · refine k_walkFace (c := (z_fs (z_nx o 1) i).2.1) (fo := (z_fs (z_nx o 1) i).1) (by omega) hn hr ⟨fun g => hps.2.1 (by simp at g ⊢; omega), fun g => hps.2.2.1 (by simp at g ⊢; omega)⟩ (z_pn_cf hp f hps.1 hps.2.1 hps.2.2.1 hps.2.2.2) (fun e he => by rw [f 92 (by decide)]; exact hnx e he) (by omega) q.1 (by omega) q.2.1 (fun x hx => ?_) (fun M2 m2 a1 a2 a3 a4 a5 a6 a7 M3 e3 => ?_)
      · have := inv.1.2.2.1 x
        omega
      · have m91 : M2 91 = M 91 := a1 91 (by decide)
        rw [m91, q.1, q_add_eq (by omega)] at e3
        refine ih (i + 1) M3 (by omega) (z_cf_u (z_cf_tr f (z_cf_mono a1 (by decide))) e3 (by decide)) (fun k hk => by rw [e3, q_up_n hk, m91]; exact u k hk) ?_ ?_
        · rw [es]; unfold z_fstep; rw [if_pos g]
          refine ⟨by rw [e3, q_up_s]; show _ = (((z_fs (z_nx o 1) i).2.1 + 1 : Nat) : Int); omega, fun x hx => by rw [e3, q_up_o (by decide)]; exact a2 x hx, fun fc hf => ?_⟩
          show M3 94 fc = ((z_upn (z_fs (z_nx o 1) i).2.2.1 (z_fs (z_nx o 1) i).2.1 i fc : Nat) : Int) ∧ M3 95 fc = ((z_upn (z_fs (z_nx o 1) i).2.2.2 (z_fs (z_nx o 1) i).2.1 (z_wk (z_nx o 1) ((z_fs (z_nx o 1) i).2.1 : Int) 32 (z_fs (z_nx o 1) i).1 i).2 fc : Nat) : Int)
          rw [e3, q_up_o (by decide), q_up_o (by decide)]
          by_cases ef : fc = (z_fs (z_nx o 1) i).2.1
          · subst ef
            rw [z_upn_s, z_upn_s]
            exact ⟨a4, a3⟩
          · have := q.2.2 fc (by have : fc < (z_fs (z_nx o 1) i).2.1 + 1 := hf; omega)
            rw [z_upn_n ef, z_upn_n ef, (a7 fc (by omega)).1, (a7 fc (by omega)).2.1]
            exact this
        · rw [es]; unfold z_fstep; rw [if_pos g]
          intro fc hf
          rw [e3, q_up_o (by decide)]
          by_cases ef : fc = (z_fs (z_nx o 1) i).2.1
          · subst ef
            exact ⟨m2, a5, a6⟩
          · obtain ⟨m1, b1, b2⟩ := m fc (by have : fc < (z_fs (z_nx o 1) i).2.1 + 1 := hf; omega)
            refine ⟨m1, by rw [(a7 fc (by omega)).2.2]; exact b1, b2.1, fun n => (b2.2 n).trans ⟨?_, ?_⟩⟩
            · rintro ⟨x, h1, h2, h3⟩
              refine ⟨x, h1, ?_, h3⟩
              rcases z_wk_or (nx := z_nx o 1) (f := ((z_fs (z_nx o 1) i).2.1 : Int)) 32 (z_fs (z_nx o 1) i).1 i x with w | w
              · exact w.trans h2
              · omega
            · rintro ⟨x, h1, h2, h3⟩
              refine ⟨x, h1, ?_, h3⟩
              rcases z_wk_or (nx := z_nx o 1) (f := ((z_fs (z_nx o 1) i).2.1 : Int)) 32 (z_fs (z_nx o 1) i).1 i x with w | w
              · exact w.symm.trans h2
              · have h2 : (z_wk (z_nx o 1) ((z_fs (z_nx o 1) i).2.1 : Int) 32 (z_fs (z_nx o 1) i).1 i).1 x = (fc : Int) := h2
                rw [w.2] at h2; omega
theorem k_walkFaces {d : Nat} {M : q_Mem} {K : q_Mem → Prop} {p : Int} {o : Int → Int} (hd : 1 < d) (hn : z_net o) (hr : z_ring o 1) (hps : p ∉ [91, 93, 94, 95, 96] ∧ p + 1 ∉ [91, 93, 94, 95, 96] ∧ p + 2 ∉ [91, 93, 94, 95, 96] ∧ p + 4 ∉ [91, 93, 94, 95, 96]) (hp : z_pn M p o) (hnx : ∀ e : Nat, e < 2 * z_L o → M 92 e = (z_nx o 1 e : Int)) (h : ∀ M', z_cf [91, 93, 94, 95, 96] M M' → (∀ k : Int, k ≠ 0 → M' 91 k = M 91 k) → z_fr4 o (M' 93) (M' 94) (M' 95) (M' 91 0) → z_mts o (z_fs (z_nx o 1) (2 * z_L o)) (M' 96) → K M') : q_kU yX6_walkFaces mX6_walkFaces d [qR 91, qR p] M K :=
  q_goU hd rfl (plainFor_of_name (by decide +kernel)) rfl (fun h => nomatch h) (Nat.le_of_ble_eq_true rfl) (fun d hd => bX6_walkFaces_0 _ hp.1 (fun x2 e2 => by
    have hL := z_net_L16 hn
    rw [hp.2.2.1, z_net_L hn, q_mul_eq (by omega)] at e2
    have e2 : x2 = ((2 * z_L o : Nat) : Int) := by omega
    subst e2
    refine k_fill1 32 (by omega) (by decide +kernel) (by decide +kernel) (by decide) (fun M3 e3 => ?_)
    have f3 : z_cf [91, 93, 94, 95, 96] M M3 := z_cf_u (M := z_fill M 93 0 (32 : Nat) (-1)) (fun a ha => z_fill_o (fun e => ha (by rw [e]; decide))) e3 (by decide)
    exact l_wfs hd hn hr hps hp hnx h (2 * z_L o) 0 M3 (by omega) f3 (fun k hk => by rw [e3, q_up_n hk, z_fill_o (by decide)]) ⟨by rw [e3, q_up_s]; rfl, fun x hx => by rw [e3, q_up_o (by decide), z_fill_s (by omega)]; rfl, fun f hf => absurd hf (Nat.not_lt_zero _)⟩ (fun f hf => absurd hf (Nat.not_lt_zero _))))
theorem l_ren {d : Nat} {K : q_Mem → Prop} {M0 : q_Mem} {a b : Int} {N : Nat} (hN : N ≤ 10) (h : ∀ M', z_cf [97] M0 M' → (∀ n : Nat, n < N → M' 97 n = if M0 97 n = a then b else M0 97 n) → K M') :
    ∀ (j i : Nat) (M : q_Mem), i + j = N → z_cf [97] M0 M → (∀ n : Nat, n < N → M 97 n = if n < i ∧ M0 97 n = a then b else M0 97 n) → q_v mX6_rename d (qPU K) M 3 [some (qR 91), some (qI a), some (qI b), some (qI (N : Int)), some (qI (i : Int))] [] := by
  intro j
  induction j with
  | zero =>
    intro i M e f q
    refine bX6_rename_3 _ _ _ _ ⟨fun _ => h M f (fun n hn => ?_), fun g => absurd (by omega) g⟩
    rw [q n hn]
    by_cases c : M0 97 n = a
    · rw [if_pos ⟨by omega, c⟩, if_pos c]
    · rw [if_neg (fun g => c g.2), if_neg c]
  | succ j ih =>
    intro i M e f q
    refine bX6_rename_3 _ _ _ _ ⟨fun g => by omega, fun _ => ?_⟩
    rw [q i (by omega), if_neg (fun g => by omega), q_add_eq (a := (i : Int)) (by omega), show (i : Int) + 1 = ((i + 1 : Nat) : Int) by omega]
    refine ⟨by omega, fun g => ih (i + 1) M (by omega) f (fun n hn => ?_), fun g => ⟨by omega, fun M3 e3 => ih (i + 1) M3 (by omega) (z_cf_u f e3 (by decide)) (fun n hn => ?_)⟩⟩
    · rw [q n hn]
      by_cases c : n = i
      · subst c; rw [if_neg (fun g => by omega), if_neg (fun g2 => g g2.2)]
      · by_cases c2 : n < i ∧ M0 97 n = a
        · rw [if_pos c2, if_pos ⟨by omega, c2.2⟩]
        · rw [if_neg c2, if_neg (fun g => c2 ⟨by omega, g.2⟩)]
    · by_cases c : n = i
      · subst c; rw [e3, q_up_s, if_pos ⟨by omega, g⟩]
      · rw [e3, q_up_n (by omega), q n hn]
        by_cases c2 : n < i ∧ M0 97 n = a
        · rw [if_pos c2, if_pos ⟨by omega, c2.2⟩]
        · rw [if_neg c2, if_neg (fun g => c2 ⟨by omega, g.2⟩)]
theorem k_rename {d : Nat} {M : q_Mem} {K : q_Mem → Prop} {a b : Int} {N : Nat} (hd : 0 < d) (hN : N ≤ 10) (h : ∀ M', z_cf [97] M M' → (∀ n : Nat, n < N → M' 97 n = if M 97 n = a then b else M 97 n) → K M') : q_kU yX6_rename mX6_rename d [qR 91, qI a, qI b, qI (N : Int)] M K :=
  q_goU hd rfl (plainFor_of_name (by decide +kernel)) rfl (fun h => nomatch h) (Nat.le_of_ble_eq_true rfl) (fun d hd => bX6_rename_0 _ _ _ (l_ren hN h N 0 M (by omega) z_cf_rf (fun n hn => by rw [if_neg (fun g => by omega)])))
theorem l_fp33 {d : Nat} {K : q_Mem → Prop} {M0 : q_Mem} {p : Int} {o : Int → Int} (hd : 1 ≤ d) (hn : z_net o) (hps : p ∉ [91, 97] ∧ p + 1 ∉ [91, 97] ∧ p + 2 ∉ [91, 97] ∧ p + 4 ∉ [91, 97]) (hp : z_pn M0 p o)
    (h : ∀ M', z_cf [91, 97] M0 M' → (∀ k : Int, k ≠ 1 → M' 91 k = M0 91 k) → z_lrow (z_pt o) (M' 97) (z_N o) → M' 91 1 = (z_pc o : Int) → K M') :
    ∀ (j i : Nat) (M : q_Mem), i + j = z_L o → z_cf [91, 97] M0 M → (∀ k : Int, k ≠ 1 → M 91 k = M0 91 k) → z_lrow (z_ptk o i) (M 97) (z_N o) → M 91 1 = (z_cn (fun n => z_ptk o i n == n) (z_N o) : Int) →
      q_v mX6_findParts d (qPU K) M 33 [some (qR 91), some (qR p), some (qI (i : Int)), none, none] [] := by
  have kk := z_k4 hp.1
  have hL := z_net_L16 hn
  have eL := z_net_L hn
  have hN := z_net_N10 hn
  have eN := z_net_N hn
  intro j
  induction j with
  | zero =>
    intro i M e f u q c
    have hpM := z_pn_cf hp f hps.1 hps.2.1 hps.2.2.1 hps.2.2.2
    have ei : i = z_L o := by omega
    refine bX6_findParts_33 _ _ hp.1 ?_
    rw [hpM.2.2.1]
    exact ⟨fun _ => h M f u (by rw [ei] at q; exact q) (by rw [ei] at c; exact c), fun g => absurd (by omega) g⟩
  | succ j ih =>
    intro i M e f u q c
    have hpM := z_pn_cf hp f hps.1 hps.2.1 hps.2.2.1 hps.2.2.2
    have ea := z_net_a hn (l := i) (by omega)
    have eb := z_net_b hn (l := i) (by omega)
    have ends := hpM.2.2.2.1 i (by omega)
    have ok := z_ptk_ok (o := o) i
    have la := ok.2.1 (z_a o i)
    have lb := ok.2.1 (z_b o i)
    have cl := z_cn_le (p := fun n => z_ptk o i n == n) (n := z_N o)
    have es : z_ptk o (i + 1) = z_mg (z_ptk o i) (z_a o i) (z_b o i) := rfl
    refine bX6_findParts_33 _ _ hp.1 ?_
    rw [hpM.2.2.1, kk.1, kk.2.1, ends.1, ends.2, ea.1, eb.1, q _ ea.2, q _ eb.2, q_add_eq (a := (i : Int)) (by omega), show (i : Int) + 1 = ((i + 1 : Nat) : Int) by omega]
    refine ⟨fun g => by omega, fun _ => ⟨by omega, by omega, fun x3 e3 => ⟨by omega, by omega, fun x4 e4 => ⟨fun g => ?_, fun g M7 e7 => ?_⟩⟩⟩⟩
    · have hid := z_mg_id (p := z_ptk o i) (x := z_a o i) (y := z_b o i) (by omega)
      refine ih (i + 1) M (by omega) f u ?_ ?_
      · rw [es, hid]; exact q
      · rw [es, hid]; exact c
    · have f7 := z_cf_u f e7 (S := [91, 97]) (by decide)
      have hp7 := z_pn_cf hp f7 hps.1 hps.2.1 hps.2.2.1 hps.2.2.2
      refine k_max (by omega) (k_min (by omega) ?_)
      rw [hp7.2.1, eN]
      refine k_rename (by omega) hN (fun M' f' q' => ?_)
      have hcn := z_mg_cn ok (N := z_N o) ea.2 eb.2 (by omega)
      refine ih (i + 1) M' (by omega) (z_cf_tr f7 (z_cf_mono f' (by decide))) (fun k hk => by rw [f' 91 (by decide), e7, q_up_n hk]; exact u k hk) (fun n hnn => ?_) ?_
      · rw [q' n hnn, e7, q_up_o (by decide), q n hnn, es]
        unfold z_mg
        by_cases cc : z_ptk o i n = max (z_ptk o i (z_a o i)) (z_ptk o i (z_b o i))
        · rw [if_pos cc, if_pos (by omega)]; omega
        · rw [if_neg cc, if_neg (by omega)]
      · rw [f' 91 (by decide), e7, q_up_s, c, q_sub_eq (by omega), es]
        omega
theorem l_fp2 {d : Nat} {K : q_Mem → Prop} {M0 : q_Mem} {p : Int} {o : Int → Int} (hd : 1 ≤ d) (hn : z_net o) (hps : p ∉ [91, 97] ∧ p + 1 ∉ [91, 97] ∧ p + 2 ∉ [91, 97] ∧ p + 4 ∉ [91, 97]) (hp : z_pn M0 p o)
    (h : ∀ M', z_cf [91, 97] M0 M' → (∀ k : Int, k ≠ 1 → M' 91 k = M0 91 k) → z_lrow (z_pt o) (M' 97) (z_N o) → M' 91 1 = (z_pc o : Int) → K M') :
    ∀ (j i : Nat) (M : q_Mem), i + j = z_N o → z_cf [91, 97] M0 M → M 91 = M0 91 → z_lrow (fun n => n) (M 97) i → q_v mX6_findParts d (qPU K) M 2 [some (qR 91), some (qR p), some (qI (i : Int)), none, none] [] := by
  have hN := z_net_N10 hn
  have eN := z_net_N hn
  intro j
  induction j with
  | zero =>
    intro i M e f u q
    have hpM := z_pn_cf hp f hps.1 hps.2.1 hps.2.2.1 hps.2.2.2
    have ei : i = z_N o := by omega
    refine bX6_findParts_2 _ _ hp.1 ?_
    rw [hpM.2.1, eN]
    refine ⟨fun _ M1 e1 => l_fp33 hd hn hps hp h (z_L o) 0 M1 (by omega) (z_cf_u f e1 (by decide)) (fun k hk => by rw [e1, q_up_n hk, u]) (fun n hnn => by rw [e1, q_up_o (by decide)]; exact q n (by omega)) ?_, fun g => absurd (by omega) g⟩
    rw [e1, q_up_s]
    have : ∀ m : Nat, z_cn (fun n => (fun n : Nat => n) n == n) m = m := by
      intro m
      induction m with
      | zero => rfl
      | succ m ih =>
        show z_cn (fun n => (fun n : Nat => n) n == n) m + (if m == m then 1 else 0) = m + 1
        rw [ih]; simp
    exact (congrArg _ (this (z_N o))).symm
  | succ j ih =>
    intro i M e f u q
    have hpM := z_pn_cf hp f hps.1 hps.2.1 hps.2.2.1 hps.2.2.2
    refine bX6_findParts_2 _ _ hp.1 ?_
    rw [hpM.2.1, eN, q_add_eq (a := (i : Int)) (by omega), show (i : Int) + 1 = ((i + 1 : Nat) : Int) by omega]
    refine ⟨fun g => by omega, fun _ => ⟨by omega, fun M3 e3 => ih (i + 1) M3 (by omega) (z_cf_u f e3 (by decide)) (by rw [e3, q_up_o (by decide)]; exact u) (fun n hnn => ?_)⟩⟩
    by_cases c : n = i
    · subst c; rw [e3, q_up_s]
    · rw [e3, q_up_n (by omega)]; exact q n (by omega)
theorem k_findParts {d : Nat} {M : q_Mem} {K : q_Mem → Prop} {p : Int} {o : Int → Int} (hd : 1 < d) (hn : z_net o) (hps : p ∉ [91, 97] ∧ p + 1 ∉ [91, 97] ∧ p + 2 ∉ [91, 97] ∧ p + 4 ∉ [91, 97]) (hp : z_pn M p o) (h : ∀ M', z_cf [91, 97] M M' → (∀ k : Int, k ≠ 1 → M' 91 k = M 91 k) → z_lrow (z_pt o) (M' 97) (z_N o) → M' 91 1 = (z_pc o : Int) → K M') : q_kU yX6_findParts mX6_findParts d [qR 91, qR p] M K :=
  q_goU hd rfl (plainFor_of_name (by decide +kernel)) rfl (fun h => nomatch h) (Nat.le_of_ble_eq_true rfl) (fun d hd => bX6_findParts_0 _ hp.1 (l_fp2 hd hn hps hp h (z_N o) 0 M (by omega) z_cf_rf rfl (fun n hnn => by omega)))
/-- the class's shape fits the net -/
def z_sh (o : Int → Int) (M : q_Mem) : Prop := (∀ e : Nat, e < 2 * z_L o → M 92 e = (z_nx o 1 e : Int)) ∧ z_fr4 o (M 93) (M 94) (M 95) (M 91 0) ∧ z_mts o (z_fs (z_nx o 1) (2 * z_L o)) (M 96) ∧ z_lrow (z_pt o) (M 97) (z_N o) ∧ M 91 1 = (z_pc o : Int) ∧ M 91 2 = z_tw o
theorem l_wo {d : Nat} {K : q_Mem → Prop} {M0 : q_Mem} {p x : Int} {o : Int → Int} (hd : 2 ≤ d) (hn : z_net o) (hr : z_ring o 1) (kx : q_kd x = 14) (kl : q_ln x = 160) (hx : x ∉ [91, 92, 93, 94, 95, 96, 97]) (hps : p ∉ [91, 92, 93, 94, 95, 96, 97] ∧ p + 1 ∉ [91, 92, 93, 94, 95, 96, 97] ∧ p + 2 ∉ [91, 92, 93, 94, 95, 96, 97] ∧ p + 4 ∉ [91, 92, 93, 94, 95, 96, 97]) (hp : z_pn M0 p o) (hrr : z_rr (M0 x) o 1)
    (h : ∀ M', z_cf [91, 92, 93, 94, 95, 96, 97] M0 M' → z_sh o M' → K M') :
    ∀ (j i : Nat) (M : q_Mem), i + j = z_N o → z_cf [91, 92, 93, 94, 95, 96, 97] M0 M → (∀ e : Nat, e < 2 * z_L o → z_td o e < i → M 92 e = (z_nx o 1 e : Int)) →
      q_v mX6_workOut d (qPU K) M 5 [some (qR 91), some (qR p), some (qR x), some (qI (z_cn (fun n => z_dg o n == 0) i : Int)), some (qI (i : Int))] [] := by
  have kk := z_k4 hp.1
  have hN := z_net_N10 hn
  have eN := z_net_N hn
  have hL := z_net_L16 hn
  have sub : ∀ (S : List Int), (∀ a ∈ S, a ∈ [91, 92, 93, 94, 95, 96, 97]) → p ∉ S ∧ p + 1 ∉ S ∧ p + 2 ∉ S ∧ p + 4 ∉ S := fun S hS => ⟨fun g => hps.1 (hS _ g), fun g => hps.2.1 (hS _ g), fun g => hps.2.2.1 (hS _ g), fun g => hps.2.2.2 (hS _ g)⟩
  intro j
  induction j with
  | zero =>
    intro i M e f q
    have hpM := z_pn_cf hp f hps.1 hps.2.1 hps.2.2.1 hps.2.2.2
    have ei : i = z_N o := by omega
    refine bX6_workOut_5 _ _ _ _ hp.1 kx ?_
    rw [hpM.2.1, eN]
    refine ⟨fun _ => ?_, fun g => absurd (by omega) g⟩
    refine k_walkFaces (by omega) hn hr (sub _ (by decide)) hpM (fun e he => q e he (by have := z_td_lt hn he; omega)) (fun M1 f1 u1 q1 m1 => ?_)
    have hp1 := z_pn_cf hpM f1 (sub _ (by decide)).1 (sub [91, 93, 94, 95, 96] (by decide)).2.1 (sub [91, 93, 94, 95, 96] (by decide)).2.2.1 (sub [91, 93, 94, 95, 96] (by decide)).2.2.2
    refine k_findParts (by omega) hn (sub _ (by decide)) hp1 (fun M2 f2 u2 q2 c2 M3 e3 => ?_)
    have hp2 := z_pn_cf hp1 f2 (sub _ (by decide)).1 (sub [91, 97] (by decide)).2.1 (sub [91, 97] (by decide)).2.2.1 (sub [91, 97] (by decide)).2.2.2
    have e910 : M2 91 0 = M1 91 0 := u2 0 (by decide)
    have tw : M3 91 2 = z_tw o := by
      rw [e3, q_up_s, c2, hp2.2.1, hp2.2.2.1, e910, q1.1, ei]
      rfl
    refine h M3 (z_cf_u (z_cf_tr (z_cf_tr f (z_cf_mono f1 (by decide))) (z_cf_mono f2 (by decide))) e3 (by decide)) ⟨fun e he => ?_, ?_, ?_, ?_, ?_, tw⟩
    · rw [e3, q_up_o (by decide), f2 92 (by decide), f1 92 (by decide)]
      exact q e he (by have := z_td_lt hn he; omega)
    · rw [e3, q_up_o (by decide), q_up_o (by decide), q_up_o (by decide), q_up_n (by decide), f2 93 (by decide), f2 94 (by decide), f2 95 (by decide), e910]
      exact q1
    · rw [e3, q_up_o (by decide), f2 96 (by decide)]; exact m1
    · rw [e3, q_up_o (by decide)]; exact q2
    · rw [e3, q_up_n (by decide)]; exact c2
  | succ j ih =>
    intro i M e f q
    have hpM := z_pn_cf hp f hps.1 hps.2.1 hps.2.2.1 hps.2.2.2
    have cl := z_cn_le (p := fun n => z_dg o n == 0) (n := i)
    refine bX6_workOut_5 _ _ _ _ hp.1 kx ?_
    rw [hpM.2.1, eN]
    refine ⟨fun g => by omega, fun _ => k_linkUp (by omega) hn hr kx kl (fun g => hx (by rw [g]; decide)) ⟨fun g => hps.2.1 (by rw [g]; decide), fun g => hps.2.2.1 (by rw [g]; decide)⟩ hpM (by rw [f x hx]; exact hrr) (by omega) (fun M4 f4 q4 => ?_)⟩
    have hp4 := z_pn_cf hpM f4 (sub _ (by decide)).1 (sub [92] (by decide)).2.1 (sub [92] (by decide)).2.2.1 (sub [92] (by decide)).2.2.2
    have nxt := ih (i + 1) M4 (by omega) (z_cf_tr f (z_cf_mono f4 (by decide))) (fun e he hte => by
      rw [q4 e he]
      by_cases c : z_td o e = i
      · rw [if_pos c]
      · rw [if_neg c]; exact q e he (by omega))
    have e2 : z_cn (fun n => z_dg o n == 0) (i + 1) = z_cn (fun n => z_dg o n == 0) i + (if z_dg o i == 0 then 1 else 0) := rfl
    rw [kk.2.2.2.1, hp4.2.2.2.2 i (by omega), q_add_eq (a := (i : Int)) (by omega), q_add_eq (by omega)]
    refine ⟨by omega, fun g => ?_, fun g => ?_⟩
    · rw [e2, beq_eq_false_iff_ne.mpr (show z_dg o i ≠ 0 by omega)] at nxt
      simpa using nxt
    · rw [e2, beq_iff_eq.mpr (show z_dg o i = 0 by omega)] at nxt
      simpa using nxt
theorem k_shape {d : Nat} {M : q_Mem} {K : q_Mem → Prop} {p x : Int} {o : Int → Int} (hd : 2 < d) (hn : z_net o) (hr : z_ring o 1) (kx : q_kd x = 14) (kl : q_ln x = 160) (hx : x ∉ [91, 92, 93, 94, 95, 96, 97]) (hps : p ∉ [91, 92, 93, 94, 95, 96, 97] ∧ p + 1 ∉ [91, 92, 93, 94, 95, 96, 97] ∧ p + 2 ∉ [91, 92, 93, 94, 95, 96, 97] ∧ p + 4 ∉ [91, 92, 93, 94, 95, 96, 97]) (hp : z_pn M p o) (hrr : z_rr (M x) o 1) (h : ∀ M', z_cf [91, 92, 93, 94, 95, 96, 97] M M' → z_sh o M' → K M') : q_kU yX6_workOut mX6_workOut d [qR 91, qR p, qR x] M K :=
  q_goU hd rfl (plainFor_of_name (by decide +kernel)) rfl (fun h => nomatch h) (Nat.le_of_ble_eq_true rfl) (fun d hd => bX6_workOut_0 _ _ hp.1 kx (l_wo hd hn hr kx kl hx hps hp hrr h (z_N o) 0 M (by omega) z_cf_rf (fun e _ g => by omega)))
