-- climbs without loss, in both
abbrev z_C : Type := (Nat → Int) × (Nat → Nat) × Nat
def z_c1 (V : Nat → Int) (s : Nat) (c : z_C) (n : Nat) : z_C := if c.1 (s ^^^ 2 ^ n) = -1 ∧ V s ≤ V (s ^^^ 2 ^ n) then (z_upf c.1 (s ^^^ 2 ^ n) (c.1 s + 1), z_upn c.2.1 c.2.2 (s ^^^ 2 ^ n), c.2.2 + 1) else c
def z_ci (V : Nat → Int) (s : Nat) (c : z_C) : Nat → z_C
  | 0 => c
  | n + 1 => z_c1 V s (z_ci V s c n) n
def z_clb (V : Nat → Int) (hi : Int) (N : Nat) : Nat → Nat → z_C → Int
  | 0, _, _ => -1
  | f + 1, k, c => if c.2.2 ≤ k then -1 else if V (c.2.1 k) = hi then c.1 (c.2.1 k) else z_clb V hi N f (k + 1) (z_ci V (c.2.1 k) c N)
def z_cI (N : Nat) (c : z_C) : Prop := c.2.2 = z_vc c.1 (2 ^ N) ∧ (∀ i, i < c.2.2 → c.2.1 i < 2 ^ N ∧ c.1 (c.2.1 i) ≠ -1) ∧ ∀ s, -1 ≤ c.1 s ∧ c.1 s ≤ (c.2.2 : Int)
theorem z_cI_end {N : Nat} {c : z_C} (h : z_cI N c) : c.2.2 ≤ 2 ^ N := by rw [h.1]; exact z_cn_le
theorem z_cI_lt {N : Nat} {c : z_C} (h : z_cI N c) {t : Nat} (ht : t < 2 ^ N) (hf : c.1 t = -1) : c.2.2 < 2 ^ N := by
  have := z_vc_up (D := 2 ^ N) (f := 0) (by decide) ht hf
  have hle := z_cn_le (p := fun x => decide (z_upf c.1 t 0 x ≠ -1)) (n := 2 ^ N)
  rw [h.1]
  unfold z_vc at *
  omega
theorem z_c1_I {V : Nat → Int} {N s n : Nat} {c : z_C} (hs : s < 2 ^ N) (hn : n < N) (hf : c.1 s ≠ -1) (h : z_cI N c) : z_cI N (z_c1 V s c n) ∧ (z_c1 V s c n).1 s = c.1 s ∧ c.2.2 ≤ (z_c1 V s c n).2.2 := by
  have ft := z_flip_lt hs hn
  unfold z_c1
  split
  · rename_i g
    have rs := h.2.2 s
    have ne : s ≠ s ^^^ 2 ^ n := fun e => hf (by rw [e]; exact g.1)
    refine ⟨⟨?_, fun i hi => ?_, fun x => ?_⟩, ?_, by show c.2.2 ≤ c.2.2 + 1; omega⟩
    · show c.2.2 + 1 = z_vc (z_upf c.1 (s ^^^ 2 ^ n) (c.1 s + 1)) (2 ^ N)
      rw [z_vc_up (by omega) ft g.1, h.1]
    · show z_upn c.2.1 c.2.2 (s ^^^ 2 ^ n) i < 2 ^ N ∧ z_upf c.1 (s ^^^ 2 ^ n) (c.1 s + 1) (z_upn c.2.1 c.2.2 (s ^^^ 2 ^ n) i) ≠ -1
      by_cases e : i = c.2.2
      · subst e; rw [z_upn_s, z_upf_s]; exact ⟨ft, by omega⟩
      · have hi : i < c.2.2 + 1 := hi
        have := h.2.1 i (by omega)
        rw [z_upn_n e]
        refine ⟨this.1, ?_⟩
        by_cases e2 : c.2.1 i = s ^^^ 2 ^ n
        · rw [e2, z_upf_s]; omega
        · rw [z_upf_n e2]; exact this.2
    · show -1 ≤ z_upf c.1 (s ^^^ 2 ^ n) (c.1 s + 1) x ∧ z_upf c.1 (s ^^^ 2 ^ n) (c.1 s + 1) x ≤ ((c.2.2 + 1 : Nat) : Int)
      by_cases e : x = s ^^^ 2 ^ n
      · subst e; rw [z_upf_s]; omega
      · rw [z_upf_n e]; have := h.2.2 x; omega
    · show z_upf c.1 (s ^^^ 2 ^ n) (c.1 s + 1) s = c.1 s
      rw [z_upf_n ne]
  · exact ⟨h, rfl, Nat.le_refl _⟩
theorem z_ci_I {V : Nat → Int} {N s : Nat} {c : z_C} (hs : s < 2 ^ N) (hf : c.1 s ≠ -1) (h : z_cI N c) : ∀ n, n ≤ N → z_cI N (z_ci V s c n) ∧ (z_ci V s c n).1 s = c.1 s ∧ c.2.2 ≤ (z_ci V s c n).2.2
  | 0, _ => ⟨h, rfl, Nat.le_refl _⟩
  | n + 1, hn => by
    obtain ⟨a, b, e⟩ := z_ci_I hs hf h n (by omega)
    obtain ⟨a2, b2, e2⟩ := z_c1_I (V := V) hs (n := n) (by omega) (by rw [b]; exact hf) a
    exact ⟨a2, b2.trans b, Nat.le_trans e e2⟩
/-- in rows -/
def z_cr (N : Nat) (r1 r2 : Int → Int) (c : z_C) : Prop := (∀ s : Nat, s < 2 ^ N → r1 s = c.1 s) ∧ (∀ i : Nat, i < c.2.2 → r2 i = (c.2.1 i : Int))
theorem z_cr_up {N t e : Nat} {r1 r2 r1' r2' : Int → Int} {c : z_C} {v : Int} (h : z_cr N r1 r2 c) (he : e = c.2.2) (h1 : r1' t = v) (h1' : ∀ x : Nat, x ≠ t → r1' x = r1 x) (h2 : r2' e = (t : Int)) (h2' : ∀ x : Nat, x ≠ e → r2' x = r2 x) : z_cr N r1' r2' (z_upf c.1 t v, z_upn c.2.1 c.2.2 t, c.2.2 + 1) := by
  subst he
  refine ⟨fun s hs => ?_, fun i hi => ?_⟩
  · show r1' s = z_upf c.1 t v s
    by_cases e : s = t
    · subst e; rw [z_upf_s]; exact h1
    · rw [z_upf_n e, h1' s e]; exact h.1 s hs
  · show r2' i = ((z_upn c.2.1 c.2.2 t i : Nat) : Int)
    by_cases e : i = c.2.2
    · subst e; rw [z_upn_s]; exact h2
    · have hi : i < c.2.2 + 1 := hi
      rw [z_upn_n e, h2' i e]; exact h.2 i (by omega)
theorem l_cb95 {d : Nat} {K : Int → q_Mem → Prop} {M0 : q_Mem} (hE : z_E (M0 179)) (ht : z_RT (M0 179) M0) {k s : Nat} {c0 : z_C} (hs : s < 2 ^ z_N (M0 179)) (hf : c0.1 s ≠ -1) (hI : z_cI (z_N (M0 179)) c0)
    (h : ∀ M' c', c' = z_ci (z_V2 (M0 179)) s c0 (z_N (M0 179)) → z_fr [200, 201] [] M0 M' → z_cr (z_N (M0 179)) (M' 200) (M' 201) c' → q_v mX12_climb d (qPI K) M' 60 [some (qR 178), some (qI (c'.2.2 : Int)), some (qI (q_add (k : Int) 1)), none, none, none] []) :
    ∀ (j n : Nat) (M : q_Mem) (c : z_C), n + j = z_N (M0 179) → c = z_ci (z_V2 (M0 179)) s c0 n → z_fr [200, 201] [] M0 M → z_cr (z_N (M0 179)) (M 200) (M 201) c → q_v mX12_climb d (qPI K) M 95 [some (qR 178), some (qI (c.2.2 : Int)), some (qI (k : Int)), some (qI (s : Int)), some (qI (n : Int)), none] [] := by
  have hn := hE.1
  have p10 := z_2N hn
  have hN := z_net_N10 hn
  have eN := z_net_N hn
  intro j
  induction j with
  | zero =>
    intro n M c e ec fr q
    have en : n = z_N (M0 179) := by omega
    refine bX12_climb_95 _ _ _ _ ?_
    rw [fr.1 179 (by decide) (by decide)]
    exact ⟨fun _ => h M c (by rw [← en]; exact ec) fr q, fun g => absurd (by omega) g⟩
  | succ j ih =>
    intro n M c e ec fr q
    obtain ⟨cI, cs, _⟩ := z_ci_I (V := z_V2 (M0 179)) hs hf hI n (by omega)
    rw [← ec] at cI cs
    have fl := z_flip_lt hs (n := n) (by omega)
    have nx : z_ci (z_V2 (M0 179)) s c0 (n + 1) = z_c1 (z_V2 (M0 179)) s c n := by rw [ec]; rfl
    have w1 : M 199 = M0 199 := fr.1 199 (by decide) (by decide)
    have en := z_cI_end cI
    have rs := cI.2.2 s
    refine bX12_climb_95 _ _ _ _ ?_
    rw [fr.1 179 (by decide) (by decide), q_xor1 (by omega) (by omega), q_add_eq (a := (n : Int)) (by omega), show (n : Int) + 1 = ((n + 1 : Nat) : Int) by omega]
    refine ⟨fun g => by omega, fun _ x ex => ?_⟩
    subst ex
    rw [q.1 _ fl, q.1 _ hs, w1, ht.2.2.2 _ fl, ht.2.2.2 _ hs]
    unfold z_c1 at nx
    refine ⟨by omega, fun g => ?_, fun g => ⟨by omega, by omega, fun g2 => ⟨by omega, by omega, fun M7 e7 => ?_⟩, fun g2 => ?_⟩⟩
    · rw [if_neg (fun x => g x.1)] at nx
      exact ih (n + 1) M c (by omega) nx.symm fr q
    · have lt := z_cI_lt cI fl g
      refine ⟨by omega, fun M9 e9 => ?_⟩
      rw [if_pos ⟨g, g2⟩] at nx
      rw [q_add_eq (a := (c.2.2 : Int)) (by omega)]
      rw [q_add_eq (by omega)] at e7
      refine ih (n + 1) M9 (z_upf c.1 (s ^^^ 2 ^ n) (c.1 s + 1), z_upn c.2.1 c.2.2 (s ^^^ 2 ^ n), c.2.2 + 1) (by omega) nx.symm (z_fr_u (z_fr_u fr e7 (by decide) (by decide)) e9 (by decide) (by decide)) ?_
      refine z_cr_up q rfl ?_ (fun x hx => ?_) ?_ (fun x hx => ?_)
      · rw [e9, q_up_o (by decide), e7, q_up_s]
      · rw [e9, q_up_o (by decide), e7, q_up_n (by omega)]
      · rw [e9, q_up_s]
      · rw [e9, q_up_n (by omega), e7, q_up_o (by decide)]
    · rw [if_neg (fun x => g2 x.2)] at nx
      exact ih (n + 1) M c (by omega) nx.symm fr q
theorem l_cb60 {d : Nat} {K : Int → q_Mem → Prop} {M0 : q_Mem} (hE : z_E (M0 179)) (ht : z_RT (M0 179) M0) :
    ∀ (f k : Nat) (M : q_Mem) (c : z_C), k + f = 2 ^ z_N (M0 179) + 1 → k ≤ c.2.2 → z_cI (z_N (M0 179)) c → z_fr [200, 201] [] M0 M → z_cr (z_N (M0 179)) (M 200) (M 201) c → (∀ M', z_fr [200, 201] [] M0 M' → K (z_clb (z_V2 (M0 179)) (z_hi (z_V2 (M0 179)) (2 ^ z_N (M0 179))) (z_N (M0 179)) f k c) M') → q_v mX12_climb d (qPI K) M 60 [some (qR 178), some (qI (c.2.2 : Int)), some (qI (k : Int)), none, none, none] [] := by
  have hn := hE.1
  have p10 := z_2N hn
  intro f
  induction f with
  | zero =>
    intro k M c e hk cI fr q h
    have := z_cI_end cI
    omega
  | succ f ih =>
    intro k M c e hk cI fr q h
    have en := z_cI_end cI
    unfold z_clb at h
    refine bX12_climb_60 _ _ ⟨fun g => ?_, fun g => ?_⟩
    · rw [if_pos (by omega)] at h
      exact h M fr
    · rw [if_neg (by omega)] at h
      have rk := cI.2.1 k (by omega)
      rw [q.2 k (by omega)]
      refine ⟨by omega, fun x ex => ?_⟩
      subst ex
      rw [fr.1 199 (by decide) (by decide), fr.2 40 (by decide), ht.2.1, ht.2.2.2 _ rk.1, q.1 _ rk.1]
      refine ⟨by omega, fun g2 => ?_, fun g2 => ⟨by omega, ?_⟩⟩
      · rw [if_neg g2] at h
        refine l_cb95 hE ht rk.1 rk.2 cI (fun M' c' ec' fr' q' => ?_) (z_N (M0 179)) 0 M c (by omega) rfl fr q
        obtain ⟨cI', _, ce'⟩ := z_ci_I (V := z_V2 (M0 179)) rk.1 rk.2 cI (z_N (M0 179)) (Nat.le_refl _)
        rw [← ec'] at cI' ce'
        rw [q_add_eq (by omega), show (k : Int) + 1 = ((k + 1 : Nat) : Int) by omega]
        refine ih (k + 1) M' c' (by omega) (by omega) cI' fr' q' ?_
        rw [ec']
        exact h
      · rw [if_pos g2] at h
        exact h M fr
def z_c0 (sd : Nat) : z_C := (z_upf (fun _ => -1) sd 0, fun _ => sd, 1)
theorem z_c0_I {N sd : Nat} (h : sd < 2 ^ N) : z_cI N (z_c0 sd) := by
  refine ⟨?_, fun i hi => ⟨h, ?_⟩, fun s => ?_⟩
  · show 1 = z_vc (z_upf (fun _ => -1) sd 0) (2 ^ N)
    rw [z_vc_up (by decide) h rfl]
    have : ∀ m, z_vc (fun _ => -1) m = 0 := by
      intro m
      induction m with
      | zero => rfl
      | succ m ih => show z_vc (fun _ => -1) m + (if decide ((-1 : Int) ≠ -1) then 1 else 0) = 0; rw [ih]; simp
    rw [this]
  · show z_upf (fun _ => -1) sd 0 sd ≠ -1
    rw [z_upf_s]; decide
  · show -1 ≤ z_upf (fun _ => -1) sd 0 s ∧ z_upf (fun _ => -1) sd 0 s ≤ ((1 : Nat) : Int)
    by_cases e : s = sd
    · subst e; rw [z_upf_s]; decide
    · rw [z_upf_n e]; decide
def z_climb (o : Int → Int) : Int := z_clb (z_V2 o) (z_hi (z_V2 o) (2 ^ z_N o)) (z_N o) (2 ^ z_N o + 1) 0 (z_c0 (z_s o))
theorem l_cb11 {d : Nat} {K : Int → q_Mem → Prop} {M0 : q_Mem} (hE : z_E (M0 179)) (ht : z_RT (M0 179) M0) (h : ∀ M', z_fr [200, 201] [] M0 M' → K (z_climb (M0 179)) M') :
    ∀ (j i : Nat) (M : q_Mem), i + j = 2 ^ z_N (M0 179) → z_fr [200, 201] [] M0 M → (∀ s : Nat, s < i → M 200 s = -1) → q_v mX12_climb d (qPI K) M 11 [some (qR 178), some (qI (i : Int)), none, none, none, none] [] := by
  have hn := hE.1
  have p10 := z_2N hn
  have es := z_E_s hE
  intro j
  induction j with
  | zero =>
    intro i M e fr q
    refine bX12_climb_11 _ ?_
    rw [fr.2 39 (by decide), ht.1, fr.1 179 (by decide) (by decide), es.1]
    refine ⟨fun _ => ⟨by omega, fun M2 e2 M3 e3 => ?_⟩, fun g => absurd (by omega) g⟩
    rw [show M2 179 = M0 179 by rw [e2, q_up_o (by decide)]; exact fr.1 179 (by decide) (by decide), es.1] at e3
    have f3 := z_fr_u (z_fr_u fr e2 (by decide) (by decide)) e3 (by decide) (by decide)
    refine l_cb60 hE ht (2 ^ z_N (M0 179) + 1) 0 M3 (z_c0 (z_s (M0 179))) (by omega) (Nat.zero_le _) (z_c0_I es.2.1) f3 ⟨fun s hs => ?_, fun i hi => ?_⟩ h
    · show M3 200 s = z_upf (fun _ => -1) (z_s (M0 179)) 0 s
      rw [e3, q_up_o (by decide), e2]
      by_cases c : s = z_s (M0 179)
      · subst c; rw [q_up_s, z_upf_s]
      · rw [q_up_n (by omega), z_upf_n c]; exact q s (by omega)
    · have hi : i < 1 := hi
      rw [show i = 0 by omega, e3]
      exact q_up_s
  | succ j ih =>
    intro i M e fr q
    refine bX12_climb_11 _ ?_
    rw [fr.2 39 (by decide), ht.1, q_add_eq (by omega), show (i : Int) + 1 = ((i + 1 : Nat) : Int) by omega]
    refine ⟨fun g => by omega, fun _ => ⟨by omega, fun M5 e5 => ih (i + 1) M5 (by omega) (z_fr_u fr e5 (by decide) (by decide)) (fun s hs => ?_)⟩⟩
    by_cases c : s = i
    · subst c; rw [e5, q_up_s]
    · rw [e5, q_up_n (by omega)]; exact q s (by omega)
/-- the class's -/
theorem z_CT_cf {S : List Int} {o : Int → Int} {M M' : q_Mem} (h : z_CT o M) (f : z_cf S M M') (h1 : (117 : Int) ∉ S) (h2 : (118 : Int) ∉ S) : z_CT o M' := by
  unfold z_CT
  rw [f 117 h1, f 118 h2]
  exact h
theorem l_cc77 {d : Nat} {K : Int → q_Mem → Prop} {M0 : q_Mem} {o : Int → Int} (hn : z_net o) (ht : z_CT o M0) {k s : Nat} {c0 : z_C} (hs : s < 2 ^ z_N o) (hf : c0.1 s ≠ -1) (hI : z_cI (z_N o) c0)
    (h : ∀ M' c', c' = z_ci (z_V2 o) s c0 (z_N o) → z_cf [119, 120] M0 M' → z_cr (z_N o) (M' 119) (M' 120) c' → q_v mX8_fewestWithoutLoss d (qPI K) M' 31 [some (qR 117), none, some (qI (c'.2.2 : Int)), some (qI (q_add (k : Int) 1)), none, none, none] []) :
    ∀ (j n : Nat) (M : q_Mem) (c : z_C), n + j = z_N o → c = z_ci (z_V2 o) s c0 n → z_cf [119, 120] M0 M → z_cr (z_N o) (M 119) (M 120) c → q_v mX8_fewestWithoutLoss d (qPI K) M 77 [some (qR 117), none, some (qI (c.2.2 : Int)), some (qI (k : Int)), some (qI (s : Int)), some (qI (n : Int)), none] [] := by
  have p10 := z_2N hn
  have hN := z_net_N10 hn
  intro j
  induction j with
  | zero =>
    intro n M c e ec fr q
    have en : n = z_N o := by omega
    have tM := z_CT_cf ht fr (by decide) (by decide)
    refine bX8_fewestWithoutLoss_77 _ _ _ _ ?_
    rw [tM.1]
    exact ⟨fun _ => h M c (by rw [← en]; exact ec) fr q, fun g => absurd (by omega) g⟩
  | succ j ih =>
    intro n M c e ec fr q
    obtain ⟨cI, cs, _⟩ := z_ci_I (V := z_V2 o) hs hf hI n (by omega)
    rw [← ec] at cI cs
    have tM := z_CT_cf ht fr (by decide) (by decide)
    have fl := z_flip_lt hs (n := n) (by omega)
    have nx : z_ci (z_V2 o) s c0 (n + 1) = z_c1 (z_V2 o) s c n := by rw [ec]; rfl
    have en := z_cI_end cI
    have rs := cI.2.2 s
    refine bX8_fewestWithoutLoss_77 _ _ _ _ ?_
    rw [tM.1, q_xor1 (by omega) (by omega), q_add_eq (a := (n : Int)) (by omega), show (n : Int) + 1 = ((n + 1 : Nat) : Int) by omega]
    refine ⟨fun g => by omega, fun _ x ex => ?_⟩
    subst ex
    rw [q.1 _ fl, q.1 _ hs, tM.2.1, tM.2.2.2.2 _ fl, tM.2.2.2.2 _ hs]
    unfold z_c1 at nx
    refine ⟨by omega, fun g => ?_, fun g => ⟨by omega, by omega, fun g2 => ?_, fun g2 => ⟨fun g3 => ?_, fun g3 => ⟨by omega, by omega, fun M7 e7 => ⟨by omega, fun M9 e9 => ?_⟩⟩⟩⟩⟩
    · rw [if_neg (fun x => g x.1)] at nx
      exact ih (n + 1) M c (by omega) nx.symm fr q
    · rw [if_neg (fun x => by omega)] at nx
      exact ih (n + 1) M c (by omega) nx.symm fr q
    · have lt := z_cI_lt cI fl g
      omega
    · rw [if_pos ⟨g, by omega⟩] at nx
      rw [q_add_eq (a := (c.2.2 : Int)) (by omega)]
      rw [q_add_eq (by omega)] at e7
      refine ih (n + 1) M9 (z_upf c.1 (s ^^^ 2 ^ n) (c.1 s + 1), z_upn c.2.1 c.2.2 (s ^^^ 2 ^ n), c.2.2 + 1) (by omega) nx.symm (z_cf_u (z_cf_u fr e7 (by decide)) e9 (by decide)) ?_
      refine z_cr_up q rfl ?_ (fun x hx => ?_) ?_ (fun x hx => ?_)
      · rw [e9, q_up_o (by decide), e7, q_up_s]
      · rw [e9, q_up_o (by decide), e7, q_up_n (by omega)]
      · rw [e9, q_up_s]
      · rw [e9, q_up_n (by omega), e7, q_up_o (by decide)]
theorem l_cc31 {d : Nat} {K : Int → q_Mem → Prop} {M0 : q_Mem} {o : Int → Int} (hn : z_net o) (ht : z_CT o M0) :
    ∀ (f k : Nat) (M : q_Mem) (c : z_C), k + f = 2 ^ z_N o + 1 → k ≤ c.2.2 → z_cI (z_N o) c → z_cf [119, 120] M0 M → z_cr (z_N o) (M 119) (M 120) c → (∀ M', z_cf [119, 120] M0 M' → K (z_clb (z_V2 o) (z_hi (z_V2 o) (2 ^ z_N o)) (z_N o) f k c) M') → q_v mX8_fewestWithoutLoss d (qPI K) M 31 [some (qR 117), none, some (qI (c.2.2 : Int)), some (qI (k : Int)), none, none, none] [] := by
  have p10 := z_2N hn
  intro f
  induction f with
  | zero =>
    intro k M c e hk cI fr q h
    have := z_cI_end cI
    omega
  | succ f ih =>
    intro k M c e hk cI fr q h
    have en := z_cI_end cI
    have tM := z_CT_cf ht fr (by decide) (by decide)
    unfold z_clb at h
    refine bX8_fewestWithoutLoss_31 _ _ ⟨fun g => ?_, fun g => ⟨fun g0 => ?_, fun _ => ?_⟩⟩
    · rw [if_pos (by omega)] at h
      exact h M fr
    · rw [tM.2.1] at g0; omega
    · rw [if_neg (by omega)] at h
      have rk := cI.2.1 k (by omega)
      rw [q.2 k (by omega)]
      refine ⟨by omega, fun x ex => ?_⟩
      subst ex
      rw [tM.2.2.1, tM.2.2.2.2 _ rk.1, q.1 _ rk.1]
      refine ⟨by omega, fun g2 => ?_, fun g2 => ⟨by omega, ?_⟩⟩
      · rw [if_neg g2] at h
        refine l_cc77 hn ht rk.1 rk.2 cI (fun M' c' ec' fr' q' => ?_) (z_N o) 0 M c (by omega) rfl fr q
        obtain ⟨cI', _, ce'⟩ := z_ci_I (V := z_V2 o) rk.1 rk.2 cI (z_N o) (Nat.le_refl _)
        rw [← ec'] at cI' ce'
        rw [q_add_eq (by omega), show (k : Int) + 1 = ((k + 1 : Nat) : Int) by omega]
        refine ih (k + 1) M' c' (by omega) (by omega) cI' fr' q' ?_
        rw [ec']
        exact h
      · rw [if_pos g2] at h
        exact h M fr
theorem k_cclimb {d : Nat} {M : q_Mem} {K : Int → q_Mem → Prop} {o : Int → Int} (hd : 2 < d) (hE : z_E o) (ht : z_CT o M) (h : ∀ M', z_cf [119, 120] M M' → K (z_climb o) M') : q_kI yX8_fewestWithoutLoss mX8_fewestWithoutLoss d [qR 117, qI (z_s o : Int)] M K := by
  have hn := hE.1
  have p10 := z_2N hn
  have es := z_E_s hE
  refine q_goI hd rfl (plainFor_of_name (by decide +kernel)) rfl (fun h => nomatch h) (Nat.le_of_ble_eq_true rfl) (fun d hd => bX8_fewestWithoutLoss_0 _ ?_)
  rw [ht.2.1]
  refine k_fill3 (by omega) (by decide +kernel) (by decide) (by omega) (by rw [show q_ln 119 = 1024 by decide +kernel]; omega) (by omega) ⟨by omega, fun M3 e3 M4 e4 => ?_⟩
  have f4 : z_cf [119, 120] M M4 := z_cf_u (z_cf_u (M := z_fill M 119 0 ((2 ^ z_N o : Nat) : Int) (-1)) (fun a ha => z_fill_o (fun e => ha (by rw [e]; decide))) e3 (by decide)) e4 (by decide)
  refine l_cc31 (M0 := M) hn ht (2 ^ z_N o + 1) 0 M4 (z_c0 (z_s o)) (by omega) (Nat.zero_le _) (z_c0_I es.2.1) f4 ⟨fun s hs => ?_, fun i hi => ?_⟩ h
  · show M4 119 s = z_upf (fun _ => -1) (z_s o) 0 s
    rw [e4, q_up_o (by decide), e3]
    by_cases c : s = z_s o
    · subst c; rw [q_up_s, z_upf_s]
    · rw [q_up_n (by omega), z_upf_n c, z_fill_s (by omega)]
  · have hi : i < 1 := hi
    rw [show i = 0 by omega, e4]
    exact q_up_s
