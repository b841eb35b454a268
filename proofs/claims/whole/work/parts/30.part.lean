-- parts: each node's least; the reference's
def z_prt (o : Int → Int) (k : Nat) (p : Nat → Nat) : Prop := (∀ l, l < k → p (z_a o l) = p (z_b o l)) ∧ (∀ n, p n ≤ n) ∧ (∀ g : Nat → Nat, (∀ l, l < k → g (z_a o l) = g (z_b o l)) → ∀ n, g (p n) = g n)
def z_mg (p : Nat → Nat) (x y : Nat) : Nat → Nat := fun n => if p n = max (p x) (p y) then min (p x) (p y) else p n
def z_ptk (o : Int → Int) : Nat → Nat → Nat
  | 0 => fun n => n
  | k + 1 => z_mg (z_ptk o k) (z_a o k) (z_b o k)
def z_pt (o : Int → Int) : Nat → Nat := z_ptk o (z_L o)
theorem z_prt_step {o : Int → Int} {k : Nat} {p : Nat → Nat} (h : z_prt o k p) : z_prt o (k + 1) (z_mg p (z_a o k) (z_b o k)) := by
  refine ⟨fun l hl => ?_, fun n => ?_, fun g hg n => ?_⟩
  · unfold z_mg
    by_cases e : l = k
    · subst e
      split <;> split <;> omega
    · rw [h.1 l (by omega)]
  · have := h.2.1 n
    unfold z_mg
    split <;> omega
  · have h1 := h.2.2 g (fun l hl => hg l (by omega))
    have h2 := hg k (by omega)
    have e : g (max (p (z_a o k)) (p (z_b o k))) = g (min (p (z_a o k)) (p (z_b o k))) := by
      have x := h1 (z_a o k)
      have y := h1 (z_b o k)
      by_cases c : p (z_a o k) ≤ p (z_b o k)
      · rw [Nat.max_eq_right c, Nat.min_eq_left c, x, y, h2]
      · rw [Nat.max_eq_left (by omega), Nat.min_eq_right (by omega), x, y, h2]
    unfold z_mg
    split
    · rename_i q
      rw [← e, ← q]
      exact h1 n
    · exact h1 n
theorem z_ptk_ok {o : Int → Int} : ∀ k, z_prt o k (z_ptk o k)
  | 0 => ⟨fun l hl => by omega, fun n => Nat.le_refl n, fun g _ n => rfl⟩
  | k + 1 => z_prt_step (z_ptk_ok k)
theorem z_pt_ok {o : Int → Int} : z_prt o (z_L o) (z_pt o) := z_ptk_ok _
theorem z_prt_idem {o : Int → Int} {k : Nat} {p : Nat → Nat} (h : z_prt o k p) (n : Nat) : p (p n) = p n := h.2.2 p h.1 n
theorem z_prt_lt {o : Int → Int} {k : Nat} {p : Nat → Nat} (h : z_prt o k p) {n : Nat} (hn : n < z_N o) : p n < z_N o := by
  have := h.2.1 n; omega
/-- how many parts -/
def z_pc (o : Int → Int) : Nat := z_cn (fun n => z_pt o n == n) (z_N o)
theorem z_mg_id {p : Nat → Nat} {x y : Nat} (h : p x = p y) : z_mg p x y = p := by
  funext n
  unfold z_mg
  split <;> omega
theorem z_mg_cn {o : Int → Int} {k : Nat} {p : Nat → Nat} (h : z_prt o k p) {x y N : Nat} (hx : x < N) (hy : y < N) (e : p x ≠ p y) : z_cn (fun n => p n == n) N = z_cn (fun n => z_mg p x y n == n) N + 1 := by
  have ix := z_prt_idem h x
  have iy := z_prt_idem h y
  have lx := h.2.1 x
  have ly := h.2.1 y
  have im : p (max (p x) (p y)) = max (p x) (p y) := by
    by_cases c : p x ≤ p y
    · rw [Nat.max_eq_right c]; exact iy
    · rw [Nat.max_eq_left (by omega)]; exact ix
  have in' : p (min (p x) (p y)) = min (p x) (p y) := by
    by_cases c : p x ≤ p y
    · rw [Nat.min_eq_left c]; exact ix
    · rw [Nat.min_eq_right (by omega)]; exact iy
  refine z_cn_add (c := max (p x) (p y)) (by omega) ?_ ?_ (fun n hn => ?_)
  · simp only [beq_eq_false_iff_ne, ne_eq]
    unfold z_mg
    rw [if_pos im]
    omega
  · simp only [beq_iff_eq]; exact im
  · unfold z_mg
    by_cases c : p n = max (p x) (p y)
    · rw [if_pos c]
      have h1 : n ≠ min (p x) (p y) := fun g => by rw [g, in'] at c; omega
      have h2 : p n ≠ n := by omega
      rw [beq_eq_false_iff_ne.mpr h2, beq_eq_false_iff_ne.mpr (fun g => h1 g.symm)]
    · rw [if_neg c]
/-- labels that fall towards the least ones -/
def z_lb (o : Int → Int) (p : Nat → Nat) : Prop := (∀ n, p n ≤ n) ∧ (∀ g : Nat → Nat, (∀ l, l < z_L o → g (z_a o l) = g (z_b o l)) → ∀ n, g (p n) = g n)
theorem z_lb_ge {o : Int → Int} {p : Nat → Nat} (h : z_lb o p) (n : Nat) : z_pt o n ≤ p n := by
  have e := h.2 (z_pt o) z_pt_ok.1 n
  have := (z_pt_ok (o := o)).2.1 (p n)
  omega
def z_rx (p : Nat → Nat) (x y : Nat) : Nat → Nat := fun n => if n = x ∨ n = y then min (p x) (p y) else p n
theorem z_lb_rx {o : Int → Int} {p : Nat → Nat} (h : z_lb o p) {l : Nat} (hl : l < z_L o) : z_lb o (z_rx p (z_a o l) (z_b o l)) := by
  have ha := h.1 (z_a o l)
  have hb := h.1 (z_b o l)
  refine ⟨fun n => ?_, fun g hg n => ?_⟩
  · have := h.1 n
    unfold z_rx
    split
    · rename_i c; rcases c with c | c <;> subst c <;> omega
    · exact this
  · have h1 := h.2 g hg
    have e := hg l hl
    have m : g (min (p (z_a o l)) (p (z_b o l))) = g (z_a o l) := by
      by_cases c : p (z_a o l) ≤ p (z_b o l)
      · rw [Nat.min_eq_left c]; exact h1 _
      · rw [Nat.min_eq_right (by omega), h1, e]
    unfold z_rx
    split
    · rename_i c
      rw [m]
      rcases c with c | c
      · rw [c]
      · rw [c, e]
    · exact h1 n
/-- a round over the links up to k -/
def z_rnd (o : Int → Int) (p : Nat → Nat) : Nat → Nat → Nat
  | 0 => p
  | k + 1 => z_rx (z_rnd o p k) (z_a o k) (z_b o k)
theorem z_rnd_lb {o : Int → Int} {p : Nat → Nat} (h : z_lb o p) : ∀ k, k ≤ z_L o → z_lb o (z_rnd o p k)
  | 0, _ => h
  | k + 1, hk => z_lb_rx (z_rnd_lb h k (by omega)) (by omega)
theorem z_rx_eq {o : Int → Int} {p : Nat → Nat} (h : z_lb o p) {l : Nat} (hl : l < z_L o) : (∀ n, p n = z_pt o n → z_rx p (z_a o l) (z_b o l) n = z_pt o n) ∧ ((p (z_a o l) = z_pt o (z_a o l) ∨ p (z_b o l) = z_pt o (z_b o l)) → ∀ n, n = z_a o l ∨ n = z_b o l → z_rx p (z_a o l) (z_b o l) n = z_pt o n) := by
  have e := (z_pt_ok (o := o)).1 l hl
  have ga := z_lb_ge h (z_a o l)
  have gb := z_lb_ge h (z_b o l)
  refine ⟨fun n hn => ?_, fun c n hn => ?_⟩
  · unfold z_rx
    split
    · rename_i c; rcases c with c | c <;> subst c <;> omega
    · exact hn
  · unfold z_rx
    rw [if_pos hn]
    rcases hn with hn | hn <;> subst hn <;> omega
theorem z_rnd_eq {o : Int → Int} {p : Nat → Nat} (h : z_lb o p) : ∀ k, k ≤ z_L o → (∀ n, p n = z_pt o n → z_rnd o p k n = z_pt o n) ∧ (∀ l, l < k → (p (z_a o l) = z_pt o (z_a o l) ∨ p (z_b o l) = z_pt o (z_b o l)) → z_rnd o p k (z_a o l) = z_pt o (z_a o l) ∧ z_rnd o p k (z_b o l) = z_pt o (z_b o l))
  | 0, _ => ⟨fun n hn => hn, fun l hl => by omega⟩
  | k + 1, hk => by
    obtain ⟨a, b⟩ := z_rnd_eq h k (by omega)
    obtain ⟨c, d⟩ := z_rx_eq (z_rnd_lb h k (by omega)) (l := k) (by omega)
    refine ⟨fun n hn => c n (a n hn), fun l hl hc => ?_⟩
    by_cases e : l = k
    · subst e
      have hc' : z_rnd o p l (z_a o l) = z_pt o (z_a o l) ∨ z_rnd o p l (z_b o l) = z_pt o (z_b o l) := hc.imp (a _) (a _)
      exact ⟨d hc' _ (Or.inl rfl), d hc' _ (Or.inr rfl)⟩
    · have := b l (by omega) hc
      exact ⟨c _ this.1, c _ this.2⟩
theorem z_cn_mono {p q : Nat → Bool} (h : ∀ k, p k = true → q k = true) : ∀ {n : Nat}, z_cn p n ≤ z_cn q n
  | 0 => Nat.le_refl _
  | n + 1 => by
    have := z_cn_mono h (n := n)
    have h2 := h n
    show z_cn p n + (if p n then 1 else 0) ≤ z_cn q n + (if q n then 1 else 0)
    cases hp : p n
    · simp; omega
    · rw [h2 hp]; simp; omega
theorem z_cn_lt {p q : Nat → Bool} (h : ∀ k, p k = true → q k = true) : ∀ {n c : Nat}, c < n → p c = false → q c = true → z_cn p n < z_cn q n
  | 0, c, hc, _, _ => by omega
  | n + 1, c, hc, h1, h2 => by
    show z_cn p n + (if p n then 1 else 0) < z_cn q n + (if q n then 1 else 0)
    by_cases e : c = n
    · subst e
      have := z_cn_mono h (n := c)
      rw [h1, h2]; simp; omega
    · have := z_cn_lt h (n := n) (c := c) (by omega) h1 h2
      have h3 := h n
      cases hp : p n
      · simp; omega
      · rw [h3 hp]; simp; omega
def z_eqs (o : Int → Int) (p : Nat → Nat) : Nat := z_cn (fun n => p n == z_pt o n) (z_N o)
theorem z_round_up {o : Int → Int} (hn : z_net o) {p : Nat → Nat} (h : z_lb o p) : z_eqs o p + 1 ≤ z_eqs o (z_rnd o p (z_L o)) ∨ z_eqs o (z_rnd o p (z_L o)) = z_N o := by
  obtain ⟨a, b⟩ := z_rnd_eq h (z_L o) (Nat.le_refl _)
  by_cases mixed : ∃ l, l < z_L o ∧ ¬ (p (z_a o l) = z_pt o (z_a o l) ↔ p (z_b o l) = z_pt o (z_b o l))
  · left
    obtain ⟨l, hl, hm⟩ := mixed
    have ha := (z_net_a hn hl).2
    have hb := (z_net_b hn hl).2
    have hor : p (z_a o l) = z_pt o (z_a o l) ∨ p (z_b o l) = z_pt o (z_b o l) := by
      by_cases c : p (z_a o l) = z_pt o (z_a o l)
      · exact Or.inl c
      · by_cases c2 : p (z_b o l) = z_pt o (z_b o l)
        · exact Or.inr c2
        · exact absurd ⟨fun g => absurd g c, fun g => absurd g c2⟩ hm
    have both := b l hl hor
    have mono : ∀ k, (p k == z_pt o k) = true → (z_rnd o p (z_L o) k == z_pt o k) = true := fun k hk => by
      rw [beq_iff_eq] at hk ⊢
      exact a k hk
    by_cases c : p (z_a o l) = z_pt o (z_a o l)
    · have c2 : p (z_b o l) ≠ z_pt o (z_b o l) := fun g => hm ⟨fun _ => g, fun _ => c⟩
      exact z_cn_lt mono hb (beq_eq_false_iff_ne.mpr c2) (beq_iff_eq.mpr both.2)
    · exact z_cn_lt mono ha (beq_eq_false_iff_ne.mpr c) (beq_iff_eq.mpr both.1)
  · right
    have inv : ∀ l, l < z_L o → (if p (z_a o l) = z_pt o (z_a o l) then 0 else 1) = (if p (z_b o l) = z_pt o (z_b o l) then 0 else 1) := by
      intro l hl
      have : p (z_a o l) = z_pt o (z_a o l) ↔ p (z_b o l) = z_pt o (z_b o l) := Classical.byContradiction (fun g => mixed ⟨l, hl, g⟩)
      by_cases c : p (z_a o l) = z_pt o (z_a o l)
      · rw [if_pos c, if_pos (this.mp c)]
      · rw [if_neg c, if_neg (fun g => c (this.mpr g))]
    have all : ∀ n, p n = z_pt o n := by
      intro n
      have g := (z_pt_ok (o := o)).2.2 (fun n => if p n = z_pt o n then 0 else 1) inv n
      have id := z_prt_idem (z_pt_ok (o := o)) n
      have up := h.1 (z_pt o n)
      have lo := z_lb_ge h (z_pt o n)
      have e : p (z_pt o n) = z_pt o (z_pt o n) := by omega
      simp only [e, if_true] at g
      by_cases c : p n = z_pt o n
      · exact c
      · rw [if_neg c] at g; omega
    have : z_eqs o (z_rnd o p (z_L o)) = z_cn (fun _ => true) (z_N o) := z_cn_congr (fun k _ => beq_iff_eq.mpr (a k (all k)))
    rw [this]
    generalize z_N o = m
    induction m with
    | zero => rfl
    | succ m ih => show z_cn (fun _ => true) m + 1 = m + 1; rw [ih]
theorem z_eqs_le {o : Int → Int} {p : Nat → Nat} : z_eqs o p ≤ z_N o := z_cn_le
def z_rnds (o : Int → Int) : Nat → Nat → Nat
  | 0 => fun n => n
  | r + 1 => z_rnd o (z_rnds o r) (z_L o)
theorem z_rnds_ok {o : Int → Int} (hn : z_net o) : ∀ r, r ≤ z_N o → z_lb o (z_rnds o r) ∧ r ≤ z_eqs o (z_rnds o r)
  | 0, _ => ⟨⟨fun n => Nat.le_refl n, fun g _ n => rfl⟩, Nat.zero_le _⟩
  | r + 1, hr => by
    obtain ⟨a, b⟩ := z_rnds_ok hn r (by omega)
    refine ⟨z_rnd_lb a _ (Nat.le_refl _), ?_⟩
    have := z_round_up hn a
    show r + 1 ≤ z_eqs o (z_rnd o (z_rnds o r) (z_L o))
    omega
theorem z_rnds_pt {o : Int → Int} (hn : z_net o) {n : Nat} (h : n < z_N o) : z_rnds o (z_N o) n = z_pt o n := by
  have := (z_rnds_ok hn (z_N o) (Nat.le_refl _)).2
  have l := z_eqs_le (o := o) (p := z_rnds o (z_N o))
  have := z_cn_full (p := fun n => z_rnds o (z_N o) n == z_pt o n) (n := z_N o) (by unfold z_eqs at *; omega) n h
  simpa using this
/-- labels in a row -/
def z_lrow (p : Nat → Nat) (r : Int → Int) (N : Nat) : Prop := ∀ n : Nat, n < N → r n = (p n : Int)
theorem l_lp154 {d : Nat} {K : q_Mem → Prop} {M0 : q_Mem} (hn : z_net (M0 179))
    (h : ∀ M', z_fr [191] [26] M0 M' → z_lrow (z_pt (M0 179)) (M' 191) (z_N (M0 179)) → M' 178 26 = (z_pc (M0 179) : Int) → K M') :
    ∀ (j i : Nat) (M : q_Mem), i + j = z_N (M0 179) → z_fr [191] [26] M0 M → z_lrow (z_pt (M0 179)) (M 191) (z_N (M0 179)) → M 178 26 = (z_cn (fun n => z_pt (M0 179) n == n) i : Int) → q_v mX12_laysParts d (qPU K) M 154 [some (qR 178), some (qI (i : Int)), none, none, none] [] := by
  have eN := z_net_N hn
  have hN := z_net_N10 hn
  intro j
  induction j with
  | zero =>
    intro i M e f q c
    have o1 : M 179 = M0 179 := f.1 179 (by decide) (by decide)
    refine bX12_laysParts_154 _ ?_
    rw [o1]
    have ei : i = z_N (M0 179) := by omega
    exact ⟨fun _ => h M f q (by rw [c, ei]; rfl), fun g => absurd (by omega) g⟩
  | succ j ih =>
    intro i M e f q c
    have o1 : M 179 = M0 179 := f.1 179 (by decide) (by decide)
    have cl := z_cn_le (p := fun n => z_pt (M0 179) n == n) (n := i)
    refine bX12_laysParts_154 _ ?_
    rw [o1, q i (by omega), c, q_add_eq (a := (i : Int)) (by omega), show (i : Int) + 1 = ((i + 1 : Nat) : Int) by omega]
    refine ⟨fun g => by omega, fun _ => ⟨by omega, fun g M2 e2 => ?_, fun g M2 e2 => ?_⟩⟩
    · refine ih (i + 1) M2 (by omega) (z_fr_uf f e2 (by decide)) (fun n hn => by rw [e2, q_up_o (by decide)]; exact q n hn) ?_
      rw [e2, q_up_s, q_add_eq (by omega)]
      show _ = ((z_cn (fun n => z_pt (M0 179) n == n) i + (if z_pt (M0 179) i == i then 1 else 0) : Nat) : Int)
      rw [beq_eq_false_iff_ne.mpr (show z_pt (M0 179) i ≠ i by omega)]
      simp
    · refine ih (i + 1) M2 (by omega) (z_fr_uf f e2 (by decide)) (fun n hn => by rw [e2, q_up_o (by decide)]; exact q n hn) ?_
      rw [e2, q_up_s, q_add_eq (by omega)]
      show _ = ((z_cn (fun n => z_pt (M0 179) n == n) i + (if z_pt (M0 179) i == i then 1 else 0) : Nat) : Int)
      rw [beq_iff_eq.mpr (show z_pt (M0 179) i = i by omega)]
      simp
theorem l_lp41 {d : Nat} {K : q_Mem → Prop} {M0 : q_Mem} (hn : z_net (M0 179)) {p : Nat → Nat} (hp : z_lb (M0 179) p) {x : Int}
    (h : ∀ M', z_fr [191] [26] M0 M' → z_lrow (z_rnd (M0 179) p (z_L (M0 179))) (M' 191) (z_N (M0 179)) → q_v mX12_laysParts d (qPU K) M' 28 [some (qR 178), some (qI (q_add x 1)), none, none, none] []) :
    ∀ (j i : Nat) (M : q_Mem), i + j = z_L (M0 179) → z_fr [191] [26] M0 M → z_lrow (z_rnd (M0 179) p i) (M 191) (z_N (M0 179)) → q_v mX12_laysParts d (qPU K) M 41 [some (qR 178), some (qI x), some (qI (i : Int)), none, none] [] := by
  have eL := z_net_L hn
  have hL := z_net_L16 hn
  have hN := z_net_N10 hn
  intro j
  induction j with
  | zero =>
    intro i M e f q
    have o1 : M 179 = M0 179 := f.1 179 (by decide) (by decide)
    refine bX12_laysParts_41 _ _ ?_
    rw [o1]
    have ei : i = z_L (M0 179) := by omega
    exact ⟨fun _ => h M f (by rw [← ei]; exact q), fun g => absurd (by omega) g⟩
  | succ j ih =>
    intro i M e f q
    have o1 : M 179 = M0 179 := f.1 179 (by decide) (by decide)
    have ea := z_net_a hn (l := i) (by omega)
    have eb := z_net_b hn (l := i) (by omega)
    have ne := z_net_ne hn (l := i) (by omega)
    have lb := (z_rnd_lb hp i (by omega)).1
    have la := lb (z_a (M0 179) i)
    have lb2 := lb (z_b (M0 179) i)
    have fin : ∀ (v : Int) (M2 : q_Mem), v = ((min (z_rnd (M0 179) p i (z_a (M0 179) i)) (z_rnd (M0 179) p i (z_b (M0 179) i)) : Nat) : Int) → M2 = q_up M 191 (z_a (M0 179) i : Int) v → ∀ M5, M5 = q_up M2 191 (z_b (M0 179) i : Int) v → q_v mX12_laysParts d (qPU K) M5 41 [some (qR 178), some (qI x), some (qI (q_add (i : Int) 1)), none, none] [] := by
      intro v M2 ev e2 M5 e5
      rw [q_add_eq (a := (i : Int)) (by omega), show (i : Int) + 1 = ((i + 1 : Nat) : Int) by omega]
      refine ih (i + 1) M5 (by omega) (z_fr_u (z_fr_u f e2 (by decide) (by decide)) e5 (by decide) (by decide)) (fun n hnn => ?_)
      show M5 191 n = ((z_rx (z_rnd (M0 179) p i) (z_a (M0 179) i) (z_b (M0 179) i) n : Nat) : Int)
      unfold z_rx
      by_cases h1 : n = z_b (M0 179) i
      · rw [if_pos (Or.inr h1), e5, h1, q_up_s, ev]
      · rw [e5, q_up_n (by omega), e2]
        by_cases h2 : n = z_a (M0 179) i
        · rw [if_pos (Or.inl h2), h2, q_up_s, ev]
        · rw [if_neg (by omega), q_up_n (by omega)]
          exact q n hnn
    refine bX12_laysParts_41 _ _ ?_
    rw [o1, q_add_eq (a := 53) (by omega), q_add_eq (a := 69) (by omega), ea.1, eb.1, q _ ea.2, q _ eb.2]
    refine ⟨fun g => by omega, fun _ => ⟨by omega, by omega, fun x3 e3 => ⟨by omega, by omega, fun x4 e4 => ⟨by omega, fun g => ?_, fun g => ?_⟩⟩⟩⟩
    · refine bX12_laysParts_108 _ _ _ _ _ _ _ (by decide +kernel) ⟨by rw [show q_ln 191 = 10 by decide +kernel]; omega, fun M2 e2 => ?_⟩
      have o2 : M2 179 = M0 179 := by rw [e2, q_up_o (by decide)]; exact o1
      rw [o2, q_add_eq (a := 69) (by omega), eb.1]
      exact ⟨by omega, fun _ => ⟨by omega, fun M5 e5 => fin _ M2 (by omega) e2 M5 e5⟩, fun g2 => absurd g g2⟩
    · refine bX12_laysParts_108 _ _ _ _ _ _ _ (by decide +kernel) ⟨by rw [show q_ln 191 = 10 by decide +kernel]; omega, fun M2 e2 => ?_⟩
      have o2 : M2 179 = M0 179 := by rw [e2, q_up_o (by decide)]; exact o1
      rw [o2, q_add_eq (a := 69) (by omega), eb.1]
      exact ⟨by omega, fun g2 => absurd g2 g, fun _ => ⟨by omega, fun M5 e5 => fin _ M2 (by omega) e2 M5 e5⟩⟩
theorem l_lp28 {d : Nat} {K : q_Mem → Prop} {M0 : q_Mem} (hn : z_net (M0 179))
    (h : ∀ M', z_fr [191] [26] M0 M' → z_lrow (z_pt (M0 179)) (M' 191) (z_N (M0 179)) → M' 178 26 = (z_pc (M0 179) : Int) → K M') :
    ∀ (j i : Nat) (M : q_Mem), i + j = z_N (M0 179) → z_fr [191] [26] M0 M → z_lrow (z_rnds (M0 179) i) (M 191) (z_N (M0 179)) → q_v mX12_laysParts d (qPU K) M 28 [some (qR 178), some (qI (i : Int)), none, none, none] [] := by
  have eN := z_net_N hn
  have hN := z_net_N10 hn
  intro j
  induction j with
  | zero =>
    intro i M e f q
    have o1 : M 179 = M0 179 := f.1 179 (by decide) (by decide)
    refine bX12_laysParts_28 _ ?_
    rw [o1]
    have ei : i = z_N (M0 179) := by omega
    refine ⟨fun _ M1 e1 => l_lp154 hn h (z_N (M0 179)) 0 M1 (by omega) (z_fr_uf f e1 (by decide)) (fun n hnn => ?_) (by rw [e1, q_up_s]; rfl), fun g => absurd (by omega) g⟩
    rw [e1, q_up_o (by decide), q n hnn, ei, z_rnds_pt hn hnn]
  | succ j ih =>
    intro i M e f q
    have o1 : M 179 = M0 179 := f.1 179 (by decide) (by decide)
    refine bX12_laysParts_28 _ ?_
    rw [o1]
    refine ⟨fun g => by omega, fun _ => l_lp41 hn (z_rnds_ok hn i (by omega)).1 (fun M' f' q' => ?_) (z_L (M0 179)) 0 M (by omega) f q⟩
    rw [q_add_eq (a := (i : Int)) (by omega), show (i : Int) + 1 = ((i + 1 : Nat) : Int) by omega]
    exact ih (i + 1) M' (by omega) f' q'
theorem l_lp2 {d : Nat} {K : q_Mem → Prop} {M0 : q_Mem} (hn : z_net (M0 179))
    (h : ∀ M', z_fr [191] [26] M0 M' → z_lrow (z_pt (M0 179)) (M' 191) (z_N (M0 179)) → M' 178 26 = (z_pc (M0 179) : Int) → K M') :
    ∀ (j i : Nat) (M : q_Mem), i + j = z_N (M0 179) → z_fr [191] [26] M0 M → z_lrow (fun n => n) (M 191) i → q_v mX12_laysParts d (qPU K) M 2 [some (qR 178), some (qI (i : Int)), none, none, none] [] := by
  have eN := z_net_N hn
  have hN := z_net_N10 hn
  intro j
  induction j with
  | zero =>
    intro i M e f q
    have o1 : M 179 = M0 179 := f.1 179 (by decide) (by decide)
    refine bX12_laysParts_2 _ ?_
    rw [o1]
    have ei : i = z_N (M0 179) := by omega
    exact ⟨fun _ => l_lp28 hn h (z_N (M0 179)) 0 M (by omega) f (by rw [← ei]; exact q), fun g => absurd (by omega) g⟩
  | succ j ih =>
    intro i M e f q
    have o1 : M 179 = M0 179 := f.1 179 (by decide) (by decide)
    refine bX12_laysParts_2 _ ?_
    rw [o1, q_add_eq (a := (i : Int)) (by omega), show (i : Int) + 1 = ((i + 1 : Nat) : Int) by omega]
    refine ⟨fun g => by omega, fun _ => ⟨by omega, fun M2 e2 => ih (i + 1) M2 (by omega) (z_fr_u f e2 (by decide) (by decide)) (fun n hnn => ?_)⟩⟩
    by_cases c : n = i
    · subst c; rw [e2, q_up_s]
    · rw [e2, q_up_n (by omega)]; exact q n (by omega)
theorem k_laysParts {d : Nat} {M : q_Mem} {K : q_Mem → Prop}  (hd : 1 < d) (hn : z_net (M 179)) (h : ∀ M', z_fr [191] [26] M M' → z_lrow (z_pt (M 179)) (M' 191) (z_N (M 179)) → M' 178 26 = (z_pc (M 179) : Int) → K M') : q_kU yX12_laysParts mX12_laysParts d [qR 178] M K :=
  q_goU hd rfl (plainFor_of_name (by decide +kernel)) rfl (fun h => nomatch h) (Nat.le_of_ble_eq_true rfl) (fun d hd => bX12_laysParts_0 (l_lp2 hn h (z_N (M 179)) 0 M (by omega) z_fr_rf (fun n hnn => by omega)))
/-- twists -/
def z_fm (o : Int → Int) : Nat := (z_fs (z_nx o 1) (2 * z_L o)).2.1
def z_al (o : Int → Int) : Nat := z_cn (fun n => z_dg o n == 0) (z_N o)
def z_tw (o : Int → Int) : Int := q_div (q_sub (q_sub (q_add (q_sub (q_mul 2 (z_pc o : Int)) (o 51)) (o 52)) (z_fm o : Int)) (z_al o : Int)) 2
theorem l_tw {d : Nat} {K : Int → q_Mem → Prop} {M : q_Mem} (hd : 1 ≤ d) (hn : z_net (M 179)) (h1 : M 178 26 = (z_pc (M 179) : Int)) (h2 : M 178 25 = (z_fm (M 179) : Int)) (h : K (z_tw (M 179)) M) :
    ∀ (j i : Nat), i + j = z_N (M 179) → q_v mX12_twistsNow d (qPI K) M 12 [some (qR 178), some (qI (z_cn (fun n => z_dg (M 179) n == 0) i : Int)), some (qI (i : Int))] [] := by
  have eN := z_net_N hn
  have hN := z_net_N10 hn
  intro j
  induction j with
  | zero =>
    intro i e
    refine bX12_twistsNow_12 _ _ ⟨fun _ => ?_, fun g => absurd (by omega) g⟩
    have ei : i = z_N (M 179) := by omega
    rw [h1, h2, ei]
    exact h
  | succ j ih =>
    intro i e
    have cl := z_cn_le (p := fun n => z_dg (M 179) n == 0) (n := i)
    refine bX12_twistsNow_12 _ _ ⟨fun g => by omega, fun _ => k_degreeOf (by omega) hn (by omega) ⟨fun g x ex => ?_, fun g x ex => ?_⟩⟩
    · have := ih (i + 1) (by omega)
      rw [ex, q_add_eq (by omega), q_add_eq (a := (i : Int)) (by omega)]
      have e2 : z_cn (fun n => z_dg (M 179) n == 0) (i + 1) = z_cn (fun n => z_dg (M 179) n == 0) i + (if z_dg (M 179) i == 0 then 1 else 0) := rfl
      rw [e2, beq_eq_false_iff_ne.mpr (show z_dg (M 179) i ≠ 0 by omega)] at this
      simpa using this
    · have := ih (i + 1) (by omega)
      rw [ex, q_add_eq (by omega), q_add_eq (a := (i : Int)) (by omega)]
      have e2 : z_cn (fun n => z_dg (M 179) n == 0) (i + 1) = z_cn (fun n => z_dg (M 179) n == 0) i + (if z_dg (M 179) i == 0 then 1 else 0) := rfl
      rw [e2, beq_iff_eq.mpr (show z_dg (M 179) i = 0 by omega)] at this
      simpa using this
def z_fr4 (o : Int → Int) (r1 r2 r3 : Int → Int) (c : Int) : Prop := z_fr3 (z_fs (z_nx o 1) (2 * z_L o)) r1 r2 r3 c
theorem k_twistsNow {d : Nat} {M : q_Mem} {K : Int → q_Mem → Prop}  (hd : 3 < d) (hn : z_net (M 179)) (hr : z_ring (M 179) 1) (h : ∀ M', z_fr [188, 189, 190, 191] [25, 26] M M' → z_fr4 (M 179) (M' 188) (M' 189) (M' 190) (M' 178 25) → z_lrow (z_pt (M 179)) (M' 191) (z_N (M 179)) → M' 178 26 = (z_pc (M 179) : Int) → K (z_tw (M 179)) M') : q_kI yX12_twistsNow mX12_twistsNow d [qR 178] M K :=
  q_goI hd rfl (plainFor_of_name (by decide +kernel)) rfl (fun h => nomatch h) (Nat.le_of_ble_eq_true rfl) (fun d hd => bX12_twistsNow_0 (k_laysFaces (by omega) hn hr (fun M1 f1 q1 => by
    have o1 : M1 179 = M 179 := f1.1 179 (by decide) (by decide)
    refine k_laysParts (by omega) (by rw [o1]; exact hn) (fun M2 f2 q2 c2 => ?_)
    have o2 : M2 179 = M 179 := (f2.1 179 (by decide) (by decide)).trans o1
    rw [o1] at q2 c2
    have e25 : M2 178 25 = M1 178 25 := f2.2 25 (by decide)
    refine l_tw (by omega) (by rw [o2]; exact hn) (by rw [o2]; exact c2) (by rw [o2, e25]; exact q1.1) ?_ (z_N (M2 179)) 0 (by omega)
    rw [o2]
    refine h M2 (z_fr_tr (z_fr_mono f1 (by decide) (by decide)) (z_fr_mono f2 (by decide) (by decide))) ?_ q2 c2
    rw [f2.1 188 (by decide) (by decide), f2.1 189 (by decide) (by decide), f2.1 190 (by decide) (by decide), e25]
    exact q1)))
