-- ways between faces, as numbers: what a table of least costs is
section WAYS
variable {fa fb aw : Nat → Nat} {L F S : Nat} {I : Int}
def z_ad (fa fb : Nat → Nat) (l f b : Nat) : Prop := fa l ≠ fb l ∧ ((fa l = f ∧ fb l = b) ∨ (fb l = f ∧ fa l = b))
/-- a way across k links, so heavy -/
def z_wl (fa fb aw : Nat → Nat) (L : Nat) : Nat → Nat → Nat → Nat → Prop
  | 0, f, g, W => f = g ∧ W = 0
  | k + 1, f, g, W => ∃ l b W', l < L ∧ z_ad fa fb l f b ∧ W = aw l + W' ∧ z_wl fa fb aw L k b g W'
theorem z_wl_app : ∀ {k1 k2 f m g W1 W2 : Nat}, z_wl fa fb aw L k1 f m W1 → z_wl fa fb aw L k2 m g W2 → z_wl fa fb aw L (k1 + k2) f g (W1 + W2)
  | 0, k2, f, m, g, W1, W2, ⟨e, e2⟩, h => by subst e e2; rw [Nat.zero_add, Nat.zero_add]; exact h
  | k1 + 1, k2, f, m, g, W1, W2, ⟨l, b, W', h1, h2, h3, h4⟩, h => by
    rw [show k1 + 1 + k2 = (k1 + k2) + 1 by omega]
    exact ⟨l, b, W' + W2, h1, h2, by omega, z_wl_app h4 h⟩
/-- the lightest, of like ones that of the fewest links -/
def z_op (fa fb aw : Nat → Nat) (L f g W k : Nat) : Prop := z_wl fa fb aw L k f g W ∧ ∀ W' k', z_wl fa fb aw L k' f g W' → W < W' ∨ (W = W' ∧ k ≤ k')
theorem z_op_un {f g W k W' k' : Nat} (h : z_op fa fb aw L f g W k) (h' : z_op fa fb aw L f g W' k') : W = W' ∧ k = k' := by
  have a := h.2 _ _ h'.1
  have b := h'.2 _ _ h.1
  omega
theorem z_min {p : Nat → Prop} : ∀ n, p n → ∃ m, p m ∧ ∀ j, p j → m ≤ j := by
  intro n
  induction n using Nat.strongRecOn with
  | _ n ih =>
    intro h
    by_cases c : ∃ j, j < n ∧ p j
    · obtain ⟨j, h1, h2⟩ := c
      exact ih j h1 h2
    · exact ⟨n, h, fun j hj => Classical.byContradiction (fun g => c ⟨j, by omega, hj⟩)⟩
theorem z_op_ex {f g W k : Nat} (h : z_wl fa fb aw L k f g W) : ∃ W k, z_op fa fb aw L f g W k := by
  obtain ⟨W0, ⟨k0, h0⟩, m0⟩ := z_min (p := fun W => ∃ k, z_wl fa fb aw L k f g W) W ⟨k, h⟩
  obtain ⟨k1, h1, m1⟩ := z_min (p := fun k => z_wl fa fb aw L k f g W0) k0 h0
  refine ⟨W0, k1, h1, fun W' k' h' => ?_⟩
  have := m0 W' ⟨k', h'⟩
  by_cases e : W0 = W'
  · subst e; exact Or.inr ⟨rfl, m1 k' h'⟩
  · exact Or.inl (by omega)
theorem z_op_tail {f g W k l b W' : Nat} (h : z_op fa fb aw L f g W (k + 1)) (hl : l < L) (ha : z_ad fa fb l f b) (hW : W = aw l + W') (ht : z_wl fa fb aw L k b g W') : z_op fa fb aw L b g W' k := by
  refine ⟨ht, fun W2 k2 h2 => ?_⟩
  have := h.2 (aw l + W2) (k2 + 1) ⟨l, b, W2, hl, ha, rfl, h2⟩
  omega
theorem z_op_self {f W k : Nat} (h : z_op fa fb aw L f f W k) : W = 0 ∧ k = 0 := by
  have := h.2 0 0 ⟨rfl, rfl⟩
  omega
theorem z_op_refl {f : Nat} : z_op fa fb aw L f f 0 0 := ⟨⟨rfl, rfl⟩, fun W' k' _ => by omega⟩
theorem z_op_zero {f g W : Nat} (h : z_op fa fb aw L f g W 0) : f = g := h.1.1
/-- on the way there is a face for each number of links still to cross -/
theorem z_op_all (hF : ∀ l, l < L → fa l < F ∧ fb l < F) : ∀ {k f g W : Nat}, f < F → z_op fa fb aw L f g W k → ∀ i, i ≤ k → ∃ x W', x < F ∧ z_op fa fb aw L x g W' i
  | 0, f, g, W, hf, h, i, hi => ⟨f, W, hf, by rw [show i = 0 by omega]; exact h⟩
  | k + 1, f, g, W, hf, h, i, hi => by
    by_cases e : i = k + 1
    · subst e; exact ⟨f, W, hf, h⟩
    · obtain ⟨l, b, W', h1, h2, h3, h4⟩ := h.1
      have hb : b < F := by
        have := hF l h1
        rcases h2.2 with g | g <;> omega
      exact z_op_all hF hb (z_op_tail h h1 h2 h3 h4) i (by omega)
theorem z_cn_or {p q : Nat → Bool} {v : Nat} (h : ∀ i, q i = (p i || i == v)) : ∀ {n : Nat}, z_cn q n ≤ z_cn p n + (if v < n then 1 else 0)
  | 0 => Nat.zero_le _
  | n + 1 => by
    have ih := z_cn_or h (n := n)
    have hn := h n
    show z_cn q n + (if q n then 1 else 0) ≤ z_cn p n + (if p n then 1 else 0) + (if v < n + 1 then 1 else 0)
    by_cases e : n = v
    · subst e
      rw [if_neg (Nat.lt_irrefl n)] at ih
      rw [if_pos (Nat.lt_succ_self n)]
      have : (if q n then 1 else 0 : Nat) ≤ 1 := by split <;> omega
      omega
    · have : q n = p n := by rw [hn, beq_eq_false_iff_ne.mpr e, Bool.or_false]
      rw [this]
      by_cases c : v < n
      · rw [if_pos c] at ih; rw [if_pos (show v < n + 1 by omega)]; omega
      · rw [if_neg c] at ih; rw [if_neg (show ¬ v < n + 1 by omega)]; omega
theorem z_pigeon {h : Nat → Nat} : ∀ F k, (∀ i, i ≤ k → ∃ x, x < F ∧ h x = i) → k < F := by
  have key : ∀ F n, z_cn (fun i => (List.range F).any (fun x => h x == i)) n ≤ F := by
    intro F
    induction F with
    | zero =>
      intro n
      induction n with
      | zero => exact Nat.le_refl _
      | succ n ih => exact ih
    | succ F ih =>
      intro n
      have := z_cn_or (p := fun i => (List.range F).any (fun x => h x == i)) (q := fun i => (List.range (F + 1)).any (fun x => h x == i)) (v := h F) (fun i => by
        rw [List.range_succ, List.any_append]
        simp [Bool.beq_comm]) (n := n)
      have := ih n
      have : (if h F < n then 1 else 0 : Nat) ≤ 1 := by split <;> omega
      omega
  intro F k hk
  have h1 := key F (k + 1)
  have h2 : z_cn (fun i => (List.range F).any (fun x => h x == i)) (k + 1) = z_cn (fun _ => true) (k + 1) := by
    refine z_cn_congr (fun i hi => ?_)
    obtain ⟨x, hx, e⟩ := hk i (by omega)
    rw [List.any_eq_true]
    exact ⟨x, List.mem_range.mpr hx, beq_iff_eq.mpr e⟩
  have h3 : ∀ m, z_cn (fun _ => true) m = m := by
    intro m
    induction m with
    | zero => rfl
    | succ m ih => show z_cn (fun _ => true) m + 1 = m + 1; rw [ih]
  rw [h2, h3] at h1
  omega
theorem z_op_short (hF : ∀ l, l < L → fa l < F ∧ fb l < F) {f g W k : Nat} (hf : f < F) (h : z_op fa fb aw L f g W k) : k < F := by
  have all := z_op_all hF hf h
  have : ∃ hh : Nat → Nat, ∀ x i W', z_op fa fb aw L x g W' i → hh x = i := by
    refine ⟨fun x => Classical.epsilon (fun i => ∃ W', z_op fa fb aw L x g W' i), fun x i W' hx => ?_⟩
    obtain ⟨W2, h2⟩ := Classical.epsilon_spec (p := fun i => ∃ W', z_op fa fb aw L x g W' i) ⟨i, W', hx⟩
    exact (z_op_un h2 hx).2
  obtain ⟨hh, e⟩ := this
  exact z_pigeon (h := hh) F k (fun i hi => by
    obtain ⟨x, W', h1, h2⟩ := all i hi
    exact ⟨x, h1, e x i W' h2⟩)
theorem z_wl_heavy (hw : ∀ l, l < L → aw l ≤ 99) : ∀ {k f g W : Nat}, z_wl fa fb aw L k f g W → W ≤ 99 * k
  | 0, f, g, W, h => by have := h.2; omega
  | k + 1, f, g, W, ⟨l, b, W', h1, _, h3, h4⟩ => by
    have := hw l h1
    have := z_wl_heavy hw h4
    omega
/-- a table in which each number is a way's, or I -/
def z_snd (fa fb aw : Nat → Nat) (L F S : Nat) (I : Int) (T : Nat → Nat → Int) : Prop := ∀ f g, f < F → g < F → (0 ≤ T f g ∧ T f g ≤ I) ∧ (T f g = I ∨ ∃ k W, z_wl fa fb aw L k f g W ∧ T f g = ((S * W + k : Nat) : Int)) ∧ (f = g → T f g = 0)
def z_co (aw : Nat → Nat) (S l : Nat) : Int := ((S * aw l + 1 : Nat) : Int)
def z_by (T : Nat → Nat → Int) (m : Nat) : Nat → Nat → Int := fun f g => min (T f g) (T f m + T m g)
theorem z_by_snd {T : Nat → Nat → Int} {m : Nat} (hm : m < F) (h : z_snd fa fb aw L F S I T) : z_snd fa fb aw L F S I (z_by T m) := by
  intro f g hf hg
  have a := h f g hf hg
  have b := h f m hf hm
  have c := h m g hm hg
  unfold z_by
  refine ⟨by omega, ?_, fun e => ?_⟩
  · by_cases q : T f m + T m g < T f g
    · right
      obtain ⟨k1, W1, h1, e1⟩ := b.2.1.resolve_left (by omega)
      obtain ⟨k2, W2, h2, e2⟩ := c.2.1.resolve_left (by omega)
      refine ⟨k1 + k2, W1 + W2, z_wl_app h1 h2, ?_⟩
      rw [Int.min_eq_right (by omega), e1, e2]
      rw [show S * (W1 + W2) + (k1 + k2) = (S * W1 + k1) + (S * W2 + k2) by rw [Nat.mul_add]; omega]
      omega
    · rw [Int.min_eq_left (by omega)]
      exact a.2.1
  · have := a.2.2 e
    omega
/-- shortcuts by the first m faces are in it -/
def z_tri (F m : Nat) (T : Nat → Nat → Int) : Prop := ∀ f g x, f < F → g < F → x < m → T f g ≤ T f x + T x g
theorem z_by_tri {T : Nat → Nat → Int} {m : Nat} (hm : m < F) (h0 : T m m = 0) (h : z_tri F m T) : z_tri F (m + 1) (z_by T m) := by
  intro f g x hf hg hx
  have t1 := h f g
  unfold z_by
  by_cases e : x = m
  · subst e
    omega
  · have a1 := h f g x hf hg (by omega)
    have a2 := h m g x hm hg (by omega)
    have a3 := h f m x hf hm (by omega)
    have a4 := h m m x hm hm (by omega)
    omega
def z_bys (T : Nat → Nat → Int) : Nat → Nat → Nat → Int
  | 0 => T
  | m + 1 => z_by (z_bys T m) m
theorem z_bys_ok {T : Nat → Nat → Int} (h : z_snd fa fb aw L F S I T) : ∀ m, m ≤ F → z_snd fa fb aw L F S I (z_bys T m) ∧ z_tri F m (z_bys T m) ∧ ∀ f g, z_bys T m f g ≤ T f g
  | 0, _ => ⟨h, fun f g x _ _ hx => by omega, fun f g => Int.le_refl _⟩
  | m + 1, hm => by
    obtain ⟨a, b, c⟩ := z_bys_ok h m (by omega)
    have z := (a m m (by omega) (by omega)).2.2 rfl
    refine ⟨z_by_snd (by omega) a, z_by_tri (by omega) z b, fun f g => ?_⟩
    have := c f g
    show min (z_bys T m f g) (z_bys T m f m + z_bys T m m g) ≤ T f g
    omega
def z_lk (fa fb aw : Nat → Nat) (S : Nat) (T : Nat → Nat → Int) (l : Nat) : Nat → Nat → Int := fun f g => if z_co aw S l < T (fa l) (fb l) ∧ ((f = fa l ∧ g = fb l) ∨ (f = fb l ∧ g = fa l)) then z_co aw S l else T f g
def z_lks (fa fb aw : Nat → Nat) (S : Nat) (T : Nat → Nat → Int) : Nat → Nat → Nat → Int
  | 0 => T
  | l + 1 => z_lk fa fb aw S (z_lks fa fb aw S T l) l
def z_t0 (I : Int) : Nat → Nat → Int := fun f g => if f = g then 0 else I
theorem z_lks_ok (hF : ∀ l, l < L → fa l < F ∧ fb l < F) (hI : 0 ≤ I) : ∀ l, l ≤ L → z_snd fa fb aw L F S I (z_lks fa fb aw S (z_t0 I) l) ∧ (∀ f g, z_lks fa fb aw S (z_t0 I) l f g = z_lks fa fb aw S (z_t0 I) l g f) ∧ (∀ f, z_lks fa fb aw S (z_t0 I) l f f = 0) ∧ ∀ j b f, j < l → z_ad fa fb j f b → z_lks fa fb aw S (z_t0 I) l f b ≤ z_co aw S j
  | 0, _ => by
    refine ⟨fun f g _ _ => ?_, fun f g => ?_, fun f => ?_, fun j b f hj => by omega⟩
    · have e0 : z_lks fa fb aw S (z_t0 I) 0 f g = if f = g then 0 else I := rfl
      rw [e0]
      split
      · exact ⟨by omega, Or.inr ⟨0, 0, ⟨by assumption, rfl⟩, by simp⟩, fun _ => rfl⟩
      · exact ⟨by omega, Or.inl rfl, fun e => absurd e (by assumption)⟩
    · show z_t0 I f g = z_t0 I g f
      unfold z_t0
      by_cases e : f = g
      · subst e; rfl
      · rw [if_neg e, if_neg (fun q => e q.symm)]
    · show z_t0 I f f = 0
      unfold z_t0
      rw [if_pos rfl]
  | l + 1, hl => by
    obtain ⟨a, b, c, e⟩ := z_lks_ok hF hI l (by omega)
    have hl2 := hF l (by omega)
    have al := a _ _ hl2.1 hl2.2
    have ne : z_co aw S l < z_lks fa fb aw S (z_t0 I) l (fa l) (fb l) → fa l ≠ fb l := by
      intro q g
      have := al.2.2 g
      unfold z_co at q
      omega
    refine ⟨fun f g hf hg => ?_, fun f g => ?_, fun f => ?_, fun j b2 f hj ha => ?_⟩
    · have e1 : z_lks fa fb aw S (z_t0 I) (l + 1) f g = z_lk fa fb aw S (z_lks fa fb aw S (z_t0 I) l) l f g := rfl
      have afg := a f g hf hg
      rw [e1]
      unfold z_lk
      split
      · rename_i q
        have nn := ne q.1
        have q1 := q.1
        have hco : 0 ≤ z_co aw S l := by unfold z_co; omega
        refine ⟨⟨hco, by omega⟩, Or.inr ⟨1, aw l, ⟨l, g, 0, by omega, ⟨nn, ?_⟩, by omega, rfl, rfl⟩, rfl⟩, fun q2 => ?_⟩
        · rcases q.2 with q2 | q2
          · exact Or.inl ⟨q2.1.symm, q2.2.symm⟩
          · exact Or.inr ⟨q2.1.symm, q2.2.symm⟩
        · rcases q.2 with q3 | q3 <;> omega
      · exact afg
    · show z_lk fa fb aw S (z_lks fa fb aw S (z_t0 I) l) l f g = z_lk fa fb aw S (z_lks fa fb aw S (z_t0 I) l) l g f
      unfold z_lk
      have bb := b f g
      by_cases q : z_co aw S l < z_lks fa fb aw S (z_t0 I) l (fa l) (fb l) ∧ ((f = fa l ∧ g = fb l) ∨ (f = fb l ∧ g = fa l))
      · rw [if_pos q, if_pos ⟨q.1, q.2.symm.imp (fun x => ⟨x.2, x.1⟩) (fun x => ⟨x.2, x.1⟩)⟩]
      · rw [if_neg q, if_neg (fun q2 => q ⟨q2.1, q2.2.symm.imp (fun x => ⟨x.2, x.1⟩) (fun x => ⟨x.2, x.1⟩)⟩)]
        exact bb
    · show z_lk fa fb aw S (z_lks fa fb aw S (z_t0 I) l) l f f = 0
      unfold z_lk
      rw [if_neg, c f]
      rintro ⟨q, q2⟩
      have := ne q
      omega
    · show z_lk fa fb aw S (z_lks fa fb aw S (z_t0 I) l) l f b2 ≤ z_co aw S j
      unfold z_lk
      by_cases ej : j = l
      · subst ej
        by_cases q : z_co aw S j < z_lks fa fb aw S (z_t0 I) j (fa j) (fb j)
        · rw [if_pos ⟨q, ha.2.imp (fun x => ⟨x.1.symm, x.2.symm⟩) (fun x => ⟨x.1.symm, x.2.symm⟩)⟩]
          exact Int.le_refl _
        · rw [if_neg (fun q2 => q q2.1)]
          rcases ha.2 with x | x
          · rw [← x.1, ← x.2]; omega
          · rw [← x.1, ← x.2, b]; omega
      · have old := e j b2 f (by omega) ha
        split
        · rename_i q
          have : z_lks fa fb aw S (z_t0 I) l (fa l) (fb l) = z_lks fa fb aw S (z_t0 I) l f b2 := by
            rcases q.2 with x | x
            · rw [x.1, x.2]
            · rw [x.1, x.2, b]
          omega
        · exact old
/-- the table at its end -/
def z_tb (fa fb aw : Nat → Nat) (L F S : Nat) (I : Int) : Nat → Nat → Int := z_bys (z_lks fa fb aw S (z_t0 I) L) F
theorem z_tb_le (hF : ∀ l, l < L → fa l < F ∧ fb l < F) (hI : 0 ≤ I) : ∀ {k f g W : Nat}, f < F → g < F → z_wl fa fb aw L k f g W → z_tb fa fb aw L F S I f g ≤ ((S * W + k : Nat) : Int)
  | 0, f, g, W, hf, hg, h => by
    have := ((z_bys_ok (z_lks_ok (S := S) (aw := aw) hF hI L (Nat.le_refl _)).1 F (Nat.le_refl _)).1 f g hf hg).2.2 h.1
    show z_bys (z_lks fa fb aw S (z_t0 I) L) F f g ≤ _
    rw [this]
    omega
  | k + 1, f, g, W, hf, hg, ⟨l, b, W', h1, h2, h3, h4⟩ => by
    have hb : b < F := by
      have := hF l h1
      rcases h2.2 with q | q <;> omega
    have ok := z_bys_ok (z_lks_ok (S := S) (aw := aw) hF hI L (Nat.le_refl _)).1 F (Nat.le_refl _)
    have t := ok.2.1 f g b hf hg hb
    have c := ok.2.2 f b
    have e := (z_lks_ok (S := S) (aw := aw) hF hI L (Nat.le_refl _)).2.2.2 l b f h1 h2
    have r := z_tb_le hF hI hb hg h4
    unfold z_tb at *
    unfold z_co at e
    rw [h3, show S * (aw l + W') + (k + 1) = (S * aw l + 1) + (S * W' + k) by rw [Nat.mul_add]; omega]
    omega
theorem z_tb_ok (hF : ∀ l, l < L → fa l < F ∧ fb l < F) (hw : ∀ l, l < L → aw l ≤ 99) (hF16 : F ≤ 16) (hS : 1000 ≤ S) (hS2 : S ≤ 1024) (hI : 67108864 ≤ I) {f g : Nat} (hf : f < F) (hg : g < F) :
    (∃ W k, z_op fa fb aw L f g W k ∧ k < 16 ∧ W ≤ 1485 ∧ z_tb fa fb aw L F S I f g = ((S * W + k : Nat) : Int)) ∨ ((∀ W k, ¬ z_wl fa fb aw L k f g W) ∧ z_tb fa fb aw L F S I f g = I) := by
  have snd := (z_bys_ok (z_lks_ok (S := S) (aw := aw) hF (by omega : 0 ≤ I) L (Nat.le_refl _)).1 F (Nat.le_refl _)).1 f g hf hg
  by_cases ex : ∃ W k, z_wl fa fb aw L k f g W
  · left
    obtain ⟨W0, k0, h0⟩ := ex
    obtain ⟨W, k, op⟩ := z_op_ex h0
    have ks := z_op_short hF hf op
    have wh := z_wl_heavy hw op.1
    have le := z_tb_le (S := S) hF (by omega : 0 ≤ I) hf hg op.1
    refine ⟨W, k, op, by omega, by omega, ?_⟩
    have sw : S * W ≤ 1024 * 1485 := Nat.mul_le_mul hS2 (by omega)
    rcases snd.2.1 with q | ⟨k', W', h', q⟩
    · unfold z_tb at le
      omega
    · have lx := op.2 W' k' h'
      unfold z_tb at le ⊢
      rw [q] at le ⊢
      have le : S * W' + k' ≤ S * W + k := by omega
      have eW : W' ≤ W := by
        apply Classical.byContradiction
        intro c
        have : S * (W + 1) ≤ S * W' := Nat.mul_le_mul (Nat.le_refl _) (by omega)
        rw [Nat.mul_add, Nat.mul_one] at this
        omega
      have e2 : W = W' := by omega
      subst e2
      have : k = k' := by omega
      subst this
      rfl
  · right
    refine ⟨fun W k h => ex ⟨W, k, h⟩, ?_⟩
    rcases snd.2.1 with q | ⟨k', W', h', q⟩
    · exact q
    · exact absurd ⟨W', k', h'⟩ ex
end WAYS
