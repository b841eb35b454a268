-- faces: walks along a function without fixed places that takes no value twice; the reference's
theorem z_fr_u {S F : List Int} {M0 M M2 : q_Mem} {a k v : Int} (f : z_fr S F M0 M) (e : M2 = q_up M a k v) (h : a ∈ S) (h8 : a ≠ 178) : z_fr S F M0 M2 := by
  subst e
  exact z_fr_tr f (z_fr_up h h8)
theorem z_fr_uf {S F : List Int} {M0 M M2 : q_Mem} {k v : Int} (f : z_fr S F M0 M) (e : M2 = q_up M 178 k v) (h : k ∈ F) : z_fr S F M0 M2 := by
  subst e
  exact z_fr_tr f (z_fr_f h)
def z_upf (fo : Nat → Int) (d : Nat) (f : Int) : Nat → Int := fun x => if x = d then f else fo x
theorem z_upf_s {fo : Nat → Int} {d : Nat} {f : Int} : z_upf fo d f d = f := if_pos rfl
theorem z_upf_n {fo : Nat → Int} {d x : Nat} {f : Int} (h : x ≠ d) : z_upf fo d f x = fo x := if_neg h
def z_wk (nx : Nat → Nat) (f : Int) : Nat → (Nat → Int) → Nat → (Nat → Int) × Nat
  | 0, fo, _ => (fo, 0)
  | k + 1, fo, d => if fo d = -1 then ((z_wk nx f k (z_upf fo d f) (nx d)).1, (z_wk nx f k (z_upf fo d f) (nx d)).2 + 1) else (fo, 0)
def z_upn (g : Nat → Nat) (d v : Nat) : Nat → Nat := fun x => if x = d then v else g x
theorem z_upn_s {g : Nat → Nat} {d v : Nat} : z_upn g d v d = v := if_pos rfl
theorem z_upn_n {g : Nat → Nat} {d v x : Nat} (h : x ≠ d) : z_upn g d v x = g x := if_neg h
abbrev z_S : Type := (Nat → Int) × Nat × (Nat → Nat) × (Nat → Nat)
def z_fstep (nx : Nat → Nat) (s : z_S) (d : Nat) : z_S := if s.1 d = -1 then ((z_wk nx (s.2.1 : Int) 32 s.1 d).1, s.2.1 + 1, z_upn s.2.2.1 s.2.1 d, z_upn s.2.2.2 s.2.1 (z_wk nx (s.2.1 : Int) 32 s.1 d).2) else s
def z_fs (nx : Nat → Nat) : Nat → z_S
  | 0 => (fun _ => -1, 0, fun _ => 0, fun _ => 0)
  | d + 1 => z_fstep nx (z_fs nx d) d
/-- how many below n -/
def z_cn (p : Nat → Bool) : Nat → Nat
  | 0 => 0
  | n + 1 => z_cn p n + if p n then 1 else 0
theorem z_cn_le {p : Nat → Bool} : ∀ {n : Nat}, z_cn p n ≤ n
  | 0 => Nat.le_refl _
  | n + 1 => by
    have := z_cn_le (p := p) (n := n)
    show z_cn p n + (if p n then 1 else 0) ≤ n + 1
    split <;> omega
theorem z_cn_congr {p q : Nat → Bool} : ∀ {n : Nat}, (∀ k, k < n → p k = q k) → z_cn p n = z_cn q n
  | 0, _ => rfl
  | n + 1, h => by
    show z_cn p n + (if p n then 1 else 0) = z_cn q n + (if q n then 1 else 0)
    rw [z_cn_congr (fun k hk => h k (by omega)), h n (by omega)]
theorem z_cn_add {p q : Nat → Bool} : ∀ {n c : Nat}, c < n → p c = false → q c = true → (∀ k, k ≠ c → p k = q k) → z_cn q n = z_cn p n + 1
  | 0, c, h, _, _, _ => by omega
  | n + 1, c, h, hp, hq, he => by
    show z_cn q n + (if q n then 1 else 0) = z_cn p n + (if p n then 1 else 0) + 1
    by_cases hc : c = n
    · subst hc
      rw [hp, hq, z_cn_congr (p := q) (q := p) (fun k hk => (he k (by omega)).symm)]
      rfl
    · rw [z_cn_add (n := n) (by omega) hp hq he, he n (by omega)]
      omega
theorem z_cn_full {p : Nat → Bool} : ∀ {n : Nat}, z_cn p n = n → ∀ k, k < n → p k = true
  | 0, _, k, hk => by omega
  | n + 1, h, k, hk => by
    have h0 : z_cn p n + (if p n then 1 else 0) = n + 1 := h
    have h1 := z_cn_le (p := p) (n := n)
    have h2 : p n = true := by
      cases hp : p n
      · rw [hp] at h0; simp at h0; omega
      · rfl
    rw [h2] at h0
    simp at h0
    by_cases e : k = n
    · subst e; exact h2
    · exact z_cn_full h0 k (by omega)
def z_vc (fo : Nat → Int) (D : Nat) : Nat := z_cn (fun x => decide (fo x ≠ -1)) D
theorem z_vc_up {fo : Nat → Int} {D c : Nat} {f : Int} (hf : f ≠ -1) (hc : c < D) (h : fo c = -1) : z_vc (z_upf fo c f) D = z_vc fo D + 1 := by
  refine z_cn_add hc (by simp [h]) (by simp [z_upf_s, hf]) (fun k hk => by simp [z_upf_n hk])
/-- a function of darts as a walk wants it -/
def z_pm (nx : Nat → Nat) (D : Nat) : Prop := (∀ x, x < D → nx x < D) ∧ (∀ x, x < D → nx x ≠ x) ∧ (∀ x y, x < D → y < D → nx x = nx y → x = y)
theorem z_wk_go {nx : Nat → Nat} {D d0 : Nat} {f : Int} (hp : z_pm nx D) (hf : 0 ≤ f) : ∀ (k : Nat) (fo : Nat → Int) (last : Nat), D - z_vc fo D ≤ k → last < D → fo last ≠ -1 → fo d0 ≠ -1 →
    (∀ x, x < D → fo (nx x) ≠ -1 → fo x ≠ -1 ∨ nx x = d0) → (fo (nx last) ≠ -1 → nx last = d0) →
    (∀ x, x < D → (z_wk nx f k fo (nx last)).1 (nx x) ≠ -1 → (z_wk nx f k fo (nx last)).1 x ≠ -1) ∧ (∀ x, fo x ≠ -1 → (z_wk nx f k fo (nx last)).1 x = fo x) ∧ (∀ x, fo x = -1 → (z_wk nx f k fo (nx last)).1 x = -1 ∨ ((z_wk nx f k fo (nx last)).1 x = f ∧ x < D)) ∧ z_vc (z_wk nx f k fo (nx last)).1 D = z_vc fo D + (z_wk nx f k fo (nx last)).2 := by
  intro k
  induction k with
  | zero =>
    intro fo last hk hl h1 h0 h2 h3
    refine ⟨fun x hx g => ?_, fun x _ => rfl, fun x hx => Or.inl hx, rfl⟩
    have full : z_vc fo D = D := by have := z_cn_le (p := fun x => decide (fo x ≠ -1)) (n := D); unfold z_vc at *; omega
    have := z_cn_full full x hx
    show fo x ≠ -1
    simpa using this
  | succ k ih =>
    intro fo last hk hl h1 h0 h2 h3
    unfold z_wk
    by_cases hc : fo (nx last) = -1
    · rw [if_pos hc]
      have hnl := hp.1 last hl
      have hfn : f ≠ -1 := by omega
      have vc := z_vc_up (D := D) hfn hnl hc
      have hle := z_cn_le (p := fun x => decide (z_upf fo (nx last) f x ≠ -1)) (n := D)
      obtain ⟨a1, a2, a3, a4⟩ := ih (z_upf fo (nx last) f) (nx last) (by unfold z_vc at *; omega) hnl (by rw [z_upf_s]; exact hfn) (by
        by_cases e : d0 = nx last
        · rw [e, z_upf_s]; exact hfn
        · rw [z_upf_n e]; exact h0) (fun x hx g => by
          by_cases e : nx x = nx last
          · have := hp.2.2 x last hx hl e
            subst this
            left
            by_cases e2 : x = nx x
            · exact absurd e2.symm (hp.2.1 x hx)
            · rw [z_upf_n e2]; exact h1
          · rw [z_upf_n e] at g
            rcases h2 x hx g with g2 | g2
            · left
              by_cases e2 : x = nx last
              · rw [e2, z_upf_s]; exact hfn
              · rw [z_upf_n e2]; exact g2
            · exact Or.inr g2) (fun g => by
          rw [z_upf_n (hp.2.1 _ hnl)] at g
          rcases h2 (nx last) hnl g with g2 | g2
          · exact absurd hc g2
          · exact g2)
      refine ⟨a1, fun x hx => ?_, fun x hx => ?_, ?_⟩
      · have e : x ≠ nx last := fun e => hx (e ▸ hc)
        have := a2 x (by rw [z_upf_n e]; exact hx)
        rw [z_upf_n e] at this
        exact this
      · by_cases e : x = nx last
        · right
          have := a2 x (by rw [e, z_upf_s]; exact hfn)
          rw [e, z_upf_s] at this
          rw [e]
          exact ⟨this, hnl⟩
        · exact a3 x (by rw [z_upf_n e]; exact hx)
      · show z_vc (z_wk nx f k (z_upf fo (nx last) f) (nx (nx last))).1 D = z_vc fo D + ((z_wk nx f k (z_upf fo (nx last) f) (nx (nx last))).2 + 1)
        omega
    · rw [if_neg hc]
      have e := h3 hc
      refine ⟨fun x hx g => ?_, fun x _ => rfl, fun x hx => Or.inl hx, rfl⟩
      rcases h2 x hx g with g2 | g2
      · exact g2
      · have := hp.2.2 x last hx hl (g2.trans e.symm)
        subst this
        exact h1
/-- what is kept from dart to dart -/
def z_fi (nx : Nat → Nat) (D : Nat) (s : z_S) : Prop :=
  (∀ x, x < D → s.1 (nx x) ≠ -1 → s.1 x ≠ -1) ∧ 2 * s.2.1 ≤ z_vc s.1 D ∧ (∀ x, s.1 x = -1 ∨ (0 ≤ s.1 x ∧ s.1 x < (s.2.1 : Int) ∧ x < D)) ∧ (∀ f, f < s.2.1 → s.2.2.1 f < D ∧ s.2.2.2 f ≤ D)
theorem z_fi_step {nx : Nat → Nat} {D : Nat} (hp : z_pm nx D) (hD : D ≤ 32) {s : z_S} (h : z_fi nx D s) {d : Nat} (hd : d < D) : z_fi nx D (z_fstep nx s d) ∧ (z_fstep nx s d).1 d ≠ -1 ∧ (∀ x, s.1 x ≠ -1 → (z_fstep nx s d).1 x = s.1 x) := by
  unfold z_fstep
  split
  · rename_i h0
    have hf : (s.2.1 : Int) ≠ -1 := by omega
    have hle := z_cn_le (p := fun x => decide (z_upf s.1 d s.2.1 x ≠ -1)) (n := D)
    have vc := z_vc_up (D := D) hf hd h0
    have nd := hp.2.1 d hd
    have c1 : s.1 (nx d) = -1 := Classical.byContradiction (fun g => h.1 d hd g h0)
    have uw : z_wk nx (s.2.1 : Int) 32 s.1 d = ((z_wk nx (s.2.1 : Int) 31 (z_upf s.1 d s.2.1) (nx d)).1, (z_wk nx (s.2.1 : Int) 31 (z_upf s.1 d s.2.1) (nx d)).2 + 1) := by
      show (if s.1 d = -1 then _ else _) = _
      rw [if_pos h0]
    have uw2 : (z_wk nx (s.2.1 : Int) 31 (z_upf s.1 d s.2.1) (nx d)).2 = (z_wk nx (s.2.1 : Int) 30 (z_upf (z_upf s.1 d s.2.1) (nx d) s.2.1) (nx (nx d))).2 + 1 := by
      show (if z_upf s.1 d s.2.1 (nx d) = -1 then _ else _ : (Nat → Int) × Nat).2 = _
      rw [if_pos (by rw [z_upf_n nd]; exact c1)]
    obtain ⟨a1, a2, a3, a4⟩ := z_wk_go (d0 := d) hp (f := (s.2.1 : Int)) (by omega) 31 (z_upf s.1 d s.2.1) d (by unfold z_vc at *; omega) hd (by rw [z_upf_s]; exact hf) (by rw [z_upf_s]; exact hf) (fun x hx g => by
        by_cases e : nx x = d
        · exact Or.inr e
        · left
          rw [z_upf_n e] at g
          have := h.1 x hx g
          by_cases e2 : x = d
          · rw [e2, z_upf_s]; exact hf
          · rw [z_upf_n e2]; exact this) (fun g => by
        rw [z_upf_n nd] at g
        exact absurd c1 g)
    rw [uw]
    have old : ∀ x, s.1 x ≠ -1 → (z_wk nx (s.2.1 : Int) 31 (z_upf s.1 d s.2.1) (nx d)).1 x = s.1 x := by
      intro x hx
      have e : x ≠ d := fun e => hx (e ▸ h0)
      have := a2 x (by rw [z_upf_n e]; exact hx)
      rw [z_upf_n e] at this
      exact this
    have at_d : (z_wk nx (s.2.1 : Int) 31 (z_upf s.1 d s.2.1) (nx d)).1 d = s.2.1 := by
      have := a2 d (by rw [z_upf_s]; exact hf)
      rw [z_upf_s] at this
      exact this
    have hle2 := z_cn_le (p := fun x => decide ((z_wk nx (s.2.1 : Int) 31 (z_upf s.1 d s.2.1) (nx d)).1 x ≠ -1)) (n := D)
    refine ⟨⟨a1, ?_, fun x => ?_, fun f hf2 => ?_⟩, by show (z_wk nx (s.2.1 : Int) 31 (z_upf s.1 d s.2.1) (nx d)).1 d ≠ -1; rw [at_d]; exact hf, old⟩
    · have := h.2.1
      show 2 * (s.2.1 + 1) ≤ z_vc (z_wk nx (s.2.1 : Int) 31 (z_upf s.1 d s.2.1) (nx d)).1 D
      omega
    · show (z_wk nx (s.2.1 : Int) 31 (z_upf s.1 d s.2.1) (nx d)).1 x = -1 ∨ (0 ≤ (z_wk nx (s.2.1 : Int) 31 (z_upf s.1 d s.2.1) (nx d)).1 x ∧ (z_wk nx (s.2.1 : Int) 31 (z_upf s.1 d s.2.1) (nx d)).1 x < ((s.2.1 + 1 : Nat) : Int) ∧ x < D)
      by_cases e : s.1 x = -1
      · by_cases e2 : x = d
        · right; rw [e2, at_d]; omega
        · rcases a3 x (by rw [z_upf_n e2]; exact e) with g | g
          · exact Or.inl g
          · right; rw [g.1]; omega
      · right
        rw [old x e]
        have := (h.2.2.1 x).resolve_left e
        omega
    · show z_upn s.2.2.1 s.2.1 d f < D ∧ z_upn s.2.2.2 s.2.1 ((z_wk nx (s.2.1 : Int) 31 (z_upf s.1 d s.2.1) (nx d)).2 + 1) f ≤ D
      by_cases e : f = s.2.1
      · subst e
        rw [z_upn_s, z_upn_s]
        unfold z_vc at *
        omega
      · rw [z_upn_n e, z_upn_n e]
        exact h.2.2.2 f (by have : f < s.2.1 + 1 := hf2; omega)
  · rename_i h0
    exact ⟨h, h0, fun x _ => rfl⟩
theorem z_fs_inv {nx : Nat → Nat} {D : Nat} (hp : z_pm nx D) (hD : D ≤ 32) : ∀ d, d ≤ D → z_fi nx D (z_fs nx d) ∧ ∀ x, x < d → (z_fs nx d).1 x ≠ -1
  | 0, _ => ⟨⟨fun x _ g => absurd rfl g, Nat.zero_le _, fun x => Or.inl rfl, fun f hf => absurd hf (Nat.not_lt_zero _)⟩, fun x hx => by omega⟩
  | d + 1, h => by
    obtain ⟨a, b⟩ := z_fs_inv hp hD d (by omega)
    obtain ⟨s1, s2, s3⟩ := z_fi_step hp hD a (d := d) (by omega)
    refine ⟨s1, fun x hx => ?_⟩
    by_cases e : x = d
    · subst e; exact s2
    · show (z_fstep nx (z_fs nx d) d).1 x ≠ -1
      rw [s3 x (b x (by omega))]
      exact b x (by omega)
theorem z_fs_16 {nx : Nat → Nat} {D : Nat} (hp : z_pm nx D) (hD : D ≤ 32) {d : Nat} (hd : d ≤ D) : (z_fs nx d).2.1 ≤ 16 ∧ (d < D → (z_fs nx d).1 d = -1 → (z_fs nx d).2.1 < 16) := by
  have a := (z_fs_inv hp hD d hd).1
  have h1 := a.2.1
  have hle := z_cn_le (p := fun x => decide ((z_fs nx d).1 x ≠ -1)) (n := D)
  refine ⟨by unfold z_vc at h1; omega, fun h2 h3 => ?_⟩
  have := z_vc_up (D := D) (f := 0) (by decide) h2 h3
  have hle2 := z_cn_le (p := fun x => decide (z_upf (z_fs nx d).1 d 0 x ≠ -1)) (n := D)
  unfold z_vc at *
  omega
theorem z_pm_nx {o : Int → Int} {b : Int} (hk : z_net o) (h : z_ring o b) : z_pm (z_nx o b) (2 * z_L o) :=
  ⟨fun x hx => z_nx_lt hk h hx, fun x hx => z_nx_ne hk h hx, fun x y hx hy e => z_nx_inj hk h hx hy e⟩
/-- faces in rows -/
def z_fr3 (s : z_S) (r1 r2 r3 : Int → Int) (c : Int) : Prop := c = (s.2.1 : Int) ∧ (∀ x : Nat, x < 32 → r1 x = s.1 x) ∧ (∀ f : Nat, f < s.2.1 → r2 f = (s.2.2.1 f : Int) ∧ r3 f = (s.2.2.2 f : Int))
/-- the inner walk of the reference -/
theorem l_lf_in {d : Nat} {K : q_Mem → Prop} {M0 : q_Mem} (hd : 2 ≤ d) (hn : z_net (M0 179)) (hr : z_ring (M0 179) 1) {c : Nat} (hc : c < 16) {x1 : Int} :
    ∀ (k : Nat) (M : q_Mem) (fo : Nat → Int) (e sz : Nat), z_fr [188, 189, 190] [25] M0 M → M 178 25 = (c : Int) → (∀ x : Nat, x < 32 → M 188 x = fo x) → M 190 c = (sz : Int) → sz + k ≤ 1000 → e < 2 * z_L (M0 179) → 2 * z_L (M0 179) - z_vc fo (2 * z_L (M0 179)) ≤ k →
      (∀ M', z_fr [188, 189, 190] [25] M0 M' → M' 178 25 = ((c + 1 : Nat) : Int) → (∀ x : Nat, x < 32 → M' 188 x = (z_wk (z_nx (M0 179) 1) c k fo e).1 x) → M' 190 c = ((sz + (z_wk (z_nx (M0 179) 1) c k fo e).2 : Nat) : Int) → M' 189 = M 189 → (∀ j : Int, j ≠ c → M' 190 j = M 190 j) → q_v mX12_laysFaces d (qPU K) M' 28 [some (qR 178), some (qI (q_add x1 1)), none] []) →
      q_v mX12_laysFaces d (qPU K) M 76 [some (qR 178), some (qI x1), some (qI (e : Int))] [] := by
  have hL := z_net_L16 hn
  intro k
  induction k with
  | zero =>
    intro M fo e sz f q1 q2 q3 hs he hk h
    have hle := z_cn_le (p := fun x => decide (fo x ≠ -1)) (n := 2 * z_L (M0 179))
    have full := z_cn_full (p := fun x => decide (fo x ≠ -1)) (n := 2 * z_L (M0 179)) (by unfold z_vc at hk; omega) e he
    have hv : fo e ≠ -1 := by simpa using full
    refine bX12_laysFaces_76 _ _ ?_
    rw [q2 e (by omega), q1]
    refine ⟨by omega, fun _ M2 e2 => ?_, fun g => absurd g hv⟩
    rw [q_add_eq (by omega)] at e2
    refine h M2 (z_fr_tr f (by rw [e2]; exact z_fr_f (by decide))) (by rw [e2, q_up_s]; omega) (fun x hx => by rw [e2, q_up_o (by decide)]; exact q2 x hx) (by rw [e2, q_up_o (by decide)]; exact q3) (by rw [e2]; exact q_up_o (by decide)) (fun j _ => by rw [e2, q_up_o (by decide)])
  | succ k ih =>
    intro M fo e sz f q1 q2 q3 hs he hk h
    refine bX12_laysFaces_76 _ _ ?_
    rw [q2 e (by omega), q1]
    unfold z_wk at h
    refine ⟨by omega, fun g M2 e2 => ?_, fun g => ⟨by omega, fun M4 e4 => ?_⟩⟩
    · rw [if_neg g] at h
      rw [q_add_eq (by omega)] at e2
      refine h M2 (z_fr_tr f (by rw [e2]; exact z_fr_f (by decide))) (by rw [e2, q_up_s]; omega) (fun x hx => by rw [e2, q_up_o (by decide)]; exact q2 x hx) (by rw [e2, q_up_o (by decide)]; exact q3) (by rw [e2]; exact q_up_o (by decide)) (fun j _ => by rw [e2, q_up_o (by decide)])
    · rw [if_pos g] at h
      have m1 : M4 178 25 = (c : Int) := by rw [e4, q_up_o (by decide)]; exact q1
      have m2 : M4 190 c = (sz : Int) := by rw [e4, q_up_o (by decide)]; exact q3
      rw [m1, m2, q_add_eq (by omega)]
      refine ⟨by omega, by omega, fun M7 e7 => ?_⟩
      have f7 : z_fr [188, 189, 190] [25] M0 M7 := z_fr_u (z_fr_u f e4 (by decide) (by decide)) e7 (by decide) (by decide)
      have o7 : M7 179 = M0 179 := f7.1 179 (by decide) (by decide)
      have hnx := z_nx_lt hn hr he
      have vc := z_vc_up (D := 2 * z_L (M0 179)) (f := (c : Int)) (by omega) he g
      refine k_nextOf (by omega) (by rw [o7]; exact hn) (by rw [o7]; exact hr) (by rw [o7]; exact he) ?_
      rw [o7]
      refine ih M7 (z_upf fo e c) (z_nx (M0 179) 1 e) (sz + 1) f7 (by rw [e7, q_up_o (by decide)]; exact m1) (fun x hx => ?_) (by rw [e7, q_up_s]; omega) (by omega) hnx (by omega) (fun M' a1 a2 a3 a4 a5 a6 => h M' a1 a2 a3 (by rw [a4]; congr 1; omega) (by rw [a5, e7, q_up_o (by decide), e4, q_up_o (by decide)]) (fun j hj => by rw [a6 j hj, e7, q_up_n hj, e4, q_up_o (by decide)]))
      rw [e7, q_up_o (by decide), e4]
      by_cases ex : x = e
      · subst ex; rw [q_up_s, z_upf_s]
      · rw [q_up_n (by omega), z_upf_n ex]; exact q2 x hx
theorem l_lf_out {d : Nat} {K : q_Mem → Prop} {M0 : q_Mem} (hd : 2 ≤ d) (hn : z_net (M0 179)) (hr : z_ring (M0 179) 1)
    (h : ∀ M', z_fr [188, 189, 190] [25] M0 M' → z_fr3 (z_fs (z_nx (M0 179) 1) (2 * z_L (M0 179))) (M' 188) (M' 189) (M' 190) (M' 178 25) → K M') :
    ∀ (j i : Nat) (M : q_Mem), i + j = 2 * z_L (M0 179) → z_fr [188, 189, 190] [25] M0 M → z_fr3 (z_fs (z_nx (M0 179) 1) i) (M 188) (M 189) (M 190) (M 178 25) → q_v mX12_laysFaces d (qPU K) M 28 [some (qR 178), some (qI (i : Int)), none] [] := by
  have hL := z_net_L16 hn
  have eL := z_net_L hn
  have hp := z_pm_nx hn hr
  intro j
  induction j with
  | zero =>
    intro i M e f q
    have o1 : M 179 = M0 179 := f.1 179 (by decide) (by decide)
    refine bX12_laysFaces_28 _ ?_
    rw [o1, eL, q_mul_eq (by omega)]
    exact ⟨fun _ => h M f (by rw [show 2 * z_L (M0 179) = i by omega]; exact q), fun g => absurd (by omega) g⟩
  | succ j ih =>
    intro i M e f q
    have o1 : M 179 = M0 179 := f.1 179 (by decide) (by decide)
    have inv := z_fs_inv hp (by omega) i (by omega)
    have c16 := z_fs_16 hp (by omega) (d := i) (by omega)
    refine bX12_laysFaces_28 _ ?_
    rw [o1, eL, q_mul_eq (by omega), q.2.1 i (by omega), q.1]
    refine ⟨fun g => by omega, fun _ => ⟨by omega, fun g => ?_, fun g => ?_⟩⟩
    · have hc := c16.2 (by omega) g
      refine ⟨by omega, fun M3 e3 => ?_⟩
      have m3 : M3 178 25 = ((z_fs (z_nx (M0 179) 1) i).2.1 : Int) := by rw [e3, q_up_o (by decide)]; exact q.1
      rw [m3]
      refine ⟨by omega, fun M5 e5 => ?_⟩
      refine l_lf_in hd hn hr hc 32 M5 (z_fs (z_nx (M0 179) 1) i).1 i 0 (z_fr_u (z_fr_u f e3 (by decide) (by decide)) e5 (by decide) (by decide)) (by rw [e5, q_up_o (by decide)]; exact m3) (fun x hx => by rw [e5, q_up_o (by decide), e3, q_up_o (by decide)]; exact q.2.1 x hx) (by rw [e5, q_up_s]; rfl) (by omega) (by omega) (by omega) (fun M' a1 a2 a3 a4 a5 a6 => ?_)
      rw [q_add_eq (by omega), show (i : Int) + 1 = ((i + 1 : Nat) : Int) by omega]
      refine ih (i + 1) M' (by omega) a1 ?_
      have es : z_fs (z_nx (M0 179) 1) (i + 1) = z_fstep (z_nx (M0 179) 1) (z_fs (z_nx (M0 179) 1) i) i := rfl
      rw [es]
      unfold z_fstep
      rw [if_pos g]
      refine ⟨a2, a3, fun fc hf => ?_⟩
      show M' 189 fc = ((z_upn (z_fs (z_nx (M0 179) 1) i).2.2.1 (z_fs (z_nx (M0 179) 1) i).2.1 i fc : Nat) : Int) ∧ M' 190 fc = ((z_upn (z_fs (z_nx (M0 179) 1) i).2.2.2 (z_fs (z_nx (M0 179) 1) i).2.1 (z_wk (z_nx (M0 179) 1) ((z_fs (z_nx (M0 179) 1) i).2.1 : Int) 32 (z_fs (z_nx (M0 179) 1) i).1 i).2 fc : Nat) : Int)
      by_cases ef : fc = (z_fs (z_nx (M0 179) 1) i).2.1
      · subst ef
        rw [z_upn_s, z_upn_s, a4, a5, e5, q_up_o (by decide), e3, q_up_s, Nat.zero_add]
        exact ⟨rfl, rfl⟩
      · have := q.2.2 fc (by have : fc < (z_fs (z_nx (M0 179) 1) i).2.1 + 1 := hf; omega)
        rw [z_upn_n ef, z_upn_n ef, a6 _ (by omega), a5, e5, q_up_o (by decide), q_up_n (by omega), e3, q_up_n (by omega), q_up_o (by decide)]
        exact this
    · rw [q_add_eq (by omega), show (i : Int) + 1 = ((i + 1 : Nat) : Int) by omega]
      refine ih (i + 1) M (by omega) f ?_
      have es : z_fs (z_nx (M0 179) 1) (i + 1) = z_fstep (z_nx (M0 179) 1) (z_fs (z_nx (M0 179) 1) i) i := rfl
      rw [es]
      unfold z_fstep
      rw [if_neg g]
      exact q
theorem l_lf_0 {d : Nat} {K : q_Mem → Prop} {M0 : q_Mem} (h : ∀ M', z_fr [188, 189, 190] [25] M0 M' → (∀ x : Nat, x < 32 → M' 188 x = -1) → M' 178 25 = 0 → q_v mX12_laysFaces d (qPU K) M' 28 [some (qR 178), some (qI 0), none] []) :
    ∀ (j i : Nat) (M : q_Mem), i + j = 32 → z_fr [188, 189, 190] [25] M0 M → (∀ x : Nat, x < i → M 188 x = -1) → M 178 25 = 0 → q_v mX12_laysFaces d (qPU K) M 7 [some (qR 178), some (qI (i : Int)), none] [] := by
  intro j
  induction j with
  | zero =>
    intro i M e f q c
    exact bX12_laysFaces_7 _ ⟨fun _ => h M f (by rw [← e]; exact q) c, fun g => absurd (by omega) g⟩
  | succ j ih =>
    intro i M e f q c
    refine bX12_laysFaces_7 _ ⟨fun g => by omega, fun _ => ⟨by omega, fun M2 e2 => ?_⟩⟩
    rw [q_add_eq (by omega), show (i : Int) + 1 = ((i + 1 : Nat) : Int) by omega]
    refine ih (i + 1) M2 (by omega) (z_fr_tr f (by rw [e2]; exact z_fr_up (by decide) (by decide))) (fun x hx => ?_) (by rw [e2, q_up_o (by decide)]; exact c)
    by_cases ex : x = i
    · subst ex; rw [e2, q_up_s]
    · rw [e2, q_up_n (by omega)]; exact q x (by omega)
theorem k_laysFaces {d : Nat} {M : q_Mem} {K : q_Mem → Prop}  (hd : 2 < d) (hn : z_net (M 179)) (hr : z_ring (M 179) 1) (h : ∀ M', z_fr [188, 189, 190] [25] M M' → z_fr3 (z_fs (z_nx (M 179) 1) (2 * z_L (M 179))) (M' 188) (M' 189) (M' 190) (M' 178 25) → K M') : q_kU yX12_laysFaces mX12_laysFaces d [qR 178] M K :=
  q_goU hd rfl (plainFor_of_name (by decide +kernel)) rfl (fun h => nomatch h) (Nat.le_of_ble_eq_true rfl) (fun d hd => bX12_laysFaces_0 (fun M1 e1 => l_lf_0 (M0 := M) (fun M' f q c => l_lf_out hd hn hr h (2 * z_L (M 179)) 0 M' (by omega) f ⟨c, q, fun f hf => absurd hf (Nat.not_lt_zero _)⟩) 32 0 M1 (by omega) (by rw [e1]; exact z_fr_f (by decide)) (fun x hx => by omega) (by rw [e1, q_up_s])))
