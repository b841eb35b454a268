-- the tables of ways, in both
def z_fa (fo : Nat → Int) (l : Nat) : Nat := (fo (2 * l)).toNat
def z_fb (fo : Nat → Int) (l : Nat) : Nat := (fo (2 * l + 1)).toNat
def z_aw (w : Int → Int) (l : Nat) : Nat := (w l).natAbs
def z_tab (r : Int → Int) (n : Nat) (T : Nat → Nat → Int) : Prop := ∀ f g, f < n → g < n → r ((16 * f + g : Nat) : Int) = T f g
def z_upt (T : Nat → Nat → Int) (a b : Nat) (v : Int) : Nat → Nat → Int := fun f g => if f = a ∧ g = b then v else T f g
theorem z_tab_up {M : q_Mem} {a b n : Nat} {v : Int} {T : Nat → Nat → Int} (h : z_tab (M 194) n T) (hn : n ≤ 16) (hb : b < 16) : z_tab (q_up M 194 ((16 * a + b : Nat) : Int) v 194) n (z_upt T a b v) := by
  intro f g hf hg
  unfold z_upt
  by_cases c : f = a ∧ g = b
  · rw [if_pos c, c.1, c.2, q_up_s]
  · rw [if_neg c, q_up_n (by omega)]
    exact h f g hf hg
theorem z_upt2 {fa fb aw : Nat → Nat} {S l : Nat} {T : Nat → Nat → Int} (h : z_co aw S l < T (fa l) (fb l)) : z_upt (z_upt T (fa l) (fb l) (z_co aw S l)) (fb l) (fa l) (z_co aw S l) = z_lk fa fb aw S T l := by
  funext f g
  unfold z_upt z_lk
  by_cases c : f = fb l ∧ g = fa l
  · rw [if_pos c, if_pos ⟨h, Or.inr c⟩]
  · rw [if_neg c]
    by_cases c2 : f = fa l ∧ g = fb l
    · rw [if_pos c2, if_pos ⟨h, Or.inl c2⟩]
    · rw [if_neg c2, if_neg (fun q => q.2.elim c2 c)]
theorem z_lk_no {fa fb aw : Nat → Nat} {S l : Nat} {T : Nat → Nat → Int} (h : ¬ z_co aw S l < T (fa l) (fb l)) : z_lk fa fb aw S T l = T := by
  funext f g
  unfold z_lk
  rw [if_neg (fun q => h q.1)]
theorem k_signOff {d : Nat} {M : q_Mem} {K : Int → q_Mem → Prop} {a : Int} (hd : 0 < d) (hr : -99 ≤ a ∧ a ≤ 99) (h : K (a.natAbs : Int) M) : q_kI yX12_signOff mX12_signOff d [qI a] M K :=
  q_goI hd rfl (plainFor_of_name (by decide +kernel)) rfl (fun h => nomatch h) (Nat.le_of_ble_eq_true rfl) (fun d hd => bX12_signOff_0 _ ⟨fun g => by rw [show (a.natAbs : Int) = a by omega] at h; exact h, fun g => by rw [q_neg_eq (by omega)]; rw [show (a.natAbs : Int) = -a by omega] at h; exact h⟩)
theorem k_costOf {d : Nat} {M : q_Mem} {K : Int → q_Mem → Prop} {l : Nat} (hd : 1 < d) (hl : l < 16) (hw : -99 ≤ M 187 l ∧ M 187 l ≤ 99) (h : K (z_co (z_aw (M 187)) 1000 l) M) : q_kI yX12_costOf mX12_costOf d [qR 178, qI (l : Int)] M K :=
  q_goI hd rfl (plainFor_of_name (by decide +kernel)) rfl (fun h => nomatch h) (Nat.le_of_ble_eq_true rfl) (fun d hd => bX12_costOf_0 _ ⟨by omega, k_signOff (by omega) hw (by
    have e : z_aw (M 187) l = (M 187 l).natAbs := rfl
    unfold z_co at h
    rw [q_mul_eq (by omega), q_add_eq (by omega)]
    rw [e] at h
    exact h)⟩)
/-- table and numbers of a stage by m, behind (f, g) -/
def z_mx (T T' : Nat → Nat → Int) (f g : Nat) : Nat → Nat → Int := fun x y => if x < f ∨ (x = f ∧ y < g) then T' x y else T x y
theorem z_by_c {T : Nat → Nat → Int} {m x : Nat} (h0 : T m m = 0) : z_by T m x m = T x m ∧ z_by T m m x = T m x := by
  unfold z_by; omega
theorem z_mx_step {T T' : Nat → Nat → Int} {f g : Nat} : z_upt (z_mx T T' f g) f g (T' f g) = z_mx T T' f (g + 1) := by
  funext x y
  unfold z_upt z_mx
  by_cases c : x = f ∧ y = g
  · rw [if_pos c, if_pos (by omega), c.1, c.2]
  · rw [if_neg c]
    by_cases c2 : x < f ∨ (x = f ∧ y < g)
    · rw [if_pos c2, if_pos (by omega)]
    · rw [if_neg c2, if_neg (by omega)]
theorem z_mx_same {T T' : Nat → Nat → Int} {f g : Nat} (h : T' f g = T f g) : z_mx T T' f g = z_mx T T' f (g + 1) := by
  rw [← z_mx_step, h]
  funext x y
  unfold z_upt z_mx
  by_cases c : x = f ∧ y = g
  · rw [if_pos c, if_neg (by omega), c.1, c.2]
  · rw [if_neg c]
theorem z_tab_congr {r : Int → Int} {n : Nat} {T T' : Nat → Nat → Int} (h : z_tab r n T) (e : ∀ f g, f < n → g < n → T f g = T' f g) : z_tab r n T' := fun f g hf hg => (h f g hf hg).trans (e f g hf hg)
/-- the reference: shortcuts by each face -/
theorem l_lw154 {d : Nat} {K : q_Mem → Prop} {M0 : q_Mem} {F m : Nat} {I : Int} {T : Nat → Nat → Int} (hF : F ≤ 16) (hm : m < F) (h25 : M0 178 25 = (F : Int)) (hI : I ≤ 536870912) (hT : ∀ f g, f < F → g < F → 0 ≤ T f g ∧ T f g ≤ I) (h0 : T m m = 0) {f : Nat} (hf : f < F)
    (h : ∀ M', z_fr [194] [] M0 M' → z_tab (M' 194) F (z_mx T (z_by T m) (f + 1) 0) → q_v mX12_laysWays d (qPU K) M' 144 [some (qR 178), some (qI (m : Int)), some (qI (q_add (f : Int) 1)), none, none] []) :
    ∀ (j g : Nat) (M : q_Mem), g + j = F → z_fr [194] [] M0 M → z_tab (M 194) F (z_mx T (z_by T m) f g) → q_v mX12_laysWays d (qPU K) M 154 [some (qR 178), some (qI (m : Int)), some (qI (f : Int)), some (qI (g : Int)), none] [] := by
  intro j
  induction j with
  | zero =>
    intro g M e fr q
    refine bX12_laysWays_154 _ _ _ ?_
    rw [fr.2 25 (by decide), h25]
    refine ⟨fun _ => h M fr (z_tab_congr q (fun x y hx hy => ?_)), fun c => absurd (by omega) c⟩
    unfold z_mx
    by_cases c : x < f ∨ (x = f ∧ y < g)
    · rw [if_pos c, if_pos (by omega)]
    · rw [if_neg c, if_neg (by omega)]
  | succ j ih =>
    intro g M e fr q
    have a := hT f g hf (by omega)
    have b := hT f m hf hm
    have c := hT m g hm (by omega)
    have r1 : M 194 ((16 * f + m : Nat) : Int) = T f m := by
      rw [q f m hf hm]; unfold z_mx; split
      · exact (z_by_c h0).1
      · rfl
    have r2 : M 194 ((16 * m + g : Nat) : Int) = T m g := by
      rw [q m g hm (by omega)]; unfold z_mx; split
      · exact (z_by_c h0).2
      · rfl
    have r3 : M 194 ((16 * f + g : Nat) : Int) = T f g := by
      rw [q f g hf (by omega)]; unfold z_mx; rw [if_neg (by omega)]
    refine bX12_laysWays_154 _ _ _ ?_
    rw [fr.2 25 (by decide), h25, q_mul_eq (b := (f : Int)) (by omega), q_mul_eq (b := (m : Int)) (by omega), q_add_eq (a := 16 * (f : Int)) (b := (m : Int)) (by omega), q_add_eq (a := 16 * (m : Int)) (by omega), q_add_eq (a := 16 * (f : Int)) (b := (g : Int)) (by omega), q_add_eq (a := (g : Int)) (by omega)]
    rw [show 16 * (f : Int) + (m : Int) = ((16 * f + m : Nat) : Int) by omega, show 16 * (m : Int) + (g : Int) = ((16 * m + g : Nat) : Int) by omega, show 16 * (f : Int) + (g : Int) = ((16 * f + g : Nat) : Int) by omega, show (g : Int) + 1 = ((g + 1 : Nat) : Int) by omega, r1, r2, r3, q_add_eq (a := T f m) (b := T m g) (by omega)]
    refine ⟨fun c => by omega, fun _ => ⟨by omega, by omega, fun x ex => ⟨by omega, fun c2 => ?_, fun c2 => ⟨by omega, fun M6 e6 => ?_⟩⟩⟩⟩
    · refine ih (g + 1) M (by omega) fr ?_
      rw [← z_mx_same (by unfold z_by; omega)]
      exact q
    · refine ih (g + 1) M6 (by omega) (z_fr_u fr e6 (by decide) (by decide)) ?_
      rw [← z_mx_step, e6, show x = z_by T m f g by unfold z_by; omega]
      exact z_tab_up q hF (by omega)
theorem l_lw144 {d : Nat} {K : q_Mem → Prop} {M0 : q_Mem} {F m : Nat} {I : Int} {T : Nat → Nat → Int} (hF : F ≤ 16) (hm : m < F) (h25 : M0 178 25 = (F : Int)) (hI : I ≤ 536870912) (hT : ∀ f g, f < F → g < F → 0 ≤ T f g ∧ T f g ≤ I) (h0 : T m m = 0)
    (h : ∀ M', z_fr [194] [] M0 M' → z_tab (M' 194) F (z_by T m) → q_v mX12_laysWays d (qPU K) M' 134 [some (qR 178), some (qI (q_add (m : Int) 1)), none, none, none] []) :
    ∀ (j f : Nat) (M : q_Mem), f + j = F → z_fr [194] [] M0 M → z_tab (M 194) F (z_mx T (z_by T m) f 0) → q_v mX12_laysWays d (qPU K) M 144 [some (qR 178), some (qI (m : Int)), some (qI (f : Int)), none, none] [] := by
  intro j
  induction j with
  | zero =>
    intro f M e fr q
    refine bX12_laysWays_144 _ _ ?_
    rw [fr.2 25 (by decide), h25]
    refine ⟨fun _ => h M fr (z_tab_congr q (fun x y hx hy => ?_)), fun c => absurd (by omega) c⟩
    unfold z_mx
    rw [if_pos (by omega)]
  | succ j ih =>
    intro f M e fr q
    refine bX12_laysWays_144 _ _ ?_
    rw [fr.2 25 (by decide), h25]
    refine ⟨fun c => by omega, fun _ => l_lw154 hF hm h25 hI hT h0 (f := f) (by omega) (fun M' fr' q' => ?_) F 0 M (by omega) fr q⟩
    rw [q_add_eq (by omega), show (f : Int) + 1 = ((f + 1 : Nat) : Int) by omega]
    exact ih (f + 1) M' (by omega) fr' q'
theorem l_lw134 {d : Nat} {K : q_Mem → Prop} {M0 : q_Mem} {fa fb aw : Nat → Nat} {L F S : Nat} {I : Int} {T : Nat → Nat → Int} (hF : F ≤ 16) (h25 : M0 178 25 = (F : Int)) (hI : I ≤ 536870912) (hs : z_snd fa fb aw L F S I T)
    (h : ∀ M', z_fr [194] [] M0 M' → z_tab (M' 194) F (z_bys T F) → K M') :
    ∀ (j m : Nat) (M : q_Mem), m + j = F → z_fr [194] [] M0 M → z_tab (M 194) F (z_bys T m) → q_v mX12_laysWays d (qPU K) M 134 [some (qR 178), some (qI (m : Int)), none, none, none] [] := by
  intro j
  induction j with
  | zero =>
    intro m M e fr q
    have em : m = F := by omega
    refine bX12_laysWays_134 _ ?_
    rw [fr.2 25 (by decide), h25]
    exact ⟨fun _ => h M fr (by rw [em] at q; exact q), fun c => absurd (by omega) c⟩
  | succ j ih =>
    intro m M e fr q
    have ok := (z_bys_ok hs m (by omega)).1
    refine bX12_laysWays_134 _ ?_
    rw [fr.2 25 (by decide), h25]
    refine ⟨fun c => by omega, fun _ => l_lw144 hF (by omega) h25 hI (fun f g hf hg => (ok f g hf hg).1) ((ok m m (by omega) (by omega)).2.2 rfl) (fun M' fr' q' => ?_) F 0 M (by omega) fr (z_tab_congr q (fun x y _ _ => ?_))⟩
    · rw [q_add_eq (by omega), show (m : Int) + 1 = ((m + 1 : Nat) : Int) by omega]
      exact ih (m + 1) M' (by omega) fr' q'
    · unfold z_mx
      rw [if_neg (by omega)]
theorem l_lw41 {d : Nat} {K : q_Mem → Prop} {M0 : q_Mem} (hd : 2 ≤ d) {fo : Nat → Int} {F : Nat} (hF : F ≤ 16) (hn : z_net (M0 179)) (h25 : M0 178 25 = (F : Int)) (hfo : ∀ x : Nat, x < 32 → M0 188 x = fo x) (hin : ∀ x, x < 2 * z_L (M0 179) → 0 ≤ fo x ∧ fo x < (F : Int)) (hw : ∀ l : Nat, l < z_L (M0 179) → -99 ≤ M0 187 l ∧ M0 187 l ≤ 99)
    (h : ∀ M', z_fr [194] [] M0 M' → z_tab (M' 194) F (z_tb (z_fa fo) (z_fb fo) (z_aw (M0 187)) (z_L (M0 179)) F 1000 67108864) → K M') :
    ∀ (j l : Nat) (M : q_Mem), l + j = z_L (M0 179) → z_fr [194] [] M0 M → z_tab (M 194) F (z_lks (z_fa fo) (z_fb fo) (z_aw (M0 187)) 1000 (z_t0 67108864) l) → q_v mX12_laysWays d (qPU K) M 41 [some (qR 178), some (qI (l : Int)), none, none, none] [] := by
  have eL := z_net_L hn
  have hL := z_net_L16 hn
  have hFl : ∀ l, l < z_L (M0 179) → z_fa fo l < F ∧ z_fb fo l < F := by
    intro l hl
    have a := hin (2 * l) (by omega)
    have b := hin (2 * l + 1) (by omega)
    unfold z_fa z_fb
    omega
  intro j
  induction j with
  | zero =>
    intro l M e fr q
    have o1 : M 179 = M0 179 := fr.1 179 (by decide) (by decide)
    have el : l = z_L (M0 179) := by omega
    refine bX12_laysWays_41 _ ?_
    rw [o1]
    exact ⟨fun _ => l_lw134 hF h25 (by decide) (z_lks_ok (S := 1000) (I := 67108864) hFl (by decide) (z_L (M0 179)) (Nat.le_refl _)).1 h F 0 M (by omega) fr (by rw [el] at q; exact q), fun g => absurd (by omega) g⟩
  | succ j ih =>
    intro l M e fr q
    have o1 : M 179 = M0 179 := fr.1 179 (by decide) (by decide)
    have w1 : M 187 = M0 187 := fr.1 187 (by decide) (by decide)
    have f1 : M 188 = M0 188 := fr.1 188 (by decide) (by decide)
    have a := hin (2 * l) (by omega)
    have b := hin (2 * l + 1) (by omega)
    have ea : fo (2 * l) = (z_fa fo l : Int) := by unfold z_fa; omega
    have eb : fo (2 * l + 1) = (z_fb fo l : Int) := by unfold z_fb; omega
    have hl2 := hFl l (by omega)
    have q1 := hfo (2 * l) (by omega)
    have q2 := hfo (2 * l + 1) (by omega)
    rw [show ((2 * l : Nat) : Int) = 2 * (l : Int) by omega, ea] at q1
    rw [show ((2 * l + 1 : Nat) : Int) = 2 * (l : Int) + 1 by omega, eb] at q2
    have hwl : -99 ≤ M 187 l ∧ M 187 l ≤ 99 := by rw [w1]; exact hw l (by omega)
    refine bX12_laysWays_41 _ ?_
    rw [o1, q_mul_eq (b := (l : Int)) (by omega), q_add_eq (a := 2 * (l : Int)) (by omega), f1, q1, q2, q_add_eq (a := (l : Int)) (by omega), show (l : Int) + 1 = ((l + 1 : Nat) : Int) by omega]
    refine ⟨fun g => by omega, fun _ => ⟨by omega, fun x2 e2 => ⟨by omega, fun x3 e3 => ?_⟩⟩⟩
    subst e2 e3
    refine k_costOf (by omega) (by omega) hwl ?_
    rw [q_mul_eq (by omega), q_mul_eq (by omega), q_add_eq (by omega), q_add_eq (by omega), show 16 * (z_fa fo l : Int) + (z_fb fo l : Int) = ((16 * z_fa fo l + z_fb fo l : Nat) : Int) by omega, show 16 * (z_fb fo l : Int) + (z_fa fo l : Int) = ((16 * z_fb fo l + z_fa fo l : Nat) : Int) by omega, q _ _ hl2.1 hl2.2, w1]
    have es : z_lks (z_fa fo) (z_fb fo) (z_aw (M0 187)) 1000 (z_t0 67108864) (l + 1) = z_lk (z_fa fo) (z_fb fo) (z_aw (M0 187)) 1000 (z_lks (z_fa fo) (z_fb fo) (z_aw (M0 187)) 1000 (z_t0 67108864) l) l := rfl
    refine ⟨by omega, fun g => k_costOf (by omega) (by omega) hwl ⟨by omega, fun M11 e11 => ?_⟩, fun g => ?_⟩
    · have w2 : M11 187 = M0 187 := by rw [e11, q_up_o (by decide)]; exact w1
      refine k_costOf (by omega) (by omega) (by rw [w2]; exact hw l (by omega)) ⟨by omega, fun M15 e15 => ?_⟩
      refine ih (l + 1) M15 (by omega) (z_fr_u (z_fr_u fr e11 (by decide) (by decide)) e15 (by decide) (by decide)) ?_
      rw [w2] at e15
      rw [w1] at e11
      rw [es, ← z_upt2 g, e15, e11]
      exact z_tab_up (z_tab_up q hF (by omega)) hF (by omega)
    · refine ih (l + 1) M (by omega) fr ?_
      rw [es, z_lk_no g]
      exact q
theorem l_lw2 {d : Nat} {K : q_Mem → Prop} {M0 : q_Mem} (h : ∀ M', z_fr [194] [] M0 M' → z_tab (M' 194) 16 (z_t0 67108864) → q_v mX12_laysWays d (qPU K) M' 41 [some (qR 178), some (qI 0), none, none, none] []) :
    ∀ (j i : Nat) (M : q_Mem), i + j = 256 → z_fr [194] [] M0 M → (∀ k : Nat, k < i → M 194 k = z_t0 67108864 (k / 16) (k % 16)) → q_v mX12_laysWays d (qPU K) M 2 [some (qR 178), some (qI (i : Int)), none, none, none] [] := by
  intro j
  induction j with
  | zero =>
    intro i M e fr q
    refine bX12_laysWays_2 _ ⟨fun _ => h M fr (fun f g hf hg => ?_), fun g => absurd (by omega) g⟩
    rw [q (16 * f + g) (by omega), show (16 * f + g) / 16 = f by omega, show (16 * f + g) % 16 = g by omega]
  | succ j ih =>
    intro i M e fr q
    refine bX12_laysWays_2 _ ⟨fun g => by omega, fun _ => ?_⟩
    rw [q_div_nn (by unfold q_in32; omega) (q_l32 _ rfl) (by omega), q_rem_nn (by unfold q_in32; omega) (q_l32 _ rfl) (by omega) (by omega), q_add_eq (by omega), show (i : Int) + 1 = ((i + 1 : Nat) : Int) by omega]
    refine ⟨fun g => ⟨by omega, fun M2 e2 => ih (i + 1) M2 (by omega) (z_fr_u fr e2 (by decide) (by decide)) (fun k hk => ?_)⟩, fun g => ⟨by omega, fun M2 e2 => ih (i + 1) M2 (by omega) (z_fr_u fr e2 (by decide) (by decide)) (fun k hk => ?_)⟩⟩
    · by_cases c : k = i
      · subst c; rw [e2, q_up_s]; unfold z_t0; rw [if_neg (by omega)]
      · rw [e2, q_up_n (by omega)]; exact q k (by omega)
    · by_cases c : k = i
      · subst c; rw [e2, q_up_s]; unfold z_t0; rw [if_pos (by omega)]
      · rw [e2, q_up_n (by omega)]; exact q k (by omega)
theorem k_laysWays {d : Nat} {M : q_Mem} {K : q_Mem → Prop} {fo : Nat → Int} {F : Nat} (hd : 2 < d) (hF : F ≤ 16) (hn : z_net (M 179)) (h25 : M 178 25 = (F : Int)) (hfo : ∀ x : Nat, x < 32 → M 188 x = fo x) (hin : ∀ x, x < 2 * z_L (M 179) → 0 ≤ fo x ∧ fo x < (F : Int)) (hw : ∀ l : Nat, l < z_L (M 179) → -99 ≤ M 187 l ∧ M 187 l ≤ 99) (h : ∀ M', z_fr [194] [] M M' → z_tab (M' 194) F (z_tb (z_fa fo) (z_fb fo) (z_aw (M 187)) (z_L (M 179)) F 1000 67108864) → K M') : q_kU yX12_laysWays mX12_laysWays d [qR 178] M K :=
  q_goU hd rfl (plainFor_of_name (by decide +kernel)) rfl (fun h => nomatch h) (Nat.le_of_ble_eq_true rfl) (fun d hd => bX12_laysWays_0 (l_lw2 (M0 := M) (fun M' fr' q' => by
    have o1 : M' 179 = M 179 := fr'.1 179 (by decide) (by decide)
    have w1 : M' 187 = M 187 := fr'.1 187 (by decide) (by decide)
    have f1 : M' 188 = M 188 := fr'.1 188 (by decide) (by decide)
    exact l_lw41 hd hF hn h25 hfo hin hw h (z_L (M 179)) 0 M' (by omega) fr' (fun f g hf hg => q' f g (by omega) (by omega))) 256 0 M (by omega) z_fr_rf (fun k hk => by omega)))
