-- the class's table of ways
theorem z_l99 : ∀ n : Nat, n < 16 → q_lay 99 n = 100 + (n : Int) := by decide +kernel
theorem z_l99' {n : Nat} (h : n < 16) : q_lay 99 (Int.toNat (n : Int)) = 100 + (n : Int) := by rw [Int.toNat_natCast]; exact z_l99 n h
theorem z_k100n : ∀ n : Nat, n < 16 → q_kd (100 + (n : Int)) = 14 ∧ q_ln (100 + (n : Int)) = 16 := by decide +kernel
def z_ct (M : q_Mem) (n : Nat) (T : Nat → Nat → Int) : Prop := ∀ f g : Nat, f < n → g < n → M (100 + (f : Int)) (g : Int) = T f g
theorem z_ct_up {M : q_Mem} {a b n : Nat} {v : Int} {T : Nat → Nat → Int} (h : z_ct M n T) : z_ct (q_up M (100 + (a : Int)) (b : Int) v) n (z_upt T a b v) := by
  intro f g hf hg
  unfold z_upt
  by_cases c : f = a ∧ g = b
  · rw [if_pos c, c.1, c.2, q_up_s]
  · rw [if_neg c]
    by_cases c2 : f = a
    · subst c2
      rw [q_up_n (by omega)]
      exact h f g hf hg
    · rw [q_up_o (by omega)]
      exact h f g hf hg
theorem z_ct_congr {M : q_Mem} {n : Nat} {T T' : Nat → Nat → Int} (h : z_ct M n T) (e : ∀ f g, f < n → g < n → T f g = T' f g) : z_ct M n T' := fun f g hf hg => (h f g hf hg).trans (e f g hf hg)
theorem z_ct_o {M M' : q_Mem} {n : Nat} {T : Nat → Nat → Int} (h : z_ct M n T) (e : ∀ f : Nat, f < n → M' (100 + (f : Int)) = M (100 + (f : Int))) : z_ct M' n T := fun f g hf hg => by rw [e f hf]; exact h f g hf hg
/-- what lies outside the ways -/
def z_wf (M M' : q_Mem) : Prop := ∀ a, ¬ (100 ≤ a ∧ a ≤ 116) → a ≠ 98 → M' a = M a
theorem z_wf_tr {M M' M'' : q_Mem} (h : z_wf M M') (h2 : z_wf M' M'') : z_wf M M'' := fun a g1 g2 => (h2 a g1 g2).trans (h a g1 g2)
theorem z_wf_u {M0 M M2 : q_Mem} {a k v : Int} (f : z_wf M0 M) (e : M2 = q_up M a k v) (h : (100 ≤ a ∧ a ≤ 116) ∨ a = 98) : z_wf M0 M2 := by
  subst e
  intro b g1 g2
  rw [q_up_o (by omega)]
  exact f b g1 g2
theorem l_gb20 {d : Nat} {K : q_Mem → Prop} {M0 : q_Mem} (hd : 1 ≤ d) {F m : Nat} {T : Nat → Nat → Int} (hF : F ≤ 16) (hm : m < F) (hT : ∀ f g, f < F → g < F → 0 ≤ T f g ∧ T f g ≤ 536870912) (h0 : T m m = 0) {f : Nat} (hf : f < F)
    (h : ∀ M', (∀ a, ¬ (100 ≤ a ∧ a ≤ 115) → M' a = M0 a) → z_ct M' F (z_mx T (z_by T m) (f + 1) 0) → q_v mX10_goBy d (qPU K) M' 2 [some (qR 98), some (qI (m : Int)), some (qI (F : Int)), some (qI (q_add (f : Int) 1)), none, none] []) :
    ∀ (j g : Nat) (M : q_Mem), g + j = F → (∀ a, ¬ (100 ≤ a ∧ a ≤ 115) → M a = M0 a) → z_ct M F (z_mx T (z_by T m) f g) → q_v mX10_goBy d (qPU K) M 20 [some (qR 98), some (qI (m : Int)), some (qI (F : Int)), some (qI (f : Int)), some (qI (T f m)), some (qI (g : Int))] [] := by
  intro j
  induction j with
  | zero =>
    intro g M e fr q
    refine bX10_goBy_20 _ _ _ _ _ ⟨fun _ => h M fr (z_ct_congr q (fun x y hx hy => ?_)), fun c => absurd (by omega) c⟩
    unfold z_mx
    by_cases c : x < f ∨ (x = f ∧ y < g)
    · rw [if_pos c, if_pos (by omega)]
    · rw [if_neg c, if_neg (by omega)]
  | succ j ih =>
    intro g M e fr q
    have a := hT f g hf (by omega)
    have b := hT f m hf hm
    have c := hT m g hm (by omega)
    have r2 : M (100 + (m : Int)) (g : Int) = T m g := by
      rw [q m g hm (by omega)]; unfold z_mx; split
      · exact (z_by_c h0).2
      · rfl
    have r3 : M (100 + (f : Int)) (g : Int) = T f g := by
      rw [q f g hf (by omega)]; unfold z_mx; rw [if_neg (by omega)]
    have kf := z_k100n f (by omega)
    have km := z_k100n m (by omega)
    refine bX10_goBy_20 _ _ _ _ _ ⟨fun c => by omega, fun _ => ⟨fun c2 => ?_, fun c2 => ?_⟩⟩
    · refine h M fr (z_ct_congr q (fun x y hx hy => ?_))
      unfold z_mx
      by_cases c3 : x < f ∨ (x = f ∧ y < g)
      · rw [if_pos c3, if_pos (by omega)]
      · rw [if_neg c3]
        by_cases c4 : x = f
        · subst c4
          have ta := hT x y hf hy
          have tb := hT m y hm hy
          rw [if_pos (by omega)]
          unfold z_by
          omega
        · rw [if_neg (by omega)]
    · rw [z_l99' (by omega), z_l99' (by omega), kf.2, km.2, r2, r3, q_add_eq (a := T f m) (by omega), q_add_eq (a := (g : Int)) (by omega), show (g : Int) + 1 = ((g + 1 : Nat) : Int) by omega]
      refine ⟨by omega, by omega, kf.1, by omega, by omega, km.1, by omega, k_min (by omega) ⟨by omega, fun M11 e11 => ?_⟩⟩
      refine ih (g + 1) M11 (by omega) (fun a ha => by rw [e11, q_up_o (by omega)]; exact fr a ha) ?_
      rw [← z_mx_step, e11]
      exact z_ct_up q
theorem l_gb2 {d : Nat} {K : q_Mem → Prop} {M0 : q_Mem} (hd : 1 ≤ d) {F m : Nat} {T : Nat → Nat → Int} (hF : F ≤ 16) (hm : m < F) (hT : ∀ f g, f < F → g < F → 0 ≤ T f g ∧ T f g ≤ 536870912) (h0 : T m m = 0)
    (h : ∀ M', (∀ a, ¬ (100 ≤ a ∧ a ≤ 115) → M' a = M0 a) → z_ct M' F (z_by T m) → K M') :
    ∀ (j f : Nat) (M : q_Mem), f + j = F → (∀ a, ¬ (100 ≤ a ∧ a ≤ 115) → M a = M0 a) → z_ct M F (z_mx T (z_by T m) f 0) → q_v mX10_goBy d (qPU K) M 2 [some (qR 98), some (qI (m : Int)), some (qI (F : Int)), some (qI (f : Int)), none, none] [] := by
  intro j
  induction j with
  | zero =>
    intro f M e fr q
    refine bX10_goBy_2 _ _ _ ⟨fun _ => h M fr (z_ct_congr q (fun x y hx hy => ?_)), fun c => absurd (by omega) c⟩
    unfold z_mx
    rw [if_pos (by omega)]
  | succ j ih =>
    intro f M e fr q
    have kf := z_k100n f (by omega)
    have r1 : M (100 + (f : Int)) (m : Int) = T f m := by
      rw [q f m (by omega) hm]; unfold z_mx; split
      · exact (z_by_c h0).1
      · rfl
    refine bX10_goBy_2 _ _ _ ⟨fun c => by omega, fun _ => ?_⟩
    rw [z_l99' (by omega), kf.2, r1]
    refine ⟨by omega, kf.1, by omega, fun x ex => ?_⟩
    subst ex
    refine l_gb20 hd hF hm hT h0 (f := f) (by omega) (fun M' fr' q' => ?_) F 0 M (by omega) fr q
    rw [q_add_eq (by omega), show (f : Int) + 1 = ((f + 1 : Nat) : Int) by omega]
    exact ih (f + 1) M' (by omega) fr' q'
theorem k_goBy {d : Nat} {M : q_Mem} {K : q_Mem → Prop} {F m : Nat} {T : Nat → Nat → Int} (hd : 1 < d) (hF : F ≤ 16) (hm : m < F) (hT : ∀ f g, f < F → g < F → 0 ≤ T f g ∧ T f g ≤ 536870912) (h0 : T m m = 0) (q : z_ct M F T) (h : ∀ M', (∀ a, ¬ (100 ≤ a ∧ a ≤ 115) → M' a = M a) → z_ct M' F (z_by T m) → K M') : q_kU yX10_goBy mX10_goBy d [qR 98, qI (m : Int), qI (F : Int)] M K :=
  q_goU hd rfl (plainFor_of_name (by decide +kernel)) rfl (fun h => nomatch h) (Nat.le_of_ble_eq_true rfl) (fun d hd => bX10_goBy_0 _ _ (l_gb2 hd hF hm hT h0 h F 0 M (by omega) (fun _ _ => rfl) (z_ct_congr q (fun x y _ _ => by unfold z_mx; rw [if_neg (by omega)]))))
theorem l_cw176 {d : Nat} {K : q_Mem → Prop} {M0 : q_Mem} (hd : 2 ≤ d) {fa fb aw : Nat → Nat} {L F S : Nat} {T : Nat → Nat → Int} (hF : F ≤ 16) (hs : z_snd fa fb aw L F S 536870912 T)
    (h : ∀ M', (∀ a, ¬ (100 ≤ a ∧ a ≤ 115) → M' a = M0 a) → z_ct M' F (z_bys T F) → K M') :
    ∀ (j m : Nat) (M : q_Mem), m + j = F → (∀ a, ¬ (100 ≤ a ∧ a ≤ 115) → M a = M0 a) → z_ct M F (z_bys T m) → q_v mX10_workOut d (qPU K) M 176 [some (qR 98), none, none, none, some (qI (F : Int)), some (qI (m : Int)), none, none] [] := by
  intro j
  induction j with
  | zero =>
    intro m M e fr q
    have em : m = F := by omega
    exact bX10_workOut_176 _ _ ⟨fun _ => h M fr (by rw [em] at q; exact q), fun c => absurd (by omega) c⟩
  | succ j ih =>
    intro m M e fr q
    have ok := (z_bys_ok hs m (by omega)).1
    refine bX10_workOut_176 _ _ ⟨fun c => by omega, fun _ => k_goBy (by omega) hF (by omega) (fun f g hf hg => (ok f g hf hg).1) ((ok m m (by omega) (by omega)).2.2 rfl) q (fun M' fr' q' => ?_)⟩
    rw [q_add_eq (by omega), show (m : Int) + 1 = ((m + 1 : Nat) : Int) by omega]
    exact ih (m + 1) M' (by omega) (fun a ha => (fr' a ha).trans (fr a ha)) q'
/-- the ways fit: of weights w, faces fo -/
def z_wv (w : Int → Int) (fo : Nat → Int) (L F : Nat) (M : q_Mem) : Prop := z_ct M F (z_tb (z_fa fo) (z_fb fo) (z_aw w) L F 1024 536870912) ∧ (∀ l : Nat, l < L → M 116 l = z_co (z_aw w) 1024 l) ∧ M 98 2 = (L : Int)
theorem l_cw53 {d : Nat} {K : q_Mem → Prop} {M0 : q_Mem} (hd : 2 ≤ d) {fo : Nat → Int} {L F : Nat} (hL : L ≤ 16) (hF : F ≤ 16) (hfo : ∀ x : Nat, x < 32 → M0 93 x = fo x) (hin : ∀ x, x < 2 * L → 0 ≤ fo x ∧ fo x < (F : Int)) (hw : ∀ l : Nat, l < L → -99 ≤ M0 90 l ∧ M0 90 l ≤ 99)
    (h : ∀ M', z_wf M0 M' → z_wv (M0 90) fo L F M' → K M') :
    ∀ (j l : Nat) (M : q_Mem), l + j = L → z_wf M0 M → M 98 2 = (L : Int) → (∀ i : Nat, i < l → M 116 i = z_co (z_aw (M0 90)) 1024 i) → z_ct M F (z_lks (z_fa fo) (z_fb fo) (z_aw (M0 90)) 1024 (z_t0 536870912) l) → q_v mX10_workOut d (qPU K) M 53 [some (qR 98), some (qR 91), none, some (qR 90), some (qI (F : Int)), some (qI (l : Int)), none, none] [] := by
  have hFl : ∀ l, l < L → z_fa fo l < F ∧ z_fb fo l < F := by
    intro l hl
    have a := hin (2 * l) (by omega)
    have b := hin (2 * l + 1) (by omega)
    unfold z_fa z_fb
    omega
  intro j
  induction j with
  | zero =>
    intro l M e fr e2 cr q
    have el : l = L := by omega
    refine bX10_workOut_53 _ _ _ _ (by decide +kernel) (by decide +kernel) ?_
    rw [e2]
    refine ⟨fun _ => l_cw176 (M0 := M) hd hF (z_lks_ok (S := 1024) (I := 536870912) hFl (by decide) L (Nat.le_refl _)).1 (fun M' fr' q' => h M' (fun a g1 g2 => (fr' a (by omega)).trans (fr a g1 g2)) ⟨q', fun i hi => ?_, ?_⟩) F 0 M (by omega) (fun _ _ => rfl) (by rw [el] at q; exact q), fun g => absurd (by omega) g⟩
    · rw [fr' 116 (by omega)]; exact cr i (by omega)
    · rw [fr' 98 (by omega)]; exact e2
  | succ j ih =>
    intro l M e fr e2 cr q
    have a := hin (2 * l) (by omega)
    have b := hin (2 * l + 1) (by omega)
    have ea : fo (2 * l) = (z_fa fo l : Int) := by unfold z_fa; omega
    have eb : fo (2 * l + 1) = (z_fb fo l : Int) := by unfold z_fb; omega
    have hl2 := hFl l (by omega)
    have q1 := hfo (2 * l) (by omega)
    have q2 := hfo (2 * l + 1) (by omega)
    rw [show ((2 * l : Nat) : Int) = 2 * (l : Int) by omega, ea] at q1
    rw [show ((2 * l + 1 : Nat) : Int) = 2 * (l : Int) + 1 by omega, eb] at q2
    have w1 : M 90 = M0 90 := fr 90 (by omega) (by decide)
    have f1 : M 93 = M0 93 := fr 93 (by omega) (by decide)
    have hwl := hw l (by omega)
    have kA := z_k100n (z_fa fo l) (by omega)
    have kB := z_k100n (z_fb fo l) (by omega)
    have es : z_lks (z_fa fo) (z_fb fo) (z_aw (M0 90)) 1024 (z_t0 536870912) (l + 1) = z_lk (z_fa fo) (z_fb fo) (z_aw (M0 90)) 1024 (z_lks (z_fa fo) (z_fb fo) (z_aw (M0 90)) 1024 (z_t0 536870912) l) l := rfl
    refine bX10_workOut_53 _ _ _ _ (by decide +kernel) (by decide +kernel) ?_
    rw [e2, w1, show q_ln 90 = 16 by decide +kernel, show q_lay 91 4 = 93 by decide +kernel, q_mul_eq (a := 2) (by omega), q_add_eq (a := 2 * (l : Int)) (by omega), q_add_eq (a := (l : Int)) (by omega), show (l : Int) + 1 = ((l + 1 : Nat) : Int) by omega]
    refine ⟨fun g => by omega, fun _ => ⟨by omega, k_abs (by omega) (by omega) ⟨by omega, fun M5 e5 => ?_⟩⟩⟩
    have eco : q_add (q_mul ((M0 90 l).natAbs : Int) 1024) 1 = z_co (z_aw (M0 90)) 1024 l := by
      have : z_aw (M0 90) l = (M0 90 l).natAbs := rfl
      unfold z_co
      rw [this, q_mul_eq (by omega), q_add_eq (by omega)]
      omega
    rw [eco] at e5
    have m5 : M5 93 = M0 93 := by rw [e5, q_up_o (by decide)]; exact f1
    have c5 : M5 116 l = z_co (z_aw (M0 90)) 1024 l := by rw [e5, q_up_s]
    have fr5 : z_wf M0 M5 := z_wf_u fr e5 (by omega)
    have cr5 : ∀ i : Nat, i < l + 1 → M5 116 i = z_co (z_aw (M0 90)) 1024 i := by
      intro i hi
      by_cases c : i = l
      · subst c; exact c5
      · rw [e5, q_up_n (by omega)]; exact cr i (by omega)
    have q5 : z_ct M5 F (z_lks (z_fa fo) (z_fb fo) (z_aw (M0 90)) 1024 (z_t0 536870912) l) := z_ct_o q (fun f hf => by rw [e5, q_up_o (by omega)])
    have e25 : M5 98 2 = (L : Int) := by rw [e5, q_up_o (by decide)]; exact e2
    rw [m5, q1, q2, c5]
    refine ⟨by omega, fun x6 e6 => ⟨by omega, fun x7 e7 => ?_⟩⟩
    subst e6 e7
    have tab := q5 _ _ hl2.1 hl2.2
    rw [z_l99' (by omega), z_l99' (by omega), kA.2, kB.2, tab]
    have zero := (z_lks_ok (S := 1024) (I := 536870912) (aw := z_aw (M0 90)) hFl (by decide) l (by omega)).2.2.1
    refine ⟨fun g => ih (l + 1) M5 (by omega) fr5 e25 cr5 ?_, fun g => ⟨by omega, by omega, kA.1, by omega, fun g2 => ih (l + 1) M5 (by omega) fr5 e25 cr5 ?_, fun g2 => ⟨by omega, by omega, by omega, fun M17 e17 => ⟨by omega, by omega, kB.1, by omega, fun M22 e22 => ?_⟩⟩⟩⟩
    · rw [es, z_lk_no]
      · exact q5
      · have g : z_fa fo l = z_fb fo l := by omega
        have z := zero (z_fb fo l)
        rw [g, z]
        unfold z_co
        omega
    · rw [es, z_lk_no (by omega)]
      exact q5
    · have c17 : M17 116 l = z_co (z_aw (M0 90)) 1024 l := by rw [e17, q_up_o (by omega)]; exact c5
      rw [c17] at e22
      refine ih (l + 1) M22 (by omega) (z_wf_u (z_wf_u fr5 e17 (by omega)) e22 (by omega)) (by rw [e22, q_up_o (by omega), e17, q_up_o (by omega)]; exact e25) (fun i hi => by rw [e22, q_up_o (by omega), e17, q_up_o (by omega)]; exact cr5 i hi) ?_
      rw [es, ← z_upt2 (by omega), e22, e17]
      exact z_ct_up (z_ct_up q5)
theorem l_cw14 {d : Nat} {K : q_Mem → Prop} {M0 : q_Mem} (hd : 2 ≤ d) {F : Nat} (hF : F ≤ 16)
    (h : ∀ M', z_wf M0 M' → M' 98 = M0 98 → z_ct M' F (z_t0 536870912) → q_v mX10_workOut d (qPU K) M' 53 [some (qR 98), some (qR 91), none, some (qR 90), some (qI (F : Int)), some (qI 0), none, none] []) :
    ∀ (j i : Nat) (M : q_Mem), i + j = F → z_wf M0 M → M 98 = M0 98 → (∀ f g : Nat, f < i → g < F → M (100 + (f : Int)) g = z_t0 536870912 f g) → q_v mX10_workOut d (qPU K) M 14 [some (qR 98), some (qR 91), none, some (qR 90), some (qI (F : Int)), some (qI (i : Int)), none, none] [] := by
  intro j
  induction j with
  | zero =>
    intro i M e fr e8 q
    exact bX10_workOut_14 _ _ _ _ (by decide +kernel) (by decide +kernel) ⟨fun _ => h M fr e8 (fun f g hf hg => q f g (by omega) hg), fun g => absurd (by omega) g⟩
  | succ j ih =>
    intro i M e fr e8 q
    have ki := z_k100n i (by omega)
    refine bX10_workOut_14 _ _ _ _ (by decide +kernel) (by decide +kernel) ⟨fun g => by omega, fun _ => ?_⟩
    rw [z_l99' (by omega), ki.2, q_add_eq (by omega), show (i : Int) + 1 = ((i + 1 : Nat) : Int) by omega]
    refine ⟨by omega, k_fill1 16 (by omega) ki.1 ki.2 (by decide) ⟨by omega, ki.1, by omega, fun M6 e6 => ?_⟩⟩
    refine ih (i + 1) M6 (by omega) (fun a g1 g2 => ?_) ?_ (fun f g hf hg => ?_)
    · rw [e6, q_up_o (by omega), z_fill_o (by omega)]; exact fr a g1 g2
    · rw [e6, q_up_o (by omega), z_fill_o (by omega)]; exact e8
    · rw [e6]
      by_cases c : f = i
      · subst c
        unfold z_t0
        by_cases c2 : g = f
        · subst c2; rw [q_up_s, if_pos rfl]
        · rw [q_up_n (by omega), z_fill_s (by omega), if_neg (fun x => c2 x.symm)]
      · rw [q_up_o (by omega), z_fill_o (by omega)]; exact q f g (by omega) hg
theorem k_ways {d : Nat} {M : q_Mem} {K : q_Mem → Prop} {fo : Nat → Int} {L F : Nat} (hd : 2 < d) (hL : L ≤ 16) (hF : F ≤ 16) (hc : M 91 0 = (F : Int)) (hfo : ∀ x : Nat, x < 32 → M 93 x = fo x) (hin : ∀ x, x < 2 * L → 0 ≤ fo x ∧ fo x < (F : Int)) (hw : ∀ l : Nat, l < L → -99 ≤ M 90 l ∧ M 90 l ≤ 99) (h : ∀ M', z_wf M M' → z_wv (M 90) fo L F M' → K M') : q_kU yX10_workOut mX10_workOut d [qR 98, qR 91, qI (L : Int), qR 90] M K :=
  q_goU hd rfl (plainFor_of_name (by decide +kernel)) rfl (fun h => nomatch h) (Nat.le_of_ble_eq_true rfl) (fun d hd => bX10_workOut_0 _ _ _ (by decide +kernel) (by decide +kernel) (fun M1 e1 x4 e4 => by
    have c1 : M1 91 0 = (F : Int) := by rw [e1, q_up_o (by decide)]; exact hc
    rw [c1] at e4
    subst e4
    have f1 : z_wf M M1 := fun a g1 g2 => by rw [e1, q_up_o g2]
    have w1 : M1 90 = M 90 := by rw [e1, q_up_o (by decide)]
    have p1 : M1 93 = M 93 := by rw [e1, q_up_o (by decide)]
    refine l_cw14 (M0 := M1) hd hF (fun M' fr' e8 q' => ?_) F 0 M1 (by omega) (fun _ _ _ => rfl) rfl (fun f g hf => by omega)
    have w2 : M' 90 = M 90 := (fr' 90 (by omega) (by decide)).trans w1
    have p2 : M' 93 = M 93 := (fr' 93 (by omega) (by decide)).trans p1
    refine l_cw53 (M0 := M') hd hL hF (by rw [p2]; exact hfo) hin (by rw [w2]; exact hw) (fun M2 fr2 v2 => h M2 (z_wf_tr (z_wf_tr f1 fr') fr2) (by rw [w2] at v2; exact v2)) L 0 M' (by omega) (fun _ _ _ => rfl) (by rw [e8, e1, q_up_s]) (fun i hi => by omega) q'))
