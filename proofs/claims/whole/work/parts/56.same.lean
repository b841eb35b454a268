-- rows with the same net: what is the same
def z_eqn (o o' : Int → Int) : Prop := ∀ j : Int, (j = 0 ∨ (51 ≤ j ∧ j < 102) ∨ (603 ≤ j ∧ j < 1504)) → o' j = o j
theorem z_eqn_rf {o : Int → Int} : z_eqn o o := fun _ _ => rfl
theorem z_eqn_tr {o o' o'' : Int → Int} (h : z_eqn o o') (h2 : z_eqn o' o'') : z_eqn o o'' := fun j g => (h2 j g).trans (h j g)
theorem z_eqn_sy {o o' : Int → Int} (h : z_eqn o o') : z_eqn o' o := fun j g => (h j g).symm
section EQN
variable {o o' : Int → Int}
theorem e_N (h : z_eqn o o') : z_N o' = z_N o := by unfold z_N; rw [h 51 (by omega)]
theorem e_L (h : z_eqn o o') : z_L o' = z_L o := by unfold z_L; rw [h 52 (by omega)]
theorem e_a (h : z_eqn o o') {l : Nat} (hl : l < 16) : z_a o' l = z_a o l := by unfold z_a; rw [h (53 + l) (by omega)]
theorem e_b (h : z_eqn o o') {l : Nat} (hl : l < 16) : z_b o' l = z_b o l := by unfold z_b; rw [h (69 + l) (by omega)]
theorem e_st (h : z_eqn o o') {n : Nat} (hn : n < 11) : z_st o' n = z_st o n := by unfold z_st; rw [h (85 + n) (by omega)]
theorem e_dg (h : z_eqn o o') {n : Nat} (hn : n < 10) : z_dg o' n = z_dg o n := by unfold z_dg; rw [e_st h (by omega), e_st h (by omega)]
theorem e_net (h : z_eqn o o') (hn : z_net o) : z_net o' := by
  obtain ⟨h1, h2, h3, h4, h5, h6⟩ := hn
  refine ⟨by rw [h 51 (by omega)]; exact h1, by rw [h 52 (by omega)]; exact h2, fun l hl => ?_, by rw [h 85 (by omega)]; exact h4, by rw [h 95 (by omega), h 52 (by omega)]; exact h5, fun n hn => ?_⟩
  · rw [h 52 (by omega)] at hl
    rw [h (53 + l) (by omega), h (69 + l) (by omega), h 51 (by omega)]
    exact h3 l hl
  · rw [h (85 + n) (by omega), h (86 + n) (by omega)]
    exact h6 n hn
theorem e_fd (h : z_eqn o o') {d : Nat} (hd : d < 32) : z_fd o' d = z_fd o d ∧ z_td o' d = z_td o d := by
  unfold z_fd z_td
  rw [e_a h (by omega), e_b h (by omega)]
  exact ⟨rfl, rfl⟩
theorem z_find_c {p q : Nat → Bool} : ∀ {k i : Nat}, (∀ m, i ≤ m → m < i + k → p m = q m) → z_find p k i = z_find q k i
  | 0, _, _ => rfl
  | k + 1, i, h => by
    unfold z_find
    rw [h i (by omega) (by omega), z_find_c (fun m a c => h m (by omega) (by omega))]
/-- the rings now are the same -/
def z_eqr (o o' : Int → Int) : Prop := ∀ j : Int, 19 ≤ j → j < 51 → o' j = o j
theorem e_ri (h : z_eqn o o') (hr : z_eqr o o') (hn : z_net o) {n i : Nat} (h9 : n < 10) (hi : i < 16) : z_ri o' 1 n i = z_ri o 1 n i := by
  have s1 := z_net_stL hn (n := n) (by omega)
  have hL := z_net_L16 hn
  unfold z_ri
  rw [e_st h (by omega)]
  by_cases c : (1 : Int) + 18 + (z_st o n : Int) + (i : Int) < 51
  · rw [hr _ (by omega) c]
  · rw [h _ (by omega)]
theorem e_nx (h : z_eqn o o') (hr : z_eqr o o') (hn : z_net o) (hg : z_ring o 1) {d : Nat} (hd : d < 2 * z_L o) : z_nx o' 1 d = z_nx o 1 d := by
  have hL := z_net_L16 hn
  have hN := z_net_N10 hn
  have t := z_td_lt hn hd
  have dg := z_net_dg hn (n := z_td o d) (by omega)
  have ep : z_ps o' 1 (z_td o d) (d / 2) = z_ps o 1 (z_td o d) (d / 2) := z_find_c (fun m _ hm => by show (z_ri o' 1 (z_td o d) m == d / 2) = _; rw [e_ri h hr hn (by omega) (by omega)])
  have pl := z_nx_pl hn hg hd
  have ok := z_nd_ok hn hg t pl
  unfold z_nx
  rw [(e_fd h (by omega)).2, ep, e_dg h (by omega)]
  unfold z_nd
  rw [e_ri h hr hn (by omega) (by omega)]
  have hl : z_ri o 1 (z_td o d) (if z_ps o 1 (z_td o d) (d / 2) + 1 < z_dg o (z_td o d) then z_ps o 1 (z_td o d) (d / 2) + 1 else 0) < 16 := by
    have := ((hg _ t).1 _ pl).2.1
    omega
  rw [e_a h hl]
theorem z_wk_c {nx nx' : Nat → Nat} {D : Nat} {f : Int} (h : ∀ d, d < D → nx d = nx' d) (hD : ∀ d, d < D → nx d < D) : ∀ {k : Nat} {fo : Nat → Int} {d : Nat}, d < D → z_wk nx f k fo d = z_wk nx' f k fo d
  | 0, _, _, _ => rfl
  | k + 1, fo, d, hd => by
    unfold z_wk
    rw [← h d hd, z_wk_c h hD (hD d hd)]
theorem z_fs_c {nx nx' : Nat → Nat} {D : Nat} (h : ∀ d, d < D → nx d = nx' d) (hD : ∀ d, d < D → nx d < D) : ∀ {d : Nat}, d ≤ D → z_fs nx d = z_fs nx' d
  | 0, _ => rfl
  | d + 1, hd => by
    show z_fstep nx (z_fs nx d) d = z_fstep nx' (z_fs nx' d) d
    rw [z_fs_c h hD (by omega)]
    unfold z_fstep
    rw [z_wk_c h hD (by omega)]
theorem e_fs (h : z_eqn o o') (hr : z_eqr o o') (hn : z_net o) (hg : z_ring o 1) : z_fs (z_nx o' 1) (2 * z_L o') = z_fs (z_nx o 1) (2 * z_L o) := by
  rw [e_L h]
  exact (z_fs_c (fun d hd => (e_nx h hr hn hg hd).symm) (fun d hd => z_nx_lt hn hg hd) (Nat.le_refl _)).symm
theorem e_fo (h : z_eqn o o') (hr : z_eqr o o') (hn : z_net o) (hg : z_ring o 1) : z_fo o' = z_fo o ∧ z_fm o' = z_fm o := by
  unfold z_fo z_fm
  rw [e_fs h hr hn hg]
  exact ⟨rfl, rfl⟩
theorem e_ptk (h : z_eqn o o') : ∀ {k : Nat}, k ≤ 16 → z_ptk o' k = z_ptk o k
  | 0, _ => rfl
  | k + 1, hk => by
    show z_mg (z_ptk o' k) (z_a o' k) (z_b o' k) = z_mg (z_ptk o k) (z_a o k) (z_b o k)
    rw [e_ptk h (by omega), e_a h (by omega), e_b h (by omega)]
theorem e_pt (h : z_eqn o o') (hn : z_net o) : z_pt o' = z_pt o ∧ z_pc o' = z_pc o := by
  have e1 : z_pt o' = z_pt o := by
    unfold z_pt
    rw [e_L h]
    exact e_ptk h (z_net_L16 hn)
  refine ⟨e1, ?_⟩
  unfold z_pc
  rw [e1, e_N h]
theorem e_tw (h : z_eqn o o') (hr : z_eqr o o') (hn : z_net o) (hg : z_ring o 1) : z_tw o' = z_tw o := by
  have e1 : z_al o' = z_al o := by
    unfold z_al
    rw [e_N h]
    exact z_cn_congr (fun k hk => by rw [e_dg h (by have := z_net_N10 hn; omega)])
  unfold z_tw
  rw [(e_pt h hn).2, (e_fo h hr hn hg).2, e1, h 51 (by omega), h 52 (by omega)]
theorem e_mt (h : z_eqn o o') (hn : z_net o) {fo : Nat → Int} {f : Int} {m : Nat} (q : z_mt o fo f m) : z_mt o' fo f m := by
  refine ⟨q.1, fun n => ?_⟩
  rw [q.2 n, e_L h]
  have hL := z_net_L16 hn
  constructor
  · rintro ⟨x, a, b, c⟩
    exact ⟨x, a, b, by rw [(e_fd h (by omega)).1]; exact c⟩
  · rintro ⟨x, a, b, c⟩
    exact ⟨x, a, b, by rw [(e_fd h (by omega)).1] at c; exact c⟩
theorem e_sh (h : z_eqn o o') (hr : z_eqr o o') (hn : z_net o) (hg : z_ring o 1) {M : q_Mem} (q : z_sh o M) : z_sh o' M := by
  obtain ⟨q1, q2, q3, q4, q5, q6⟩ := q
  refine ⟨fun e he => ?_, ?_, ?_, ?_, ?_, ?_⟩
  · rw [e_L h] at he
    rw [e_nx h hr hn hg he]; exact q1 e he
  · unfold z_fr4
    rw [e_fs h hr hn hg]; exact q2
  · rw [e_fs h hr hn hg]
    intro f hf
    obtain ⟨m, a, b⟩ := q3 f hf
    exact ⟨m, a, e_mt h hn b⟩
  · rw [(e_pt h hn).1, e_N h]; exact q4
  · rw [(e_pt h hn).2]; exact q5
  · rw [e_tw h hr hn hg]; exact q6
/-- laws -/
theorem e_code (h : z_eqn o o') {law : Nat} (hl : law < 2) (ho : 0 ≤ o (98 + law) ∧ 0 ≤ o (100 + law) ∧ o (98 + law) + o (100 + law) ≤ 900) : z_code o' law = z_code o law := by
  unfold z_code
  rw [h (100 + law) (by omega), h (98 + law) (by omega)]
  refine List.map_congr_left (fun k hk => ?_)
  have := List.mem_range.mp hk
  exact h _ (by omega)
theorem e_lawok (h : z_eqn o o') {law : Nat} (hl : law < 2) (ho : z_lawok o law) : z_lawok o' law := by
  unfold z_lawok
  rw [e_code h hl ho.1, h (100 + law) (by omega), h (98 + law) (by omega)]
  exact ho
theorem e_laws (h : z_eqn o o') (hl : z_laws o) : z_laws o' := by
  refine ⟨fun g => e_lawok h (by decide) (hl.1 ?_), fun g => e_lawok h (by decide) (hl.2 ?_)⟩
  · rw [h 96 (by omega)] at g; exact g
  · rw [h 97 (by omega)] at g; exact g
theorem e_lw (h : z_eqn o o') {law : Nat} (h2 : law < 2) (hl : o (96 + law) = 1 → z_lawok o law) {M : q_Mem} {x : Int} (q : z_lw M x o law) : z_lw M x o' law := by
  unfold z_lw at *
  rw [h (96 + law) (by omega), h (100 + law) (by omega)]
  rcases q with ⟨a, b, c⟩ | ⟨a, b⟩
  · rw [e_code h h2 (hl a).1]
    exact Or.inl ⟨a, b, c⟩
  · exact Or.inr ⟨a, b⟩
theorem e_pl (h : z_eqn o o') (hn : z_net o) (hl : z_laws o) {M : q_Mem} {p : Int} (q : z_pl M p o) : z_pl M p o' := by
  have hL := z_net_L16 hn
  have hN := z_net_N10 hn
  obtain ⟨q1, q2, q3, q4, q5, q6, q7, q8⟩ := q
  refine ⟨q1, by rw [h 51 (by omega)]; exact q2, by rw [h 52 (by omega)]; exact q3, by rw [h 0 (by omega)]; exact q4, fun l hl2 => ?_, fun n hn2 => ?_, e_lw (law := 0) h (by decide) hl.1 q7, e_lw (law := 1) h (by decide) hl.2 q8⟩
  · rw [e_L h] at hl2
    rw [h (53 + l) (by omega), h (69 + l) (by omega)]; exact q5 l hl2
  · rw [e_N h] at hn2
    rw [e_dg h (by omega)]; exact q6 n hn2
/-- weights, if warmth and what links gain are the same -/
def z_eqw (o o' : Int → Int) : Prop := o' 1 = o 1 ∧ ∀ l : Nat, l < 16 → o' (3 + l) = o (3 + l)
theorem e_wo (h : z_eqn o o') {l : Nat} (hw : o' (3 + (l : Int)) = o (3 + (l : Int))) (hl : l < 16) {t : Int} : z_wo o' l t = z_wo o l t := by
  funext i
  unfold z_wo
  rw [hw, h (53 + l) (by omega), h (69 + l) (by omega)]
theorem e_wt (h : z_eqn o o') (hlw : z_laws o) {l : Nat} (hl : l < 16) (hw : o' (3 + l) = o (3 + l)) {t : Int} : z_wt o' l t = z_wt o l t := by
  have ev : ∀ law, law < 2 → z_lawok o law → z_ev o' (z_wo o' l t) law = z_ev o (z_wo o l t) law := fun law h2 q => by
    unfold z_ev
    rw [e_code h h2 q.1, e_wo h hw hl]
  have h97 := h 97 (by omega)
  have h96 := h 96 (by omega)
  unfold z_wt
  rw [h97, h96, hw]
  have e1 : (o 97 = 1 ∧ z_ev o' (z_wo o' l t) 1 = 0) ↔ (o 97 = 1 ∧ z_ev o (z_wo o l t) 1 = 0) := by
    constructor
    · rintro ⟨a, b⟩; exact ⟨a, by rw [← ev 1 (by decide) (hlw.2 a)]; exact b⟩
    · rintro ⟨a, b⟩; exact ⟨a, by rw [ev 1 (by decide) (hlw.2 a)]; exact b⟩
  by_cases c : o 97 = 1 ∧ z_ev o (z_wo o l t) 1 = 0
  · rw [if_pos c, if_pos (e1.mpr c)]
  · rw [if_neg c, if_neg (fun g => c (e1.mp g))]
    by_cases c2 : o 96 = 1
    · rw [if_pos c2, if_pos c2, ev 0 (by decide) (hlw.1 c2)]
    · rw [if_neg c2, if_neg c2]
theorem e_wr (h : z_eqn o o') (hlw : z_laws o) (hw : z_eqw o o') {l : Nat} (hl : l < 16) : z_wr o' l = z_wr o l := by
  rw [z_wr_n, z_wr_n, hw.1, e_wt h hlw hl (hw.2 l hl)]
theorem e_cut (h : z_eqn o o') {s l : Nat} (hl : l < 16) : z_cut o' s l = z_cut o s l := by
  unfold z_cut
  rw [e_a h hl, e_b h hl]
theorem e_V2 (h : z_eqn o o') (hn : z_net o) (hlw : z_laws o) (hw : z_eqw o o') : z_V2 o' = z_V2 o := by
  funext s
  unfold z_V2 z_worth
  rw [e_L h]
  have hL := z_net_L16 hn
  exact z_sum_congr (fun l hl => by rw [e_cut h (by omega), e_wr h hlw hw (by omega)])
theorem e_CT (h : z_eqn o o') (hn : z_net o) (hlw : z_laws o) (hw : z_eqw o o') {M : q_Mem} (q : z_CT o M) : z_CT o' M := by
  unfold z_CT at *
  rw [e_N h, e_V2 h hn hlw hw]
  exact q
theorem e_gd (h : z_eqn o o') (hn : z_net o) (hlw : z_laws o) (hw : z_eqw o o') {sg : Int} : z_gd (z_wr o') sg (z_L o') = z_gd (z_wr o) sg (z_L o) := by
  have hL := z_net_L16 hn
  rw [e_L h]
  exact z_set_congr (fun l hl => by rw [e_wr h hlw hw (by omega)])
theorem e_PF (h : z_eqn o o') (hE : z_E o) (hw : z_eqw o o') (hr : z_eqr o o') {sg : Int} {p' : Nat → Int} {jn : Nat} (q : z_PF o sg p' jn) : z_PF o' sg p' jn := by
  have hL := z_net_L16 hE.1
  have hg := hE.2.2.2.2.2
  have ef := e_fo h hr hE.1 hg
  have e1 : z_op1 o' sg = z_op1 o sg := by
    unfold z_op1
    rw [ef.1, ef.2, e_gd h hE.1 hE.2.1 hw, e_L h]
  obtain ⟨m, q⟩ := q
  refine ⟨m, ?_⟩
  rw [e1, ef.1, e_L h]
  exact z_fin_c (fun l hl => by unfold z_aw; rw [e_wr h hE.2.1 hw (by omega)]) q
theorem e_hv (h : z_eqn o o') (hE : z_E o) {M : q_Mem} {k : Nat} (hr : (k = 0 ∨ 3 ≤ k) → z_eqr o o') (hw : k ≠ 0 → z_eqw o o') (q : z_hv o M k) : z_hv o' M k := by
  have hL := z_net_L16 hE.1
  have hg := hE.2.2.2.2.2
  unfold z_hv at *
  refine match k, hr, hw, q with
  | 0, hr, hw, q => ?_
  | 1, hr, hw, q => ?_
  | 2, hr, hw, q => ?_
  | 3, hr, hw, q => ?_
  | 4, hr, hw, q => ?_
  | k + 5, hr, hw, q => ?_
  · exact e_sh h (hr (by omega)) hE.1 hg q
  · intro l hl
    rw [e_L h] at hl
    rw [e_wr h hE.2.1 (hw (by omega)) (by omega)]; exact q l hl
  · exact e_CT h hE.1 hE.2.1 (hw (by omega)) q
  · obtain ⟨w, a, b⟩ := q
    have ef := e_fo h (hr (by omega)) hE.1 hg
    refine ⟨w, fun l hl => ?_, ?_⟩
    · rw [e_L h] at hl
      rw [e_wr h hE.2.1 (hw (by omega)) (by omega)]; exact a l hl
    · rw [ef.1, ef.2, e_L h]; exact b
  · obtain ⟨p', jn, a, b, c, d⟩ := q
    exact ⟨p', jn, a, b, c, e_PF h hE (hw (by omega)) (hr (by omega)) d⟩
  · obtain ⟨p', jn, a, b, c, d⟩ := q
    exact ⟨p', jn, a, b, c, e_PF h hE (hw (by omega)) (hr (by omega)) d⟩
/-- rings in a record are right, and the same -/
theorem e_ring {b b' : Int} (h : z_eqn o o') (hn : z_net o) (e : ∀ j : Int, 0 ≤ j → j < 32 → o' (b' + 18 + j) = o (b + 18 + j)) (q : z_ring o b) : z_ring o' b' := by
  have hL := z_net_L16 hn
  have hN := z_net_N10 hn
  intro n hn2
  rw [e_N h] at hn2
  have dg := z_net_dg hn (n := n) (by omega)
  have sL := z_net_stL hn (n := n + 1) (by omega)
  have key : ∀ i, i < z_dg o n → o' (b' + 18 + (z_st o n : Int) + (i : Int)) = o (b + 18 + (z_st o n : Int) + (i : Int)) := fun i hi => by
    have := e ((z_st o n : Int) + (i : Int)) (by omega) (by omega)
    rw [show b' + 18 + (z_st o n : Int) + (i : Int) = b' + 18 + ((z_st o n : Int) + (i : Int)) by omega, this]
    congr 1
    omega
  have kri : ∀ i, i < z_dg o n → z_ri o' b' n i = z_ri o b n i := fun i hi => by
    unfold z_ri
    rw [e_st h (by omega), key i hi]
  obtain ⟨q1, q2, q3⟩ := q n hn2
  rw [e_dg h (by omega)]
  refine ⟨fun i hi => ?_, fun i j hi hj g => q2 i j hi hj (by rw [← kri i hi, ← kri j hj]; exact g), fun l hl g => ?_⟩
  · have := q1 i hi
    rw [kri i hi, e_L h, e_st h (by omega), key i hi, e_a h (by omega), e_b h (by omega)]
    exact this
  · rw [e_L h] at hl
    rw [e_a h (by omega), e_b h (by omega)] at g
    obtain ⟨i, a, c⟩ := q3 l hl g
    exact ⟨i, a, by rw [kri i a]; exact c⟩
/-- a standing in a record, held by a row of the class -/
theorem e_sd {b b' : Int} (h : z_eqn o o') (hn : z_net o) (e : ∀ j : Int, 0 ≤ j → j < 50 → o' (b' + j) = o (b + j)) {M : q_Mem} {a : Int} (q : z_sd M a o b) : z_sd M a o' b' := by
  have hL := z_net_L16 hn
  have hN := z_net_N10 hn
  obtain ⟨q1, q2, q3, q4⟩ := q
  refine ⟨?_, ?_, fun l hl => ?_, fun n hn2 i hi => ?_⟩
  · have := e 0 (by omega) (by omega)
    simp only [Int.add_zero] at this
    rw [this]; exact q1
  · rw [e 1 (by omega) (by omega)]; exact q2
  · rw [e_L h] at hl
    have := e (2 + (l : Int)) (by omega) (by omega)
    rw [q3 l hl, show b + 2 + (l : Int) = b + (2 + (l : Int)) by omega, show b' + 2 + (l : Int) = b' + (2 + (l : Int)) by omega, this]
  · rw [e_N h] at hn2
    rw [e_dg h (by omega)] at hi
    have dg := z_net_dg hn (n := n) (by omega)
    have sL := z_net_stL hn (n := n + 1) (by omega)
    rw [q4 n hn2 i hi, e_st h (by omega)]
    have := e (18 + (z_st o n : Int) + (i : Int)) (by omega) (by omega)
    rw [show b' + 18 + (z_st o n : Int) + (i : Int) = b' + (18 + (z_st o n : Int) + (i : Int)) by omega, this]
    congr 1
    omega
end EQN
