-- rings, darts, the next of a dart: the reference
def z_fd (o : Int → Int) (d : Nat) : Nat := if d % 2 = 0 then z_a o (d / 2) else z_b o (d / 2)
def z_td (o : Int → Int) (d : Nat) : Nat := if d % 2 = 0 then z_b o (d / 2) else z_a o (d / 2)
def z_bk (d : Nat) : Nat := if d % 2 = 0 then d + 1 else d - 1
theorem z_bk_fd {o : Int → Int} {d : Nat} : z_fd o (z_bk d) = z_td o d := by
  unfold z_fd z_td z_bk
  by_cases h : d % 2 = 0
  · rw [if_pos h, if_pos h, if_neg (by omega), show (d + 1) / 2 = d / 2 by omega]
  · rw [if_neg h, if_neg h, if_pos (by omega), show (d - 1) / 2 = d / 2 by omega]
theorem z_bk_lt {d n : Nat} (h : d < 2 * n) : z_bk d < 2 * n := by unfold z_bk; split <;> omega
theorem z_fd_lt {o : Int → Int} {d : Nat} (hn : z_net o) (h : d < 2 * z_L o) : z_fd o d < z_N o := by
  have h1 := z_net_a hn (l := d / 2) (by omega)
  have h2 := z_net_b hn (l := d / 2) (by omega)
  unfold z_fd; split <;> omega
theorem z_td_lt {o : Int → Int} {d : Nat} (hn : z_net o) (h : d < 2 * z_L o) : z_td o d < z_N o := by
  have h1 := z_net_a hn (l := d / 2) (by omega)
  have h2 := z_net_b hn (l := d / 2) (by omega)
  unfold z_td; split <;> omega
theorem z_fd_ne {o : Int → Int} {d : Nat} (hn : z_net o) (h : d < 2 * z_L o) : z_fd o d ≠ z_td o d := by
  have h1 := z_net_ne hn (l := d / 2) (by omega)
  unfold z_fd z_td; split <;> omega
theorem z_xor1 : ∀ d : Nat, d < 32 → q_xor (d : Int) 1 = (z_bk d : Int) := by decide +kernel
theorem k_backOf {d : Nat} {M : q_Mem} {K : Int → q_Mem → Prop} {e : Nat} (hd : 0 < d) (he : e < 32) (h : K (z_bk e : Int) M) : q_kI yX12_backOf mX12_backOf d [qI (e : Int)] M K :=
  q_goI hd rfl (plainFor_of_name (by decide +kernel)) rfl (fun h => nomatch h) (Nat.le_of_ble_eq_true rfl) (fun d hd => bX12_backOf_0 _ (by rw [z_xor1 e he]; exact h))
theorem z_dv2 {e : Nat} (h : e < 1000) : q_div (e : Int) 2 = ((e / 2 : Nat) : Int) := by
  rw [q_div_nn (by unfold q_in32; omega) (q_l32 _ rfl) (by omega)]; omega
theorem z_rm2 {e : Nat} (h : e < 1000) : q_rem (e : Int) 2 = ((e % 2 : Nat) : Int) := by
  rw [q_rem_nn (by unfold q_in32; omega) (q_l32 _ rfl) (by omega) (by omega)]; omega
theorem k_fromOf {d : Nat} {M : q_Mem} {K : Int → q_Mem → Prop} {e : Nat} (hd : 0 < d) (hn : z_net (M 179)) (he : e < 2 * z_L (M 179)) (h : K (z_fd (M 179) e : Int) M) : q_kI yX12_fromOf mX12_fromOf d [qR 178, qI (e : Int)] M K := by
  have h1 := z_net_a hn (l := e / 2) (by omega)
  have h2 := z_net_b hn (l := e / 2) (by omega)
  have h3 := z_net_L16 hn
  refine q_goI hd rfl (plainFor_of_name (by decide +kernel)) rfl (fun h => nomatch h) (Nat.le_of_ble_eq_true rfl) (fun d hd => bX12_fromOf_0 _ ?_)
  rw [z_rm2 (by omega), z_dv2 (by omega), q_add_eq (a := 69) (by omega), q_add_eq (a := 53) (by omega), h1.1, h2.1]
  unfold z_fd at h
  exact ⟨fun g => ⟨by omega, by rw [if_neg (by omega)] at h; exact h⟩, fun g => ⟨by omega, by rw [if_pos (by omega)] at h; exact h⟩⟩
/-- the link at place i round node n, in the standing that begins at b -/
def z_ri (o : Int → Int) (b : Int) (n i : Nat) : Nat := (o (b + 18 + (z_st o n : Int) + (i : Int))).toNat
def z_ring (o : Int → Int) (b : Int) : Prop := ∀ n, n < z_N o →
  (∀ i, i < z_dg o n → 0 ≤ o (b + 18 + (z_st o n : Int) + (i : Int)) ∧ z_ri o b n i < z_L o ∧ (z_a o (z_ri o b n i) = n ∨ z_b o (z_ri o b n i) = n)) ∧
  (∀ i j, i < z_dg o n → j < z_dg o n → z_ri o b n i = z_ri o b n j → i = j) ∧
  (∀ l, l < z_L o → z_a o l = n ∨ z_b o l = n → ∃ i, i < z_dg o n ∧ z_ri o b n i = l)
theorem z_ring_v {o : Int → Int} {b : Int} (h : z_ring o b) {n i : Nat} (hn : n < z_N o) (hi : i < z_dg o n) : o (b + 18 + (z_st o n : Int) + (i : Int)) = (z_ri o b n i : Int) := by
  have := ((h n hn).1 i hi).1
  unfold z_ri; omega
/-- the first place from i on where p holds, of k places -/
def z_find (p : Nat → Bool) : Nat → Nat → Nat
  | 0, i => i
  | k + 1, i => if p i then i else z_find p k (i + 1)
theorem z_find_eq {p : Nat → Bool} : ∀ {k i j : Nat}, i ≤ j → j < i + k → p j = true → (∀ m, i ≤ m → m < j → p m = false) → z_find p k i = j
  | 0, i, j, h1, h2, _, _ => by omega
  | k + 1, i, j, h1, h2, h3, h4 => by
    unfold z_find
    by_cases e : i = j
    · subst e; rw [h3]; rfl
    · rw [h4 i (by omega) (by omega)]
      exact z_find_eq (by omega) (by omega) h3 (fun m a c => h4 m (by omega) c)
def z_ps (o : Int → Int) (b : Int) (n l : Nat) : Nat := z_find (fun i => z_ri o b n i == l) 16 0
theorem z_ps_eq {o : Int → Int} {b : Int} (hk : z_net o) (h : z_ring o b) {n i : Nat} (hn : n < z_N o) (hi : i < z_dg o n) : z_ps o b n (z_ri o b n i) = i := by
  have hd := z_net_dg hk (n := n) (by have := z_net_N10 hk; omega)
  refine z_find_eq (by omega) (by omega) (by simp) (fun m _ hm => ?_)
  simp only [beq_eq_false_iff_ne, ne_eq]
  intro e
  have := (h n hn).2.1 m i (by omega) hi e
  omega
theorem z_ps_ok {o : Int → Int} {b : Int} (hk : z_net o) (h : z_ring o b) {n l : Nat} (hn : n < z_N o) (hl : l < z_L o) (hln : z_a o l = n ∨ z_b o l = n) : z_ps o b n l < z_dg o n ∧ z_ri o b n (z_ps o b n l) = l := by
  obtain ⟨i, hi, e⟩ := (h n hn).2.2 l hl hln
  have := z_ps_eq hk h hn hi
  rw [e] at this
  rw [this]
  exact ⟨hi, e⟩
/-- the dart from a node along the link at a place; the next of a dart -/
def z_nd (o : Int → Int) (b : Int) (n i : Nat) : Nat := if z_a o (z_ri o b n i) = n then 2 * z_ri o b n i else 2 * z_ri o b n i + 1
def z_nx (o : Int → Int) (b : Int) (d : Nat) : Nat := z_nd o b (z_td o d) (if z_ps o b (z_td o d) (d / 2) + 1 < z_dg o (z_td o d) then z_ps o b (z_td o d) (d / 2) + 1 else 0)
theorem z_td_in {o : Int → Int} {d : Nat} : z_a o (d / 2) = z_td o d ∨ z_b o (d / 2) = z_td o d := by
  unfold z_td; split
  · exact Or.inr rfl
  · exact Or.inl rfl
theorem z_nx_pl {o : Int → Int} {b : Int} (hk : z_net o) (h : z_ring o b) {d : Nat} (hd : d < 2 * z_L o) : (if z_ps o b (z_td o d) (d / 2) + 1 < z_dg o (z_td o d) then z_ps o b (z_td o d) (d / 2) + 1 else 0) < z_dg o (z_td o d) := by
  have := (z_ps_ok hk h (z_td_lt hk hd) (l := d / 2) (by omega) z_td_in).1
  split <;> omega
theorem z_nd_ok {o : Int → Int} {b : Int} (hk : z_net o) (h : z_ring o b) {n i : Nat} (hn : n < z_N o) (hi : i < z_dg o n) : z_nd o b n i < 2 * z_L o ∧ z_fd o (z_nd o b n i) = n ∧ z_nd o b n i / 2 = z_ri o b n i := by
  have h1 := (h n hn).1 i hi
  unfold z_nd
  split
  · rename_i g
    refine ⟨by omega, ?_, by omega⟩
    unfold z_fd
    rw [if_pos (by omega), show 2 * z_ri o b n i / 2 = z_ri o b n i by omega]
    exact g
  · rename_i g
    refine ⟨by omega, ?_, by omega⟩
    unfold z_fd
    rw [if_neg (by omega), show (2 * z_ri o b n i + 1) / 2 = z_ri o b n i by omega]
    exact h1.2.2.resolve_left g
theorem z_nx_lt {o : Int → Int} {b : Int} (hk : z_net o) (h : z_ring o b) {d : Nat} (hd : d < 2 * z_L o) : z_nx o b d < 2 * z_L o := (z_nd_ok hk h (z_td_lt hk hd) (z_nx_pl hk h hd)).1
theorem z_nx_ne {o : Int → Int} {b : Int} (hk : z_net o) (h : z_ring o b) {d : Nat} (hd : d < 2 * z_L o) : z_nx o b d ≠ d := by
  intro e
  have h1 := (z_nd_ok hk h (z_td_lt hk hd) (z_nx_pl hk h hd)).2.1
  have h2 := z_fd_ne hk hd
  unfold z_nx at e
  rw [e] at h1
  exact h2 h1
theorem z_dart_eq {o : Int → Int} {d e : Nat} (h1 : d / 2 = e / 2) (h2 : z_td o d = z_td o e) (hk : z_net o) (hd : d < 2 * z_L o) : d = e := by
  have := z_net_ne hk (l := d / 2) (by omega)
  unfold z_td at h2
  rw [← h1] at h2
  by_cases p : d % 2 = 0 <;> by_cases q : e % 2 = 0
  · omega
  · rw [if_pos p, if_neg q] at h2; exact absurd h2.symm this
  · rw [if_neg p, if_pos q] at h2; exact absurd h2 this
  · omega
theorem z_nx_inj {o : Int → Int} {b : Int} (hk : z_net o) (h : z_ring o b) {d e : Nat} (hd : d < 2 * z_L o) (he : e < 2 * z_L o) (q : z_nx o b d = z_nx o b e) : d = e := by
  have d1 := z_nd_ok hk h (z_td_lt hk hd) (z_nx_pl hk h hd)
  have e1 := z_nd_ok hk h (z_td_lt hk he) (z_nx_pl hk h he)
  have pd := z_ps_ok hk h (z_td_lt hk hd) (l := d / 2) (by omega) z_td_in
  have pe := z_ps_ok hk h (z_td_lt hk he) (l := e / 2) (by omega) z_td_in
  have pld := z_nx_pl hk h hd
  have ple := z_nx_pl hk h he
  unfold z_nx at q
  have t : z_td o d = z_td o e := by rw [← d1.2.1, ← e1.2.1, q]
  rw [← t] at q e1 pe ple
  have r : z_ri o b (z_td o d) _ = z_ri o b (z_td o d) _ := d1.2.2.symm.trans ((congrArg (· / 2) q).trans e1.2.2)
  have i := (h _ (z_td_lt hk hd)).2.1 _ _ pld ple r
  have ps : z_ps o b (z_td o d) (d / 2) = z_ps o b (z_td o d) (e / 2) := by
    split at i <;> split at i <;> omega
  have l : d / 2 = e / 2 := by rw [← pd.2, ← pe.2, ps]
  exact z_dart_eq l t hk hd
theorem l_nextOf {d : Nat} {M : q_Mem} {K : Int → q_Mem → Prop} (hd : 1 ≤ d) (hn : z_net (M 179)) (hr : z_ring (M 179) 1) {e : Nat} (he : e < 2 * z_L (M 179)) (h : K (z_nx (M 179) 1 e : Int) M) :
    ∀ (j i : Nat), i + j = z_ps (M 179) 1 (z_td (M 179) e) (e / 2) → q_v mX12_nextOf d (qPI K) M 11 [some (qR 178), some (qI (e : Int)), some (qI (z_td (M 179) e : Int)), some (qI (i : Int)), none] [] := by
  have hL := z_net_L16 hn
  have hN := z_net_N10 hn
  have ht := z_td_lt hn he
  have st := z_net_st hn (n := z_td (M 179) e) (by omega)
  have sl := z_net_stL hn (n := z_td (M 179) e) (by omega)
  have dg := z_net_dg hn (n := z_td (M 179) e) (by omega)
  have ps := z_ps_ok hn hr ht (l := e / 2) (by omega) z_td_in
  have rv : ∀ i, i < z_dg (M 179) (z_td (M 179) e) → M 179 (19 + (z_st (M 179) (z_td (M 179) e) : Int) + (i : Int)) = (z_ri (M 179) 1 (z_td (M 179) e) i : Int) := fun i hi => z_ring_v hr ht hi
  intro j
  induction j with
  | zero =>
    intro i ei
    have ei : i = z_ps (M 179) 1 (z_td (M 179) e) (e / 2) := by omega
    have pl := z_nx_pl hn hr he
    have nd := z_nd_ok hn hr ht pl
    refine bX12_nextOf_11 _ _ _ ?_
    rw [z_dv2 (by omega), q_add_eq (a := 85) (by omega), st, q_add_eq (a := 19) (by omega), q_add_eq (b := (i : Int)) (by omega), rv i (by omega)]
    refine ⟨by omega, by omega, fun _ => ⟨by omega, k_degreeOf (by omega) hn (by omega) ⟨by omega, ?_⟩⟩, fun g => absurd (by rw [ei, ps.2]) g⟩
    rw [q_add_eq (a := (i : Int)) (by omega), q_rem_nn (by unfold q_in32; omega) (by unfold q_in32; omega) (by omega) (by omega)]
    have em : ((i : Int) + 1) % (z_dg (M 179) (z_td (M 179) e) : Int) = ((if z_ps (M 179) 1 (z_td (M 179) e) (e / 2) + 1 < z_dg (M 179) (z_td (M 179) e) then z_ps (M 179) 1 (z_td (M 179) e) (e / 2) + 1 else 0 : Nat) : Int) := by
      split
      · rw [Int.emod_eq_of_lt (by omega) (by omega)]; omega
      · rw [show ((i : Int) + 1) = (z_dg (M 179) (z_td (M 179) e) : Int) by omega, Int.emod_self]; rfl
    have en : z_nx (M 179) 1 e = z_nd (M 179) 1 (z_td (M 179) e) (if z_ps (M 179) 1 (z_td (M 179) e) (e / 2) + 1 < z_dg (M 179) (z_td (M 179) e) then z_ps (M 179) 1 (z_td (M 179) e) (e / 2) + 1 else 0) := rfl
    rw [em]
    rw [en] at h
    generalize (if z_ps (M 179) 1 (z_td (M 179) e) (e / 2) + 1 < z_dg (M 179) (z_td (M 179) e) then z_ps (M 179) 1 (z_td (M 179) e) (e / 2) + 1 else 0) = k at pl nd h
    rw [q_add_eq (b := (k : Int)) (by omega), rv k pl]
    have rl := (hr _ ht).1 k pl
    refine ⟨by omega, fun x ex => ?_⟩
    rw [ex, q_mul_eq (by omega), show (2 : Int) * (z_ri (M 179) 1 (z_td (M 179) e) k : Int) = ((2 * z_ri (M 179) 1 (z_td (M 179) e) k : Nat) : Int) by omega]
    refine k_fromOf (by omega) hn (by omega) ?_
    have fa : z_fd (M 179) (2 * z_ri (M 179) 1 (z_td (M 179) e) k) = z_a (M 179) (z_ri (M 179) 1 (z_td (M 179) e) k) := by
      unfold z_fd
      rw [if_pos (by omega), show 2 * z_ri (M 179) 1 (z_td (M 179) e) k / 2 = z_ri (M 179) 1 (z_td (M 179) e) k by omega]
    rw [fa, q_add_eq (by omega)]
    unfold z_nd at h
    refine ⟨fun g => ?_, fun g => ?_⟩
    · rw [if_neg (by omega)] at h; exact h
    · rw [if_pos (by omega)] at h; exact h
  | succ j ih =>
    intro i ei
    refine bX12_nextOf_11 _ _ _ ?_
    rw [z_dv2 (by omega), q_add_eq (a := 85) (by omega), st, q_add_eq (a := 19) (by omega), q_add_eq (b := (i : Int)) (by omega), rv i (by omega), q_add_eq (a := (i : Int)) (by omega)]
    refine ⟨by omega, by omega, fun g => ?_, fun _ => ih (i + 1) (by omega)⟩
    have := (hr _ ht).2.1 i _ (by omega) ps.1 (by rw [ps.2]; omega)
    omega
theorem k_nextOf {d : Nat} {M : q_Mem} {K : Int → q_Mem → Prop} {e : Nat} (hd : 1 < d) (hn : z_net (M 179)) (hr : z_ring (M 179) 1) (he : e < 2 * z_L (M 179)) (h : K (z_nx (M 179) 1 e : Int) M) : q_kI yX12_nextOf mX12_nextOf d [qR 178, qI (e : Int)] M K :=
  q_goI hd rfl (plainFor_of_name (by decide +kernel)) rfl (fun h => nomatch h) (Nat.le_of_ble_eq_true rfl) (fun d hd => bX12_nextOf_0 _ (by
    have hL := z_net_L16 hn
    refine k_backOf (by omega) (by omega) (k_fromOf (by omega) hn (z_bk_lt he) ?_)
    rw [z_bk_fd]
    exact l_nextOf hd hn hr he h _ 0 (Nat.zero_add _)))
