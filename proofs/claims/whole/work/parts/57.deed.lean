-- deeds as numbers; the reference's
def z_put (o : Int → Int) (k v : Int) : Int → Int := fun j => if j = k then v else o j
theorem z_put_s {o : Int → Int} {k v : Int} : z_put o k v k = v := if_pos rfl
theorem z_put_n {o : Int → Int} {k v j : Int} (h : j ≠ k) : z_put o k v j = o j := if_neg h
theorem z_upP {M : q_Mem} {a k v : Int} : q_up M a k v a = z_put (M a) k v := by
  funext j
  unfold q_up z_put
  simp
def z_flp (o : Int → Int) (n : Nat) : Int → Int := z_put o 2 ((z_s o ^^^ 2 ^ n : Nat) : Int)
def z_wm (o : Int → Int) (h : Int) : Int → Int := z_put o 1 h
def z_wg (o : Int → Int) (l : Nat) (g : Int) : Int → Int := z_put o (3 + l) g
def z_tn (o : Int → Int) (n i : Nat) : Int → Int := fun j => if j = 19 + (z_st o n : Int) + i then o (j + 1) else if j = 20 + (z_st o n : Int) + i then o (j - 1) else o j
/-- a standing that is right -/
def z_ok (o : Int → Int) (b : Int) : Prop := (0 ≤ o b ∧ o b ≤ 9) ∧ (0 ≤ o (b + 1) ∧ o (b + 1) < ((2 ^ z_N o : Nat) : Int)) ∧ (∀ l : Nat, l < z_L o → -99 ≤ o (b + 2 + l) ∧ o (b + 2 + l) ≤ 99) ∧ z_ring o b
theorem z_E_of {o : Int → Int} (hn : z_net o) (hl : z_laws o) (h : z_ok o 1) : z_E o := ⟨hn, hl, fun l g => h.2.2.1 l g, h.1, h.2.1, h.2.2.2⟩
theorem z_ok_of {o : Int → Int} (h : z_E o) : z_ok o 1 := ⟨h.2.2.2.1, h.2.2.2.2.1, fun l g => h.2.2.1 l g, h.2.2.2.2.2⟩
theorem e_ok {o o' : Int → Int} {b b' : Int} (h : z_eqn o o') (hn : z_net o) (e : ∀ j : Int, 0 ≤ j → j < 50 → o' (b' + j) = o (b + j)) (q : z_ok o b) : z_ok o' b' := by
  have hL := z_net_L16 hn
  obtain ⟨q1, q2, q3, q4⟩ := q
  have e0 := e 0 (by omega) (by omega)
  simp only [Int.add_zero] at e0
  refine ⟨by rw [e0]; exact q1, by rw [e 1 (by omega) (by omega), e_N h]; exact q2, fun l hl => ?_, e_ring h hn (fun j a c => ?_) q4⟩
  · rw [e_L h] at hl
    have := e (2 + (l : Int)) (by omega) (by omega)
    rw [show b' + 2 + (l : Int) = b' + (2 + (l : Int)) by omega, this, show b + (2 + (l : Int)) = b + 2 + (l : Int) by omega]
    exact q3 l hl
  · have := e (18 + j) (by omega) (by omega)
    rw [show b' + 18 + j = b' + (18 + j) by omega, this]
    congr 1 <;> omega
/-- only the standing has changed -/
def z_ost (o o' : Int → Int) : Prop := ∀ j : Int, ¬ (1 ≤ j ∧ j < 51) → o' j = o j
theorem z_ost_n {o o' : Int → Int} (h : z_ost o o') : z_eqn o o' := fun j g => h j (by omega)
theorem z_ost_rf {o : Int → Int} : z_ost o o := fun _ _ => rfl
theorem z_ost_tr {o o' o'' : Int → Int} (h : z_ost o o') (h2 : z_ost o' o'') : z_ost o o'' := fun j g => (h2 j g).trans (h j g)
theorem z_ost_put {o : Int → Int} {k v : Int} (h : 1 ≤ k ∧ k < 51) : z_ost o (z_put o k v) := fun j g => z_put_n (by omega)
theorem z_ost_tn {o : Int → Int} {n i : Nat} (h : z_st o n + i < 31) : z_ost o (z_tn o n i) := fun j g => by
  unfold z_tn
  rw [if_neg (by omega), if_neg (by omega)]
theorem z_s_put {o : Int → Int} {s : Nat} : z_s (z_put o 2 (s : Int)) = s := by
  unfold z_s
  rw [z_put_s, Int.toNat_natCast]
theorem z_E_put2 {o : Int → Int} (hE : z_E o) {s : Nat} (hs : s < 2 ^ z_N o) : z_E (z_put o 2 (s : Int)) := by
  have so := z_ost_put (o := o) (k := 2) (v := (s : Int)) (by omega)
  have en := z_ost_n so
  refine ⟨e_net en hE.1, e_laws en hE.2.1, fun l hl => ?_, ?_, ?_, ?_⟩
  · rw [e_L en] at hl
    rw [z_put_n (by omega)]; exact hE.2.2.1 l hl
  · rw [z_put_n (by omega)]; exact hE.2.2.2.1
  · rw [z_put_s, e_N en]; omega
  · exact e_ring en hE.1 (fun j _ _ => z_put_n (by omega)) hE.2.2.2.2.2
theorem z_E_fl {o : Int → Int} (hE : z_E o) {n : Nat} (hn : n < z_N o) : z_E (z_flp o n) := z_E_put2 hE (z_flip_lt (z_E_s hE).2.1 hn)
theorem z_E_wm {o : Int → Int} (hE : z_E o) {t : Int} (ht : 0 ≤ t ∧ t ≤ 9) : z_E (z_wm o t) := by
  show z_E (z_put o 1 t)
  have en := z_ost_n (z_ost_put (o := o) (k := 1) (v := t) (by omega))
  refine ⟨e_net en hE.1, e_laws en hE.2.1, fun l hl => ?_, ?_, ?_, ?_⟩
  · rw [e_L en] at hl
    rw [z_put_n (by omega)]; exact hE.2.2.1 l hl
  · rw [z_put_s]; exact ht
  · rw [e_N en, z_put_n (by omega)]; exact hE.2.2.2.2.1
  · exact e_ring en hE.1 (fun j _ _ => z_put_n (by omega)) hE.2.2.2.2.2
theorem z_E_wg {o : Int → Int} (hE : z_E o) {l : Nat} (hl : l < z_L o) {g : Int} (hg : -99 ≤ g ∧ g ≤ 99) : z_E (z_wg o l g) := by
  have hL := z_net_L16 hE.1
  have en := z_ost_n (z_ost_put (o := o) (k := 3 + (l : Int)) (v := g) (by omega))
  refine ⟨e_net en hE.1, e_laws en hE.2.1, fun m hm => ?_, ?_, ?_, ?_⟩
  · unfold z_wg at hm ⊢
    rw [e_L en] at hm
    by_cases c : m = l
    · subst c; rw [z_put_s]; exact hg
    · rw [z_put_n (by omega)]; exact hE.2.2.1 m hm
  · unfold z_wg; rw [z_put_n (by omega)]; exact hE.2.2.2.1
  · unfold z_wg
    rw [e_N en, z_put_n (by omega)]; exact hE.2.2.2.2.1
  · exact e_ring en hE.1 (fun j _ _ => z_put_n (by omega)) hE.2.2.2.2.2
/-- two places swapped -/
def z_sw (i k : Nat) : Nat := if k = i then i + 1 else if k = i + 1 then i else k
theorem z_sw_sw {i k : Nat} : z_sw i (z_sw i k) = k := by
  unfold z_sw
  split
  · rw [if_neg (by omega), if_pos rfl]; omega
  · split
    · rw [if_pos rfl]; omega
    · rfl
theorem z_sw_lt {i k n : Nat} (h : i + 1 < n) (hk : k < n) : z_sw i k < n := by
  unfold z_sw
  split
  · omega
  · split <;> omega
theorem z_st_sep {o : Int → Int} (hn : z_net o) {m n i j : Nat} (hm : m < 10) (h9 : n < 10) (e : m ≠ n) (hi : i < z_dg o m) (hj : j < z_dg o n) : z_st o m + i ≠ z_st o n + j := by
  have a := z_net_dg hn hm
  have b := z_net_dg hn h9
  have mono : ∀ x y : Nat, x ≤ y → y ≤ 10 → z_st o x ≤ z_st o y := fun x y h1 h2 => by
    have := (z_st_mono hn y h2).2 x h1
    have e1 := z_net_st hn (n := x) (by omega)
    have e2 := z_net_st hn (n := y) (by omega)
    omega
  rcases Nat.lt_or_gt_of_ne e with g | g
  · have := mono (m + 1) n (by omega) (by omega)
    omega
  · have := mono (n + 1) m (by omega) (by omega)
    omega
theorem z_tn_v {o : Int → Int} (hn : z_net o) {n i : Nat} (h9 : n < z_N o) (hi : i + 1 < z_dg o n) {m k : Nat} (hm : m < z_N o) (hk : k < z_dg o m) : z_tn o n i (1 + 18 + (z_st o m : Int) + (k : Int)) = o (1 + 18 + (z_st o m : Int) + ((if m = n then z_sw i k else k : Nat) : Int)) := by
  have hN := z_net_N10 hn
  unfold z_tn
  by_cases c : m = n
  · subst c
    rw [if_pos rfl]
    unfold z_sw
    by_cases c1 : k = i
    · subst c1
      rw [if_pos (by omega), if_pos rfl]
      congr 1 <;> omega
    · rw [if_neg (by omega), if_neg c1]
      by_cases c2 : k = i + 1
      · subst c2
        rw [if_pos (by omega), if_pos rfl]
        congr 1 <;> omega
      · rw [if_neg (by omega), if_neg c2]
  · have s1 := z_st_sep hn (by omega) (by omega) c hk (show i < z_dg o n by omega)
    have s2 := z_st_sep hn (by omega) (by omega) c hk hi
    rw [if_neg c, if_neg (by omega), if_neg (by omega)]
theorem z_E_tn {o : Int → Int} (hE : z_E o) {n i : Nat} (h9 : n < z_N o) (hi : i + 1 < z_dg o n) : z_E (z_tn o n i) := by
  have hN := z_net_N10 hE.1
  have hL := z_net_L16 hE.1
  have dg := z_net_dg hE.1 (n := n) (by omega)
  have sL := z_net_stL hE.1 (n := n + 1) (by omega)
  have en := z_ost_n (z_ost_tn (o := o) (n := n) (i := i) (by omega))
  have low : ∀ j : Int, j < 19 → z_tn o n i j = o j := fun j hj => by
    unfold z_tn
    rw [if_neg (by omega), if_neg (by omega)]
  refine ⟨e_net en hE.1, e_laws en hE.2.1, fun m hm => ?_, ?_, ?_, fun m hm => ?_⟩
  · rw [e_L en] at hm
    rw [low _ (by omega)]; exact hE.2.2.1 m hm
  · rw [low _ (by omega)]; exact hE.2.2.2.1
  · rw [low _ (by omega), e_N en]; exact hE.2.2.2.2.1
  · rw [e_N en] at hm
    have dm := z_net_dg hE.1 (n := m) (by omega)
    have sm := z_net_stL hE.1 (n := m + 1) (by omega)
    obtain ⟨q1, q2, q3⟩ := hE.2.2.2.2.2 m hm
    have lt : ∀ k, k < z_dg o m → (if m = n then z_sw i k else k) < z_dg o m := fun k hk => by
      by_cases c : m = n
      · subst c; rw [if_pos rfl]; exact z_sw_lt hi hk
      · rw [if_neg c]; exact hk
    have vv : ∀ k, k < z_dg o m → z_tn o n i (1 + 18 + (z_st (z_tn o n i) m : Int) + (k : Int)) = o (1 + 18 + (z_st o m : Int) + ((if m = n then z_sw i k else k : Nat) : Int)) := fun k hk => by
      rw [e_st en (by omega)]; exact z_tn_v hE.1 h9 hi hm hk
    have ri : ∀ k, k < z_dg o m → z_ri (z_tn o n i) 1 m k = z_ri o 1 m (if m = n then z_sw i k else k) := fun k hk => by
      unfold z_ri
      rw [vv k hk]
    rw [e_dg en (by omega)]
    refine ⟨fun k hk => ?_, fun k k2 hk hk2 g => ?_, fun l hl g => ?_⟩
    · rw [vv k hk, ri k hk]
      have := q1 _ (lt k hk)
      rw [e_L en, e_a en (by omega), e_b en (by omega)]
      exact this
    · rw [ri k hk, ri k2 hk2] at g
      have := q2 _ _ (lt k hk) (lt k2 hk2) g
      by_cases c : m = n
      · rw [if_pos c, if_pos c] at this
        rw [← z_sw_sw (i := i) (k := k), this, z_sw_sw]
      · rw [if_neg c, if_neg c] at this
        exact this
    · rw [e_L en] at hl
      rw [e_a en (by omega), e_b en (by omega)] at g
      obtain ⟨k, a, b⟩ := q3 l hl g
      refine ⟨if m = n then z_sw i k else k, lt k a, ?_⟩
      rw [ri _ (lt k a)]
      by_cases c : m = n
      · rw [if_pos c, if_pos c, z_sw_sw]; exact b
      · rw [if_neg c, if_neg c]; exact b
/-- told deeds -/
def z_can (o : Int → Int) (v : Int) : Prop := (0 ≤ v ∧ v ≤ 9 ∧ v < z_N o) ∨ (10 ≤ v ∧ v ≤ 19) ∨ ((100 ≤ v ∧ v ≤ 259) ∧ (v - 100) / 16 < z_N o ∧ (v - 100) % 16 + 1 < z_dg o ((v - 100) / 16).toNat) ∨ ((1000 ≤ v ∧ v ≤ 17198) ∧ (v - 1000) / 1000 < z_L o ∧ (v - 1000) % 1000 < 199)
def z_do (o : Int → Int) (v : Int) : Int → Int := if v < 10 then z_flp o v.toNat else if v < 20 then z_wm o (v - 10) else if v < 260 then z_tn o ((v - 100) / 16).toNat ((v - 100) % 16).toNat else z_wg o ((v - 1000) / 1000).toNat ((v - 1000) % 1000 - 99)
theorem z_E_do {o : Int → Int} (hE : z_E o) {v : Int} (h : z_can o v) : z_E (z_do o v) ∧ z_ost o (z_do o v) := by
  have hN := z_net_N10 hE.1
  have hL := z_net_L16 hE.1
  unfold z_do
  rcases h with ⟨h1, h2, h3⟩ | ⟨h1, h2⟩ | ⟨h1, h2, h3⟩ | ⟨h1, h2, h3⟩
  · rw [if_pos (by omega)]
    exact ⟨z_E_fl hE (by omega), z_ost_put (by omega)⟩
  · rw [if_neg (by omega), if_pos (by omega)]
    exact ⟨z_E_wm hE (by omega), z_ost_put (by omega)⟩
  · rw [if_neg (by omega), if_neg (by omega), if_pos (by omega)]
    have dg := z_net_dg hE.1 (n := ((v - 100) / 16).toNat) (by omega)
    have sL := z_net_stL hE.1 (n := ((v - 100) / 16).toNat + 1) (by omega)
    exact ⟨z_E_tn hE (by omega) (by omega), z_ost_tn (by omega)⟩
  · rw [if_neg (by omega), if_neg (by omega), if_neg (by omega)]
    exact ⟨z_E_wg hE (by omega) (by omega), z_ost_put (by omega)⟩
theorem k_rcanTurn {d : Nat} {M : q_Mem} {K : Int → q_Mem → Prop} {n v : Int} (hd : 2 < d) (hn : z_net (M 179)) (h1 : (0 ≤ n ∧ n < z_N (M 179)) → (0 ≤ v ∧ v + 1 < z_dg (M 179) n.toNat) → K 1 M) (h0 : ¬ ((0 ≤ n ∧ n < z_N (M 179)) ∧ 0 ≤ v ∧ v + 1 < z_dg (M 179) n.toNat) → K 0 M) : q_kI yX12_canTurn mX12_canTurn d [qR 178, qI n, qI v] M K := by
  have hN := z_net_N10 hn
  refine q_goI hd rfl (plainFor_of_name (by decide +kernel)) rfl (fun h => nomatch h) (Nat.le_of_ble_eq_true rfl) (fun d hd => bX12_canTurn_0 _ _ (k_isNode (by omega) hn (fun g1 g2 => ⟨fun g => absurd g (by decide), fun _ => ⟨fun g => h0 (by omega), fun g => ?_⟩⟩) (fun g => ⟨fun _ => h0 (fun q => g q.1), fun q => absurd rfl q⟩)))
  obtain ⟨m, rfl⟩ : ∃ m : Nat, n = (m : Int) := ⟨n.toNat, by omega⟩
  have dg := z_net_dg hn (n := m) (by omega)
  rw [Int.toNat_natCast] at h1 h0
  refine k_degreeOf (by omega) hn (by omega) ?_
  rw [q_sub_eq (by omega)]
  exact ⟨fun g3 => h0 (by omega), fun g3 => h1 ⟨g1, g2⟩ (by omega)⟩
theorem k_turns {d : Nat} {M : q_Mem} {K : q_Mem → Prop} {n i : Nat} (hd : 0 < d) (hn : z_net (M 179)) (h9 : n < z_N (M 179)) (hi : i + 1 < z_dg (M 179) n) (h : ∀ M', z_fr [179] [] M M' → M' 179 = z_tn (M 179) n i → K M') : q_kU yX12_turns mX12_turns d [qR 178, qI (n : Int), qI (i : Int)] M K := by
  have hN := z_net_N10 hn
  have hL := z_net_L16 hn
  have dg := z_net_dg hn (n := n) (by omega)
  have sL := z_net_stL hn (n := n + 1) (by omega)
  have es := z_net_st hn (n := n) (by omega)
  refine q_goU hd rfl (plainFor_of_name (by decide +kernel)) rfl (fun h => nomatch h) (Nat.le_of_ble_eq_true rfl) (fun d hd => bX12_turns_0 _ _ ?_)
  rw [q_add_eq (a := 85) (by omega), es, q_add_eq (a := 19) (by omega), q_add_eq (by omega)]
  refine ⟨by omega, fun x3 e3 => ?_⟩
  subst e3
  rw [q_add_eq (b := 1) (by omega)]
  refine ⟨by omega, fun x4 e4 => ⟨by omega, by omega, fun M7 e7 => ⟨by omega, fun M9 e9 => h M9 ?_ ?_⟩⟩⟩
  · subst e9 e7
    exact z_fr_tr (z_fr_up (by decide) (by decide)) (z_fr_up (by decide) (by decide))
  · subst e9 e7 e4
    rw [z_upP, z_upP]
    funext j
    unfold z_put z_tn
    by_cases c : j = 19 + (z_st (M 179) n : Int) + i
    · subst c
      rw [if_neg (by omega), if_pos rfl, if_pos rfl]
    · rw [if_neg c, if_neg c]
      by_cases c2 : j = 19 + (z_st (M 179) n : Int) + i + 1
      · subst c2
        rw [if_pos rfl, if_pos (by omega)]
        congr 1 <;> omega
      · rw [if_neg c2, if_neg (by omega)]
theorem k_canBe {d : Nat} {M : q_Mem} {K : Int → q_Mem → Prop} {v : Int} (hd : 3 < d) (hn : z_net (M 179)) (h1 : z_can (M 179) v → K 1 M) (h0 : ¬ z_can (M 179) v → K 0 M) : q_kI yX12_canBe mX12_canBe d [qR 178, qL v] M K := by
  have hN := z_net_N10 hn
  have hL := z_net_L16 hn
  unfold z_can at h1 h0
  refine q_goI hd rfl (plainFor_of_name (by decide +kernel)) rfl (fun h => nomatch h) (Nat.le_of_ble_eq_true rfl) (fun d hd => bX12_canBe_0 _ (k_within (by omega) (fun a b => ⟨fun g => absurd g (by decide), fun _ => ?_⟩) (fun a => ⟨fun _ => ?_, fun q => absurd rfl q⟩)))
  · exact k_isNode (by omega) hn (fun g1 g2 => ⟨Or.inr rfl, h1 (Or.inl ⟨a, b, g2⟩)⟩) (fun g => ⟨Or.inl rfl, h0 (by omega)⟩)
  · refine k_within (by omega) (fun b c => ⟨fun g => absurd g (by decide), fun _ => h1 (Or.inr (Or.inl ⟨b, c⟩))⟩) (fun b => ⟨fun _ => ?_, fun q => absurd rfl q⟩)
    refine k_within (by omega) (fun c e => ⟨fun g => absurd g (by decide), fun _ => ?_⟩) (fun c => ⟨fun _ => ?_, fun q => absurd rfl q⟩)
    · have dv : q_div (q_l2i (q_lsub v 100)) 16 = (v - 100) / 16 ∧ q_rem (q_l2i (q_lsub v 100)) 16 = (v - 100) % 16 := by
        rw [q_lsub_eq (by omega), q_l2i_eq (by unfold q_in32; omega)]
        exact ⟨q_div_nn (by unfold q_in32; omega) (by unfold q_in32; decide) (by omega), q_rem_nn (by unfold q_in32; omega) (by unfold q_in32; decide) (by omega) (by decide)⟩
      rw [dv.1, dv.2]
      exact k_rcanTurn (by omega) hn (fun g1 g2 => ⟨Or.inr rfl, h1 (Or.inr (Or.inr (Or.inl ⟨⟨c, e⟩, g1.2, g2.2⟩)))⟩) (fun g => ⟨Or.inl rfl, h0 (by omega)⟩)
    · refine k_within (by omega) (fun e f => ⟨fun g => absurd g (by decide), fun _ => ?_⟩) (fun e => ⟨fun _ => h0 (by omega), fun q => absurd rfl q⟩)
      have dv : q_ldiv (q_lsub v 1000) 1000 = (v - 1000) / 1000 ∧ q_lrem v 1000 = v % 1000 := by
        rw [q_lsub_eq (by omega)]
        exact ⟨q_ldiv_nn (by unfold q_in64; omega) (by unfold q_in64; decide) (by omega), q_lrem_nn (by unfold q_in64; omega) (by unfold q_in64; decide) (by omega) (by decide)⟩
      rw [dv.1, dv.2]
      refine k_isLink (by omega) hn (fun g1 g2 => ⟨fun g => absurd g (by decide), fun _ => ⟨fun g => ?_, fun g => ?_⟩⟩) (fun g => ⟨fun _ => h0 (by omega), fun q => absurd rfl q⟩)
      · rw [q_lcmp_ge] at g
        exact h0 (by omega)
      · rw [q_lcmp_ge] at g
        exact h1 (by omega)
theorem k_does {d : Nat} {M : q_Mem} {K : q_Mem → Prop} {v : Int} (hd : 1 < d) (hE : z_E (M 179)) (hv : z_can (M 179) v) (h : ∀ M', z_fr [179] [] M M' → M' 179 = z_do (M 179) v → K M') : q_kU yX12_does mX12_does d [qR 178, qI v] M K := by
  have hN := z_net_N10 hE.1
  have hL := z_net_L16 hE.1
  unfold z_do at h
  refine q_goU hd rfl (plainFor_of_name (by decide +kernel)) rfl (fun h => nomatch h) (Nat.le_of_ble_eq_true rfl) (fun d hd => bX12_does_0 _ ⟨fun g1 => ⟨fun g2 => ⟨fun g3 => ?_, fun g3 => ?_⟩, fun g2 M4 e4 => ?_⟩, fun g1 M5 e5 => ?_⟩)
  · unfold z_can at hv
    have dv : q_div (q_sub v 1000) 1000 = (v - 1000) / 1000 ∧ q_rem v 1000 = v % 1000 := by
      rw [q_sub_eq (by omega)]
      exact ⟨q_div_nn (by unfold q_in32; omega) (by unfold q_in32; decide) (by omega), q_rem_nn (by unfold q_in32; omega) (by unfold q_in32; decide) (by omega) (by decide)⟩
    rw [dv.1, dv.2, q_add_eq (by omega), q_sub_eq (by omega)]
    refine ⟨by omega, fun M2 e2 => h M2 ?_ ?_⟩
    · subst e2; exact z_fr_up (by decide) (by decide)
    · subst e2
      rw [if_neg (by omega), if_neg (by omega), if_neg (by omega), z_upP]
      unfold z_wg
      rw [show ((((v - 1000) / 1000).toNat : Nat) : Int) = (v - 1000) / 1000 by omega, show v % 1000 - 99 = (v - 1000) % 1000 - 99 by omega]
  · unfold z_can at hv
    have dv : q_div (q_sub v 100) 16 = (((v - 100) / 16).toNat : Nat) ∧ q_rem (q_sub v 100) 16 = (((v - 100) % 16).toNat : Nat) := by
      rw [q_sub_eq (by omega)]
      rw [q_div_nn (by unfold q_in32; omega) (by unfold q_in32; decide) (by omega), q_rem_nn (by unfold q_in32; omega) (by unfold q_in32; decide) (by omega) (by decide)]
      omega
    rw [dv.1, dv.2]
    exact k_turns (by omega) hE.1 (by omega) (by omega) (fun M' f' e' => h M' f' (by rw [if_neg (by omega), if_neg (by omega), if_pos (by omega)]; exact e'))
  · unfold z_can at hv
    subst e4
    rw [q_sub_eq (by omega)]
    exact h _ (z_fr_up (by decide) (by decide)) (by rw [if_neg (by omega), if_pos (by omega), z_upP]; rfl)
  · unfold z_can at hv
    have s := z_E_s hE
    obtain ⟨n, rfl⟩ : ∃ n : Nat, v = (n : Int) := ⟨v.toNat, by omega⟩
    subst e5
    rw [s.1, q_xor1 (by omega) (by omega)]
    exact h _ (z_fr_up (by decide) (by decide)) (by rw [if_pos (by omega), z_upP, Int.toNat_natCast]; rfl)
