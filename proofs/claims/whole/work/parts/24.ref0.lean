-- the reference: what its rows mean, and its small methods
/-- nothing outside S has changed, and of the reference's own fields nothing outside F -/
def z_fr (S F : List Int) (M M' : q_Mem) : Prop := (∀ a, a ∉ S → a ≠ 178 → M' a = M a) ∧ ∀ k, k ∉ F → M' 178 k = M 178 k
theorem z_fr_rf {S F : List Int} {M : q_Mem} : z_fr S F M M := ⟨fun _ _ _ => rfl, fun _ _ => rfl⟩
theorem z_fr_tr {S F : List Int} {M M' M'' : q_Mem} (h : z_fr S F M M') (h2 : z_fr S F M' M'') : z_fr S F M M'' :=
  ⟨fun a h1 h3 => (h2.1 a h1 h3).trans (h.1 a h1 h3), fun k h1 => (h2.2 k h1).trans (h.2 k h1)⟩
theorem z_fr_mono {S F S' F' : List Int} {M M' : q_Mem} (h : z_fr S F M M') (h1 : ∀ a ∈ S, a ∈ S') (h2 : ∀ a ∈ F, a ∈ F') : z_fr S' F' M M' :=
  ⟨fun a g1 g2 => h.1 a (fun g => g1 (h1 a g)) g2, fun k g => h.2 k (fun g3 => g (h2 k g3))⟩
theorem z_fr_up {S F : List Int} {M : q_Mem} {a k v : Int} (h : a ∈ S) (h8 : a ≠ 178) : z_fr S F M (q_up M a k v) :=
  ⟨fun b g _ => q_up_o (fun e => g (e ▸ h)), fun j _ => by rw [q_up_o (fun e => h8 e.symm)]⟩
theorem z_fr_f {S F : List Int} {M : q_Mem} {k v : Int} (h : k ∈ F) : z_fr S F M (q_up M 178 k v) :=
  ⟨fun b _ g => q_up_o g, fun j g => q_up_n (fun e => g (e ▸ h))⟩
/-- sums -/
def z_sum (f : Nat → Int) : Nat → Int
  | 0 => 0
  | n + 1 => z_sum f n + f n
theorem z_sum_congr {f g : Nat → Int} : ∀ {n : Nat}, (∀ k, k < n → f k = g k) → z_sum f n = z_sum g n
  | 0, _ => rfl
  | n + 1, h => by
    show z_sum f n + f n = z_sum g n + g n
    rw [z_sum_congr (fun k hk => h k (by omega)), h n (by omega)]
theorem z_sum_bd {f : Nat → Int} {b : Int} : ∀ {n : Nat}, (∀ k, k < n → -b ≤ f k ∧ f k ≤ b) → -(b * n) ≤ z_sum f n ∧ z_sum f n ≤ b * n
  | 0, _ => by simp [z_sum]
  | n + 1, h => by
    have h1 := z_sum_bd (f := f) (b := b) (n := n) (fun k hk => h k (by omega))
    have h2 := h n (by omega)
    have e : b * ((n + 1 : Nat) : Int) = b * n + b := by rw [Int.natCast_add, Int.mul_add]; simp
    show -(b * ((n + 1 : Nat) : Int)) ≤ z_sum f n + f n ∧ z_sum f n + f n ≤ b * ((n + 1 : Nat) : Int)
    rw [e]
    omega
/-- the sets of numbers below n -/
def z_set (p : Nat → Bool) : Nat → Nat
  | 0 => 0
  | n + 1 => z_set p n ||| (if p n then 2 ^ n else 0)
theorem z_set_bit {p : Nat → Bool} : ∀ {n j : Nat}, (z_set p n).testBit j = (decide (j < n) && p j)
  | 0, j => by simp [z_set]
  | n + 1, j => by
    show (z_set p n ||| (if p n then 2 ^ n else 0)).testBit j = _
    rw [Nat.testBit_or, z_set_bit]
    by_cases h : j = n
    · subst h
      cases hp : p j <;> simp [Nat.testBit_two_pow]
    · have e : (if p n then 2 ^ n else 0 : Nat).testBit j = false := by
        cases hp : p n
        · simp
        · simp [Nat.testBit_two_pow, show ¬ n = j by omega]
      rw [e, Bool.or_false]
      by_cases h2 : j < n
      · simp [h2, show j < n + 1 by omega]
      · simp [h2, show ¬ j < n + 1 by omega]
theorem z_set_lt {p : Nat → Bool} : ∀ {n : Nat}, z_set p n < 2 ^ n
  | 0 => (Nat.two_pow_pos 0 : 0 < 2 ^ 0)
  | n + 1 => by
    show (z_set p n ||| (if p n then 2 ^ n else 0)) < 2 ^ (n + 1)
    apply Nat.or_lt_two_pow
    · exact Nat.lt_trans (z_set_lt (n := n)) (Nat.pow_lt_pow_right (by decide) (by omega))
    · split
      · exact Nat.pow_lt_pow_right (by decide) (by omega)
      · exact Nat.two_pow_pos _
theorem z_set_congr {p q : Nat → Bool} {n : Nat} (h : ∀ k, k < n → p k = q k) : z_set p n = z_set q n := by
  apply Nat.eq_of_testBit_eq
  intro j
  rw [z_set_bit, z_set_bit]
  by_cases hj : j < n
  · rw [h j hj]
  · simp [hj]
/-- the net: how many nodes, links; what joins what; where the ring of each node begins -/
def z_net (o : Int → Int) : Prop :=
  (0 ≤ o 51 ∧ o 51 ≤ 10) ∧ (0 ≤ o 52 ∧ o 52 ≤ 16) ∧
  (∀ l : Nat, (l : Int) < o 52 → (0 ≤ o (53 + l) ∧ o (53 + l) < o 51) ∧ (0 ≤ o (69 + l) ∧ o (69 + l) < o 51) ∧ o (53 + l) ≠ o (69 + l)) ∧
  o 85 = 0 ∧ o 95 = 2 * o 52 ∧ ∀ n : Nat, n < 10 → o (85 + n) ≤ o (86 + n) ∧ o (86 + n) - o (85 + n) ≤ 16
def z_N (o : Int → Int) : Nat := (o 51).toNat
def z_L (o : Int → Int) : Nat := (o 52).toNat
def z_a (o : Int → Int) (l : Nat) : Nat := (o (53 + l)).toNat
def z_b (o : Int → Int) (l : Nat) : Nat := (o (69 + l)).toNat
theorem z_net_N {o : Int → Int} (h : z_net o) : o 51 = (z_N o : Int) := by have := h.1; unfold z_N; omega
theorem z_net_L {o : Int → Int} (h : z_net o) : o 52 = (z_L o : Int) := by have := h.2.1; unfold z_L; omega
theorem z_net_N10 {o : Int → Int} (h : z_net o) : z_N o ≤ 10 := by have := h.1; unfold z_N; omega
theorem z_net_L16 {o : Int → Int} (h : z_net o) : z_L o ≤ 16 := by have := h.2.1; unfold z_L; omega
theorem z_net_a {o : Int → Int} (h : z_net o) {l : Nat} (hl : l < z_L o) : o (53 + l) = (z_a o l : Int) ∧ z_a o l < z_N o := by
  have := (h.2.2.1 l (by have := z_net_L h; omega)).1
  have := z_net_N h
  unfold z_a; omega
theorem z_net_b {o : Int → Int} (h : z_net o) {l : Nat} (hl : l < z_L o) : o (69 + l) = (z_b o l : Int) ∧ z_b o l < z_N o := by
  have := (h.2.2.1 l (by have := z_net_L h; omega)).2.1
  have := z_net_N h
  unfold z_b; omega
theorem z_net_ne {o : Int → Int} (h : z_net o) {l : Nat} (hl : l < z_L o) : z_a o l ≠ z_b o l := by
  have := (h.2.2.1 l (by have := z_net_L h; omega)).2.2
  have h1 := (z_net_a h hl).1
  have h2 := (z_net_b h hl).1
  intro e
  rw [h1, h2, e] at this
  exact this rfl
/-- whether a link is cut by sides; what they are worth by weights w -/
def z_cut (o : Int → Int) (s l : Nat) : Bool := s.testBit (z_a o l) != s.testBit (z_b o l)
def z_worth (o w : Int → Int) (s : Nat) : Int := z_sum (fun l => if z_cut o s l then w l else 0) (z_L o)
theorem k_within {d : Nat} {M : q_Mem} {K : Int → q_Mem → Prop} {v a b : Int} (hd : 0 < d) (h1 : a ≤ v → v ≤ b → K 1 M) (h0 : ¬ (a ≤ v ∧ v ≤ b) → K 0 M) : q_kI yX12_within mX12_within d [qL v, qL a, qL b] M K :=
  q_goI hd rfl (plainFor_of_name (by decide +kernel)) rfl (fun h => nomatch h) (Nat.le_of_ble_eq_true rfl) (fun d hd => bX12_within_0 _ _ _ ⟨fun g => h0 (by rw [q_lcmp_lt] at g; omega), fun g => ⟨fun g2 => h0 (by rw [q_lcmp_gt] at g2; omega), fun g2 => h1 (by rw [q_lcmp_lt] at g; omega) (by rw [q_lcmp_gt] at g2; omega)⟩⟩)
theorem k_isIn {d : Nat} {M : q_Mem} {K : Int → q_Mem → Prop} {s k : Nat} (hd : 0 < d) (hs : s < 2147483648) (hk : k < 32) (h : K (if s.testBit k then 1 else 0) M) : q_kI yX12_isIn mX12_isIn d [qI (s : Int), qI (k : Int)] M K :=
  q_goI hd rfl (plainFor_of_name (by decide +kernel)) rfl (fun h => nomatch h) (Nat.le_of_ble_eq_true rfl) (fun d hd => bX12_isIn_0 _ _ ⟨fun g => by rw [q_bit1 hs hk] at g; rw [if_neg g] at h; exact h, fun g => by rw [q_bit1 hs hk] at g; rw [if_pos g] at h; exact h⟩)
theorem k_isIn2 {d : Nat} {M : q_Mem} {K : Int → q_Mem → Prop} {s k : Nat} (hd : 0 < d) (hs : s < 2147483648) (hk : k < 32) (h1 : s.testBit k = true → K 1 M) (h0 : s.testBit k = false → K 0 M) : q_kI yX12_isIn mX12_isIn d [qI (s : Int), qI (k : Int)] M K :=
  q_goI hd rfl (plainFor_of_name (by decide +kernel)) rfl (fun h => nomatch h) (Nat.le_of_ble_eq_true rfl) (fun d hd => bX12_isIn_0 _ _ ⟨fun g => by rw [q_bit1 hs hk] at g; exact h0 (by simpa using g), fun g => by rw [q_bit1 hs hk] at g; exact h1 g⟩)
theorem k_isLink {d : Nat} {M : q_Mem} {K : Int → q_Mem → Prop} {v : Int} (hd : 1 < d) (hn : z_net (M 179)) (h1 : 0 ≤ v → v < z_L (M 179) → K 1 M) (h0 : ¬ (0 ≤ v ∧ v < z_L (M 179)) → K 0 M) : q_kI yX12_isLink mX12_isLink d [qR 178, qL v] M K :=
  q_goI hd rfl (plainFor_of_name (by decide +kernel)) rfl (fun h => nomatch h) (Nat.le_of_ble_eq_true rfl) (fun d hd => bX12_isLink_0 _ (by
    have e := z_net_L hn
    have := z_net_L16 hn
    rw [e, q_sub_eq (by omega)]
    exact k_within (by omega) (fun g1 g2 => ⟨Or.inr rfl, h1 g1 (by omega)⟩) (fun g => ⟨Or.inl rfl, h0 (by omega)⟩)))
theorem k_isNode {d : Nat} {M : q_Mem} {K : Int → q_Mem → Prop} {v : Int} (hd : 1 < d) (hn : z_net (M 179)) (h1 : 0 ≤ v → v < z_N (M 179) → K 1 M) (h0 : ¬ (0 ≤ v ∧ v < z_N (M 179)) → K 0 M) : q_kI yX12_isNode mX12_isNode d [qR 178, qL v] M K :=
  q_goI hd rfl (plainFor_of_name (by decide +kernel)) rfl (fun h => nomatch h) (Nat.le_of_ble_eq_true rfl) (fun d hd => bX12_isNode_0 _ (by
    have e := z_net_N hn
    have := z_net_N10 hn
    rw [e, q_sub_eq (by omega)]
    exact k_within (by omega) (fun g1 g2 => ⟨Or.inr rfl, h1 g1 (by omega)⟩) (fun g => ⟨Or.inl rfl, h0 (by omega)⟩)))
/-- rings -/
def z_st (o : Int → Int) (n : Nat) : Nat := (o (85 + n)).toNat
def z_dg (o : Int → Int) (n : Nat) : Nat := z_st o (n + 1) - z_st o n
theorem z_st_mono {o : Int → Int} (h : z_net o) : ∀ n : Nat, n ≤ 10 → 0 ≤ o (85 + n) ∧ ∀ m : Nat, m ≤ n → o (85 + m) ≤ o (85 + n)
  | 0, _ => ⟨by have := h.2.2.2.1; simp; omega, fun m hm => by rw [show m = 0 by omega]; omega⟩
  | n + 1, hn => by
    have ih := z_st_mono h n (by omega)
    have h2 := (h.2.2.2.2.2 n (by omega)).1
    have e : (85 : Int) + ((n + 1 : Nat) : Int) = 86 + (n : Int) := by omega
    rw [e]
    refine ⟨by omega, fun m hm => ?_⟩
    by_cases hmn : m = n + 1
    · subst hmn; rw [e]; omega
    · have := ih.2 m (by omega); omega
theorem z_net_st {o : Int → Int} (h : z_net o) {n : Nat} (hn : n ≤ 10) : o (85 + n) = (z_st o n : Int) := by
  have := (z_st_mono h n hn).1
  unfold z_st; omega
theorem z_net_stL {o : Int → Int} (h : z_net o) {n : Nat} (hn : n ≤ 10) : z_st o n ≤ 2 * z_L o := by
  have := (z_st_mono h 10 (by omega)).2 n hn
  have e := h.2.2.2.2.1
  have e2 := z_net_st h hn
  have e3 := z_net_L h
  have e4 : o (85 + ((10 : Nat) : Int)) = o 95 := rfl
  omega
theorem z_net_dg {o : Int → Int} (h : z_net o) {n : Nat} (hn : n < 10) : z_st o n + z_dg o n = z_st o (n + 1) ∧ z_dg o n ≤ 16 := by
  have h1 := h.2.2.2.2.2 n hn
  have e1 := z_net_st h (n := n) (by omega)
  have e2 := z_net_st h (n := n + 1) (by omega)
  have e : (85 : Int) + ((n + 1 : Nat) : Int) = 86 + (n : Int) := by omega
  rw [e] at e2
  unfold z_dg
  omega
theorem k_degreeOf {d : Nat} {M : q_Mem} {K : Int → q_Mem → Prop} {n : Nat} (hd : 0 < d) (hn : z_net (M 179)) (h9 : n < 10) (h : K (z_dg (M 179) n : Int) M) : q_kI yX12_degreeOf mX12_degreeOf d [qR 178, qI (n : Int)] M K :=
  q_goI hd rfl (plainFor_of_name (by decide +kernel)) rfl (fun h => nomatch h) (Nat.le_of_ble_eq_true rfl) (fun d hd => bX12_degreeOf_0 _ (by
    have e1 := z_net_st hn (n := n) (by omega)
    have e2 := z_net_st hn (n := n + 1) (by omega)
    have e3 := z_net_dg hn h9
    have e4 := z_net_stL hn (n := n + 1) (by omega)
    have e5 := z_net_L16 hn
    rw [q_add_eq (a := 85) (by omega), q_add_eq (by omega), show (85 : Int) + (n : Int) + 1 = 85 + ((n + 1 : Nat) : Int) by omega, e1, e2, q_sub_eq (by omega), show ((z_st (M 179) (n + 1) : Nat) : Int) - (z_st (M 179) n : Int) = (z_dg (M 179) n : Int) by omega]
    exact ⟨by omega, by omega, h⟩))
theorem l_worthOf {d : Nat} {M : q_Mem} {K : Int → q_Mem → Prop} {s : Nat} (hd : 1 ≤ d) (hs : s < 2147483648) (hn : z_net (M 179)) (hw : ∀ l : Nat, l < z_L (M 179) → -99 ≤ M 187 l ∧ M 187 l ≤ 99) (h : K (z_worth (M 179) (M 187) s) M) : ∀ (j i : Nat), i + j = z_L (M 179) → q_v mX12_worthOf d (qPI K) M 4 [some (qR 178), some (qI (s : Int)), some (qI (z_sum (fun l => if z_cut (M 179) s l then M 187 l else 0) i)), some (qI (i : Int))] [] := by
  have eL := z_net_L hn
  have hL := z_net_L16 hn
  have hN := z_net_N10 hn
  have hbd : ∀ i : Nat, i ≤ z_L (M 179) → -(99 * (i : Int)) ≤ z_sum (fun l => if z_cut (M 179) s l then M 187 l else 0) i ∧ z_sum (fun l => if z_cut (M 179) s l then M 187 l else 0) i ≤ 99 * (i : Int) := by
    intro i hi
    refine z_sum_bd (fun k hk => ?_)
    have := hw k (by omega)
    split <;> omega
  intro j
  induction j with
  | zero =>
    intro i e
    refine bX12_worthOf_4 _ _ _ ⟨fun _ => ?_, fun g => absurd (by omega) g⟩
    have : i = z_L (M 179) := by omega
    subst this
    exact h
  | succ j ih =>
    intro i e
    refine bX12_worthOf_4 _ _ _ ⟨fun g => by omega, fun g => ?_⟩
    have ea := z_net_a hn (l := i) (by omega)
    have eb := z_net_b hn (l := i) (by omega)
    have hb := hbd i (by omega)
    have hb2 := hw i (by omega)
    rw [q_add_eq (a := 53) (by omega), ea.1]
    refine ⟨by omega, k_isIn (by omega) hs (by omega) ?_⟩
    rw [q_add_eq (a := 69) (by omega), eb.1]
    refine ⟨by omega, k_isIn (by omega) hs (by omega) ?_⟩
    have ih := ih (i + 1) (by omega)
    have ex : z_sum (fun l => if z_cut (M 179) s l then M 187 l else 0) (i + 1) = z_sum (fun l => if z_cut (M 179) s l then M 187 l else 0) i + (if z_cut (M 179) s i then M 187 i else 0) := rfl
    have ei : ((i + 1 : Nat) : Int) = (i : Int) + 1 := by omega
    rw [ex, ei] at ih
    refine ⟨fun g2 x e2 => ?_, fun g2 => ⟨by omega, fun x e2 => ?_⟩⟩
    · have : z_cut (M 179) s i = false := by
        unfold z_cut
        cases h1 : s.testBit (z_a (M 179) i) <;> cases h2 : s.testBit (z_b (M 179) i) <;> simp [h1, h2] at g2 ⊢
      rw [this] at ih
      rw [e2, q_add_eq (by omega), q_add_eq (by omega)]
      exact ih
    · have : z_cut (M 179) s i = true := by
        unfold z_cut
        cases h1 : s.testBit (z_a (M 179) i) <;> cases h2 : s.testBit (z_b (M 179) i) <;> simp [h1, h2] at g2 ⊢
      rw [this] at ih
      rw [e2, q_add_eq (by omega), q_add_eq (by omega)]
      exact ih
theorem k_worthOf {d : Nat} {M : q_Mem} {K : Int → q_Mem → Prop} {s : Nat} (hd : 1 < d) (hs : s < 2147483648) (hn : z_net (M 179)) (hw : ∀ l : Nat, l < z_L (M 179) → -99 ≤ M 187 l ∧ M 187 l ≤ 99) (h : K (z_worth (M 179) (M 187) s) M) : q_kI yX12_worthOf mX12_worthOf d [qR 178, qI (s : Int)] M K :=
  q_goI hd rfl (plainFor_of_name (by decide +kernel)) rfl (fun h => nomatch h) (Nat.le_of_ble_eq_true rfl) (fun d hd => bX12_worthOf_0 _ (l_worthOf hd hs hn hw h (z_L (M 179)) 0 (by omega)))
