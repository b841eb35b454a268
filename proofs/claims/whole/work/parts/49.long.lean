-- the longest rise: what it is; the reference
def z_mxn (g : Nat → Nat) : Nat → Nat
  | 0 => 0
  | n + 1 => max (z_mxn g n) (g n)
theorem z_mxn_le {g : Nat → Nat} {b : Nat} : ∀ {n : Nat}, (∀ k, k < n → g k ≤ b) → z_mxn g n ≤ b
  | 0, _ => Nat.zero_le _
  | n + 1, h => by
    have := z_mxn_le (g := g) (n := n) (fun k hk => h k (by omega))
    have := h n (by omega)
    show max (z_mxn g n) (g n) ≤ b
    omega
theorem z_mxn_ge {g : Nat → Nat} {k : Nat} : ∀ {n : Nat}, k < n → g k ≤ z_mxn g n
  | n + 1, h => by
    show g k ≤ max (z_mxn g n) (g n)
    by_cases e : k = n
    · subst e; omega
    · have := z_mxn_ge (g := g) (k := k) (n := n) (by omega); omega
theorem z_mxn_congr {g g' : Nat → Nat} : ∀ {n : Nat}, (∀ k, k < n → g k = g' k) → z_mxn g n = z_mxn g' n
  | 0, _ => rfl
  | n + 1, h => by
    show max (z_mxn g n) (g n) = max (z_mxn g' n) (g' n)
    rw [z_mxn_congr (fun k hk => h k (by omega)), h n (by omega)]
def z_lg (V : Nat → Int) (N : Nat) : Nat → Nat → Nat
  | 0, _ => 0
  | f + 1, s => z_mxn (fun n => if V s < V (s ^^^ 2 ^ n) then z_lg V N f (s ^^^ 2 ^ n) + 1 else 0) N
def z_rk (V : Nat → Int) (N s : Nat) : Nat := z_cn (fun t => decide (V s < V t)) (2 ^ N)
theorem z_rk_lt {V : Nat → Int} {N s t : Nat} (ht : t < 2 ^ N) (h : V s < V t) : z_rk V N t < z_rk V N s := by
  refine z_cn_lt (fun k hk => ?_) ht ?_ ?_
  · rw [decide_eq_true_eq] at hk ⊢; omega
  · exact decide_eq_false (by omega)
  · exact decide_eq_true h
theorem z_lg_fuel {V : Nat → Int} {N : Nat} : ∀ (r f f' s : Nat), s < 2 ^ N → z_rk V N s ≤ r → r < f → r < f' → z_lg V N f s = z_lg V N f' s := by
  intro r
  induction r with
  | zero =>
    intro f f' s hs hr h1 h2
    match f, f', h1, h2 with
    | f + 1, f' + 1, _, _ =>
      refine z_mxn_congr (fun n hn => ?_)
      have fl := z_flip_lt hs hn
      split
      · rename_i g
        have := z_rk_lt fl g
        omega
      · rfl
  | succ r ih =>
    intro f f' s hs hr h1 h2
    match f, f', h1, h2 with
    | f + 1, f' + 1, _, _ =>
      refine z_mxn_congr (fun n hn => ?_)
      have fl := z_flip_lt hs hn
      split
      · rename_i g
        have := z_rk_lt fl g
        rw [ih f f' _ fl (by omega) (by omega) (by omega)]
      · rfl
def z_Lg (V : Nat → Int) (N s : Nat) : Nat := z_lg V N (2 ^ N + 2) s
theorem z_Lg_eq {V : Nat → Int} {N s : Nat} (hs : s < 2 ^ N) : z_Lg V N s = z_mxn (fun n => if V s < V (s ^^^ 2 ^ n) then z_Lg V N (s ^^^ 2 ^ n) + 1 else 0) N := by
  refine z_mxn_congr (fun n hn => ?_)
  have fl := z_flip_lt hs hn
  have le := z_cn_le (p := fun t => decide (V (s ^^^ 2 ^ n) < V t)) (n := 2 ^ N)
  split
  · unfold z_Lg
    rw [z_lg_fuel (2 ^ N) (2 ^ N + 1) (2 ^ N + 2) _ fl le (by omega) (by omega)]
  · rfl
theorem z_Lg_up {V : Nat → Int} {N s n : Nat} (hs : s < 2 ^ N) (hn : n < N) (h : V s < V (s ^^^ 2 ^ n)) : z_Lg V N (s ^^^ 2 ^ n) + 1 ≤ z_Lg V N s := by
  rw [z_Lg_eq hs]
  have := z_mxn_ge (g := fun n => if V s < V (s ^^^ 2 ^ n) then z_Lg V N (s ^^^ 2 ^ n) + 1 else 0) hn
  simp only [h, if_true] at this
  exact this
theorem z_Lg_bd {V : Nat → Int} {N : Nat} : ∀ (r s : Nat), s < 2 ^ N → z_rk V N s ≤ r → z_Lg V N s ≤ r := by
  intro r
  induction r with
  | zero =>
    intro s hs hr
    rw [z_Lg_eq hs]
    refine z_mxn_le (fun n hn => ?_)
    have fl := z_flip_lt hs hn
    split
    · rename_i g
      have := z_rk_lt fl g
      omega
    · exact Nat.le_refl _
  | succ r ih =>
    intro s hs hr
    rw [z_Lg_eq hs]
    refine z_mxn_le (fun n hn => ?_)
    have fl := z_flip_lt hs hn
    split
    · rename_i g
      have := z_rk_lt fl g
      have := ih _ fl (by omega)
      omega
    · omega
theorem z_Lg_1024 {V : Nat → Int} {N s : Nat} (hs : s < 2 ^ N) : z_Lg V N s ≤ 2 ^ N := z_Lg_bd (2 ^ N) s hs z_cn_le
/-- numbers that can't be raised are the longest ones -/
theorem z_Lg_fix {V : Nat → Int} {N : Nat} {fr : Nat → Int} (hle : ∀ s, s < 2 ^ N → fr s ≤ (z_Lg V N s : Int)) (h0 : ∀ s, s < 2 ^ N → 0 ≤ fr s) (h : ∀ s n, s < 2 ^ N → n < N → V s < V (s ^^^ 2 ^ n) → fr (s ^^^ 2 ^ n) < fr s) : ∀ (r s : Nat), s < 2 ^ N → z_rk V N s ≤ r → fr s = (z_Lg V N s : Int) := by
  intro r
  induction r with
  | zero =>
    intro s hs hr
    have := z_Lg_bd 0 s hs hr
    have := hle s hs
    have := h0 s hs
    omega
  | succ r ih =>
    intro s hs hr
    have a := hle s hs
    have b := h0 s hs
    have c : z_Lg V N s ≤ (fr s).toNat := by
      rw [z_Lg_eq hs]
      refine z_mxn_le (fun n hn => ?_)
      have fl := z_flip_lt hs hn
      split
      · rename_i g
        have := z_rk_lt fl g
        have e := ih _ fl (by omega)
        have := h s n hs hn g
        omega
      · exact Nat.zero_le _
    omega
theorem z_sum_up {f f' : Nat → Int} {a : Nat} : ∀ {n : Nat}, a < n → (∀ x, x ≠ a → f' x = f x) → z_sum f' n = z_sum f n + (f' a - f a)
  | n + 1, h, he => by
    show z_sum f' n + f' n = z_sum f n + f n + (f' a - f a)
    by_cases e : a = n
    · subst e
      rw [z_sum_congr (g := f) (fun k hk => he k (by omega))]
      omega
    · rw [z_sum_up (n := n) (by omega) he, he n (by omega)]
      omega
theorem z_sum_le {f g : Nat → Int} : ∀ {n : Nat}, (∀ k, k < n → f k ≤ g k) → z_sum f n ≤ z_sum g n
  | 0, _ => Int.le_refl _
  | n + 1, h => by
    have := z_sum_le (f := f) (g := g) (n := n) (fun k hk => h k (by omega))
    have := h n (by omega)
    show z_sum f n + f n ≤ z_sum g n + g n
    omega
/-- one pass of the reference -/
def z_lp (o : Int → Int) (r0 r : Int → Int) (fl : Int) : Prop := (∀ s : Nat, s < 2 ^ z_N o → 0 ≤ r s ∧ r s ≤ (z_Lg (z_V2 o) (z_N o) s : Int)) ∧ ((fl = 0 ∧ ∀ s : Nat, s < 2 ^ z_N o → r s = r0 s) ∨ (fl = 1 ∧ z_sum (fun s => r0 s) (2 ^ z_N o) + 1 ≤ z_sum (fun s => r s) (2 ^ z_N o)))
theorem l_ll14 {d : Nat} {K : Int → q_Mem → Prop} {M0 : q_Mem} (hn : z_net (M0 179)) (ht : z_RT (M0 179) M0) {s : Nat} (hs : s < 2 ^ z_N (M0 179)) {r0 : Int → Int} {P : Int → Prop}
    (h : ∀ M' fl, z_fr [200] [] M0 M' → z_lp (M0 179) r0 (M' 200) fl → (fl = 0 → P fl ∧ ∀ n, n < z_N (M0 179) → z_V2 (M0 179) s < z_V2 (M0 179) (s ^^^ 2 ^ n) → M' 200 ((s ^^^ 2 ^ n : Nat) : Int) < M' 200 s) → q_v mX12_laysLonger d (qPI K) M' 4 [some (qR 178), some (qI fl), some (qI (q_add (s : Int) 1)), none, none] []) :
    ∀ (j n : Nat) (M : q_Mem) (fl : Int), n + j = z_N (M0 179) → z_fr [200] [] M0 M → z_lp (M0 179) r0 (M 200) fl → (fl = 0 → P fl ∧ ∀ n', n' < n → z_V2 (M0 179) s < z_V2 (M0 179) (s ^^^ 2 ^ n') → M 200 ((s ^^^ 2 ^ n' : Nat) : Int) < M 200 s) → q_v mX12_laysLonger d (qPI K) M 14 [some (qR 178), some (qI fl), some (qI (s : Int)), some (qI (n : Int)), none] [] := by
  have p10 := z_2N hn
  have hN := z_net_N10 hn
  have eN := z_net_N hn
  intro j
  induction j with
  | zero =>
    intro n M fl e fr q c
    have en : n = z_N (M0 179) := by omega
    subst en
    refine bX12_laysLonger_14 _ _ _ ?_
    rw [fr.1 179 (by decide) (by decide)]
    exact ⟨fun _ => h M fl fr q c, fun g => absurd (by omega) g⟩
  | succ j ih =>
    intro n M fl e fr q c
    have flp := z_flip_lt hs (n := n) (by omega)
    have bt := q.1 _ flp
    have bs := q.1 _ hs
    have lt := z_Lg_1024 (V := z_V2 (M0 179)) flp
    refine bX12_laysLonger_14 _ _ _ ?_
    rw [fr.1 179 (by decide) (by decide), q_xor1 (by omega) (by omega), q_add_eq (a := (n : Int)) (by omega), show (n : Int) + 1 = ((n + 1 : Nat) : Int) by omega]
    refine ⟨fun g => by omega, fun _ x ex => ?_⟩
    subst ex
    rw [fr.1 199 (by decide) (by decide), ht.2.2.2 _ flp, ht.2.2.2 _ hs]
    refine ⟨by omega, by omega, fun g => ih (n + 1) M fl (by omega) fr q (fun z => ⟨(c z).1, fun n' hn' g' => ?_⟩), fun g => ⟨by omega, by omega, fun g2 => ⟨by omega, by omega, fun M8 e8 => ?_⟩, fun g2 => ih (n + 1) M fl (by omega) fr q (fun z => ⟨(c z).1, fun n' hn' g' => ?_⟩)⟩⟩
    · by_cases e : n' = n
      · subst e; omega
      · exact (c z).2 n' (by omega) g'
    · rw [q_add_eq (by omega)] at e8
      have up := z_Lg_up hs (n := n) (by omega) (show z_V2 (M0 179) s < z_V2 (M0 179) (s ^^^ 2 ^ n) by omega)
      have rs : M8 200 s = M 200 ((s ^^^ 2 ^ n : Nat) : Int) + 1 := by rw [e8, q_up_s]
      have ro : ∀ x : Nat, x ≠ s → M8 200 x = M 200 x := fun x hx => by rw [e8, q_up_n (by omega)]
      have sm := z_sum_up (f := fun x => M 200 x) (f' := fun x => M8 200 x) hs ro
      refine ih (n + 1) M8 1 (by omega) (z_fr_u fr e8 (by decide) (by decide)) ⟨fun x hx => ?_, Or.inr ⟨rfl, ?_⟩⟩ (fun z => absurd z (by decide))
      · by_cases ex : x = s
        · subst ex; rw [rs]; omega
        · rw [ro x ex]; exact q.1 x hx
      · rcases q.2 with ⟨_, un⟩ | ⟨_, mo⟩
        · have : z_sum (fun s => M 200 s) (2 ^ z_N (M0 179)) = z_sum (fun s => r0 s) (2 ^ z_N (M0 179)) := z_sum_congr (fun k hk => un k hk)
          omega
        · omega
    · by_cases e : n' = n
      · subst e; omega
      · exact (c z).2 n' (by omega) g'
theorem l_ll4 {d : Nat} {K : Int → q_Mem → Prop} {M0 : q_Mem} (hn : z_net (M0 179)) (ht : z_RT (M0 179) M0)
    (h : ∀ M' fl, z_fr [200] [] M0 M' → z_lp (M0 179) (M0 200) (M' 200) fl → (fl = 0 → ∀ s n, s < 2 ^ z_N (M0 179) → n < z_N (M0 179) → z_V2 (M0 179) s < z_V2 (M0 179) (s ^^^ 2 ^ n) → M0 200 ((s ^^^ 2 ^ n : Nat) : Int) < M0 200 s) → K fl M') :
    ∀ (j i : Nat) (M : q_Mem) (fl : Int), i + j = 2 ^ z_N (M0 179) → z_fr [200] [] M0 M → z_lp (M0 179) (M0 200) (M 200) fl → (fl = 0 → ∀ s n, s < i → n < z_N (M0 179) → z_V2 (M0 179) s < z_V2 (M0 179) (s ^^^ 2 ^ n) → M0 200 ((s ^^^ 2 ^ n : Nat) : Int) < M0 200 s) → q_v mX12_laysLonger d (qPI K) M 4 [some (qR 178), some (qI fl), some (qI (i : Int)), none, none] [] := by
  have p10 := z_2N hn
  intro j
  induction j with
  | zero =>
    intro i M fl e fr q c
    have ei : i = 2 ^ z_N (M0 179) := by omega
    subst ei
    refine bX12_laysLonger_4 _ _ ?_
    rw [fr.2 39 (by decide), ht.1]
    exact ⟨fun _ => ⟨q.2.imp (fun x => x.1) (fun x => x.1), h M fl fr q c⟩, fun g => absurd (by omega) g⟩
  | succ j ih =>
    intro i M fl e fr q c
    refine bX12_laysLonger_4 _ _ ?_
    rw [fr.2 39 (by decide), ht.1]
    refine ⟨fun g => by omega, fun _ => l_ll14 hn ht (s := i) (by omega) (r0 := M0 200) (P := fun fl => fl = 0 → ∀ s n, s < i → n < z_N (M0 179) → z_V2 (M0 179) s < z_V2 (M0 179) (s ^^^ 2 ^ n) → M0 200 ((s ^^^ 2 ^ n : Nat) : Int) < M0 200 s) (fun M' fl' fr' q' c' => ?_) (z_N (M0 179)) 0 M fl (by omega) fr q (fun z => ⟨fun _ => c z, fun n' hn' => by omega⟩)⟩
    rw [q_add_eq (by omega), show (i : Int) + 1 = ((i + 1 : Nat) : Int) by omega]
    refine ih (i + 1) M' fl' (by omega) fr' q' (fun z s n hs hnn g => ?_)
    obtain ⟨c1, c2⟩ := c' z
    by_cases e : s = i
    · subst e
      have un : ∀ x : Nat, x < 2 ^ z_N (M0 179) → M' 200 x = M0 200 x := by
        rcases q'.2 with ⟨_, un⟩ | ⟨z1, _⟩
        · exact un
        · omega
      have := c2 n hnn g
      rw [un _ (z_flip_lt (by omega) hnn), un s (by omega)] at this
      exact this
    · exact c1 z s n (by omega) hnn g
theorem k_laysLonger {d : Nat} {M : q_Mem} {K : Int → q_Mem → Prop}  (hd : 0 < d) (hn : z_net (M 179)) (ht : z_RT (M 179) M) (h0 : ∀ s : Nat, s < 2 ^ z_N (M 179) → 0 ≤ M 200 s ∧ M 200 s ≤ (z_Lg (z_V2 (M 179)) (z_N (M 179)) s : Int)) (h : ∀ M' fl, z_fr [200] [] M M' → z_lp (M 179) (M 200) (M' 200) fl → (fl = 0 → ∀ s n, s < 2 ^ z_N (M 179) → n < z_N (M 179) → z_V2 (M 179) s < z_V2 (M 179) (s ^^^ 2 ^ n) → M 200 ((s ^^^ 2 ^ n : Nat) : Int) < M 200 s) → K fl M') : q_kI yX12_laysLonger mX12_laysLonger d [qR 178] M K :=
  q_goI hd rfl (plainFor_of_name (by decide +kernel)) rfl (fun h => nomatch h) (Nat.le_of_ble_eq_true rfl) (fun d hd => bX12_laysLonger_0 (l_ll4 hn ht h (2 ^ z_N (M 179)) 0 M 0 (by omega) z_fr_rf ⟨h0, Or.inl ⟨rfl, fun _ _ => rfl⟩⟩ (fun _ s n hs => by omega)))
theorem z_RT_fr {S F : List Int} {o : Int → Int} {M M' : q_Mem} (h : z_RT o M) (f : z_fr S F M M') (h1 : (199 : Int) ∉ S) (h2 : (39 : Int) ∉ F) (h3 : (40 : Int) ∉ F) (h4 : (41 : Int) ∉ F) : z_RT o M' := by
  unfold z_RT
  rw [f.1 199 h1 (by decide), f.2 39 h2, f.2 40 h3, f.2 41 h4]
  exact h
theorem l_lg34 {d : Nat} {K : Int → q_Mem → Prop} {M0 : q_Mem} (hd : 1 ≤ d) (hE : z_E (M0 179)) (ht : z_RT (M0 179) M0) (h : ∀ M', z_fr [200] [] M0 M' → K (z_Lg (z_V2 (M0 179)) (z_N (M0 179)) (z_s (M0 179)) : Int) M') :
    ∀ (m : Nat) (M : q_Mem), z_sum (fun s => (z_Lg (z_V2 (M0 179)) (z_N (M0 179)) s : Int)) (2 ^ z_N (M0 179)) - z_sum (fun s => M 200 s) (2 ^ z_N (M0 179)) ≤ m → z_fr [200] [] M0 M → (∀ s : Nat, s < 2 ^ z_N (M0 179) → 0 ≤ M 200 s ∧ M 200 s ≤ (z_Lg (z_V2 (M0 179)) (z_N (M0 179)) s : Int)) → q_v mX12_longest d (qPI K) M 34 [some (qR 178), some (qI 1)] [] := by
  have hn := hE.1
  have p10 := z_2N hn
  have es := z_E_s hE
  have fin : ∀ M', z_fr [200] [] M0 M' → (∀ s : Nat, s < 2 ^ z_N (M0 179) → 0 ≤ M' 200 s ∧ M' 200 s ≤ (z_Lg (z_V2 (M0 179)) (z_N (M0 179)) s : Int)) → (∀ s n, s < 2 ^ z_N (M0 179) → n < z_N (M0 179) → z_V2 (M0 179) s < z_V2 (M0 179) (s ^^^ 2 ^ n) → M' 200 ((s ^^^ 2 ^ n : Nat) : Int) < M' 200 s) → q_v mX12_longest d (qPI K) M' 34 [some (qR 178), some (qI 0)] [] := by
    intro M' fr' b c
    refine bX12_longest_34 _ ⟨fun _ => ?_, fun g => absurd rfl g⟩
    rw [fr'.1 179 (by decide) (by decide), es.1]
    have := z_Lg_fix (V := z_V2 (M0 179)) (N := z_N (M0 179)) (fr := fun s => M' 200 s) (fun s hs => (b s hs).2) (fun s hs => (b s hs).1) c (2 ^ z_N (M0 179)) (z_s (M0 179)) es.2.1 z_cn_le
    have e2 : M' 200 (z_s (M0 179) : Int) = (z_Lg (z_V2 (M0 179)) (z_N (M0 179)) (z_s (M0 179)) : Int) := this
    rw [e2]
    exact ⟨by omega, h M' fr'⟩
  intro m
  induction m with
  | zero =>
    intro M hm fr b
    have o1 : M 179 = M0 179 := fr.1 179 (by decide) (by decide)
    refine bX12_longest_34 _ ⟨fun g => absurd g (by decide), fun _ => k_laysLonger (by omega) (by rw [o1]; exact hn) (by rw [o1]; exact z_RT_fr ht fr (by decide) (by decide) (by decide) (by decide)) (by rw [o1]; exact b) (fun M' fl f' q' c' => ?_)⟩
    rw [o1] at q' c'
    have le := z_sum_le (f := fun s => M' 200 s) (g := fun s => (z_Lg (z_V2 (M0 179)) (z_N (M0 179)) s : Int)) (n := 2 ^ z_N (M0 179)) (fun k hk => (q'.1 k hk).2)
    rcases q'.2 with ⟨z, un⟩ | ⟨z, mo⟩
    · subst z
      refine fin M' (z_fr_tr fr f') q'.1 (fun s n hs hnn g => ?_)
      rw [un _ (z_flip_lt hs hnn), un s hs]
      exact c' rfl s n hs hnn g
    · omega
  | succ m ih =>
    intro M hm fr b
    have o1 : M 179 = M0 179 := fr.1 179 (by decide) (by decide)
    refine bX12_longest_34 _ ⟨fun g => absurd g (by decide), fun _ => k_laysLonger (by omega) (by rw [o1]; exact hn) (by rw [o1]; exact z_RT_fr ht fr (by decide) (by decide) (by decide) (by decide)) (by rw [o1]; exact b) (fun M' fl f' q' c' => ?_)⟩
    rw [o1] at q' c'
    rcases q'.2 with ⟨z, un⟩ | ⟨z, mo⟩
    · subst z
      refine fin M' (z_fr_tr fr f') q'.1 (fun s n hs hnn g => ?_)
      rw [un _ (z_flip_lt hs hnn), un s hs]
      exact c' rfl s n hs hnn g
    · subst z
      exact ih M' (by omega) (z_fr_tr fr f') q'.1
theorem l_lg11 {d : Nat} {K : Int → q_Mem → Prop} {M0 : q_Mem} (hd : 1 ≤ d) (hE : z_E (M0 179)) (ht : z_RT (M0 179) M0) (h : ∀ M', z_fr [200] [] M0 M' → K (z_Lg (z_V2 (M0 179)) (z_N (M0 179)) (z_s (M0 179)) : Int) M') :
    ∀ (j i : Nat) (M : q_Mem), i + j = 2 ^ z_N (M0 179) → z_fr [200] [] M0 M → (∀ s : Nat, s < i → M 200 s = 0) → q_v mX12_longest d (qPI K) M 11 [some (qR 178), some (qI (i : Int))] [] := by
  have hn := hE.1
  have p10 := z_2N hn
  intro j
  induction j with
  | zero =>
    intro i M e fr q
    have ei : i = 2 ^ z_N (M0 179) := by omega
    refine bX12_longest_11 _ ?_
    rw [fr.2 39 (by decide), ht.1]
    refine ⟨fun _ => l_lg34 hd hE ht h (z_sum (fun s => (z_Lg (z_V2 (M0 179)) (z_N (M0 179)) s : Int)) (2 ^ z_N (M0 179)) - z_sum (fun s => M 200 s) (2 ^ z_N (M0 179))).toNat M (by omega) fr (fun s hs => by rw [q s (by omega)]; omega), fun g => absurd (by omega) g⟩
  | succ j ih =>
    intro i M e fr q
    refine bX12_longest_11 _ ?_
    rw [fr.2 39 (by decide), ht.1, q_add_eq (by omega), show (i : Int) + 1 = ((i + 1 : Nat) : Int) by omega]
    refine ⟨fun g => by omega, fun _ => ⟨by omega, fun M5 e5 => ih (i + 1) M5 (by omega) (z_fr_u fr e5 (by decide) (by decide)) (fun s hs => ?_)⟩⟩
    by_cases c : s = i
    · subst c; rw [e5, q_up_s]
    · rw [e5, q_up_n (by omega)]; exact q s (by omega)
