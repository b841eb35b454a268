-- laws: steps over a stack, in the reference
def z_cl (v : Int) : Int := max (-1000000) (min 1000000 v)
def z_bt (c a b : Int) : Int := if c = 3003 then (if a = b then 1 else 0) else if c = 3004 then (if a < b then 1 else 0) else if c = 3005 then (if b < a then 1 else 0) else if c = 3007 then q_and a b else if c = 3008 then q_or a b else z_cl (if c = 3000 then a + b else if c = 3001 then a - b else a * b)
theorem z_m6 {a b : Int} (ha : -1000000 ≤ a ∧ a ≤ 1000000) (hb : -1000000 ≤ b ∧ b ≤ 1000000) : -1000000000000 ≤ a * b ∧ a * b ≤ 1000000000000 := by
  have h1 : (a * b).natAbs ≤ 1000000000000 := by
    rw [Int.natAbs_mul]
    exact Nat.le_trans (Nat.mul_le_mul (show a.natAbs ≤ 1000000 by omega) (show b.natAbs ≤ 1000000 by omega)) (by decide)
  omega
theorem l_btw {d : Nat} {M : q_Mem} {K : Int → q_Mem → Prop} {y : Int} (h : K (z_cl y) M) : q_v mX12_between d (qPI K) M 116 [none, none, none, none, none] [qL y] := by
  refine bX12_between_116 _ ⟨fun g => ⟨fun g2 => ?_, fun g2 => ?_⟩, fun g => ?_⟩
  · rw [q_lcmp_le] at g
    rw [q_lcmp_ge] at g2
    rw [q_l2i_eq (by unfold q_in32; omega)]
    rw [show z_cl y = y by unfold z_cl; omega] at h
    exact h
  · rw [q_lcmp_ge] at g2
    rw [q_l2i_eq (q_l32 _ rfl)]
    rw [show z_cl y = -1000000 by unfold z_cl; omega] at h
    exact h
  · rw [q_lcmp_le] at g
    rw [q_l2i_eq (q_l32 _ rfl)]
    rw [show z_cl y = 1000000 by unfold z_cl; omega] at h
    exact h
theorem k_between {d : Nat} {M : q_Mem} {K : Int → q_Mem → Prop} {c a b : Int} (hd : 0 < d) (hc : (3000 ≤ c ∧ c ≤ 3005) ∨ c = 3007 ∨ c = 3008) (ha : -1000000 ≤ a ∧ a ≤ 1000000) (hb : -1000000 ≤ b ∧ b ≤ 1000000) (h : K (z_bt c a b) M) : q_kI yX12_between mX12_between d [qI c, qI a, qI b] M K := by
  have hm := z_m6 ha hb
  unfold z_bt at h
  refine q_goI hd rfl (plainFor_of_name (by decide +kernel)) rfl (fun h => nomatch h) (Nat.le_of_ble_eq_true rfl) (fun d hd => bX12_between_0 _ _ _ ⟨fun g => ⟨fun g1 => ⟨fun g2 => ?_, fun g2 => ?_⟩, fun g1 => ?_⟩, fun g => ⟨fun g1 => ?_, fun g1 => ?_⟩, fun g => ⟨fun g1 => ?_, fun g1 => ?_⟩, fun g => ⟨fun g1 => ?_, fun g1 => ?_⟩, fun g => by omega, fun g => ?_, fun g => ?_⟩)
  · rw [if_neg (by omega), if_neg (by omega), if_neg (by omega), if_neg (by omega), if_neg (by omega), if_neg g1, if_neg g2] at h
    rw [q_lmul_eq (by omega)]
    exact l_btw h
  · rw [if_neg (by omega), if_neg (by omega), if_neg (by omega), if_neg (by omega), if_neg (by omega), if_neg g1, if_pos g2] at h
    rw [q_lsub_eq (by omega)]
    exact l_btw h
  · rw [if_neg (by omega), if_neg (by omega), if_neg (by omega), if_neg (by omega), if_neg (by omega), if_pos g1] at h
    rw [q_ladd_eq (by omega)]
    exact l_btw h
  · rw [if_pos g, if_neg g1] at h; exact h
  · rw [if_pos g, if_pos g1] at h; exact h
  · rw [if_neg (by omega), if_pos g, if_neg (by omega)] at h; exact h
  · rw [if_neg (by omega), if_pos g, if_pos (by omega)] at h; exact h
  · rw [if_neg (by omega), if_neg (by omega), if_pos g, if_neg (by omega)] at h; exact h
  · rw [if_neg (by omega), if_neg (by omega), if_pos g, if_pos (by omega)] at h; exact h
  · rw [if_neg (by omega), if_neg (by omega), if_neg (by omega), if_pos g] at h; exact h
  · rw [if_neg (by omega), if_neg (by omega), if_neg (by omega), if_neg (by omega), if_pos g] at h; exact h
/-- what a step does to what kinds of value lie on the stack (true: 0 or 1) -/
def z_ts (c : Int) (ts : List Bool) : Option (List Bool) :=
  if c < 3000 then (if (0 ≤ c ∧ c < 1005) ∧ ts.length < 60 then some (false :: ts) else none)
  else match ts with
    | true :: r => if c = 3006 then some (true :: r) else (match r with
      | true :: r2 => if c = 3007 ∨ c = 3008 then some (true :: r2) else none
      | _ => none)
    | false :: false :: r => if c ≤ 3002 then some (false :: r) else if c ≤ 3005 then some (true :: r) else if c = 3009 then (match r with
      | true :: r2 => some (false :: r2)
      | _ => none) else none
    | _ => none
def z_tr : List Int → List Bool → Option (List Bool)
  | [], ts => some ts
  | c :: cs, ts => match z_ts c ts with
    | some t2 => z_tr cs t2
    | none => none
def z_vs (w : Int → Int) (c : Int) (st : List Int) : List Int :=
  if c < 1000 then c :: st else if c < 3000 then w (c - 1000) :: st else if c = 3006 then (match st with
    | x :: r => (1 - x) :: r
    | _ => []) else if c = 3009 then (match st with
    | e :: t :: x :: r => (if x = 1 then t else e) :: r
    | _ => []) else (match st with
    | b :: a :: r => z_bt c a b :: r
    | _ => [])
def z_vr (w : Int → Int) : List Int → List Int → List Int
  | [], st => st
  | c :: cs, st => z_vr w cs (z_vs w c st)
def z_vt : List Bool → List Int → Prop
  | [], [] => True
  | t :: ts, v :: st => (if t then v = 0 ∨ v = 1 else -1000000 ≤ v ∧ v ≤ 1000000) ∧ z_vt ts st
  | _, _ => False
def z_rp (r : Int → Int) : List Int → Prop
  | [] => True
  | v :: st => r (st.length : Int) = v ∧ z_rp r st
theorem z_rp_eq {r r' : Int → Int} : ∀ {st : List Int}, (∀ j : Nat, j < st.length → r' j = r j) → z_rp r st → z_rp r' st
  | [], _, _ => trivial
  | v :: st, h, g => ⟨(h st.length (by simp)).trans g.1, z_rp_eq (fun j hj => h j (by simp; omega)) g.2⟩
theorem z_vt_len : ∀ {ts : List Bool} {st : List Int}, z_vt ts st → st.length = ts.length
  | [], [], _ => rfl
  | _ :: ts, _ :: st, h => by simp [z_vt_len h.2]
  | [], _ :: _, h => h.elim
  | _ :: _, [], h => h.elim
theorem z_b01 {a b : Int} (ha : a = 0 ∨ a = 1) (hb : b = 0 ∨ b = 1) : (q_and a b = 0 ∨ q_and a b = 1) ∧ (q_or a b = 0 ∨ q_or a b = 1) := by
  rcases ha with rfl | rfl <;> rcases hb with rfl | rfl <;> decide
/-- the cases of a step that keeps to its kinds -/
theorem z_ts_cases {c : Int} {ts t2 : List Bool} (h : z_ts c ts = some t2) :
    ((0 ≤ c ∧ c < 1005) ∧ ts.length < 60 ∧ t2 = false :: ts) ∨ (c = 3006 ∧ ∃ r, ts = true :: r ∧ t2 = true :: r) ∨ ((c = 3007 ∨ c = 3008) ∧ ∃ r, ts = true :: true :: r ∧ t2 = true :: r) ∨
    ((3000 ≤ c ∧ c ≤ 3002) ∧ ∃ r, ts = false :: false :: r ∧ t2 = false :: r) ∨ ((3003 ≤ c ∧ c ≤ 3005) ∧ ∃ r, ts = false :: false :: r ∧ t2 = true :: r) ∨ (c = 3009 ∧ ∃ r, ts = false :: false :: true :: r ∧ t2 = false :: r) := by
  unfold z_ts at h
  split at h
  · split at h
    · rename_i g
      cases h
      exact Or.inl ⟨g.1, g.2, rfl⟩
    · cases h
  · split at h
    · rename_i r
      split at h
      · rename_i g
        cases h
        exact Or.inr (Or.inl ⟨g, r, rfl, rfl⟩)
      · split at h
        · rename_i r2
          split at h
          · rename_i g
            cases h
            exact Or.inr (Or.inr (Or.inl ⟨g, r2, rfl, rfl⟩))
          · cases h
        · cases h
    · rename_i r
      split at h
      · cases h
        exact Or.inr (Or.inr (Or.inr (Or.inl ⟨by omega, r, rfl, rfl⟩)))
      · split at h
        · cases h
          exact Or.inr (Or.inr (Or.inr (Or.inr (Or.inl ⟨by omega, r, rfl, rfl⟩))))
        · split at h
          · rename_i g
            split at h
            · rename_i r2
              cases h
              exact Or.inr (Or.inr (Or.inr (Or.inr (Or.inr ⟨g, r2, rfl, rfl⟩))))
            · cases h
          · cases h
    · cases h
theorem z_cl_bd (v : Int) : -1000000 ≤ z_cl v ∧ z_cl v ≤ 1000000 := by unfold z_cl; omega
theorem z_bt_ar {c a b : Int} (h : 3000 ≤ c ∧ c ≤ 3002) : -1000000 ≤ z_bt c a b ∧ z_bt c a b ≤ 1000000 := by
  unfold z_bt
  rw [if_neg (by omega), if_neg (by omega), if_neg (by omega), if_neg (by omega), if_neg (by omega)]
  exact z_cl_bd _
theorem z_bt_cm {c a b : Int} (h : 3003 ≤ c ∧ c ≤ 3005) : z_bt c a b = 0 ∨ z_bt c a b = 1 := by
  unfold z_bt
  repeat' split
  all_goals first | exact Or.inl rfl | exact Or.inr rfl | omega
theorem z_bt_lg {c a b : Int} (h : c = 3007 ∨ c = 3008) (ha : a = 0 ∨ a = 1) (hb : b = 0 ∨ b = 1) : z_bt c a b = 0 ∨ z_bt c a b = 1 := by
  unfold z_bt
  rw [if_neg (by omega), if_neg (by omega), if_neg (by omega)]
  rcases h with h | h
  · rw [if_pos h]; exact (z_b01 ha hb).1
  · rw [if_neg (by omega), if_pos h]; exact (z_b01 ha hb).2
theorem z_vt_t {t : List Bool} {st : List Int} (h : z_vt (true :: t) st) : ∃ v r, st = v :: r ∧ (v = 0 ∨ v = 1) ∧ z_vt t r := by
  match st, h with
  | v :: r, h => exact ⟨v, r, rfl, h.1, h.2⟩
theorem z_vt_f {t : List Bool} {st : List Int} (h : z_vt (false :: t) st) : ∃ v r, st = v :: r ∧ (-1000000 ≤ v ∧ v ≤ 1000000) ∧ z_vt t r := by
  match st, h with
  | v :: r, h => exact ⟨v, r, rfl, by simpa using h.1, h.2⟩
def z_wd (w : Int → Int) : Prop := ∀ i : Nat, i < 5 → -1000000 ≤ w i ∧ w i ≤ 1000000
theorem z_vs_ok {w : Int → Int} (hw : z_wd w) {c : Int} {ts t2 : List Bool} {st : List Int} (h : z_ts c ts = some t2) (hv : z_vt ts st) : z_vt t2 (z_vs w c st) := by
  unfold z_vs
  rcases z_ts_cases h with ⟨h1, h2, rfl⟩ | ⟨rfl, r, rfl, rfl⟩ | ⟨h1, r, rfl, rfl⟩ | ⟨h1, r, rfl, rfl⟩ | ⟨h1, r, rfl, rfl⟩ | ⟨rfl, r, rfl, rfl⟩
  · split
    · exact ⟨by show -1000000 ≤ c ∧ c ≤ 1000000; omega, hv⟩
    · rw [if_pos (by omega)]
      have := hw (c - 1000).toNat (by omega)
      rw [show (((c - 1000).toNat : Nat) : Int) = c - 1000 by omega] at this
      exact ⟨this, hv⟩
  · obtain ⟨v, r2, rfl, h1, h2⟩ := z_vt_t hv
    exact ⟨by show 1 - v = 0 ∨ 1 - v = 1; omega, h2⟩
  · obtain ⟨v, r2, rfl, h2, h3⟩ := z_vt_t hv
    obtain ⟨v2, r3, rfl, h4, h5⟩ := z_vt_t h3
    rw [if_neg (by omega), if_neg (by omega), if_neg (by omega), if_neg (by omega)]
    exact ⟨z_bt_lg h1 h4 h2, h5⟩
  · obtain ⟨v, r2, rfl, h2, h3⟩ := z_vt_f hv
    obtain ⟨v2, r3, rfl, h4, h5⟩ := z_vt_f h3
    rw [if_neg (by omega), if_neg (by omega), if_neg (by omega), if_neg (by omega)]
    exact ⟨z_bt_ar h1, h5⟩
  · obtain ⟨v, r2, rfl, h2, h3⟩ := z_vt_f hv
    obtain ⟨v2, r3, rfl, h4, h5⟩ := z_vt_f h3
    rw [if_neg (by omega), if_neg (by omega), if_neg (by omega), if_neg (by omega)]
    exact ⟨z_bt_cm h1, h5⟩
  · obtain ⟨v, r2, rfl, h2, h3⟩ := z_vt_f hv
    obtain ⟨v2, r3, rfl, h4, h5⟩ := z_vt_f h3
    obtain ⟨v3, r4, rfl, h6, h7⟩ := z_vt_t h5
    refine ⟨?_, h7⟩
    show -1000000 ≤ (if v3 = 1 then v2 else v) ∧ (if v3 = 1 then v2 else v) ≤ 1000000
    split
    · exact h4
    · exact h2
theorem z_ts_len {c : Int} {ts t2 : List Bool} (h : z_ts c ts = some t2) (h0 : ts.length ≤ 60) : t2.length ≤ 60 := by
  rcases z_ts_cases h with ⟨h1, h2, rfl⟩ | ⟨rfl, r, rfl, rfl⟩ | ⟨h1, r, rfl, rfl⟩ | ⟨h1, r, rfl, rfl⟩ | ⟨h1, r, rfl, rfl⟩ | ⟨rfl, r, rfl, rfl⟩ <;> simp at * <;> omega
/-- a law's steps in the reference's row -/
def z_code (o : Int → Int) (law : Nat) : List Int := (List.range (o (100 + law)).toNat).map (fun k : Nat => o (604 + o (98 + law) + k))
def z_lawok (o : Int → Int) (law : Nat) : Prop := (0 ≤ o (98 + law) ∧ 0 ≤ o (100 + law) ∧ o (98 + law) + o (100 + law) ≤ 900) ∧ z_tr (z_code o law) [] = some [decide (law = 1)]
def z_ev (o w : Int → Int) (law : Nat) : Int := (z_vr w (z_code o law) []).headD 0
theorem z_code_len {o : Int → Int} {law : Nat} : (z_code o law).length = (o (100 + law)).toNat := by simp [z_code]
theorem z_code_drop {o : Int → Int} {law k : Nat} (h : k < (o (100 + law)).toNat) : (z_code o law).drop k = o (604 + o (98 + law) + k) :: (z_code o law).drop (k + 1) := by
  rw [List.drop_eq_getElem_cons (by rw [z_code_len]; exact h)]
  congr 1
  simp [z_code]
theorem z_up1 {M : q_Mem} {a k v j : Int} (h : j ≠ k) : q_up M a k v a j = M a j := q_up_n h
theorem l_reckons {d : Nat} {K : Int → q_Mem → Prop} (hd : 1 ≤ d) {law : Nat} (hl : law < 2) {o w : Int → Int} (ho : 0 ≤ o (98 + law) ∧ 0 ≤ o (100 + law) ∧ o (98 + law) + o (100 + law) ≤ 900) (hw : z_wd w) :
    ∀ (j k : Nat) (M : q_Mem) (ts : List Bool) (st : List Int) (t : Bool), k + j = (o (100 + law)).toNat → M 179 = o → (∀ i : Nat, i < 5 → M 186 i = w i) → z_rp (M 185) st → z_vt ts st → ts.length ≤ 60 → z_tr ((z_code o law).drop k) ts = some [t] →
      (∀ M', z_fr [185] [] M M' → K ((z_vr w ((z_code o law).drop k) st).headD 0) M') → q_v mX12_reckons d (qPI K) M 4 [some (qR 178), some (qI (law : Int)), some (qI (st.length : Int)), some (qI (k : Int)), none] [] := by
  intro j
  induction j with
  | zero =>
    intro k M ts st t e eo ew hr hv hts ht h
    rw [← eo] at ho
    have e9 : k = (M 179 (100 + law)).toNat := by rw [eo]; omega
    refine bX12_reckons_4 _ _ _ ?_
    rw [q_add_eq (a := 100) (by omega)]
    refine ⟨by omega, fun _ => ?_, fun g => absurd (by omega) g⟩
    have dn : (z_code o law).drop k = [] := List.drop_eq_nil_of_le (by rw [z_code_len]; omega)
    rw [dn] at ht h
    cases ht
    match st, hv with
    | [v], hv =>
      have := h M z_fr_rf
      rw [show M 185 0 = v from hr.1]
      exact this
    | _ :: _ :: _, hv => exact hv.2.elim
  | succ j ih =>
    intro k M ts st t e eo ew hr hv hts ht h
    have hlen := z_vt_len hv
    refine bX12_reckons_4 _ _ _ ?_
    rw [eo, q_add_eq (a := 100) (by omega), q_add_eq (a := 98) (by omega), q_add_eq (a := 604) (by omega), q_add_eq (by omega)]
    refine ⟨by omega, fun g => by omega, fun g => ⟨by omega, by omega, fun c ec => ?_⟩⟩
    have dr := z_code_drop (o := o) (law := law) (k := k) (by omega)
    rw [dr, ← ec] at ht h
    obtain ⟨t2, hs⟩ : ∃ t2, z_ts c ts = some t2 := by
      cases hh : z_ts c ts with
      | none => simp [z_tr, hh] at ht
      | some t2 => exact ⟨t2, rfl⟩
    have ht2 : z_tr ((z_code o law).drop (k + 1)) t2 = some [t] := by simpa [z_tr, hs] using ht
    have hv2 := z_vs_ok hw hs hv
    have hl2 := z_ts_len hs hts
    have go : ∀ (M2 : q_Mem) (st2 : List Int), st2 = z_vs w c st → z_fr [185] [] M M2 → z_rp (M2 185) st2 → q_v mX12_reckons d (qPI K) M2 4 [some (qR 178), some (qI (law : Int)), some (qI (st2.length : Int)), some (qI (q_add (k : Int) 1)), none] [] := by
      intro M2 st2 e2 hf hr2
      subst e2
      rw [q_add_eq (by omega), show (k : Int) + 1 = ((k + 1 : Nat) : Int) by omega]
      exact ih (k + 1) M2 t2 _ t (by omega) ((hf.1 179 (by decide) (by decide)).trans eo) (fun i hi => by rw [hf.1 186 (by decide) (by decide)]; exact ew i hi) hr2 hv2 hl2 ht2 (fun M' hf2 => h M' (z_fr_tr hf hf2))
    rcases z_ts_cases hs with ⟨h1, h2, -⟩ | ⟨h1, r, rfl, -⟩ | ⟨h1, r, rfl, -⟩ | ⟨h1, r, rfl, -⟩ | ⟨h1, r, rfl, -⟩ | ⟨h1, r, rfl, -⟩
    · refine ⟨fun g2 => by omega, fun _ => ⟨fun g2 => ?_, fun g2 => ?_⟩⟩
      · rw [q_sub_eq (by omega), q_add_eq (a := (st.length : Int)) (by omega)]
        refine ⟨by omega, by omega, fun M2 e2 => ?_⟩
        have := ew (c - 1000).toNat (by omega)
        rw [show (((c - 1000).toNat : Nat) : Int) = c - 1000 by omega] at this
        subst e2
        exact go _ (w (c - 1000) :: st) (by unfold z_vs; rw [if_neg (by omega), if_pos (by omega)]) (z_fr_up (by decide) (by decide)) ⟨by rw [q_up_s, this], z_rp_eq (fun i hi => q_up_n (by omega)) hr⟩
      · rw [q_add_eq (a := (st.length : Int)) (by omega)]
        refine ⟨by omega, fun M2 e2 => ?_⟩
        subst e2
        exact go _ (c :: st) (by unfold z_vs; rw [if_pos (by omega)]) (z_fr_up (by decide) (by decide)) ⟨by rw [q_up_s], z_rp_eq (fun i hi => q_up_n (by omega)) hr⟩
    · obtain ⟨v, s2, rfl, h3, h4⟩ := z_vt_t hv
      simp only [List.length_cons] at hlen hts ⊢
      refine ⟨fun _ => ⟨fun g2 => absurd h1 g2, fun _ => ?_⟩, fun g2 => by omega⟩
      rw [q_sub_eq (by omega), show (((s2.length + 1 : Nat) : Int) - 1) = (s2.length : Int) by omega, hr.1, q_sub_eq (by omega)]
      refine ⟨by omega, by omega, fun M2 e2 => ?_⟩
      subst e2
      exact go _ ((1 - v) :: s2) (by unfold z_vs; rw [if_neg (by omega), if_neg (by omega), if_pos h1]) (z_fr_up (by decide) (by decide)) ⟨by rw [q_up_s], z_rp_eq (fun i hi => q_up_n (by omega)) hr.2⟩
    · obtain ⟨v, s2, rfl, h3, h4⟩ := z_vt_t hv
      obtain ⟨v2, s3, rfl, h5, h6⟩ := z_vt_t h4
      simp only [List.length_cons] at hlen hts ⊢
      refine ⟨fun _ => ⟨fun g2 => ⟨fun g3 => ?_, fun g3 => by omega⟩, fun g2 => by omega⟩, fun g2 => by omega⟩
      rw [q_add_eq (a := ((s3.length + 1 + 1 : Nat) : Int)) (by omega), q_sub_eq (by omega), show (((s3.length + 1 + 1 : Nat) : Int) + -1 - 1) = (s3.length : Int) by omega, show (((s3.length + 1 + 1 : Nat) : Int) + -1) = ((s3.length + 1 : Nat) : Int) by omega, hr.2.1, show M 185 ((s3.length + 1 : Nat) : Int) = v from hr.1]
      refine ⟨by omega, by omega, k_between hd (by omega) (by omega) (by omega) ⟨by omega, fun M2 e2 => ?_⟩⟩
      subst e2
      exact go _ (z_bt c v2 v :: s3) (by unfold z_vs; rw [if_neg (by omega), if_neg (by omega), if_neg (by omega), if_neg (by omega)]) (z_fr_up (by decide) (by decide)) ⟨by rw [q_up_s], z_rp_eq (fun i hi => q_up_n (by omega)) hr.2.2⟩
    · obtain ⟨v, s2, rfl, h3, h4⟩ := z_vt_f hv
      obtain ⟨v2, s3, rfl, h5, h6⟩ := z_vt_f h4
      simp only [List.length_cons] at hlen hts ⊢
      refine ⟨fun _ => ⟨fun g2 => ⟨fun g3 => ?_, fun g3 => by omega⟩, fun g2 => by omega⟩, fun g2 => by omega⟩
      rw [q_add_eq (a := ((s3.length + 1 + 1 : Nat) : Int)) (by omega), q_sub_eq (by omega), show (((s3.length + 1 + 1 : Nat) : Int) + -1 - 1) = (s3.length : Int) by omega, show (((s3.length + 1 + 1 : Nat) : Int) + -1) = ((s3.length + 1 : Nat) : Int) by omega, hr.2.1, show M 185 ((s3.length + 1 : Nat) : Int) = v from hr.1]
      refine ⟨by omega, by omega, k_between hd (by omega) h5 h3 ⟨by omega, fun M2 e2 => ?_⟩⟩
      subst e2
      exact go _ (z_bt c v2 v :: s3) (by unfold z_vs; rw [if_neg (by omega), if_neg (by omega), if_neg (by omega), if_neg (by omega)]) (z_fr_up (by decide) (by decide)) ⟨by rw [q_up_s], z_rp_eq (fun i hi => q_up_n (by omega)) hr.2.2⟩
    · obtain ⟨v, s2, rfl, h3, h4⟩ := z_vt_f hv
      obtain ⟨v2, s3, rfl, h5, h6⟩ := z_vt_f h4
      simp only [List.length_cons] at hlen hts ⊢
      refine ⟨fun _ => ⟨fun g2 => ⟨fun g3 => ?_, fun g3 => by omega⟩, fun g2 => by omega⟩, fun g2 => by omega⟩
      rw [q_add_eq (a := ((s3.length + 1 + 1 : Nat) : Int)) (by omega), q_sub_eq (by omega), show (((s3.length + 1 + 1 : Nat) : Int) + -1 - 1) = (s3.length : Int) by omega, show (((s3.length + 1 + 1 : Nat) : Int) + -1) = ((s3.length + 1 : Nat) : Int) by omega, hr.2.1, show M 185 ((s3.length + 1 : Nat) : Int) = v from hr.1]
      refine ⟨by omega, by omega, k_between hd (by omega) h5 h3 ⟨by omega, fun M2 e2 => ?_⟩⟩
      subst e2
      exact go _ (z_bt c v2 v :: s3) (by unfold z_vs; rw [if_neg (by omega), if_neg (by omega), if_neg (by omega), if_neg (by omega)]) (z_fr_up (by decide) (by decide)) ⟨by rw [q_up_s], z_rp_eq (fun i hi => q_up_n (by omega)) hr.2.2⟩
    · obtain ⟨v, s2, rfl, h3, h4⟩ := z_vt_f hv
      obtain ⟨v2, s3, rfl, h5, h6⟩ := z_vt_f h4
      obtain ⟨v3, s4, rfl, h7, h8⟩ := z_vt_t h6
      simp only [List.length_cons] at hlen hts ⊢
      refine ⟨fun _ => ⟨fun g2 => ⟨fun g3 => absurd h1 g3, fun _ => ?_⟩, fun g2 => by omega⟩, fun g2 => by omega⟩
      rw [q_add_eq (a := ((s4.length + 1 + 1 + 1 : Nat) : Int)) (by omega), q_sub_eq (by omega), q_add_eq (by omega), show (((s4.length + 1 + 1 + 1 : Nat) : Int) + -2 - 1) = (s4.length : Int) by omega, show (((s4.length + 1 + 1 + 1 : Nat) : Int) + -2 + 1) = ((s4.length + 1 + 1 : Nat) : Int) by omega, show (((s4.length + 1 + 1 + 1 : Nat) : Int) + -2) = ((s4.length + 1 : Nat) : Int) by omega, hr.2.2.1, show M 185 ((s4.length + 1 + 1 : Nat) : Int) = v from hr.1, show M 185 ((s4.length + 1 : Nat) : Int) = v2 from hr.2.1]
      refine ⟨by omega, fun g3 => ⟨by omega, by omega, fun M2 e2 => ?_⟩, fun g3 => ⟨by omega, by omega, fun M2 e2 => ?_⟩⟩
      · subst e2
        have := go _ (v :: s4) (by unfold z_vs; rw [if_neg (by omega), if_neg (by omega), if_neg (by omega), if_pos h1]; simp [g3]) (z_fr_up (M := M) (a := 185) (k := (s4.length : Int)) (v := v) (by decide) (by decide)) ⟨by rw [q_up_s], z_rp_eq (fun i hi => q_up_n (by omega)) hr.2.2.2⟩
        exact this
      · subst e2
        have := go _ (v2 :: s4) (by unfold z_vs; rw [if_neg (by omega), if_neg (by omega), if_neg (by omega), if_pos h1]; simp [g3]) (z_fr_up (M := M) (a := 185) (k := (s4.length : Int)) (v := v2) (by decide) (by decide)) ⟨by rw [q_up_s], z_rp_eq (fun i hi => q_up_n (by omega)) hr.2.2.2⟩
        exact this
theorem k_reckons {d : Nat} {M : q_Mem} {K : Int → q_Mem → Prop} {law : Nat} (hd : 1 < d) (hl : law < 2) (w : Int → Int) (ho : z_lawok (M 179) law) (hw : z_wd w) (ew : ∀ i : Nat, i < 5 → M 186 i = w i) (h : ∀ M', z_fr [185] [] M M' → K (z_ev (M 179) w law) M') : q_kI yX12_reckons mX12_reckons d [qR 178, qI (law : Int)] M K :=
  q_goI hd rfl (plainFor_of_name (by decide +kernel)) rfl (fun h => nomatch h) (Nat.le_of_ble_eq_true rfl) (fun d hd => bX12_reckons_0 _ (l_reckons hd hl ho.1 hw (M 179 (100 + law)).toNat 0 M [] [] _ (by omega) rfl ew trivial trivial (by decide) ho.2 h))
