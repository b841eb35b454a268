-- the JDK's members, each as a row for its call
theorem q_startF {y : MethodName} {X : q_Mt} {D : Nat} {av : List q_AV} {n : Nat} {M : q_Mem} {n1 : Nat} {P : Option q_AV → q_Mem → Prop} (hy : plainFor y = true) (ho : y.cls = X.2.2.1) (hi : X.2.2.2.2 = true → y.name = "<init>") {ls : List (Option q_AV)} (hls : q_en av X.2.1 = ls) (hw : q_wid av ≤ X.2.1) (k : ∀ d, D ≤ d → q_V X d n n1 P n M 0 ls []) : q_Con y X D av n M n1 P := by
  intro d hd l dC dI cy φ0 base
  refine va_MetF (cc := X.1) (maxL := X.2.1) (ret := X.2.2.2.1) hy rfl ?_
  intro p e s m args below meth c s₁ B hml hv
  obtain ⟨rfl, hok, hX, hbase, hW⟩ := hv
  have hts := atoms_spec (ws := Cond.code y X.1 X.2.1 X.2.2.2.1 :: q_gd) B.pre
  have hown : s.vm.findClass X.2.2.1 = some m.cls := by rw [← ho]; exact findClass_of_methodNamed B.named
  have hin : X.2.2.2.2 = true → meth.name = "<init>" := fun h => by rw [(name_of_methodNamed B.named B.method).1]; exact hi h
  have hl := lv_entry (av.map (q_c φ0)) (n := X.2.1) (by rw [q_wid_sl]; exact hw)
  rw [lg_entry_eq]
  generalize (lg_sl (av.map (q_c φ0)) ++ List.replicate (X.2.1 - (lg_sl (av.map (q_c φ0))).length) Slot.unset).toArray = lsA at hl ⊢
  subst hls
  have h9 := k d hd p l e s m (av.map (q_c φ0)).toArray below meth c dC dI cy φ0 base ⟨B.exec, B.bytes, B.returns, hml, hown, fun w hw => hts w (List.mem_cons_of_mem _ hw), B.notSynchronized, hin, hX, hbase⟩ φ0 s.heap [] lsA ⟨fun _ _ => rfl, hW, va_S.rf, Nat.le_refl _⟩ (q_en_ok hok) trivial ⟨hl.1, hl.2.1, fun i v hv => by
    have := q_en_at (φ := φ0) (i := 0) hv
    rw [Nat.zero_add] at this
    exact hl.2.2 _ this⟩
  rw [Nat.sub_self, Nat.sub_self] at h9
  exact h9
theorem q_goI {y : MethodName} {X : q_Mt} {D d : Nat} {av : List q_AV} {M : q_Mem} {K : Int → q_Mem → Prop} (hd : D < d) {ls : List (Option q_AV)} (hls : q_en av X.2.1 = ls) (hy : plainFor y = true) (ho : y.cls = X.2.2.1) (hi : X.2.2.2.2 = true → y.name = "<init>") (hw : q_wid av ≤ X.2.1) (k : ∀ d, D ≤ d → q_v X d (qPI K) M 0 ls []) : q_kI y X d av M K :=
  ⟨D, K, hd, q_startF hy ho hi hls hw k, fun _ _ h => h⟩
theorem q_goL {y : MethodName} {X : q_Mt} {D d : Nat} {av : List q_AV} {M : q_Mem} {K : Int → q_Mem → Prop} (hd : D < d) {ls : List (Option q_AV)} (hls : q_en av X.2.1 = ls) (hy : plainFor y = true) (ho : y.cls = X.2.2.1) (hi : X.2.2.2.2 = true → y.name = "<init>") (hw : q_wid av ≤ X.2.1) (k : ∀ d, D ≤ d → q_v X d (qPL K) M 0 ls []) : q_kL y X d av M K :=
  ⟨D, K, hd, q_startF hy ho hi hls hw k, fun _ _ h => h⟩
theorem q_goR {y : MethodName} {X : q_Mt} {D d : Nat} {av : List q_AV} {M : q_Mem} {K : Int → q_Mem → Prop} (hd : D < d) {ls : List (Option q_AV)} (hls : q_en av X.2.1 = ls) (hy : plainFor y = true) (ho : y.cls = X.2.2.1) (hi : X.2.2.2.2 = true → y.name = "<init>") (hw : q_wid av ≤ X.2.1) (k : ∀ d, D ≤ d → q_v X d (qPR K) M 0 ls []) : q_kR y X d av M K :=
  ⟨D, K, hd, q_startF hy ho hi hls hw k, fun _ _ h => h⟩
theorem q_goU {y : MethodName} {X : q_Mt} {D d : Nat} {av : List q_AV} {M : q_Mem} {K : q_Mem → Prop} (hd : D < d) {ls : List (Option q_AV)} (hls : q_en av X.2.1 = ls) (hy : plainFor y = true) (ho : y.cls = X.2.2.1) (hi : X.2.2.2.2 = true → y.name = "<init>") (hw : q_wid av ≤ X.2.1) (k : ∀ d, D ≤ d → q_v X d (qPU K) M 0 ls []) : q_kU y X d av M K :=
  ⟨D, K, hd, q_startF hy ho hi hls hw k, fun _ h => h⟩
theorem k_max {d : Nat} {M : q_Mem} {K : Int → q_Mem → Prop} {a b : Int} (hd : 0 < d) (h : K (max a b) M) : q_kI yJ9_max_7cf53 mJ9_max_7cf53 d [qI a, qI b] M K :=
  q_goI hd rfl (by decide +kernel) rfl (fun h => nomatch h) (Nat.le_of_ble_eq_true rfl) (fun d hd => bJ9_max_7cf53_0 a b ⟨fun g => by rw [Int.max_eq_right (Int.le_of_lt g)] at h; exact h, fun g => by rw [Int.max_eq_left (by omega)] at h; exact h⟩)
theorem k_min {d : Nat} {M : q_Mem} {K : Int → q_Mem → Prop} {a b : Int} (hd : 0 < d) (h : K (min a b) M) : q_kI yJ9_min_7cf53 mJ9_min_7cf53 d [qI a, qI b] M K :=
  q_goI hd rfl (by decide +kernel) rfl (fun h => nomatch h) (Nat.le_of_ble_eq_true rfl) (fun d hd => bJ9_min_7cf53_0 a b ⟨fun g => by rw [Int.min_eq_right (Int.le_of_lt g)] at h; exact h, fun g => by rw [Int.min_eq_left (by omega)] at h; exact h⟩)
theorem k_lmax {d : Nat} {M : q_Mem} {K : Int → q_Mem → Prop} {a b : Int} (hd : 0 < d) (h : K (max a b) M) : q_kL yJ9_max_f86c9 mJ9_max_f86c9 d [qL a, qL b] M K :=
  q_goL hd rfl (by decide +kernel) rfl (fun h => nomatch h) (Nat.le_of_ble_eq_true rfl) (fun d hd => bJ9_max_f86c9_0 a b ⟨fun g => by rw [q_lcmp_lt] at g; rw [Int.max_eq_right (Int.le_of_lt g)] at h; exact h, fun g => by rw [q_lcmp_lt] at g; rw [Int.max_eq_left (by omega)] at h; exact h⟩)
theorem k_lmin {d : Nat} {M : q_Mem} {K : Int → q_Mem → Prop} {a b : Int} (hd : 0 < d) (h : K (min a b) M) : q_kL yJ9_min_f86c9 mJ9_min_f86c9 d [qL a, qL b] M K :=
  q_goL hd rfl (by decide +kernel) rfl (fun h => nomatch h) (Nat.le_of_ble_eq_true rfl) (fun d hd => bJ9_min_f86c9_0 a b ⟨fun g => by rw [q_lcmp_gt] at g; rw [Int.min_eq_right (Int.le_of_lt g)] at h; exact h, fun g => by rw [q_lcmp_gt] at g; rw [Int.min_eq_left (by omega)] at h; exact h⟩)
theorem k_abs {d : Nat} {M : q_Mem} {K : Int → q_Mem → Prop} {a : Int} (hd : 0 < d) (hr : -2147483648 < a ∧ a < 2147483648) (h : K (a.natAbs : Int) M) : q_kI yJ9_abs_0f7a4 mJ9_abs_0f7a4 d [qI a] M K :=
  q_goI hd rfl (by decide +kernel) rfl (fun h => nomatch h) (Nat.le_of_ble_eq_true rfl) (fun d hd => bJ9_abs_0f7a4_0 a ⟨fun g => by
    rw [show (a.natAbs : Int) = a by omega] at h; exact h, fun g => by
    rw [q_neg_eq (by omega)]; rw [show (a.natAbs : Int) = -a by omega] at h; exact h⟩)
theorem z_bc_1024 : ∀ s : Nat, s < 1024 → (q_and (q_add (q_add (q_and (q_add (q_add (q_and (q_sub (s : Int) (q_and (q_ushr s 1) 1431655765)) 858993459) (q_and (q_ushr (q_sub (s : Int) (q_and (q_ushr s 1) 1431655765)) 2) 858993459)) (q_ushr (q_add (q_and (q_sub (s : Int) (q_and (q_ushr s 1) 1431655765)) 858993459) (q_and (q_ushr (q_sub (s : Int) (q_and (q_ushr s 1) 1431655765)) 2) 858993459)) 4)) 252645135) (q_ushr (q_and (q_add (q_add (q_and (q_sub (s : Int) (q_and (q_ushr s 1) 1431655765)) 858993459) (q_and (q_ushr (q_sub (s : Int) (q_and (q_ushr s 1) 1431655765)) 2) 858993459)) (q_ushr (q_add (q_and (q_sub (s : Int) (q_and (q_ushr s 1) 1431655765)) 858993459) (q_and (q_ushr (q_sub (s : Int) (q_and (q_ushr s 1) 1431655765)) 2) 858993459)) 4)) 252645135) 8)) (q_ushr (q_add (q_and (q_add (q_add (q_and (q_sub (s : Int) (q_and (q_ushr s 1) 1431655765)) 858993459) (q_and (q_ushr (q_sub (s : Int) (q_and (q_ushr s 1) 1431655765)) 2) 858993459)) (q_ushr (q_add (q_and (q_sub (s : Int) (q_and (q_ushr s 1) 1431655765)) 858993459) (q_and (q_ushr (q_sub (s : Int) (q_and (q_ushr s 1) 1431655765)) 2) 858993459)) 4)) 252645135) (q_ushr (q_and (q_add (q_add (q_and (q_sub (s : Int) (q_and (q_ushr s 1) 1431655765)) 858993459) (q_and (q_ushr (q_sub (s : Int) (q_and (q_ushr s 1) 1431655765)) 2) 858993459)) (q_ushr (q_add (q_and (q_sub (s : Int) (q_and (q_ushr s 1) 1431655765)) 858993459) (q_and (q_ushr (q_sub (s : Int) (q_and (q_ushr s 1) 1431655765)) 2) 858993459)) 4)) 252645135) 8)) 16)) 63) = (z_bc s 10 : Int) := by decide +kernel
theorem k_bitCount {d : Nat} {M : q_Mem} {K : Int → q_Mem → Prop} {s : Nat} (hd : 0 < d) (hs : s < 1024) (h : K (z_bc s 10 : Int) M) : q_kI yJ6_bitCount_0f7a4 mJ6_bitCount_0f7a4 d [qI (s : Int)] M K :=
  q_goI hd rfl (plainFor_of_name (by decide +kernel)) rfl (fun h => nomatch h) (Nat.le_of_ble_eq_true rfl) (fun d hd => bJ6_bitCount_0f7a4_0 _ (by
    intro a ea b eb c ec e ee f ef
    rw [← z_bc_1024 s hs] at h
    rw [ef, ee, ec, eb, ea]
    exact h))
theorem k_floorMod {d : Nat} {M : q_Mem} {K : Int → q_Mem → Prop} {a : Int} (hd : 0 < d) (hs : -10 ≤ a ∧ a < 10) (h : K (a % 10) M) : q_kI yJ9_floorMod_7cf53 mJ9_floorMod_7cf53 d [qI a, qI 10] M K := by
  have key : ∀ n : Nat, n < 20 → (0 ≤ q_xor ((n : Int) - 10) 10 → q_rem ((n : Int) - 10) 10 = ((n : Int) - 10) % 10) ∧ (¬ 0 ≤ q_xor ((n : Int) - 10) 10 → (q_rem ((n : Int) - 10) 10 = 0 → q_rem ((n : Int) - 10) 10 = ((n : Int) - 10) % 10) ∧ (¬ q_rem ((n : Int) - 10) 10 = 0 → q_add (q_rem ((n : Int) - 10) 10) 10 = ((n : Int) - 10) % 10)) := by decide +kernel
  have key := key (a + 10).toNat (by omega)
  rw [show (((a + 10).toNat : Nat) : Int) - 10 = a by omega] at key
  exact q_goI hd rfl (by decide +kernel) rfl (fun h => nomatch h) (Nat.le_of_ble_eq_true rfl) (fun d hd => bJ9_floorMod_7cf53_0 _ _ ⟨by decide, fun x e => by
    subst e
    refine ⟨fun g => by rw [key.1 g]; exact h, fun g => ⟨fun g2 => by rw [(key.2 g).1 g2]; exact h, fun g2 => by rw [(key.2 g).2 g2]; exact h⟩⟩⟩)
/-- a row filled from i to e with v -/
def z_fill (M : q_Mem) (a i e v : Int) : q_Mem := fun b j => if b = a ∧ i ≤ j ∧ j < e then v else M b j
theorem z_fill_o {M : q_Mem} {a i e v b : Int} (h : b ≠ a) : z_fill M a i e v b = M b := by
  funext j
  exact if_neg (fun g => h g.1)
theorem z_fill_s {M : q_Mem} {a i e v j : Int} (h : i ≤ j ∧ j < e) : z_fill M a i e v a j = v := if_pos ⟨rfl, h⟩
theorem z_fill_n {M : q_Mem} {a i e v j : Int} (h : ¬ (i ≤ j ∧ j < e)) : z_fill M a i e v a j = M a j := if_neg (fun g => h g.2)
theorem z_fill_nil {M : q_Mem} {a i e v : Int} (h : e ≤ i) : z_fill M a i e v = M := by
  funext b j
  exact if_neg (fun g => by omega)
theorem z_fill_up {M : q_Mem} {a i e v : Int} (h : i < e) : z_fill (q_up M a i v) a (i + 1) e v = z_fill M a i e v := by
  funext b j
  unfold z_fill q_up
  by_cases hb : b = a
  · by_cases h1 : j = i
    · rw [if_neg (by omega), if_pos ⟨hb, h1⟩, if_pos ⟨hb, by omega⟩]
    · by_cases h2 : i ≤ j ∧ j < e
      · rw [if_pos ⟨hb, by omega⟩, if_pos ⟨hb, h2⟩]
      · rw [if_neg (by omega), if_neg (fun g => h1 g.2), if_neg (fun g => h2 g.2)]
  · rw [if_neg (fun g => hb g.1), if_neg (fun g => hb g.1), if_neg (fun g => hb g.1)]
theorem l_fill3 {d : Nat} {K : q_Mem → Prop} {x0 e v : Int} (k0 : q_kd x0 = 14) (he : e ≤ (q_ln x0 : Int)) (he2 : e < 2147483648) : ∀ (j : Nat) (M : q_Mem) (i : Int), 0 ≤ i → e - i ≤ j → K (z_fill M x0 i e v) → q_v mJ7_fill_fda19 d (qPU K) M 10 [some (qR x0), none, some (qI e), some (qI v), some (qI i)] [] := by
  intro j
  induction j with
  | zero => exact fun M i h0 h1 h => bJ7_fill_fda19_10 _ _ _ _ k0 ⟨fun _ => by rw [z_fill_nil (by omega)] at h; exact h, fun g => absurd (by omega) g⟩
  | succ j ih => exact fun M i h0 h1 h => bJ7_fill_fda19_10 _ _ _ _ k0 ⟨fun g => by rw [z_fill_nil (by omega)] at h; exact h, fun g => ⟨⟨h0, by omega⟩, fun M2 e2 => by
      rw [q_add_eq (by omega), e2]
      exact ih _ _ (by omega) (by omega) (by rw [z_fill_up (by omega)]; exact h)⟩⟩
theorem l_fill1 {d : Nat} {K : q_Mem → Prop} {x0 e v : Int} (k0 : q_kd x0 = 14) (he : e ≤ (q_ln x0 : Int)) (he2 : e < 2147483648) : ∀ (j : Nat) (M : q_Mem) (i : Int), 0 ≤ i → e - i ≤ j → K (z_fill M x0 i e v) → q_v mJ7_fill_53178 d (qPU K) M 5 [some (qR x0), some (qI v), some (qI i), some (qI e)] [] := by
  intro j
  induction j with
  | zero => exact fun M i h0 h1 h => bJ7_fill_53178_5 _ _ _ _ k0 ⟨fun _ => by rw [z_fill_nil (by omega)] at h; exact h, fun g => absurd (by omega) g⟩
  | succ j ih => exact fun M i h0 h1 h => bJ7_fill_53178_5 _ _ _ _ k0 ⟨fun g => by rw [z_fill_nil (by omega)] at h; exact h, fun g => ⟨⟨h0, by omega⟩, fun M2 e2 => by
      rw [q_add_eq (by omega), e2]
      exact ih _ _ (by omega) (by omega) (by rw [z_fill_up (by omega)]; exact h)⟩⟩
theorem l_fillL {d : Nat} {K : q_Mem → Prop} {x0 e v : Int} (k0 : q_kd x0 = 15) (he : e ≤ (q_ln x0 : Int)) (he2 : e < 2147483648) : ∀ (j : Nat) (M : q_Mem) (i : Int), 0 ≤ i → e - i ≤ j → K (z_fill M x0 i e v) → q_v mJ7_fill_d0a16 d (qPU K) M 6 [some (qR x0), some (qL v), none, some (qI i), some (qI e)] [] := by
  intro j
  induction j with
  | zero => exact fun M i h0 h1 h => bJ7_fill_d0a16_6 _ _ _ _ k0 ⟨fun _ => by rw [z_fill_nil (by omega)] at h; exact h, fun g => absurd (by omega) g⟩
  | succ j ih => exact fun M i h0 h1 h => bJ7_fill_d0a16_6 _ _ _ _ k0 ⟨fun g => by rw [z_fill_nil (by omega)] at h; exact h, fun g => ⟨⟨h0, by omega⟩, fun M2 e2 => by
      rw [q_add_eq (by omega), e2]
      exact ih _ _ (by omega) (by omega) (by rw [z_fill_up (by omega)]; exact h)⟩⟩
theorem k_fill1 {d : Nat} {M : q_Mem} {K : q_Mem → Prop} {a v : Int} (N : Nat) (hd : 0 < d) (ka : q_kd a = 14) (hN : q_ln a = N) (h9 : N < 2147483648) (h : K (z_fill M a 0 N v)) : q_kU yJ7_fill_53178 mJ7_fill_53178 d [qR a, qI v] M K :=
  q_goU hd rfl (plainFor_of_name (by decide +kernel)) rfl (fun h => nomatch h) (Nat.le_of_ble_eq_true rfl) (fun d hd => bJ7_fill_53178_0 _ _ ka (fun x e => by
    subst e
    exact l_fill1 ka (Int.le_refl _) (by omega) N M 0 (by omega) (by omega) (by rw [hN]; exact h)))
theorem k_fillL {d : Nat} {M : q_Mem} {K : q_Mem → Prop} {a v : Int} (N : Nat) (hd : 0 < d) (ka : q_kd a = 15) (hN : q_ln a = N) (h9 : N < 2147483648) (h : K (z_fill M a 0 N v)) : q_kU yJ7_fill_d0a16 mJ7_fill_d0a16 d [qR a, qL v] M K :=
  q_goU hd rfl (plainFor_of_name (by decide +kernel)) rfl (fun h => nomatch h) (Nat.le_of_ble_eq_true rfl) (fun d hd => bJ7_fill_d0a16_0 _ _ ka (fun x e => by
    subst e
    exact l_fillL ka (Int.le_refl _) (by omega) N M 0 (by omega) (by omega) (by rw [hN]; exact h)))
theorem k_rangeCheck {d : Nat} {M : q_Mem} {K : q_Mem → Prop} {n i e : Int} (hd : 0 < d) (h1 : 0 ≤ i) (h2 : i ≤ e) (h3 : e ≤ n) (h : K M) : q_kU yJ7_rangeCheck_23922 mJ7_rangeCheck_23922 d [qI n, qI i, qI e] M K :=
  q_goU hd rfl (plainFor_of_name (by decide +kernel)) rfl (fun h => nomatch h) (Nat.le_of_ble_eq_true rfl) (fun d hd => bJ7_rangeCheck_23922_0 _ _ _ ⟨fun _ => ⟨fun _ => ⟨fun _ => h, fun g => g h3⟩, fun g => g h1⟩, fun g => g h2⟩)
theorem k_fill3 {d : Nat} {M : q_Mem} {K : q_Mem → Prop} {a i e v : Int} (hd : 1 < d) (ka : q_kd a = 14) (h1 : 0 ≤ i) (h2 : i ≤ e) (h3 : e ≤ (q_ln a : Int)) (h4 : e < 2147483648) (h : K (z_fill M a i e v)) : q_kU yJ7_fill_fda19 mJ7_fill_fda19 d [qR a, qI i, qI e, qI v] M K :=
  q_goU hd rfl (plainFor_of_name (by decide +kernel)) rfl (fun h => nomatch h) (Nat.le_of_ble_eq_true rfl) (fun d hd => bJ7_fill_fda19_0 _ _ _ _ ka (k_rangeCheck (by omega) h1 h2 h3 (l_fill3 ka h3 h4 (e - i).toNat M i h1 (by omega) h)))
