-- warms, ask
theorem z_wms_lt {o : Int → Int} {v : Nat → Int} {m : Nat} : z_wms o v m < 1024 := z_set_lt (n := 10)
/-- the first of the links with the fewest alike -/
def z_lk1 (f : Nat → Nat) : Nat → Int × Int
  | 0 => (-1, 11)
  | n + 1 => if (f n : Int) < (z_lk1 f n).2 then ((n : Int), (f n : Int)) else z_lk1 f n
def z_askA (o : Int → Int) (set : Nat) : Int := if set = 0 then -1 else (z_lk1 (fun l => z_ma o set l) (z_L o)).1
theorem l_clk {d : Nat} {M0 : q_Mem} {K : Int → q_Mem → Prop} {o : Int → Int} {set : Nat} (hd : 6 ≤ d) (hE : z_E o) (hc : z_cst M0 o) (hs : set < 1024) (hk : ∀ M', z_cf z_TL M0 M' → K (z_askA o set) M') :
    ∀ (j l : Nat) (M : q_Mem), l + j = z_L o → z_cf z_TL M0 M → (set = 0 → l = 0) → q_v mX11_linkToAsk d (qPI K) M 8 [some (qR 1), some (qI (set : Int)), some (qI (z_lk1 (fun l => z_ma o set l) l).1), some (qI (z_lk1 (fun l => z_ma o set l) l).2), some (qI (l : Int)), none] [] := by
  have hL := z_net_L16 hE.1
  intro j
  induction j with
  | zero =>
    intro l M e f q
    have el : l = z_L o := by omega
    subst el
    have cM := z_cst_cf hc f (by decide) (by decide)
    have := hk M f
    refine bX11_linkToAsk_8 _ _ _ _ ⟨z_cst_k cM, ?_⟩
    rw [z_cst_L cM hE.1]
    refine ⟨fun _ => ?_, fun g => absurd (by omega) g⟩
    unfold z_askA at this
    by_cases c : set = 0
    · rw [if_pos c] at this
      rw [q c]
      exact this
    · rw [if_neg c] at this; exact this
  | succ j ih =>
    intro l M e f q
    have cM := z_cst_cf hc f (by decide) (by decide)
    refine bX11_linkToAsk_8 _ _ _ _ ⟨z_cst_k cM, ?_⟩
    rw [z_cst_L cM hE.1, q_add_eq (by omega), show (l : Int) + 1 = ((l + 1 : Nat) : Int) by omega]
    refine ⟨fun g => absurd g (by omega), fun _ => ⟨fun g => ?_, fun g => k_cmostAlike (by omega) hE cM (by omega) hs (fun M' f' => ?_)⟩⟩
    · have c : set = 0 := by omega
      have := hk M f
      unfold z_askA at this
      rw [if_pos c] at this
      rw [q c]
      exact this
    · have nx := ih (l + 1) M' (by omega) (z_cf_tr f f') (fun c => by omega)
      have ex : z_lk1 (fun l => z_ma o set l) (l + 1) = if (z_ma o set l : Int) < (z_lk1 (fun l => z_ma o set l) l).2 then ((l : Int), (z_ma o set l : Int)) else z_lk1 (fun l => z_ma o set l) l := rfl
      refine ⟨fun g2 => ?_, fun g2 => ?_⟩
      · rw [ex, if_neg (by omega)] at nx; exact nx
      · rw [ex, if_pos (by omega)] at nx; exact nx
theorem l_rlk {d : Nat} {M0 : q_Mem} {K : Int → q_Mem → Prop} {set : Nat} (hd : 4 ≤ d) (hE : z_E (M0 179)) (hs : set < 1024) (hk : ∀ M', z_fr [185, 186, 202] [] M0 M' → K (z_askA (M0 179) set) M') :
    ∀ (j l : Nat) (M : q_Mem), l + j = z_L (M0 179) → z_fr [185, 186, 202] [] M0 M → (set = 0 → l = 0) → q_v mX12_ask d (qPI K) M 34 [some (qR 178), none, none, some (qI (set : Int)), some (qI (z_lk1 (fun l => z_ma (M0 179) set l) l).1), some (qI (if l = 0 then 1073741824 else (z_lk1 (fun l => z_ma (M0 179) set l) l).2)), some (qI (l : Int)), none] [] := by
  have hL := z_net_L16 hE.1
  intro j
  induction j with
  | zero =>
    intro l M e f q
    have el : l = z_L (M0 179) := by omega
    subst el
    have o2 : M 179 = M0 179 := f.1 179 (by decide) (by decide)
    have := hk M f
    refine bX12_ask_34 _ _ _ _ ?_
    rw [o2, z_net_L hE.1]
    refine ⟨fun _ => ?_, fun g => absurd (by omega) g⟩
    unfold z_askA at this
    by_cases c : set = 0
    · rw [if_pos c] at this
      rw [q c]
      exact this
    · rw [if_neg c] at this; exact this
  | succ j ih =>
    intro l M e f q
    have o2 : M 179 = M0 179 := f.1 179 (by decide) (by decide)
    refine bX12_ask_34 _ _ _ _ ?_
    rw [o2, z_net_L hE.1, q_add_eq (by omega), show (l : Int) + 1 = ((l + 1 : Nat) : Int) by omega]
    refine ⟨fun g => absurd g (by omega), fun _ => ⟨fun g => ?_, fun g => k_rmostAlike (by omega) (by rw [o2]; exact hE) (by rw [o2]; omega) hs (fun M' f' => ?_)⟩⟩
    · have c : set = 0 := by omega
      have := hk M f
      unfold z_askA at this
      rw [if_pos c] at this
      rw [q c]
      exact this
    · rw [o2]
      have nx := ih (l + 1) M' (by omega) (z_fr_tr f f') (fun c => by omega)
      have le := z_ma_10 (o := M0 179) (set := set) (l := l)
      have ex : z_lk1 (fun l => z_ma (M0 179) set l) (l + 1) = if (z_ma (M0 179) set l : Int) < (z_lk1 (fun l => z_ma (M0 179) set l) l).2 then ((l : Int), (z_ma (M0 179) set l : Int)) else z_lk1 (fun l => z_ma (M0 179) set l) l := rfl
      by_cases l0 : l = 0
      · subst l0
        have e0 : z_lk1 (fun l => z_ma (M0 179) set l) 0 = (-1, 11) := rfl
        rw [ex, e0, if_pos (by show (z_ma (M0 179) set 0 : Int) < 11; omega), if_neg (by omega)] at nx
        rw [if_pos rfl]
        exact ⟨fun _ => nx, fun g2 => absurd (by omega) g2⟩
      · rw [if_neg l0]
        refine ⟨fun g2 => ?_, fun g2 => ?_⟩
        · rw [ex, if_pos g2, if_neg (by omega)] at nx
          exact nx
        · rw [ex, if_neg g2, if_neg (by omega)] at nx; exact nx
/-- the two calls -/
def z_wmP (M : q_Mem) (t v : Int) : Prop := (∃ c, z_rfP M t c ∧ ¬ c = 0 ∧ v = c) ∨ (z_rfP M t 0 ∧ v = (z_wms (M 179) (z_tv M t) (M 206 t).toNat : Int))
def z_asP (M : q_Mem) (t v : Int) : Prop := (∃ c, z_rfP M t c ∧ ¬ c = 0 ∧ v = c) ∨ (z_rfP M t 0 ∧ v = z_askA (M 179) (z_wms (M 179) (z_tv M t) (M 206 t).toNat))
theorem z_wmP_un {M : q_Mem} {t v v' : Int} (h : z_wmP M t v) (h' : z_wmP M t v') : v = v' := by
  rcases h with ⟨c, a, b, e⟩ | ⟨a, e⟩ <;> rcases h' with ⟨c', a', b', e'⟩ | ⟨a', e'⟩
  · rw [e, e']; exact z_rfP_un a a'
  · exact absurd (z_rfP_un a a') b
  · exact absurd (z_rfP_un a' a) b'
  · rw [e, e']
theorem z_asP_un {M : q_Mem} {t v v' : Int} (h : z_asP M t v) (h' : z_asP M t v') : v = v' := by
  rcases h with ⟨c, a, b, e⟩ | ⟨a, e⟩ <;> rcases h' with ⟨c', a', b', e'⟩ | ⟨a', e'⟩
  · rw [e, e']; exact z_rfP_un a a'
  · exact absurd (z_rfP_un a a') b
  · exact absurd (z_rfP_un a' a) b'
  · rw [e, e']
theorem z_rfP_0 {M : q_Mem} {t : Int} (h : z_rfP M t 0) : (0 ≤ t ∧ t < 4) ∧ ¬ M 205 t = -1 ∧ (1 ≤ M 206 t ∧ M 206 t ≤ 8) ∧ (∀ i, i < (M 206 t).toNat → z_vo (M 179) (z_tv M t i)) := by
  rcases h with ⟨a, b⟩ | ⟨a, b, e⟩ | ⟨a, b, e, f⟩ | ⟨a, b, e, f, g⟩ | ⟨a, b, e, f, g⟩
  · omega
  · omega
  · omega
  · omega
  · exact ⟨a, b, e, f⟩
theorem R_warms {d : Nat} {M : q_Mem} {K : Int → q_Mem → Prop} {t : Int} (hd : 7 < d) (hR : z_IV M) (h0 : z_rfP M t 0) (h : ∀ M', z_IV M' → (∀ a, 178 ≤ a → M' a = M a) → K (z_wms (M 179) (z_tv M t) (M 206 t).toNat : Int) M') : q_kI yX11_warmthsBy mX11_warmthsBy d [qR 1, qR (q_lay 89 (Int.toNat t))] M K := by
  obtain ⟨g1, g2, g3, g4⟩ := z_rfP_0 h0
  obtain ⟨m, rfl⟩ : ∃ m : Nat, t = (m : Int) := ⟨t.toNat, by omega⟩
  have l := z_l89 m (by omega)
  obtain ⟨mm, rm, m40, sz, so, sr, vs⟩ := z_RY_t hR.2.2.2.2.2.1 (t := m) (by omega) g2
  have tm : (M 206 (m : Int)).toNat = mm := by rw [rm, Int.toNat_natCast]
  rw [Int.toNat_natCast, l.1]
  rw [tm] at g4 h
  have hd1 : 6 < d := by omega
  exact q_goI hd1 rfl (plainFor_of_name (by decide +kernel)) rfl (fun h => nomatch h) (Nat.le_of_ble_eq_true rfl) (fun d hd => bX11_warmthsBy_0 _ l.2.1 (l_cwb (v := z_tv M m) hd (z_trx (by omega)) hR.1 hR.2.1.1 sz (by omega) (fun i hi => by rw [show (161 : Int) + 2 * (m : Int) + 1 = 162 + 2 * (m : Int) by omega]; exact vs i hi) g4 (fun M' f' => h M' (z_IV_lw hR f' (by decide)).1 (z_IV_lw hR f' (by decide)).2) 10 0 M (by omega) z_cf_rf))
theorem c_warms {d : Nat} {M : q_Mem} {K : Int → q_Mem → Prop} {t : Int} (hd : 8 < d) (hR : z_IV M) (h : ∀ v M', z_IV M' → (∀ a, 178 ≤ a → M' a = M a) → z_wmP M t v → K v M') : q_kI yX11_warms mX11_warms d [qR 1, qI t] M K :=
  q_goI hd rfl (plainFor_of_name (by decide +kernel)) rfl (fun h => nomatch h) (Nat.le_of_ble_eq_true rfl) (fun d hd => bX11_warms_0 _ (c_refw (by omega) hR (fun c hc => ⟨fun g => by
    subst g
    exact ⟨(z_rfP_0 hc).1, R_warms (by omega) hR hc (fun M' R' hi => h _ M' R' hi (Or.inr ⟨hc, rfl⟩))⟩, fun g => h _ M hR (fun _ _ => rfl) (Or.inl ⟨c, hc, g, rfl⟩)⟩)))
theorem k_clk {d : Nat} {M : q_Mem} {K : Int → q_Mem → Prop} {o : Int → Int} {set : Nat} (hd : 6 < d) (hE : z_E o) (hc : z_cst M o) (hs : set < 1024) (h : ∀ M', z_cf z_TL M M' → K (z_askA o set) M') : q_kI yX11_linkToAsk mX11_linkToAsk d [qR 1, qI (set : Int)] M K :=
  q_goI hd rfl (plainFor_of_name (by decide +kernel)) rfl (fun h => nomatch h) (Nat.le_of_ble_eq_true rfl) (fun d hd => bX11_linkToAsk_0 _ (l_clk hd hE hc hs h (z_L o) 0 M (by omega) z_cf_rf (fun _ => rfl)))
theorem c_ask {d : Nat} {M : q_Mem} {K : Int → q_Mem → Prop} {t : Int} (hd : 8 < d) (hR : z_IV M) (h : ∀ v M', z_IV M' → (∀ a, 178 ≤ a → M' a = M a) → z_asP M t v → K v M') : q_kI yX11_ask mX11_ask d [qR 1, qI t] M K :=
  q_goI hd rfl (plainFor_of_name (by decide +kernel)) rfl (fun h => nomatch h) (Nat.le_of_ble_eq_true rfl) (fun d hd => bX11_ask_0 _ (c_refw (by omega) hR (fun c hc => ⟨fun g => by
    subst g
    exact ⟨(z_rfP_0 hc).1, R_warms (by omega) hR hc (fun M1 R1 hi1 => k_clk (o := M 179) (by omega) hR.1 (by have := R1.2.1.1; rw [hi1 179 (by decide)] at this; exact this) z_wms_lt (fun M' f' => h _ M' (z_IV_lw R1 f' (by decide)).1 (fun a ha => ((z_IV_lw R1 f' (by decide)).2 a ha).trans (hi1 a ha)) (Or.inr ⟨hc, rfl⟩)))⟩, fun g => h _ M hR (fun _ _ => rfl) (Or.inl ⟨c, hc, g, rfl⟩)⟩)))
theorem R_rwarms {d : Nat} {M : q_Mem} {K : Int → q_Mem → Prop} {t : Int} (hd : 4 < d) (hR : z_IV M) (h0 : z_rfP M t 0) (h : ∀ M', z_IV M' → M' 179 = M 179 → K (z_wms (M 179) (z_tv M t) (M 206 t).toNat : Int) M') : q_kI yX12_warmthsOf mX12_warmthsOf d [qR 178, qI t] M K := by
  obtain ⟨g1, g2, g3, g4⟩ := z_rfP_0 h0
  obtain ⟨m, rfl⟩ : ∃ m : Nat, t = (m : Int) := ⟨t.toNat, by omega⟩
  obtain ⟨mm, rm⟩ : ∃ mm : Nat, M 206 (m : Int) = (mm : Int) := ⟨(M 206 (m : Int)).toNat, by omega⟩
  have tm : (M 206 (m : Int)).toNat = mm := by rw [rm, Int.toNat_natCast]
  rw [tm] at g4 h
  have hd1 : 3 < d := by omega
  exact q_goI hd1 rfl (plainFor_of_name (by decide +kernel)) rfl (fun h => nomatch h) (Nat.le_of_ble_eq_true rfl) (fun d hd => bX12_warmthsOf_0 _ (l_rwo (v := z_tv M m) hd (by omega) hR.1 rm (by omega) (fun i hi => rfl) g4 (fun M' f' => h M' (z_IV_r hR f' (by decide) (by decide)) (f'.1 179 (by decide) (by decide))) 10 0 M (by omega) z_fr_rf))
theorem z_rfP_e {M M1 : q_Mem} {t c : Int} (e1 : M1 179 = M 179) (e2 : M1 205 = M 205) (e3 : M1 206 = M 206) (e4 : M1 207 = M 207) (h : z_rfP M1 t c) : z_rfP M t c := by
  unfold z_rfP z_tv at *
  rw [e1, e2, e3, e4] at h
  exact h
theorem r_warms {d : Nat} {M : q_Mem} {K : Int → q_Mem → Prop} {t : Int} (hd : 6 < d) (hR : z_IV M) (h : ∀ v M', z_IV M' → z_wmP M t v → K v M') : q_kI yX12_warms mX12_warms d [qR 178, qI t] M K := by
  refine q_goI hd rfl (plainFor_of_name (by decide +kernel)) rfl (fun h => nomatch h) (Nat.le_of_ble_eq_true rfl) (fun d hd => bX12_warms_0 _ (fun M1 e1 => ?_))
  obtain ⟨R1, o1, f1⟩ := z_IV_0 hR e1
  have e205 := f1.1 205 (by decide) (by decide)
  have e206 := f1.1 206 (by decide) (by decide)
  have e207 := f1.1 207 (by decide) (by decide)
  refine r_refw (by omega) R1.1 (z_hiM R1 (fun _ _ => rfl)) (fun c hc => ⟨fun g => ?_, fun g => h _ M1 R1 (Or.inl ⟨c, z_rfP_e o1 e205 e206 e207 hc, g, rfl⟩)⟩)
  subst g
  refine R_rwarms (by omega) R1 hc (fun M' R' o' => h _ M' R' (Or.inr ⟨z_rfP_e o1 e205 e206 e207 hc, ?_⟩))
  unfold z_tv
  rw [o1, e206, e207]
theorem r_ask {d : Nat} {M : q_Mem} {K : Int → q_Mem → Prop} {t : Int} (hd : 6 < d) (hR : z_IV M) (h : ∀ v M', z_IV M' → z_asP M t v → K v M') : q_kI yX12_ask mX12_ask d [qR 178, qI t] M K := by
  refine q_goI hd rfl (plainFor_of_name (by decide +kernel)) rfl (fun h => nomatch h) (Nat.le_of_ble_eq_true rfl) (fun d hd => bX12_ask_0 _ (fun M1 e1 => ?_))
  obtain ⟨R1, o1, f1⟩ := z_IV_0 hR e1
  have e205 := f1.1 205 (by decide) (by decide)
  have e206 := f1.1 206 (by decide) (by decide)
  have e207 := f1.1 207 (by decide) (by decide)
  refine r_refw (by omega) R1.1 (z_hiM R1 (fun _ _ => rfl)) (fun c hc => ⟨fun g => ?_, fun g => h _ M1 R1 (Or.inl ⟨c, z_rfP_e o1 e205 e206 e207 hc, g, rfl⟩)⟩)
  subst g
  refine R_rwarms (by omega) R1 hc (fun M4 R4 o4 => ?_)
  refine l_rlk (M0 := M4) (by omega) R4.1 z_wms_lt (fun M' f' => h _ M' (z_IV_r R4 f' (by decide) (by decide)) (Or.inr ⟨z_rfP_e o1 e205 e206 e207 hc, ?_⟩)) (z_L (M4 179)) 0 M4 (by omega) z_fr_rf (fun _ => rfl)
  unfold z_tv
  rw [o4, o1, e206, e207]
theorem z_wmP_e {M M1 : q_Mem} {t v : Int} (hi : ∀ a, 178 ≤ a → M1 a = M a) (h : z_wmP M1 t v) : z_wmP M t v := by
  have r : ∀ c, z_rfP M1 t c → z_rfP M t c := fun c q => z_rfP_e (hi 179 (by decide)) (hi 205 (by decide)) (hi 206 (by decide)) (hi 207 (by decide)) q
  rcases h with ⟨c, a, b, e⟩ | ⟨a, e⟩
  · exact Or.inl ⟨c, r c a, b, e⟩
  · refine Or.inr ⟨r 0 a, ?_⟩
    unfold z_tv at e ⊢
    rw [hi 179 (by decide), hi 206 (by decide), hi 207 (by decide)] at e
    exact e
theorem z_asP_e {M M1 : q_Mem} {t v : Int} (hi : ∀ a, 178 ≤ a → M1 a = M a) (h : z_asP M1 t v) : z_asP M t v := by
  have r : ∀ c, z_rfP M1 t c → z_rfP M t c := fun c q => z_rfP_e (hi 179 (by decide)) (hi 205 (by decide)) (hi 206 (by decide)) (hi 207 (by decide)) q
  rcases h with ⟨c, a, b, e⟩ | ⟨a, e⟩
  · exact Or.inl ⟨c, r c a, b, e⟩
  · refine Or.inr ⟨r 0 a, ?_⟩
    unfold z_tv at e ⊢
    rw [hi 179 (by decide), hi 206 (by decide), hi 207 (by decide)] at e
    exact e
theorem tt_warms {d : Nat} {M : q_Mem} {K : Int → Int → q_Mem → Prop} {t : Int} (hd : 60 < d) (hR : z_IV M) (h : ∀ v M', z_IV M' → K v v M') : q_kI yX11_warms mX11_warms d [qR 1, qI t] M (fun v M1 => q_kI yX12_warms mX12_warms d [qR 178, qI t] M1 (fun v2 M2 => K v v2 M2)) :=
  c_warms (by omega) hR (fun v M1 R1 hi p1 => r_warms (by omega) R1 (fun v2 M' R' p2 => by rw [z_wmP_un p1 (z_wmP_e hi p2)]; exact h _ M' R'))
theorem tt_ask {d : Nat} {M : q_Mem} {K : Int → Int → q_Mem → Prop} {t : Int} (hd : 60 < d) (hR : z_IV M) (h : ∀ v M', z_IV M' → K v v M') : q_kI yX11_ask mX11_ask d [qR 1, qI t] M (fun v M1 => q_kI yX12_ask mX12_ask d [qR 178, qI t] M1 (fun v2 M2 => K v v2 M2)) :=
  c_ask (by omega) hR (fun v M1 R1 hi p1 => r_ask (by omega) R1 (fun v2 M' R' p2 => by rw [z_asP_un p1 (z_asP_e hi p2)]; exact h _ M' R'))
