-- the reference: what is kept of deeds, told deeds, worths
theorem l_stores {d : Nat} {K : q_Mem → Prop} {M0 : q_Mem} (h : ∀ M', z_fr [193] [] M0 M' → (∀ k : Nat, k < 50 → M' 193 k = M0 179 (1 + k)) → K M') :
    ∀ (j i : Nat) (M : q_Mem), i + j = 50 → z_fr [193] [] M0 M → (∀ k : Nat, k < i → M 193 k = M0 179 (1 + k)) → q_v mX12_stores d (qPU K) M 2 [some (qR 178), some (qI (i : Int))] [] := by
  intro j
  induction j with
  | zero =>
    intro i M e f q
    have ei : i = 50 := by omega
    subst ei
    exact bX12_stores_2 _ ⟨fun _ => h M f q, fun g => absurd (by omega) g⟩
  | succ j ih =>
    intro i M e f q
    refine bX12_stores_2 _ ⟨fun g => absurd g (by omega), fun _ => ?_⟩
    rw [q_add_eq (a := 1) (by omega), q_add_eq (a := (i : Int)) (by omega), show (i : Int) + 1 = ((i + 1 : Nat) : Int) by omega]
    refine ⟨by omega, by omega, fun M3 e3 => ih (i + 1) M3 (by omega) (z_fr_u f e3 (by decide) (by decide)) (fun k hk => ?_)⟩
    rw [e3]
    by_cases c : k = i
    · subst c; rw [q_up_s, f.1 179 (by decide) (by decide)]
    · rw [q_up_n (by omega)]; exact q k (by omega)
theorem k_stores {d : Nat} {M : q_Mem} {K : q_Mem → Prop}  (hd : 0 < d) (h : ∀ M', z_fr [193] [] M M' → (∀ k : Nat, k < 50 → M' 193 k = M 179 (1 + k)) → K M') : q_kU yX12_stores mX12_stores d [qR 178] M K :=
  q_goU hd rfl (plainFor_of_name (by decide +kernel)) rfl (fun h => nomatch h) (Nat.le_of_ble_eq_true rfl) (fun d hd => bX12_stores_0 (l_stores h 50 0 M (by omega) z_fr_rf (fun k hk => by omega)))
def z_agi (o w : Int → Int) (i : Int) : Int → Int := fun j => if 1 ≤ j ∧ j < 1 + i then w (j - 1) else o j
theorem l_isAgain {d : Nat} {K : q_Mem → Prop} {M0 : q_Mem} (h : ∀ M', z_fr [179] [] M0 M' → M' 179 = z_agi (M0 179) (M0 193) 50 → K M') :
    ∀ (j i : Nat) (M : q_Mem), i + j = 50 → z_fr [179] [] M0 M → M 179 = z_agi (M0 179) (M0 193) i → q_v mX12_isAgain d (qPU K) M 2 [some (qR 178), some (qI (i : Int))] [] := by
  intro j
  induction j with
  | zero =>
    intro i M e f q
    have ei : i = 50 := by omega
    subst ei
    exact bX12_isAgain_2 _ ⟨fun _ => h M f q, fun g => absurd (by omega) g⟩
  | succ j ih =>
    intro i M e f q
    refine bX12_isAgain_2 _ ⟨fun g => absurd g (by omega), fun _ => ?_⟩
    rw [q_add_eq (a := 1) (by omega), q_add_eq (a := (i : Int)) (by omega), show (i : Int) + 1 = ((i + 1 : Nat) : Int) by omega]
    refine ⟨by omega, by omega, fun M3 e3 => ih (i + 1) M3 (by omega) (z_fr_u f e3 (by decide) (by decide)) ?_⟩
    rw [e3, z_upP, q, f.1 193 (by decide) (by decide)]
    funext x
    unfold z_put z_agi
    by_cases c : x = 1 + (i : Int)
    · subst c
      rw [if_pos rfl, if_pos (by omega)]
      congr 1
      omega
    · rw [if_neg c]
      by_cases c2 : 1 ≤ x ∧ x < 1 + (i : Int)
      · rw [if_pos c2, if_pos (by omega)]
      · rw [if_neg c2, if_neg (by omega)]
theorem k_isAgain {d : Nat} {M : q_Mem} {K : q_Mem → Prop}  (hd : 0 < d) (h : ∀ M', z_fr [179] [] M M' → M' 179 = z_agi (M 179) (M 193) 50 → K M') : q_kU yX12_isAgain mX12_isAgain d [qR 178] M K :=
  q_goU hd rfl (plainFor_of_name (by decide +kernel)) rfl (fun h => nomatch h) (Nat.le_of_ble_eq_true rfl) (fun d hd => bX12_isAgain_0 (l_isAgain h 50 0 M (by omega) z_fr_rf (by funext x; unfold z_agi; rw [if_neg (by omega)])))
/-- what is kept -/
def z_shi (o : Int → Int) (i : Int) : Int → Int := fun j => if 103 ≤ j ∧ j < 103 + i then o (j + 50) else o j
def z_wri (o w : Int → Int) (c i : Int) : Int → Int := fun j => if 103 + 50 * c ≤ j ∧ j < 103 + 50 * c + i then w (j - 103 - 50 * c) else o j
def z_note (o w : Int → Int) : Int → Int := if o 102 = 10 then z_put (z_wri (z_put (z_shi o 450) 102 9) w 9 50) 102 10 else z_put (z_wri o w (o 102) 50) 102 (o 102 + 1)
theorem z_note_c {o w w' : Int → Int} (h : ∀ k : Nat, k < 50 → w k = w' k) : z_note o w = z_note o w' := by
  have e : ∀ o c, z_wri o w c 50 = z_wri o w' c 50 := fun o c => by
    funext j
    unfold z_wri
    by_cases g : 103 + 50 * c ≤ j ∧ j < 103 + 50 * c + 50
    · rw [if_pos g, if_pos g]
      have := h (j - 103 - 50 * c).toNat (by omega)
      rw [show (((j - 103 - 50 * c).toNat : Nat) : Int) = j - 103 - 50 * c by omega] at this
      exact this
    · rw [if_neg g, if_neg g]
  unfold z_note
  rw [e, e]
theorem l_nt59 {d : Nat} {K : q_Mem → Prop} {M0 : q_Mem} {o : Int → Int} {c : Nat} (hc : c < 10) (ho : o 102 = (c : Int)) (h : ∀ M', z_fr [179] [] M0 M' → M' 179 = z_put (z_wri o (M0 193) c 50) 102 ((c : Int) + 1) → K M') :
    ∀ (j i : Nat) (M : q_Mem), i + j = 50 → z_fr [179] [] M0 M → M 179 = z_wri o (M0 193) c i → q_v mX12_notes d (qPU K) M 59 [some (qR 178), some (qI (i : Int))] [] := by
  intro j
  induction j with
  | zero =>
    intro i M e f q
    have ei : i = 50 := by omega
    subst ei
    have e102 : M 179 102 = (c : Int) := by rw [q]; unfold z_wri; rw [if_neg (by omega)]; exact ho
    refine bX12_notes_59 _ ⟨fun _ M1 e1 => h M1 (z_fr_u f e1 (by decide) (by decide)) ?_, fun g => absurd (by omega) g⟩
    rw [e1, z_upP, e102, q_add_eq (by omega), q]
    rfl
  | succ j ih =>
    intro i M e f q
    have e102 : M 179 102 = (c : Int) := by rw [q]; unfold z_wri; rw [if_neg (by omega)]; exact ho
    refine bX12_notes_59 _ ⟨fun g => absurd g (by omega), fun _ => ?_⟩
    rw [e102, q_mul_eq (by omega), q_add_eq (a := 103) (by omega), q_add_eq (b := (i : Int)) (by omega), q_add_eq (a := (i : Int)) (by omega), show (i : Int) + 1 = ((i + 1 : Nat) : Int) by omega]
    refine ⟨by omega, by omega, fun M3 e3 => ih (i + 1) M3 (by omega) (z_fr_u f e3 (by decide) (by decide)) ?_⟩
    rw [e3, z_upP, q, f.1 193 (by decide) (by decide)]
    funext x
    unfold z_put z_wri
    by_cases c : x = 103 + 50 * (c : Int) + (i : Int)
    · subst c
      rw [if_pos rfl, if_pos (by omega)]
      congr 1
      omega
    · rw [if_neg c]
      rename_i cn _
      by_cases c2 : 103 + 50 * (cn : Int) ≤ x ∧ x < 103 + 50 * (cn : Int) + (i : Int)
      · rw [if_pos c2, if_pos (by omega)]
      · rw [if_neg c2, if_neg (by omega)]
theorem z_wri_0 {o w : Int → Int} {c : Int} : z_wri o w c 0 = o := by
  funext x
  unfold z_wri
  rw [if_neg (by omega)]
theorem l_nt14 {d : Nat} {K : q_Mem → Prop} {M0 : q_Mem} (ho : M0 179 102 = 10) (h : ∀ M', z_fr [179] [] M0 M' → M' 179 = z_put (z_wri (z_put (z_shi (M0 179) 450) 102 9) (M0 193) 9 50) 102 10 → K M') :
    ∀ (j i : Nat) (M : q_Mem), i + j = 450 → z_fr [179] [] M0 M → M 179 = z_shi (M0 179) i → q_v mX12_notes d (qPU K) M 14 [some (qR 178), some (qI (i : Int))] [] := by
  intro j
  induction j with
  | zero =>
    intro i M e f q
    have ei : i = 450 := by omega
    subst ei
    have e102 : M 179 102 = 10 := by rw [q]; unfold z_shi; rw [if_neg (by omega)]; exact ho
    refine bX12_notes_14 _ ⟨fun _ M1 e1 => ?_, fun g => absurd (by omega) g⟩
    rw [e102, q_sub_eq (by omega)] at e1
    have e193 : M1 193 = M0 193 := by rw [e1, q_up_o (by decide)]; exact f.1 193 (by decide) (by decide)
    refine l_nt59 (M0 := M1) (o := z_put (z_shi (M0 179) 450) 102 9) (c := 9) (by decide) z_put_s (fun M' f' q' => h M' (z_fr_tr (z_fr_u f e1 (by decide) (by decide)) f') (by rw [q', e193]; rfl)) 50 0 M1 (by omega) z_fr_rf ?_
    rw [show (((0 : Nat) : Nat) : Int) = 0 from rfl, z_wri_0, e1, z_upP, q]
    rfl
  | succ j ih =>
    intro i M e f q
    have e153 : M 179 (153 + (i : Int)) = M0 179 (153 + (i : Int)) := by rw [q]; unfold z_shi; rw [if_neg (by omega)]
    refine bX12_notes_14 _ ⟨fun g => absurd g (by omega), fun _ => ?_⟩
    rw [q_add_eq (a := 153) (by omega), q_add_eq (a := 103) (by omega), q_add_eq (a := (i : Int)) (by omega), show (i : Int) + 1 = ((i + 1 : Nat) : Int) by omega, e153]
    refine ⟨by omega, by omega, fun M3 e3 => ih (i + 1) M3 (by omega) (z_fr_u f e3 (by decide) (by decide)) ?_⟩
    rw [e3, z_upP, q]
    funext x
    unfold z_put z_shi
    by_cases c : x = 103 + (i : Int)
    · subst c
      rw [if_pos rfl, if_pos (by omega)]
      congr 1
      omega
    · rw [if_neg c]
      by_cases c2 : 103 ≤ x ∧ x < 103 + (i : Int)
      · rw [if_pos c2, if_pos (by omega)]
      · rw [if_neg c2, if_neg (by omega)]
theorem k_notes {d : Nat} {M : q_Mem} {K : q_Mem → Prop}  (hd : 0 < d) (hb : 0 ≤ M 179 102 ∧ M 179 102 ≤ 10) (h : ∀ M', z_fr [179] [] M M' → M' 179 = z_note (M 179) (M 193) → K M') : q_kU yX12_notes mX12_notes d [qR 178] M K := by
  unfold z_note at h
  refine q_goU hd rfl (plainFor_of_name (by decide +kernel)) rfl (fun h => nomatch h) (Nat.le_of_ble_eq_true rfl) (fun d hd => bX12_notes_0 ⟨fun g => ?_, fun g => ?_⟩)
  · simp only [if_neg g] at h
    obtain ⟨c, hc⟩ : ∃ c : Nat, M 179 102 = (c : Int) := ⟨(M 179 102).toNat, by omega⟩
    rw [hc] at h
    exact l_nt59 (M0 := M) (o := M 179) (c := c) (by omega) hc h 50 0 M (by omega) z_fr_rf (by rw [show (((0 : Nat) : Nat) : Int) = 0 from rfl, z_wri_0])
  · simp only [if_pos g] at h
    exact l_nt14 (M0 := M) g h 450 0 M (by omega) z_fr_rf (by funext x; unfold z_shi; rw [if_neg (by omega)])
/-- what tray no is there -/
theorem k_noTray {d : Nat} {M : q_Mem} {K : Int → q_Mem → Prop} {t : Int} (hd : 1 < d) (h2 : ¬ (0 ≤ t ∧ t < 4) → K (-2) M) (h6 : 0 ≤ t → t < 4 → M 205 t = -1 → K (-6) M) (h0 : 0 ≤ t → t < 4 → ¬ M 205 t = -1 → K 0 M) : q_kI yX12_noTray mX12_noTray d [qR 178, qI t] M K :=
  q_goI hd rfl (plainFor_of_name (by decide +kernel)) rfl (fun h => nomatch h) (Nat.le_of_ble_eq_true rfl) (fun d hd => bX12_noTray_0 _ (k_within (by omega) (fun a b => ⟨fun _ => ⟨by omega, fun g => h0 a (by omega) g, fun g => h6 a (by omega) g⟩, fun g => absurd g (by decide)⟩) (fun a => ⟨fun g => absurd rfl g, fun _ => h2 (by omega)⟩)))
/-- deeds told in a tray: how far they go, what is then -/
def z_tl (v : Nat → Int) : Nat → (Int → Int) → Nat → Prop → (Int → Int) → Prop
  | 0, o, n, stop, o' => n = 0 ∧ ¬ stop ∧ o' = o
  | m + 1, o, n, stop, o' => (¬ z_can o (v 0) ∧ n = 0 ∧ stop ∧ o' = o) ∨ (z_can o (v 0) ∧ ∃ n2, n = n2 + 1 ∧ z_tl (fun k => v (k + 1)) m (z_do o (v 0)) n2 stop o')
theorem z_tl_un {v : Nat → Int} : ∀ {m : Nat} {o : Int → Int} {n1 n2 : Nat} {s1 s2 : Prop} {o1 o2 : Int → Int} {v' : Nat → Int}, (∀ k, k < m → v k = v' k) → z_tl v m o n1 s1 o1 → z_tl v' m o n2 s2 o2 → n1 = n2 ∧ (s1 ↔ s2) ∧ o1 = o2 := by
  intro m
  induction m generalizing v with
  | zero =>
    intro o n1 n2 s1 s2 o1 o2 v' _ a b
    exact ⟨a.1.trans b.1.symm, ⟨fun g => absurd g a.2.1, fun g => absurd g b.2.1⟩, a.2.2.trans b.2.2.symm⟩
  | succ m ih =>
    intro o n1 n2 s1 s2 o1 o2 v' hv a b
    have e0 := hv 0 (by omega)
    rcases a with ⟨a1, a2, a3, a4⟩ | ⟨a1, x, a2, a3⟩ <;> rcases b with ⟨b1, b2, b3, b4⟩ | ⟨b1, y, b2, b3⟩
    · exact ⟨a2.trans b2.symm, ⟨fun _ => b3, fun _ => a3⟩, a4.trans b4.symm⟩
    · exact absurd (e0 ▸ b1) a1
    · exact absurd (e0 ▸ a1) b1
    · rw [e0] at a3
      have := ih (v := fun k => v (k + 1)) (v' := fun k => v' (k + 1)) (fun k hk => hv (k + 1) (by omega)) a3 b3
      exact ⟨by omega, this.2⟩
theorem z_tl_ok {v : Nat → Int} : ∀ {m : Nat} {o : Int → Int} {n : Nat} {s : Prop} {o' : Int → Int}, z_E o → z_tl v m o n s o' → z_E o' ∧ z_ost o o' ∧ n ≤ m ∧ (¬ s → n = m) ∧ (s → n < m) ∧ (n = 0 → o' = o) := by
  intro m
  induction m generalizing v with
  | zero =>
    intro o n s o' hE a
    obtain ⟨a, b, c⟩ := a
    subst a c
    exact ⟨hE, z_ost_rf, by omega, fun _ => rfl, fun g => absurd g b, fun _ => rfl⟩
  | succ m ih =>
    intro o n s o' hE a
    rcases a with ⟨a1, a2, a3, a4⟩ | ⟨a1, x, a2, a3⟩
    · subst a2 a4
      exact ⟨hE, z_ost_rf, by omega, fun g => absurd a3 g, fun _ => by omega, fun _ => rfl⟩
    · have d := z_E_do hE a1
      obtain ⟨b1, b2, b3, b4, b5, b6⟩ := ih d.1 a3
      exact ⟨b1, z_ost_tr d.2 b2, by omega, fun g => by have := b4 g; omega, fun g => by have := b5 g; omega, fun g => by omega⟩
theorem l_tells {d : Nat} {M0 : q_Mem} {K : Int → q_Mem → Prop} {t m : Nat} (hd : 4 ≤ d) (ht : t < 4) (hm : M0 206 t = (m : Int)) (hm40 : m ≤ 40) (v0 : Nat → Int) (hv : ∀ k, k < m → v0 k = M0 207 (40 * (t : Int) + (k : Int)))
    {o0 : Int → Int} (h : ∀ (M' : q_Mem) (n : Nat) (s : Prop), z_fr [179] [] M0 M' → z_tl v0 m o0 n s (M' 179) → (s → K (n : Int) M') ∧ (¬ s → K (-1) M')) :
    ∀ (j i : Nat) (M : q_Mem), i + j = m → z_fr [179] [] M0 M → z_E (M 179) → (∀ n s o', z_tl (fun k => v0 (i + k)) j (M 179) n s o' → z_tl v0 m o0 (i + n) s o') → q_v mX12_tells d (qPI K) M 2 [some (qR 178), some (qI (t : Int)), some (qI (i : Int))] [] := by
  intro j
  induction j with
  | zero =>
    intro i M e f hE q
    have ei : i = m := by omega
    subst ei
    have := q 0 False (M 179) ⟨rfl, id, rfl⟩
    refine bX12_tells_2 _ _ ⟨by omega, ?_⟩
    rw [f.1 206 (by decide) (by decide), hm]
    exact ⟨fun _ => (h M i False f (by simpa using this)).2 id, fun g => absurd (by omega) g⟩
  | succ j ih =>
    intro i M e f hE q
    have ev : M 207 (40 * (t : Int) + (i : Int)) = v0 i := by rw [f.1 207 (by decide) (by decide)]; exact (hv i (by omega)).symm
    refine bX12_tells_2 _ _ ⟨by omega, ?_⟩
    rw [f.1 206 (by decide) (by decide), hm, q_mul_eq (by omega), q_add_eq (by omega), ev]
    refine ⟨fun g => absurd g (by omega), fun _ => ⟨by omega, k_canBe (by omega) hE.1 (fun g => ⟨fun _ => ⟨by omega, ?_⟩, fun q => absurd q (by decide)⟩) (fun g => ⟨fun q => absurd rfl q, fun _ => ?_⟩)⟩⟩
    · rw [ev, q_l2i_eq (by unfold z_can at g; unfold q_in32; omega)]
      refine k_does (by omega) hE g (fun M' f' e' => ?_)
      rw [q_add_eq (by omega), show (i : Int) + 1 = ((i + 1 : Nat) : Int) by omega]
      refine ih (i + 1) M' (by omega) (z_fr_tr f f') (by rw [e']; exact (z_E_do hE g).1) (fun n s o' a => ?_)
      have := q (n + 1) s o' (Or.inr ⟨g, n, rfl, by rw [e'] at a; rw [show (fun k => (fun k => v0 (i + k)) (k + 1)) = (fun k => v0 (i + 1 + k)) by funext k; show v0 (i + (k + 1)) = _; congr 1; omega]; exact a⟩)
      rw [show i + 1 + n = i + (n + 1) by omega]
      exact this
    · exact (h M i True f (q 0 True (M 179) (Or.inl ⟨g, rfl, trivial, rfl⟩))).1 trivial
theorem k_tells {d : Nat} {M : q_Mem} {K : Int → q_Mem → Prop} {t m : Nat} (hd : 4 < d) (hE : z_E (M 179)) (ht : t < 4) (hm : M 206 t = (m : Int)) (hm40 : m ≤ 40) (h : ∀ (M' : q_Mem) (n : Nat) (s : Prop), z_fr [179] [] M M' → z_tl (fun k => M 207 (40 * (t : Int) + (k : Int))) m (M 179) n s (M' 179) → (s → K (n : Int) M') ∧ (¬ s → K (-1) M')) : q_kI yX12_tells mX12_tells d [qR 178, qI (t : Int)] M K :=
  q_goI hd rfl (plainFor_of_name (by decide +kernel)) rfl (fun h => nomatch h) (Nat.le_of_ble_eq_true rfl) (fun d hd => bX12_tells_0 _ (l_tells hd ht hm hm40 _ (fun k _ => rfl) h m 0 M (by omega) z_fr_rf hE (fun n s o' a => by simpa using a)))
theorem k_worthNow {d : Nat} {M : q_Mem} {K : Int → q_Mem → Prop}  (hd : 4 < d) (hE : z_E (M 179)) (h : ∀ M', z_fr [185, 186, 187] [] M M' → K (z_V2 (M 179) (z_s (M 179))) M') : q_kI yX12_worthNow mX12_worthNow d [qR 178] M K :=
  q_goI hd rfl (plainFor_of_name (by decide +kernel)) rfl (fun h => nomatch h) (Nat.le_of_ble_eq_true rfl) (fun d hd => bX12_worthNow_0 (k_laysWeights (by omega) hE.1 hE.2.1 hE.2.2.1 hE.2.2.2.1 (fun M1 f1 w1 => by
    have o1 : M1 179 = M 179 := f1.1 179 (by decide) (by decide)
    have s := z_E_s hE
    have hw : ∀ l : Nat, l < z_L (M1 179) → -99 ≤ M1 187 l ∧ M1 187 l ≤ 99 := fun l hl => by rw [o1] at hl; rw [w1 l hl]; exact z_wt_bd
    rw [o1, s.1]
    refine k_worthOf (by omega) (by omega) (by rw [o1]; exact hE.1) hw ?_
    have := h M1 f1
    rw [o1]
    unfold z_V2 at this
    rw [z_worth_c (w := M1 187) (w' := z_wr (M 179)) (fun l hl => z_wts_wr w1 hl)]
    exact this)))
theorem k_rgainOf {d : Nat} {M : q_Mem} {K : Int → q_Mem → Prop} {s n : Nat} (hd : 2 < d) (hs : s < 1024) (h9 : n < 10) (hn : z_net (M 179)) (hw : ∀ l : Nat, l < z_L (M 179) → M 187 l = z_wr (M 179) l) (h : K (z_V2 (M 179) (s ^^^ 2 ^ n) - z_V2 (M 179) s) M) : q_kI yX12_gainOf mX12_gainOf d [qR 178, qI (s : Int), qI (n : Int)] M K := by
  have hw2 : ∀ l : Nat, l < z_L (M 179) → -99 ≤ M 187 l ∧ M 187 l ≤ 99 := fun l hl => by rw [hw l hl]; exact z_wr_bd
  have b1 := z_V2_bd (s := s ^^^ 2 ^ n) hn
  have b2 := z_V2_bd (s := s) hn
  have x : s ^^^ 2 ^ n < 1024 := Nat.xor_lt_two_pow (n := 10) hs (Nat.pow_lt_pow_right (by decide) h9)
  refine q_goI hd rfl (plainFor_of_name (by decide +kernel)) rfl (fun h => nomatch h) (Nat.le_of_ble_eq_true rfl) (fun d hd => bX12_gainOf_0 _ _ ?_)
  rw [q_xor1 (by omega) (by omega)]
  refine k_worthOf (by omega) (by omega) hn hw2 (k_worthOf (by omega) (by omega) hn hw2 ?_)
  rw [z_worth_c (w := M 187) (w' := z_wr (M 179)) hw, z_worth_c (w := M 187) (w' := z_wr (M 179)) hw]
  show K (q_sub (z_V2 (M 179) (s ^^^ 2 ^ n)) (z_V2 (M 179) s)) M
  rw [q_sub_eq (by omega)]
  exact h
