-- deeds told by calls: flip, weigh, warm, turn, fall, sides, undo
def z_ro (M : q_Mem) (o : Int → Int) : q_Mem := fun b => if b = 179 then o else M b
theorem z_ro_s {M : q_Mem} {o : Int → Int} : z_ro M o 179 = o := if_pos rfl
theorem z_ro_n {M : q_Mem} {o : Int → Int} {a : Int} (h : a ≠ 179) : z_ro M o a = M a := if_neg h
/-- behind a deed in both -/
theorem z_IV_d {S F : List Int} {M M1 M2 : q_Mem} {o' : Int → Int} (h : z_K M1 (z_ro M o')) (hi : ∀ a, 178 ≤ a → M1 a = M a) (f : z_fr S F M1 M2) (hS : ∀ a ∈ S, a = 179 ∨ (181 < a ∧ a ≠ 205 ∧ a ≠ 206 ∧ a ≠ 207)) (hF : (7 : Int) ∉ F ∧ (15 : Int) ∉ F ∧ (16 : Int) ∉ F) (e' : M2 179 = o') : z_IV M2 := by
  have e : ∀ a, a ≠ 178 → a ≠ 179 → (a ≤ 181 ∨ a = 205 ∨ a = 206 ∨ a = 207) → M2 a = M1 a := fun a g1 g0 g2 => f.1 a (fun q => by have := hS a q; omega) g1
  have k : ∀ a, a ≠ 179 → 178 ≤ a → z_ro M o' a = M1 a := fun a g g2 => by rw [z_ro_n g, hi a g2]
  refine z_K_mv h (fun k _ => by rw [e 1 (by decide) (by decide) (by decide)]) (fun a g1 g2 g3 => e a (by omega) (by omega) (by omega)) ?_ (by rw [z_ro_s, e']) ?_ ?_ ?_ ?_ ?_ ?_ ?_ ?_
  · rw [e']
    have r := h.2.1
    rw [z_ro_s] at r
    exact z_RC_lo r (by have := h.1; rwa [z_ro_s] at this) (fun a g => e a (by omega) (by omega) (by omega))
  · rw [k 180 (by decide) (by decide)]; exact e 180 (by decide) (by decide) (by decide)
  · rw [k 181 (by decide) (by decide)]; exact e 181 (by decide) (by decide) (by decide)
  · rw [k 205 (by decide) (by decide)]; exact e 205 (by decide) (by decide) (by decide)
  · rw [k 206 (by decide) (by decide)]; exact e 206 (by decide) (by decide) (by decide)
  · rw [k 207 (by decide) (by decide)]; exact e 207 (by decide) (by decide) (by decide)
  · rw [k 178 (by decide) (by decide)]; exact f.2 7 hF.1
  · rw [k 178 (by decide) (by decide)]; exact f.2 15 hF.2.1
  · rw [k 178 (by decide) (by decide)]; exact f.2 16 hF.2.2
/-- what a deed told by a call leaves in the class -/
def z_dq (M M' : q_Mem) : Prop := (∀ a, a ≠ 1 → ¬ (50 ≤ a ∧ a ≤ 55) → ¬ (56 ≤ a ∧ a ≤ 87) → ¬ z_QP a → M' a = M a) ∧ ∀ k, k ≠ 18 → M' 1 k = M 1 k
theorem z_dq_rf {M : q_Mem} : z_dq M M := ⟨fun _ _ _ _ _ => rfl, fun _ _ => rfl⟩
theorem z_dq_tr {M M' M'' : q_Mem} (h : z_dq M M') (h2 : z_dq M' M'') : z_dq M M'' := ⟨fun a g1 g2 g3 g4 => (h2.1 a g1 g2 g3 g4).trans (h.1 a g1 g2 g3 g4), fun k g => (h2.2 k g).trans (h.2 k g)⟩
theorem z_dq_df {M M' : q_Mem} (h : z_df M M') : z_dq M M' := ⟨fun a g1 g2 _ _ => h.1 a g1 (by omega), h.2⟩
theorem z_dq_qf {M M' : q_Mem} (h : z_qf M M') : z_dq M M' := ⟨fun a g1 _ _ g4 => h.1 a g1 g4, h.2⟩
theorem z_dq_kp {M M' : q_Mem} (h : ∀ a, ¬ (56 ≤ a ∧ a ≤ 87) → M' a = M a) : z_dq M M' := ⟨fun a _ _ g3 _ => h a g3, fun k _ => by rw [h 1 (by omega)]⟩
theorem z_dq_hi {M M' : q_Mem} (h : z_dq M M') {a : Int} (ha : 178 ≤ a) : M' a = M a := h.1 a (by omega) (by omega) (by omega) (by unfold z_QP; omega)
theorem z_RC_kp {M M' : q_Mem} {o : Int → Int} (h : z_RC M o) (hE : z_E o) (e : ∀ a, ¬ (53 ≤ a ∧ a ≤ 87) → M' a = M a) : z_RC M' o := by
  obtain ⟨c, fr, ca⟩ := h
  refine ⟨z_cst_eq c (by rw [e 1 (by omega)]) (fun a ha => e a ?_), fr, z_ca_eq hE ca (by rw [e 1 (by omega)]) (fun k a hk ha => e a (by unfold z_OP at ha; omega))⟩
  have : ∀ b ∈ z_CO, b < 53 := by decide
  have := this a ha
  omega
theorem z_RC_h {o o' : Int → Int} (h : z_onh o o') (hE : z_E o) {M : q_Mem} (q : z_RC M o) : z_RC M o' := by
  obtain ⟨c, fr, ca⟩ := q
  exact ⟨z_cst_h h hE c, fr, z_ca_h h hE ca⟩
theorem z_RC_q {M M' : q_Mem} {o : Int → Int} (c : z_cst M' o) {fr : Nat} (ca : z_ca M' o fr) : z_RC M' o := ⟨c, fr, ca⟩
theorem z_RI_o {M : q_Mem} {o o' hI : Int → Int} (h : z_RI M o hI) (e : ∀ j : Int, 1504 ≤ j → o' j = o j) : z_RI M o' hI := by
  have : ∀ i, z_imr o' i = z_imr o i := fun i => by
    funext k
    unfold z_imr
    by_cases g : 0 ≤ k ∧ k < 1504
    · rw [if_pos g, if_pos g, e _ (by omega)]
    · rw [if_neg g, if_neg g]
  intro i hi
  rw [this i]
  exact h i hi
/-- the class behind a deed that is kept -/
theorem z_K_new {M M1 : q_Mem} {o' : Int → Int} (hR : z_IV M) (f : z_dq M M1) (E' : z_E o') (rc : z_RC M1 o') (hs : z_hs M1 o') (hi : ∀ j : Int, 1504 ≤ j → o' j = M 179 j) : z_K M1 (z_ro M o') := by
  obtain ⟨h1, h2, h3, h4, h5, h6, h7, h8⟩ := hR
  unfold z_K
  rw [z_ro_s, z_ro_n (by decide), z_ro_n (by decide), z_ro_n (by decide), z_ro_n (by decide), z_ro_n (by decide), z_ro_n (by decide)]
  refine ⟨E', rc, by rw [f.2 5 (by decide), f.2 4 (by decide)]; exact h3, hs, ?_, ?_, ?_, ?_⟩
  · exact z_RI_o (z_RI_eq h5 (fun a g1 g2 => f.1 a (by omega) (by omega) (by omega) (by unfold z_QP; omega))) hi
  · exact z_RY_eq h6 (fun a g1 g2 => f.1 a (by omega) (by omega) (by omega) (by unfold z_QP; omega))
  · exact z_RP_eq h7 (f.2 1 (by decide)) (f.1 2 (by decide) (by decide) (by decide) (by unfold z_QP; omega))
  · rw [f.2 2 (by decide), f.2 3 (by decide)]; exact h8
theorem z_K_note {M M3 M1 : q_Mem} {o1 : Int → Int} (hR : z_IV M) (f : z_dq M M1) (ho : z_ost (M 179) o1) (E1 : z_E o1) (rc : z_RC M1 o1) (hs : z_hs M3 (z_note o1 (fun k => M 179 (1 + k)))) (f3 : ∀ a, 56 ≤ a → a ≤ 87 → M1 a = M3 a) : z_K M1 (z_ro M (z_note o1 (fun k => M 179 (1 + k)))) := by
  have hb := z_hs_n hR.2.2.2.1
  have hb1 : 0 ≤ o1 102 ∧ o1 102 ≤ 10 := by rw [ho 102 (by omega)]; exact hb
  have on := z_onh_note (w := fun k => M 179 (1 + k)) hb1
  exact z_K_new hR f (z_E_h on E1) (z_RC_h on E1 rc) (z_hs_eq hs f3) (fun j hj => by rw [on j (by omega)]; exact ho j (by omega))
/-- kept first, in the class -/
theorem R_keep {d : Nat} {M : q_Mem} {K : q_Mem → Prop} (hd : 2 < d) (hR : z_IV M) (h : ∀ M3, z_dq M M3 → z_RC M3 (M 179) → (∀ o1, z_ost (M 179) o1 → z_hs M3 (z_note o1 (fun k => M 179 (1 + k)))) → K M3) : q_kU yX0_keep mX0_keep d [qR 56, qR 50] M K :=
  k_keep (by omega) (Or.inl rfl) hR.1 hR.2.2.2.1 hR.2.1.1.2.2 (fun M3 f3 s3 => h M3 (z_dq_kp f3) (z_RC_kp hR.2.1 hR.1 (fun a g => f3 a (by omega))) s3)
/-- flip -/
theorem c_flip {d : Nat} {M : q_Mem} {K : Int → q_Mem → Prop} {n : Int} (hd : 24 < d) (hR : z_IV M) (h1 : 0 ≤ n → n < z_N (M 179) → ∀ M', (∀ a, 178 ≤ a → M' a = M a) → z_K M' (z_ro M (z_note (z_flp (M 179) n.toNat) (fun k => M 179 (1 + k)))) → K (z_V2 (M 179) (z_s (M 179) ^^^ 2 ^ n.toNat)) M') (h0 : ¬ (0 ≤ n ∧ n < z_N (M 179)) → K (-99000011) M) : q_kI yX11_flip mX11_flip d [qR 1, qI n] M K := by
  have hN := z_net_N10 hR.1.1
  have s := z_E_s hR.1
  refine q_goI hd rfl (plainFor_of_name (by decide +kernel)) rfl (fun h => nomatch h) (Nat.le_of_ble_eq_true rfl) (fun d hd => bX11_flip_0 _ (k_hasNode (by omega) hR.1.1 hR.2.1.1 (fun g1 g2 => ⟨fun _ => R_keep (by omega) hR (fun M3 d3 r3 s3 M4 e4 => ?_), fun q => absurd q (by decide)⟩) (fun g => ⟨fun q => absurd rfl q, fun _ => h0 g⟩)))
  obtain ⟨m, rfl⟩ : ∃ m : Nat, n = (m : Int) := ⟨n.toNat, by omega⟩
  rw [Int.toNat_natCast] at h1
  rw [z_E_sM hR.1 r3.1, q_xor1 (by omega) (by omega)] at e4
  obtain ⟨d4, c4, fr, a4⟩ := z_rc_fl hR.1 r3 (z_flip_lt s.2.1 (n := m) (by omega)) e4
  have E1 := z_E_fl hR.1 (n := m) (by omega)
  have ho : z_ost (M 179) (z_flp (M 179) m) := z_ost_put (by omega)
  refine k_cworth (by omega) E1 c4 a4 (fun M5 f5 c5 a5 => ?_)
  have vp := z_V2_put hR.1 (s := z_s (M 179) ^^^ 2 ^ m)
  have := h1 g1 g2 M5 (fun a ha => (z_qf_hi f5 ha).trans ((z_dq_hi (z_dq_df d4) ha).trans (z_dq_hi d3 ha))) (z_K_note hR (z_dq_tr (z_dq_tr d3 (z_dq_df d4)) (z_dq_qf f5)) ho E1 ⟨c5, _, a5⟩ (s3 _ ho) (fun a q1 q2 => (f5.1 a (by omega) (by unfold z_QP; omega)).trans (d4.1 a (by omega) (by omega))))
  unfold z_flp
  rw [vp.1, z_s_put]
  exact this
theorem r_flip {d : Nat} {M : q_Mem} {K : Int → q_Mem → Prop} {n : Int} (hd : 5 < d) (hE : z_E (M 179)) (hb : 0 ≤ M 179 102 ∧ M 179 102 ≤ 10) (h1 : 0 ≤ n → n < z_N (M 179) → ∀ M', z_fr [179, 185, 186, 187, 193] [0] M M' → M' 179 = z_note (z_flp (M 179) n.toNat) (fun k => M 179 (1 + k)) → K (z_V2 (M 179) (z_s (M 179) ^^^ 2 ^ n.toNat)) M') (h0 : ¬ (0 ≤ n ∧ n < z_N (M 179)) → ∀ M', z_fr [] [0] M M' → K (-99000011) M') : q_kI yX12_flip mX12_flip d [qR 178, qI n] M K := by
  have hN := z_net_N10 hE.1
  have s := z_E_s hE
  refine q_goI hd rfl (plainFor_of_name (by decide +kernel)) rfl (fun h => nomatch h) (Nat.le_of_ble_eq_true rfl) (fun d hd => bX12_flip_0 _ (fun M1 e1 => ?_))
  have f1 : z_fr [] [0] M M1 := by rw [e1]; exact z_fr_f (by decide)
  have o1 : M1 179 = M 179 := f1.1 179 (by decide) (by decide)
  refine k_isNode (by omega) (by rw [o1]; exact hE.1) (fun g1 g2 => ⟨fun _ => k_stores (by omega) (fun M4 f4 w4 M5 e5 => ?_), fun q => absurd q (by decide)⟩) (fun g => ⟨fun q => absurd rfl q, fun _ => ?_⟩)
  · rw [o1] at g2
    have o4 : M4 179 = M 179 := (f4.1 179 (by decide) (by decide)).trans o1
    obtain ⟨m, rfl⟩ : ∃ m : Nat, n = (m : Int) := ⟨n.toNat, by omega⟩
    rw [Int.toNat_natCast] at h1
    rw [o4, s.1, q_xor1 (by omega) (by omega)] at e5
    have o5 : M5 179 = z_flp (M 179) m := by rw [e5, z_upP, o4]; rfl
    have E1 := z_E_fl hE (n := m) (by omega)
    have b1 : 0 ≤ z_flp (M 179) m 102 ∧ z_flp (M 179) m 102 ≤ 10 := by
      unfold z_flp
      rw [z_put_n (by omega)]; exact hb
    refine k_notes (by omega) (by rw [o5]; exact b1) (fun M6 f6 e6 => ?_)
    have o6 : M6 179 = z_note (z_flp (M 179) m) (fun k => M 179 (1 + k)) := by
      rw [e6, o5]
      exact z_note_c (fun k hk => by rw [e5, q_up_o (by decide), w4 k hk, o1])
    have on := z_onh_note (w := fun k => M 179 (1 + k)) b1
    have E6 := z_E_h on E1
    refine k_worthNow (by omega) (by rw [o6]; exact E6) (fun M7 f7 => ?_)
    rw [o6, e_V2 (z_onh_n on) E1.1 E1.2.1 (z_onh_w on), z_s_h on]
    have vp := z_V2_put hE (s := z_s (M 179) ^^^ 2 ^ m)
    have := h1 g1 g2 M7 (z_fr_tr (z_fr_tr (z_fr_tr (z_fr_tr (z_fr_mono f1 (by decide) (by decide)) (z_fr_mono f4 (by decide) (by decide))) (z_fr_u z_fr_rf e5 (by decide) (by decide))) (z_fr_mono f6 (by decide) (by decide))) (z_fr_mono f7 (by decide) (by decide))) ((f7.1 179 (by decide) (by decide)).trans o6)
    unfold z_flp
    rw [vp.1, z_s_put]
    exact this
  · rw [o1] at g
    exact h0 g M1 f1
theorem z_hiE {M M1 : q_Mem} (hR : z_IV M) (hi : ∀ a, 178 ≤ a → M1 a = M a) : z_E (M1 179) ∧ (0 ≤ M1 179 102 ∧ M1 179 102 ≤ 10) := by
  rw [hi 179 (by decide)]
  exact ⟨hR.1, z_hs_n hR.2.2.2.1⟩
theorem tt_flip {d : Nat} {M : q_Mem} {K : Int → Int → q_Mem → Prop} {n : Int} (hd : 60 < d) (hR : z_IV M) (h : ∀ v M', z_IV M' → K v v M') : q_kI yX11_flip mX11_flip d [qR 1, qI n] M (fun v M1 => q_kI yX12_flip mX12_flip d [qR 178, qI n] M1 (fun v2 M2 => K v v2 M2)) :=
  c_flip (by omega) hR (fun g1 g2 M1 hi k1 => r_flip (by omega) (z_hiE hR hi).1 (z_hiE hR hi).2 (fun q1 q2 M2 f2 e2 => by
    rw [hi 179 (by decide)] at e2 ⊢
    exact h _ M2 (z_IV_d k1 hi f2 (by decide) (by decide) e2)) (fun g => by rw [hi 179 (by decide)] at g; exact absurd ⟨g1, g2⟩ g)) (fun g => r_flip (by omega) hR.1 (z_hs_n hR.2.2.2.1) (fun q1 q2 => absurd ⟨q1, q2⟩ g) (fun _ M2 f2 => h _ M2 (z_IV_r hR f2 (by decide) (by decide))))
