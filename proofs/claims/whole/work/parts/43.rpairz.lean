-- the reference: laysPairs
/-- a net that stands -/
def z_E (o : Int → Int) : Prop := z_net o ∧ z_laws o ∧ z_gn o ∧ (0 ≤ o 1 ∧ o 1 ≤ 9) ∧ (0 ≤ o 2 ∧ o 2 < ((2 ^ z_N o : Nat) : Int)) ∧ z_ring o 1
def z_s (o : Int → Int) : Nat := (o 2).toNat
theorem z_E_s {o : Int → Int} (h : z_E o) : o 2 = (z_s o : Int) ∧ z_s o < 2 ^ z_N o ∧ z_s o < 1024 := by
  have a := h.2.2.2.2.1
  have b : z_s o < 2 ^ z_N o := by unfold z_s; omega
  exact ⟨by unfold z_s; omega, b, z_p10 b (z_net_N10 h.1)⟩
theorem l_ps34 {d : Nat} {K : Int → q_Mem → Prop} {M0 : q_Mem} {F : Nat} {p : Nat → Bool} (hF : F ≤ 16) (h25 : M0 178 25 = (F : Int)) (h192 : ∀ f : Nat, f < F → M0 192 f = if p f then 1 else 0)
    (h : ∀ M', z_fr [196, 198] [34] M0 M' → M' 178 34 = ((z_ol p F).length : Int) → (∀ i : Nat, i < (z_ol p F).length → M' 196 i = (z_at (z_ol p F) i : Int)) → (∀ f : Nat, f < F → M' 198 f = -1) → q_kU yX12_laysSets mX12_laysSets d [qR 178] M' (fun M1 => ∀ x2_2 : Int, x2_2 = (q_sub (q_shl 1 (M1 178 34)) 1) → q_v mX12_laysPairs d (qPI K) M1 100 [some (qR 178), none, some (qI x2_2), none, none] [])) :
    ∀ (j f : Nat) (M : q_Mem), f + j = F → z_fr [196, 198] [34] M0 M → M 178 34 = ((z_ol p f).length : Int) → (∀ i : Nat, i < (z_ol p f).length → M 196 i = (z_at (z_ol p f) i : Int)) → (∀ x : Nat, x < f → M 198 x = -1) → q_v mX12_laysPairs d (qPI K) M 34 [some (qR 178), none, some (qI (f : Int)), none, none] [] := by
  intro j
  induction j with
  | zero =>
    intro f M e fr e34 e196 e198
    have ef : f = F := by omega
    subst ef
    refine bX12_laysPairs_34 _ ?_
    rw [fr.2 25 (by decide), h25]
    exact ⟨fun _ => h M fr e34 e196 e198, fun g => absurd (by omega) g⟩
  | succ j ih =>
    intro f M e fr e34 e196 e198
    have ln := z_ol_len (p := p) (n := f)
    refine bX12_laysPairs_34 _ ?_
    rw [fr.2 25 (by decide), h25, q_add_eq (a := (f : Int)) (by omega), show (f : Int) + 1 = ((f + 1 : Nat) : Int) by omega]
    refine ⟨fun g => by omega, fun _ => ⟨by omega, fun M4 e4 => ⟨by omega, ?_⟩⟩⟩
    have m192 : M4 192 = M0 192 := by rw [e4, q_up_o (by decide)]; exact fr.1 192 (by decide) (by decide)
    have m34 : M4 178 34 = ((z_ol p f).length : Int) := by rw [e4, q_up_o (by decide)]; exact e34
    have n198 : ∀ x : Nat, x < f + 1 → M4 198 x = -1 := by
      intro x hx
      by_cases c : x = f
      · subst c; rw [e4, q_up_s]
      · rw [e4, q_up_n (by omega)]; exact e198 x (by omega)
    rw [m192, h192 f (by omega), m34]
    refine ⟨fun g => ⟨by omega, fun M7 e7 M8 e8 => ?_⟩, fun g => ?_⟩
    · have hp : p f = true := by
        cases c : p f
        · rw [c] at g; exact absurd rfl g
        · rfl
      have es : z_ol p (f + 1) = z_ol p f ++ [f] := by rw [z_ol_succ, if_pos hp]
      rw [show M7 178 34 = ((z_ol p f).length : Int) by rw [e7, q_up_o (by decide)]; exact m34, q_add_eq (by omega)] at e8
      refine ih (f + 1) M8 (by omega) (z_fr_uf (z_fr_u (z_fr_u fr e4 (by decide) (by decide)) e7 (by decide) (by decide)) e8 (by decide)) ?_ ?_ ?_
      · rw [e8, q_up_s, es, List.length_append, List.length_singleton]; omega
      · intro i hi
        rw [es, List.length_append, List.length_singleton] at hi
        rw [e8, q_up_o (by decide), es, z_at_app, e7]
        by_cases c : i < (z_ol p f).length
        · rw [if_pos c, q_up_n (by omega), e4, q_up_o (by decide)]; exact e196 i c
        · rw [if_neg c, if_pos (by omega), show i = (z_ol p f).length by omega, q_up_s]
      · intro x hx
        rw [e8, q_up_o (by decide), e7, q_up_o (by decide)]; exact n198 x hx
    · have hp : p f = false := by
        cases c : p f
        · rfl
        · rw [c] at g; exact absurd g (by decide)
      have es : z_ol p (f + 1) = z_ol p f := by rw [z_ol_succ, hp]; rfl
      refine ih (f + 1) M4 (by omega) (z_fr_u fr e4 (by decide) (by decide)) ?_ ?_ n198
      · rw [es]; exact m34
      · rw [es]; intro i hi; rw [e4, q_up_o (by decide)]; exact e196 i hi
theorem k_laysSets0 {d : Nat} {M : q_Mem} {K : q_Mem → Prop}  (hd : 0 < d) (h0 : M 178 34 = 0) (h : ∀ M', z_fr [197] [] M M' → K M') : q_kU yX12_laysSets mX12_laysSets d [qR 178] M K :=
  q_goU hd rfl (plainFor_of_name (by decide +kernel)) rfl (fun h => nomatch h) (Nat.le_of_ble_eq_true rfl) (fun d hd => bX12_laysSets_0 (fun M1 e1 => by
    refine bX12_laysSets_9 _ ⟨fun _ => h M1 (z_fr_u z_fr_rf e1 (by decide) (by decide)), fun g => ?_⟩
    rw [e1, q_up_o (by decide), h0] at g
    exact absurd (by decide) g))
abbrev z_PS : List Int := [185, 186, 187, 188, 189, 190, 191, 192, 194, 195, 196, 197, 198]
abbrev z_PFl : List Int := [25, 26, 34, 35]
theorem k_laysPairs {d : Nat} {M : q_Mem} {K : Int → q_Mem → Prop} {sg : Int} (hd : 4 < d) (hs : sg = 1 ∨ sg = -1) (hE : z_E (M 179)) (h0 : z_tw (M 179) ≠ 0 → ∀ M', z_fr z_PS z_PFl M M' → K 0 M') (h1 : z_tw (M 179) = 0 → ∀ (M' : q_Mem) (p' : Nat → Int) (jn' : Nat), z_fr z_PS z_PFl M M' → z_wts (M 179) (M' 187) (z_L (M 179)) → z_lrow (z_pt (M 179)) (M' 191) (z_N (M 179)) → M' 178 35 = (jn' : Int) → jn' < 65536 → (∀ f : Nat, f < z_fm (M 179) → M' 198 f = p' f) → z_PF (M 179) sg p' jn' → K 1 M') : q_kI yX12_laysPairs mX12_laysPairs d [qR 178, qI sg] M K := by
  obtain ⟨hn, hlw, hg, ht, _, hr⟩ := id hE
  have hL := z_net_L16 hn
  have h16 := z_fm_16 hn hr
  refine q_goI hd rfl (plainFor_of_name (by decide +kernel)) rfl (fun h => nomatch h) (Nat.le_of_ble_eq_true rfl) (fun d hd => bX12_laysPairs_0 _ (k_twistsNow (by omega) hn hr (fun M1 f1 q1 p1 c1 => ⟨fun z => ?_, fun z => h0 z M1 (z_fr_mono f1 (by decide) (by decide))⟩)))
  have o1 : M1 179 = M 179 := f1.1 179 (by decide) (by decide)
  refine k_laysWeights (by omega) (by rw [o1]; exact hn) (by rw [o1]; exact hlw) (by rw [o1]; exact hg) (by rw [o1]; exact ht) (fun M3 f3 w3 => ?_)
  rw [o1] at w3
  have o3 : M3 179 = M 179 := (f3.1 179 (by decide) (by decide)).trans o1
  have bd3 : ∀ l : Nat, l < z_L (M 179) → -99 ≤ M3 187 l ∧ M3 187 l ≤ 99 := fun l hl => by rw [w3 l hl]; exact z_wt_bd
  have e188 : M3 188 = M1 188 := f3.1 188 (by decide) (by decide)
  have e25 : M3 178 25 = M1 178 25 := f3.2 25 (by decide)
  refine k_laysOdd (by omega) hs (by rw [o3]; exact hn) (by rw [o3]; exact hr) (by rw [o3]; exact bd3) (by rw [o3, e188]; exact q1.2.1) (by rw [o3, e25]; exact q1.1) (fun M4 f4 q4 => ?_)
  rw [o3] at q4
  have o4 : M4 179 = M 179 := (f4.1 179 (by decide) (by decide)).trans o3
  have w4 : M4 187 = M3 187 := f4.1 187 (by decide) (by decide)
  have e188' : M4 188 = M1 188 := (f4.1 188 (by decide) (by decide)).trans e188
  have e25' : M4 178 25 = M1 178 25 := (f4.2 25 (by decide)).trans e25
  refine k_laysWays (fo := z_fo (M 179)) (F := z_fm (M 179)) (by omega) h16 (by rw [o4]; exact hn) (by rw [e25']; exact q1.1) (by rw [e188']; exact q1.2.1) (by rw [o4]; exact fun x hx => z_fo_in hn hr hx) (by rw [o4, w4]; exact bd3) (fun M5 f5 t5 M6 e6 M7 e7 => ?_)
  have o5 : M5 179 = M 179 := (f5.1 179 (by decide) (by decide)).trans o4
  have w5 : M5 187 = M3 187 := (f5.1 187 (by decide) (by decide)).trans w4
  rw [o4, w4] at t5
  have f7 : z_fr [185, 186, 187, 188, 189, 190, 191, 192, 194] [25, 26, 34, 35] M M7 := z_fr_uf (z_fr_uf (z_fr_tr (z_fr_tr (z_fr_tr (z_fr_mono f1 (by decide) (by decide)) (z_fr_mono f3 (by decide) (by decide))) (z_fr_mono f4 (by decide) (by decide))) (z_fr_mono f5 (by decide) (by decide))) e6 (by decide)) e7 (by decide)
  have r7 : ∀ a, a ≠ 178 → M7 a = M5 a := fun a ha => by rw [e7, q_up_o ha, e6, q_up_o ha]
  have o7 : M7 179 = M 179 := (r7 179 (by decide)).trans o5
  have hW7 : z_W M7 (z_fo (M 179)) (z_fm (M 179)) := by
    refine ⟨by rw [o7]; exact hn, h16, ?_, by rw [o7]; exact fun x hx => z_fo_in hn hr hx, ?_, ?_⟩
    · rw [r7 188 (by decide), f5.1 188 (by decide) (by decide), e188']; exact q1.2.1
    · rw [o7, r7 187 (by decide), w5]; exact bd3
    · rw [r7 194 (by decide), r7 187 (by decide), w5, o7]; exact t5
  have h25 : M7 178 25 = (z_fm (M 179) : Int) := by rw [e7, q_up_n (by decide), e6, q_up_n (by decide), f5.2 25 (by decide), e25']; exact q1.1
  have gdc : z_gd (M3 187) sg (z_L (M 179)) = z_gd (z_wr (M 179)) sg (z_L (M 179)) := z_gd_c (fun l hl => z_wts_wr w3 hl)
  rw [gdc] at q4
  refine l_ps34 (p := fun f => z_par (z_fo (M 179)) (z_gd (z_wr (M 179)) sg (z_L (M 179))) f (2 * z_L (M 179))) h16 h25 (fun f hf => ?_) (fun M8 f8 e34 e196 e198 => ?_) (z_fm (M 179)) 0 M7 (by omega) z_fr_rf ?_ (fun i hi => absurd hi (Nat.not_lt_zero _)) (fun x hx => by omega)
  · rw [r7 192 (by decide), f5.1 192 (by decide) (by decide)]; exact q4 f hf
  · have eol : z_ol (fun f => z_par (z_fo (M 179)) (z_gd (z_wr (M 179)) sg (z_L (M 179))) f (2 * z_L (M 179))) (z_fm (M 179)) = z_op1 (M 179) sg := rfl
    rw [eol] at e34 e196
    have o8 : M8 179 = M 179 := (f8.1 179 (by decide) (by decide)).trans o7
    have w8 : M8 187 = M3 187 := (f8.1 187 (by decide) (by decide)).trans ((r7 187 (by decide)).trans w5)
    have j8 : M8 178 35 = 0 := by rw [f8.2 35 (by decide), e7, q_up_s]
    have l8 : M8 191 = M1 191 := by rw [f8.1 191 (by decide) (by decide), r7 191 (by decide), f5.1 191 (by decide) (by decide), f4.1 191 (by decide) (by decide), f3.1 191 (by decide) (by decide)]
    have fr8 : z_fr z_PS z_PFl M M8 := z_fr_tr (z_fr_mono f7 (by decide) (by decide)) (z_fr_mono f8 (by decide) (by decide))
    have wc : ∀ l, l < z_L (M 179) → z_aw (M3 187) l = z_aw (z_wr (M 179)) l := fun l hl => by unfold z_aw; rw [z_wts_wr w3 hl]
    by_cases c0 : (z_op1 (M 179) sg).length = 0
    · refine k_laysSets0 (by omega) (by rw [e34, c0]; rfl) (fun M9 f9 x ex => ?_)
      rw [f9.2 34 (by decide), e34, c0] at ex
      have ex : x = 0 := by rw [ex]; decide
      subst ex
      refine bX12_laysPairs_100 _ ⟨fun _ => h1 z M9 (fun _ => -1) 0 (z_fr_tr fr8 (z_fr_mono f9 (by decide) (by decide))) ?_ ?_ ?_ (by decide) ?_ ⟨0, by rw [c0], rfl, rfl⟩, fun g => absurd rfl g⟩
      · rw [f9.1 187 (by decide) (by decide), w8]; exact w3
      · rw [f9.1 191 (by decide) (by decide), l8]; exact p1
      · rw [f9.2 35 (by decide)]; exact j8
      · rw [f9.1 198 (by decide) (by decide)]; exact e198
    · have n16 : (z_op1 (M 179) sg).length ≤ 16 := Nat.le_trans z_ol_len h16
      have hQ8 : z_Q M8 (z_at (z_op1 (M 179) sg)) (z_fm (M 179)) (z_op1 (M 179) sg).length := ⟨n16, e34, e196, fun i => z_op1_in (by omega)⟩
      have hW8 := z_W_fr hW7 f8 (by decide) (by decide) (by decide) (by decide)
      refine k_laysSets (by omega) hW8 hQ8 (fun M9 f9 pv x ex => ?_)
      have pos := Nat.two_pow_pos (z_op1 (M 179) sg).length
      have p16 : 2 ^ (z_op1 (M 179) sg).length ≤ 65536 := by show _ ≤ 2 ^ 16; exact Nat.pow_le_pow_right (by decide) n16
      rw [f9.2 34 (by decide), e34, q_shl1 _ (by omega), q_sub_eq (by omega), show ((2 ^ (z_op1 (M 179) sg).length : Nat) : Int) - 1 = ((2 ^ (z_op1 (M 179) sg).length - 1 : Nat) : Int) by omega] at ex
      subst ex
      rw [o8, w8] at pv
      obtain ⟨W, k, ho⟩ := z_whole hn hr (sg := sg)
      have ho' := z_po_c (fun l hl => (wc l hl).symm) ho
      obtain ⟨m, hpr⟩ := ho'.1
      have o9 : M9 179 = M 179 := (f9.1 179 (by decide) (by decide)).trans o8
      have w9 : M9 187 = M3 187 := (f9.1 187 (by decide) (by decide)).trans w8
      refine l_ps100 (M0 := M9) (fo := z_fo (M 179)) (F := z_fm (M 179)) (w := M3 187) (L := z_L (M 179)) hd m _ M9 (fun _ => -1) 0 W k z_fr_rf (z_W_fr hW8 f9 (by decide) (by decide) (by decide) (by decide)) ⟨n16, by rw [f9.2 34 (by decide)]; exact e34, by rw [f9.1 196 (by decide) (by decide)]; exact e196, fun i => z_op1_in (by omega)⟩ w9 (by rw [o9]) pv (by omega) hpr ho' (by rw [f9.1 198 (by decide) (by decide)]; exact e198) (by rw [f9.2 35 (by decide)]; exact j8) (by decide) (fun M' p' jn' a1 a2 a3 a4 a5 => ?_)
      refine h1 z M' p' jn' (z_fr_tr (z_fr_tr fr8 (z_fr_mono f9 (by decide) (by decide))) (z_fr_mono a1 (by decide) (by decide))) ?_ ?_ a3 a4 a2 ⟨m, z_fin_c wc a5⟩
      · rw [a1.1 187 (by decide) (by decide), w9]; exact w3
      · rw [a1.1 191 (by decide) (by decide), f9.1 191 (by decide) (by decide), l8]; exact p1
  · rw [e7, q_up_n (by decide), e6, q_up_s]; rfl
