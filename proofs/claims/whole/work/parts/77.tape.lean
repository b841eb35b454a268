-- the tape, lists
theorem z_255 : ∀ i : Nat, i < 32 → (255#32).getLsbD i = decide (i < 8) := by decide
theorem z_byte32 (b : Int32) : (b.toInt8.toInt32.toInt8.toInt32 &&& 255) = b &&& 255 := by
  apply Int32.toBitVec_inj.mp
  rw [Int32.toBitVec_and, Int32.toBitVec_and]
  show (((((b.toBitVec.signExtend 8).signExtend 32).signExtend 8).signExtend 32) &&& 255#32) = b.toBitVec &&& 255#32
  apply BitVec.eq_of_getLsbD_eq
  intro i hi
  rw [BitVec.getLsbD_and, BitVec.getLsbD_and, z_255 i hi]
  by_cases c : i < 8
  · have s1 : ∀ (w v : Nat) (x : BitVec w), i < v → i < w → (x.signExtend v).getLsbD i = x.getLsbD i := fun w v x h1 h2 => by
      rw [BitVec.getLsbD_signExtend]
      simp only [h1, h2, decide_true, Bool.true_and, if_true]
    rw [s1 8 32 _ hi c, s1 32 8 _ c hi, s1 8 32 _ hi c, s1 32 8 _ c hi]
  · simp [c]
theorem z_byte (y : Int) : q_and (q_nb (q_i2b y)) 255 = q_and y 255 := by
  unfold q_and q_nb q_i2b
  rw [Int32.ofInt_toInt, Int32.ofInt_toInt]
  show ((Int32.ofInt y).toInt8.toInt32.toInt8.toInt32 &&& 255).toInt = (Int32.ofInt y &&& 255).toInt
  rw [z_byte32]
theorem z_and255 (y : Int) : 0 ≤ q_and y 255 ∧ q_and y 255 ≤ 255 := by
  unfold q_and
  have e : (Int32.ofInt y &&& Int32.ofInt 255).toBitVec.toNat ≤ 255 := by
    rw [Int32.toBitVec_and, BitVec.toNat_and]
    exact Nat.and_le_right
  have e2 : (Int32.ofInt y &&& Int32.ofInt 255).toInt = ((Int32.ofInt y &&& Int32.ofInt 255).toBitVec.toNat : Int) := by
    show (Int32.ofInt y &&& Int32.ofInt 255).toBitVec.toInt = _
    exact BitVec.toInt_eq_toNat_of_lt (by omega)
  omega
theorem k_put {d : Nat} {M : q_Mem} {K : q_Mem → Prop} {w : Int} {T : Nat} (hd : 0 < d) (hT : M 1 1 = (T : Int)) (h9 : T + 4 ≤ 900) (h : ∀ M', (∀ a, a ≠ 1 → a ≠ 2 → M' a = M a) → (∀ k, k ≠ 1 → M' 1 k = M 1 k) → M' 1 1 = ((T + 4 : Nat) : Int) → (∀ j : Int, ¬ ((T : Int) ≤ j ∧ j < (T : Int) + 4) → M' 2 j = M 2 j) → (∀ i : Nat, i < 4 → M' 2 ((T + i : Nat) : Int) = q_nb (q_i2b (q_shr w (24 - 8 * (i : Int))))) → K M') : q_kU yX11_putOnTape mX11_putOnTape d [qR 1, qI w] M K := by
  refine q_goU hd rfl (plainFor_of_name (by decide +kernel)) rfl (fun h => nomatch h) (Nat.le_of_ble_eq_true rfl) (fun d hd => bX11_putOnTape_0 _ (bX11_putOnTape_3 _ _ ⟨fun g => absurd g (by decide), fun _ => ?_⟩))
  rw [hT]
  refine ⟨fun g => absurd g (by omega), fun _ => ⟨by omega, fun M1 e1 M2 e2 => ?_⟩⟩
  rw [show M1 1 1 = (T : Int) by rw [e1, q_up_o (by decide)]; exact hT, q_add_eq (by omega)] at e2
  rw [show q_add 24 (-8) = 16 by decide +kernel]
  refine bX11_putOnTape_3 _ _ ⟨fun g => absurd g (by decide), fun _ => ?_⟩
  rw [show M2 1 1 = (T : Int) + 1 by rw [e2, q_up_s]]
  refine ⟨fun g => absurd g (by omega), fun _ => ⟨by omega, fun M3 e3 M4 e4 => ?_⟩⟩
  rw [show M3 1 1 = (T : Int) + 1 by rw [e3, q_up_o (by decide), e2, q_up_s], q_add_eq (by omega)] at e4
  rw [show q_add 16 (-8) = 8 by decide +kernel]
  refine bX11_putOnTape_3 _ _ ⟨fun g => absurd g (by decide), fun _ => ?_⟩
  rw [show M4 1 1 = (T : Int) + 1 + 1 by rw [e4, q_up_s]]
  refine ⟨fun g => absurd g (by omega), fun _ => ⟨by omega, fun M5 e5 M6 e6 => ?_⟩⟩
  rw [show M5 1 1 = (T : Int) + 1 + 1 by rw [e5, q_up_o (by decide), e4, q_up_s], q_add_eq (by omega)] at e6
  rw [show q_add 8 (-8) = 0 by decide +kernel]
  refine bX11_putOnTape_3 _ _ ⟨fun g => absurd g (by decide), fun _ => ?_⟩
  rw [show M6 1 1 = (T : Int) + 1 + 1 + 1 by rw [e6, q_up_s]]
  refine ⟨fun g => absurd g (by omega), fun _ => ⟨by omega, fun M7 e7 M8 e8 => ?_⟩⟩
  rw [show M7 1 1 = (T : Int) + 1 + 1 + 1 by rw [e7, q_up_o (by decide), e6, q_up_s], q_add_eq (by omega)] at e8
  rw [show q_add 0 (-8) = -8 by decide +kernel]
  refine bX11_putOnTape_3 _ _ ⟨fun _ => ?_, fun g => absurd (by decide) g⟩
  refine h M8 (fun a a1 a2 => ?_) (fun k k1 => ?_) ?_ (fun j hj => ?_) (fun i hi => ?_)
  · rw [e8, q_up_o a1, e7, q_up_o a2, e6, q_up_o a1, e5, q_up_o a2, e4, q_up_o a1, e3, q_up_o a2, e2, q_up_o a1, e1, q_up_o a2]
  · rw [e8, q_up_n k1, e7, q_up_o (by decide), e6, q_up_n k1, e5, q_up_o (by decide), e4, q_up_n k1, e3, q_up_o (by decide), e2, q_up_n k1, e1, q_up_o (by decide)]
  · rw [e8, q_up_s]; omega
  · rw [e8, q_up_o (by decide), e7, q_up_n (by omega), e6, q_up_o (by decide), e5, q_up_n (by omega), e4, q_up_o (by decide), e3, q_up_n (by omega), e2, q_up_o (by decide), e1, q_up_n (by omega)]
  · match i, hi with
    | 0, _ => rw [e8, q_up_o (by decide), e7, q_up_n (by omega), e6, q_up_o (by decide), e5, q_up_n (by omega), e4, q_up_o (by decide), e3, q_up_n (by omega), e2, q_up_o (by decide), e1]; exact q_up_s
    | 1, _ => rw [e8, q_up_o (by decide), e7, q_up_n (by omega), e6, q_up_o (by decide), e5, q_up_n (by omega), e4, q_up_o (by decide), e3, show ((T + 1 : Nat) : Int) = (T : Int) + 1 by omega]; exact q_up_s
    | 2, _ => rw [e8, q_up_o (by decide), e7, q_up_n (by omega), e6, q_up_o (by decide), e5, show ((T + 2 : Nat) : Int) = (T : Int) + 1 + 1 by omega]; exact q_up_s
    | 3, _ => rw [e8, q_up_o (by decide), e7, show ((T + 3 : Nat) : Int) = (T : Int) + 1 + 1 + 1 by omega]; exact q_up_s
def z_w5 (a b c d e : Int) (q : Nat) : Int := if q = 0 then a else if q = 1 then b else if q = 2 then c else if q = 3 then d else e
def z_b5 (a b c d e : Int) (i : Nat) : Int := q_and (q_shr (z_w5 a b c d e (i / 4)) (24 - 8 * ((i % 4 : Nat) : Int))) 255
theorem c_feed {d : Nat} {M : q_Mem} {K : Int → q_Mem → Prop} {a b c e f : Int} {T : Nat} (hd : 1 < d) (hT : M 1 1 = (T : Int)) (hT9 : T ≤ 900) (h0 : ¬ T + 20 ≤ 900 → K (-5) M) (h1 : T + 20 ≤ 900 → ∀ M', (∀ a, a ≠ 1 → a ≠ 2 → M' a = M a) → (∀ k, k ≠ 1 → M' 1 k = M 1 k) → M' 1 1 = ((T + 20 : Nat) : Int) → (∀ j : Int, ¬ ((T : Int) ≤ j ∧ j < (T : Int) + 20) → M' 2 j = M 2 j) → (∀ i : Nat, i < 20 → q_and (M' 2 ((T + i : Nat) : Int)) 255 = z_b5 a b c e f i) → K ((T + 20 : Nat) : Int) M') : q_kI yX11_feed mX11_feed d [qR 1, qI a, qI b, qI c, qI e, qI f] M K := by
  refine q_goI hd rfl (plainFor_of_name (by decide +kernel)) rfl (fun h => nomatch h) (Nat.le_of_ble_eq_true rfl) (fun d hd => bX11_feed_0 _ _ _ _ _ ?_)
  rw [hT, q_add_eq (by omega)]
  refine ⟨fun g => ?_, fun g => h0 (by omega)⟩
  refine k_put (by omega) hT (by omega) (fun M1 f1 g1 t1 o1 v1 => k_put (by omega) t1 (by omega) (fun M2 f2 g2 t2 o2 v2 => k_put (by omega) t2 (by omega) (fun M3 f3 g3 t3 o3 v3 => k_put (by omega) t3 (by omega) (fun M4 f4 g4 t4 o4 v4 => k_put (by omega) t4 (by omega) (fun M5 f5 g5 t5 o5 v5 => ?_)))))
  rw [t5]
  refine h1 (by omega) M5 (fun a a1 a2 => by rw [f5 a a1 a2, f4 a a1 a2, f3 a a1 a2, f2 a a1 a2, f1 a a1 a2]) (fun k k1 => by rw [g5 k k1, g4 k k1, g3 k k1, g2 k k1, g1 k k1]) t5 (fun j hj => by rw [o5 j (by omega), o4 j (by omega), o3 j (by omega), o2 j (by omega), o1 j (by omega)]) (fun i hi => ?_)
  unfold z_b5 z_w5
  by_cases c0 : i < 4
  · rw [o5 _ (by omega), o4 _ (by omega), o3 _ (by omega), o2 _ (by omega), v1 i c0, z_byte, if_pos (by omega), show i % 4 = i by omega]
  · by_cases c1 : i < 8
    · have := v2 (i - 4) (by omega)
      rw [show T + 4 + (i - 4) = T + i by omega] at this
      rw [o5 _ (by omega), o4 _ (by omega), o3 _ (by omega), this, z_byte, if_neg (by omega), if_pos (by omega), show i % 4 = i - 4 by omega]
    · by_cases c2 : i < 12
      · have := v3 (i - 8) (by omega)
        rw [show T + 4 + 4 + (i - 8) = T + i by omega] at this
        rw [o5 _ (by omega), o4 _ (by omega), this, z_byte, if_neg (by omega), if_neg (by omega), if_pos (by omega), show i % 4 = i - 8 by omega]
      · by_cases c3 : i < 16
        · have := v4 (i - 12) (by omega)
          rw [show T + 4 + 4 + 4 + (i - 12) = T + i by omega] at this
          rw [o5 _ (by omega), this, z_byte, if_neg (by omega), if_neg (by omega), if_neg (by omega), if_pos (by omega), show i % 4 = i - 12 by omega]
        · have := v5 (i - 16) (by omega)
          rw [show T + 4 + 4 + 4 + 4 + (i - 16) = T + i by omega] at this
          rw [this, z_byte, if_neg (by omega), if_neg (by omega), if_neg (by omega), if_neg (by omega), show i % 4 = i - 16 by omega]
theorem l_rfeed {d : Nat} {M0 : q_Mem} {K : Int → q_Mem → Prop} {a b c e f : Int} {T : Nat} (hT9 : T + 20 ≤ 900) (h : ∀ M', z_fr [181] [7] M0 M' → M' 178 7 = ((T + 20 : Nat) : Int) → (∀ j : Int, ¬ ((T : Int) ≤ j ∧ j < (T : Int) + 20) → M' 181 j = M0 181 j) → (∀ i : Nat, i < 20 → M' 181 ((T + i : Nat) : Int) = z_b5 a b c e f i) → K ((T + 20 : Nat) : Int) M') :
    ∀ (j i : Nat) (M : q_Mem), i + j = 20 → z_fr [181] [7] M0 M → M 178 7 = ((T + i : Nat) : Int) → (∀ j : Int, ¬ ((T : Int) ≤ j ∧ j < (T : Int) + 20) → M 181 j = M0 181 j) → (∀ k : Nat, k < i → M 181 ((T + k : Nat) : Int) = z_b5 a b c e f k) → q_v mX12_feed d (qPI K) M 24 [some (qR 178), some (qI a), some (qI b), some (qI c), some (qI e), some (qI f), some (qI (i : Int)), none] [] := by
  intro j
  induction j with
  | zero =>
    intro i M ej fr ht o v
    have ei : i = 20 := by omega
    subst ei
    refine bX12_feed_24 _ _ _ _ _ _ ⟨fun _ => ?_, fun g => absurd (by omega) g⟩
    rw [ht]
    exact h M fr ht o v
  | succ j ih =>
    intro i M ej fr ht o v
    have go : ∀ y, y = z_w5 a b c e f (i / 4) → q_v mX12_feed d (qPI K) M 77 [some (qR 178), some (qI a), some (qI b), some (qI c), some (qI e), some (qI f), some (qI (i : Int)), none] [qI y] := by
      intro y ey
      refine bX12_feed_77 _ _ _ _ _ _ _ ?_
      rw [ht, q_rem_nn (by unfold q_in32; omega) (by unfold q_in32; decide) (by omega) (by decide), q_mul_eq (by omega), q_sub_eq (by omega)]
      refine ⟨by omega, fun M2 e2 M3 e3 => ?_⟩
      have t2 : M2 178 7 = ((T + i : Nat) : Int) := by rw [e2, q_up_o (by decide)]; exact ht
      rw [t2, q_add_eq (by omega)] at e3
      rw [q_add_eq (by omega), show (i : Int) + 1 = ((i + 1 : Nat) : Int) by omega]
      refine ih (i + 1) M3 (by omega) (z_fr_uf (z_fr_u fr e2 (by decide) (by decide)) e3 (by decide)) (by rw [e3, q_up_s]; omega) (fun j hj => ?_) (fun k hk => ?_)
      · rw [e3, q_up_o (by decide), e2, q_up_n (by omega)]; exact o j hj
      · rw [e3, q_up_o (by decide), e2]
        by_cases c : k = i
        · subst c
          rw [q_up_s, ey]
          unfold z_b5
          rw [show ((k % 4 : Nat) : Int) = (k : Int) % 4 by omega]
        · rw [q_up_n (by omega)]; exact v k (by omega)
    unfold z_w5 at go
    refine bX12_feed_24 _ _ _ _ _ _ ⟨fun g => absurd g (by omega), fun _ => ⟨fun g => ⟨fun g2 => ⟨fun g3 => ⟨fun g4 => ?_, fun g4 => ?_⟩, fun g3 => ?_⟩, fun g2 => ?_⟩, fun g => ?_⟩⟩
    · exact go f (by rw [if_neg (by omega), if_neg (by omega), if_neg (by omega), if_neg (by omega)])
    · exact go e (by rw [if_neg (by omega), if_neg (by omega), if_neg (by omega), if_pos (by omega)])
    · exact go c (by rw [if_neg (by omega), if_neg (by omega), if_pos (by omega)])
    · exact go b (by rw [if_neg (by omega), if_pos (by omega)])
    · exact go a (by rw [if_pos (by omega)])
theorem r_feed {d : Nat} {M : q_Mem} {K : Int → q_Mem → Prop} {a b c e f : Int} {T : Nat} (hd : 0 < d) (hT : M 178 7 = (T : Int)) (hT9 : T ≤ 900) (h0 : ¬ T + 20 ≤ 900 → ∀ M', z_fr [] [0] M M' → K (-5) M') (h1 : T + 20 ≤ 900 → ∀ M', z_fr [181] [0, 7] M M' → M' 178 7 = ((T + 20 : Nat) : Int) → (∀ j : Int, ¬ ((T : Int) ≤ j ∧ j < (T : Int) + 20) → M' 181 j = M 181 j) → (∀ i : Nat, i < 20 → M' 181 ((T + i : Nat) : Int) = z_b5 a b c e f i) → K ((T + 20 : Nat) : Int) M') : q_kI yX12_feed mX12_feed d [qR 178, qI a, qI b, qI c, qI e, qI f] M K := by
  refine q_goI hd rfl (plainFor_of_name (by decide +kernel)) rfl (fun h => nomatch h) (Nat.le_of_ble_eq_true rfl) (fun d hd => bX12_feed_0 _ _ _ _ _ (fun M1 e1 => ?_))
  have f1 : z_fr [] [0] M M1 := by rw [e1]; exact z_fr_f (by decide)
  have t1 : M1 178 7 = (T : Int) := by rw [f1.2 7 (by decide)]; exact hT
  have e181 : M1 181 = M 181 := f1.1 181 (by decide) (by decide)
  rw [t1, q_add_eq (by omega)]
  refine ⟨fun g => ?_, fun g => h0 (by omega) M1 f1⟩
  exact l_rfeed (M0 := M1) (by omega) (fun M' f' t' o' v' => h1 (by omega) M' (z_fr_tr (z_fr_mono f1 (by decide) (by decide)) (z_fr_mono f' (by decide) (by decide))) t' (fun j hj => by rw [o' j hj, e181]) v') 20 0 M1 (by omega) z_fr_rf (by rw [t1]; rfl) (fun _ _ => rfl) (fun k hk => by omega)
/-- moved: the tape alone has changed -/
theorem z_IV_p {M M2 : q_Mem} (h : z_IV M) (e1 : ∀ k, k ≠ 1 → M2 1 k = M 1 k) (e : ∀ a, a ≠ 1 → a ≠ 2 → a < 178 → M2 a = M a) (s : ∀ a, a = 179 ∨ a = 180 ∨ a = 205 ∨ a = 206 ∨ a = 207 → M2 a = M a) (s8 : M2 178 15 = M 178 15) (s9 : M2 178 16 = M 178 16) (rp : z_RP M2 (M2 178 7) (M2 181)) : z_IV M2 := by
  obtain ⟨h1, ⟨c, fr, ca⟩, h3, h4, h5, h6, h7, h8⟩ := h
  have s1 := s 179 (by omega)
  refine ⟨by rw [s1]; exact h1, ?_, by rw [e1 5 (by decide), e1 4 (by decide)]; exact h3, ?_, ?_, ?_, rp, ?_⟩
  · rw [s1]
    refine ⟨z_cst_eq c (e1 4 (by decide)) (fun a ha => ?_), fr, z_ca_eq h1 ca (e1 18 (by decide)) (fun k a hk ha => e a (by unfold z_OP at ha; omega) (by unfold z_OP at ha; omega) (by unfold z_OP at ha; omega))⟩
    have : ∀ b ∈ z_CO, 3 ≤ b ∧ b < 53 := by decide
    have := this a ha
    exact e a (by omega) (by omega) (by omega)
  · rw [s1]; exact z_hs_eq h4 (fun a g1 g2 => e a (by omega) (by omega) (by omega))
  · rw [s1, s 180 (by omega)]; exact z_RI_eq h5 (fun a g1 g2 => e a (by omega) (by omega) (by omega))
  · rw [s 205 (by omega), s 206 (by omega), s 207 (by omega)]; exact z_RY_eq h6 (fun a g1 g2 => e a (by omega) (by omega) (by omega))
  · rw [s8, s9, e1 2 (by decide), e1 3 (by decide)]; exact h8
theorem tt_feed {d : Nat} {M : q_Mem} {K : Int → Int → q_Mem → Prop} {a b c e f : Int} (hd : 60 < d) (hR : z_IV M) (h : ∀ v M', z_IV M' → K v v M') : q_kI yX11_feed mX11_feed d [qR 1, qI a, qI b, qI c, qI e, qI f] M (fun v1 M1 => q_kI yX12_feed mX12_feed d [qR 178, qI a, qI b, qI c, qI e, qI f] M1 (fun v2 M2 => K v1 v2 M2)) := by
  obtain ⟨rt, rb, rv⟩ := hR.2.2.2.2.2.2.1
  obtain ⟨T, hT⟩ : ∃ T : Nat, M 178 7 = (T : Int) := ⟨(M 178 7).toNat, by omega⟩
  refine c_feed (T := T) (by omega) (by omega) (by omega) (fun g => r_feed (T := T) (by omega) hT (by omega) (fun _ M' f' => h _ M' (z_IV_r hR f' (by decide) (by decide))) (fun q => absurd q g)) (fun g M1 f1 g1 t1 o1 v1 => r_feed (T := T) (by omega) (by rw [f1 178 (by decide) (by decide)]; exact hT) (by omega) (fun q => absurd g q) (fun _ M2 f2 t2 o2 v2 => ?_))
  have e2 : ∀ a, a < 178 → M2 a = M1 a := fun a ha => f2.1 a (by simp; omega) (by omega)
  refine h _ M2 (z_IV_p hR (fun k hk => by rw [e2 1 (by decide), g1 k hk]) (fun a a1 a2 a3 => (e2 a a3).trans (f1 a a1 a2)) (fun a ha => (f2.1 a (by simp; omega) (by omega)).trans (f1 a (by omega) (by omega))) ((f2.2 15 (by decide)).trans (by rw [f1 178 (by decide) (by decide)])) ((f2.2 16 (by decide)).trans (by rw [f1 178 (by decide) (by decide)])) ⟨by rw [e2 1 (by decide), t1, t2], by rw [t2]; omega, fun i hi => ?_⟩)
  rw [t2] at hi
  rw [e2 2 (by decide)]
  by_cases c : i < T
  · rw [o1 _ (by omega), o2 _ (by omega), f1 181 (by decide) (by decide)]
    exact rv i (by omega)
  · have w1 := v1 (i - T) (by omega)
    have w2 := v2 (i - T) (by omega)
    rw [show T + (i - T) = i by omega] at w1 w2
    rw [w1, w2]
    exact ⟨rfl, z_and255 _⟩
