-- System.arraycopy of int rows
def q_cp (M : q_Mem) (a sp b dp n : Int) : q_Mem := fun c j => if c = b ∧ dp ≤ j ∧ j < dp + n then M a (sp + (j - dp)) else M c j
theorem q_cp_o {M : q_Mem} {a sp b dp n c : Int} (h : c ≠ b) : q_cp M a sp b dp n c = M c := by
  funext j
  unfold q_cp
  rw [if_neg (fun z => h z.1)]
theorem q_nlt {x : Int} (h : q_in32 x) (h0 : 0 ≤ x) : ¬ Int32.ofInt x < 0 := fun z => by
  have := (q_i_lt h q_in32_0).mp z
  omega
section QY
variable {X : q_Mt} {d : Nat} {P : Option q_AV → q_Mem → Prop} {M : q_Mem} {ls : List (Option q_AV)} {st : List q_AV}
theorem qr_copy (pc pc' : Nat) (hp : pc + 3 = pc') {ix : Nat} {a sp b dp n : Int} {N1 N2 : Nat} (ha : q_kd a = 14) (hb : q_kd b = 14) (hN1 : q_ln a = N1) (hN2 : q_ln b = N2) (h1 : 0 ≤ sp) (h2 : 0 ≤ dp) (h3 : 0 ≤ n) (h4 : sp + n ≤ (N1 : Int)) (h5 : dp + n ≤ (N2 : Int)) (hdd : 1 ≤ d) (hw : q_wid st ≤ 8) (hlk : Cond.methodLink X.2.2.1 ix arraycopyName ∈ q_gd) (hd : decode X.1 pc = .ok (.invokestatic ix, 3))
    (kk : ∀ M' : q_Mem, M' = q_cp M a sp b dp n → q_v X d P M' pc' ls st) : q_v X d P M pc ls (qI n :: qI dp :: qR b :: qI sp :: qR a :: st) := by
  intro p l e s m args below meth c dC dI cy φ0 base C φ H locs lsA D ol os hl
  subst hp
  subst hN1
  subst hN2
  have hX : va_K (dC, dI) vwCl (q_tys cy) s := C.2.2.2.2.2.2.2.2.1.1
  obtain ⟨hag, ⟨hP, hD, hM⟩, hS, hnn⟩ := id D
  have ha0 : 0 < a := q_kd_pos (by rw [ha]; omega)
  have hb0 : 0 < b := q_kd_pos (by rw [hb]; omega)
  have on : q_in32 n := os.1
  have odp : q_in32 dp := os.2.1
  have hbl : b ≤ (q_N : Int) := os.2.2.1
  have osp : q_in32 sp := os.2.2.2.1
  have hal : a ≤ (q_N : Int) := os.2.2.2.2.1
  have g9 := q_w_get (cy := cy) (φ := φ) (M := M) ha0 hal
  rw [ha, q_cell_i (by omega)] at g9
  have g8 := q_w_get (cy := cy) (φ := φ) (M := M) hb0 hbl
  rw [hb, q_cell_i (by omega)] at g8
  have hts := C.2.2.2.2.2.1
  rw [List.map_cons, List.map_cons, List.map_cons, List.map_cons, List.map_cons, show q_c φ (qR a) = .ref (φ a) from if_neg (by omega), show q_c φ (qR b) = .ref (φ b) from if_neg (by omega)]
  refine va_copyi (D := (dC, dI)) (ty := .int) C.1 C.2.1 (C.2.2.2.1.trans hl.1.symm) C.2.2.2.2.1 (hts _ hlk) (hts _ wm_730) (hts _ wm_729) (hts _ wm_21) hX hP hD hS (a - 1).toNat (b - 1).toNat 1 1 g9 g8 rfl rfl rfl (q_nlt osp h1) (q_nlt odp h2) (q_nlt on h3) (by rw [q_cl osp, q_cl on]; omega) (by rw [q_cl odp, q_cl on]; omega) (fun i _ => rfl) hdd ?_ hd (fun H1 locs1 hP1 hD1 hS1 => ?_)
  · rw [q_wid_cs]
    have : nativeFrameWords "java/lang/System" "arraycopy" 5 + 11 ≤ 32 := by decide +kernel
    show _ ≤ 40 * d
    omega
  · rw [q_cl osp, q_cl odp, q_cl on] at hP1 hD1
    have hset := q_w_set (cy := cy) (φ := φ) (n := q_N) (M := M) (M' := q_cp M a sp b dp n) hb0 hbl (fun c hc => q_cp_o hc) (x := .inl (cy 14, q_ln b, .inl (va_cpy (fun j : Nat => Int32.ofInt (M a (j : Int))) (fun j : Nat => Int32.ofInt (M b (j : Int))) sp.toNat dp.toNat n.toNat))) (by
      rw [hb, q_cell_i (by omega)]
      congr 4
      funext j
      unfold va_cpy q_cp
      by_cases e9 : dp.toNat ≤ j ∧ j < dp.toNat + n.toNat
      · rw [if_pos e9, if_pos ⟨rfl, by omega, by omega⟩]
        show Int32.ofInt (M a ((sp.toNat + (j - dp.toNat) : Nat) : Int)) = _
        rw [show ((sp.toNat + (j - dp.toNat) : Nat) : Int) = sp + ((j : Int) - dp) by omega]
      · rw [if_neg e9, if_neg (fun z => e9 ⟨by omega, by omega⟩)])
    rw [hset] at hP1 hD1
    refine kk _ rfl p l e s m args below meth c dC dI cy φ0 base C φ H1 locs1 lsA ⟨hag, ⟨hP1, hD1, ?_⟩, hS1, hnn⟩ ol os.2.2.2.2.2 hl
    have hr : ∀ j : Int, 0 ≤ j → q_in32 (M a j) := fun j hj => by
      have := hM.2.1 a j.toNat
      rw [ha, q_nn hj] at this
      exact this
    refine ⟨fun c j hc => ?_, fun c j => ?_, fun hn9 c j hj hF => ?_⟩
    · rw [q_cp_o (by omega)]; exact hM.1 c j hc
    · by_cases e1 : c = b
      · subst e1
        unfold q_cp
        by_cases e2 : dp ≤ (j : Int) ∧ (j : Int) < dp + n
        · rw [if_pos ⟨rfl, e2⟩, hb]
          exact hr _ (by omega)
        · rw [if_neg (fun z => e2 z.2)]; exact hM.2.1 c j
      · rw [q_cp_o e1]; exact hM.2.1 c j
    · by_cases e1 : c = b
      · subst e1
        rw [hb] at hF
        cases hF
      · rw [q_cp_o e1]; exact hM.2.2 hn9 c j hj hF
end QY
