-- what constructors want: Object's own, other constructors, stores of references, rows of rows, the last object
theorem q_rg_mon {n n' t : Nat} {x : Int} (hn : n ≤ n') (h : q_rg n t x) : q_rg n' t x := by
  unfold q_rg at h ⊢
  split
  · rename_i c; rw [if_pos c] at h; exact h
  · rename_i c
    rw [if_neg c] at h
    split
    · rename_i c2; rw [if_pos c2] at h; exact h
    · rename_i c2; rw [if_neg c2] at h; omega
section QCN
variable {X : q_Mt} {d n0 n1 n : Nat} {P : Option q_AV → q_Mem → Prop} {M : q_Mem} {ls : List (Option q_AV)} {st : List q_AV}
theorem qr_oinit (pc pc' : Nat) (hp : pc + 3 = pc') {ix : Nat} {a : Int} (ha : 0 < a) (hlk : Cond.methodLink X.2.2.1 ix Lib.objectInit ∈ q_gd) (hin : Cond.instanceMethod Lib.objectInit ∈ q_gd) (hcd : Cond.code Lib.objectInit ⟨#[0xb1]⟩ 1 none ∈ q_gd) (hd1 : 1 ≤ d) (hw : q_wid st ≤ 8) (hd : decode X.1 pc = .ok (.invokespecial ix, 3)) (kk : q_V X d n0 n1 P n M pc' ls st) : q_V X d n0 n1 P n M pc ls (qR a :: st) := by
  intro p l e s m args below meth c dC dI cy φ0 base C φ H locs lsA D ol os hl
  subst hp
  rw [List.map_cons, show q_c φ (qR a) = .ref (φ a) from if_neg (by omega)]
  exact W.objInit C.1 C.2.1 C.2.2.2.2.1 (C.2.2.2.2.2.1 _ hlk) (C.2.2.2.2.2.1 _ hin) (C.2.2.2.2.2.1 _ hcd) rfl (hl.1.trans C.2.2.2.1.symm) rfl hd hd1 (by show 2 * 0 + _ + 12 ≤ 40 * d; rw [q_wid_cs]; omega) (kk p l e s m args below meth c dC dI cy φ0 base C φ H locs lsA D ol os.2 hl)
theorem qr_callC (pc pc' : Nat) (hp : pc + 3 = pc') {y : MethodName} {yc : ByteArray} {yl : Nat} {yo : String} {yi : Bool} {np ix D0 n2 : Nat} {a : Int} {av : List q_AV} {st' : List q_AV} {P2 : Option q_AV → q_Mem → Prop} (hy : q_cal y (yc, yl, yo, none, yi) np) (hyn : y.name = "<init>") (hin : Cond.instanceMethod y ∈ q_gd) (hlk : Cond.methodLink X.2.2.1 ix y ∈ q_gd) (ha : 0 < a) (hdd : D0 + 1 ≤ d) (hn : av.length = np) (hs : st' = av.reverse ++ qR a :: st) (hw : q_wid st ≤ 8) (h2 : n ≤ n2) (h3 : n2 ≤ n1) (hd : decode X.1 pc = .ok (.invokespecial ix, 3))
    (hc : q_Con y (yc, yl, yo, none, yi) D0 (qR a :: av) n M n2 P2) (kk : ∀ (r : Option q_AV) (M' : q_Mem), P2 r M' → q_V X d n0 n1 P n2 M' pc' ls (r.toList ++ st)) : q_V X d n0 n1 P n M pc ls st' := by
  intro p l e s m args below meth c dC dI cy φ0 base C φ H locs lsA D ol os hl
  subst hp
  subst hs
  obtain ⟨hag, hW, hS, hnn⟩ := id D
  obtain ⟨oa, os2⟩ := q_oks_app os
  have oav := q_oks_rev oa
  have hts := C.2.2.2.2.2.1
  have ea : q_c φ (qR a) = .ref (φ a) := if_neg (by omega)
  refine q_after C D ol os2.2 hl (a := (Value.ref (φ a) :: av.map (q_c φ)).toArray) h2 ?_ kk
  exact va_runI (cc := X.1) (nL := X.2.1) (own := X.2.2.1) (Ts := q_gd) (b := φ a) (As := av.map (q_c φ)) ⟨C.1, C.2.1, C.2.2.2.1, C.2.2.2.2.1, hts⟩ (hc (d - 1) (by omega) l dC dI cy φ base) ⟨q_calB hy hts (hts _ hlk) (by omega), hyn, hts _ hin⟩
    ⟨q_blind, fun U hU hW9 => ⟨by rw [List.map_cons, ea], ⟨os2.1, oav⟩, q_X_moved hW9 (fun x hx => hag x (by omega)) (fun a h1 h2 => by rw [hU]; exact hS.2.1 a h1 h2) C.2.2.2.2.2.2.2.2.1, by rw [hU]; exact Nat.le_trans C.2.2.2.2.2.2.2.2.2 hS.1, by rw [hU]; exact hW⟩⟩ rfl (by rw [List.length_map]; exact hn) hl.1 (by rw [List.map_append, List.map_reverse, List.map_cons, ea]) (by show 2 * 0 + _ ≤ 8; rw [q_wid_cs]; omega) hd (q_room hnn h2 h3 d)
theorem qr_callN (pc pc' : Nat) (hp : pc + 3 = pc') {y : MethodName} {yc : ByteArray} {yl : Nat} {yo host : String} {yi : Bool} {np ix D0 n2 : Nat} {a : Int} {av : List q_AV} {st' : List q_AV} {P2 : Option q_AV → q_Mem → Prop} (hy : q_cal y (yc, yl, yo, none, yi) np) (hyn : y.name = "<init>") (hin : Cond.instanceMethod y ∈ q_gd) (hlk : Cond.methodLinkNest X.2.2.1 ix y host ∈ q_nst) (ha : 0 < a) (hdd : D0 + 1 ≤ d) (hn : av.length = np) (hs : st' = av.reverse ++ qR a :: st) (hw : q_wid st ≤ 8) (h2 : n ≤ n2) (h3 : n2 ≤ n1) (hd : decode X.1 pc = .ok (.invokespecial ix, 3))
    (hc : q_Con y (yc, yl, yo, none, yi) D0 (qR a :: av) n M n2 P2) (kk : ∀ (r : Option q_AV) (M' : q_Mem), P2 r M' → q_V X d n0 n1 P n2 M' pc' ls (r.toList ++ st)) : q_V X d n0 n1 P n M pc ls st' := by
  intro p l e s m args below meth c dC dI cy φ0 base C φ H locs lsA D ol os hl
  subst hp
  subst hs
  obtain ⟨hag, hW, hS, hnn⟩ := id D
  obtain ⟨oa, os2⟩ := q_oks_app os
  have oav := q_oks_rev oa
  have hts := C.2.2.2.2.2.1
  have ea : q_c φ (qR a) = .ref (φ a) := if_neg (by omega)
  have hG : GoodIn q_gd (Cond.code y yc yl none :: q_gd) := by
    intro w hw
    rcases List.mem_cons.mp hw with rfl | hw
    · exact ⟨hy.1, q_good _ hy.1⟩
    · exact ⟨hw, q_good _ hw⟩
  refine q_after C D ol os2.2 hl (a := (Value.ref (φ a) :: av.map (q_c φ)).toArray) h2 ?_ kk
  exact va_runIN (cc := X.1) (nL := X.2.1) (own := X.2.2.1) (Ts := q_gd) (b := φ a) (As := av.map (q_c φ)) ⟨C.1, C.2.1, C.2.2.2.1, C.2.2.2.2.1, hts⟩ (hc (d - 1) (by omega) l dC dI cy φ base) ⟨va_cnB np hts hG rfl rfl rfl (C.2.2.2.2.2.2.2.2.1.2.1 _ hlk) (hts _ hy.2.1) ⟨hy.2.2.1.1, hy.2.2.1.2, hy.2.2.2.1⟩ ⟨by show d - 1 + 1 ≤ d; omega, by show 8 + (yl + 11) + 40 * (d - 1) ≤ 40 * d; have : yl ≤ 21 := hy.2.2.2.2; omega⟩, hyn, hts _ hin⟩
    ⟨q_blind, fun U hU hW9 => ⟨by rw [List.map_cons, ea], ⟨os2.1, oav⟩, q_X_moved hW9 (fun x hx => hag x (by omega)) (fun a h1 h2 => by rw [hU]; exact hS.2.1 a h1 h2) C.2.2.2.2.2.2.2.2.1, by rw [hU]; exact Nat.le_trans C.2.2.2.2.2.2.2.2.2 hS.1, by rw [hU]; exact hW⟩⟩ rfl (by rw [List.length_map]; exact hn) hl.1 (by rw [List.map_append, List.map_reverse, List.map_cons, ea]) (by show 2 * 0 + _ ≤ 8; rw [q_wid_cs]; omega) hd (q_room hnn h2 h3 d)
theorem qr_aastore (pc pc' : Nat) (hp : pc + 1 = pc') {a i v : Int} {kd ci t0 N : Nat} {C0 : String} {T : u_T} (hc : q_cl_ok ci C0 T N) (hkd : q_kd a = kd) (hk : 17 ≤ kd) (ht0 : ∀ cy : Nat → ClassId, (q_tys cy)[t0]? = some (cy kd, .object C0)) (h0 : 0 ≤ i) (h1 : i < (q_ln a : Int)) (hkv : q_kd v = ci) (hN : n ≠ q_N) (hd : decode X.1 pc = .ok (.aastore, 1)) (kk : q_V X d n0 n1 P n (q_up M a i v) pc' ls st) : q_V X d n0 n1 P n M pc ls (qR v :: qI i :: qR a :: st) := by
  intro p l e s m args below meth c dC dI cy φ0 base C φ H locs lsA D ol os hl
  subst hp
  have hX : va_K (dC, dI) vwCl (q_tys cy) s := C.2.2.2.2.2.2.2.2.1.1
  obtain ⟨hag, ⟨hP, hD, hM⟩, hS, hnn⟩ := id D
  have hal : a ≤ (n : Int) := os.2.2.1
  have hvl : v ≤ (n : Int) := os.1
  have hv : 0 < v := q_kd_pos (by rw [hkv]; have := hc.1; omega)
  have ha : 0 < a := by
    rcases Int.lt_or_le 0 a with g | g
    · exact g
    · have : q_ln a = 0 := by unfold q_ln; rw [if_pos g]
      omega
  have h9 := q_w_get (cy := cy) (φ := φ) (M := M) ha hal
  rw [hkd, q_cell_q hk] at h9
  have h8 := q_w_get (cy := cy) (φ := φ) (M := M) hv hvl
  rw [hkv, q_cell_o hc.1] at h8
  rw [List.map_cons, List.map_cons, List.map_cons, show q_c φ (qR a) = .ref (φ a) from if_neg (by omega), show q_c φ (qR v) = .ref (φ v) from if_neg (by omega)]
  refine va_astq (D := (dC, dI)) (r := (C0, T, N)) C.1 C.2.1 hX hP hD hS (a - 1).toNat t0 (v - 1).toNat ci h9 (ht0 cy) h8 hc.2.1 (q_vi os.2.1 h0 h1) hd (fun H1 locs1 hP1 hD1 hS1 => ?_)
  rw [q_cl os.2.1] at hP1 hD1
  have hset := q_w_set (cy := cy) (φ := φ) (n := n) (M := M) (M' := q_up M a i v) ha hal (fun b hb => q_up_o hb) (x := .inl (cy kd, q_ln a, .inr (.inr (.inr (.inr (va_up (fun j : Nat => if M a (j : Int) = 0 then none else some (φ (M a (j : Int)))) i.toNat (some (φ v)))))))) (by
    rw [hkd, q_cell_q hk]
    congr 7
    funext j
    unfold va_up
    by_cases e9 : j = i.toNat
    · subst e9
      rw [if_pos rfl, q_nn h0, q_up_s, if_neg (by omega)]
    · rw [if_neg e9, q_up_n (by omega)])
  rw [hset] at hP1 hD1
  refine kk p l e s m args below meth c dC dI cy φ0 base C φ H1 locs1 lsA ⟨hag, ⟨hP1, hD1, ?_⟩, hS1, hnn⟩ ol os.2.2.2 hl
  refine ⟨fun b j hb => ?_, fun b j => ?_, fun e => absurd e hN⟩
  · rw [q_up_o (by omega)]; exact hM.1 b j hb
  · by_cases e1 : b = a
    · subst e1
      by_cases e2 : (j : Int) = i
      · subst e2
        have hsl : q_sl kd j = 2 := by
          unfold q_sl
          rw [if_neg (by omega), if_neg (by omega), if_neg (by omega)]
        rw [q_up_s, hkd, hsl]
        exact hvl
      · rw [q_up_n e2]; exact hM.2.1 b j
    · rw [q_up_o e1]; exact hM.2.1 b j
/-- the last object: a row of longs made, and laid into a final field -/
theorem qr_last (pc pc1 pc2 : Nat) (hp : pc + 2 = pc1) (hp2 : pc1 + 3 = pc2) {ci N NF ix k : Nat} {C0 : String} {T : u_T} {a : Int} (hc : q_cl_ok ci C0 T NF) (hk : k < NF) (hka : q_kd a = ci) (hF : (T k).2.2.2 = true) (hr : q_ty ci k = .array .long) (hi : X.2.2.2.2 = true) (ho : X.2.2.1 = C0) (hw : Cond.fieldLink X.2.2.1 ix C0 (T k).2.1 (T k).2.2.1 ∈ q_gd) (hC : (T k).1 = C0)
    (hkd : q_kd ((n : Int) + 1) = 15) (hln : q_ln ((n : Int) + 1) = N) (hN9 : N ≤ 100000) (hn1 : n < n1) (harr : Cond.arrayClass .long ∈ q_gd) (hd : decode X.1 pc = .ok (.newarray .long, 2)) (hd2 : decode X.1 pc1 = .ok (.putfield ix, 3)) (h3 : ∀ (b : Int) (j : Nat), j < q_ln b → q_isF (q_kd b) j = true → q_up M a (k : Int) ((n : Int) + 1) b (j : Int) = q_lay b j)
    (kk : q_V X d n0 n1 P (n + 1) (q_up M a (k : Int) ((n : Int) + 1)) pc2 ls st) : q_V X d n0 n1 P n M pc ls (qI (N : Int) :: qR a :: st) := by
  intro p l e s m args below meth c dC dI cy φ0 base C φ H locs lsA D ol os hl
  subst hp
  subst hp2
  have hX : va_K (dC, dI) vwCl (q_tys cy) s := C.2.2.2.2.2.2.2.2.1.1
  obtain ⟨hag, ⟨hP, hD, hM⟩, hS, hnn⟩ := id D
  have ha : 0 < a := q_kd_pos (by rw [hka]; have := hc.1; omega)
  have hal : a ≤ (n : Int) := os.2.1
  have sz : q_sz (n + 1) = q_sz n + N := by show q_sz n + q_ln ((n : Int) + 1) = _; rw [hln]
  have m1 := q_sz_mono hnn
  have m2 := q_sz_mono (show n + 1 ≤ n1 by omega)
  have z : M ((n : Int) + 1) = fun _ => 0 := funext (fun k => hM.1 _ k (by omega))
  obtain ⟨hk9, hty, hi9, hcb, hce⟩ := q_nw15
  obtain ⟨a0, hav, hc0⟩ := hce cy (fun x => φ x) N
  have in32 : q_in32 (N : Int) := by unfold q_in32; omega
  rw [List.map_cons, List.map_cons, show q_c φ (qI (N : Int)) = .int (Int32.ofInt (N : Int)) from rfl, show q_c φ (qR a) = .ref (φ a) from if_neg (by omega)]
  refine va_newa (D := (dC, dI)) (atype := .long) C.1 C.2.1 (by rw [hty]; exact C.2.2.2.2.2.1 _ harr) hty hX hP hD hS (fun q hq => Nat.le_trans C.2.2.2.2.2.2.2.2.2 hq) hav (fun g => by have := (q_i_lt in32 q_in32_0).mp g; omega) (by rw [q_cl in32]; exact Int.toNat_natCast N) (Nat.le_trans (Nat.mul_le_mul hN9 hcb) (by decide)) (by show n - n0 + 1 ≤ n1 - n0; omega) (by show q_sz n - q_sz n0 + N ≤ q_sz n1 - q_sz n0; omega) hd (fun q cA H1 hK1 hP1 hD1 hS1 => ?_)
  have ec : cA = cy 15 := q_cy_of hK1 (hi9 cy)
  subst ec
  have ce : q_cell cy (q_put φ n q) (q_kd ((n : Int) + 1)) (q_ln ((n : Int) + 1)) (M ((n : Int) + 1)) = .inl (cy 15, a0) := by
    rw [q_cell_ag (n := n) (φ := φ) (fun x hx => q_put_le hx) (hM.2.1 _), hkd, hln, z]
    exact hc0
  have wg := q_w_grow (cy := cy) (φ := φ) (q := q) hM
  rw [ce] at wg
  rw [← wg] at hP1 hD1
  have ag : q_ag φ (q_put φ n q) n := fun x hx => q_put_le hx
  have h9 := q_w_get (cy := cy) (φ := q_put φ n q) (n := n + 1) (M := M) ha (by omega)
  have hN := hc.2.2.2.2.2.2 a hka
  rw [hka, hN, q_cell_o hc.1, q_put_le hal] at h9
  have er : q_fv (q_put φ n q) (q_ty ci k) ((n : Int) + 1) = .ref q := by
    unfold q_fv q_r
    rw [hr, show q_tr (FieldType.array .long) = true from rfl, if_pos rfl, if_neg (by omega), q_put_s]
  have hset := q_w_set (cy := cy) (φ := q_put φ n q) (n := n + 1) (M := M) (M' := q_up M a (k : Int) ((n : Int) + 1)) ha (by omega) (fun b hb => q_up_o hb) (x := .inr (ci, ((List.range NF).map (fun j : Nat => q_fv (q_put φ n q) (q_ty ci j) (M a (j : Int)))).set k (q_fv (q_put φ n q) (q_ty ci k) ((n : Int) + 1)))) (by rw [hka, hN, q_cell_o hc.1, q_fv_set])
  rw [q_put_le hal] at hset
  refine va_putF (D := (dC, dI)) (v := .ref q) C.1 C.2.1 C.2.2.2.2.2.1 hc.2.2.1 (q_ty ci) hc.2.2.2.1 hc.2.2.2.2.1 C.2.2.2.2.1 hX hP1 hD1 hS1 (a - 1).toNat h9 hc.2.1 k hk (C.2.2.2.2.2.1 _ hw) (fun x hx => by rw [hC] at hx; exact hx) hF (C.2.2.2.2.2.2.2.1 hi) (by rw [hC, ho]) (hc.2.2.2.1 k hk) (by rw [hr]; rfl) (by rw [hr]; rfl) (by simpa using hk) hd2 (fun H2 locs2 hP2 hD2 hS2 => ?_)
  rw [← er, hset] at hP2 hD2
  have h7 := kk p l e s m args below meth c dC dI cy φ0 base C (q_put φ n q) H2 locs2 lsA ⟨fun x hx => (q_put_le (by omega)).trans (hag x hx), ⟨hP2, hD2, ⟨fun b j hb => ?_, fun b j => ?_, fun _ => h3⟩⟩, hS2, by omega⟩ (q_okl_mono (Nat.le_succ n) ol) (q_oks_mono (Nat.le_succ n) os.2.2) (q_Ls_ag ag ol hl)
  · rw [q_cs_ag ag os.2.2] at h7
    rw [show n - n0 + 1 = n + 1 - n0 by omega, show q_sz n - q_sz n0 + N = q_sz (n + 1) - q_sz n0 by omega]
    exact h7
  · rw [q_up_o (by omega)]; exact hM.1 b j (by omega)
  · by_cases e1 : b = a
    · subst e1
      by_cases e2 : j = k
      · subst e2
        have hsl : q_sl ci j = 2 := by
          unfold q_sl
          rw [if_pos hc.1, hr]
          rfl
        rw [q_up_s, hka, hsl]
        show (n : Int) + 1 ≤ ((n + 1 : Nat) : Int)
        omega
      · rw [q_up_n (by omega)]; exact q_rg_mono (hM.2.1 b j)
    · rw [q_up_o e1]; exact q_rg_mono (hM.2.1 b j)
/-- the numbers of the cells that rows of rows have -/
def q_put2 (φ : Int → Nat) (n N h0 : Nat) : Int → Nat := fun x => if (n : Int) < x ∧ x ≤ (n : Int) + 1 + (N : Int) then h0 + (x - (n : Int) - 1).toNat else φ x
theorem q_put2_le {φ : Int → Nat} {n N h0 : Nat} {x : Int} (h : x ≤ (n : Int)) : q_put2 φ n N h0 x = φ x := if_neg (by omega)
theorem q_w_grow2 {cy : Nat → ClassId} {φ : Int → Nat} {n N K h0 : Nat} {M M' : q_Mem} (hM : q_mem n M) (k0 : q_kd ((n : Int) + 1) = 20) (l0 : q_ln ((n : Int) + 1) = N) (kj : ∀ j : Nat, j < N → q_kd ((n : Int) + 2 + (j : Int)) = 14 ∧ q_ln ((n : Int) + 2 + (j : Int)) = K) (m1 : ∀ b : Int, b ≠ (n : Int) + 1 → M' b = M b) (m2 : ∀ j : Nat, j < N → M' ((n : Int) + 1) (j : Int) = (n : Int) + 2 + (j : Int)) (m3 : ∀ j : Nat, N ≤ j → M' ((n : Int) + 1) (j : Int) = 0) :
    q_w cy (q_put2 φ n N h0) (n + (1 + N)) M' = q_w cy φ n M ++ q_mW (cy 20) (cy 14) h0 N K := by
  unfold q_w
  rw [List.range_add, List.map_append]
  congr 1
  · apply List.map_congr_left
    intro i hi
    have hi : i < n := List.mem_range.mp hi
    rw [q_put2_le (by omega), m1 _ (by omega), q_cell_ag (fun x hx => q_put2_le hx) (hM.2.1 ((i : Int) + 1))]
  · rw [Nat.add_comm 1 N, List.range_succ_eq_map, List.map_cons, List.map_cons]
    unfold q_mW
    have c0 : q_put2 φ n N h0 (((n + 0 : Nat) : Int) + 1) = h0 := by
      unfold q_put2
      rw [if_pos (by omega)]
      omega
    rw [c0]
    congr 1
    · show (h0, _) = (h0, _)
      rw [Nat.add_zero, k0, l0, q_cell_q (by decide)]
      congr 8
      funext j
      by_cases hj : j < N
      · rw [m2 j hj, if_neg (by omega), if_pos hj]
        unfold q_put2
        rw [if_pos (by omega)]
        congr 1
        omega
      · rw [m3 j (by omega), if_pos rfl, if_neg hj]
    · rw [List.map_map, List.map_map]
      apply List.map_congr_left
      intro i hi
      have hi : i < N := List.mem_range.mp hi
      have ex : (((n + (i + 1) : Nat)) : Int) + 1 = (n : Int) + 2 + (i : Int) := by omega
      show (q_put2 φ n N h0 ((((n + (i + 1) : Nat)) : Int) + 1), q_cell cy _ (q_kd ((((n + (i + 1) : Nat)) : Int) + 1)) (q_ln ((((n + (i + 1) : Nat)) : Int) + 1)) (M' ((((n + (i + 1) : Nat)) : Int) + 1))) = _
      rw [ex, (kj i hi).1, (kj i hi).2, q_cell_i (by decide), m1 _ (by omega)]
      have c1 : q_put2 φ n N h0 ((n : Int) + 2 + (i : Int)) = h0 + 1 + i := by
        unfold q_put2
        rw [if_pos (by omega)]
        omega
      rw [c1]
      congr 5
      funext j
      rw [hM.1 _ _ (by omega)]
      rfl
theorem qr_mnewa (pc pc' : Nat) (hp : pc + 4 = pc') {N K ix : Nat} {M' : q_Mem} (k0 : q_kd ((n : Int) + 1) = 20) (l0 : q_ln ((n : Int) + 1) = N) (kj : ∀ j : Nat, j < N → q_kd ((n : Int) + 2 + (j : Int)) = 14 ∧ q_ln ((n : Int) + 2 + (j : Int)) = K) (m1 : ∀ b : Int, b ≠ (n : Int) + 1 → M' b = M b) (m2 : ∀ j : Nat, j < N → M' ((n : Int) + 1) (j : Int) = (n : Int) + 2 + (j : Int)) (m3 : ∀ j : Nat, N ≤ j → M' ((n : Int) + 1) (j : Int) = 0)
    (hN9 : N ≤ 1000) (hK9 : K ≤ 1000) (hsz : q_sz (n + (1 + N)) = q_sz n + (N + N * K)) (hn1 : n + (1 + N) ≤ n1) (hN : n + (1 + N) ≠ q_N) (hover : Cond.arrayOver (.array .int) ∈ q_nst) (harr : Cond.arrayClass .int ∈ q_gd) (hcl : Cond.classLink X.2.2.1 ix "[[I" ∈ q_gd) (hd : decode X.1 pc = .ok (.multianewarray ix 2, 4))
    (kk : q_V X d n0 n1 P (n + (1 + N)) M' pc' ls (qR ((n : Int) + 1) :: st)) : q_V X d n0 n1 P n M pc ls (qI (K : Int) :: qI (N : Int) :: st) := by
  intro p l e s m args below meth c dC dI cy φ0 base C φ H locs lsA D ol os hl
  subst hp
  have hX : va_K (dC, dI) vwCl (q_tys cy) s := C.2.2.2.2.2.2.2.2.1.1
  obtain ⟨hag, ⟨hP, hD, hM⟩, hS, hnn⟩ := id D
  have z1 := q_sz_mono hnn
  have z2 := q_sz_mono hn1
  have inN : q_in32 (N : Int) := by unfold q_in32; omega
  have inK : q_in32 (K : Int) := by unfold q_in32; omega
  rw [List.map_cons, List.map_cons, show q_c φ (qI (N : Int)) = .int (Int32.ofInt (N : Int)) from rfl, show q_c φ (qI (K : Int)) = .int (Int32.ofInt (K : Int)) from rfl]
  refine va_mna (Dd := (dC, dI)) (N := N) (K := K) C.1 C.2.1 C.2.2.2.2.1 (C.2.2.2.2.2.1 _ hcl) (C.2.2.2.2.2.2.2.2.1.2.1 _ hover) (C.2.2.2.2.2.1 _ harr) hP hD hS (fun q hq => Nat.le_trans C.2.2.2.2.2.2.2.2.2 hq) (fun g => by have := (q_i_lt inN q_in32_0).mp g; omega) (fun g => by have := (q_i_lt inK q_in32_0).mp g; omega) (by rw [q_cl inN]; exact Int.toNat_natCast N) (by rw [q_cl inK]; exact Int.toNat_natCast K) hN9 hK9 (by show n - n0 + (1 + N) ≤ n1 - n0; omega) (by show q_sz n - q_sz n0 + (N + N * K) ≤ q_sz n1 - q_sz n0; omega) hd (fun cA cC H1 f1 f2 hP1 hD1 hS1 => ?_)
  have eA : cA = cy 20 := Option.some.inj (f1.symm.trans (hX.2 7 (cy 20, .array .int) rfl).2)
  have eC : cC = cy 14 := Option.some.inj (f2.symm.trans (hX.2 1 (cy 14, .int) rfl).2)
  subst eA
  subst eC
  have wg := q_w_grow2 (cy := cy) (φ := φ) (h0 := H.size) hM k0 l0 kj m1 m2 m3
  rw [← wg] at hP1 hD1
  have ag : q_ag φ (q_put2 φ n N H.size) n := fun x hx => q_put2_le hx
  have e1 : q_c (q_put2 φ n N H.size) (qR ((n : Int) + 1)) = .ref H.size := by
    show q_r _ _ = _
    unfold q_r q_put2
    rw [if_neg (by omega), if_pos (by omega), show ((n : Int) + 1 - (n : Int) - 1).toNat = 0 by omega, Nat.add_zero]
  have h9 := kk p l e s m args below meth c dC dI cy φ0 base C (q_put2 φ n N H.size) H1 locs lsA ⟨fun x hx => (q_put2_le (by omega)).trans (hag x hx), ⟨hP1, hD1, ⟨fun b j hb => ?_, fun b j => ?_, fun q => absurd q hN⟩⟩, hS1, by omega⟩ (q_okl_mono (Nat.le_add_right _ _) ol) ⟨by show (n : Int) + 1 ≤ ((n + (1 + N) : Nat) : Int); omega, q_oks_mono (Nat.le_add_right _ _) os.2.2⟩ (q_Ls_ag ag ol hl)
  · rw [List.map_cons, q_cs_ag ag os.2.2, e1] at h9
    rw [show n - n0 + (1 + N) = n + (1 + N) - n0 by omega, show q_sz n - q_sz n0 + (N + N * K) = q_sz (n + (1 + N)) - q_sz n0 by omega]
    exact h9
  · rw [m1 b (by omega)]; exact hM.1 b j (by omega)
  · by_cases e2 : b = (n : Int) + 1
    · subst e2
      rw [k0]
      show M' _ _ ≤ ((n + (1 + N) : Nat) : Int)
      by_cases hj : j < N
      · rw [m2 j hj]; omega
      · rw [m3 j (by omega)]; omega
    · rw [m1 b e2]; exact q_rg_mon (Nat.le_add_right _ _) (hM.2.1 b j)
end QCN
