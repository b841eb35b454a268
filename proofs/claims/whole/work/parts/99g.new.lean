-- objects made
theorem q_fv_ag {φ φ' : Int → Nat} {n : Nat} (h : ∀ x : Int, x ≤ (n : Int) → φ' x = φ x) {t : FieldType} {x : Int} (hx : q_tr t = true → x ≤ (n : Int)) : q_fv φ' t x = q_fv φ t x := by
  unfold q_fv
  by_cases c : q_tr t = true
  · rw [if_pos c, if_pos c]
    unfold q_r
    rw [h x (hx c)]
  · rw [if_neg c, if_neg c]
theorem q_cell_ag {cy : Nat → ClassId} {φ φ' : Int → Nat} {n kind len : Nat} {f : Int → Int} (h : ∀ x : Int, x ≤ (n : Int) → φ' x = φ x) (hr : ∀ k : Nat, q_rg n (q_sl kind k) (f (k : Int))) : q_cell cy φ' kind len f = q_cell cy φ kind len f := by
  by_cases c : kind < 13
  · rw [q_cell_o c, q_cell_o c]
    congr 2
    apply List.map_congr_left
    intro k _
    refine q_fv_ag h (fun g => ?_)
    have := hr k
    unfold q_rg q_sl at this
    rw [if_pos c, if_pos g] at this
    exact this
  · by_cases c2 : kind = 15
    · subst c2
      rw [q_cell_l, q_cell_l]
    · by_cases c3 : kind < 17
      · rw [q_cell_i (by omega), q_cell_i (by omega)]
      · rw [q_cell_q (by omega), q_cell_q (by omega)]
        congr 7
        funext j
        have := hr j
        unfold q_rg q_sl at this
        rw [if_neg c, if_neg c2, if_neg c3] at this
        rw [h _ this]
def q_put (φ : Int → Nat) (n q : Nat) : Int → Nat := fun x => if x = (n : Int) + 1 then q else φ x
theorem q_put_le {φ : Int → Nat} {n q : Nat} {x : Int} (h : x ≤ (n : Int)) : q_put φ n q x = φ x := if_neg (by omega)
theorem q_put_s {φ : Int → Nat} {n q : Nat} : q_put φ n q ((n : Int) + 1) = q := if_pos rfl
theorem q_c_put {φ : Int → Nat} {n q : Nat} : q_c (q_put φ n q) (qR ((n : Int) + 1)) = .ref q := by
  show q_r (q_put φ n q) ((n : Int) + 1) = .ref q
  unfold q_r
  rw [if_neg (by omega), q_put_s]
theorem q_w_grow {cy : Nat → ClassId} {φ : Int → Nat} {n q : Nat} {M : q_Mem} (hM : q_mem n M) : q_w cy (q_put φ n q) (n + 1) M = q_w cy φ n M ++ [(q, q_cell cy (q_put φ n q) (q_kd ((n : Int) + 1)) (q_ln ((n : Int) + 1)) (M ((n : Int) + 1)))] := by
  unfold q_w
  rw [List.range_succ, List.map_append, List.map_singleton, q_put_s]
  congr 1
  apply List.map_congr_left
  intro i hi
  have hi : i < n := List.mem_range.mp hi
  rw [q_put_le (by omega), q_cell_ag (fun x hx => q_put_le hx) (hM.2.1 ((i : Int) + 1))]
theorem q_rg_mono {n t : Nat} {x : Int} (h : q_rg n t x) : q_rg (n + 1) t x := by
  unfold q_rg at h ⊢
  split
  · rename_i c; rw [if_pos c] at h; exact h
  · rename_i c
    rw [if_neg c] at h
    split
    · rename_i c2; rw [if_pos c2] at h; exact h
    · rename_i c2; rw [if_neg c2] at h; omega
theorem q_mem_grow {n : Nat} {M : q_Mem} (h : q_mem n M) (hN : n + 1 ≠ q_N) : q_mem (n + 1) M := ⟨fun a k g => h.1 a k (by omega), fun a k => q_rg_mono (h.2.1 a k), fun e => absurd e hN⟩
section QNW
variable {X : q_Mt} {d n0 n1 n : Nat} {P : Option q_AV → q_Mem → Prop} {M : q_Mem} {ls : List (Option q_AV)} {st : List q_AV}
theorem qr_new (pc pc' : Nat) (hp : pc + 3 = pc') {ci : Nat} {C0 : String} {T : u_T} {N ix : Nat} (hc : q_cl_ok ci C0 T N) (hkd : q_kd ((n : Int) + 1) = ci) (hn1 : n < n1) (hN : n + 1 ≠ q_N) (hcl : Cond.classLink X.2.2.1 ix C0 ∈ q_gd) (hinst : Cond.instantiable C0 N ∈ q_gd) (hini : Cond.initialized C0 ∈ q_gd) (hd : decode X.1 pc = .ok (.new ix, 3)) (hdf : ∀ k, k < N → defaultValue (q_ty ci k) = q_fv (fun _ => 0) (q_ty ci k) 0)
    (kk : q_V X d n0 n1 P (n + 1) M pc' ls (qR ((n : Int) + 1) :: st)) : q_V X d n0 n1 P n M pc ls st := by
  intro p l e s m args below meth c dC dI cy φ0 base C φ H locs lsA D ol os hl
  subst hp
  have hX : va_K (dC, dI) vwCl (q_tys cy) s := C.2.2.2.2.2.2.2.2.1.1
  obtain ⟨hag, ⟨hP, hD, hM⟩, hS, hnn⟩ := id D
  have hln : q_ln ((n : Int) + 1) = N := hc.2.2.2.2.2.2 _ hkd
  have sz : q_sz (n + 1) = q_sz n + N := by show q_sz n + q_ln ((n : Int) + 1) = _; rw [hln]
  have m1 := q_sz_mono hnn
  have m2 := q_sz_mono (show n + 1 ≤ n1 by omega)
  have z : ∀ k : Int, M ((n : Int) + 1) k = 0 := fun k => hM.1 _ k (by omega)
  refine va_new (D := (dC, dI)) C.1 C.2.1 C.2.2.2.2.2.1 hc.2.2.1 (q_ty ci) hc.2.2.2.1 C.2.2.2.2.1 (C.2.2.2.2.2.1 _ hcl) (C.2.2.2.2.2.1 _ hinst) (C.2.2.2.2.2.1 _ hini) hX hP hD hS (fun q hq => Nat.le_trans C.2.2.2.2.2.2.2.2.2 hq) hc.2.1 (fs := (List.range N).map (fun k : Nat => q_fv φ (q_ty ci k) (M ((n : Int) + 1) (k : Int)))) (fun j hj => ?_) (by show n - n0 + 1 ≤ n1 - n0; omega) (by show q_sz n - q_sz n0 + N ≤ q_sz n1 - q_sz n0; omega) hd (fun q H1 hP1 hD1 hS1 => ?_)
  · rw [hdf j hj]
    unfold vp_V
    rw [List.getD_eq_getElem?_getD, q_fv_at hj, z]
    show _ = q_fv φ (q_ty ci j) 0
    unfold q_fv q_r
    rw [if_pos rfl, if_pos rfl]
  · have ce : q_cell cy (q_put φ n q) (q_kd ((n : Int) + 1)) (q_ln ((n : Int) + 1)) (M ((n : Int) + 1)) = .inr (ci, (List.range N).map (fun k : Nat => q_fv φ (q_ty ci k) (M ((n : Int) + 1) (k : Int)))) := by
      rw [q_cell_ag (n := n) (φ := φ) (fun x hx => q_put_le hx) (hM.2.1 _), hkd, hln, q_cell_o hc.1]
    have wg := q_w_grow (cy := cy) (φ := φ) (q := q) hM
    rw [ce] at wg
    have ag : q_ag φ (q_put φ n q) n := fun x hx => q_put_le hx
    have h9 := kk p l e s m args below meth c dC dI cy φ0 base C (q_put φ n q) H1 locs lsA ⟨fun x hx => (q_put_le (by omega)).trans (hag x hx), ⟨by rw [wg]; exact hP1, by rw [wg]; exact hD1, q_mem_grow hM hN⟩, hS1, by omega⟩ (q_okl_mono (Nat.le_succ n) ol) ⟨by show (n : Int) + 1 ≤ ((n + 1 : Nat) : Int); omega, q_oks_mono (Nat.le_succ n) os⟩ (q_Ls_ag ag ol hl)
    rw [List.map_cons, q_cs_ag ag os, q_c_put] at h9
    rw [show n - n0 + 1 = n + 1 - n0 by omega, show q_sz n - q_sz n0 + N = q_sz (n + 1) - q_sz n0 by omega]
    exact h9
end QNW
theorem q_cy_of {dC : Nat → ClassId} {dI : Nat → Nat → Nat} {cl : List vw_C} {tys : List (ClassId × FieldType)} {s : State} {a b : ClassId} {ty : FieldType} {i : Nat} (h : va_K (dC, dI) cl (tys ++ [(b, ty)]) s) (hi : tys[i]? = some (a, ty)) : b = a := by
  have h1 := (h.2 i (a, ty) (by rw [List.getElem?_append_left (List.getElem?_eq_some_iff.mp hi).1]; exact hi)).2
  have h2 := (h.2 tys.length (b, ty) (by rw [List.getElem?_append_right (Nat.le_refl _), Nat.sub_self]; rfl)).2
  have nm : ∀ {c : ClassId}, va_RA s c ty → s.vm.findClass ("[" ++ ty.toString) = some c := fun {c} h => by
    cases ty with
    | object C =>
      obtain ⟨k1, c1, a1, a2, a3, a4⟩ := h
      exact a4
    | _ => exact h
  exact Option.some.inj ((nm h2).symm.trans (nm h1))
section QNA
variable {X : q_Mt} {d n0 n1 n : Nat} {P : Option q_AV → q_Mem → Prop} {M : q_Mem} {ls : List (Option q_AV)} {st : List q_AV}
/-- how a row of zeros is born: kind, its type, its place among the types -/
def q_nw (kd : Nat) (atype : ArrayType) (ty : FieldType) (i : Nat) : Prop := (13 ≤ kd ∧ kd ≤ 16) ∧ newarray.typeOf atype = ty ∧ (∀ cy : Nat → ClassId, (q_tys cy)[i]? = some (cy kd, ty)) ∧ componentBytes ty ≤ 8 ∧ ∀ (cy : Nat → ClassId) (φ : Int → Nat) (N : Nat), ∃ a0 : vp_A, (∀ cA : ClassId, vp_cell cA a0 = arrV cA N (fun _ => defaultValue ty)) ∧ q_cell cy φ kd N (fun _ => 0) = .inl (cy kd, a0)
theorem q_nw14 : q_nw 14 .int .int 1 := ⟨by decide, rfl, fun _ => rfl, by decide, fun cy φ N => ⟨(N, .inl (fun _ => 0)), fun _ => rfl, by rw [q_cell_i (by decide)]; rfl⟩⟩
theorem q_nw13 : q_nw 13 .byte .byte 0 := ⟨by decide, rfl, fun _ => rfl, by decide, fun cy φ N => ⟨(N, .inl (fun _ => 0)), fun _ => rfl, by rw [q_cell_i (by decide)]; rfl⟩⟩
theorem q_nw16 : q_nw 16 .boolean .boolean 3 := ⟨by decide, rfl, fun _ => rfl, by decide, fun cy φ N => ⟨(N, .inl (fun _ => 0)), fun _ => rfl, by rw [q_cell_i (by decide)]; rfl⟩⟩
theorem q_nw15 : q_nw 15 .long .long 2 := ⟨by decide, rfl, fun _ => rfl, by decide, fun cy φ N => ⟨(N, .inr (.inl (fun _ => 0))), fun _ => rfl, by rw [q_cell_l]; rfl⟩⟩
theorem qr_newa (pc pc' : Nat) (hp : pc + 2 = pc') {kd i N : Nat} {atype : ArrayType} {ty : FieldType} (hq : q_nw kd atype ty i) (hkd : q_kd ((n : Int) + 1) = kd) (hln : q_ln ((n : Int) + 1) = N) (hN9 : N ≤ 100000) (hn1 : n < n1) (hN : n + 1 ≠ q_N) (harr : Cond.arrayClass ty ∈ q_gd) (hd : decode X.1 pc = .ok (.newarray atype, 2))
    (kk : q_V X d n0 n1 P (n + 1) M pc' ls (qR ((n : Int) + 1) :: st)) : q_V X d n0 n1 P n M pc ls (qI (N : Int) :: st) := by
  intro p l e s m args below meth c dC dI cy φ0 base C φ H locs lsA D ol os hl
  subst hp
  have hX : va_K (dC, dI) vwCl (q_tys cy) s := C.2.2.2.2.2.2.2.2.1.1
  obtain ⟨hag, ⟨hP, hD, hM⟩, hS, hnn⟩ := id D
  have sz : q_sz (n + 1) = q_sz n + N := by show q_sz n + q_ln ((n : Int) + 1) = _; rw [hln]
  have m1 := q_sz_mono hnn
  have m2 := q_sz_mono (show n + 1 ≤ n1 by omega)
  have z : M ((n : Int) + 1) = fun _ => 0 := funext (fun k => hM.1 _ k (by omega))
  obtain ⟨hk, hty, hi, hcb, hce⟩ := hq
  obtain ⟨a0, ha, hc0⟩ := hce cy (fun x => φ x) N
  have in32 : q_in32 (N : Int) := by unfold q_in32; omega
  rw [List.map_cons, show q_c φ (qI (N : Int)) = .int (Int32.ofInt (N : Int)) from rfl]
  refine va_newa (D := (dC, dI)) (atype := atype) C.1 C.2.1 (by rw [hty]; exact C.2.2.2.2.2.1 _ harr) hty hX hP hD hS (fun q hq => Nat.le_trans C.2.2.2.2.2.2.2.2.2 hq) ha (fun g => by have := (q_i_lt in32 q_in32_0).mp g; omega) (by rw [q_cl in32]; exact Int.toNat_natCast N) (Nat.le_trans (Nat.mul_le_mul hN9 hcb) (by decide)) (by show n - n0 + 1 ≤ n1 - n0; omega) (by show q_sz n - q_sz n0 + N ≤ q_sz n1 - q_sz n0; omega) hd (fun q cA H1 hK1 hP1 hD1 hS1 => ?_)
  have ec : cA = cy kd := q_cy_of hK1 (hi cy)
  subst ec
  have ce : q_cell cy (q_put φ n q) (q_kd ((n : Int) + 1)) (q_ln ((n : Int) + 1)) (M ((n : Int) + 1)) = .inl (cy kd, a0) := by
    rw [q_cell_ag (n := n) (φ := φ) (fun x hx => q_put_le hx) (hM.2.1 _), hkd, hln, z]
    exact hc0
  have wg := q_w_grow (cy := cy) (φ := φ) (q := q) hM
  rw [ce] at wg
  have ag : q_ag φ (q_put φ n q) n := fun x hx => q_put_le hx
  have h9 := kk p l e s m args below meth c dC dI cy φ0 base C (q_put φ n q) H1 locs lsA ⟨fun x hx => (q_put_le (by omega)).trans (hag x hx), ⟨by rw [wg]; exact hP1, by rw [wg]; exact hD1, q_mem_grow hM hN⟩, hS1, by omega⟩ (q_okl_mono (Nat.le_succ n) ol) ⟨by show (n : Int) + 1 ≤ ((n + 1 : Nat) : Int); omega, q_oks_mono (Nat.le_succ n) os.2⟩ (q_Ls_ag ag ol hl)
  rw [List.map_cons, q_cs_ag ag os.2, q_c_put] at h9
  rw [show n - n0 + 1 = n + 1 - n0 by omega, show q_sz n - q_sz n0 + N = q_sz (n + 1) - q_sz n0 by omega]
  exact h9
end QNA
section QNQ
variable {X : q_Mt} {d n0 n1 n : Nat} {P : Option q_AV → q_Mem → Prop} {M : q_Mem} {ls : List (Option q_AV)} {st : List q_AV}
theorem qr_anewa (pc pc' : Nat) (hp : pc + 3 = pc') {kd i N ix : Nat} {C0 : String} (hk : 17 ≤ kd) (hao : (kd = 17 ∧ C0 = RX1 ∧ i = 4) ∨ (kd = 18 ∧ C0 = RX7 ∧ i = 5) ∨ (kd = 19 ∧ C0 = RX9 ∧ i = 6)) (hkd : q_kd ((n : Int) + 1) = kd) (hln : q_ln ((n : Int) + 1) = N) (hN9 : N ≤ 100000) (hn1 : n < n1) (hN : n + 1 ≠ q_N) (hcl : Cond.classLink X.2.2.1 ix C0 ∈ q_gd) (hd : decode X.1 pc = .ok (.anewarray ix, 3))
    (kk : q_V X d n0 n1 P (n + 1) M pc' ls (qR ((n : Int) + 1) :: st)) : q_V X d n0 n1 P n M pc ls (qI (N : Int) :: st) := by
  intro p l e s m args below meth c dC dI cy φ0 base C φ H locs lsA D ol os hl
  subst hp
  have hq := C.2.2.2.2.2.2.2.2.1
  have hX : va_K (dC, dI) vwCl (q_tys cy) s := hq.1
  obtain ⟨hag, ⟨hP, hD, hM⟩, hS, hnn⟩ := id D
  have sz : q_sz (n + 1) = q_sz n + N := by show q_sz n + q_ln ((n : Int) + 1) = _; rw [hln]
  have m1 := q_sz_mono hnn
  have m2 := q_sz_mono (show n + 1 ≤ n1 by omega)
  have z : M ((n : Int) + 1) = fun _ => 0 := funext (fun k => hM.1 _ k (by omega))
  have in32 : q_in32 (N : Int) := by unfold q_in32; omega
  have ao : va_AO C0 s := by
    rcases hao with ⟨_, e, _⟩ | ⟨_, e, _⟩ | ⟨_, e, _⟩
    · rw [e]; exact hq.2.2.1
    · rw [e]; exact hq.2.2.2.1
    · rw [e]; exact hq.2.2.2.2.1
  have hi : (q_tys cy)[i]? = some (cy kd, .object C0) := by
    rcases hao with ⟨e1, e2, e3⟩ | ⟨e1, e2, e3⟩ | ⟨e1, e2, e3⟩ <;> (rw [e1, e2, e3]; rfl)
  rw [List.map_cons, show q_c φ (qI (N : Int)) = .int (Int32.ofInt (N : Int)) from rfl]
  refine va_newq (D := (dC, dI)) (N' := N) C.1 C.2.1 C.2.2.2.2.1 (C.2.2.2.2.2.1 _ hcl) ao hX hP hD hS (fun q hq => Nat.le_trans C.2.2.2.2.2.2.2.2.2 hq) (fun g => by have := (q_i_lt in32 q_in32_0).mp g; omega) ((q_cl in32).trans (Int.toNat_natCast N)) (by omega) (by show n - n0 + 1 ≤ n1 - n0; omega) (by show q_sz n - q_sz n0 + N ≤ q_sz n1 - q_sz n0; omega) hd (fun q cA H1 hK1 hP1 hD1 hS1 => ?_)
  have ec : cA = cy kd := q_cy_of hK1 hi
  subst ec
  have ce : q_cell cy (q_put φ n q) (q_kd ((n : Int) + 1)) (q_ln ((n : Int) + 1)) (M ((n : Int) + 1)) = .inl (cy kd, N, .inr (.inr (.inr (.inr (fun _ => none))))) := by
    rw [hkd, hln, z, q_cell_q hk]
    rfl
  have wg := q_w_grow (cy := cy) (φ := φ) (q := q) hM
  rw [ce] at wg
  have ag : q_ag φ (q_put φ n q) n := fun x hx => q_put_le hx
  have h9 := kk p l e s m args below meth c dC dI cy φ0 base C (q_put φ n q) H1 locs lsA ⟨fun x hx => (q_put_le (by omega)).trans (hag x hx), ⟨by rw [wg]; exact hP1, by rw [wg]; exact hD1, q_mem_grow hM hN⟩, hS1, by omega⟩ (q_okl_mono (Nat.le_succ n) ol) ⟨by show (n : Int) + 1 ≤ ((n + 1 : Nat) : Int); omega, q_oks_mono (Nat.le_succ n) os.2⟩ (q_Ls_ag ag ol hl)
  rw [List.map_cons, q_cs_ag ag os.2, q_c_put] at h9
  rw [show n - n0 + 1 = n + 1 - n0 by omega, show q_sz n - q_sz n0 + N = q_sz (n + 1) - q_sz n0 by omega]
  exact h9
end QNQ
