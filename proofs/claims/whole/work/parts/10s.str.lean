-- String constants
theorem q_sb_len : ∀ i, i < 22 → (q_sb i).length < 1000 := by decide +kernel
theorem q_sb_rng : ∀ i, i < 22 → ∀ b ∈ q_sb i, 0 ≤ b ∧ b < 128 := by decide +kernel
theorem q_sb_at {i : Nat} (hi : i < 22) (j : Nat) : 0 ≤ (q_sb i).getD j 0 ∧ (q_sb i).getD j 0 < 128 := by
  by_cases h : j < (q_sb i).length
  · have : (q_sb i).getD j 0 = (q_sb i)[j] := by simp [List.getD_eq_getElem?_getD, h]
    rw [this]
    exact q_sb_rng i hi _ (List.getElem_mem h)
  · have : (q_sb i).getD j 0 = 0 := by simp [List.getD_eq_getElem?_getD, Nat.not_lt.mp h]
    rw [this]; omega
section QS
variable {X : q_Mt} {d : Nat} {P : Option q_AV → q_Mem → Prop} {M : q_Mem} {ls : List (Option q_AV)} {st : List q_AV}
theorem q_rneg {φ : Int → Nat} {x : Int} (h : x < 0) : q_c φ (qR x) = .ref (φ x) := if_neg (by omega)
theorem qr_ldcS (pc pc' : Nat) (hp : pc + 2 = pc') (i : Nat) (hi : i < 22) {ix : Nat} {a : Int} (ha : -(i : Int) - 1 = a) (ho : (q_so i).1 = X.2.2.1) (hx : (q_so i).2.1 = ix) (hd : decode X.1 pc = .ok (.ldc ix, 2)) (k : q_v X d P M pc' ls (qR a :: st)) : q_v X d P M pc ls st := by
  intro p l e s m args below meth c dC dI cy φ0 base C φ H locs lsA D ol os hl
  subst hp
  subst ha
  subst hx
  have hSt : q_St base φ0 s := C.2.2.2.2.2.2.2.2.1.2.2.2.2.2
  obtain ⟨hag, hW, hS, hnn⟩ := id D
  have hR := (hSt.1 i hi).2.2.2.2
  rw [← hag _ (by have := hnn; omega)] at hR
  have h9 := k p l e s m args below meth c dC dI cy φ0 base C φ H locs lsA D ol ⟨by show _ ≤ _; omega, os⟩ hl
  rw [List.map_cons, q_rneg (by omega)] at h9
  exact va_ldcS C.1 C.2.1 (by rw [ho]; exact C.2.2.2.2.1) hR hd h9
theorem qr_sval (pc pc' : Nat) (hp : pc + 3 = pc') (i : Nat) (hi : i < 22) {ix : Nat} (hw : Cond.fieldLink X.2.2.1 ix "java/lang/String" "value" "[B" ∈ q_gd) (hd : decode X.1 pc = .ok (.getfield ix, 3)) (k : q_v X d P M pc' ls (qR (-(i : Int) - 101) :: st)) : q_v X d P M pc ls (qR (-(i : Int) - 1) :: st) := by
  intro p l e s m args below meth c dC dI cy φ0 base C φ H locs lsA D ol os hl
  subst hp
  have hSt : q_St base φ0 s := C.2.2.2.2.2.2.2.2.1.2.2.2.2.2
  obtain ⟨hag, hW, hS, hnn⟩ := id D
  have hR := (hSt.1 i hi).2.2.1
  rw [← hag (-(i : Int) - 101) (by omega), ← hag (-(i : Int) - 1) (by omega)] at hR
  have h9 := k p l e s m args below meth c dC dI cy φ0 base C φ H locs lsA D ol ⟨by show _ ≤ _; omega, os.2⟩ hl
  rw [List.map_cons, q_rneg (by omega)] at h9
  rw [List.map_cons, q_rneg (by omega)]
  exact vk_getf C.1 C.2.1 hR hS C.2.2.2.2.1 (C.2.2.2.2.2.1 _ hw) (fun x h => h) hd h9
theorem qr_scod (pc pc' : Nat) (hp : pc + 3 = pc') (i : Nat) (hi : i < 22) {ix : Nat} (hw : Cond.fieldLink X.2.2.1 ix "java/lang/String" "coder" "B" ∈ q_gd) (hd : decode X.1 pc = .ok (.getfield ix, 3)) (k : q_v X d P M pc' ls (qI 0 :: st)) : q_v X d P M pc ls (qR (-(i : Int) - 1) :: st) := by
  intro p l e s m args below meth c dC dI cy φ0 base C φ H locs lsA D ol os hl
  subst hp
  have hSt : q_St base φ0 s := C.2.2.2.2.2.2.2.2.1.2.2.2.2.2
  obtain ⟨hag, hW, hS, hnn⟩ := id D
  have hR := (hSt.1 i hi).2.1
  rw [← hag (-(i : Int) - 1) (by omega)] at hR
  have h9 := k p l e s m args below meth c dC dI cy φ0 base C φ H locs lsA D ol ⟨q_in32_0, os.2⟩ hl
  rw [List.map_cons, q_rneg (by omega)]
  exact vk_getf C.1 C.2.1 hR hS C.2.2.2.2.1 (C.2.2.2.2.2.1 _ hw) (fun x h => h) hd h9
theorem qr_slen (pc pc' : Nat) (hp : pc + 1 = pc') (i : Nat) (hi : i < 22) (hd : decode X.1 pc = .ok (.arraylength, 1)) (k : q_v X d P M pc' ls (qI ((q_sb i).length : Int) :: st)) : q_v X d P M pc ls (qR (-(i : Int) - 101) :: st) := by
  intro p l e s m args below meth c dC dI cy φ0 base C φ H locs lsA D ol os hl
  subst hp
  have hSt : q_St base φ0 s := C.2.2.2.2.2.2.2.2.1.2.2.2.2.2
  obtain ⟨hag, hW, hS, hnn⟩ := id D
  have hR := (hSt.1 i hi).2.2.2.1
  rw [← hag (-(i : Int) - 101) (by omega)] at hR
  have hlen := q_sb_len i hi
  have h9 := k p l e s m args below meth c dC dI cy φ0 base C φ H locs lsA D ol ⟨(by show q_in32 _; unfold q_in32; omega), os.2⟩ hl
  rw [List.map_cons, q_rneg (by omega)]
  exact va_tlen C.1 C.2.1 hR hS (v := Int32.ofInt ((q_sb i).length : Int)) rfl hd h9
theorem qr_sbal (pc pc' : Nat) (hp : pc + 1 = pc') (i : Nat) (hi : i < 22) {j : Int} (h0 : 0 ≤ j) (h1 : j < ((q_sb i).length : Int)) (hd : decode X.1 pc = .ok (.baload, 1)) (k : q_v X d P M pc' ls (qI ((q_sb i).getD j.toNat 0) :: st)) : q_v X d P M pc ls (qI j :: qR (-(i : Int) - 101) :: st) := by
  intro p l e s m args below meth c dC dI cy φ0 base C φ H locs lsA D ol os hl
  subst hp
  have hSt : q_St base φ0 s := C.2.2.2.2.2.2.2.2.1.2.2.2.2.2
  obtain ⟨hag, hW, hS, hnn⟩ := id D
  have hR := (hSt.1 i hi).2.2.2.1
  rw [← hag (-(i : Int) - 101) (by omega)] at hR
  have hb := q_sb_at hi j.toNat
  have h9 := k p l e s m args below meth c dC dI cy φ0 base C φ H locs lsA D ol ⟨(by show q_in32 _; unfold q_in32; omega), os.2.2⟩ hl
  rw [List.map_cons, List.map_cons, q_rneg (by omega)]
  exact va_tb C.1 C.2.1 hR hS (q_vi os.1 h0 h1) (v := .int (Int32.ofInt ((q_sb i).getD j.toNat 0))) (by rw [q_cl os.1]) hd h9
theorem qr_gcs (pc pc' : Nat) (hp : pc + 3 = pc') {ix : Nat} (hw : Cond.fieldLink X.2.2.1 ix "java/lang/String" "COMPACT_STRINGS" "Z" ∈ q_gd) (hd : decode X.1 pc = .ok (.getstatic ix, 3)) (k : q_v X d P M pc' ls (qI 1 :: st)) : q_v X d P M pc ls st := by
  intro p l e s m args below meth c dC dI cy φ0 base C φ H locs lsA D ol os hl
  subst hp
  have hSt : q_St base φ0 s := C.2.2.2.2.2.2.2.2.1.2.2.2.2.2
  obtain ⟨hag, hW, hS, hnn⟩ := id D
  have h9 := k p l e s m args below meth c dC dI cy φ0 base C φ H locs lsA D ol ⟨q_l32 1 rfl, os⟩ hl
  exact va_gets C.1 C.2.1 hSt.2.1 hS C.2.2.2.2.1 (C.2.2.2.2.2.1 _ hw) (fun x h => h) hd h9
theorem qr_gfm (pc pc' : Nat) (hp : pc + 3 = pc') {ix : Nat} (hw : Cond.fieldLink X.2.2.1 ix "jdk/internal/util/Preconditions" "SIOOBE_FORMATTER" "Ljava/util/function/BiFunction;" ∈ q_gd) (hd : decode X.1 pc = .ok (.getstatic ix, 3)) (k : ∀ z : Int, q_v X d P M pc' ls (qR z :: st)) : q_v X d P M pc ls st := by
  intro p l e s m args below meth c dC dI cy φ0 base C φ H locs lsA D ol os hl
  subst hp
  have hSt : q_St base φ0 s := C.2.2.2.2.2.2.2.2.1.2.2.2.2.2
  obtain ⟨hag, hW, hS, hnn⟩ := id D
  rcases hSt.2.2 with hR | hR
  · have h9 := k 0 p l e s m args below meth c dC dI cy φ0 base C φ H locs lsA D ol ⟨by show _ ≤ _; omega, os⟩ hl
    have e0 : q_c φ (qR 0) = .null := by show q_r φ 0 = _; unfold q_r; rw [if_pos rfl]
    rw [List.map_cons, e0] at h9
    exact va_gets C.1 C.2.1 hR hS C.2.2.2.2.1 (C.2.2.2.2.2.1 _ hw) (fun x h => h) hd h9
  · rw [← hag (-200) (by omega)] at hR
    have h9 := k (-200) p l e s m args below meth c dC dI cy φ0 base C φ H locs lsA D ol ⟨by show _ ≤ _; omega, os⟩ hl
    rw [List.map_cons, q_rneg (by omega)] at h9
    exact va_gets C.1 C.2.1 hR hS C.2.2.2.2.1 (C.2.2.2.2.2.1 _ hw) (fun x h => h) hd h9
/-- invokevirtual on a String constant -/
theorem qr_callT (pc pc' : Nat) (hp : pc + 3 = pc') {y : MethodName} {Y : q_Mt} {np ix D0 : Nat} (i : Nat) (hi : i < 22) {av : List q_AV} {st' : List q_AV} {P2 : Option q_AV → q_Mem → Prop} (hy : q_cal y Y np) (hin : Cond.instanceMethod y ∈ q_gd) (hsel : Cond.selects y.cls y y ∈ q_gd) (hlk : Cond.methodLink X.2.2.1 ix y ∈ q_gd) (hcl : y.cls = "java/lang/String") (hdd : D0 + 1 ≤ d) (hn : av.length = np) (hs : st' = av.reverse ++ qR (-(i : Int) - 1) :: st) (hw : q_wid st ≤ 8) (hd : decode X.1 pc = .ok (.invokevirtual ix, 3))
    (hc : q_Con y Y D0 (qR (-(i : Int) - 1) :: av) q_N M q_N P2) (kk : ∀ (r : Option q_AV) (M' : q_Mem), P2 r M' → q_v X d P M' pc' ls (r.toList ++ st)) : q_v X d P M pc ls st' := by
  intro p l e s m args below meth c dC dI cy φ0 base C φ H locs lsA D ol os hl
  subst hp
  subst hs
  obtain ⟨hag, hW, hS, hnn⟩ := id D
  obtain ⟨oa, os2⟩ := q_oks_app os
  have oav := q_oks_rev oa
  have hts := C.2.2.2.2.2.1
  have hSt : q_St base φ0 s := C.2.2.2.2.2.2.2.2.1.2.2.2.2.2
  have hO := (hSt.1 i hi).1
  rw [← hag (-(i : Int) - 1) (by omega)] at hO
  have ea : q_c φ (qR (-(i : Int) - 1)) = .ref (φ (-(i : Int) - 1)) := q_rneg (by omega)
  obtain ⟨cell, g1, g2, g3, -⟩ := hO.kept hS.2.1
  refine q_after C D ol os2.2 hl (a := (Value.ref (φ (-(i : Int) - 1)) :: av.map (q_c φ)).toArray) (Nat.le_refl _) ?_ kk
  exact va_runV (cc := X.1) (nL := X.2.1) (own := X.2.2.1) (Ts := q_gd) (C := y.cls) (b := φ (-(i : Int) - 1)) (As := av.map (q_c φ)) ⟨C.1, C.2.1, C.2.2.2.1, C.2.2.2.2.1, hts⟩ (hc (d - 1) (by omega) l dC dI cy φ base) ⟨q_calB hy hts (hts _ hlk) (by omega), hts _ hin, hts _ hsel⟩
    ⟨q_blind, ⟨cell, g1, g2, by rw [hcl]; exact g3⟩, fun U hU hW9 => ⟨by rw [List.map_cons, ea], ⟨os2.1, oav⟩, q_X_moved hW9 (fun x hx => hag x (by omega)) (fun a h1 h2 => by rw [hU]; exact hS.2.1 a h1 h2) C.2.2.2.2.2.2.2.2.1, by rw [hU]; exact Nat.le_trans C.2.2.2.2.2.2.2.2.2 hS.1, by rw [hU]; exact hW⟩⟩ rfl (by rw [List.length_map]; exact hn) hl.1 (by rw [List.map_append, List.map_reverse, List.map_cons, ea]) (by show 2 * 0 + _ ≤ 8; rw [q_wid_cs]; omega) hd (q_room hnn (Nat.le_refl _) (Nat.le_refl _) d)
theorem qt_I (pc pc' : Nat) (hp : pc + 3 = pc') {y : MethodName} {Y : q_Mt} {np ix : Nat} (i : Nat) (hi : i < 22) {av : List q_AV} {st' : List q_AV} {K : Int → q_Mem → Prop} (hy : q_cal y Y np) (hin : Cond.instanceMethod y ∈ q_gd) (hsel : Cond.selects y.cls y y ∈ q_gd) (hlk : Cond.methodLink X.2.2.1 ix y ∈ q_gd) (hcl : y.cls = "java/lang/String") (hn : av.length = np) (hs : st' = av.reverse ++ qR (-(i : Int) - 1) :: st) (hw : q_wid st ≤ 8) (hd : decode X.1 pc = .ok (.invokevirtual ix, 3)) (hc : q_kI y Y d (qR (-(i : Int) - 1) :: av) M K) (kk : ∀ (v : Int) (M' : q_Mem), K v M' → q_v X d P M' pc' ls (qI v :: st)) : q_v X d P M pc ls st' := by
  obtain ⟨D0, P2, hdd, hcc, hK⟩ := hc
  exact qr_callT pc pc' hp i hi hy hin hsel hlk hcl hdd hn hs hw hd hcc (fun r M' ⟨v, hv, hp9⟩ => by subst hv; exact kk v M' (hK v M' hp9))
theorem q_nc {v : Int} (h0 : 0 ≤ v) (h1 : v < 65536) : narrow .char (.int (Int32.ofInt v)) = .int (Int32.ofInt v) := by
  obtain ⟨n, rfl⟩ := Int.eq_ofNat_of_zero_le h0
  show Value.int _ = _
  congr 1
  have h2 : n < 65536 := by omega
  have e : (Int32.ofInt (n : Int)).toUInt32 = UInt32.ofNat n := by
    apply UInt32.toBitVec_inj.mp
    simp [Int32.ofInt, Int32.toUInt32]
    rfl
  rw [e]
  have e2 : (UInt32.ofNat n).toUInt16.toUInt32 = UInt32.ofNat n := by
    apply UInt32.toNat_inj.mp
    simp
    omega
  rw [e2]
  apply Int32.toBitVec_inj.mp
  simp [Int32.ofInt]
  rfl
theorem qe_c (pc : Nat) {P0 : Int → q_Mem → Prop} {v : Int} (hr : X.2.2.2.1 = some .char) (hv : 0 ≤ v ∧ v < 65536) (hd : decode X.1 pc = .ok (.ireturn, 1)) (h : P0 v M) : q_v X d (qPI P0) M pc ls [qI v] := qr_ireturn pc hr (q_nc hv.1 hv.2) hd ⟨v, rfl, h⟩
theorem qe_b (pc : Nat) {P0 : Int → q_Mem → Prop} {v : Int} (hr : X.2.2.2.1 = some .byte) (hv : v = 0 ∨ v = 1) (hd : decode X.1 pc = .ok (.ireturn, 1)) (h : P0 v M) : q_v X d (qPI P0) M pc ls [qI v] := qr_ireturn pc hr (by rcases hv with rfl | rfl <;> rfl) hd ⟨v, rfl, h⟩
end QS
