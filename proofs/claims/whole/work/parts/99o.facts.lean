-- the start of the law; the claim out of one walk
def lw_sp : List Nat := [64, 72, 82, 93, 134, 150, 374, 105, 119, 168, 301, 325, 350, 236, 257, 279, 218, 200, 183, 48, 403, 520]
def lw_si : List Nat := [579, 613, 630, 635, 646, 663, 723, 640, 641, 685, 720, 721, 722, 713, 714, 715, 712, 711, 702, 490, 1498, 1504]
abbrev l_tm (i : Nat) : Term := Term.string (q_so i).1 (q_so i).2.1
def l_at (i : Nat) : List Cond := Cond.exactly (l_tm i) "java/lang/String" :: Cond.eq (.field (l_tm i) "java/lang/String" "coder" "B") (.int 0) :: Cond.arrayOf (.field (l_tm i) "java/lang/String" "value" "[B") .byte :: Cond.eq (.length (.field (l_tm i) "java/lang/String" "value" "[B")) (.int (Int32.ofNat (q_sb i).length)) :: (List.range (q_sb i).length).map (fun j => Cond.eq (.elem (.field (l_tm i) "java/lang/String" "value" "[B") (.int (Int32.ofNat j))) (.int (Int32.ofInt ((q_sb i).getD j 0))))
theorem l_at_ok : ∀ i, i < 22 → ((flatC (Jvm.Cond.and given_1 narrow_1)).drop (lw_sp.getD i 0)).take (l_at i).length = l_at i := by decide +kernel
theorem l_at_in {i : Nat} (hi : i < 22) {w : Cond} (h : w ∈ l_at i) : w ∈ flatC (Jvm.Cond.and given_1 narrow_1) := by
  rw [← l_at_ok i hi] at h
  exact List.mem_of_mem_drop (List.mem_of_mem_take h)
theorem l_sr_ok : ∀ i, i < 22 → tables_1[lw_si.getD i 0]? = some (Cond.stringRef (q_so i).1 (q_so i).2.1 (q_so i).2.2) := by decide +kernel
theorem l_sb_ok : ∀ i, i < 22 → (q_sb i).length < 2 ^ 31 := by decide +kernel
def l_SP (s : State) (i : Nat) (q : Nat × Nat) : Prop := va_O "java/lang/String" q.1 (q_B s.heap.size) s s.heap ∧ va_OF "java/lang/String" "coder" "B" (.int 0) q.1 (q_B s.heap.size) s s.heap ∧ va_OF "java/lang/String" "value" "[B" (.ref q.2) q.1 (q_B s.heap.size) s s.heap ∧ va_T .byte q.2 (q_sb i).length (fun j => .int (Int32.ofInt ((q_sb i).getD j 0))) (q_B s.heap.size) s s.heap ∧ vk_R (q_so i).1 (q_so i).2.1 (q_so i).2.2 q.1 s
theorem l_str {s : State} {args : Array Value} (hgv : (Jvm.Cond.and given_1 narrow_1).before args s = true) (hts : ∀ w ∈ tables_1, w.before args s = true) (i : Nat) : ∃ q : Nat × Nat, i < 22 → l_SP s i q := by
  by_cases hi : i < 22
  · have hs := flat_of_before _ hgv
    have hA : ∀ a : Nat, a < s.heap.size → ¬ q_B s.heap.size a := fun a ha => Nat.not_le.mpr ha
    have hex := hs _ (l_at_in hi (w := Cond.exactly (l_tm i) "java/lang/String") List.mem_cons_self)
    have hco := hs _ (l_at_in hi (w := Cond.eq (.field (l_tm i) "java/lang/String" "coder" "B") (.int 0)) (List.mem_cons_of_mem _ List.mem_cons_self))
    have har := hs _ (l_at_in hi (w := Cond.arrayOf (.field (l_tm i) "java/lang/String" "value" "[B") .byte) (List.mem_cons_of_mem _ (List.mem_cons_of_mem _ List.mem_cons_self)))
    have hle := hs _ (l_at_in hi (w := Cond.eq (.length (.field (l_tm i) "java/lang/String" "value" "[B")) (.int (Int32.ofNat (q_sb i).length))) (List.mem_cons_of_mem _ (List.mem_cons_of_mem _ (List.mem_cons_of_mem _ List.mem_cons_self))))
    have hel : ∀ j : Nat, j < (q_sb i).length → (Cond.eq (.elem (.field (l_tm i) "java/lang/String" "value" "[B") (.int (Int32.ofNat j))) (.int (Int32.ofInt ((q_sb i).getD j 0)))).before args s = true := fun j hj => hs _ (l_at_in hi (List.mem_cons_of_mem _ (List.mem_cons_of_mem _ (List.mem_cons_of_mem _ (List.mem_cons_of_mem _ (List.mem_map.mpr ⟨j, List.mem_range.mpr hj, rfl⟩))))))
    obtain ⟨a, c, cA, kA, q1, q2, q3, q4, q5, q6, -⟩ := Cond.exactly_spec (args := args) (first := s) (o := none) (s := s) (idx := []) (t := l_tm i) (cls := "java/lang/String") hex
    obtain ⟨t, ht, hT⟩ := va_Tof (f := fun j => .int (Int32.ofInt ((q_sb i).getD j 0))) (A := q_B s.heap.size) (l_sb_ok i hi) har (va_eqt hle) (fun j hj => va_eqt (hel j hj)) hA
    exact ⟨(a, t), fun _ => ⟨⟨cA, q3, q5, by rw [q6]; exact q2, hA a (Array.getElem?_eq_some_iff.mp q3).1⟩, vk_OFof q1 (va_eqt hco) hA, vk_OFof q1 ht hA, hT, vk_R.of (hts _ (List.mem_of_getElem? (l_sr_ok i hi))) q1⟩⟩
  · exact ⟨(0, 0), fun h => absurd h hi⟩
/-- where the constants lie -/
def l_ph (b fm : Nat) (ad : Nat → Nat × Nat) : Int → Nat := fun x => if x = -300 then b else if x = -200 then fm else if x ≤ -101 then (ad (-x - 101).toNat).2 else (ad (-x - 1).toNat).1
theorem l_kn {s : State} {args : Array Value} (hgd : ∀ w ∈ q_gd, w.before args s = true) (k : Nat) : ∃ q : ClassId × (Nat → Nat), ∀ r : vw_C, vwCl[k]? = some r → u_Kn s r.1 r.2.1 r.2.2 q.1 q.2 := by
  match k with
  | 0 => exact (u_known (C := RX0) (T := TX0) (N := 3) hgd ck0.2.2.1 (hgd _ wm_187)) |> fun ⟨a, b, h⟩ => ⟨(a, b), fun r hr => by cases hr; exact h⟩
  | 1 => exact (u_known (C := RX1) (T := TX1) (N := 3) hgd ck1.2.2.1 (hgd _ wm_309)) |> fun ⟨a, b, h⟩ => ⟨(a, b), fun r hr => by cases hr; exact h⟩
  | 2 => exact (u_known (C := RX2) (T := TX2) (N := 4) hgd ck2.2.2.1 (hgd _ wm_38)) |> fun ⟨a, b, h⟩ => ⟨(a, b), fun r hr => by cases hr; exact h⟩
  | 3 => exact (u_known (C := RX3) (T := TX3) (N := 6) hgd ck3.2.2.1 (hgd _ wm_350)) |> fun ⟨a, b, h⟩ => ⟨(a, b), fun r hr => by cases hr; exact h⟩
  | 4 => exact (u_known (C := RX4) (T := TX4) (N := 12) hgd ck4.2.2.1 (hgd _ wm_32)) |> fun ⟨a, b, h⟩ => ⟨(a, b), fun r hr => by cases hr; exact h⟩
  | 5 => exact (u_known (C := RX5) (T := TX5) (N := 10) hgd ck5.2.2.1 (hgd _ wm_119)) |> fun ⟨a, b, h⟩ => ⟨(a, b), fun r hr => by cases hr; exact h⟩
  | 6 => exact (u_known (C := RX6) (T := TX6) (N := 9) hgd ck6.2.2.1 (hgd _ wm_211)) |> fun ⟨a, b, h⟩ => ⟨(a, b), fun r hr => by cases hr; exact h⟩
  | 7 => exact (u_known (C := RX7) (T := TX7) (N := 4) hgd ck7.2.2.1 (hgd _ wm_160)) |> fun ⟨a, b, h⟩ => ⟨(a, b), fun r hr => by cases hr; exact h⟩
  | 8 => exact (u_known (C := RX8) (T := TX8) (N := 9) hgd ck8.2.2.1 (hgd _ wm_274)) |> fun ⟨a, b, h⟩ => ⟨(a, b), fun r hr => by cases hr; exact h⟩
  | 9 => exact (u_known (C := RX9) (T := TX9) (N := 3) hgd ck9.2.2.1 (hgd _ wm_330)) |> fun ⟨a, b, h⟩ => ⟨(a, b), fun r hr => by cases hr; exact h⟩
  | 10 => exact (u_known (C := RX10) (T := TX10) (N := 3) hgd ck10.2.2.1 (hgd _ wm_255)) |> fun ⟨a, b, h⟩ => ⟨(a, b), fun r hr => by cases hr; exact h⟩
  | 11 => exact (u_known (C := RX11) (T := TX11) (N := 19) hgd ck11.2.2.1 (hgd _ wm_24)) |> fun ⟨a, b, h⟩ => ⟨(a, b), fun r hr => by cases hr; exact h⟩
  | 12 => exact (u_known (C := RX12) (T := TX12) (N := 48) hgd ck12.2.2.1 (hgd _ wm_1317)) |> fun ⟨a, b, h⟩ => ⟨(a, b), fun r hr => by cases hr; exact h⟩
  | k + 13 => exact ⟨(0, fun _ => 0), fun r hr => by simp [vwCl] at hr⟩
theorem l_arr {s : State} {args : Array Value} {ty : FieldType} (h : (Cond.arrayClass ty).before args s = true) : ∃ cA : ClassId, ArrOfT s cA ty ∧ s.vm.findClass ("[" ++ ty.toString) = some cA := by
  obtain ⟨cA, k, comp, h1, h2, h3⟩ := Cond.arrayClass_spec h
  exact ⟨cA, fun n z => ⟨(fun k h => by cases h), k, h2, comp, h3⟩, h1⟩
theorem l_arrO {s : State} {C0 : String} (h : va_AO C0 s) : ∃ cA : ClassId, ArrOfT s cA (.object C0) ∧ va_RA s cA (.object C0) := by
  obtain ⟨comp, cA, k, h1, h2, h3, h4, h5⟩ := Cond.arrayOver_spec h
  exact ⟨cA, fun n z => ⟨(fun k h => by cases h), k, h3, comp, h4⟩, k, comp, h3, h4, h1, h5⟩
theorem l_arrA {s : State} {t : FieldType} (h : va_Nw (.arrayOver (.array t)) s) : ∃ cA : ClassId, ArrOfT s cA (.array t) ∧ va_RA s cA (.array t) := by
  obtain ⟨comp, cA, k, h1, h2, h3, h4, h5⟩ := arrayOverA_spec h
  exact ⟨cA, fun n z => ⟨(fun k h => by cases h), k, h3, comp, h4⟩, h5⟩
/-- all that is known of the start -/
theorem l_X {s : State} {b : Nat} (hts : ∀ w ∈ lw_tbl, w.before #[Value.ref b] s = true) (hgv : (Jvm.Cond.and given_1 narrow_1).before #[Value.ref b] s = true) : ∃ (dC : Nat → ClassId) (dI : Nat → Nat → Nat) (cy : Nat → ClassId) (φ0 : Int → Nat), q_X dC dI cy s.heap.size φ0 s ∧ φ0 (-300) = b := by
  have hgd : ∀ w ∈ q_gd, w.before #[Value.ref b] s = true := fun w hw => hts w (List.mem_filter.mp hw).1
  have ht1 : ∀ w ∈ tables_1, w.before #[Value.ref b] s = true := fun w hw => hts w (List.mem_append_right _ hw)
  have hs := flat_of_before _ hgv
  have hA : ∀ a : Nat, a < s.heap.size → ¬ q_B s.heap.size a := fun a ha => Nat.not_le.mpr ha
  obtain ⟨kd, hkd⟩ : ∃ kd : Nat → ClassId × (Nat → Nat), ∀ (k : Nat) (r : vw_C), vwCl[k]? = some r → u_Kn s r.1 r.2.1 r.2.2 (kd k).1 (kd k).2 := ⟨fun k => Classical.choose (l_kn hgd k), fun k => Classical.choose_spec (l_kn hgd k)⟩
  obtain ⟨ad, had⟩ : ∃ ad : Nat → Nat × Nat, ∀ i : Nat, i < 22 → l_SP s i (ad i) := ⟨fun k => Classical.choose (l_str hgv ht1 k), fun k => Classical.choose_spec (l_str hgv ht1 k)⟩
  have hnst : ∀ w ∈ q_nst, va_Nw w s := fun w hw => by
    have hz := ht1 w (List.mem_filter.mp hw).1
    have hn := (List.mem_filter.mp hw).2
    cases w <;> first | (simp [q_isN] at hn; done) | exact va_Nw.of rfl hz | exact hz
  have a1 : va_AO RX1 s := va_AO.of (ht1 _ (tb_1 (List.mem_of_getElem? (i := 207) rfl)))
  have a7 : va_AO RX7 s := va_AO.of (ht1 _ (tb_1 (List.mem_of_getElem? (i := 193) rfl)))
  have a9 : va_AO RX9 s := va_AO.of (ht1 _ (tb_1 (List.mem_of_getElem? (i := 209) rfl)))
  obtain ⟨c13, x13, y13⟩ := l_arr (hgd _ wx_byte)
  obtain ⟨c14, x14, y14⟩ := l_arr (hgd _ wx_int)
  obtain ⟨c15, x15, y15⟩ := l_arr (hgd _ wx_long)
  obtain ⟨c16, x16, y16⟩ := l_arr (hgd _ wx_boolean)
  obtain ⟨c17, x17, y17⟩ := l_arrO a1
  obtain ⟨c18, x18, y18⟩ := l_arrO a7
  obtain ⟨c19, x19, y19⟩ := l_arrO a9
  obtain ⟨c20, x20, y20⟩ := l_arrA (hnst _ wx_over)
  have hcs : va_Z "java/lang/String" "COMPACT_STRINGS" "Z" (.int 1) (q_B s.heap.size) s s.heap := va_Zof (ht1 _ (tb_3 (List.mem_of_getElem? (i := 24) rfl))) (ht1 _ (tb_1 (List.mem_of_getElem? (i := 16) rfl))) (va_eqi (hs _ (List.mem_of_getElem? (i := 4) (by decide +kernel)))) hA
  have hsf := va_Zqof (ht1 (Cond.laysStatic "jdk/internal/util/Preconditions" "SIOOBE_FORMATTER" "Ljava/util/function/BiFunction;") (tb_3 (List.mem_of_getElem? (i := 65) rfl))) (ht1 (Cond.initialized "jdk/internal/util/Preconditions") (tb_1 (List.mem_of_getElem? (i := 19) rfl))) (hs (Cond.isRef (Term.static "jdk/internal/util/Preconditions" "SIOOBE_FORMATTER" "Ljava/util/function/BiFunction;")) (List.mem_of_getElem? (i := 5) (by decide +kernel))) hA
  obtain ⟨fm, hfm⟩ : ∃ fm : Nat, va_Z "jdk/internal/util/Preconditions" "SIOOBE_FORMATTER" "Ljava/util/function/BiFunction;" .null (q_B s.heap.size) s s.heap ∨ va_Z "jdk/internal/util/Preconditions" "SIOOBE_FORMATTER" "Ljava/util/function/BiFunction;" (.ref fm) (q_B s.heap.size) s s.heap := by
    rcases hsf with h | ⟨t, h⟩
    · exact ⟨0, Or.inl h⟩
    · exact ⟨t, Or.inr h⟩
  refine ⟨fun k => (kd k).1, fun k => (kd k).2, fun k => [c13, c14, c15, c16, c17, c18, c19, c20].getD (k - 13) 0, l_ph b fm ad, ⟨⟨fun k r hr => hkd k r hr, fun k q hq => ?_⟩, hnst, a1, a7, a9, fun i hi => ?_, hcs, ?_⟩, if_pos rfl⟩
  · match k, hq with
    | 0, hq => cases hq; exact ⟨x13, y13⟩
    | 1, hq => cases hq; exact ⟨x14, y14⟩
    | 2, hq => cases hq; exact ⟨x15, y15⟩
    | 3, hq => cases hq; exact ⟨x16, y16⟩
    | 4, hq => cases hq; exact ⟨x17, y17⟩
    | 5, hq => cases hq; exact ⟨x18, y18⟩
    | 6, hq => cases hq; exact ⟨x19, y19⟩
    | 7, hq => cases hq; exact ⟨x20, y20⟩
    | k + 8, hq => simp [q_tys] at hq
  · have e1 : l_ph b fm ad (-(i : Int) - 1) = (ad i).1 := by
      unfold l_ph
      rw [if_neg (by omega), if_neg (by omega), if_neg (by omega), show (-(-(i : Int) - 1) - 1).toNat = i by omega]
    have e2 : l_ph b fm ad (-(i : Int) - 101) = (ad i).2 := by
      unfold l_ph
      rw [if_neg (by omega), if_neg (by omega), if_pos (by omega), show (-(-(i : Int) - 101) - 101).toNat = i by omega]
    rw [e1, e2]
    exact had i hi
  · have e3 : l_ph b fm ad (-200) = fm := by
      unfold l_ph
      rw [if_neg (by omega), if_pos rfl]
    rw [e3]
    exact hfm
