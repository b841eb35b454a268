theorem q_sz_mono {a b : Nat} (h : a ≤ b) : q_sz a ≤ q_sz b := by
  induction h with
  | refl => exact Nat.le_refl _
  | step _ ih => exact Nat.le_trans ih (Nat.le_add_right _ _)
theorem q_ok_mono {n n2 : Nat} (h : n ≤ n2) : ∀ {v : q_AV}, q_ok n v → q_ok n2 v
  | .inl _, hv => hv
  | .inr (.inl _), hv => hv
  | .inr (.inr x), hv => by
    have : x ≤ (n : Int) := hv
    show x ≤ (n2 : Int)
    omega
theorem q_oks_mono {n n2 : Nat} (h : n ≤ n2) : ∀ {l : List q_AV}, q_oks n l → q_oks n2 l
  | [], _ => trivial
  | _ :: _, hv => ⟨q_ok_mono h hv.1, q_oks_mono h hv.2⟩
theorem q_okl_mono {n n2 : Nat} (h : n ≤ n2) : ∀ {l : List (Option q_AV)}, q_okl n l → q_okl n2 l
  | [], _ => trivial
  | none :: l, hv => q_okl_mono (l := l) h hv
  | some _ :: _, hv => ⟨q_ok_mono h hv.1, q_okl_mono h hv.2⟩
theorem q_c_ag {φ φ' : Int → Nat} {n : Nat} (h : q_ag φ φ' n) : ∀ {v : q_AV}, q_ok n v → q_c φ' v = q_c φ v
  | .inl _, _ => rfl
  | .inr (.inl _), _ => rfl
  | .inr (.inr x), hv => by
    show q_r φ' x = q_r φ x
    unfold q_r
    rw [h x hv]
theorem q_cs_ag {φ φ' : Int → Nat} {n : Nat} (h : q_ag φ φ' n) : ∀ {l : List q_AV}, q_oks n l → l.map (q_c φ') = l.map (q_c φ)
  | [], _ => rfl
  | v :: l, hv => by rw [List.map_cons, List.map_cons, q_c_ag h hv.1, q_cs_ag h hv.2]
theorem q_Ls_ag {lsA : Array Slot} {nL : Nat} {φ φ' : Int → Nat} {n : Nat} {ls : List (Option q_AV)} (h : q_ag φ φ' n) (ho : q_okl n ls) (hl : q_Ls lsA nL φ ls) : q_Ls lsA nL φ' ls :=
  ⟨hl.1, hl.2.1, fun i v hv => by rw [q_c_ag h (q_okl_at ho hv)]; exact hl.2.2 i v hv⟩
theorem q_aoA_moved {t : FieldType} {u U : State} (hvm : u.vm.Alike U.vm) (h : va_Nw (.arrayOver (.array t)) u) : va_Nw (.arrayOver (.array t)) U := by
  obtain ⟨comp, c, k, h1, h2, h3, h4, h5⟩ := arrayOverA_spec h
  obtain ⟨k', hk', he⟩ := hvm.2.2 _ _ h3
  have hi : (U.vm.classes.findIdx? fun (x : Class) => match x.kind with | .array component _ => component == comp | _ => false) = some c := by
    refine (va_idx_bare U.vm comp).symm.trans ?_
    refine Eq.trans ?_ ((va_idx_bare u.vm comp).trans h2)
    first | rw [hvm.bare_eq] | rw [← hvm.bare_eq]
  have hkind : k'.kind = .array comp (.array t) := by rw [he]; exact h4
  have f1 : U.vm.findClass (FieldType.array t).toString = some comp := by rw [hvm.findClass]; exact h1
  have f2 : U.vm.findClass ("[" ++ (FieldType.array t).toString) = some c := by rw [hvm.findClass]; exact h5
  unfold va_Nw Cond.before Cond.holds
  simp only [Cond.value]
  rw [f1, Option.bind_some]
  refine (congrArg (fun o : Option Nat => (o.bind (fun c => (U.vm.classes[c]?).map fun (k : Class) => match k.kind with | .array _ ty => decide (ty = FieldType.array t) && decide (U.vm.findClass ("[" ++ (FieldType.array t).toString) = some c) | _ => false) == some true)) hi).trans ?_
  simp [hk', hkind, f2]
theorem q_St_moved {base : Nat} {φ φ' : Int → Nat} {s U : State} (ha : s.vm.Alike U.vm) (hR : ∀ {own tx : String} {k a : Nat}, vk_R own k tx a s → vk_R own k tx a U) (hφ : ∀ x : Int, x ≤ 0 → φ' x = φ x) (hq : ∀ a : Nat, a < s.heap.size → ¬ q_B base a → U.heap[a]? = s.heap[a]?) (h : q_St base φ s) : q_St base φ' U := by
  obtain ⟨h1, h2, h3⟩ := h
  refine ⟨fun i hi => ?_, (va_Z.moved ha h2).kept hq, ?_⟩
  · rw [hφ _ (by omega), hφ _ (by omega)]
    obtain ⟨g1, g2, g3, g4, g5⟩ := h1 i hi
    exact ⟨(va_O.moved ha g1).kept hq, (va_OF.moved ha g2).kept hq, (va_OF.moved ha g3).kept hq, (va_T.moved ha g4).kept hq, hR g5⟩
  · rw [hφ _ (by omega)]
    rcases h3 with h3 | h3
    · exact Or.inl ((va_Z.moved ha h3).kept hq)
    · exact Or.inr ((va_Z.moved ha h3).kept hq)
theorem q_X_moved {dC : Nat → ClassId} {dI : Nat → Nat → Nat} {cy : Nat → ClassId} {base : Nat} {φ φ' : Int → Nat} {s U : State} (hW : s.WarmedH U.vm) (hφ : ∀ x : Int, x ≤ 0 → φ' x = φ x) (hq : ∀ a : Nat, a < s.heap.size → ¬ q_B base a → U.heap[a]? = s.heap[a]?) (h : q_X dC dI cy base φ s) : q_X dC dI cy base φ' U := by
  obtain ⟨h1, h2, h3, h4, h5, h6⟩ := h
  refine ⟨va_K.moved hW.alike h1, fun w hw => ?_, va_AO.moved hW.alike h3, va_AO.moved hW.alike h4, va_AO.moved hW.alike h5, q_St_moved hW.alike (fun h => vk_R.warm hW h) hφ hq h6⟩
  have hz := h2 w hw
  have hn := (List.mem_filter.mp hw).2
  cases w <;> first | (simp [q_isN] at hn; done) | exact va_Nw.warmM hW hz | (rename_i t; cases t <;> first | (simp [q_isN] at hn; done) | exact q_aoA_moved hW.alike hz)
theorem q_X_same {dC : Nat → ClassId} {dI : Nat → Nat → Nat} {cy : Nat → ClassId} {base : Nat} {φ : Int → Nat} {u U : State} (hv : u.vm = U.vm) (hh : u.heap = U.heap) (h : q_X dC dI cy base φ u) : q_X dC dI cy base φ U := by
  obtain ⟨h1, h2, h3, h4, h5, h6⟩ := h
  have ha : u.vm.Alike U.vm := hv ▸ Vm.Alike.refl u.vm
  refine ⟨va_K.moved ha h1, fun w hw => ?_, va_AO.moved ha h3, va_AO.moved ha h4, va_AO.moved ha h5, q_St_moved ha (fun h => vk_R.same hv.symm h) (fun _ _ => rfl) (fun a _ _ => by rw [hh]) h6⟩
  have hn := (List.mem_filter.mp hw).2
  have hz := h2 w hw
  cases w <;> first | (simp [q_isN] at hn; done) | exact va_Nw.same rfl hv hz | (rename_i t; cases t <;> first | (simp [q_isN] at hn; done) | exact q_aoA_moved ha hz)
theorem q_blind {dC : Nat → ClassId} {dI : Nat → Nat → Nat} {cy : Nat → ClassId} {φ : Int → Nat} {base n : Nat} {av : List q_AV} {M : q_Mem} : FrameBlind (q_P dC dI cy φ base n av M) := by
  intro a U g mk q
  obtain ⟨h1, h2, h3, h4, h5⟩ := q
  exact ⟨h1, h2, q_X_same (u := U) rfl rfl h3, h4, h5⟩
/-- the locals at a method's entry -/
def q_en : List q_AV → Nat → List (Option q_AV)
  | [], n => List.replicate n none
  | v :: l, n => if q_cat v = 2 then some v :: none :: q_en l (n - 2) else some v :: q_en l (n - 1)
theorem q_en_at {φ : Int → Nat} : ∀ {av : List q_AV} {n i j : Nat} {v : q_AV}, (q_en av n)[j]? = some (some v) → (i + j, q_c φ v) ∈ lv_args i (av.map (q_c φ))
  | [], n, i, j, v, h => by
    have : (List.replicate n (none : Option q_AV))[j]? = some (some v) := h
    rw [List.getElem?_replicate] at this
    split at this <;> simp at this
  | w :: l, n, i, j, v, h => by
    rw [List.map_cons]
    unfold lv_args
    rw [q_cat_c]
    unfold q_en at h
    by_cases hc : q_cat w = 2
    · rw [if_pos hc] at h ⊢
      match j, h with
      | 0, h =>
        have e : w = v := by simpa using h
        subst e
        exact List.mem_cons_self
      | 1, h => simp at h
      | j + 2, h =>
        have := q_en_at (φ := φ) (av := l) (n := n - 2) (i := i + 2) (j := j) (v := v) (by simpa using h)
        rw [show i + (j + 2) = i + 2 + j by omega]
        exact List.mem_cons_of_mem _ this
    · rw [if_neg hc] at h ⊢
      match j, h with
      | 0, h =>
        have e : w = v := by simpa using h
        subst e
        exact List.mem_cons_self
      | j + 1, h =>
        have := q_en_at (φ := φ) (av := l) (n := n - 1) (i := i + 1) (j := j) (v := v) (by simpa using h)
        rw [show i + (j + 1) = i + 1 + j by omega]
        exact List.mem_cons_of_mem _ this
theorem q_en_ok {m : Nat} : ∀ {av : List q_AV} {n : Nat}, q_oks m av → q_okl m (q_en av n)
  | [], n, _ => by
    unfold q_en
    induction n with
    | zero => trivial
    | succ n ih => exact ih
  | w :: l, n, h => by
    unfold q_en
    split
    · exact ⟨h.1, q_en_ok h.2⟩
    · exact ⟨h.1, q_en_ok h.2⟩
def q_wid : List q_AV → Nat
  | [] => 0
  | v :: l => q_cat v + q_wid l
theorem q_wid_sl {φ : Int → Nat} : ∀ {av : List q_AV}, (lg_sl (av.map (q_c φ))).length = q_wid av
  | [] => rfl
  | v :: l => by
    have ih := q_wid_sl (φ := φ) (av := l)
    unfold lg_sl at ih ⊢
    rw [List.map_cons, List.flatMap_cons, List.length_append, ih, q_cat_c]
    show _ = q_cat v + q_wid l
    match v with
    | .inl _ => simp [q_cat]
    | .inr (.inl _) => simp [q_cat]
    | .inr (.inr _) => simp [q_cat]
/-- a contract out of the walk of its body -/
theorem q_start {y : MethodName} {X : q_Mt} {D : Nat} {av : List q_AV} {n : Nat} {M : q_Mem} {n1 : Nat} {P : Option q_AV → q_Mem → Prop} (hy : plainName y.cls = true) (ho : y.cls = X.2.2.1) (hi : X.2.2.2.2 = true → y.name = "<init>") {ls : List (Option q_AV)} (hls : q_en av X.2.1 = ls) (hw : q_wid av ≤ X.2.1) (k : ∀ d, D ≤ d → q_V X d n n1 P n M 0 ls []) : q_Con y X D av n M n1 P := by
  intro d hd l dC dI cy φ0 base
  refine Met.ofW (cc := X.1) (maxL := X.2.1) (ret := X.2.2.2.1) hy rfl ?_
  intro p e s m args below meth c s₁ B hml hv
  obtain ⟨rfl, hok, hX, hbase, hW⟩ := hv
  have hts := atoms_spec (ws := Cond.code y X.1 X.2.1 X.2.2.2.1 :: q_gd) B.pre
  have hown : s.vm.findClass X.2.2.1 = some m.cls := by rw [← ho]; exact findClass_of_methodNamed B.named
  have hin : X.2.2.2.2 = true → meth.name = "<init>" := fun h => by rw [(name_of_methodNamed B.named B.method).1]; exact hi h
  have hl := lv_entry (av.map (q_c φ0)) (n := X.2.1) (by rw [q_wid_sl]; exact hw)
  rw [lg_entry_eq]
  generalize (lg_sl (av.map (q_c φ0)) ++ List.replicate (X.2.1 - (lg_sl (av.map (q_c φ0))).length) Slot.unset).toArray = lsA at hl ⊢
  subst hls
  have h9 := k d hd p l e s m (av.map (q_c φ0)).toArray below meth c dC dI cy φ0 base ⟨B.exec, B.bytes, B.returns, hml, hown, fun w hw => hts w (List.mem_cons_of_mem _ hw), B.notSynchronized, hin, hX, hbase⟩ φ0 s.heap [] lsA ⟨fun _ _ => rfl, hW, va_S.rf, Nat.le_refl _⟩ (q_en_ok hok) trivial ⟨hl.1, hl.2.1, fun i v hv => by
    have := q_en_at (φ := φ0) (i := 0) hv
    rw [Nat.zero_add] at this
    exact hl.2.2 _ this⟩
  rw [Nat.sub_self, Nat.sub_self] at h9
  exact h9
section QE
variable {X : q_Mt} {d n0 n1 : Nat} {P : Option q_AV → q_Mem → Prop} {M : q_Mem} {ls : List (Option q_AV)}
theorem qr_ireturn (pc : Nat) {v : Int} {ty : FieldType} (hr : X.2.2.2.1 = some ty) (hnar : narrow ty (.int (Int32.ofInt v)) = .int (Int32.ofInt v)) (hd : decode X.1 pc = .ok (.ireturn, 1)) (hP : P (some (qI v)) M) : q_V X d n0 n1 P n1 M pc ls [qI v] := by
  intro p l e s m args below meth c dC dI cy φ0 base C φ H locs lsA D ol os hl
  obtain ⟨hag, hW, hS, hnn⟩ := id D
  exact W.zret C.1 C.2.1 (C.2.2.1.trans hr) hnar (fun t ht _ => ⟨some (qI v), M, φ, rfl, hP, fun w hw => by cases hw; exact os.1, hag, by rw [ht]; exact hW, hS.F ht⟩) hS.2.2 hd C.2.2.2.2.2.2.1
theorem qr_lreturn (pc : Nat) {v : Int} (hr : X.2.2.2.1 = some .long) (hd : decode X.1 pc = .ok (.lreturn, 1)) (hP : P (some (qL v)) M) : q_V X d n0 n1 P n1 M pc ls [qL v] := by
  intro p l e s m args below meth c dC dI cy φ0 base C φ H locs lsA D ol os hl
  obtain ⟨hag, hW, hS, hnn⟩ := id D
  exact W.lret C.1 C.2.1 (C.2.2.1.trans hr) (fun t ht _ => ⟨some (qL v), M, φ, rfl, hP, fun w hw => by cases hw; exact os.1, hag, by rw [ht]; exact hW, hS.F ht⟩) hS.2.2 hd C.2.2.2.2.2.2.1
theorem qr_areturn (pc : Nat) {v : Int} {rt : FieldType} (hr : X.2.2.2.1 = some rt) (hrt : (∃ n, rt = .object n) ∨ ∃ t, rt = .array t) (hd : decode X.1 pc = .ok (.areturn, 1)) (hP : P (some (qR v)) M) : q_V X d n0 n1 P n1 M pc ls [qR v] := by
  intro p l e s m args below meth c dC dI cy φ0 base C φ H locs lsA D ol os hl
  obtain ⟨hag, hW, hS, hnn⟩ := id D
  exact W.aret (v := q_r φ v) C.1 C.2.1 (C.2.2.1.trans hr) hrt (by unfold q_r; split; exact Or.inl rfl; exact Or.inr ⟨_, rfl⟩) (fun t ht _ => ⟨some (qR v), M, φ, rfl, hP, fun w hw => by cases hw; exact os.1, hag, by rw [ht]; exact hW, hS.F ht⟩) hS.2.2 hd C.2.2.2.2.2.2.1
theorem qr_return (pc : Nat) (hr : X.2.2.2.1 = none) (hd : decode X.1 pc = .ok (.return_, 1)) (hP : P none M) : q_V X d n0 n1 P n1 M pc ls [] := by
  intro p l e s m args below meth c dC dI cy φ0 base C φ H locs lsA D ol os hl
  obtain ⟨hag, hW, hS, hnn⟩ := id D
  exact W.vret C.1 C.2.1 (C.2.2.1.trans hr) (fun t ht _ => ⟨none, M, φ, rfl, hP, fun w hw => (by cases hw), hag, by rw [ht]; exact hW, hS.F ht⟩) hS.2.2 hd C.2.2.2.2.2.2.1
end QE
section QC
variable {X : q_Mt} {d n0 n1 : Nat} {P : Option q_AV → q_Mem → Prop} {n : Nat} {M : q_Mem} {ls : List (Option q_AV)} {st : List q_AV}
/-- behind a call -/
theorem q_after {p : Program} {l : Launch} {e : Env} {s : State} {m : MethodId} {args : Array Value} {below : List Frame} {meth : Method} {c : Code} {dC : Nat → ClassId} {dI : Nat → Nat → Nat} {cy : Nat → ClassId} {φ0 φ : Int → Nat} {base : Nat} (C : q_C X p s m args meth c dC dI cy φ0 base) {H : Heap} {locs : List Loc} {lsA : Array Slot} (D : q_Dy dC dI cy φ0 φ base n0 n M s H locs) (ol : q_okl n ls) (os : q_oks n st) (hl : q_Ls lsA X.2.1 φ ls)
    {pc n2 : Nat} {st0 : List Value} {P2 : Option q_AV → q_Mem → Prop} {a : Array Value} (h2 : n ≤ n2)
    (hr : va_Run p l e (q_rm d n0 n1) s m args below meth c H locs (n - n0) (q_sz n - q_sz n0) (n2 - n) (q_sz n2 - q_sz n) (F0 m pc lsA st0) (st.map (q_c φ)) (q_Q dC dI cy φ base n n2 P2 a) (q_B base))
    (kk : ∀ (r : Option q_AV) (M' : q_Mem), P2 r M' → q_V X d n0 n1 P n2 M' (pc + 3) ls (r.toList ++ st)) :
    W p l e (q_rm d n0 n1) s m args below meth c H locs (n - n0) (q_sz n - q_sz n0) (MQ below (q_Q dC dI cy φ0 base n0 n1 P) args s (n1 - n0) (q_sz n1 - q_sz n0) (q_B base)) (F0 m pc lsA st0) := by
  obtain ⟨hag, hW, hS, hnn⟩ := D
  intro T hT XX
  obtain ⟨v, st₀, t, T', L, h0, X', hL, e1, e2, ⟨r, M', φ', ho, hP2, hok, hag2, hW2, hF⟩, stp⟩ := hr T hT XX
  have hv : v = r.map (q_c φ') := by
    cases ho
    rfl
  subst hv
  have ez1 : n - n0 + (n2 - n) = n2 - n0 := by omega
  have ez2 : q_sz n - q_sz n0 + (q_sz n2 - q_sz n) = q_sz n2 - q_sz n0 := by
    have := q_sz_mono hnn
    have := q_sz_mono h2
    omega
  rw [ez1, ez2] at X'
  have hzF := hF.1
  have hkF := hF.2
  rw [h0] at hzF hkF
  have hokr : q_oks n2 (r.toList ++ st) := by
    cases r with
    | none => exact q_oks_mono h2 os
    | some w => exact ⟨hok w rfl, q_oks_mono h2 os⟩
  have est : (r.toList ++ st).map (q_c φ') = (r.map (q_c φ')).toList ++ st.map (q_c φ) := by
    rw [List.map_append, q_cs_ag hag2 os]
    cases r <;> rfl
  have h9 := kk r M' hP2 p l e s m args below meth c dC dI cy φ0 base C φ' T'.heap (locs ++ L) lsA ⟨fun x hx => (hag2 x (by omega)).trans (hag x hx), by rw [e1]; exact hW2, ⟨Nat.le_trans hS.1 (by rw [e1]; exact hzF), fun q h1 h3 => by rw [e1, hkF q (Nat.lt_of_lt_of_le h1 hS.1) h3]; exact hS.2.1 q h1 h3, fun q hq => by
      rcases List.mem_append.mp hq with h | h
      · exact hS.2.2 q h
      · exact hL q h⟩, Nat.le_trans hnn h2⟩ (q_okl_mono h2 ol) hokr (q_Ls_ag hag2 ol hl)
  rw [est] at h9
  obtain ⟨t2, a1, b1⟩ := h9 T' rfl X'
  exact ⟨t2, stp t2 a1, b1⟩
/-- what the tables say of a method that is called -/
def q_cal (y : MethodName) (Y : q_Mt) (np : Nat) : Prop := Cond.code y Y.1 Y.2.1 Y.2.2.2.1 ∈ q_gd ∧ Cond.initialized y.cls ∈ q_gd ∧ (y.cls ≠ "java/lang/invoke/MethodHandle" ∧ y.cls ≠ "java/lang/invoke/VarHandle") ∧ (parseMethodDescriptor y.desc).map (fun d => d.parameters.length) = some np ∧ Y.2.1 ≤ 21
theorem q_good : ∀ w ∈ q_gd, (w.onTables && w.keeps) = true ∨ ∃ ty, w = .arrayClass ty := fun w hw => good_of_word (List.mem_filter.mp hw).2
theorem q_calB {y : MethodName} {Y : q_Mt} {np : Nat} (h : q_cal y Y np) {s : State} {args : Array Value} (hts : ∀ w ∈ q_gd, w.before args s = true) {own : String} {ix : Nat} (hl : (Cond.methodLink own ix y).before args s = true) {n n2 n0 n1 d : Nat} (hd : 1 ≤ d) : CallB (q_rm d n0 n1) s args own ix y Y.1 Y.2.1 Y.2.2.2.1 (Cond.code y Y.1 Y.2.1 Y.2.2.2.1 :: q_gd) (q_rm (d - 1) n n2) (n2 - n) (q_sz n2 - q_sz n) np := by
  refine callB_of np hts ?_ rfl rfl rfl (hts _ h.2.1) hl ⟨h.2.2.1.1, h.2.2.1.2, h.2.2.2.1⟩ ⟨?_, ?_⟩
  · intro w hw
    rcases List.mem_cons.mp hw with rfl | hw
    · exact ⟨h.1, q_good _ h.1⟩
    · exact ⟨hw, q_good _ hw⟩
  · show d - 1 + 1 ≤ d
    omega
  · show 8 + (Y.2.1 + 11) + 40 * (d - 1) ≤ 40 * d
    have := h.2.2.2.2
    omega
theorem q_wid_cs {φ : Int → Nat} : ∀ {l : List q_AV}, ((l.map (q_c φ)).map fun v => v.category).sum = q_wid l
  | [] => rfl
  | v :: l => by
    rw [List.map_cons, List.map_cons, List.sum_cons, q_wid_cs, q_cat_c]
    rfl
theorem q_room {n n0 n1 n2 : Nat} (hnn : n0 ≤ n) (h2 : n ≤ n2) (h3 : n2 ≤ n1) (d : Nat) : n - n0 + (n2 - n) ≤ (q_rm d n0 n1).cells ∧ q_sz n - q_sz n0 + (q_sz n2 - q_sz n) ≤ (q_rm d n0 n1).slots := by
  have a1 := q_sz_mono hnn
  have a2 := q_sz_mono h2
  have a3 := q_sz_mono h3
  constructor
  · show _ ≤ n1 - n0
    omega
  · show _ ≤ q_sz n1 - q_sz n0
    omega
theorem q_oks_app {n : Nat} : ∀ {a b : List q_AV}, q_oks n (a ++ b) → q_oks n a ∧ q_oks n b
  | [], _, h => ⟨trivial, h⟩
  | _ :: _, _, h => ⟨⟨h.1, (q_oks_app h.2).1⟩, (q_oks_app h.2).2⟩
theorem q_oks_appI {n : Nat} : ∀ {a b : List q_AV}, q_oks n a → q_oks n b → q_oks n (a ++ b)
  | [], _, _, h => h
  | _ :: _, _, h, h2 => ⟨h.1, q_oks_appI h.2 h2⟩
theorem q_oks_rev {n : Nat} : ∀ {a : List q_AV}, q_oks n a.reverse → q_oks n a
  | [], _ => trivial
  | v :: l, h => by
    rw [List.reverse_cons] at h
    obtain ⟨h1, h2⟩ := q_oks_app h
    exact ⟨h2.1, q_oks_rev h1⟩
/-- invokestatic -/
theorem qr_callS (pc pc' : Nat) (hp : pc + 3 = pc') {y : MethodName} {Y : q_Mt} {np ix D0 n2 : Nat} {av : List q_AV} {st' : List q_AV} {P2 : Option q_AV → q_Mem → Prop} (hy : q_cal y Y np) (hst : Cond.static y ∈ q_gd) (hlk : Cond.methodLink X.2.2.1 ix y ∈ q_gd) (hdd : D0 + 1 ≤ d) (hn : av.length = np) (hs : st' = av.reverse ++ st) (hw : q_wid st ≤ 8) (h2 : n ≤ n2) (h3 : n2 ≤ n1) (hd : decode X.1 pc = .ok (.invokestatic ix, 3))
    (hc : q_Con y Y D0 av n M n2 P2) (kk : ∀ (r : Option q_AV) (M' : q_Mem), P2 r M' → q_V X d n0 n1 P n2 M' pc' ls (r.toList ++ st)) : q_V X d n0 n1 P n M pc ls st' := by
  intro p l e s m args below meth c dC dI cy φ0 base C φ H locs lsA D ol os hl
  subst hp
  subst hs
  obtain ⟨hag, hW, hS, hnn⟩ := id D
  obtain ⟨oa, os2⟩ := q_oks_app os
  have oav := q_oks_rev oa
  have hts := C.2.2.2.2.2.1
  refine q_after C D ol os2 hl (a := (av.map (q_c φ)).toArray) h2 ?_ kk
  exact va_runS (cc := X.1) (nL := X.2.1) (own := X.2.2.1) (Ts := q_gd) (As := av.map (q_c φ)) ⟨C.1, C.2.1, C.2.2.2.1, C.2.2.2.2.1, hts⟩ (hc (d - 1) (by omega) l dC dI cy φ base) ⟨q_calB hy hts (hts _ hlk) (by omega), hts _ hst⟩
    ⟨q_blind, fun U hU hW9 => ⟨rfl, oav, q_X_moved hW9 (fun x hx => hag x (by omega)) (fun a h1 h2 => by rw [hU]; exact hS.2.1 a h1 h2) C.2.2.2.2.2.2.2.2.1, by rw [hU]; exact Nat.le_trans C.2.2.2.2.2.2.2.2.2 hS.1, by rw [hU]; exact hW⟩⟩ rfl (by rw [List.length_map]; exact hn) hl.1 (by rw [List.map_append, List.map_reverse]) (by show 2 * 0 + _ ≤ 8; rw [q_wid_cs]; omega) hd (q_room hnn h2 h3 d)
/-- invokevirtual on an object of the worlds -/
theorem qr_callV (pc pc' : Nat) (hp : pc + 3 = pc') {y : MethodName} {Y : q_Mt} {np ix D0 n2 ci : Nat} {T : u_T} {N : Nat} {a : Int} {av : List q_AV} {st' : List q_AV} {P2 : Option q_AV → q_Mem → Prop} (hy : q_cal y Y np) (hin : Cond.instanceMethod y ∈ q_gd) (hsel : Cond.selects y.cls y y ∈ q_gd) (hlk : Cond.methodLink X.2.2.1 ix y ∈ q_gd) (hci : q_cl_ok ci y.cls T N) (hkd : q_kd a = ci) (hdd : D0 + 1 ≤ d) (hn : av.length = np) (hs : st' = av.reverse ++ qR a :: st) (hw : q_wid st ≤ 8) (h2 : n ≤ n2) (h3 : n2 ≤ n1) (hd : decode X.1 pc = .ok (.invokevirtual ix, 3))
    (hc : q_Con y Y D0 (qR a :: av) n M n2 P2) (kk : ∀ (r : Option q_AV) (M' : q_Mem), P2 r M' → q_V X d n0 n1 P n2 M' pc' ls (r.toList ++ st)) : q_V X d n0 n1 P n M pc ls st' := by
  intro p l e s m args below meth c dC dI cy φ0 base C φ H locs lsA D ol os hl
  subst hp
  subst hs
  obtain ⟨hag, hW, hS, hnn⟩ := id D
  obtain ⟨oa, os2⟩ := q_oks_app os
  have oav := q_oks_rev oa
  have hts := C.2.2.2.2.2.1
  have ha : 0 < a := q_kd_pos (by rw [hkd]; have := hci.1; omega)
  have ea : q_c φ (qR a) = .ref (φ a) := if_neg (by omega)
  have h9 := q_w_get (cy := cy) (φ := φ) (M := M) ha os2.1
  rw [hkd, q_cell_o hci.1] at h9
  refine q_after C D ol os2.2 hl (a := (Value.ref (φ a) :: av.map (q_c φ)).toArray) h2 ?_ kk
  exact va_runV (cc := X.1) (nL := X.2.1) (own := X.2.2.1) (Ts := q_gd) (C := y.cls) (b := φ a) (As := av.map (q_c φ)) ⟨C.1, C.2.1, C.2.2.2.1, C.2.2.2.2.1, hts⟩ (hc (d - 1) (by omega) l dC dI cy φ base) ⟨q_calB hy hts (hts _ hlk) (by omega), hts _ hin, hts _ hsel⟩
    ⟨q_blind, va_recv C.2.2.2.2.2.2.2.2.1.1 hW.1 hci.2.1 h9, fun U hU hW9 => ⟨by rw [List.map_cons, ea], ⟨os2.1, oav⟩, q_X_moved hW9 (fun x hx => hag x (by omega)) (fun a h1 h2 => by rw [hU]; exact hS.2.1 a h1 h2) C.2.2.2.2.2.2.2.2.1, by rw [hU]; exact Nat.le_trans C.2.2.2.2.2.2.2.2.2 hS.1, by rw [hU]; exact hW⟩⟩ rfl (by rw [List.length_map]; exact hn) hl.1 (by rw [List.map_append, List.map_reverse, List.map_cons, ea]) (by show 2 * 0 + _ ≤ 8; rw [q_wid_cs]; omega) hd (q_room hnn h2 h3 d)
end QC
