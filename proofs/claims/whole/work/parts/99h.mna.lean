-- rows of rows made (multianewarray of two lengths, of ints)
section QMN
variable {p : Program} {l : Launch} {e : Env} {R : Room} {s : State} {m : MethodId} {args : Array Value} {below : List Frame} {meth : Method} {c : Code}
theorem q_fit0 {S : State} {cA comp : ClassId} {k : Class} {ty : FieldType} {len : Nat} {v : Value} (h1 : S.vm.classes[cA]? = some k) (h2 : k.kind = .array comp ty) (hf : fits ty v = true) : ∀ (i : Nat) (w : Value), (Array.replicate len v)[i]? = some w → S.fitsSlot cA .none i w = true := by
  intro i w hw
  rw [Array.getElem?_replicate] at hw
  split at hw
  · cases hw
    simp [State.fitsSlot, State.slotType?, h1, h2, hf]
  · cases hw
theorem q_mkA {E : CtlPost} {S : State} {d : Bool} {acts : List Action} {comp cA : ClassId} {kA : Class} {ty : FieldType} {k : Nat} {v : Value} (h1 : S.vm.classes[cA]? = some kA) (h2 : kA.kind = .array comp ty) (hf : fits ty v = true) (hl : ¬ k > e.platform.arrayLengthLimit) (hh : ¬ k * componentBytes ty > e.platform.maxHeapBytes) (r1 : S.heap.size < e.platform.maxCells) (r2 : S.slotsUsed + k ≤ e.platform.maxSlots) {Q : Addr → Pre} (hq : ∀ acts', Q S.heap.size d acts' (S.pushCell (arrV cA k (fun _ => v)))) : wp (Jvm.newArray cA k v) Q E e d acts S := by
  have f := q_fit0 (len := k) h1 h2 hf
  have hq2 := fun acts' => arrV_new cA k v ▸ hq acts'
  simp only [Jvm.newArray, Jvm.arrayFits, wp_bind', W.ask, W.ite, hl, if_false, wp_pure', W.theClass, h1, h2, hh, W.alloc, W.stop, Option.some.injEq, exists_eq_left', Array.size_replicate]
  rw [if_neg (by omega)]
  exact ⟨r1, r2, f, hq2 _⟩
theorem q_mk1 {E : CtlPost} {S : State} {d : Bool} {acts : List Action} {cc cC : ClassId} {kC : Class} {k : Int32} (h1 : S.vm.classes[cC]? = some kC) (h2 : kC.kind = .array cc .int) (hk : ¬ k < 0) (hl : ¬ k.toNatClampNeg > e.platform.arrayLengthLimit) (hh : ¬ k.toNatClampNeg * componentBytes .int > e.platform.maxHeapBytes) (r1 : S.heap.size < e.platform.maxCells) (r2 : S.slotsUsed + k.toNatClampNeg ≤ e.platform.maxSlots) {Q : Addr → Pre} (hq : ∀ acts', Q S.heap.size d acts' (S.pushCell (arrV cC k.toNatClampNeg (fun _ => .int 0)))) : wp (Op.multianewarray.make cC [k]) Q E e d acts S := by
  rw [Op.multianewarray.make]
  simp only [wp_bind', W.ite, hk, if_false, wp_pure', W.theClass, h1, h2, Option.some.injEq, exists_eq_left']
  exact q_mkA h1 h2 rfl hl hh r1 r2 hq
/-- i rows of N are made -/
def q_mnJ (cA cC : ClassId) (N K : Nat) (T : State) (i : Nat) (U : State) : Prop := U.vm = T.vm ∧ U.heap.size = T.heap.size + 1 + i ∧ (∀ q : Nat, q < T.heap.size → U.heap[q]? = T.heap[q]?) ∧ U.heap[T.heap.size]? = some (arrV cA N (fun j => if j < i then .ref (T.heap.size + 1 + j) else .null)) ∧ ∀ j : Nat, j < i → U.heap[T.heap.size + 1 + j]? = some (arrV cC K (fun _ => .int 0))
theorem q_mn_step {cA cC : ClassId} {N K i : Nat} {T U : State} (hi : i < N) (h : q_mnJ cA cC N K T i U) : q_mnJ cA cC N K T (i + 1) ((U.pushCell (arrV cC K (fun _ => .int 0))).setCell T.heap.size ((arrV cA N (fun j => if j < i then .ref (T.heap.size + 1 + j) else .null)).setSlot i (.ref U.heap.size))) := by
  obtain ⟨h1, h2, h3, h4, h5⟩ := h
  have hz : (U.pushCell (arrV cC K (fun _ => .int 0))).heap.size = T.heap.size + 1 + (i + 1) := by
    rw [State.heap_pushCell, Array.size_push, h2]; omega
  refine ⟨h1, ?_, fun q hq => ?_, ?_, fun j hj => ?_⟩
  · rw [size_setCell]; exact hz
  · rw [heapAt_setCell_ne _ (show T.heap.size ≠ q by omega), State.heap_pushCell, Array.getElem?_push, if_neg (by omega)]
    exact h3 q hq
  · rw [heapAt_setCell_self _ (show T.heap.size < (U.pushCell (arrV cC K (fun _ => .int 0))).heap.size by omega), arrV_store]
    congr 2
    funext j
    unfold updV
    by_cases e1 : j = i
    · rw [if_pos e1, if_pos (by omega), h2, e1]
    · rw [if_neg e1]
      show (if j < i then Value.ref (T.heap.size + 1 + j) else Value.null) = _
      by_cases e2 : j < i
      · rw [if_pos e2, if_pos (by omega)]
      · rw [if_neg e2, if_neg (by omega)]
  · rw [heapAt_setCell_ne _ (show T.heap.size ≠ T.heap.size + 1 + j by omega), State.heap_pushCell, Array.getElem?_push]
    by_cases e1 : j = i
    · rw [if_pos (by omega)]
    · rw [if_neg (by omega)]
      exact h5 j (by omega)
/-- what a turn of the making of rows does -/
def q_mnF (e : Env) (cC : ClassId) (k : Int32) (h0 : Addr) (E : CtlPost) (f : Nat → PUnit → Sem (ForInStep PUnit)) : Prop := ∀ (i : Nat) (Q : ForInStep PUnit → Pre) (d : Bool) (acts : List Action) (S : State), wp (Op.multianewarray.make cC [k]) (fun a d' acts' S' => wp (Jvm.writeLoc h0 i (.ref a)) (fun _ d2 acts2 S2 => Q (.yield PUnit.unit) d2 acts2 S2) E e d' acts' S') E e d acts S → wp (f i PUnit.unit) Q E e d acts S
theorem q_mn_loop {T : State} {cA comp cc cC : ClassId} {kA kC : Class} {N : Nat} {k : Int32} {locs : List Loc} {cells slots : Nat} {fr : JFrame} (hA1 : T.vm.classes[cA]? = some kA) (hA2 : kA.kind = .array comp (.array .int)) (hC1 : T.vm.classes[cC]? = some kC) (hC2 : kC.kind = .array cc .int) (hk : ¬ k < 0) (hl : ¬ k.toNatClampNeg > e.platform.arrayLengthLimit) (hh : ¬ k.toNatClampNeg * componentBytes .int > e.platform.maxHeapBytes)
    (hcells : cells + (1 + N) ≤ R.cells) (hslots : slots + (N + N * k.toNatClampNeg) ≤ R.slots) (hbase : s.heap.size ≤ T.heap.size) :
    ∀ (r i : Nat) (U : State), i + r = N → q_mnJ cA cC N k.toNatClampNeg T i U → Stand p l e R s m args below meth c U locs (cells + 1 + i) (slots + N + i * k.toNatClampNeg) →
      ∃ U' : State, q_mnJ cA cC N k.toNatClampNeg T N U' ∧ Stand p l e R s m args below meth c U' locs (cells + 1 + N) (slots + N + N * k.toNatClampNeg) ∧ ∀ (E : CtlPost) (f : Nat → PUnit → Sem (ForInStep PUnit)), q_mnF e cC k T.heap.size E f → ∀ (Q : PUnit → Pre) (d : Bool) (acts : List Action), (∀ d' acts', Q PUnit.unit d' acts' (U'.setTop fr)) → wp (forIn (List.range' i r 1) PUnit.unit f) Q E e d acts (U.setTop fr)
  | 0, i, U, hr, hJ, X => by
    have e1 : i = N := by omega
    subst e1
    refine ⟨U, hJ, X, fun E f hf Q d acts hq => ?_⟩
    simp only [List.range'_zero, List.forIn_nil, wp_pure']
    exact hq _ _
  | r + 1, i, U, hr, hJ, X => by
    have hi : i < N := by omega
    obtain ⟨g1, g2, g3, g4, g5⟩ := id hJ
    have hm : (i + 1) * k.toNatClampNeg ≤ N * k.toNatClampNeg := Nat.mul_le_mul_right _ hi
    rw [Nat.succ_mul] at hm
    obtain ⟨q1, q2⟩ := X.roomAbove (a := 1) (b := k.toNatClampNeg) (by omega) (by omega)
    have X1 := X.pushed (arrV cC k.toNatClampNeg (fun _ => .int 0))
    rw [arrV_size] at X1
    have hc : (U.pushCell (arrV cC k.toNatClampNeg (fun _ => .int 0))).heap[T.heap.size]? = some (arrV cA N (fun j => if j < i then .ref (T.heap.size + 1 + j) else .null)) := by
      rw [State.heap_pushCell, Array.getElem?_push, if_neg (by omega)]; exact g4
    have X2 := (X1.stored hc i (.ref U.heap.size)).dropFresh (fun x hx => by rw [List.mem_singleton.mp hx]; exact hbase)
    obtain ⟨U', a1, a2, a3⟩ := q_mn_loop hA1 hA2 hC1 hC2 hk hl hh hcells hslots hbase r (i + 1) _ (by omega) (q_mn_step hi hJ) (by
      rw [show cells + 1 + (i + 1) = cells + 1 + i + 1 by omega, show slots + N + (i + 1) * k.toNatClampNeg = slots + N + i * k.toNatClampNeg + k.toNatClampNeg by rw [Nat.succ_mul]; omega]
      exact X2)
    refine ⟨U', a1, a2, fun E f hf Q d acts hq => ?_⟩
    rw [List.range'_succ]
    simp only [List.forIn_cons, wp_bind']
    refine hf i _ d acts _ (q_mk1 (by show U.vm.classes[cC]? = _; rw [g1]; exact hC1) hC2 hk hl hh (by show U.heap.size < _; omega) (by show U.slotsUsed + _ ≤ _; exact q2) (fun acts' => ?_))
    rw [W.writeLoc]
    refine ⟨_, hc, (fun q => nomatch q), (by rw [arrV_size]; exact hi), ?_, ?_⟩
    · have hv : (U.pushCell (arrV cC k.toNatClampNeg (fun _ => .int 0))).vm.classes[cA]? = some kA := by show U.vm.classes[cA]? = _; rw [g1]; exact hA1
      show State.fitsSlot _ cA .none i _ = true
      simp [State.fitsSlot, State.slotType?, hA2, g1, hA1]
      rfl
    · exact a3 E f hf Q _ _ hq
theorem q_mna {T : State} {locs : List Loc} {cells slots : Nat} (X : Stand p l e R s m args below meth c T locs cells slots) (hexec : p.tables.exec = Jvm.exec) {own : String} {index : Nat} (hown : s.vm.findClass own = some m.cls) (hclink : (Cond.classLink own index "[[I").before args s = true) (hover : va_Nw (.arrayOver (.array .int)) s) (harr : (Cond.arrayClass .int).before args s = true)
    {g : JFrame} (hg : g.method = m) (hdg : decode c.code g.pc = .ok (.multianewarray index 2, 4)) {n k : Int32} {rest : List Value} (hstack : g.stack = .int k :: .int n :: rest) (hn : ¬ n < 0) (hk : ¬ k < 0) (hb1 : n.toNatClampNeg ≤ 1000) (hb2 : k.toNatClampNeg ≤ 1000)
    (hcells : cells + (1 + n.toNatClampNeg) ≤ R.cells) (hslots : slots + (n.toNatClampNeg + n.toNatClampNeg * k.toNatClampNeg) ≤ R.slots) :
    ∃ (cA cC : ClassId) (U : State), s.vm.findClass "[[I" = some cA ∧ s.vm.findClass "[I" = some cC ∧ Stand p l e R s m args below meth c U locs (cells + 1 + n.toNatClampNeg) (slots + n.toNatClampNeg + n.toNatClampNeg * k.toNatClampNeg) ∧
      (U.heap.size = T.heap.size + 1 + n.toNatClampNeg ∧ (∀ q : Nat, q < T.heap.size → U.heap[q]? = T.heap[q]?) ∧ U.heap[T.heap.size]? = some (arrV cA n.toNatClampNeg (fun j => if j < n.toNatClampNeg then .ref (T.heap.size + 1 + j) else .null)) ∧ ∀ j : Nat, j < n.toNatClampNeg → U.heap[T.heap.size + 1 + j]? = some (arrV cC k.toNatClampNeg (fun _ => .int 0))) ∧
      ∀ target, Steps p.tables e below (U.setTop { g with pc := g.pc + 4, stack := .ref T.heap.size :: rest }) target → Steps p.tables e below (T.setTop g) target := by
  subst hg
  have hpl : e.platform.magicAccessors = ({} : Platform).magicAccessors := by rw [X.admits.platform]
  obtain ⟨cC, cA, kA, o1, -, o3, o4, o5⟩ := arrayOverA_spec hover
  obtain ⟨cC', kC, cc, p1, p2, p3⟩ := Cond.arrayClass_spec harr
  have ec : cC' = cC := Option.some.inj (p1.symm.trans o1)
  subst ec
  obtain ⟨c0, f0, hcl⟩ := Cond.classLink_spec hown hclink e.platform hpl
  have e0 : cA = c0 := Option.some.inj (o5.symm.trans f0)
  subst e0
  obtain ⟨hg1, hw1, -⟩ := State.classEntry (e := e) X.warmed hcl
  generalize T.vm.noted g.method.cls index (.cls cA) = vm1 at hg1 hw1
  obtain ⟨kA1, a1, a2⟩ := hw1.alike.2.2 _ _ o3
  obtain ⟨kC1, b1, b2⟩ := hw1.alike.2.2 _ _ p2
  have a3 : kA1.kind = .array cC' (.array .int) := by rw [a2]; exact o4
  have b3 : kC1.kind = .array cc .int := by rw [b2]; exact p3
  have X1 := X.noted hw1
  obtain ⟨r1, r2⟩ := X.roomAbove hcells hslots
  have hl1 : ¬ n.toNatClampNeg > e.platform.arrayLengthLimit := by rw [Launch.admits_arrayLengthLimit X.admits]; omega
  have hh1 : ¬ n.toNatClampNeg * componentBytes (.array .int) > e.platform.maxHeapBytes := by
    rw [Launch.admits_maxHeapBytes X.admits]; show ¬ n.toNatClampNeg * 4 > 536870912; omega
  have hl2 : ¬ k.toNatClampNeg > e.platform.arrayLengthLimit := by rw [Launch.admits_arrayLengthLimit X.admits]; omega
  have hh2 : ¬ k.toNatClampNeg * componentBytes .int > e.platform.maxHeapBytes := by
    rw [Launch.admits_maxHeapBytes X.admits]; show ¬ k.toNatClampNeg * 4 > 536870912; omega
  have X2 := X1.pushed (arrV cA n.toNatClampNeg (fun _ => .null))
  rw [arrV_size] at X2
  have J0 : q_mnJ cA cC' n.toNatClampNeg k.toNatClampNeg (T.setVm vm1) 0 ((T.setVm vm1).pushCell (arrV cA n.toNatClampNeg (fun _ => .null))) := by
    refine ⟨rfl, ?_, fun q hq => ?_, ?_, fun j hj => absurd hj (Nat.not_lt_zero _)⟩
    · rw [State.heap_pushCell, Array.size_push]
    · rw [State.heap_pushCell, Array.getElem?_push, if_neg (by omega)]
    · rw [State.heap_pushCell, Array.getElem?_push, if_pos rfl]
      congr 2
  obtain ⟨U, j1, j2, j3⟩ := q_mn_loop (e := e) (fr := { g with stack := rest }) (T := T.setVm vm1) (N := n.toNatClampNeg) (k := k) a1 a3 b1 b3 hk hl2 hh2 hcells hslots X.heapGrown n.toNatClampNeg 0 _ (Nat.zero_add _) J0 (by rw [Nat.zero_mul]; exact X2)
  refine ⟨cA, cC', U, o5, p1, j2, ⟨j1.2.1, j1.2.2.1, j1.2.2.2.1, j1.2.2.2.2⟩, fun target hrest => ?_⟩
  jvm_step X.here [hexec, hdg]
  simp only [Op.multianewarray.sem, wp_bind', W.resolveClassAt_links (State.method?_setTop g X.here.top) hg1]
  rw [W.popN, if_neg (by decide)]
  refine ⟨g, State.topJava?_setTop' (s := T.setVm vm1) g X.here.top, [.int n, .int k], rest, rfl, hstack, ?_⟩
  simp only [List.mapM_cons, List.mapM_nil, wp_bind', wp_pure']
  rw [Op.multianewarray.make]
  simp only [wp_bind', W.ite, hn, if_false, wp_pure', W.theClass]
  refine ⟨kA1, a1, ?_⟩
  simp only [a3, wp_bind']
  refine q_mkA (S := ((T.setTop g).setVm vm1).setTop { g with stack := rest }) (v := .null) a1 a3 rfl hl1 hh1 (by show T.heap.size < _; omega) (by show T.slotsUsed + _ ≤ _; omega) (fun acts' => ?_)
  have hfind : List.find? (fun x => decide (x < 0)) [k] = none := by simp [hk]
  have eS : (((T.setTop g).setVm vm1).setTop { g with stack := rest }).pushCell (arrV cA n.toNatClampNeg fun _ => Value.null) = ((T.setVm vm1).pushCell (arrV cA n.toNatClampNeg fun _ => Value.null)).setTop { g with stack := rest } := by
    show (((T.setVm vm1).setTop g).setTop { g with stack := rest }).pushCell _ = _
    rw [State.setTop_setTop]
    rfl
  have hsz : ([:n.toNatClampNeg] : Std.Legacy.Range).size = n.toNatClampNeg := by simp [Std.Legacy.Range.size]
  rw [eS]
  simp only [hfind]
  rw [ite_self, wp_bind', Std.Legacy.Range.forIn_eq_forIn_range', hsz]
  refine j3 _ _ (fun i Q' d' acts' S hw => ?_) _ _ _ (fun d' acts' => ?_)
  · simp only [wp_bind', wp_pure']
    exact hw
  · simp only [wp_pure', wp_bind', W.mark, W.pushRef]
    refine ⟨_, State.topJava?_setTop' _ j2.here.top, fun acts => ?_⟩
    rw [State.setTop_setTop]
    simp [jvm, j2.here.top]
    exact hrest
/-- the world that has n cells more -/
def q_mW (cA cC : ClassId) (h0 N K : Nat) : va_W := (h0, .inl (cA, N, .inr (.inr (.inr (.inr (fun j => if j < N then some (h0 + 1 + j) else none)))))) :: (List.range N).map (fun j => (h0 + 1 + j, .inl (cC, K, .inl (fun _ => 0))))
theorem va_mna {cc : ByteArray} {pc : Nat} {ls : Array Slot} {rest : List Value} {Dd : va_G} {cl : List vw_C} {A : Nat → Prop} {ws : va_W} {H0 H : Heap} {locs : List Loc} {cells slots : Nat} {Q : State → Prop} (hexec : p.tables.exec = Jvm.exec) (hb : c.code = cc) {own : String} {index : Nat} (hown : s.vm.findClass own = some m.cls) (hclink : (Cond.classLink own index "[[I").before args s = true) (hover : va_Nw (.arrayOver (.array .int)) s) (harr : (Cond.arrayClass .int).before args s = true) (hP : va_P Dd cl ws H) (hD : va_D A ws) (hS : va_S A H0 H locs) (hA : ∀ q, H0.size ≤ q → A q)
    {n k : Int32} {N K : Nat} (hn : ¬ n < 0) (hk : ¬ k < 0) (hN : n.toNatClampNeg = N) (hK : k.toNatClampNeg = K) (hN9 : N ≤ 1000) (hK9 : K ≤ 1000) (hcells : cells + (1 + N) ≤ R.cells) (hslots : slots + (N + N * K) ≤ R.slots) (hdg : decode cc pc = .ok (.multianewarray index 2, 4))
    (kk : ∀ (cA cC : ClassId) (H1 : Heap), s.vm.findClass "[[I" = some cA → s.vm.findClass "[I" = some cC → va_P Dd cl (ws ++ q_mW cA cC H.size N K) H1 → va_D A (ws ++ q_mW cA cC H.size N K) → va_S A H0 H1 locs → W p l e R s m args below meth c H1 locs (cells + (1 + N)) (slots + (N + N * K)) Q (F0 m (pc + 4) ls (.ref H.size :: rest))) : W p l e R s m args below meth c H locs cells slots Q (F0 m pc ls (.int k :: .int n :: rest)) := by
  intro T hT X
  subst hN
  subst hK
  obtain ⟨cA, cC, U, f1, f2, X2, ⟨z, o, g1, g2⟩, st⟩ := q_mna X hexec hown hclink hover harr (g := F0 m pc ls (.int k :: .int n :: rest)) rfl (by rw [hb]; exact hdg) rfl hn hk hN9 hK9 hcells hslots
  rw [hT] at z o g1 g2 st
  have hk1 : ∀ (i : Nat) (x : Nat × va_E), ws[i]? = some x → U.heap[x.1]? = H[x.1]? := fun i x hx => o x.1 ((hP i x hx).lt)
  have hw : ∀ (i : Nat) (x : Nat × va_E), (q_mW cA cC H.size n.toNatClampNeg k.toNatClampNeg)[i]? = some x → x.1 = H.size + i ∧ va_at Dd cl x U.heap := by
    intro i x hx
    cases i with
    | zero =>
      have e1 : x = (H.size, .inl (cA, n.toNatClampNeg, .inr (.inr (.inr (.inr (fun j => if j < n.toNatClampNeg then some (H.size + 1 + j) else none)))))) := (Option.some.inj hx).symm
      subst e1
      refine ⟨rfl, ?_⟩
      show U.heap[H.size]? = some (vp_cell _ _)
      rw [vp_cell_q, g1]
      congr 2
      funext j
      show _ = va_rf (if j < n.toNatClampNeg then some (H.size + 1 + j) else none)
      by_cases hj : j < n.toNatClampNeg
      · rw [if_pos hj, if_pos hj]; rfl
      · rw [if_neg hj, if_neg hj]; rfl
    | succ i =>
      have hx2 : ((List.range n.toNatClampNeg).map (fun j => ((H.size + 1 + j, .inl (cC, k.toNatClampNeg, .inl (fun _ => 0))) : Nat × va_E)))[i]? = some x := hx
      have hi : i < n.toNatClampNeg := by
        have := (List.getElem?_eq_some_iff.mp hx2).1
        simpa using this
      rw [List.getElem?_map, List.getElem?_range hi] at hx2
      have e1 := (Option.some.inj hx2).symm
      subst e1
      refine ⟨by show H.size + 1 + i = _; omega, ?_⟩
      show U.heap[H.size + 1 + i]? = some (vp_cell _ _)
      rw [g2 i hi]
      rfl
  have h9 := kk cA cC U.heap f1 f2 ((hP.kept hk1).app (fun i x hx => (hw i x hx).2)) (va_D.app hD ⟨fun i j x y hx hy h => by have := (hw i x hx).1; have := (hw j y hy).1; omega, fun i x hx => by rw [(hw i x hx).1]; exact hA _ (Nat.le_trans hS.1 (Nat.le_add_right _ _))⟩ (fun i j x y hx hy h => by have := (hP i x hx).lt; have := (hw j y hy).1; omega)) ⟨Nat.le_trans hS.1 (by omega), fun x h1 h2 => (o x (Nat.lt_of_lt_of_le h1 hS.1)).trans (hS.2.1 x h1 h2), hS.2.2⟩
  obtain ⟨t, a1, b1⟩ := h9 U rfl (by rw [← Nat.add_assoc, ← Nat.add_assoc]; exact X2)
  exact ⟨t, st t a1, b1⟩
end QMN
