-- rows of rows made (multianewarray of two lengths, of ints)
section QMN
variable {p : Program} {l : Launch} {e : Env} {R : Room} {s : State} {m : MethodId} {args : Array Value} {below : List Frame} {meth : Method} {c : Code}
theorem q_fit0 {S : State} {cA comp : ClassId} {k : Class} {ty : FieldType} {len : Nat} {v : Value} (h1 : S.vm.classes[cA]? = some k) (h2 : k.kind = .array comp ty) (hf : fits ty v = true) : ∀ (i : Nat) (w : Value), (Array.replicate len v)[i]? = some w → S.fitsSlot cA .none i w = true := by
  intro i w hw
  rw [Array.getElem?_replicate] at hw
  split at hw
  · cases hw
    simp [State.fitsSlot, State.slotType?, h1, h2, hf]
  · cases hw
theorem q_mkA {E : CtlPost} {S : State} {d : Bool} {acts : List Action} {comp cA : ClassId} {kA : Class} {ty : FieldType} {k : Nat} {v : Value} (h1 : S.vm.classes[cA]? = some kA) (h2 : kA.kind = .array comp ty) (hf : fits ty v = true) (hl : ¬ k > e.platform.arrayLengthLimit) (hh : ¬ k * componentBytes ty > e.platform.maxHeapBytes) (r1 : S.heap.size < e.platform.maxCells) (r2 : S.slotsUsed + k ≤ e.platform.maxSlots) {Q : Addr → Pre} (hq : ∀ acts', Q S.heap.size d acts' (S.pushCell (arrV cA k (fun _ => v)))) : wp (Jvm.newArray cA k v) Q E e d acts S := by
  have f := q_fit0 (len := k) h1 h2 hf
  have hq2 := fun acts' => arrV_new cA k v ▸ hq acts'
  simp only [Jvm.newArray, Jvm.arrayFits, wp_bind', W.ask, W.ite, hl, if_false, wp_pure', W.theClass, h1, h2, hh, W.alloc, W.stop, Option.some.injEq, exists_eq_left', Array.size_replicate]
  rw [if_neg (by omega)]
  exact ⟨r1, r2, f, hq2 _⟩
theorem q_mk1 {E : CtlPost} {S : State} {d : Bool} {acts : List Action} {cc cC : ClassId} {kC : Class} {k : Int32} (h1 : S.vm.classes[cC]? = some kC) (h2 : kC.kind = .array cc .int) (hk : ¬ k < 0) (hl : ¬ k.toNatClampNeg > e.platform.arrayLengthLimit) (hh : ¬ k.toNatClampNeg * componentBytes .int > e.platform.maxHeapBytes) (r1 : S.heap.size < e.platform.maxCells) (r2 : S.slotsUsed + k.toNatClampNeg ≤ e.platform.maxSlots) {Q : Addr → Pre} (hq : ∀ acts', Q S.heap.size d acts' (S.pushCell (arrV cC k.toNatClampNeg (fun _ => .int 0)))) : wp (Op.multianewarray.make cC [k]) Q E e d acts S := by
  rw [Op.multianewarray.make]
  simp only [wp_bind', W.ite, hk, if_false, wp_pure', W.theClass, h1, h2, Option.some.injEq, exists_eq_left']
  exact q_mkA h1 h2 rfl hl hh r1 r2 hq
/-- i rows of N are made -/
def q_mnJ (cA cC : ClassId) (N K : Nat) (T : State) (i : Nat) (U : State) : Prop := U.vm = T.vm ∧ U.heap.size = T.heap.size + 1 + i ∧ (∀ q : Nat, q < T.heap.size → U.heap[q]? = T.heap[q]?) ∧ U.heap[T.heap.size]? = some (arrV cA N (fun j => if j < i then .ref (T.heap.size + 1 + j) else .null)) ∧ ∀ j : Nat, j < i → U.heap[T.heap.size + 1 + j]? = some (arrV cC K (fun _ => .int 0))
theorem q_mn_step {cA cC : ClassId} {N K i : Nat} {T U : State} (hi : i < N) (h : q_mnJ cA cC N K T i U) : q_mnJ cA cC N K T (i + 1) ((U.pushCell (arrV cC K (fun _ => .int 0))).setCell T.heap.size ((arrV cA N (fun j => if j < i then .ref (T.heap.size + 1 + j) else .null)).setSlot i (.ref U.heap.size))) := by
  obtain ⟨h1, h2, h3, h4, h5⟩ := h
  have hz : (U.pushCell (arrV cC K (fun _ => .int 0))).heap.size = T.heap.size + 1 + (i + 1) := by
    rw [State.heap_pushCell, Array.size_push, h2]; omega
  refine ⟨h1, ?_, fun q hq => ?_, ?_, fun j hj => ?_⟩
  · rw [size_setCell]; exact hz
  · rw [heapAt_setCell_ne _ (by omega), State.heap_pushCell, Array.getElem?_push, if_neg (by omega)]
    exact h3 q hq
  · rw [heapAt_setCell_self _ (by omega), arrV_store]
    congr 2
    funext j
    unfold updV
    by_cases e1 : j = i
    · rw [if_pos e1, if_pos (by omega), h2, e1]
    · rw [if_neg e1]
      by_cases e2 : j < i
      · rw [if_pos e2, if_pos (by omega)]
      · rw [if_neg e2, if_neg (by omega)]
  · rw [heapAt_setCell_ne _ (by omega), State.heap_pushCell, Array.getElem?_push]
    by_cases e1 : j = i
    · rw [if_pos (by omega)]
    · rw [if_neg (by omega)]
      exact h5 j (by omega)
theorem q_mn_loop {T : State} {E : CtlPost} {cA comp cc cC : ClassId} {kA kC : Class} {N : Nat} {k : Int32} {locs : List Loc} {cells slots : Nat} {fr : JFrame} (hA1 : T.vm.classes[cA]? = some kA) (hA2 : kA.kind = .array comp (.array .int)) (hC1 : T.vm.classes[cC]? = some kC) (hC2 : kC.kind = .array cc .int) (hk : ¬ k < 0) (hl : ¬ k.toNatClampNeg > e.platform.arrayLengthLimit) (hh : ¬ k.toNatClampNeg * componentBytes .int > e.platform.maxHeapBytes)
    (hcells : cells + (1 + N) ≤ R.cells) (hslots : slots + (N + N * k.toNatClampNeg) ≤ R.slots) (hbase : s.heap.size ≤ T.heap.size)
    {f : Nat → PUnit → Sem (ForInStep PUnit)} (hf : ∀ (i : Nat) (Q : ForInStep PUnit → Pre) (d : Bool) (acts : List Action) (S : State), wp (Op.multianewarray.make cC [k]) (fun a d' acts' S' => wp (Jvm.writeLoc T.heap.size i (.ref a)) (fun _ d2 acts2 S2 => Q (.yield PUnit.unit) d2 acts2 S2) E e d' acts' S') E e d acts S → wp (f i PUnit.unit) Q E e d acts S) :
    ∀ (r i : Nat) (U : State), i + r = N → q_mnJ cA cC N k.toNatClampNeg T i U → Stand p l e R s m args below meth c U locs (cells + 1 + i) (slots + N + i * k.toNatClampNeg) →
      ∃ U' : State, q_mnJ cA cC N k.toNatClampNeg T N U' ∧ Stand p l e R s m args below meth c U' locs (cells + 1 + N) (slots + N + N * k.toNatClampNeg) ∧ ∀ (Q : PUnit → Pre) (d : Bool) (acts : List Action), (∀ d' acts', Q PUnit.unit d' acts' (U'.setTop fr)) → wp (forIn (List.range' i r 1) PUnit.unit f) Q E e d acts (U.setTop fr)
  | 0, i, U, hr, hJ, X => by
    have e1 : i = N := by omega
    subst e1
    refine ⟨U, hJ, X, fun Q d acts hq => ?_⟩
    simp only [List.range'_zero, List.forIn_nil, wp_pure']
    exact hq _ _
  | r + 1, i, U, hr, hJ, X => by
    have hi : i < N := by omega
    obtain ⟨g1, g2, g3, g4, g5⟩ := id hJ
    have hm : (i + 1) * k.toNatClampNeg ≤ N * k.toNatClampNeg := Nat.mul_le_mul_right _ hi
    rw [Nat.succ_mul] at hm
    obtain ⟨q1, q2⟩ := X.roomAbove (a := 1) (b := k.toNatClampNeg) (by omega) (by omega)
    have X1 := X.pushed (arrV cC k.toNatClampNeg (fun _ => .int 0))
    rw [arrV_size] at X1
    have hc : (U.pushCell (arrV cC k.toNatClampNeg (fun _ => .int 0))).heap[T.heap.size]? = some (arrV cA N (fun j => if j < i then .ref (T.heap.size + 1 + j) else .null)) := by
      rw [State.heap_pushCell, Array.getElem?_push, if_neg (by omega)]; exact g4
    have X2 := (X1.stored hc i (.ref U.heap.size)).dropFresh (fun x hx => by rw [List.mem_singleton.mp hx]; exact hbase)
    obtain ⟨U', a1, a2, a3⟩ := q_mn_loop hA1 hA2 hC1 hC2 hk hl hh hcells hslots hbase hf r (i + 1) _ (by omega) (q_mn_step hi hJ) (by
      rw [show cells + 1 + (i + 1) = cells + 1 + i + 1 by omega, show slots + N + (i + 1) * k.toNatClampNeg = slots + N + i * k.toNatClampNeg + k.toNatClampNeg by rw [Nat.succ_mul]; omega]
      exact X2)
    refine ⟨U', a1, a2, fun Q d acts hq => ?_⟩
    rw [List.range'_succ]
    simp only [List.forIn_cons, wp_bind']
    refine hf i _ d acts _ (q_mk1 (by show U.vm.classes[cC]? = _; rw [g1]; exact hC1) hC2 hk hl hh (by show U.heap.size < _; omega) (by show U.slotsUsed + _ ≤ _; exact q2) (fun acts' => ?_))
    rw [W.writeLoc]
    refine ⟨_, hc, fun q => by cases q, by rw [arrV_size]; exact hi, ?_, ?_⟩
    · have hv : (U.pushCell (arrV cC k.toNatClampNeg (fun _ => .int 0))).vm.classes[cA]? = some kA := by show U.vm.classes[cA]? = _; rw [g1]; exact hA1
      show State.fitsSlot _ cA .none i _ = true
      simp [State.fitsSlot, State.slotType?, hA2, g1, hA1]
      rfl
    · exact a3 Q _ _ hq
theorem q_mna {T : State} {locs : List Loc} {cells slots : Nat} (X : Stand p l e R s m args below meth c T locs cells slots) (hexec : p.tables.exec = Jvm.exec) {own : String} {index : Nat} (hown : s.vm.findClass own = some m.cls) (hclink : (Cond.classLink own index "[[I").before args s = true) (hover : va_Nw (.arrayOver (.array .int)) s) (harr : (Cond.arrayClass .int).before args s = true)
    {g : JFrame} (hg : g.method = m) (hdg : decode c.code g.pc = .ok (.multianewarray index 2, 4)) {n k : Int32} {rest : List Value} (hstack : g.stack = .int k :: .int n :: rest) (hn : ¬ n < 0) (hk : ¬ k < 0) (hb1 : n.toNatClampNeg ≤ 1000) (hb2 : k.toNatClampNeg ≤ 1000)
    (hcells : cells + (1 + n.toNatClampNeg) ≤ R.cells) (hslots : slots + (n.toNatClampNeg + n.toNatClampNeg * k.toNatClampNeg) ≤ R.slots) :
    ∃ (cA cC : ClassId) (U : State), s.vm.findClass "[[I" = some cA ∧ s.vm.findClass "[I" = some cC ∧ Stand p l e R s m args below meth c U locs (cells + 1 + n.toNatClampNeg) (slots + n.toNatClampNeg + n.toNatClampNeg * k.toNatClampNeg) ∧
      (U.heap.size = T.heap.size + 1 + n.toNatClampNeg ∧ (∀ q : Nat, q < T.heap.size → U.heap[q]? = T.heap[q]?) ∧ U.heap[T.heap.size]? = some (arrV cA n.toNatClampNeg (fun j => if j < n.toNatClampNeg then .ref (T.heap.size + 1 + j) else .null)) ∧ ∀ j : Nat, j < n.toNatClampNeg → U.heap[T.heap.size + 1 + j]? = some (arrV cC k.toNatClampNeg (fun _ => .int 0))) ∧
      ∀ target, Steps p.tables e below (U.setTop { g with pc := g.pc + 4, stack := .ref T.heap.size :: rest }) target → Steps p.tables e below (T.setTop g) target := by
  subst hg
  have hpl : e.platform.magicAccessors = ({} : Platform).magicAccessors := by rw [X.admits.platform]
  obtain ⟨cC, cA, kA, o1, -, o3, o4, o5⟩ := arrayOverA_spec hover
  obtain ⟨cC', kC, cc, p1, p2, p3⟩ := Cond.arrayClass_spec harr
  have ec : cC' = cC := Option.some.inj (p1.symm.trans o1)
  subst ec
  obtain ⟨c0, f0, hcl⟩ := Cond.classLink_spec hown hclink e.platform hpl
  have e0 : cA = c0 := Option.some.inj (o5.symm.trans f0)
  subst e0
  obtain ⟨hg1, hw1, -⟩ := State.classEntry (e := e) X.warmed hcl
  generalize T.vm.noted g.method.cls index (.cls cA) = vm1 at hg1 hw1
  obtain ⟨kA1, a1, a2⟩ := hw1.alike.2.2 _ _ o3
  obtain ⟨kC1, b1, b2⟩ := hw1.alike.2.2 _ _ p2
  have a3 : kA1.kind = .array cC' (.array .int) := by rw [a2]; exact o4
  have b3 : kC1.kind = .array cc .int := by rw [b2]; exact p3
  have X1 := X.noted hw1
  obtain ⟨r1, r2⟩ := X.roomAbove hcells hslots
  have hl1 : ¬ n.toNatClampNeg > e.platform.arrayLengthLimit := by rw [Launch.admits_arrayLengthLimit X.admits]; omega
  have hh1 : ¬ n.toNatClampNeg * componentBytes (.array .int) > e.platform.maxHeapBytes := by
    rw [Launch.admits_maxHeapBytes X.admits]; show ¬ n.toNatClampNeg * 4 > 536870912; omega
  have hl2 : ¬ k.toNatClampNeg > e.platform.arrayLengthLimit := by rw [Launch.admits_arrayLengthLimit X.admits]; omega
  have hh2 : ¬ k.toNatClampNeg * componentBytes .int > e.platform.maxHeapBytes := by
    rw [Launch.admits_maxHeapBytes X.admits]; show ¬ k.toNatClampNeg * 4 > 536870912; omega
  have X2 := X1.pushed (arrV cA n.toNatClampNeg (fun _ => .null))
  rw [arrV_size] at X2
  have J0 : q_mnJ cA cC' n.toNatClampNeg k.toNatClampNeg (T.setVm vm1) 0 ((T.setVm vm1).pushCell (arrV cA n.toNatClampNeg (fun _ => .null))) := by
    refine ⟨rfl, ?_, fun q hq => ?_, ?_, fun j hj => absurd hj (Nat.not_lt_zero _)⟩
    · rw [State.heap_pushCell, Array.size_push]
    · rw [State.heap_pushCell, Array.getElem?_push, if_neg (by omega)]
    · rw [State.heap_pushCell, Array.getElem?_push, if_pos rfl]
      congr 2
  sorry
end QMN
