-- the claim out of one walk
def R_law : String := "FaceCutsLaw"
def lw_P (b : Addr) (xs : List Int32) (args : Array Value) (s : State) : Prop := args = #[.ref b] ∧ s.IntsAt b xs ∧ xs.length ≤ 3072 ∧ (Jvm.Cond.and given_1 narrow_1).before args s = true
def lw_Q (_ : Array Value) (s : State) (o : Outcome) (t : State) : Prop := o = .returned (some (.int 1)) ∧ Framed s o t [] 600000 7302250
def lw_Z (below : List Frame) (a : Array Value) (s : State) : State → Prop := fun t => ∃ o, t.status = .running ∧ Ended t below o ∧ lw_Q a s o t
/-- the law's own end, with 1 on the stack, nothing written that was there before, its room as the claim has it -/
theorem lw_ret {p : Program} {l : Launch} {e : Env} {s : State} {m : MethodId} {below : List Frame} {meth : Method} {c : Code} {b : Nat} (hx : p.tables.exec = Jvm.exec) (hb : c.code = code) (hr : meth.sig.returnType = ret) (hlocks : meth.locks = false) {pc : Nat} {H : Heap} {ls : Array Slot} (hdg : decode code pc = .ok (.ireturn, 1)) : W p l e room_1 s m #[Value.ref b] below meth c H [] 600000 7302250 (lw_Z below #[Value.ref b] s) (F0 m pc ls [.int 1]) := by
  intro T hT X
  obtain ⟨fs, hret, hrun, hended, hW, hframe⟩ := X.leave (v := some (.int 1)) (hlocks := hlocks) (fun h => by rw [hr] at h; cases h)
  have hmeth' : T.vm.method? m = some meth := X.method'
  refine ⟨T.setFrames fs, ?_, .returned (some (.int 1)), hrun, hended, rfl, ⟨_, rfl⟩, hW, hframe⟩
  jvm_step X.here [X.here.top, hx, hb, hdg, hmeth', hr, ret, narrow_b1]
  (try refine ⟨rfl, ?_⟩); (try refine ⟨rfl, ?_⟩)
  first | (intro acts; rw [hret _ acts rfl rfl rfl]) | rw [hret _ _ rfl rfl rfl]
  exact Steps.refl _
/-- what holds at the law's entry: the machine, the code, the tables' words (any of lw_tbl by 'hts w (by decide +kernel)'), the script of L ints xs at the cell b, what the Statement gives of the start (any of its parts by flat_of_before) -/
def lw_At (p : Program) (s : State) (m : MethodId) (meth : Method) (c : Code) (b L : Nat) (xs : Nat → Int32) : Prop :=
  p.tables.exec = Jvm.exec ∧ c.code = code ∧ meth.sig.returnType = ret ∧ c.maxLocals = 4 ∧ s.vm.findClass R_law = some m.cls ∧ (∀ w ∈ lw_tbl, w.before #[Value.ref b] s = true) ∧ va_X b L xs s s.heap ∧ b < s.heap.size ∧ meth.locks = false ∧ (Jvm.Cond.and given_1 narrow_1).before #[Value.ref b] s = true
/-- the law's end: what is on the way was made anew -/
theorem lr_end {p : Program} {l : Launch} {e : Env} {s : State} {m : MethodId} {below : List Frame} {meth : Method} {c : Code} {dC : Nat → ClassId} {dI : Nat → Nat → Nat} {cy : Nat → ClassId} {φ0 : Int → Nat} {b : Nat} (C : q_C mL p s m #[Value.ref b] meth c dC dI cy φ0 s.heap.size) {M : q_Mem} {ls : List (Option q_AV)} : l_U p l e room_1 s m #[Value.ref b] below meth c dC dI cy φ0 s.heap.size (lw_Z below #[Value.ref b] s) q_N M 1481 ls [] := by
  refine lr_iconst C 1481 1482 rfl (q_l32 _ rfl) dL_law_1481 ?_
  intro φ H locs lsA D ol os hl
  refine va_forget (fun q hq => D.2.2.1.2.2 q hq) ?_
  exact W.widen (k := 600000) (n := 7302250) (Nat.le_of_ble_eq_true rfl) (Nat.le_of_ble_eq_true (by decide +kernel)) (lw_ret C.1 C.2.1 C.2.2.1 C.2.2.2.2.2.2.1 dL_law_1482)
theorem whole_start {p : Program} {e : Env} {s : State} {m : MethodId} {below : List Frame} {meth : Method} {c : Code} (l : Launch) (hflags : l.flags = flags0) {b L : Nat} {xs : Nat → Int32} (hL : L ≤ 3072) (C0 : lw_At p s m meth c b L xs) : W p l e room_1 s m #[Value.ref b] below meth c s.heap [] 0 0 (lw_Z below #[Value.ref b] s) (entryFrame m ([Value.ref b] : List Value).toArray 4) := by
  obtain ⟨hx, hb, hr, hml, hown, hts, hXs, hbl, hlocks, hgv⟩ := id C0
  obtain ⟨dC, dI, cy, φ0, hX, hφ⟩ := l_X hts hgv
  have hgd : ∀ w ∈ q_gd, w.before #[Value.ref b] s = true := fun w hw => hts w (List.mem_filter.mp hw).1
  have C : q_C mL p s m #[Value.ref b] meth c dC dI cy φ0 s.heap.size := ⟨hx, hb, hr, hml, hown, hgd, hlocks, (fun h => nomatch h), hX, Nat.le_refl _⟩
  have S : l_S b L xs s φ0 s.heap.size := ⟨hXs, hbl, rfl, hφ, hL⟩
  have hR : 101 ≤ room_1.frames ∧ 4040 ≤ room_1.locals ∧ q_N ≤ room_1.cells ∧ q_sz q_N ≤ room_1.slots := ⟨by decide, by decide, by decide, by decide +kernel⟩
  have eb : [Value.ref b] = [qR (-300)].map (q_c φ0) := by
    show _ = [q_r φ0 (-300)]
    unfold q_r
    rw [if_neg (by omega), hφ]
  have K : l_U p l e room_1 s m #[Value.ref b] below meth c dC dI cy φ0 s.heap.size (lw_Z below #[Value.ref b] s) 0 (q_Mz 0) 0 [some (qR (-300)), none, none, none] [] := by
    refine lr_new C 0 3 rfl ck11 (by decide +kernel) (by decide) ⟨by decide, by decide +kernel⟩ wm_23 wm_24 wm_1 dL_law_0 cdf11 ?_
    show l_U p l e room_1 s m #[Value.ref b] below meth c dC dI cy φ0 s.heap.size (lw_Z below #[Value.ref b] s) 1 (q_Mz 0) 3 [some (qR (-300)), none, none, none] [qR 1]
    refine lr_dup C 3 4 rfl rfl dL_law_3 ?_
    refine lr_callC C 4 7 rfl (av := []) ca_X11_init rfl wm_26 wm_25 (by decide) ⟨by decide, by decide, by decide, by decide +kernel⟩ rfl rfl (Nat.le_of_ble_eq_true rfl) (by decide) dL_law_4 iX11_1 ?_
    refine lr_astore_n C 7 8 rfl (ls' := [some (qR (-300)), some (qR 1), none, none]) (by decide) rfl rfl dL_law_7 ?_
    refine lr_new C 8 11 rfl ck12 (by decide +kernel) (by decide) ⟨by decide, by decide +kernel⟩ wm_1316 wm_1317 wm_13 dL_law_8 cdf12 ?_
    show l_U p l e room_1 s m #[Value.ref b] below meth c dC dI cy φ0 s.heap.size (lw_Z below #[Value.ref b] s) 178 (q_Mz 184) 11 [some (qR (-300)), some (qR 1), none, none] [qR 178]
    refine lr_dup C 11 12 rfl rfl dL_law_11 ?_
    refine lr_callC C 12 15 rfl (av := []) ca_X12_init rfl wm_1319 wm_1318 (by decide) ⟨by decide, by decide, by decide, by decide +kernel⟩ rfl rfl (Nat.le_of_ble_eq_true rfl) (by decide) dL_law_12 iX12_178 ?_
    refine lr_astore_n C 15 16 rfl (ls' := [some (qR (-300)), some (qR 1), some (qR 178), none]) (by decide) rfl rfl dL_law_15 ?_
    refine lr_iconst C 16 17 rfl (q_l32 _ rfl) dL_law_16 ?_
    refine lr_istore_n C 17 18 rfl (ls' := [some (qR (-300)), some (qR 1), some (qR 178), some (qI 0)]) (by decide) rfl rfl dL_law_17 ?_
    exact l_loop C S hR (fun M i => lr_end C) (L + 1) 0 (q_Mz q_iB) (by decide) (by decide) (by omega) z_IV0
  have hl := lv_entry ([qR (-300)].map (q_c φ0)) (n := 4) (by rw [q_wid_sl]; exact Nat.le_of_ble_eq_true rfl)
  have eF : entryFrame m ([Value.ref b] : List Value).toArray 4 = entryFrame m ([qR (-300)].map (q_c φ0)).toArray 4 := by rw [← eb]
  rw [eF, lg_entry_eq]
  generalize (lg_sl ([qR (-300)].map (q_c φ0)) ++ List.replicate (4 - (lg_sl ([qR (-300)].map (q_c φ0))).length) Slot.unset).toArray = lsA at hl ⊢
  refine K φ0 s.heap [] lsA ⟨fun _ _ => rfl, ⟨fun k q h => by simp [q_w] at h, ⟨fun i j p q h => by simp [q_w] at h, fun k q h => by simp [q_w] at h⟩, ⟨fun a k _ => rfl, fun a k => ?_, fun h => absurd h (by decide)⟩⟩, va_S.rf, Nat.le_refl _⟩ ⟨by show (-300 : Int) ≤ ((0 : Nat) : Int); omega, trivial⟩ trivial ⟨hl.1, hl.2.1, fun i v hv => ?_⟩
  · show q_rg 0 _ 0
    unfold q_rg q_in32 q_in64
    split
    · omega
    · split <;> omega
  · have := q_en_at (φ := φ0) (i := 0) (av := [qR (-300)]) (n := 4) hv
    rw [Nat.zero_add] at this
    exact hl.2.2 _ this
set_option maxHeartbeats 4000000 in
theorem lw_walk (l : Launch) (hflags : l.flags = flags0) (b : Addr) (xs : List Int32) : MetFree l x (headSpec (Jvm.Cond.code x code maxLocals ret :: tables_1) room_1) (lw_P b xs) (fun _ _ _ _ _ => True) lw_Q := by
  refine MetFree.of_bodyS (code := code) (maxLocals := maxLocals) (ret := ret) (by decide) ?_ ?_
  · intro args s m h hn
    obtain ⟨meth, c, h1, h2, h3, h4, h5, h6, -, -⟩ := Cond.code_spec hn (atoms_spec (ws := Jvm.Cond.code x code maxLocals ret :: tables_1) h _ List.mem_cons_self)
    exact ⟨meth, c, h1, h2, h3, h4, h5, h6⟩
  · intro p e s m args below meth c s₁ B hml0 hP _
    obtain ⟨rfl, hx, hbd, hgv⟩ := hP
    obtain ⟨scr, harrAt, hlist, hof, hsmall⟩ := hx
    obtain ⟨hcb, hkn, -, -⟩ := State.arrayAt?_spec harrAt
    have hown : s.vm.findClass R_law = some m.cls := findClass_of_methodNamed B.named
    have hts0 : ∀ c ∈ (Jvm.Cond.code x code maxLocals ret :: tables_1), c.before #[Value.ref b] s = true := atoms_spec (ws := Jvm.Cond.code x code maxLocals ret :: tables_1) B.pre
    have hts : ∀ w ∈ lw_tbl, w.before #[Value.ref b] s = true := k2_hts_sels lw_privs (fun w hw => hts0 w (List.mem_cons_of_mem _ hw)) lw_privs_ok
    have hml : c.maxLocals = 4 := B.maxLocals_eq (hts0 _ List.mem_cons_self)
    have X₀ : Stand p l e room_1 s m #[Value.ref b] below meth c s₁ [] 0 0 := Stand.of_body B
    have hh0 : s₁.heap = s.heap := by rw [B.state]; rfl
    have hsz : scr.slots.size = xs.length := by rw [← Array.length_toList, hlist, List.length_map]
    have hval : ∀ j : Nat, j < xs.length → scr.slots[j]? = some (.int (xs.getD j 0)) := fun j hj => by
      rw [← Array.getElem?_toList, hlist]
      simp [hj]
    have hbl : b < s.heap.size := (Array.getElem?_eq_some_iff.mp hcb).1
    have hX : va_X b xs.length (fun j => xs.getD j 0) s s.heap := ⟨scr, hcb, hof, hkn, hsz, hval⟩
    have K : W p l e room_1 s m #[Value.ref b] below meth c s₁.heap [] 0 0 (lw_Z below #[Value.ref b] s) (entryFrame m ([Value.ref b] : List Value).toArray 4) := by
      rw [hh0]
      exact whole_start l hflags hbd ⟨B.exec, B.bytes, B.returns, hml, hown, hts, hX, hbl, B.notSynchronized, hgv⟩
    obtain ⟨t, a1, o, b1, b2, b3⟩ := K s₁ rfl X₀
    exact ⟨t, o, a1, b1, b2, b3⟩
theorem lw_pre_spec {args : Array Value} {s : State} (h : (Jvm.Cond.and given_1 narrow_1).before args s = true) (hr : rest_1_c.before args s = true) : ∃ (b : Addr) (xs : List Int32), lw_P b xs args s := by
  have hs := flat_of_before _ h
  have hq := flat_of_before _ hr
  have hc : (Cond.count 1).before args s = true := hs _ (by decide +kernel)
  have harr : (Cond.arrayOf (.arg 0) .int).before args s = true := hs _ (by decide +kernel)
  have hle : (Cond.le (.length (.arg 0)) (.int 3072)).before args s = true := hs _ (by decide +kernel)
  have hlen : (Cond.isInt (.length (.arg 0))).before args s = true := hq _ (by decide +kernel)
  have hall : (Cond.all (.arg 0) (.isInt (.elem (.arg 0) (.index 0)))).before args s = true := hq _ (by decide +kernel)
  obtain ⟨b, xs, hb, hx⟩ := State.ints_of_pre rfl harr hlen hall
  have hsm : xs.length < 2 ^ 31 := hx.choose_spec.2.2.2
  have hev : (Term.length (.arg 0)).eval args s none [] s = some (.int xs.length.toInt32) := hx.length_eval hb
  have hv := Cond.le_ints hev (show (Term.int 3072).eval args s none [] s = some (.int 3072) from rfl)
  have hd : xs.length.toInt32 ≤ 3072 := by
    simpa [Cond.before, Cond.holds, hv] using hle
  have hN : xs.length ≤ 3072 := (Int32.ofNat_le_ofNat hsm (by decide)).mp (show Int32.ofNat xs.length ≤ Int32.ofNat 3072 from hd)
  exact ⟨b, xs, Cond.one_arg hc (show args[0]? = some (.ref b) from hb), hx, hN, h⟩
theorem lw_comes (l : Launch) (hflags : l.flags = flags0) : Comes l x (Jvm.Cond.code x code maxLocals ret :: tables_1) room_1 (fun tb e args s => Calls_1 tb e args s ∧ rest_1 tb e args s ∧ Pre_1 tb e args s)
    (fun _ _ args s o t => lw_Q args s o t) := by
  intro p e ha hc hk s m args below hf hfit hheap happ hpre
  obtain ⟨b, xs, hP⟩ := lw_pre_spec hpre.2.2 hpre.2.1
  obtain ⟨k, o, h1, h2, h3, hQ⟩ := lw_walk l hflags b xs p e ha hc hk s m args below hf ((Spec.applies_iff_loose hf).mp happ).1 hP trivial
  exact ⟨k, o, h1, h2, h3, hQ⟩
theorem lw_frame {s t : State} {o : Outcome} {args : Array Value} (h : Framed s o t [] 600000 7302250) :
    Framed s o t (fieldLocs frame_1_writes args s ++ arrayLocs frame_1_arrays args s ++ staticLocs frame_1_statics s) 600000 7302250 := h
theorem lw_limb (L : Cond) (hL : ∀ (args : Array Value) (s t : State), L.after args s (.returned (some (.int 1))) t = true) :
    ArmFor flags0 classFile x code maxLocals ret World_1 tables_1 room_1 Calls_1 rest_1 Pre_1
      (fun tb e a s o t => postC L tb e a s o t ∧ Framed s o t (fieldLocs frame_1_writes a s ++ arrayLocs frame_1_arrays a s ++ staticLocs frame_1_statics s) 600000 7302250) := by
  intro l hflags _ _ p e ha hc hk s m args below hf hfit hheap happ hpre
  obtain ⟨k, o, h1, h2, h3, rfl, hF⟩ := lw_comes l hflags p e ha hc hk s m args below hf hfit hheap happ hpre
  exact ⟨k, _, h1, h2, h3, hL args s _, lw_frame hF⟩
theorem i_vc : Claimed_1_1 ∧ Claimed_1_2 := ⟨lw_limb limb_1_1 (fun args s t => by simp [limb_1_1, Cond.after, Cond.holds, Cond.value]), lw_limb limb_1_2 (fun args s t => Cond.after_iff.mpr (by
  first | (rw [show limb_1_2 = Cond.eq .result (.int 1) from rfl, Cond.eq_ints (x := 1) (y := 1) rfl rfl]; simp; done) | (simp [limb_1_2, Cond.value, Term.eval]; done)))⟩
