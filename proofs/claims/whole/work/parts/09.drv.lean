-- derived rows: contracts by type, fields by type
abbrev q_v (X : q_Mt) (d : Nat) (P : Option q_AV → q_Mem → Prop) (M : q_Mem) (pc : Nat) (ls : List (Option q_AV)) (st : List q_AV) : Prop := q_V X d q_N q_N P q_N M pc ls st
def qPI (P : Int → q_Mem → Prop) : Option q_AV → q_Mem → Prop := fun r M' => ∃ v, r = some (qI v) ∧ P v M'
def qPL (P : Int → q_Mem → Prop) : Option q_AV → q_Mem → Prop := fun r M' => ∃ v, r = some (qL v) ∧ P v M'
def qPR (P : Int → q_Mem → Prop) : Option q_AV → q_Mem → Prop := fun r M' => ∃ v, r = some (qR v) ∧ P v M'
def qPU (P : q_Mem → Prop) : Option q_AV → q_Mem → Prop := fun r M' => r = none ∧ P M'
def q_C' (y : MethodName) (X : q_Mt) (D : Nat) (av : List q_AV) (M : q_Mem) (P : Option q_AV → q_Mem → Prop) : Prop := q_Con y X D av q_N M q_N P
/-- a call with d frames left, and what must hold behind it -/
def q_kI (y : MethodName) (X : q_Mt) (d : Nat) (av : List q_AV) (M : q_Mem) (K : Int → q_Mem → Prop) : Prop := ∃ D P, D + 1 ≤ d ∧ q_C' y X D av M (qPI P) ∧ ∀ v M', P v M' → K v M'
def q_kL (y : MethodName) (X : q_Mt) (d : Nat) (av : List q_AV) (M : q_Mem) (K : Int → q_Mem → Prop) : Prop := ∃ D P, D + 1 ≤ d ∧ q_C' y X D av M (qPL P) ∧ ∀ v M', P v M' → K v M'
def q_kR (y : MethodName) (X : q_Mt) (d : Nat) (av : List q_AV) (M : q_Mem) (K : Int → q_Mem → Prop) : Prop := ∃ D P, D + 1 ≤ d ∧ q_C' y X D av M (qPR P) ∧ ∀ v M', P v M' → K v M'
def q_kU (y : MethodName) (X : q_Mt) (d : Nat) (av : List q_AV) (M : q_Mem) (K : q_Mem → Prop) : Prop := ∃ D P, D + 1 ≤ d ∧ q_C' y X D av M (qPU P) ∧ ∀ M', P M' → K M'
section QD
variable {X : q_Mt} {d : Nat} {P : Option q_AV → q_Mem → Prop} {M : q_Mem} {ls : List (Option q_AV)} {st : List q_AV}
/-- what is known of contents, locals, stack -/
theorem qr_mem (pc : Nat) (k : q_mem q_N M → q_okl q_N ls → q_oks q_N st → q_v X d P M pc ls st) : q_v X d P M pc ls st := by
  intro p l e s m args below meth c dC dI cy φ0 base C φ H locs lsA D ol os hl
  exact k D.2.1.2.2 ol os p l e s m args below meth c dC dI cy φ0 base C φ H locs lsA D ol os hl
def q_sbl : List (Option q_AV) → List (Option q_AV) → Prop
  | [], _ => True
  | none :: a, _ :: b => q_sbl a b
  | some v :: a, w :: b => w = some v ∧ q_sbl a b
  | none :: a, [] => q_sbl a []
  | some _ :: _, [] => False
theorem q_sbl_at : ∀ {a b : List (Option q_AV)}, q_sbl a b → ∀ (i : Nat) (v : q_AV), a[i]? = some (some v) → b[i]? = some (some v)
  | [], b, _, i, v, h => by simp at h
  | none :: a, [], h0, 0, v, h => by simp at h
  | none :: a, [], h0, i + 1, v, h => by
    have := q_sbl_at (a := a) (b := []) h0 i v (by simpa using h)
    simp at this
  | none :: a, _ :: b, h0, 0, v, h => by simp at h
  | none :: a, _ :: b, h0, i + 1, v, h => by
    have := q_sbl_at (a := a) (b := b) h0 i v (by simpa using h)
    simpa using this
  | some u :: a, w :: b, h0, 0, v, h => by
    have e : u = v := by simpa using h
    rw [h0.1, e]; rfl
  | some u :: a, w :: b, h0, i + 1, v, h => by
    have := q_sbl_at (a := a) (b := b) h0.2 i v (by simpa using h)
    simpa using this
  | some u :: a, [], h0, i, v, h => h0.elim
theorem qr_cut (pc : Nat) {ls' : List (Option q_AV)} (h : q_sbl ls' ls) (k : q_v X d P M pc ls' st) : q_v X d P M pc ls st := qr_weak pc (q_sbl_at h) k
theorem qg_i (pc pc' : Nat) (hp : pc + 3 = pc') {ci : Nat} {C0 : String} {T : u_T} {N ix : Nat} (hc : q_cl_ok ci C0 T N) (k : Nat) (hk : k < N) {a kk : Int} (hkd : q_kd a = ci) (ht : q_tr (q_ty ci k) = false) (hkk : (k : Int) = kk) (hw : Cond.fieldLink X.2.2.1 ix C0 (T k).2.1 (T k).2.2.1 ∈ q_gd) (hC : (T k).1 = C0) (hd : decode X.1 pc = .ok (.getfield ix, 3))
    (h : q_v X d P M pc' ls (qI (M a kk) :: st)) : q_v X d P M pc ls (qR a :: st) := by
  refine qr_getf pc pc' hp hc k hk hkd hw hC hd ?_
  unfold q_fa
  rw [ht, hkk]
  exact h
theorem qg_r (pc pc' : Nat) (hp : pc + 3 = pc') {ci : Nat} {C0 : String} {T : u_T} {N ix : Nat} (hc : q_cl_ok ci C0 T N) (k : Nat) (hk : k < N) {a kk : Int} (hkd : q_kd a = ci) (ht : q_tr (q_ty ci k) = true) (hkk : (k : Int) = kk) (hw : Cond.fieldLink X.2.2.1 ix C0 (T k).2.1 (T k).2.2.1 ∈ q_gd) (hC : (T k).1 = C0) (hd : decode X.1 pc = .ok (.getfield ix, 3))
    (h : q_v X d P M pc' ls (qR (M a kk) :: st)) : q_v X d P M pc ls (qR a :: st) := by
  refine qr_getf pc pc' hp hc k hk hkd hw hC hd ?_
  unfold q_fa
  rw [ht, hkk]
  exact h
theorem qp_i (pc pc' : Nat) (hp : pc + 3 = pc') {ci : Nat} {C0 : String} {T : u_T} {N ix : Nat} (hc : q_cl_ok ci C0 T N) (k : Nat) (hk : k < N) {a v kk : Int} (hkd : q_kd a = ci) (hF : (T k).2.2.2 = false) (ht : q_ty ci k = .int) (hkk : (k : Int) = kk) (hw : Cond.fieldLink X.2.2.1 ix C0 (T k).2.1 (T k).2.2.1 ∈ q_gd) (hC : (T k).1 = C0) (hd : decode X.1 pc = .ok (.putfield ix, 3))
    (h : ∀ M' : q_Mem, M' = q_up M a kk v → q_v X d P M' pc' ls st) : q_v X d P M pc ls (qI v :: qR a :: st) := by
  have e : qI v = q_fa (q_ty ci k) v := by rw [ht]; rfl
  rw [e]
  subst hkk
  exact qr_put pc pc' hp hc k hk hkd hF (fun φ => by rw [ht]; exact ⟨rfl, rfl⟩) hw hC hd (h _ rfl)
theorem qp_z (pc pc' : Nat) (hp : pc + 3 = pc') {ci : Nat} {C0 : String} {T : u_T} {N ix : Nat} (hc : q_cl_ok ci C0 T N) (k : Nat) (hk : k < N) {a v kk : Int} (hkd : q_kd a = ci) (hF : (T k).2.2.2 = false) (ht : q_ty ci k = .boolean) (hv : v = 0 ∨ v = 1) (hkk : (k : Int) = kk) (hw : Cond.fieldLink X.2.2.1 ix C0 (T k).2.1 (T k).2.2.1 ∈ q_gd) (hC : (T k).1 = C0) (hd : decode X.1 pc = .ok (.putfield ix, 3))
    (h : ∀ M' : q_Mem, M' = q_up M a kk v → q_v X d P M' pc' ls st) : q_v X d P M pc ls (qI v :: qR a :: st) := by
  have e : qI v = q_fa (q_ty ci k) v := by rw [ht]; rfl
  rw [e]
  subst hkk
  exact qr_put pc pc' hp hc k hk hkd hF (fun φ => by rw [ht]; rcases hv with rfl | rfl <;> exact ⟨rfl, rfl⟩) hw hC hd (h _ rfl)
theorem qp_r (pc pc' : Nat) (hp : pc + 3 = pc') {ci : Nat} {C0 : String} {T : u_T} {N ix : Nat} (hc : q_cl_ok ci C0 T N) (k : Nat) (hk : k < N) {a v kk : Int} (hkd : q_kd a = ci) (hF : (T k).2.2.2 = false) (ht : q_tr (q_ty ci k) = true) (hkk : (k : Int) = kk) (hw : Cond.fieldLink X.2.2.1 ix C0 (T k).2.1 (T k).2.2.1 ∈ q_gd) (hC : (T k).1 = C0) (hd : decode X.1 pc = .ok (.putfield ix, 3))
    (h : ∀ M' : q_Mem, M' = q_up M a kk v → q_v X d P M' pc' ls st) : q_v X d P M pc ls (qR v :: qR a :: st) := by
  have e : qR v = q_fa (q_ty ci k) v := by unfold q_fa; rw [ht]; rfl
  rw [e]
  subst hkk
  refine qr_put pc pc' hp hc k hk hkd hF (fun φ => ?_) hw hC hd (h _ rfl)
  unfold q_fv
  rw [if_pos ht]
  generalize q_ty ci k = t at ht
  unfold q_r
  by_cases hv : v = 0
  · rw [if_pos hv]; cases t <;> first | exact ⟨rfl, rfl⟩ | cases ht
  · rw [if_neg hv]; cases t <;> first | exact ⟨rfl, rfl⟩ | cases ht
theorem qi_ld (pc pc' : Nat) (hp : pc + 1 = pc') {a i : Int} {N : Nat} (hkd : q_kd a = 14) (hN : q_ln a = N) (h0 : 0 ≤ i) (h1 : i < (N : Int)) (hd : decode X.1 pc = .ok (.iaload, 1)) (kk : q_v X d P M pc' ls (qI (M a i) :: st)) : q_v X d P M pc ls (qI i :: qR a :: st) := qr_iaload pc pc' hp hkd h0 (by rw [hN]; exact h1) hd kk
theorem qb_ld (pc pc' : Nat) (hp : pc + 1 = pc') {a i : Int} {N : Nat} (hkd : q_kd a = 13) (hN : q_ln a = N) (h0 : 0 ≤ i) (h1 : i < (N : Int)) (hd : decode X.1 pc = .ok (.baload, 1)) (kk : q_v X d P M pc' ls (qI (M a i) :: st)) : q_v X d P M pc ls (qI i :: qR a :: st) := qr_baload pc pc' hp hkd h0 (by rw [hN]; exact h1) hd kk
theorem qz_ld (pc pc' : Nat) (hp : pc + 1 = pc') {a i : Int} {N : Nat} (hkd : q_kd a = 16) (hN : q_ln a = N) (h0 : 0 ≤ i) (h1 : i < (N : Int)) (hd : decode X.1 pc = .ok (.baload, 1)) (kk : q_v X d P M pc' ls (qI (M a i) :: st)) : q_v X d P M pc ls (qI i :: qR a :: st) := qr_zaload pc pc' hp hkd h0 (by rw [hN]; exact h1) hd kk
theorem ql_ld (pc pc' : Nat) (hp : pc + 1 = pc') {a i : Int} {N : Nat} (hkd : q_kd a = 15) (hN : q_ln a = N) (h0 : 0 ≤ i) (h1 : i < (N : Int)) (hd : decode X.1 pc = .ok (.laload, 1)) (kk : q_v X d P M pc' ls (qL (M a i) :: st)) : q_v X d P M pc ls (qI i :: qR a :: st) := qr_laload pc pc' hp hkd h0 (by rw [hN]; exact h1) hd kk
theorem qa_ld (pc pc' : Nat) (hp : pc + 1 = pc') {a i : Int} {N : Nat} (hkd : 17 ≤ q_kd a ∧ q_kd a ≤ 20) (hN : q_ln a = N) (h0 : 0 ≤ i) (h1 : i < (N : Int)) (hd : decode X.1 pc = .ok (.aaload, 1)) (kk : q_v X d P M pc' ls (qR (q_lay a i.toNat) :: st)) : q_v X d P M pc ls (qI i :: qR a :: st) := qr_aaload pc pc' hp hkd h0 (by rw [hN]; exact h1) rfl hd kk
theorem qi_st (pc pc' : Nat) (hp : pc + 1 = pc') {a i v : Int} {N : Nat} (hkd : q_kd a = 14) (hN : q_ln a = N) (h0 : 0 ≤ i) (h1 : i < (N : Int)) (hd : decode X.1 pc = .ok (.iastore, 1)) (kk : ∀ M' : q_Mem, M' = q_up M a i v → q_v X d P M' pc' ls st) : q_v X d P M pc ls (qI v :: qI i :: qR a :: st) := qr_iastore pc pc' hp hkd h0 (by rw [hN]; exact h1) hd (kk _ rfl)
theorem ql_st (pc pc' : Nat) (hp : pc + 1 = pc') {a i v : Int} {N : Nat} (hkd : q_kd a = 15) (hN : q_ln a = N) (h0 : 0 ≤ i) (h1 : i < (N : Int)) (hd : decode X.1 pc = .ok (.lastore, 1)) (kk : ∀ M' : q_Mem, M' = q_up M a i v → q_v X d P M' pc' ls st) : q_v X d P M pc ls (qL v :: qI i :: qR a :: st) := qr_lastore pc pc' hp hkd h0 (by rw [hN]; exact h1) hd (kk _ rfl)
theorem qb_st (pc pc' : Nat) (hp : pc + 1 = pc') {a i v : Int} {N : Nat} (hkd : q_kd a = 13) (hN : q_ln a = N) (h0 : 0 ≤ i) (h1 : i < (N : Int)) (hd : decode X.1 pc = .ok (.bastore, 1)) (kk : ∀ M' : q_Mem, M' = q_up M a i (q_nb v) → q_v X d P M' pc' ls st) : q_v X d P M pc ls (qI v :: qI i :: qR a :: st) := qr_bastore pc pc' hp hkd h0 (by rw [hN]; exact h1) hd (kk _ rfl)
theorem qz_st (pc pc' : Nat) (hp : pc + 1 = pc') {a i v : Int} {N : Nat} (hkd : q_kd a = 16) (hN : q_ln a = N) (h0 : 0 ≤ i) (h1 : i < (N : Int)) (hd : decode X.1 pc = .ok (.bastore, 1)) (kk : ∀ M' : q_Mem, M' = q_up M a i (q_nz v) → q_v X d P M' pc' ls st) : q_v X d P M pc ls (qI v :: qI i :: qR a :: st) := qr_zastore pc pc' hp hkd h0 (by rw [hN]; exact h1) hd (kk _ rfl)
theorem qe_i (pc : Nat) {P0 : Int → q_Mem → Prop} {v : Int} (hr : X.2.2.2.1 = some .int) (hd : decode X.1 pc = .ok (.ireturn, 1)) (h : P0 v M) : q_v X d (qPI P0) M pc ls [qI v] := qr_ireturn pc hr rfl hd ⟨v, rfl, h⟩
theorem qe_z (pc : Nat) {P0 : Int → q_Mem → Prop} {v : Int} (hr : X.2.2.2.1 = some .boolean) (hv : v = 0 ∨ v = 1) (hd : decode X.1 pc = .ok (.ireturn, 1)) (h : P0 v M) : q_v X d (qPI P0) M pc ls [qI v] := qr_ireturn pc hr (by rcases hv with rfl | rfl <;> rfl) hd ⟨v, rfl, h⟩
theorem qe_l (pc : Nat) {P0 : Int → q_Mem → Prop} {v : Int} (hr : X.2.2.2.1 = some .long) (hd : decode X.1 pc = .ok (.lreturn, 1)) (h : P0 v M) : q_v X d (qPL P0) M pc ls [qL v] := qr_lreturn pc hr hd ⟨v, rfl, h⟩
theorem qe_u (pc : Nat) {P0 : q_Mem → Prop} (hr : X.2.2.2.1 = none) (hd : decode X.1 pc = .ok (.return_, 1)) (h : P0 M) : q_v X d (qPU P0) M pc ls [] := qr_return pc hr hd ⟨rfl, h⟩
theorem qe_r (pc : Nat) {P0 : Int → q_Mem → Prop} {v : Int} {rt : FieldType} (hr : X.2.2.2.1 = some rt) (hrt : (∃ n, rt = .object n) ∨ ∃ t, rt = .array t) (hd : decode X.1 pc = .ok (.areturn, 1)) (h : P0 v M) : q_v X d (qPR P0) M pc ls [qR v] := qr_areturn pc hr hrt hd ⟨v, rfl, h⟩
theorem qs_I (pc pc' : Nat) (hp : pc + 3 = pc') {y : MethodName} {Y : q_Mt} {np ix : Nat} {av : List q_AV} {st' : List q_AV} {K : Int → q_Mem → Prop} (hy : q_cal y Y np) (hst : Cond.static y ∈ q_gd) (hlk : Cond.methodLink X.2.2.1 ix y ∈ q_gd) (hn : av.length = np) (hs : st' = av.reverse ++ st) (hw : q_wid st ≤ 8) (hd : decode X.1 pc = .ok (.invokestatic ix, 3)) (hc : q_kI y Y d av M K) (kk : ∀ (v : Int) (M' : q_Mem), K v M' → q_v X d P M' pc' ls (qI v :: st)) : q_v X d P M pc ls st' := by
  obtain ⟨D0, P2, hdd, hcc, hK⟩ := hc
  exact qr_callS pc pc' hp hy hst hlk hdd hn hs hw (Nat.le_refl _) (Nat.le_refl _) hd hcc (fun r M' ⟨v, hv, hp9⟩ => by subst hv; exact kk v M' (hK v M' hp9))
theorem qw_I (pc pc' : Nat) (hp : pc + 3 = pc') {y : MethodName} {Y : q_Mt} {np ix ci : Nat} {T : u_T} {N : Nat} {a : Int} {av : List q_AV} {st' : List q_AV} {K : Int → q_Mem → Prop} (hy : q_cal y Y np) (hin : Cond.instanceMethod y ∈ q_gd) (hsel : Cond.selects y.cls y y ∈ q_gd) (hlk : Cond.methodLink X.2.2.1 ix y ∈ q_gd) (hci : q_cl_ok ci y.cls T N) (hkd : q_kd a = ci) (hn : av.length = np) (hs : st' = av.reverse ++ qR a :: st) (hw : q_wid st ≤ 8) (hd : decode X.1 pc = .ok (.invokevirtual ix, 3)) (hc : q_kI y Y d (qR a :: av) M K) (kk : ∀ (v : Int) (M' : q_Mem), K v M' → q_v X d P M' pc' ls (qI v :: st)) : q_v X d P M pc ls st' := by
  obtain ⟨D0, P2, hdd, hcc, hK⟩ := hc
  exact qr_callV pc pc' hp hy hin hsel hlk hci hkd hdd hn hs hw (Nat.le_refl _) (Nat.le_refl _) hd hcc (fun r M' ⟨v, hv, hp9⟩ => by subst hv; exact kk v M' (hK v M' hp9))
theorem qs_L (pc pc' : Nat) (hp : pc + 3 = pc') {y : MethodName} {Y : q_Mt} {np ix : Nat} {av : List q_AV} {st' : List q_AV} {K : Int → q_Mem → Prop} (hy : q_cal y Y np) (hst : Cond.static y ∈ q_gd) (hlk : Cond.methodLink X.2.2.1 ix y ∈ q_gd) (hn : av.length = np) (hs : st' = av.reverse ++ st) (hw : q_wid st ≤ 8) (hd : decode X.1 pc = .ok (.invokestatic ix, 3)) (hc : q_kL y Y d av M K) (kk : ∀ (v : Int) (M' : q_Mem), K v M' → q_v X d P M' pc' ls (qL v :: st)) : q_v X d P M pc ls st' := by
  obtain ⟨D0, P2, hdd, hcc, hK⟩ := hc
  exact qr_callS pc pc' hp hy hst hlk hdd hn hs hw (Nat.le_refl _) (Nat.le_refl _) hd hcc (fun r M' ⟨v, hv, hp9⟩ => by subst hv; exact kk v M' (hK v M' hp9))
theorem qw_L (pc pc' : Nat) (hp : pc + 3 = pc') {y : MethodName} {Y : q_Mt} {np ix ci : Nat} {T : u_T} {N : Nat} {a : Int} {av : List q_AV} {st' : List q_AV} {K : Int → q_Mem → Prop} (hy : q_cal y Y np) (hin : Cond.instanceMethod y ∈ q_gd) (hsel : Cond.selects y.cls y y ∈ q_gd) (hlk : Cond.methodLink X.2.2.1 ix y ∈ q_gd) (hci : q_cl_ok ci y.cls T N) (hkd : q_kd a = ci) (hn : av.length = np) (hs : st' = av.reverse ++ qR a :: st) (hw : q_wid st ≤ 8) (hd : decode X.1 pc = .ok (.invokevirtual ix, 3)) (hc : q_kL y Y d (qR a :: av) M K) (kk : ∀ (v : Int) (M' : q_Mem), K v M' → q_v X d P M' pc' ls (qL v :: st)) : q_v X d P M pc ls st' := by
  obtain ⟨D0, P2, hdd, hcc, hK⟩ := hc
  exact qr_callV pc pc' hp hy hin hsel hlk hci hkd hdd hn hs hw (Nat.le_refl _) (Nat.le_refl _) hd hcc (fun r M' ⟨v, hv, hp9⟩ => by subst hv; exact kk v M' (hK v M' hp9))
theorem qs_R (pc pc' : Nat) (hp : pc + 3 = pc') {y : MethodName} {Y : q_Mt} {np ix : Nat} {av : List q_AV} {st' : List q_AV} {K : Int → q_Mem → Prop} (hy : q_cal y Y np) (hst : Cond.static y ∈ q_gd) (hlk : Cond.methodLink X.2.2.1 ix y ∈ q_gd) (hn : av.length = np) (hs : st' = av.reverse ++ st) (hw : q_wid st ≤ 8) (hd : decode X.1 pc = .ok (.invokestatic ix, 3)) (hc : q_kR y Y d av M K) (kk : ∀ (v : Int) (M' : q_Mem), K v M' → q_v X d P M' pc' ls (qR v :: st)) : q_v X d P M pc ls st' := by
  obtain ⟨D0, P2, hdd, hcc, hK⟩ := hc
  exact qr_callS pc pc' hp hy hst hlk hdd hn hs hw (Nat.le_refl _) (Nat.le_refl _) hd hcc (fun r M' ⟨v, hv, hp9⟩ => by subst hv; exact kk v M' (hK v M' hp9))
theorem qw_R (pc pc' : Nat) (hp : pc + 3 = pc') {y : MethodName} {Y : q_Mt} {np ix ci : Nat} {T : u_T} {N : Nat} {a : Int} {av : List q_AV} {st' : List q_AV} {K : Int → q_Mem → Prop} (hy : q_cal y Y np) (hin : Cond.instanceMethod y ∈ q_gd) (hsel : Cond.selects y.cls y y ∈ q_gd) (hlk : Cond.methodLink X.2.2.1 ix y ∈ q_gd) (hci : q_cl_ok ci y.cls T N) (hkd : q_kd a = ci) (hn : av.length = np) (hs : st' = av.reverse ++ qR a :: st) (hw : q_wid st ≤ 8) (hd : decode X.1 pc = .ok (.invokevirtual ix, 3)) (hc : q_kR y Y d (qR a :: av) M K) (kk : ∀ (v : Int) (M' : q_Mem), K v M' → q_v X d P M' pc' ls (qR v :: st)) : q_v X d P M pc ls st' := by
  obtain ⟨D0, P2, hdd, hcc, hK⟩ := hc
  exact qr_callV pc pc' hp hy hin hsel hlk hci hkd hdd hn hs hw (Nat.le_refl _) (Nat.le_refl _) hd hcc (fun r M' ⟨v, hv, hp9⟩ => by subst hv; exact kk v M' (hK v M' hp9))
theorem qs_U (pc pc' : Nat) (hp : pc + 3 = pc') {y : MethodName} {Y : q_Mt} {np ix : Nat} {av : List q_AV} {st' : List q_AV} {K : q_Mem → Prop} (hy : q_cal y Y np) (hst : Cond.static y ∈ q_gd) (hlk : Cond.methodLink X.2.2.1 ix y ∈ q_gd) (hn : av.length = np) (hs : st' = av.reverse ++ st) (hw : q_wid st ≤ 8) (hd : decode X.1 pc = .ok (.invokestatic ix, 3)) (hc : q_kU y Y d av M K) (kk : ∀ (M' : q_Mem), K M' → q_v X d P M' pc' ls st) : q_v X d P M pc ls st' := by
  obtain ⟨D0, P2, hdd, hcc, hK⟩ := hc
  exact qr_callS pc pc' hp hy hst hlk hdd hn hs hw (Nat.le_refl _) (Nat.le_refl _) hd hcc (fun r M' ⟨hv, hp9⟩ => by subst hv; exact kk M' (hK M' hp9))
theorem qw_U (pc pc' : Nat) (hp : pc + 3 = pc') {y : MethodName} {Y : q_Mt} {np ix ci : Nat} {T : u_T} {N : Nat} {a : Int} {av : List q_AV} {st' : List q_AV} {K : q_Mem → Prop} (hy : q_cal y Y np) (hin : Cond.instanceMethod y ∈ q_gd) (hsel : Cond.selects y.cls y y ∈ q_gd) (hlk : Cond.methodLink X.2.2.1 ix y ∈ q_gd) (hci : q_cl_ok ci y.cls T N) (hkd : q_kd a = ci) (hn : av.length = np) (hs : st' = av.reverse ++ qR a :: st) (hw : q_wid st ≤ 8) (hd : decode X.1 pc = .ok (.invokevirtual ix, 3)) (hc : q_kU y Y d (qR a :: av) M K) (kk : ∀ (M' : q_Mem), K M' → q_v X d P M' pc' ls st) : q_v X d P M pc ls st' := by
  obtain ⟨D0, P2, hdd, hcc, hK⟩ := hc
  exact qr_callV pc pc' hp hy hin hsel hlk hci hkd hdd hn hs hw (Nat.le_refl _) (Nat.le_refl _) hd hcc (fun r M' ⟨hv, hp9⟩ => by subst hv; exact kk M' (hK M' hp9))
theorem qn_i (pc : Nat) {x : Int} (h : ∀ x' : Int, x' = x → q_v X d P M pc ls (qI x' :: st)) : q_v X d P M pc ls (qI x :: st) := h x rfl
theorem qn_l (pc : Nat) {x : Int} (h : ∀ x' : Int, x' = x → q_v X d P M pc ls (qL x' :: st)) : q_v X d P M pc ls (qL x :: st) := h x rfl
theorem qn_r (pc : Nat) {x : Int} (h : ∀ x' : Int, x' = x → q_v X d P M pc ls (qR x' :: st)) : q_v X d P M pc ls (qR x :: st) := h x rfl
end QD
theorem q_l32 (v : Int) (h : decide (-2147483648 ≤ v ∧ v < 2147483648) = true) : q_in32 v := show -2147483648 ≤ v ∧ v < 2147483648 from of_decide_eq_true h
theorem q_l64 (v : Int) (h : decide (-9223372036854775808 ≤ v ∧ v < 9223372036854775808) = true) : q_in64 v := show -9223372036854775808 ≤ v ∧ v < 9223372036854775808 from of_decide_eq_true h
theorem q_startI {y : MethodName} {X : q_Mt} {D : Nat} {av : List q_AV} {M : q_Mem} {P : Int → q_Mem → Prop} (hy : plainName y.cls = true) (ho : y.cls = X.2.2.1) (hi : X.2.2.2.2 = true → y.name = "<init>") {ls : List (Option q_AV)} (hls : q_en av X.2.1 = ls) (hw : q_wid av ≤ X.2.1) (k : ∀ d, D ≤ d → q_v X d (qPI P) M 0 ls []) : q_C' y X D av M (qPI P) := q_start hy ho hi hls hw k
theorem q_startL {y : MethodName} {X : q_Mt} {D : Nat} {av : List q_AV} {M : q_Mem} {P : Int → q_Mem → Prop} (hy : plainName y.cls = true) (ho : y.cls = X.2.2.1) (hi : X.2.2.2.2 = true → y.name = "<init>") {ls : List (Option q_AV)} (hls : q_en av X.2.1 = ls) (hw : q_wid av ≤ X.2.1) (k : ∀ d, D ≤ d → q_v X d (qPL P) M 0 ls []) : q_C' y X D av M (qPL P) := q_start hy ho hi hls hw k
theorem q_startR {y : MethodName} {X : q_Mt} {D : Nat} {av : List q_AV} {M : q_Mem} {P : Int → q_Mem → Prop} (hy : plainName y.cls = true) (ho : y.cls = X.2.2.1) (hi : X.2.2.2.2 = true → y.name = "<init>") {ls : List (Option q_AV)} (hls : q_en av X.2.1 = ls) (hw : q_wid av ≤ X.2.1) (k : ∀ d, D ≤ d → q_v X d (qPR P) M 0 ls []) : q_C' y X D av M (qPR P) := q_start hy ho hi hls hw k
theorem q_startU {y : MethodName} {X : q_Mt} {D : Nat} {av : List q_AV} {M : q_Mem} {P : q_Mem → Prop} (hy : plainName y.cls = true) (ho : y.cls = X.2.2.1) (hi : X.2.2.2.2 = true → y.name = "<init>") {ls : List (Option q_AV)} (hls : q_en av X.2.1 = ls) (hw : q_wid av ≤ X.2.1) (k : ∀ d, D ≤ d → q_v X d (qPU P) M 0 ls []) : q_C' y X D av M (qPU P) := q_start hy ho hi hls hw k
