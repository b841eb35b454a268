-- abstract values, memory, the picture of the heap
abbrev q_AV : Type := Int ⊕ Int ⊕ Int
abbrev q_Mem : Type := Int → Int → Int
abbrev qI (x : Int) : q_AV := .inl x
abbrev qL (x : Int) : q_AV := .inr (.inl x)
abbrev qR (x : Int) : q_AV := .inr (.inr x)
def q_r (φ : Int → Nat) (x : Int) : Value := if x = 0 then .null else .ref (φ x)
def q_c (φ : Int → Nat) : q_AV → Value
  | .inl x => .int (Int32.ofInt x)
  | .inr (.inl x) => .long (Int64.ofInt x)
  | .inr (.inr x) => q_r φ x
def q_in32 (x : Int) : Prop := -2147483648 ≤ x ∧ x < 2147483648
def q_in64 (x : Int) : Prop := -9223372036854775808 ≤ x ∧ x < 9223372036854775808
def q_ok (n : Nat) : q_AV → Prop
  | .inl x => q_in32 x
  | .inr (.inl x) => q_in64 x
  | .inr (.inr x) => x ≤ (n : Int)
def q_oks (n : Nat) : List q_AV → Prop
  | [] => True
  | v :: l => q_ok n v ∧ q_oks n l
def q_okl (n : Nat) : List (Option q_AV) → Prop
  | [] => True
  | none :: l => q_okl n l
  | some v :: l => q_ok n v ∧ q_okl n l
/-- of a kind's slot: 0 an int, 1 a long, 2 a reference -/
def q_tr (t : FieldType) : Bool := match t with
  | .object _ => true
  | .array _ => true
  | _ => false
def q_ty (ci : Nat) : Nat → FieldType := match ci with
  | 0 => tyX0
  | 1 => tyX1
  | 2 => tyX2
  | 3 => tyX3
  | 4 => tyX4
  | 5 => tyX5
  | 6 => tyX6
  | 7 => tyX7
  | 8 => tyX8
  | 9 => tyX9
  | 10 => tyX10
  | 11 => tyX11
  | _ => tyX12
def q_fs (ci : Nat) : u_T := match ci with
  | 0 => TX0
  | 1 => TX1
  | 2 => TX2
  | 3 => TX3
  | 4 => TX4
  | 5 => TX5
  | 6 => TX6
  | 7 => TX7
  | 8 => TX8
  | 9 => TX9
  | 10 => TX10
  | 11 => TX11
  | _ => TX12
def q_sl (kind : Nat) (k : Nat) : Nat := if kind < 13 then (if q_tr (q_ty kind k) then 2 else 0) else if kind = 15 then 1 else if kind < 17 then 0 else 2
/-- which slots hold what the constructors laid there for good -/
def q_isF (kind : Nat) (k : Nat) : Bool := if kind < 13 then q_tr (q_ty kind k) && (q_fs kind k).2.2.2 else decide (17 ≤ kind ∧ kind < 99)
def q_kd (a : Int) : Nat := if a ≤ 0 then 99 else (q_kdL[(a - 1).toNat]?).getD 99
def q_ln (a : Int) : Nat := if a ≤ 0 then 0 else (q_lnL[(a - 1).toNat]?).getD 0
def q_lay (a : Int) (k : Nat) : Int := if a ≤ 0 then 0 else ((q_layL[(a - 1).toNat]?).getD []).getD k 0
/-- slots of the first n objects -/
def q_sz : Nat → Nat
  | 0 => 0
  | n + 1 => q_sz n + q_ln ((n : Int) + 1)
def q_fv (φ : Int → Nat) (t : FieldType) (x : Int) : Value := if q_tr t then q_r φ x else .int (Int32.ofInt x)
def q_cell (cy : Nat → ClassId) (φ : Int → Nat) (kind len : Nat) (f : Int → Int) : va_E :=
  if kind < 13 then .inr (kind, (List.range len).map (fun k : Nat => q_fv φ (q_ty kind k) (f (k : Int))))
  else if kind = 15 then .inl (cy kind, len, .inr (.inl (fun j : Nat => Int64.ofInt (f (j : Int)))))
  else if kind < 17 then .inl (cy kind, len, .inl (fun j : Nat => Int32.ofInt (f (j : Int))))
  else .inl (cy kind, len, .inr (.inr (.inr (.inr (fun j : Nat => if f (j : Int) = 0 then none else some (φ (f (j : Int))))))))
def q_w (cy : Nat → ClassId) (φ : Int → Nat) (n : Nat) (M : q_Mem) : va_W := (List.range n).map (fun i : Nat => (φ ((i : Int) + 1), q_cell cy φ (q_kd ((i : Int) + 1)) (q_ln ((i : Int) + 1)) (M ((i : Int) + 1))))
def q_tys (cy : Nat → ClassId) : List (ClassId × FieldType) := [(cy 13, .byte), (cy 14, .int), (cy 15, .long), (cy 16, .boolean), (cy 17, .object RX1), (cy 18, .object RX7), (cy 19, .object RX9), (cy 20, .array .int)]
def q_rg (n : Nat) (t : Nat) (x : Int) : Prop := if t = 0 then q_in32 x else if t = 1 then q_in64 x else x ≤ (n : Int)
def q_mem (n : Nat) (M : q_Mem) : Prop :=
  (∀ a k : Int, (n : Int) < a → M a k = 0) ∧ (∀ (a : Int) (k : Nat), q_rg n (q_sl (q_kd a) k) (M a (k : Int))) ∧ (n = q_N → ∀ (a : Int) (k : Nat), k < q_ln a → q_isF (q_kd a) k = true → M a (k : Int) = q_lay a k)
def q_ag (φ0 φ : Int → Nat) (n0 : Nat) : Prop := ∀ x : Int, x ≤ (n0 : Int) → φ x = φ0 x
def q_rm (d n0 n1 : Nat) : Room := { frames := d, cells := n1 - n0, slots := q_sz n1 - q_sz n0, locals := 40 * d }
/-- a method's own: code, locals, class, what it returns, whether it is a constructor -/
abbrev q_Mt : Type := ByteArray × Nat × String × Option FieldType × Bool
abbrev q_B (base : Nat) : Nat → Prop := fun q => base ≤ q
def q_W (dC : Nat → ClassId) (dI : Nat → Nat → Nat) (cy : Nat → ClassId) (base : Nat) (φ : Int → Nat) (n : Nat) (M : q_Mem) (H : Heap) : Prop :=
  va_P (dC, dI) vwCl (q_w cy φ n M) H ∧ va_D (q_B base) (q_w cy φ n M) ∧ q_mem n M
/-- the links of constructors that are private to the nest -/
def q_isN : Cond → Bool
  | .methodLinkNest _ _ _ _ => true
  | .arrayOver (.array _) => true
  | _ => false
def q_nst : List Cond := tables_1.filter q_isN
def q_sO : List (String × Nat × String) := [("FaceCuts$Reader", 71, "net"), ("FaceCuts$Reader", 77, "warm"), ("FaceCuts$Reader", 86, "node"), ("FaceCuts$Reader", 94, "link"), ("FaceCuts$Reader", 99, "round"), ("FaceCuts$Reader", 104, "weighs"), ("FaceCuts$Reader", 113, "counts"), ("FaceCuts$Reader", 132, "loses"), ("FaceCuts$Reader", 134, "gains"), ("FaceCuts$Reader", 174, "if"), ("FaceCuts$Reader", 183, "told"), ("FaceCuts$Reader", 185, "from"), ("FaceCuts$Reader", 187, "to"), ("FaceCuts$Reader", 189, "then"), ("FaceCuts$Reader", 191, "else"), ("FaceCuts$Reader", 193, "end"), ("FaceCuts$Reader", 197, "or"), ("FaceCuts$Reader", 202, "and"), ("FaceCuts$Reader", 204, "not"), ("FaceCuts$Reader", 238, ";:+-*()[]=<>"), ("FaceCutsModel", 117, " net warm node link gains loses round weighs counts if then else end told from to and or not "), ("FaceCutsModel", 155, ";:+-*()[]=<>")]
def q_sL : List (List Int) := [[110, 101, 116], [119, 97, 114, 109], [110, 111, 100, 101], [108, 105, 110, 107], [114, 111, 117, 110, 100], [119, 101, 105, 103, 104, 115], [99, 111, 117, 110, 116, 115], [108, 111, 115, 101, 115], [103, 97, 105, 110, 115], [105, 102], [116, 111, 108, 100], [102, 114, 111, 109], [116, 111], [116, 104, 101, 110], [101, 108, 115, 101], [101, 110, 100], [111, 114], [97, 110, 100], [110, 111, 116], [59, 58, 43, 45, 42, 40, 41, 91, 93, 61, 60, 62], [32, 110, 101, 116, 32, 119, 97, 114, 109, 32, 110, 111, 100, 101, 32, 108, 105, 110, 107, 32, 103, 97, 105, 110, 115, 32, 108, 111, 115, 101, 115, 32, 114, 111, 117, 110, 100, 32, 119, 101, 105, 103, 104, 115, 32, 99, 111, 117, 110, 116, 115, 32, 105, 102, 32, 116, 104, 101, 110, 32, 101, 108, 115, 101, 32, 101, 110, 100, 32, 116, 111, 108, 100, 32, 102, 114, 111, 109, 32, 116, 111, 32, 97, 110, 100, 32, 111, 114, 32, 110, 111, 116, 32], [59, 58, 43, 45, 42, 40, 41, 91, 93, 61, 60, 62]]
def q_so (i : Nat) : String × Nat × String := q_sO.getD i ("", 0, "")
def q_sb (i : Nat) : List Int := q_sL.getD i []
/-- the String constants: the objects -1, -2 ..; their bytes -101, -102 ..; statics of the JDK -/
def q_St (base : Nat) (φ : Int → Nat) (U : State) : Prop :=
  (∀ i : Nat, i < 22 → va_O "java/lang/String" (φ (-(i : Int) - 1)) (q_B base) U U.heap ∧ va_OF "java/lang/String" "coder" "B" (.int 0) (φ (-(i : Int) - 1)) (q_B base) U U.heap ∧ va_OF "java/lang/String" "value" "[B" (.ref (φ (-(i : Int) - 101))) (φ (-(i : Int) - 1)) (q_B base) U U.heap ∧ va_T .byte (φ (-(i : Int) - 101)) (q_sb i).length (fun j => .int (Int32.ofInt ((q_sb i).getD j 0))) (q_B base) U U.heap ∧ vk_R (q_so i).1 (q_so i).2.1 (q_so i).2.2 (φ (-(i : Int) - 1)) U) ∧ va_Z "java/lang/String" "COMPACT_STRINGS" "Z" (.int 1) (q_B base) U U.heap ∧ (va_Z "jdk/internal/util/Preconditions" "SIOOBE_FORMATTER" "Ljava/util/function/BiFunction;" .null (q_B base) U U.heap ∨ va_Z "jdk/internal/util/Preconditions" "SIOOBE_FORMATTER" "Ljava/util/function/BiFunction;" (.ref (φ (-200))) (q_B base) U U.heap)
/-- what a state has beside the worlds: classes, and what is stable of it -/
def q_X (dC : Nat → ClassId) (dI : Nat → Nat → Nat) (cy : Nat → ClassId) (base : Nat) (φ : Int → Nat) (U : State) : Prop :=
  va_K (dC, dI) vwCl (q_tys cy) U ∧ (∀ w ∈ q_nst, va_Nw w U) ∧ va_AO RX1 U ∧ va_AO RX7 U ∧ va_AO RX9 U ∧ q_St base φ U
def q_C (X : q_Mt) (p : Program) (s : State) (m : MethodId) (args : Array Value) (meth : Method) (c : Code) (dC : Nat → ClassId) (dI : Nat → Nat → Nat) (cy : Nat → ClassId) (φ0 : Int → Nat) (base : Nat) : Prop :=
  p.tables.exec = Jvm.exec ∧ c.code = X.1 ∧ meth.sig.returnType = X.2.2.2.1 ∧ c.maxLocals = X.2.1 ∧ s.vm.findClass X.2.2.1 = some m.cls ∧ (∀ w ∈ q_gd, w.before args s = true) ∧ meth.locks = false ∧ (X.2.2.2.2 = true → meth.name = "<init>") ∧ q_X dC dI cy base φ0 s ∧ base ≤ s.heap.size
def q_Dy (dC : Nat → ClassId) (dI : Nat → Nat → Nat) (cy : Nat → ClassId) (φ0 φ : Int → Nat) (base n0 n : Nat) (M : q_Mem) (s : State) (H : Heap) (locs : List Loc) : Prop :=
  q_ag φ0 φ n0 ∧ q_W dC dI cy base φ n M H ∧ va_S (q_B base) s.heap H locs ∧ n0 ≤ n
def q_Ls (lsA : Array Slot) (nL : Nat) (φ : Int → Nat) (ls : List (Option q_AV)) : Prop := lsA.size = nL ∧ lv_wf lsA ∧ ∀ (i : Nat) (v : q_AV), ls[i]? = some (some v) → lsA[i]? = some (.val (q_c φ v))
def q_Q (dC : Nat → ClassId) (dI : Nat → Nat → Nat) (cy : Nat → ClassId) (φ0 : Int → Nat) (base n0 n1 : Nat) (Post : Option q_AV → q_Mem → Prop) : Array Value → State → Outcome → State → Prop := fun _ st o t =>
  ∃ (r : Option q_AV) (M' : q_Mem) (φ' : Int → Nat), o = .returned (r.map (q_c φ')) ∧ Post r M' ∧ (∀ v, r = some v → q_ok n1 v) ∧ q_ag φ0 φ' n0 ∧ q_W dC dI cy base φ' n1 M' t.heap ∧ va_F (q_B base) st t
def q_V (X : q_Mt) (d n0 n1 : Nat) (P : Option q_AV → q_Mem → Prop) (n : Nat) (M : q_Mem) (pc : Nat) (ls : List (Option q_AV)) (st : List q_AV) : Prop :=
  ∀ (p : Program) (l : Launch) (e : Env) (s : State) (m : MethodId) (args : Array Value) (below : List Frame) (meth : Method) (c : Code) (dC : Nat → ClassId) (dI : Nat → Nat → Nat) (cy : Nat → ClassId) (φ0 : Int → Nat) (base : Nat),
    q_C X p s m args meth c dC dI cy φ0 base → ∀ (φ : Int → Nat) (H : Heap) (locs : List Loc) (lsA : Array Slot), q_Dy dC dI cy φ0 φ base n0 n M s H locs → q_okl n ls → q_oks n st → q_Ls lsA X.2.1 φ ls →
      W p l e (q_rm d n0 n1) s m args below meth c H locs (n - n0) (q_sz n - q_sz n0) (MQ below (q_Q dC dI cy φ0 base n0 n1 P) args s (n1 - n0) (q_sz n1 - q_sz n0) (q_B base)) (F0 m pc lsA (st.map (q_c φ)))
def q_P (dC : Nat → ClassId) (dI : Nat → Nat → Nat) (cy : Nat → ClassId) (φ0 : Int → Nat) (base n : Nat) (av : List q_AV) (M : q_Mem) : Array Value → State → Prop := fun a U =>
  a = (av.map (q_c φ0)).toArray ∧ q_oks n av ∧ q_X dC dI cy base φ0 U ∧ base ≤ U.heap.size ∧ q_W dC dI cy base φ0 n M U.heap
/-- a contract: with D frames at least, from n objects with contents M, on the arguments av: it returns, and P of what it answers and of the contents then; n1 objects are there then -/
def q_Con (y : MethodName) (X : q_Mt) (D : Nat) (av : List q_AV) (n : Nat) (M : q_Mem) (n1 : Nat) (P : Option q_AV → q_Mem → Prop) : Prop :=
  ∀ (d : Nat), D ≤ d → ∀ (l : Launch) (dC : Nat → ClassId) (dI : Nat → Nat → Nat) (cy : Nat → ClassId) (φ0 : Int → Nat) (base : Nat),
    Met l y (Cond.code y X.1 X.2.1 X.2.2.2.1 :: q_gd) (q_rm d n n1) (q_P dC dI cy φ0 base n av M) (q_Q dC dI cy φ0 base n n1 P) (n1 - n) (q_sz n1 - q_sz n) (q_B base)
