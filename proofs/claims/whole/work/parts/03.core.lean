/-! A SMALL MACHINE over labelled cells: values, memory, a table of cells, and what a method's contract is over them -/
abbrev px_V : Type := Int32 ⊕ (Int64 ⊕ Option Nat)
abbrev px_M : Type := (Nat → Nat → Int32) × (Nat → Nat → Int64) × (Nat → Nat → Option Nat)
abbrev px_T : Type := List (Nat × (Nat ⊕ (Nat × Nat)))
abbrev px_S : Type := List px_V → px_M → (Option px_V → px_M → Prop) → Prop
abbrev px_E : Type := Nat × Instr × Nat × Nat × Nat × Nat × px_V
abbrev px_Ls : Type := List (Option px_V)
abbrev px_J : Type := Nat → px_Ls → List px_V → px_M → Prop
def px_v (ad : Nat → Nat) (v : px_V) : Value := match v with
  | .inl x => .int x
  | .inr (.inl x) => .long x
  | .inr (.inr r) => va_rf (r.map ad)
def px_fv (ad : Nat → Nat) (σ : px_M) (k j kd : Nat) : Value := if kd = 1 then .long (σ.2.1 k j) else if kd = 2 then va_rf ((σ.2.2 k j).map ad) else .int (σ.1 k j)
def px_fs (ad : Nat → Nat) (σ : px_M) (k : Nat) (ks : List Nat) : List Value := ks.mapIdx (fun j kd => px_fv ad σ k j kd)
def px_e (cy : Nat → ClassId) (ad : Nat → Nat) (σ : px_M) (k : Nat) (e : Nat ⊕ (Nat × Nat)) : va_E := match e with
  | .inl ci => .inr (ci, px_fs ad σ k (pn_fk ci))
  | .inr (t, n) => .inl (cy t, (n, if t = 3 then .inr (.inl (σ.2.1 k)) else .inl (σ.1 k)))
/-- cells that nobody writes: texts, their bytes, static rows -/
def px_xb (e : Nat ⊕ (Nat × Nat)) : Bool := match e with
  | .inl c => decide (13 ≤ c)
  | .inr (t, _) => decide (4 ≤ t)
def px_in (tab : px_T) : px_T := tab.filter (fun q => !px_xb q.2)
def px_nd (tab : px_T) : Prop := (tab.map Prod.fst).Nodup ∧ ∀ q ∈ tab, px_xb q.2 = true → q ∈ pn_xt
def px_w (cy : Nat → ClassId) (ad : Nat → Nat) (tab : px_T) (σ : px_M) : va_W := (px_in tab).map (fun q => (ad q.1, px_e cy ad σ q.1 q.2))
def px_tys (cy : Nat → ClassId) : List (ClassId × FieldType) := [(cy 0, .int), (cy 1, .byte), (cy 2, .boolean), (cy 3, .long)]
def px_ws : List Cond := lw_tbl.filter goodWord
def px_room (h : Nat) : Room := { frames := h, cells := 0, slots := 0, locals := 64 * h }
/-- what is outside the labelled cells and never changes: texts, statics -/
def px_X (ad : Nat → Nat) (A : Nat → Prop) (U : State) : Prop :=
  (∀ i : Nat, i < pn_NS → va_O "java/lang/String" (ad (1000 + i)) A U U.heap ∧ va_OF "java/lang/String" "coder" "B" (.int (nI 0)) (ad (1000 + i)) A U U.heap ∧ va_OF "java/lang/String" "value" "[B" (.ref (ad (1100 + i))) (ad (1000 + i)) A U U.heap) ∧
  (∀ q ∈ pn_xt, ∀ t n, q.2 = .inr (t, n) → va_T (if t = 10 then .byte else .int) (ad q.1) n (fun j => .int (pn_xv q.1 j)) A U U.heap) ∧
  (∀ q ∈ pn_KS, vk_R (pn_own q.1) q.2.1 q.2.2.1 (ad (1000 + q.2.2.2)) U) ∧
  (∀ q ∈ pn_GS, va_Z q.2.2.2.1 q.2.2.2.2.1 q.2.2.2.2.2.1 (px_v ad q.2.2.2.2.2.2) A U U.heap) ∧
  (∃ o : Option Nat, va_Z "jdk/internal/util/Preconditions" "SIOOBE_FORMATTER" "Ljava/util/function/BiFunction;" (px_v ad (.inr (.inr o))) A U U.heap)
abbrev px_C : Type := Program × Launch × Env × Room × State × MethodId × Array Value × List Frame × Method × Code × va_G × (Nat → ClassId) × (Nat → Nat) × px_T × (Nat → Prop)
def px_tb (C : px_C) : px_T := C.2.2.2.2.2.2.2.2.2.2.2.2.2.1
/-- a method's end -/
def px_Q (k : Option px_V → px_M → Prop) (D : va_G) (cy : Nat → ClassId) (ad : Nat → Nat) (tab : px_T) (A : Nat → Prop) : Array Value → State → Outcome → State → Prop := fun _ st oc t => (∃ (r : Option px_V) (σ : px_M), oc = .returned (r.map (px_v ad)) ∧ k r σ ∧ va_P D pn_cl (px_w cy ad tab σ) t.heap) ∧ va_F A st t
/-- the known locals -/
def px_kn (ad : Nat → Nat) : Nat → px_Ls → List (Nat × Value)
  | _, [] => []
  | i, none :: l => px_kn ad (i + 1) l
  | i, some v :: l => (i, px_v ad v) :: px_kn ad (i + 1) l
def px_L (ad : Nat → Nat) (la : Array Slot) (ls : px_Ls) : Prop := lv_has la ls.length (px_kn ad 0 ls)
/-- the machine at pc, with these locals, stack and memory, comes to its method's end with k -/
def px_W (C : px_C) (k : Option px_V → px_M → Prop) (pc : Nat) (ls : px_Ls) (st : List px_V) (σ : px_M) : Prop := match C with
  | (p, l, e, R, s, m, args, below, meth, c, D, cy, ad, tab, A) => ∀ (H : Heap) (locs : List Loc) (la : Array Slot), px_L ad la ls → va_P D pn_cl (px_w cy ad tab σ) H → va_S A s.heap H locs → W p l e R s m args below meth c H locs 0 0 (MQ below (px_Q k D cy ad tab A) args s 0 0 A) (F0 m pc la (st.map (px_v ad)))
/-- the frame of such a walk -/
def px_ok (C : px_C) (i : pn_I) (h : Nat) : Prop := match C with
  | (p, l, e, R, s, m, args, below, meth, c, D, cy, ad, tab, A) => p.tables.exec = Jvm.exec ∧ c.code = i.2.2.1 ∧ c.maxLocals = i.2.2.2.1 ∧ meth.sig.returnType = i.2.2.2.2.1 ∧ meth.locks = false ∧ s.vm.findClass (pn_own i.1) = some m.cls ∧ (∀ w ∈ px_ws, w.before args s = true) ∧ va_K D pn_cl (px_tys cy) s ∧ (∀ σ, va_D A (px_w cy ad tab σ)) ∧ (∀ q, s.heap.size ≤ q → A q) ∧ R = px_room h ∧ px_nd tab ∧ px_X ad A s
/-- a method's contract: from every memory in which S allows k, it returns with k -/
def px_Ok (tab : px_T) (i : pn_I) (h : Nat) (S : px_S) : Prop := ∀ (l : Launch) (D : va_G) (cy : Nat → ClassId) (ad : Nat → Nat) (sz : Nat) (av : List px_V) (σ : px_M) (k : Option px_V → px_M → Prop), S av σ k →
  Met l i.2.1 (.code i.2.1 i.2.2.1 i.2.2.2.1 i.2.2.2.2.1 :: px_ws) (px_room h) (va_Pc (av.map (px_v ad)) (fun U => U.heap.size = sz ∧ va_P D pn_cl (px_w cy ad tab σ) U.heap ∧ va_K D pn_cl (px_tys cy) U ∧ va_D (fun _ => True) (px_w cy ad tab σ) ∧ px_X ad (va_A (px_w cy ad tab σ) sz) U)) (px_Q k D cy ad tab (va_A (px_w cy ad tab σ) sz)) 0 0 (va_A (px_w cy ad tab σ) sz)
/-! tools of the small machine -/
def px_up {α : Type} (f : Nat → Nat → α) (a b : Nat) (v : α) : Nat → Nat → α := fun i j => if i = a ∧ j = b then v else f i j
theorem px_up_s {α : Type} (f : Nat → Nat → α) (a b : Nat) (v : α) : px_up f a b v a b = v := by simp [px_up]
theorem px_up_n {α : Type} {f : Nat → Nat → α} {a b i j : Nat} {v : α} (h : ¬ (i = a ∧ j = b)) : px_up f a b v i j = f i j := by simp [px_up, h]
def px_wi (σ : px_M) (a b : Nat) (v : Int32) : px_M := (px_up σ.1 a b v, σ.2)
def px_wl (σ : px_M) (a b : Nat) (v : Int64) : px_M := (σ.1, px_up σ.2.1 a b v, σ.2.2)
def px_wr (σ : px_M) (a b : Nat) (v : Option Nat) : px_M := (σ.1, σ.2.1, px_up σ.2.2 a b v)
def px_gi : px_Ls → Nat → (Int32 → Prop) → Prop
  | some (.inl x) :: _, 0, f => f x
  | _ :: l, n + 1, f => px_gi l n f
  | _, _, _ => False
def px_gl : px_Ls → Nat → (Int64 → Prop) → Prop
  | some (.inr (.inl x)) :: _, 0, f => f x
  | _ :: l, n + 1, f => px_gl l n f
  | _, _, _ => False
def px_gr : px_Ls → Nat → (Option Nat → Prop) → Prop
  | some (.inr (.inr x)) :: _, 0, f => f x
  | _ :: l, n + 1, f => px_gr l n f
  | _, _, _ => False
def px_nl (y : Option px_V) : Option px_V := match y with
  | none => none
  | some (.inl x) => some (.inl x)
  | some (.inr (.inl _)) => none
  | some (.inr (.inr x)) => some (.inr (.inr x))
/-- a local of one slot is stored: a long just ahead of it is lost -/
def px_s1 : px_Ls → Nat → px_V → (px_Ls → Prop) → Prop
  | _ :: l, 0, x, f => f (some x :: l)
  | y :: _ :: l, 1, x, f => f (px_nl y :: some x :: l)
  | y :: l, n + 2, x, f => px_s1 l (n + 1) x (fun l' => f (y :: l'))
  | _, _, _, _ => False
def px_s2 : px_Ls → Nat → px_V → (px_Ls → Prop) → Prop
  | _ :: _ :: l, 0, x, f => f (some x :: none :: l)
  | y :: _ :: _ :: l, 1, x, f => f (px_nl y :: some x :: none :: l)
  | y :: l, n + 2, x, f => px_s2 l (n + 1) x (fun l' => f (y :: l'))
  | _, _, _, _ => False
def px_i1 : List px_V → (Int32 → List px_V → Prop) → Prop
  | .inl x :: s, f => f x s
  | _, _ => False
def px_l1 : List px_V → (Int64 → List px_V → Prop) → Prop
  | .inr (.inl x) :: s, f => f x s
  | _, _ => False
def px_r1 : List px_V → (Nat → List px_V → Prop) → Prop
  | .inr (.inr (some x)) :: s, f => f x s
  | _, _ => False
def px_q1 : List px_V → (Option Nat → List px_V → Prop) → Prop
  | .inr (.inr x) :: s, f => f x s
  | _, _ => False
def px_i2 : List px_V → (Int32 → Int32 → List px_V → Prop) → Prop
  | .inl y :: .inl x :: s, f => f y x s
  | _, _ => False
def px_l2 : List px_V → (Int64 → Int64 → List px_V → Prop) → Prop
  | .inr (.inl y) :: .inr (.inl x) :: s, f => f y x s
  | _, _ => False
def px_il : List px_V → (Int32 → Int64 → List px_V → Prop) → Prop
  | .inl y :: .inr (.inl x) :: s, f => f y x s
  | _, _ => False
def px_d1 : List px_V → (px_V → List px_V → Prop) → Prop
  | .inl x :: s, f => f (.inl x) s
  | .inr (.inr x) :: s, f => f (.inr (.inr x)) s
  | _, _ => False
def px_d2 : List px_V → (List px_V → Prop) → Prop
  | .inr (.inl x) :: s, f => f (.inr (.inl x) :: .inr (.inl x) :: s)
  | .inl x :: .inl y :: s, f => f (.inl x :: .inl y :: .inl x :: .inl y :: s)
  | .inl x :: .inr (.inr y) :: s, f => f (.inl x :: .inr (.inr y) :: .inl x :: .inr (.inr y) :: s)
  | _, _ => False
def px_pop : Nat → List px_V → List px_V → (List px_V → List px_V → Prop) → Prop
  | 0, s, acc, f => f acc s
  | n + 1, x :: s, acc, f => px_pop n s (x :: acc) f
  | _ + 1, [], _, _ => False
def px_sz : List px_V → Nat
  | [] => 0
  | .inr (.inl _) :: s => px_sz s + 2
  | .inl _ :: s => px_sz s + 1
  | .inr (.inr _) :: s => px_sz s + 1
def px_sp : List (Nat × px_S) → Nat → px_S
  | [], _, _, _, _ => False
  | (n, S) :: l, a, av, σ, k => if n = a then S av σ k else px_sp l a av σ k
def px_lay (tab : px_T) (k : Nat) : Option (Nat ⊕ (Nat × Nat)) := tab.lookup k
def px_obj (o : Option (Nat ⊕ (Nat × Nat))) (ci : Nat) : Prop := match o with
  | some (.inl c) => c = ci
  | _ => False
def px_arr (o : Option (Nat ⊕ (Nat × Nat))) (f : Nat → Nat → Prop) : Prop := match o with
  | some (.inr (t, n)) => f t n
  | _ => False
def px_rd (d : Nat) (σ : px_M) (r j : Nat) : px_V := match d with
  | 0 => .inl (σ.1 r j)
  | 1 => .inr (.inl (σ.2.1 r j))
  | 2 => .inr (.inr (σ.2.2 r j))
  | _ + 3 => .inl (σ.1 r j)
def px_pt (d : Nat) (σ : px_M) (r j : Nat) (x : px_V) (K : px_M → Prop) : Prop := match d, x with
  | 0, .inl v => K (px_wi σ r j v)
  | 3, .inl v => (v = nI 0 ∨ v = nI 1) ∧ K (px_wi σ r j v)
  | 1, .inr (.inl v) => K (px_wl σ r j v)
  | 2, .inr (.inr v) => K (px_wr σ r j v)
  | _, _ => False
def px_rok (rt : Option FieldType) (v : Int32) : Prop := match rt with
  | some .int => True
  | some .boolean => v = nI 0 ∨ v = nI 1
  | some .char => narrow .char (.int v) = .int v
  | some .byte => narrow .byte (.int v) = .int v
  | _ => False
/-- an answer that is a reference -/
def px_rq (rt : Option FieldType) : Prop := match rt with
  | some (.object _) => True
  | _ => False
def px_d0 : List px_V → (px_V → List px_V → Prop) → Prop
  | x :: s, f => f x s
  | _, _ => False
/-- the receiver's class -/
def px_rv (tab : px_T) (d : Nat) (av : List px_V) : Prop := match av with
  | .inr (.inr (some r)) :: _ => px_obj (px_lay tab r) d
  | _ => False
/-- a switch: keys and targets, else the default -/
def px_sw (x : Int32) (dt : Nat) (J : Nat → Prop) : List (Int32 × Nat) → Prop
  | [] => J dt
  | (c, t) :: l => (x = c → J t) ∧ (¬ x = c → px_sw x dt J l)
/-- a field's value, an element's value: of texts and static rows they are constants -/
def pn_xf (r b : Nat) : px_V := if b = 0 then .inr (.inr (some (r + 100))) else .inl (nI 0)
def px_rf (a d : Nat) (σ : px_M) (r b : Nat) : px_V := if a = 23 then pn_xf r b else px_rd d σ r b
def px_av (t : Nat) (σ : px_M) (r j : Nat) : Int32 := if t < 5 then σ.1 r j else pn_xv r j
/-- Math.max and Math.min, of ints and of longs: what the machine does itself -/
def px_ma (d : Nat) (st : List px_V) (f : px_V → List px_V → Prop) : Prop := match d with
  | 1 => px_i2 st (fun y x s => f (.inl (if x < y then y else x)) s)
  | 2 => px_i2 st (fun y x s => f (.inl (if y < x then y else x)) s)
  | 3 => px_l2 st (fun y x s => f (.inr (.inl (if y < x then y else x))) s)
  | _ => px_l2 st (fun y x s => f (.inr (.inl (if y < x then x else y))) s)
/-- one instruction of the small machine -/
def px_ex (tab : px_T) (J : px_J) (sp : List (Nat × px_S)) (nL : Nat) (rt : Option FieldType) (k : Option px_V → px_M → Prop) (i : Instr) (a b d : Nat) (v : px_V) (ls : px_Ls) (st : List px_V) (σ : px_M) (K : px_Ls → List px_V → px_M → Prop) : Prop := match i with
  | .iconst _ => K ls (v :: st) σ
  | .bipush _ => K ls (v :: st) σ
  | .sipush _ => K ls (v :: st) σ
  | .lconst _ => K ls (v :: st) σ
  | .ldc _ => K ls (v :: st) σ
  | .ldc_w _ => K ls (v :: st) σ
  | .ldc2_w _ => K ls (v :: st) σ
  | .iload _ => px_gi ls a (fun x => K ls (.inl x :: st) σ)
  | .iload_n _ => px_gi ls a (fun x => K ls (.inl x :: st) σ)
  | .lload _ => px_gl ls a (fun x => K ls (.inr (.inl x) :: st) σ)
  | .lload_n _ => px_gl ls a (fun x => K ls (.inr (.inl x) :: st) σ)
  | .aload _ => px_gr ls a (fun x => K ls (.inr (.inr x) :: st) σ)
  | .aload_n _ => px_gr ls a (fun x => K ls (.inr (.inr x) :: st) σ)
  | .istore _ => px_i1 st (fun x s => px_s1 ls a (.inl x) (fun l => K l s σ))
  | .istore_n _ => px_i1 st (fun x s => px_s1 ls a (.inl x) (fun l => K l s σ))
  | .lstore _ => px_l1 st (fun x s => px_s2 ls a (.inr (.inl x)) (fun l => K l s σ))
  | .lstore_n _ => px_l1 st (fun x s => px_s2 ls a (.inr (.inl x)) (fun l => K l s σ))
  | .astore _ => px_q1 st (fun x s => px_s1 ls a (.inr (.inr x)) (fun l => K l s σ))
  | .astore_n _ => px_q1 st (fun x s => px_s1 ls a (.inr (.inr x)) (fun l => K l s σ))
  | .iinc _ _ => px_i1 [v] (fun c _ => px_gi ls a (fun x => px_s1 ls a (.inl (x + c)) (fun l => K l st σ)))
  | .iadd => px_i2 st (fun y x s => K ls (.inl (x + y) :: s) σ)
  | .isub => px_i2 st (fun y x s => K ls (.inl (x - y) :: s) σ)
  | .imul => px_i2 st (fun y x s => K ls (.inl (x * y) :: s) σ)
  | .iand => px_i2 st (fun y x s => K ls (.inl (x &&& y) :: s) σ)
  | .ior => px_i2 st (fun y x s => K ls (.inl (x ||| y) :: s) σ)
  | .ixor => px_i2 st (fun y x s => K ls (.inl (x ^^^ y) :: s) σ)
  | .ishl => px_i2 st (fun y x s => K ls (.inl (x <<< (y &&& 31)) :: s) σ)
  | .ishr => px_i2 st (fun y x s => K ls (.inl (x >>> (y &&& 31)) :: s) σ)
  | .iushr => px_i2 st (fun y x s => K ls (.inl ((x.toUInt32 >>> (y.toUInt32 &&& Int32.toUInt32 31)).toInt32) :: s) σ)
  | .idiv => px_i2 st (fun y x s => ¬ y = nI 0 ∧ K ls (.inl (x / y) :: s) σ)
  | .irem => px_i2 st (fun y x s => ¬ y = nI 0 ∧ K ls (.inl (x - x / y * y) :: s) σ)
  | .ladd => px_l2 st (fun y x s => K ls (.inr (.inl (x + y)) :: s) σ)
  | .lsub => px_l2 st (fun y x s => K ls (.inr (.inl (x - y)) :: s) σ)
  | .lmul => px_l2 st (fun y x s => K ls (.inr (.inl (x * y)) :: s) σ)
  | .ldiv => px_l2 st (fun y x s => ¬ y = lN 0 ∧ K ls (.inr (.inl (x / y)) :: s) σ)
  | .lrem => px_l2 st (fun y x s => ¬ y = lN 0 ∧ K ls (.inr (.inl (x - x / y * y)) :: s) σ)
  | .tableswitch _ _ _ _ => px_i1 st (fun x s => px_sw x (pn_SW a).2 (fun t => J t ls s σ) (pn_SW a).1)
  | .lookupswitch _ _ => px_i1 st (fun x s => px_sw x (pn_SW a).2 (fun t => J t ls s σ) (pn_SW a).1)
  | .land => px_l2 st (fun y x s => K ls (.inr (.inl (x &&& y)) :: s) σ)
  | .lor => px_l2 st (fun y x s => K ls (.inr (.inl (x ||| y)) :: s) σ)
  | .lshl => px_il st (fun y x s => K ls (.inr (.inl (x <<< (y.toInt64 &&& 63))) :: s) σ)
  | .lshr => px_il st (fun y x s => K ls (.inr (.inl (x >>> (y.toInt64 &&& 63))) :: s) σ)
  | .lcmp => px_l2 st (fun y x s => K ls (.inl (lg_cmp x y) :: s) σ)
  | .i2l => px_i1 st (fun x s => K ls (.inr (.inl x.toInt64) :: s) σ)
  | .l2i => px_l1 st (fun x s => K ls (.inl x.toInt32 :: s) σ)
  | .i2b => px_i1 st (fun x s => K ls (.inl x.toInt8.toInt32 :: s) σ)
  | .i2s => px_i1 st (fun x s => K ls (.inl x.toInt16.toInt32 :: s) σ)
  | .i2c => px_i1 st (fun x s => K ls (.inl (x.toUInt32 % 65536).toInt32 :: s) σ)
  | .dup => px_d1 st (fun x s => K ls (x :: x :: s) σ)
  | .pop => px_d1 st (fun _ s => K ls s σ)
  | .dup2 => px_d2 st (fun s => K ls s σ)
  | .goto _ => J a ls st σ
  | .ifCond .eq _ => px_i1 st (fun x s => (x = nI 0 → J a ls s σ) ∧ (¬ x = nI 0 → K ls s σ))
  | .ifCond .ne _ => px_i1 st (fun x s => (¬ x = nI 0 → J a ls s σ) ∧ (x = nI 0 → K ls s σ))
  | .ifCond .lt _ => px_i1 st (fun x s => (x < nI 0 → J a ls s σ) ∧ (¬ x < nI 0 → K ls s σ))
  | .ifCond .ge _ => px_i1 st (fun x s => (nI 0 ≤ x → J a ls s σ) ∧ (¬ nI 0 ≤ x → K ls s σ))
  | .ifCond .gt _ => px_i1 st (fun x s => (nI 0 < x → J a ls s σ) ∧ (¬ nI 0 < x → K ls s σ))
  | .ifCond .le _ => px_i1 st (fun x s => (x ≤ nI 0 → J a ls s σ) ∧ (¬ x ≤ nI 0 → K ls s σ))
  | .if_icmp .eq _ => px_i2 st (fun y x s => (x = y → J a ls s σ) ∧ (¬ x = y → K ls s σ))
  | .if_icmp .ne _ => px_i2 st (fun y x s => (¬ x = y → J a ls s σ) ∧ (x = y → K ls s σ))
  | .if_icmp .lt _ => px_i2 st (fun y x s => (x < y → J a ls s σ) ∧ (¬ x < y → K ls s σ))
  | .if_icmp .ge _ => px_i2 st (fun y x s => (y ≤ x → J a ls s σ) ∧ (¬ y ≤ x → K ls s σ))
  | .if_icmp .gt _ => px_i2 st (fun y x s => (y < x → J a ls s σ) ∧ (¬ y < x → K ls s σ))
  | .if_icmp .le _ => px_i2 st (fun y x s => (x ≤ y → J a ls s σ) ∧ (¬ x ≤ y → K ls s σ))
  | .getfield _ => px_r1 st (fun r s => px_obj (px_lay tab r) a ∧ K ls (px_rf a d σ r b :: s) σ)
  | .putfield _ => px_d0 st (fun x st' => px_r1 st' (fun r s => px_obj (px_lay tab r) a ∧ px_pt d σ r b x (fun σ' => K ls s σ')))
  | .getstatic _ => if d = 1 then (∀ o : Option Nat, K ls (.inr (.inr o) :: st) σ) else K ls (v :: st) σ
  | .arraylength => px_r1 st (fun r s => px_arr (px_lay tab r) (fun t n => t < 12 ∧ K ls (.inl (nI n) :: s) σ))
  | .iaload => px_i1 st (fun x st' => px_r1 st' (fun r s => px_arr (px_lay tab r) (fun t n => (t = 0 ∨ t = 11) ∧ vp_in x n ∧ K ls (.inl (px_av t σ r x.toNatClampNeg) :: s) σ)))
  | .baload => px_i1 st (fun x st' => px_r1 st' (fun r s => px_arr (px_lay tab r) (fun t n => (t = 1 ∨ t = 2 ∨ t = 10) ∧ vp_in x n ∧ K ls (.inl (px_av t σ r x.toNatClampNeg) :: s) σ)))
  | .laload => px_i1 st (fun x st' => px_r1 st' (fun r s => px_arr (px_lay tab r) (fun t n => t = 3 ∧ vp_in x n ∧ K ls (.inr (.inl (σ.2.1 r x.toNatClampNeg)) :: s) σ)))
  | .iastore => px_i2 st (fun y x st' => px_r1 st' (fun r s => px_arr (px_lay tab r) (fun t n => t = 0 ∧ vp_in x n ∧ K ls s (px_wi σ r x.toNatClampNeg y))))
  | .bastore => px_i2 st (fun y x st' => px_r1 st' (fun r s => px_arr (px_lay tab r) (fun t n => ((t = 1 ∧ y.toInt8.toInt32 = y) ∨ (t = 2 ∧ (y = nI 0 ∨ y = nI 1))) ∧ vp_in x n ∧ K ls s (px_wi σ r x.toNatClampNeg y))))
  | .lastore => px_l1 st (fun y st1 => px_i1 st1 (fun x st' => px_r1 st' (fun r s => px_arr (px_lay tab r) (fun t n => t = 3 ∧ vp_in x n ∧ K ls s (px_wl σ r x.toNatClampNeg y)))))
  | .invokevirtual _ => px_pop b st [] (fun av s => ls.length = nL ∧ px_sz s ≤ 8 ∧ px_rv tab d av ∧ px_sp sp a av σ (fun r σ' => K ls (r.toList ++ s) σ'))
  | .invokestatic _ => if d = 0 then px_pop b st [] (fun av s => ls.length = nL ∧ px_sz s ≤ 8 ∧ px_sp sp a av σ (fun r σ' => K ls (r.toList ++ s) σ')) else px_ma d st (fun v s => ls.length = nL ∧ px_sz s ≤ 8 ∧ K ls (v :: s) σ)
  | .ireturn => px_i1 st (fun x s => s = [] ∧ px_rok rt x ∧ k (some (.inl x)) σ)
  | .lreturn => px_l1 st (fun x s => s = [] ∧ rt = some .long ∧ k (some (.inr (.inl x))) σ)
  | .areturn => px_q1 st (fun x s => s = [] ∧ px_rq rt ∧ k (some (.inr (.inr x))) σ)
  | .return_ => st = [] ∧ rt = none ∧ k none σ
  | _ => False
/-- a stretch of code -/
def px_vc (tab : px_T) (J : px_J) (sp : List (Nat × px_S)) (nL : Nat) (rt : Option FieldType) (k : Option px_V → px_M → Prop) (e : Nat) : List px_E → px_Ls → List px_V → px_M → Prop
  | [], ls, st, σ => J e ls st σ
  | (_, i, _, a, b, d, v) :: cs, ls, st, σ => px_ex tab J sp nL rt k i a b d v ls st σ (fun ls' st' σ' => px_vc tab J sp nL rt k e cs ls' st' σ')
