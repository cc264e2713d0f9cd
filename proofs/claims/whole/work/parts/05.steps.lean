/-! one row an instruction, over the small machine -/
section
variable {C : px_C} {i : pn_I} {h : Nat} {k : Option px_V → px_M → Prop} {pc : Nat} {ls : px_Ls} {st : List px_V} {σ : px_M}
theorem px_r_iconst (hC : px_ok C i h) {n : Int} {v : Int32} (hd : decode i.2.2.1 pc = .ok (.iconst n, 1)) (hv : Int32.ofInt n = v) (hW : px_W C k (pc + 1) ls (.inl v :: st) σ) : px_W C k pc ls st σ := by
  obtain ⟨p, l, e, R, s, m, args, below, meth, c, D, cy, ad, tab, A⟩ := C
  obtain ⟨hx, hb, -⟩ := hC
  intro H locs la hl hP hS
  exact lv_iconst hx hb hd hv (hW H locs la hl hP hS)
theorem px_r_bipush (hC : px_ok C i h) {n : Int} {v : Int32} (hd : decode i.2.2.1 pc = .ok (.bipush n, 2)) (hv : (Int8.ofInt n).toInt32 = v) (hW : px_W C k (pc + 2) ls (.inl v :: st) σ) : px_W C k pc ls st σ := by
  obtain ⟨p, l, e, R, s, m, args, below, meth, c, D, cy, ad, tab, A⟩ := C
  obtain ⟨hx, hb, -⟩ := hC
  intro H locs la hl hP hS
  exact lv_bipush hx hb hd hv (hW H locs la hl hP hS)
theorem px_r_sipush (hC : px_ok C i h) {n : Int} {v : Int32} (hd : decode i.2.2.1 pc = .ok (.sipush n, 3)) (hv : (Int16.ofInt n).toInt32 = v) (hW : px_W C k (pc + 3) ls (.inl v :: st) σ) : px_W C k pc ls st σ := by
  obtain ⟨p, l, e, R, s, m, args, below, meth, c, D, cy, ad, tab, A⟩ := C
  obtain ⟨hx, hb, -⟩ := hC
  intro H locs la hl hP hS
  exact lv_sipush hx hb hd hv (hW H locs la hl hP hS)
theorem px_r_lconst (hC : px_ok C i h) {n : Fin 2} {v : Int64} (hd : decode i.2.2.1 pc = .ok (.lconst n, 1)) (hv : Int64.ofNat (n : Nat) = v) (hW : px_W C k (pc + 1) ls (.inr (.inl v) :: st) σ) : px_W C k pc ls st σ := by
  obtain ⟨p, l, e, R, s, m, args, below, meth, c, D, cy, ad, tab, A⟩ := C
  obtain ⟨hx, hb, -⟩ := hC
  intro H locs la hl hP hS
  exact lv_lconst hx hb hd hv (hW H locs la hl hP hS)
theorem px_r_ldc (hC : px_ok C i h) {n : Nat} {v : Int32} (hw : Cond.constant (pn_own i.1) n v ∈ px_ws) (hd : decode i.2.2.1 pc = .ok (.ldc n, 2)) (hW : px_W C k (pc + 2) ls (.inl v :: st) σ) : px_W C k pc ls st σ := by
  obtain ⟨p, l, e, R, s, m, args, below, meth, c, D, cy, ad, tab, A⟩ := C
  obtain ⟨hx, hb, -, -, -, ho, hts, -⟩ := hC
  intro H locs la hl hP hS
  exact lv_ldc hx hb ho (hts _ hw) hd (hW H locs la hl hP hS)
theorem px_r_ldcw (hC : px_ok C i h) {n : Nat} {v : Int32} (hw : Cond.constant (pn_own i.1) n v ∈ px_ws) (hd : decode i.2.2.1 pc = .ok (.ldc_w n, 3)) (hW : px_W C k (pc + 3) ls (.inl v :: st) σ) : px_W C k pc ls st σ := by
  obtain ⟨p, l, e, R, s, m, args, below, meth, c, D, cy, ad, tab, A⟩ := C
  obtain ⟨hx, hb, -, -, -, ho, hts, -⟩ := hC
  intro H locs la hl hP hS
  exact lv_ldcw hx hb ho (hts _ hw) hd (hW H locs la hl hP hS)
theorem px_r_ldc2 (hC : px_ok C i h) {n : Nat} {v : Int64} (hw : Cond.constantLong (pn_own i.1) n v ∈ px_ws) (hd : decode i.2.2.1 pc = .ok (.ldc2_w n, 3)) (hW : px_W C k (pc + 3) ls (.inr (.inl v) :: st) σ) : px_W C k pc ls st σ := by
  obtain ⟨p, l, e, R, s, m, args, below, meth, c, D, cy, ad, tab, A⟩ := C
  obtain ⟨hx, hb, -, -, -, ho, hts, -⟩ := hC
  intro H locs la hl hP hS
  exact lv_ldc2 hx hb ho (hts _ hw) hd (hW H locs la hl hP hS)
theorem px_r_iload (hC : px_ok C i h) {a len : Nat} {x : Int32} (ha : ls[a]? = some (some (.inl x))) (hd : (∃ n : Fin 4, (n : Nat) = a ∧ decode i.2.2.1 pc = .ok (.iload_n n, 1) ∧ len = 1) ∨ (decode i.2.2.1 pc = .ok (.iload a, 2) ∧ len = 2)) (hW : px_W C k (pc + len) ls (.inl x :: st) σ) : px_W C k pc ls st σ := by
  obtain ⟨p, l, e, R, s, m, args, below, meth, c, D, cy, ad, tab, A⟩ := C
  obtain ⟨hx, hb, -⟩ := hC
  intro H locs la hl hP hS
  rcases hd with ⟨n, hn, hd, rfl⟩ | ⟨hd, rfl⟩
  · exact lv_iload_n hx hb hd hn (px_L_at hl ha) (hW H locs la hl hP hS)
  · exact lv_iload hx hb hd (px_L_at hl ha) (hW H locs la hl hP hS)
theorem px_r_lload (hC : px_ok C i h) {a len : Nat} {x : Int64} (ha : ls[a]? = some (some (.inr (.inl x)))) (hd : (∃ n : Fin 4, (n : Nat) = a ∧ decode i.2.2.1 pc = .ok (.lload_n n, 1) ∧ len = 1) ∨ (decode i.2.2.1 pc = .ok (.lload a, 2) ∧ len = 2)) (hW : px_W C k (pc + len) ls (.inr (.inl x) :: st) σ) : px_W C k pc ls st σ := by
  obtain ⟨p, l, e, R, s, m, args, below, meth, c, D, cy, ad, tab, A⟩ := C
  obtain ⟨hx, hb, -⟩ := hC
  intro H locs la hl hP hS
  rcases hd with ⟨n, hn, hd, rfl⟩ | ⟨hd, rfl⟩
  · exact lv_lload_n hx hb hd hn (px_L_at hl ha) (hW H locs la hl hP hS)
  · exact lv_lload hx hb hd (px_L_at hl ha) (hW H locs la hl hP hS)
theorem px_r_aload (hC : px_ok C i h) {a len : Nat} {x : Option Nat} (ha : ls[a]? = some (some (.inr (.inr x)))) (hd : (∃ n : Fin 4, (n : Nat) = a ∧ decode i.2.2.1 pc = .ok (.aload_n n, 1) ∧ len = 1) ∨ (decode i.2.2.1 pc = .ok (.aload a, 2) ∧ len = 2)) (hW : px_W C k (pc + len) ls (.inr (.inr x) :: st) σ) : px_W C k pc ls st σ := by
  obtain ⟨p, l, e, R, s, m, args, below, meth, c, D, cy, ad, tab, A⟩ := C
  obtain ⟨hx, hb, -⟩ := hC
  intro H locs la hl hP hS
  cases x with
  | none =>
    rcases hd with ⟨n, hn, hd, rfl⟩ | ⟨hd, rfl⟩
    · exact lv_aload_nN hx hb hd hn (px_L_at hl ha) (hW H locs la hl hP hS)
    · exact lv_aloadN hx hb hd (px_L_at hl ha) (hW H locs la hl hP hS)
  | some x =>
    rcases hd with ⟨n, hn, hd, rfl⟩ | ⟨hd, rfl⟩
    · exact lv_aload_n hx hb hd hn (px_L_at hl ha) (hW H locs la hl hP hS)
    · exact lv_aload hx hb hd (px_L_at hl ha) (hW H locs la hl hP hS)
theorem px_r_istore (hC : px_ok C i h) {a len : Nat} {x : Int32} {ls' : px_Ls} (hn : ls'.length = ls.length) (hlt : a < ls.length) (hj : ∀ (j : Nat) (v : px_V), ls'[j]? = some (some v) → (j = a ∧ v = .inl x) ∨ (j ≠ a ∧ ls[j]? = some (some v) ∧ ¬ (j + 1 = a ∧ px_isl v))) (hd : (∃ n : Fin 4, (n : Nat) = a ∧ decode i.2.2.1 pc = .ok (.istore_n n, 1) ∧ len = 1) ∨ (decode i.2.2.1 pc = .ok (.istore a, 2) ∧ len = 2)) (hW : px_W C k (pc + len) ls' st σ) : px_W C k pc ls (.inl x :: st) σ := by
  obtain ⟨p, l, e, R, s, m, args, below, meth, c, D, cy, ad, tab, A⟩ := C
  obtain ⟨hx, hb, -⟩ := hC
  intro H locs la hl hP hS
  rcases hd with ⟨n, hn', hd, rfl⟩ | ⟨hd, rfl⟩
  · exact lv_istore_n hx hb hd hn' hl hlt rfl (fun la' h' => hW H locs la' (px_L_s1 (x := .inl x) hn h' hj) hP hS)
  · exact lv_istore hx hb hd hl hlt rfl (fun la' h' => hW H locs la' (px_L_s1 (x := .inl x) hn h' hj) hP hS)
theorem px_r_lstore (hC : px_ok C i h) {a len : Nat} {x : Int64} {ls' : px_Ls} (hn : ls'.length = ls.length) (hlt : a + 1 < ls.length) (hj : ∀ (j : Nat) (v : px_V), ls'[j]? = some (some v) → (j = a ∧ v = .inr (.inl x)) ∨ (j ≠ a ∧ j ≠ a + 1 ∧ ls[j]? = some (some v) ∧ ¬ (j + 1 = a ∧ px_isl v))) (hd : (∃ n : Fin 4, (n : Nat) = a ∧ decode i.2.2.1 pc = .ok (.lstore_n n, 1) ∧ len = 1) ∨ (decode i.2.2.1 pc = .ok (.lstore a, 2) ∧ len = 2)) (hW : px_W C k (pc + len) ls' st σ) : px_W C k pc ls (.inr (.inl x) :: st) σ := by
  obtain ⟨p, l, e, R, s, m, args, below, meth, c, D, cy, ad, tab, A⟩ := C
  obtain ⟨hx, hb, -⟩ := hC
  intro H locs la hl hP hS
  rcases hd with ⟨n, hn', hd, rfl⟩ | ⟨hd, rfl⟩
  · exact lv_lstore_n hx hb hd hn' hl hlt rfl (fun la' h' => hW H locs la' (px_L_s2 (x := .inr (.inl x)) hn h' hj) hP hS)
  · exact lv_lstore hx hb hd hl hlt rfl (fun la' h' => hW H locs la' (px_L_s2 (x := .inr (.inl x)) hn h' hj) hP hS)
theorem px_r_astore (hC : px_ok C i h) {a len : Nat} {x : Option Nat} {ls' : px_Ls} (hn : ls'.length = ls.length) (hlt : a < ls.length) (hj : ∀ (j : Nat) (v : px_V), ls'[j]? = some (some v) → (j = a ∧ v = .inr (.inr x)) ∨ (j ≠ a ∧ ls[j]? = some (some v) ∧ ¬ (j + 1 = a ∧ px_isl v))) (hd : (∃ n : Fin 4, (n : Nat) = a ∧ decode i.2.2.1 pc = .ok (.astore_n n, 1) ∧ len = 1) ∨ (decode i.2.2.1 pc = .ok (.astore a, 2) ∧ len = 2)) (hW : px_W C k (pc + len) ls' st σ) : px_W C k pc ls (.inr (.inr x) :: st) σ := by
  obtain ⟨p, l, e, R, s, m, args, below, meth, c, D, cy, ad, tab, A⟩ := C
  obtain ⟨hx, hb, -⟩ := hC
  intro H locs la hl hP hS
  cases x with
  | none =>
    rcases hd with ⟨n, hn', hd, rfl⟩ | ⟨hd, rfl⟩
    · exact lv_astore_nN hx hb hd hn' hl hlt rfl (fun la' h' => hW H locs la' (px_L_s1 (x := .inr (.inr none)) hn h' hj) hP hS)
    · exact lv_astoreN hx hb hd hl hlt rfl (fun la' h' => hW H locs la' (px_L_s1 (x := .inr (.inr none)) hn h' hj) hP hS)
  | some x =>
    rcases hd with ⟨n, hn', hd, rfl⟩ | ⟨hd, rfl⟩
    · exact lv_astore_n hx hb hd hn' hl hlt rfl (fun la' h' => hW H locs la' (px_L_s1 (x := .inr (.inr (some x))) hn h' hj) hP hS)
    · exact lv_astore hx hb hd hl hlt rfl (fun la' h' => hW H locs la' (px_L_s1 (x := .inr (.inr (some x))) hn h' hj) hP hS)
theorem px_r_iinc (hC : px_ok C i h) {a : Nat} {n : Int} {x y : Int32} {ls' : px_Ls} (ha : ls[a]? = some (some (.inl x))) (hy : Int32.ofInt n = y) (hn : ls'.length = ls.length) (hlt : a < ls.length) (hj : ∀ (j : Nat) (v : px_V), ls'[j]? = some (some v) → (j = a ∧ v = .inl (x + y)) ∨ (j ≠ a ∧ ls[j]? = some (some v) ∧ ¬ (j + 1 = a ∧ px_isl v))) (hd : decode i.2.2.1 pc = .ok (.iinc a n, 3)) (hW : px_W C k (pc + 3) ls' st σ) : px_W C k pc ls st σ := by
  obtain ⟨p, l, e, R, s, m, args, below, meth, c, D, cy, ad, tab, A⟩ := C
  obtain ⟨hx, hb, -⟩ := hC
  intro H locs la hl hP hS
  obtain ⟨q, hq⟩ := List.getElem?_of_mem ((px_kn_mem ls 0 a (px_v ad (.inl x))).mpr ⟨a, .inl x, ha, by omega, rfl⟩)
  exact lv_iinc hx hb hd hl (k := q) hq (by rw [hy]) hlt rfl (fun la' h' => hW H locs la' (px_L_s1 (x := .inl (x + y)) hn h' hj) hP hS)
theorem px_r_iadd (hC : px_ok C i h) {x y : Int32} (hd : decode i.2.2.1 pc = .ok (.iadd, 1)) (hW : px_W C k (pc + 1) ls (.inl (x + y) :: st) σ) : px_W C k pc ls (.inl y :: .inl x :: st) σ := by
  obtain ⟨p, l, e, R, s, m, args, below, meth, c, D, cy, ad, tab, A⟩ := C
  obtain ⟨hx, hb, -⟩ := hC
  intro H locs la hl hP hS
  exact lv_iadd hx hb hd (hW H locs la hl hP hS)
theorem px_r_isub (hC : px_ok C i h) {x y : Int32} (hd : decode i.2.2.1 pc = .ok (.isub, 1)) (hW : px_W C k (pc + 1) ls (.inl (x - y) :: st) σ) : px_W C k pc ls (.inl y :: .inl x :: st) σ := by
  obtain ⟨p, l, e, R, s, m, args, below, meth, c, D, cy, ad, tab, A⟩ := C
  obtain ⟨hx, hb, -⟩ := hC
  intro H locs la hl hP hS
  exact lv_isub hx hb hd (hW H locs la hl hP hS)
theorem px_r_imul (hC : px_ok C i h) {x y : Int32} (hd : decode i.2.2.1 pc = .ok (.imul, 1)) (hW : px_W C k (pc + 1) ls (.inl (x * y) :: st) σ) : px_W C k pc ls (.inl y :: .inl x :: st) σ := by
  obtain ⟨p, l, e, R, s, m, args, below, meth, c, D, cy, ad, tab, A⟩ := C
  obtain ⟨hx, hb, -⟩ := hC
  intro H locs la hl hP hS
  exact lv_imul hx hb hd (hW H locs la hl hP hS)
theorem px_r_iand (hC : px_ok C i h) {x y : Int32} (hd : decode i.2.2.1 pc = .ok (.iand, 1)) (hW : px_W C k (pc + 1) ls (.inl (x &&& y) :: st) σ) : px_W C k pc ls (.inl y :: .inl x :: st) σ := by
  obtain ⟨p, l, e, R, s, m, args, below, meth, c, D, cy, ad, tab, A⟩ := C
  obtain ⟨hx, hb, -⟩ := hC
  intro H locs la hl hP hS
  exact lv_iand hx hb hd (hW H locs la hl hP hS)
theorem px_r_ior (hC : px_ok C i h) {x y : Int32} (hd : decode i.2.2.1 pc = .ok (.ior, 1)) (hW : px_W C k (pc + 1) ls (.inl (x ||| y) :: st) σ) : px_W C k pc ls (.inl y :: .inl x :: st) σ := by
  obtain ⟨p, l, e, R, s, m, args, below, meth, c, D, cy, ad, tab, A⟩ := C
  obtain ⟨hx, hb, -⟩ := hC
  intro H locs la hl hP hS
  exact lv_ior hx hb hd (hW H locs la hl hP hS)
theorem px_r_ixor (hC : px_ok C i h) {x y : Int32} (hd : decode i.2.2.1 pc = .ok (.ixor, 1)) (hW : px_W C k (pc + 1) ls (.inl (x ^^^ y) :: st) σ) : px_W C k pc ls (.inl y :: .inl x :: st) σ := by
  obtain ⟨p, l, e, R, s, m, args, below, meth, c, D, cy, ad, tab, A⟩ := C
  obtain ⟨hx, hb, -⟩ := hC
  intro H locs la hl hP hS
  exact lv_ixor hx hb hd (hW H locs la hl hP hS)
theorem px_r_ishl (hC : px_ok C i h) {x y : Int32} (hd : decode i.2.2.1 pc = .ok (.ishl, 1)) (hW : px_W C k (pc + 1) ls (.inl (x <<< (y &&& 31)) :: st) σ) : px_W C k pc ls (.inl y :: .inl x :: st) σ := by
  obtain ⟨p, l, e, R, s, m, args, below, meth, c, D, cy, ad, tab, A⟩ := C
  obtain ⟨hx, hb, -⟩ := hC
  intro H locs la hl hP hS
  exact lv_ishl hx hb hd (hW H locs la hl hP hS)
theorem px_r_ishr (hC : px_ok C i h) {x y : Int32} (hd : decode i.2.2.1 pc = .ok (.ishr, 1)) (hW : px_W C k (pc + 1) ls (.inl (x >>> (y &&& 31)) :: st) σ) : px_W C k pc ls (.inl y :: .inl x :: st) σ := by
  obtain ⟨p, l, e, R, s, m, args, below, meth, c, D, cy, ad, tab, A⟩ := C
  obtain ⟨hx, hb, -⟩ := hC
  intro H locs la hl hP hS
  exact lv_ishr hx hb hd (hW H locs la hl hP hS)
theorem px_r_iushr (hC : px_ok C i h) {x y : Int32} (hd : decode i.2.2.1 pc = .ok (.iushr, 1)) (hW : px_W C k (pc + 1) ls (.inl ((x.toUInt32 >>> (y.toUInt32 &&& Int32.toUInt32 31)).toInt32) :: st) σ) : px_W C k pc ls (.inl y :: .inl x :: st) σ := by
  obtain ⟨p, l, e, R, s, m, args, below, meth, c, D, cy, ad, tab, A⟩ := C
  obtain ⟨hx, hb, -⟩ := hC
  intro H locs la hl hP hS
  exact lv_iushr hx hb hd rfl (hW H locs la hl hP hS)
theorem px_r_idiv (hC : px_ok C i h) {x y : Int32} (hne : ¬ y = 0) (hd : decode i.2.2.1 pc = .ok (.idiv, 1)) (hW : px_W C k (pc + 1) ls (.inl (x / y) :: st) σ) : px_W C k pc ls (.inl y :: .inl x :: st) σ := by
  obtain ⟨p, l, e, R, s, m, args, below, meth, c, D, cy, ad, tab, A⟩ := C
  obtain ⟨hx, hb, -⟩ := hC
  intro H locs la hl hP hS
  exact lv_idiv hx hb hd hne (hW H locs la hl hP hS)
theorem px_r_irem (hC : px_ok C i h) {x y : Int32} (hne : ¬ y = 0) (hd : decode i.2.2.1 pc = .ok (.irem, 1)) (hW : px_W C k (pc + 1) ls (.inl (x - x / y * y) :: st) σ) : px_W C k pc ls (.inl y :: .inl x :: st) σ := by
  obtain ⟨p, l, e, R, s, m, args, below, meth, c, D, cy, ad, tab, A⟩ := C
  obtain ⟨hx, hb, -⟩ := hC
  intro H locs la hl hP hS
  exact lv_irem hx hb hd hne (hW H locs la hl hP hS)
theorem px_r_ladd (hC : px_ok C i h) {x y : Int64} (hd : decode i.2.2.1 pc = .ok (.ladd, 1)) (hW : px_W C k (pc + 1) ls (.inr (.inl (x + y)) :: st) σ) : px_W C k pc ls (.inr (.inl y) :: .inr (.inl x) :: st) σ := by
  obtain ⟨p, l, e, R, s, m, args, below, meth, c, D, cy, ad, tab, A⟩ := C
  obtain ⟨hx, hb, -⟩ := hC
  intro H locs la hl hP hS
  exact lv_ladd hx hb hd (hW H locs la hl hP hS)
theorem px_r_lsub (hC : px_ok C i h) {x y : Int64} (hd : decode i.2.2.1 pc = .ok (.lsub, 1)) (hW : px_W C k (pc + 1) ls (.inr (.inl (x - y)) :: st) σ) : px_W C k pc ls (.inr (.inl y) :: .inr (.inl x) :: st) σ := by
  obtain ⟨p, l, e, R, s, m, args, below, meth, c, D, cy, ad, tab, A⟩ := C
  obtain ⟨hx, hb, -⟩ := hC
  intro H locs la hl hP hS
  exact lv_lsub hx hb hd (hW H locs la hl hP hS)
theorem px_r_lmul (hC : px_ok C i h) {x y : Int64} (hd : decode i.2.2.1 pc = .ok (.lmul, 1)) (hW : px_W C k (pc + 1) ls (.inr (.inl (x * y)) :: st) σ) : px_W C k pc ls (.inr (.inl y) :: .inr (.inl x) :: st) σ := by
  obtain ⟨p, l, e, R, s, m, args, below, meth, c, D, cy, ad, tab, A⟩ := C
  obtain ⟨hx, hb, -⟩ := hC
  intro H locs la hl hP hS
  exact lv_lmul hx hb hd (hW H locs la hl hP hS)
theorem px_r_land (hC : px_ok C i h) {x y : Int64} (hd : decode i.2.2.1 pc = .ok (.land, 1)) (hW : px_W C k (pc + 1) ls (.inr (.inl (x &&& y)) :: st) σ) : px_W C k pc ls (.inr (.inl y) :: .inr (.inl x) :: st) σ := by
  obtain ⟨p, l, e, R, s, m, args, below, meth, c, D, cy, ad, tab, A⟩ := C
  obtain ⟨hx, hb, -⟩ := hC
  intro H locs la hl hP hS
  exact lv_land hx hb hd (hW H locs la hl hP hS)
theorem px_r_lor (hC : px_ok C i h) {x y : Int64} (hd : decode i.2.2.1 pc = .ok (.lor, 1)) (hW : px_W C k (pc + 1) ls (.inr (.inl (x ||| y)) :: st) σ) : px_W C k pc ls (.inr (.inl y) :: .inr (.inl x) :: st) σ := by
  obtain ⟨p, l, e, R, s, m, args, below, meth, c, D, cy, ad, tab, A⟩ := C
  obtain ⟨hx, hb, -⟩ := hC
  intro H locs la hl hP hS
  exact lv_lor hx hb hd (hW H locs la hl hP hS)
theorem px_r_lshl (hC : px_ok C i h) {x : Int64} {y : Int32} (hd : decode i.2.2.1 pc = .ok (.lshl, 1)) (hW : px_W C k (pc + 1) ls (.inr (.inl (x <<< (y.toInt64 &&& 63))) :: st) σ) : px_W C k pc ls (.inl y :: .inr (.inl x) :: st) σ := by
  obtain ⟨p, l, e, R, s, m, args, below, meth, c, D, cy, ad, tab, A⟩ := C
  obtain ⟨hx, hb, -⟩ := hC
  intro H locs la hl hP hS
  exact lv_lshl hx hb hd rfl (hW H locs la hl hP hS)
theorem px_r_lshr (hC : px_ok C i h) {x : Int64} {y : Int32} (hd : decode i.2.2.1 pc = .ok (.lshr, 1)) (hW : px_W C k (pc + 1) ls (.inr (.inl (x >>> (y.toInt64 &&& 63))) :: st) σ) : px_W C k pc ls (.inl y :: .inr (.inl x) :: st) σ := by
  obtain ⟨p, l, e, R, s, m, args, below, meth, c, D, cy, ad, tab, A⟩ := C
  obtain ⟨hx, hb, -⟩ := hC
  intro H locs la hl hP hS
  exact lv_lshr hx hb hd rfl (hW H locs la hl hP hS)
theorem px_r_lcmp (hC : px_ok C i h) {x y : Int64} (hd : decode i.2.2.1 pc = .ok (.lcmp, 1)) (hW : px_W C k (pc + 1) ls (.inl (lg_cmp x y) :: st) σ) : px_W C k pc ls (.inr (.inl y) :: .inr (.inl x) :: st) σ := by
  obtain ⟨p, l, e, R, s, m, args, below, meth, c, D, cy, ad, tab, A⟩ := C
  obtain ⟨hx, hb, -⟩ := hC
  intro H locs la hl hP hS
  exact W.lcmp hx hb hd (hW H locs la hl hP hS)
theorem px_r_i2l (hC : px_ok C i h) {x : Int32} (hd : decode i.2.2.1 pc = .ok (.i2l, 1)) (hW : px_W C k (pc + 1) ls (.inr (.inl x.toInt64) :: st) σ) : px_W C k pc ls (.inl x :: st) σ := by
  obtain ⟨p, l, e, R, s, m, args, below, meth, c, D, cy, ad, tab, A⟩ := C
  obtain ⟨hx, hb, -⟩ := hC
  intro H locs la hl hP hS
  exact lv_i2l hx hb hd rfl (hW H locs la hl hP hS)
theorem px_r_l2i (hC : px_ok C i h) {x : Int64} (hd : decode i.2.2.1 pc = .ok (.l2i, 1)) (hW : px_W C k (pc + 1) ls (.inl x.toInt32 :: st) σ) : px_W C k pc ls (.inr (.inl x) :: st) σ := by
  obtain ⟨p, l, e, R, s, m, args, below, meth, c, D, cy, ad, tab, A⟩ := C
  obtain ⟨hx, hb, -⟩ := hC
  intro H locs la hl hP hS
  exact lv_l2i hx hb hd rfl (hW H locs la hl hP hS)
theorem px_r_i2b (hC : px_ok C i h) {x : Int32} (hd : decode i.2.2.1 pc = .ok (.i2b, 1)) (hW : px_W C k (pc + 1) ls (.inl x.toInt8.toInt32 :: st) σ) : px_W C k pc ls (.inl x :: st) σ := by
  obtain ⟨p, l, e, R, s, m, args, below, meth, c, D, cy, ad, tab, A⟩ := C
  obtain ⟨hx, hb, -⟩ := hC
  intro H locs la hl hP hS
  exact lv_i2b hx hb hd rfl (hW H locs la hl hP hS)
theorem px_r_i2s (hC : px_ok C i h) {x : Int32} (hd : decode i.2.2.1 pc = .ok (.i2s, 1)) (hW : px_W C k (pc + 1) ls (.inl x.toInt16.toInt32 :: st) σ) : px_W C k pc ls (.inl x :: st) σ := by
  obtain ⟨p, l, e, R, s, m, args, below, meth, c, D, cy, ad, tab, A⟩ := C
  obtain ⟨hx, hb, -⟩ := hC
  intro H locs la hl hP hS
  exact lv_i2s hx hb hd rfl (hW H locs la hl hP hS)
theorem px_r_i2c (hC : px_ok C i h) {x : Int32} (hd : decode i.2.2.1 pc = .ok (.i2c, 1)) (hW : px_W C k (pc + 1) ls (.inl (x.toUInt32 % 65536).toInt32 :: st) σ) : px_W C k pc ls (.inl x :: st) σ := by
  obtain ⟨p, l, e, R, s, m, args, below, meth, c, D, cy, ad, tab, A⟩ := C
  obtain ⟨hx, hb, -⟩ := hC
  intro H locs la hl hP hS
  exact lv_i2c hx hb hd rfl (hW H locs la hl hP hS)
theorem px_cat1 {ad : Nat → Nat} {v : px_V} (h : ¬ px_isl v) : (px_v ad v).category = 1 := by
  rcases v with x | x | x
  · rfl
  · exact absurd ⟨x, rfl⟩ h
  · cases x <;> rfl
theorem px_r_dup (hC : px_ok C i h) {x : px_V} (hc : ¬ px_isl x) (hd : decode i.2.2.1 pc = .ok (.dup, 1)) (hW : px_W C k (pc + 1) ls (x :: x :: st) σ) : px_W C k pc ls (x :: st) σ := by
  obtain ⟨p, l, e, R, s, m, args, below, meth, c, D, cy, ad, tab, A⟩ := C
  obtain ⟨hx, hb, -⟩ := hC
  intro H locs la hl hP hS
  exact lv_dup hx hb hd (px_cat1 hc) (hW H locs la hl hP hS)
theorem px_r_pop (hC : px_ok C i h) {x : px_V} (hc : ¬ px_isl x) (hd : decode i.2.2.1 pc = .ok (.pop, 1)) (hW : px_W C k (pc + 1) ls st σ) : px_W C k pc ls (x :: st) σ := by
  obtain ⟨p, l, e, R, s, m, args, below, meth, c, D, cy, ad, tab, A⟩ := C
  obtain ⟨hx, hb, -⟩ := hC
  intro H locs la hl hP hS
  exact lv_pop hx hb hd (px_cat1 hc) (hW H locs la hl hP hS)
theorem px_r_dup2a (hC : px_ok C i h) {x y : px_V} (hc : ¬ px_isl x) (hc2 : ¬ px_isl y) (hd : decode i.2.2.1 pc = .ok (.dup2, 1)) (hW : px_W C k (pc + 1) ls (x :: y :: x :: y :: st) σ) : px_W C k pc ls (x :: y :: st) σ := by
  obtain ⟨p, l, e, R, s, m, args, below, meth, c, D, cy, ad, tab, A⟩ := C
  obtain ⟨hx, hb, -⟩ := hC
  intro H locs la hl hP hS
  exact lv_dup2_11 hx hb hd (px_cat1 hc) (px_cat1 hc2) (hW H locs la hl hP hS)
theorem px_r_dup2b (hC : px_ok C i h) {x : Int64} (hd : decode i.2.2.1 pc = .ok (.dup2, 1)) (hW : px_W C k (pc + 1) ls (.inr (.inl x) :: .inr (.inl x) :: st) σ) : px_W C k pc ls (.inr (.inl x) :: st) σ := by
  obtain ⟨p, l, e, R, s, m, args, below, meth, c, D, cy, ad, tab, A⟩ := C
  obtain ⟨hx, hb, -⟩ := hC
  intro H locs la hl hP hS
  exact lv_dup2_2 (va := .long x) hx hb hd rfl (hW H locs la hl hP hS)
theorem px_r_goto (hC : px_ok C i h) {off : Int} {tgt : Nat} (hd : decode i.2.2.1 pc = .ok (.goto off, 3)) (ht : (pc : Int) + off = (tgt : Int)) (hW : px_W C k tgt ls st σ) : px_W C k pc ls st σ := by
  obtain ⟨p, l, e, R, s, m, args, below, meth, c, D, cy, ad, tab, A⟩ := C
  obtain ⟨hx, hb, -⟩ := hC
  intro H locs la hl hP hS
  exact lv_goto hx hb hd ht (hW H locs la hl hP hS)
theorem px_r_if_eq (hC : px_ok C i h) {x : Int32} {off : Int} {tgt : Nat} (hd : decode i.2.2.1 pc = .ok (.ifCond .eq off, 3)) (ht : (pc : Int) + off = (tgt : Int)) (hT : x = 0 → px_W C k tgt ls st σ) (hF : ¬ x = 0 → px_W C k (pc + 3) ls st σ) : px_W C k pc ls (.inl x :: st) σ := by
  obtain ⟨p, l, e, R, s, m, args, below, meth, c, D, cy, ad, tab, A⟩ := C
  obtain ⟨hx, hb, -⟩ := hC
  intro H locs la hl hP hS
  exact lv_if_eq hx hb hd ht (fun q => hT q H locs la hl hP hS) (fun q => hF q H locs la hl hP hS)
theorem px_r_if_ne (hC : px_ok C i h) {x : Int32} {off : Int} {tgt : Nat} (hd : decode i.2.2.1 pc = .ok (.ifCond .ne off, 3)) (ht : (pc : Int) + off = (tgt : Int)) (hT : ¬ x = 0 → px_W C k tgt ls st σ) (hF : x = 0 → px_W C k (pc + 3) ls st σ) : px_W C k pc ls (.inl x :: st) σ := by
  obtain ⟨p, l, e, R, s, m, args, below, meth, c, D, cy, ad, tab, A⟩ := C
  obtain ⟨hx, hb, -⟩ := hC
  intro H locs la hl hP hS
  exact lv_if_ne hx hb hd ht (fun q => hT q H locs la hl hP hS) (fun q => hF q H locs la hl hP hS)
theorem px_r_if_lt (hC : px_ok C i h) {x : Int32} {off : Int} {tgt : Nat} (hd : decode i.2.2.1 pc = .ok (.ifCond .lt off, 3)) (ht : (pc : Int) + off = (tgt : Int)) (hT : x < 0 → px_W C k tgt ls st σ) (hF : ¬ x < 0 → px_W C k (pc + 3) ls st σ) : px_W C k pc ls (.inl x :: st) σ := by
  obtain ⟨p, l, e, R, s, m, args, below, meth, c, D, cy, ad, tab, A⟩ := C
  obtain ⟨hx, hb, -⟩ := hC
  intro H locs la hl hP hS
  exact lv_if_lt hx hb hd ht (fun q => hT q H locs la hl hP hS) (fun q => hF q H locs la hl hP hS)
theorem px_r_if_ge (hC : px_ok C i h) {x : Int32} {off : Int} {tgt : Nat} (hd : decode i.2.2.1 pc = .ok (.ifCond .ge off, 3)) (ht : (pc : Int) + off = (tgt : Int)) (hT : 0 ≤ x → px_W C k tgt ls st σ) (hF : ¬ 0 ≤ x → px_W C k (pc + 3) ls st σ) : px_W C k pc ls (.inl x :: st) σ := by
  obtain ⟨p, l, e, R, s, m, args, below, meth, c, D, cy, ad, tab, A⟩ := C
  obtain ⟨hx, hb, -⟩ := hC
  intro H locs la hl hP hS
  exact lv_if_ge hx hb hd ht (fun q => hT q H locs la hl hP hS) (fun q => hF q H locs la hl hP hS)
theorem px_r_if_gt (hC : px_ok C i h) {x : Int32} {off : Int} {tgt : Nat} (hd : decode i.2.2.1 pc = .ok (.ifCond .gt off, 3)) (ht : (pc : Int) + off = (tgt : Int)) (hT : 0 < x → px_W C k tgt ls st σ) (hF : ¬ 0 < x → px_W C k (pc + 3) ls st σ) : px_W C k pc ls (.inl x :: st) σ := by
  obtain ⟨p, l, e, R, s, m, args, below, meth, c, D, cy, ad, tab, A⟩ := C
  obtain ⟨hx, hb, -⟩ := hC
  intro H locs la hl hP hS
  exact lv_if_gt hx hb hd ht (fun q => hT q H locs la hl hP hS) (fun q => hF q H locs la hl hP hS)
theorem px_r_if_le (hC : px_ok C i h) {x : Int32} {off : Int} {tgt : Nat} (hd : decode i.2.2.1 pc = .ok (.ifCond .le off, 3)) (ht : (pc : Int) + off = (tgt : Int)) (hT : x ≤ 0 → px_W C k tgt ls st σ) (hF : ¬ x ≤ 0 → px_W C k (pc + 3) ls st σ) : px_W C k pc ls (.inl x :: st) σ := by
  obtain ⟨p, l, e, R, s, m, args, below, meth, c, D, cy, ad, tab, A⟩ := C
  obtain ⟨hx, hb, -⟩ := hC
  intro H locs la hl hP hS
  exact lv_if_le hx hb hd ht (fun q => hT q H locs la hl hP hS) (fun q => hF q H locs la hl hP hS)
theorem px_r_icmp_eq (hC : px_ok C i h) {x y : Int32} {off : Int} {tgt : Nat} (hd : decode i.2.2.1 pc = .ok (.if_icmp .eq off, 3)) (ht : (pc : Int) + off = (tgt : Int)) (hT : x = y → px_W C k tgt ls st σ) (hF : ¬ x = y → px_W C k (pc + 3) ls st σ) : px_W C k pc ls (.inl y :: .inl x :: st) σ := by
  obtain ⟨p, l, e, R, s, m, args, below, meth, c, D, cy, ad, tab, A⟩ := C
  obtain ⟨hx, hb, -⟩ := hC
  intro H locs la hl hP hS
  exact lv_icmp_eq hx hb hd ht (fun q => hT q H locs la hl hP hS) (fun q => hF q H locs la hl hP hS)
theorem px_r_icmp_ne (hC : px_ok C i h) {x y : Int32} {off : Int} {tgt : Nat} (hd : decode i.2.2.1 pc = .ok (.if_icmp .ne off, 3)) (ht : (pc : Int) + off = (tgt : Int)) (hT : ¬ x = y → px_W C k tgt ls st σ) (hF : x = y → px_W C k (pc + 3) ls st σ) : px_W C k pc ls (.inl y :: .inl x :: st) σ := by
  obtain ⟨p, l, e, R, s, m, args, below, meth, c, D, cy, ad, tab, A⟩ := C
  obtain ⟨hx, hb, -⟩ := hC
  intro H locs la hl hP hS
  exact lv_icmp_ne hx hb hd ht (fun q => hT q H locs la hl hP hS) (fun q => hF q H locs la hl hP hS)
theorem px_r_icmp_lt (hC : px_ok C i h) {x y : Int32} {off : Int} {tgt : Nat} (hd : decode i.2.2.1 pc = .ok (.if_icmp .lt off, 3)) (ht : (pc : Int) + off = (tgt : Int)) (hT : x < y → px_W C k tgt ls st σ) (hF : ¬ x < y → px_W C k (pc + 3) ls st σ) : px_W C k pc ls (.inl y :: .inl x :: st) σ := by
  obtain ⟨p, l, e, R, s, m, args, below, meth, c, D, cy, ad, tab, A⟩ := C
  obtain ⟨hx, hb, -⟩ := hC
  intro H locs la hl hP hS
  exact lv_icmp_lt hx hb hd ht (fun q => hT q H locs la hl hP hS) (fun q => hF q H locs la hl hP hS)
theorem px_r_icmp_ge (hC : px_ok C i h) {x y : Int32} {off : Int} {tgt : Nat} (hd : decode i.2.2.1 pc = .ok (.if_icmp .ge off, 3)) (ht : (pc : Int) + off = (tgt : Int)) (hT : y ≤ x → px_W C k tgt ls st σ) (hF : ¬ y ≤ x → px_W C k (pc + 3) ls st σ) : px_W C k pc ls (.inl y :: .inl x :: st) σ := by
  obtain ⟨p, l, e, R, s, m, args, below, meth, c, D, cy, ad, tab, A⟩ := C
  obtain ⟨hx, hb, -⟩ := hC
  intro H locs la hl hP hS
  exact lv_icmp_ge hx hb hd ht (fun q => hT q H locs la hl hP hS) (fun q => hF q H locs la hl hP hS)
theorem px_r_icmp_gt (hC : px_ok C i h) {x y : Int32} {off : Int} {tgt : Nat} (hd : decode i.2.2.1 pc = .ok (.if_icmp .gt off, 3)) (ht : (pc : Int) + off = (tgt : Int)) (hT : y < x → px_W C k tgt ls st σ) (hF : ¬ y < x → px_W C k (pc + 3) ls st σ) : px_W C k pc ls (.inl y :: .inl x :: st) σ := by
  obtain ⟨p, l, e, R, s, m, args, below, meth, c, D, cy, ad, tab, A⟩ := C
  obtain ⟨hx, hb, -⟩ := hC
  intro H locs la hl hP hS
  exact lv_icmp_gt hx hb hd ht (fun q => hT q H locs la hl hP hS) (fun q => hF q H locs la hl hP hS)
theorem px_r_icmp_le (hC : px_ok C i h) {x y : Int32} {off : Int} {tgt : Nat} (hd : decode i.2.2.1 pc = .ok (.if_icmp .le off, 3)) (ht : (pc : Int) + off = (tgt : Int)) (hT : x ≤ y → px_W C k tgt ls st σ) (hF : ¬ x ≤ y → px_W C k (pc + 3) ls st σ) : px_W C k pc ls (.inl y :: .inl x :: st) σ := by
  obtain ⟨p, l, e, R, s, m, args, below, meth, c, D, cy, ad, tab, A⟩ := C
  obtain ⟨hx, hb, -⟩ := hC
  intro H locs la hl hP hS
  exact lv_icmp_le hx hb hd ht (fun q => hT q H locs la hl hP hS) (fun q => hF q H locs la hl hP hS)
end
