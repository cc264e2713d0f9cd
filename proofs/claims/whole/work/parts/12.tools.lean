/-! tools for walks over the small machine -/
theorem px_up_at {α : Type} (f : Nat → Nat → α) (a b : Nat) (v : α) (i j : Nat) : px_up f a b v i j = if i = a ∧ j = b then v else f i j := rfl
def px_fill : Nat → px_Ls → px_Ls
  | 0, _ => []
  | n + 1, [] => none :: px_fill n []
  | n + 1, x :: l => x :: px_fill n l
theorem px_fill_eq : ∀ (n : Nat) (l : px_Ls), l.length ≤ n → l ++ List.replicate (n - l.length) none = px_fill n l := by
  intro n
  induction n with
  | zero => intro l h; cases l with
    | nil => rfl
    | cons x l => simp at h
  | succ n ih =>
    intro l h
    cases l with
    | nil => simpa [px_fill, List.replicate_succ] using ih [] (by simp)
    | cons x l =>
      have := ih l (by simpa using h)
      simp [px_fill, ← this]
/-- a method, from its entry on -/
theorem px_mth {tab : px_T} {i : pn_I} {h : Nat} {S : px_S} (hnd : px_nd tab) (hy : (Jvm.plainName i.2.1.cls && decide (pn_own i.1 = i.2.1.cls)) = true) (ha : ∀ av σ k, S av σ k → (px_sl av).length ≤ i.2.2.2.1) (body : ∀ (C : px_C), px_tb C = tab → px_ok C i h → ∀ av σ k, S av σ k → px_W C k 0 (px_fill i.2.2.2.1 (px_sl av)) [] σ) : px_Ok tab i h S := by
  refine px_meth hnd hy ha (fun C hT hC av σ k hS => ?_)
  have := body C hT hC av σ k hS
  rw [px_ini, px_fill_eq _ _ (ha av σ k hS)]
  exact this
theorem px_nocut {C : px_C} {k : Option px_V → px_M → Prop} : ∀ q ∈ ([] : List (Nat × px_P)), ∀ ls st σ, q.2 ls st σ → px_W C k q.1 ls st σ := fun _ hq => absurd hq List.not_mem_nil
theorem px_cut1 {C : px_C} {k : Option px_V → px_M → Prop} {n : Nat} {P : px_P} {l : List (Nat × px_P)} (h1 : ∀ ls st σ, P ls st σ → px_W C k n ls st σ) (h2 : ∀ q ∈ l, ∀ ls st σ, q.2 ls st σ → px_W C k q.1 ls st σ) : ∀ q ∈ (n, P) :: l, ∀ ls st σ, q.2 ls st σ → px_W C k q.1 ls st σ := by
  intro q hq
  rcases List.mem_cons.mp hq with rfl | hq
  · exact h1
  · exact h2 q hq
/-- more height does no harm -/
theorem px_room_up {tab : px_T} {i : pn_I} {S : px_S} (H : ∀ h, px_Ok tab i (h + 1) S) {h : Nat} (hh : 1 ≤ h) : px_Ok tab i h S := by
  obtain ⟨n, rfl⟩ : ∃ n, h = n + 1 := ⟨h - 1, by omega⟩
  exact H n
def mb (b : Bool) : Int32 := if b then 1 else 0
theorem mb_01 (b : Bool) : mb b = 0 ∨ mb b = 1 := by cases b <;> simp [mb]
theorem mb_t : mb true = 1 := rfl
theorem mb_f : mb false = 0 := rfl
/-- small numbers -/
theorem ni_31 : ∀ j, j < 32 → ((nI j &&& 31).toBitVec.smod 32).toNat = j := s_l
theorem ni_shr {s j : Nat} (hs : s < 2 ^ 31) (hj : j < 32) : nI s >>> (nI j &&& 31) = nI (s / 2 ^ j) := pk_shrN hs _ j (s_l j hj)
theorem ni_and1 (n : Nat) : nI n &&& 1 = nI (n % 2) := fa_mask n 1
theorem ni_shl {s j : Nat} (hj : j < 32) (h : s * 2 ^ j < 2 ^ 32) : nI s <<< (nI j &&& 31) = nI (s * 2 ^ j) := pk_shlN _ j (s_l j hj) h
theorem ni_1shl {j : Nat} (hj : j < 31) : (1 : Int32) <<< (nI j &&& 31) = nI (2 ^ j) := by
  have h1 : 2 ^ j < 2 ^ 31 := Nat.pow_lt_pow_right (by omega) hj
  have := ni_shl (s := 1) (j := j) (by omega) (by omega)
  rw [Nat.one_mul] at this
  exact this
theorem ni_div2 (s j : Nat) : s / 2 ^ j % 2 = (s.testBit j).toNat := by rw [Nat.testBit_eq_decide_div_mod_eq]; rcases Nat.mod_two_eq_zero_or_one (s / 2 ^ j) with h | h <;> simp [h]
theorem ni_bit {s j : Nat} (hs : s < 2 ^ 31) (hj : j < 32) : (nI s >>> (nI j &&& 31)) &&& 1 = nI ((s.testBit j).toNat) := by rw [ni_shr hs hj, ni_and1, ni_div2]
theorem ln_bit {s j : Nat} (hs : s < 2 ^ 31) (hj : j < 32) : (lN s >>> ((nI j).toInt64 &&& 63)) &&& 1 = lN ((s.testBit j).toNat) := by
  have h1 : ((nI j).toInt64 &&& 63) = lN j := wb_c j (by omega)
  have h2 : ((lN j).toBitVec.smod 64).toNat = j := by
    have : (lN j).toBitVec = BitVec.ofNat 64 j := wb_tb j
    rw [this, wb_sm j (by omega)]
    simp; omega
  rw [h1, pf_shr h2 (by omega), wb_a1 (by have := Nat.div_le_self s (2 ^ j); omega), ni_div2]
theorem lc_lt (x y : Int64) : (lg_cmp x y < nI 0) ↔ x < y := lg_cmp_lt x y
theorem lc_le (x y : Int64) : (lg_cmp x y ≤ nI 0) ↔ x ≤ y := lg_cmp_le x y
theorem lc_gt (x y : Int64) : (nI 0 < lg_cmp x y) ↔ y < x := lg_cmp_gt x y
theorem lc_ge (x y : Int64) : (nI 0 ≤ lg_cmp x y) ↔ y ≤ x := lg_cmp_ge x y
theorem lc_eq (x y : Int64) : (lg_cmp x y = nI 0) ↔ x = y := lg_cmp_eq x y
theorem vp_in_eq {a N : Nat} (h : a < 2 ^ 31) : vp_in (nI a) N ↔ a < N := by
  rw [vp_in_iff, nI_toInt h]; omega
theorem ni_1s {j : Nat} (hj : j < 31) : nI 1 <<< (nI j &&& 31) = nI (2 ^ j) := ni_1shl hj
theorem mb_eq0 (b : Bool) : (mb b = nI 0) ↔ b = false := by cases b <;> simp [mb, nI]
theorem mb_ne0 (b : Bool) : (¬ mb b = nI 0) ↔ b = true := by cases b <;> simp [mb, nI]
theorem mb_eq1 (b : Bool) : (mb b = nI 1) ↔ b = true := by cases b <;> simp [mb, nI]
/-- a loop at a place, by a count that goes up -/
theorem px_loop {C : px_C} {k : Option px_V → px_M → Prop} {pc : Nat} (I : Nat → px_Ls → px_M → Prop) (n : Nat) (body : ∀ j ls σ, j ≤ n → I j ls σ → (∀ ls' σ', j < n → I (j + 1) ls' σ' → px_W C k pc ls' [] σ') → px_W C k pc ls [] σ) : ∀ j ls σ, j ≤ n → I j ls σ → px_W C k pc ls [] σ := by
  have key : ∀ m j ls σ, j + m = n → I j ls σ → px_W C k pc ls [] σ := by
    intro m
    induction m with
    | zero => intro j ls σ hj hI; exact body j ls σ (by omega) hI (fun ls' σ' hlt _ => absurd hlt (by omega))
    | succ m ih => intro j ls σ hj hI; exact body j ls σ (by omega) hI (fun ls' σ' _ hI' => ih (j + 1) ls' σ' (by omega) hI')
  intro j ls σ hj hI
  exact key (n - j) j ls σ (by omega) hI
/-- a loop at a place, by a measure that falls -/
theorem px_loopm {α : Type} {C : px_C} {k : Option px_V → px_M → Prop} {pc : Nat} (I : α → px_Ls → px_M → Prop) (μ : α → Nat) (body : ∀ a ls σ, I a ls σ → (∀ b ls' σ', μ b < μ a → I b ls' σ' → px_W C k pc ls' [] σ') → px_W C k pc ls [] σ) : ∀ a ls σ, I a ls σ → px_W C k pc ls [] σ := by
  have key : ∀ m a ls σ, μ a < m → I a ls σ → px_W C k pc ls [] σ := by
    intro m
    induction m with
    | zero => intro a ls σ h; omega
    | succ m ih => intro a ls σ h hI; exact body a ls σ hI (fun b ls' σ' hlt hI' => ih b ls' σ' (by omega) hI')
  intro a ls σ hI
  exact key (μ a + 1) a ls σ (by omega) hI
def px_li (I : Nat → px_Ls → px_M → Prop) (j n : Nat) : px_P := fun ls st τ => st = [] ∧ j < n ∧ I (j + 1) ls τ
def px_l0 (I : Nat → px_Ls → px_M → Prop) : px_P := fun ls st τ => st = [] ∧ I 0 ls τ
def px_lw (I : px_Ls → px_M → Prop) : px_P := fun ls st τ => st = [] ∧ I ls τ
theorem px_li_ok {C : px_C} {k : Option px_V → px_M → Prop} {pc : Nat} {I : Nat → px_Ls → px_M → Prop} {j n : Nat} (hn : ∀ ls' σ', j < n → I (j + 1) ls' σ' → px_W C k pc ls' [] σ') : ∀ ls st σ, px_li I j n ls st σ → px_W C k pc ls st σ := by
  intro ls st σ hz
  obtain ⟨rfl, h1, h2⟩ := hz
  exact hn ls σ h1 h2
theorem px_l0_ok {C : px_C} {k : Option px_V → px_M → Prop} {pc n : Nat} {I : Nat → px_Ls → px_M → Prop} (lp : ∀ j ls σ, j ≤ n → I j ls σ → px_W C k pc ls [] σ) : ∀ ls st σ, px_l0 I ls st σ → px_W C k pc ls st σ := by
  intro ls st σ hz
  obtain ⟨rfl, h1⟩ := hz
  exact lp 0 ls σ (Nat.zero_le _) h1
theorem px_lw_ok {C : px_C} {k : Option px_V → px_M → Prop} {pc : Nat} {I : px_Ls → px_M → Prop} (lp : ∀ ls σ, I ls σ → px_W C k pc ls [] σ) : ∀ ls st σ, px_lw I ls st σ → px_W C k pc ls st σ := by
  intro ls st σ hz
  obtain ⟨rfl, h1⟩ := hz
  exact lp ls σ h1
def px_lc (c : Prop) (I : px_Ls → px_M → Prop) : px_P := fun ls st τ => st = [] ∧ c ∧ I ls τ
theorem px_lc_ok {C : px_C} {k : Option px_V → px_M → Prop} {pc : Nat} {c : Prop} {I : px_Ls → px_M → Prop} (lp : c → ∀ ls σ, I ls σ → px_W C k pc ls [] σ) : ∀ ls st σ, px_lc c I ls st σ → px_W C k pc ls st σ := by
  intro ls st σ hz
  obtain ⟨rfl, h1, h2⟩ := hz
  exact lp h1 ls σ h2
theorem ln_01 : ¬ lN 0 = lN 1 := by decide
theorem ni_bit1 {s j : Nat} (hs : s < 2 ^ 31) (hj : j < 32) : (nI s >>> (nI j &&& 31)) &&& nI 1 = nI ((s.testBit j).toNat) := ni_bit hs hj
theorem mb_bit {s j : Nat} (hs : s < 2 ^ 31) (hj : j < 32) : decide ((lN s >>> (lN j &&& 63)) &&& lN 1 = lN 1) = s.testBit j := by
  have := ln_bit hs hj
  rw [nI_l (by omega)] at this
  rw [show (lN s >>> (lN j &&& 63)) &&& lN 1 = lN ((s.testBit j).toNat) from this]
  cases s.testBit j
  · exact decide_eq_false ln_01
  · exact decide_eq_true rfl
theorem mb_house {v : Int64} {n : Nat} (hn : n ≤ 11) : (decide (lN 0 ≤ v) && decide (v ≤ (nI n - nI 1).toInt64)) = decide (0 ≤ v.toInt ∧ v.toInt < n) := by
  have e1 : decide (lN 0 ≤ v) = decide (0 ≤ v.toInt) := decide_eq_decide.mpr (fa_le64 _ _)
  have e2 : decide (v ≤ (nI n - nI 1).toInt64) = decide (v.toInt < n) := by
    have : (nI n - nI 1).toInt64.toInt = (n : Int) - 1 := by
      have := pk_sub_toInt (a := n) (b := 1) (by omega) (by omega)
      rw [Int32.toInt_toInt64, this]; rfl
    refine decide_eq_decide.mpr ?_
    rw [fa_le64, this]
    omega
  rw [e1, e2, Bool.decide_and]
theorem px_up_row {α : Type} {f : Nat → Nat → α} {a b c : Nat} {v : α} (h : c ≠ a) : px_up f a b v c = f c := by
  funext j
  exact px_up_n (fun q => h q.1)
theorem ni_divL {a d : Nat} (ha : a < 2 ^ 31) (h0 : 0 < d) (hd : d < 2 ^ 31) : nI a / nI d = nI (a / d) := pk_div ha h0 hd
theorem ni_subL {a b : Nat} (h : b ≤ a) : nI a - nI b = nI (a - b) := pk_sub h
/-- the bits of a set below j -/
def bc : Nat → Nat → Nat
  | 0, _ => 0
  | j + 1, s => bc j s + (s.testBit j).toNat
theorem bc_le : ∀ (j s : Nat), bc j s ≤ j := by
  intro j s
  induction j with
  | zero => exact Nat.le_refl _
  | succ j ih =>
    have : (s.testBit j).toNat ≤ 1 := Bool.toNat_le _
    simp only [bc]; omega
def bcI : Nat → Int32 → Int32
  | 0, _ => nI 0
  | j + 1, x => bcI j x + (x >>> (nI j &&& 31) &&& nI 1)
theorem bcI_eq {s : Nat} (hs : s < 2 ^ 31) : ∀ {j : Nat}, j < 32 → bcI j (nI s) = nI (bc j s) := by
  intro j
  induction j with
  | zero => intro _; rfl
  | succ j ih => intro hj; rw [bcI, ih (by omega), ni_bit1 hs (by omega), nI_add]; rfl
/-- sums -/
def sm (f : Nat → Nat) : Nat → Nat
  | 0 => 0
  | n + 1 => sm f n + f n
theorem sm_le {f : Nat → Nat} {c : Nat} (h : ∀ j, f j ≤ c) : ∀ n, sm f n ≤ c * n := by
  intro n
  induction n with
  | zero => exact Nat.le_refl _
  | succ n ih => have := h n; simp only [sm, Nat.mul_succ]; omega
theorem sm_congr {f g : Nat → Nat} : ∀ {n : Nat}, (∀ j, j < n → f j = g j) → sm f n = sm g n := by
  intro n
  induction n with
  | zero => intro _; rfl
  | succ n ih => intro h; simp only [sm]; rw [ih (fun j hj => h j (by omega)), h n (by omega)]
theorem and_lt {a b : Nat} (h : a < 2048) : a &&& b < 2048 := Nat.lt_of_le_of_lt Nat.and_le_left h
theorem or_lt {a b : Nat} (h : a < 2048) (h2 : b < 2048) : a ||| b < 2048 := Nat.or_lt_two_pow (n := 11) h h2
theorem pw_lt {j : Nat} (h : j < 11) : 2 ^ j < 2048 := Nat.pow_lt_pow_right (by omega) (show j < 11 from h)
/-- a walk, with what is not yet walked hidden behind names -/
theorem px_runG {C : px_C} {I : pn_I} {h : Nat} (h' : Nat) {k : Option px_V → px_M → Prop} {bk : Nat → Nat × List px_E} (hbk : ∀ pc, px_cks I (bk pc).1 pc (bk pc).2 = true) (sp : List (Nat × px_S)) (cuts : List (Nat × px_P)) (n : Nat) (hC : px_ok C I h) (hsp : ∀ q ∈ sp, px_Ok (px_tb C) (pn_i q.1) h' q.2) (hh : h' + 1 ≤ h) (hcut : ∀ q ∈ cuts, ∀ ls st σ, q.2 ls st σ → px_W C k q.1 ls st σ) {pc : Nat} {ls : px_Ls} {st : List px_V} {σ : px_M} (go : ∀ (G Jf : Nat → px_J), (∀ n pc ls st σ, G (n + 1) pc ls st σ = px_vc (px_tb C) (Jf n) sp I.2.2.2.1 I.2.2.2.2.1 k (bk pc).1 (bk pc).2 ls st σ) → (∀ n pc ls st σ, Jf n pc ls st σ = px_jp (G n) cuts pc ls st σ) → G n pc ls st σ) : px_W C k pc ls st σ :=
  px_run h' hbk sp cuts n hC hsp hh hcut (go (px_go (px_tb C) sp I.2.2.2.1 I.2.2.2.2.1 k bk cuts) (fun n => px_jp (px_go (px_tb C) sp I.2.2.2.1 I.2.2.2.2.1 k bk cuts n) cuts) (fun _ _ _ _ _ => rfl) (fun _ _ _ _ _ => rfl))
