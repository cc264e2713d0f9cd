/-! whole runs: blocks one behind another, up to places that are cut -/
abbrev px_P : Type := px_Ls → List px_V → px_M → Prop
def px_jp (F : px_J) : List (Nat × px_P) → px_J
  | [], pc, ls, st, σ => F pc ls st σ
  | (n, P) :: l, pc, ls, st, σ => if n = pc then P ls st σ else px_jp F l pc ls st σ
def px_go (tab : px_T) (sp : List (Nat × px_S)) (nL : Nat) (rt : Option FieldType) (k : Option px_V → px_M → Prop) (bk : Nat → Nat × List px_E) (cuts : List (Nat × px_P)) : Nat → px_J
  | 0, _, _, _, _ => False
  | n + 1, pc, ls, st, σ => px_vc tab (px_jp (px_go tab sp nL rt k bk cuts n) cuts) sp nL rt k (bk pc).1 (bk pc).2 ls st σ
theorem px_jp_sound {C : px_C} {k : Option px_V → px_M → Prop} {F : px_J} : ∀ (cuts : List (Nat × px_P)), (∀ q ∈ cuts, ∀ ls st σ, q.2 ls st σ → px_W C k q.1 ls st σ) → (∀ pc ls st σ, F pc ls st σ → px_W C k pc ls st σ) → ∀ pc ls st σ, px_jp F cuts pc ls st σ → px_W C k pc ls st σ := by
  intro cuts
  induction cuts with
  | nil => intro _ hF pc ls st σ h; exact hF pc ls st σ h
  | cons q l ih =>
    intro hq hF pc ls st σ h
    obtain ⟨n, P⟩ := q
    by_cases hn : n = pc
    · subst hn
      exact hq (n, P) List.mem_cons_self ls st σ (by simpa [px_jp] using h)
    · exact ih (fun q hq' => hq q (List.mem_cons_of_mem _ hq')) hF pc ls st σ (by simpa [px_jp, hn] using h)
/-- bk gives the blocks of I: the end of a block, its code -/
def px_bk (I : pn_I) (bk : Nat → Nat × List px_E) : Prop := ∀ pc, (bk pc).2 = [] ∨ px_cks I (bk pc).1 pc (bk pc).2 = true
theorem px_run {C : px_C} {I : pn_I} {h : Nat} (h' : Nat) {k : Option px_V → px_M → Prop} {bk : Nat → Nat × List px_E} (hbk : ∀ pc, px_cks I (bk pc).1 pc (bk pc).2 = true) (sp : List (Nat × px_S)) (cuts : List (Nat × px_P)) (n : Nat) (hC : px_ok C I h) (hsp : ∀ q ∈ sp, px_Ok (px_tb C) (pn_i q.1) h' q.2) (hh : h' + 1 ≤ h) (hcut : ∀ q ∈ cuts, ∀ ls st σ, q.2 ls st σ → px_W C k q.1 ls st σ) : ∀ {pc : Nat} {ls : px_Ls} {st : List px_V} {σ : px_M}, px_go (px_tb C) sp I.2.2.2.1 I.2.2.2.2.1 k bk cuts n pc ls st σ → px_W C k pc ls st σ := by
  have key : ∀ (n pc : Nat) (ls : px_Ls) (st : List px_V) (σ : px_M), px_go (px_tb C) sp I.2.2.2.1 I.2.2.2.2.1 k bk cuts n pc ls st σ → px_W C k pc ls st σ := by
    intro n
    induction n with
    | zero => intro pc ls st σ hz; exact hz.elim
    | succ n ih =>
      intro pc ls st σ hz
      exact px_sound hC (px_jp_sound cuts hcut ih) hsp hh _ pc ls st σ (hbk pc) hz
  intro pc ls st σ hz
  exact key n pc ls st σ hz
/-- a method all of whose code is one walk -/
theorem px_meth {tab : px_T} {i : pn_I} {h : Nat} {S : px_S} (hnd : px_nd tab) (hy : (Jvm.plainName i.2.1.cls && decide (pn_own i.1 = i.2.1.cls)) = true) (ha : ∀ av σ k, S av σ k → (px_sl av).length ≤ i.2.2.2.1) (body : ∀ (C : px_C), px_tb C = tab → px_ok C i h → ∀ av σ k, S av σ k → px_W C k 0 (px_ini av i.2.2.2.1) [] σ) : px_Ok tab i h S := by
  simp only [Bool.and_eq_true, decide_eq_true_eq] at hy
  exact px_enter hnd hy.1 hy.2 ha body
/-- more room does no harm -/
theorem px_nosp {C : px_C} {h' : Nat} : ∀ q ∈ ([] : List (Nat × px_S)), px_Ok (px_tb C) (pn_i q.1) h' q.2 := fun _ hq => absurd hq List.not_mem_nil
theorem px_sp1 {tab : px_T} {h' n : Nat} {S : px_S} {l : List (Nat × px_S)} (h1 : px_Ok tab (pn_i n) h' S) (h2 : ∀ q ∈ l, px_Ok tab (pn_i q.1) h' q.2) : ∀ q ∈ (n, S) :: l, px_Ok tab (pn_i q.1) h' q.2 := by
  intro q hq
  rcases List.mem_cons.mp hq with rfl | hq
  · exact h1
  · exact h2 q hq
