/-! the locals -/
theorem px_kn_mem {ad : Nat → Nat} : ∀ (ls : px_Ls) (i j : Nat) (w : Value), (j, w) ∈ px_kn ad i ls ↔ ∃ (t : Nat) (v : px_V), ls[t]? = some (some v) ∧ j = i + t ∧ w = px_v ad v := by
  intro ls
  induction ls with
  | nil => intro i j w; simp [px_kn]
  | cons x l ih =>
    intro i j w
    have hs : ∀ {P : Prop}, (∃ (t : Nat) (v : px_V), (x :: l)[t]? = some (some v) ∧ j = i + t ∧ w = px_v ad v) ↔ ((∃ v, x = some v ∧ j = i ∧ w = px_v ad v) ∨ ∃ (t : Nat) (v : px_V), l[t]? = some (some v) ∧ j = i + 1 + t ∧ w = px_v ad v) := by
      intro P
      constructor
      · rintro ⟨t, v, h1, h2, h3⟩
        cases t with
        | zero => exact Or.inl ⟨v, by simpa using h1, by omega, h3⟩
        | succ t => exact Or.inr ⟨t, v, by simpa using h1, by omega, h3⟩
      · rintro (⟨v, h1, h2, h3⟩ | ⟨t, v, h1, h2, h3⟩)
        · exact ⟨0, v, by simp [h1], by omega, h3⟩
        · exact ⟨t + 1, v, by simpa using h1, by omega, h3⟩
    rw [hs (P := True)]
    cases x with
    | none => simp only [px_kn]; rw [ih]; simp
    | some v =>
      simp only [px_kn, List.mem_cons, Prod.mk.injEq]
      rw [ih]
      constructor
      · rintro (⟨h1, h2⟩ | h)
        · exact Or.inl ⟨v, rfl, h1, h2⟩
        · exact Or.inr h
      · rintro (⟨v', h0, h1, h2⟩ | h)
        · cases h0; exact Or.inl ⟨h1, h2⟩
        · exact Or.inr h
theorem px_L_at {ad : Nat → Nat} {la : Array Slot} {ls : px_Ls} (h : px_L ad la ls) {i : Nat} {v : px_V} (hi : ls[i]? = some (some v)) : la[i]? = some (.val (px_v ad v)) := h.2.2 (i, px_v ad v) ((px_kn_mem ls 0 i _).mpr ⟨i, v, hi, by omega, rfl⟩)
theorem px_L_of {ad : Nat → Nat} {la : Array Slot} {ls : px_Ls} (h1 : la.size = ls.length) (h2 : lv_wf la) (h3 : ∀ (i : Nat) (v : px_V), ls[i]? = some (some v) → la[i]? = some (.val (px_v ad v))) : px_L ad la ls := by
  refine ⟨h1, h2, fun q hq => ?_⟩
  obtain ⟨j, w⟩ := q
  obtain ⟨t, v, a, b, c⟩ := (px_kn_mem ls 0 j w).mp hq
  have : j = t := by omega
  subst this; subst c
  exact h3 j v a
theorem px_gi_spec : ∀ {ls : px_Ls} {n : Nat} {f : Int32 → Prop}, px_gi ls n f → ∃ x, ls[n]? = some (some (.inl x)) ∧ f x := by
  intro ls
  induction ls with
  | nil => intro n f h; simp [px_gi] at h
  | cons y l ih =>
    intro n f h
    cases n with
    | zero =>
      rcases y with _ | (x | x | x) <;> simp [px_gi] at h
      exact ⟨x, rfl, h⟩
    | succ n =>
      have h' : px_gi l n f := by rcases y with _ | (x | x | x) <;> simpa [px_gi] using h
      obtain ⟨x, a, b⟩ := ih h'
      exact ⟨x, by simpa using a, b⟩
theorem px_gl_spec : ∀ {ls : px_Ls} {n : Nat} {f : Int64 → Prop}, px_gl ls n f → ∃ x, ls[n]? = some (some (.inr (.inl x))) ∧ f x := by
  intro ls
  induction ls with
  | nil => intro n f h; simp [px_gl] at h
  | cons y l ih =>
    intro n f h
    cases n with
    | zero =>
      rcases y with _ | (x | x | x) <;> simp [px_gl] at h
      exact ⟨x, rfl, h⟩
    | succ n =>
      have h' : px_gl l n f := by rcases y with _ | (x | x | x) <;> simpa [px_gl] using h
      obtain ⟨x, a, b⟩ := ih h'
      exact ⟨x, by simpa using a, b⟩
theorem px_gr_spec : ∀ {ls : px_Ls} {n : Nat} {f : Option Nat → Prop}, px_gr ls n f → ∃ x, ls[n]? = some (some (.inr (.inr x))) ∧ f x := by
  intro ls
  induction ls with
  | nil => intro n f h; simp [px_gr] at h
  | cons y l ih =>
    intro n f h
    cases n with
    | zero =>
      rcases y with _ | (x | x | x) <;> simp [px_gr] at h
      exact ⟨x, rfl, h⟩
    | succ n =>
      have h' : px_gr l n f := by rcases y with _ | (x | x | x) <;> simpa [px_gr] using h
      obtain ⟨x, a, b⟩ := ih h'
      exact ⟨x, by simpa using a, b⟩
def px_isl (v : px_V) : Prop := ∃ z, v = .inr (.inl z)
theorem px_nl_spec {y : Option px_V} {v : px_V} (h : px_nl y = some v) : y = some v ∧ ¬ px_isl v := by
  rcases y with _ | (x | x | x) <;> simp [px_nl] at h <;> subst h <;> refine ⟨rfl, ?_⟩ <;> rintro ⟨z, hz⟩ <;> cases hz
theorem px_s1_spec : ∀ {ls : px_Ls} {a : Nat} {x : px_V} {f : px_Ls → Prop}, px_s1 ls a x f → ∃ ls' : px_Ls, f ls' ∧ ls'.length = ls.length ∧ a < ls.length ∧ ∀ (j : Nat) (v : px_V), ls'[j]? = some (some v) → (j = a ∧ v = x) ∨ (j ≠ a ∧ ls[j]? = some (some v) ∧ ¬ (j + 1 = a ∧ px_isl v)) := by
  intro ls
  induction ls with
  | nil => intro a x f h; rcases a with _ | _ | a <;> simp [px_s1] at h
  | cons y l ih =>
    intro a x f h
    rcases a with _ | _ | a
    · refine ⟨some x :: l, by simpa [px_s1] using h, by simp, by simp, fun j v hj => ?_⟩
      cases j with
      | zero => left; simp at hj; exact ⟨rfl, hj.symm⟩
      | succ j => right; exact ⟨by omega, by simpa using hj, by omega⟩
    · cases l with
      | nil => simp [px_s1] at h
      | cons z l =>
        refine ⟨px_nl y :: some x :: l, by simpa [px_s1] using h, by simp, by simp, fun j v hj => ?_⟩
        rcases j with _ | _ | j
        · right
          have hj' : px_nl y = some v := by simpa using hj
          obtain ⟨h1, h2⟩ := px_nl_spec hj'
          exact ⟨by omega, by simp [h1], fun q => h2 q.2⟩
        · left; simp at hj; exact ⟨rfl, hj.symm⟩
        · right; exact ⟨by omega, by simpa using hj, by omega⟩
    · have h' : px_s1 l (a + 1) x (fun l' => f (y :: l')) := by
        cases l <;> simpa [px_s1] using h
      obtain ⟨ls', h1, h2, h3, h4⟩ := ih h'
      refine ⟨y :: ls', h1, by simp [h2], by simpa using h3, fun j v hj => ?_⟩
      cases j with
      | zero => right; exact ⟨by omega, by simpa using hj, by omega⟩
      | succ j =>
        rcases h4 j v (by simpa using hj) with ⟨q1, q2⟩ | ⟨q1, q2, q3⟩
        · exact Or.inl ⟨by omega, q2⟩
        · exact Or.inr ⟨by omega, by simpa using q2, fun q => q3 ⟨by omega, q.2⟩⟩
theorem px_s2_spec : ∀ {ls : px_Ls} {a : Nat} {x : px_V} {f : px_Ls → Prop}, px_s2 ls a x f → ∃ ls' : px_Ls, f ls' ∧ ls'.length = ls.length ∧ a + 1 < ls.length ∧ ∀ (j : Nat) (v : px_V), ls'[j]? = some (some v) → (j = a ∧ v = x) ∨ (j ≠ a ∧ j ≠ a + 1 ∧ ls[j]? = some (some v) ∧ ¬ (j + 1 = a ∧ px_isl v)) := by
  intro ls
  induction ls with
  | nil => intro a x f h; rcases a with _ | _ | a <;> simp [px_s2] at h
  | cons y l ih =>
    intro a x f h
    rcases a with _ | _ | a
    · cases l with
      | nil => simp [px_s2] at h
      | cons z l =>
        refine ⟨some x :: none :: l, by simpa [px_s2] using h, by simp, by simp, fun j v hj => ?_⟩
        rcases j with _ | _ | j
        · left; simp at hj; exact ⟨rfl, hj.symm⟩
        · simp at hj
        · right; exact ⟨by omega, by omega, by simpa using hj, by omega⟩
    · rcases l with _ | ⟨z, _ | ⟨z2, l⟩⟩
      · simp [px_s2] at h
      · simp [px_s2] at h
      · refine ⟨px_nl y :: some x :: none :: l, by simpa [px_s2] using h, by simp, by simp, fun j v hj => ?_⟩
        rcases j with _ | _ | _ | j
        · right
          have hj' : px_nl y = some v := by simpa using hj
          obtain ⟨h1, h2⟩ := px_nl_spec hj'
          exact ⟨by omega, by omega, by simp [h1], fun q => h2 q.2⟩
        · left; simp at hj; exact ⟨rfl, hj.symm⟩
        · simp at hj
        · right; exact ⟨by omega, by omega, by simpa using hj, by omega⟩
    · have h' : px_s2 l (a + 1) x (fun l' => f (y :: l')) := by
        rcases l with _ | ⟨z, _ | ⟨z2, l⟩⟩ <;> simpa [px_s2] using h
      obtain ⟨ls', h1, h2, h3, h4⟩ := ih h'
      refine ⟨y :: ls', h1, by simp [h2], by simp; omega, fun j v hj => ?_⟩
      cases j with
      | zero => right; exact ⟨by omega, by omega, by simpa using hj, by omega⟩
      | succ j =>
        rcases h4 j v (by simpa using hj) with ⟨q1, q2⟩ | ⟨q1, q2, q3, q4⟩
        · exact Or.inl ⟨by omega, q2⟩
        · exact Or.inr ⟨by omega, by omega, by simpa using q3, fun q => q4 ⟨by omega, q.2⟩⟩
theorem px_cat2 {ad : Nat → Nat} {v : px_V} (h : (px_v ad v).category = 2) : px_isl v := by
  rcases v with x | x | x
  · simp [px_v, Value.category] at h
  · exact ⟨x, rfl⟩
  · cases x <;> simp [px_v, va_rf, Value.category] at h
theorem px_L_s1 {ad : Nat → Nat} {la' : Array Slot} {ls ls' : px_Ls} {a : Nat} {x : px_V} (hn : ls'.length = ls.length) (h : lv_has la' ls.length ((a, px_v ad x) :: (px_kn ad 0 ls).filter (fun q => !(q.1 == a) && !(q.1 + 1 == a && q.2.category == 2)))) (hj : ∀ (j : Nat) (v : px_V), ls'[j]? = some (some v) → (j = a ∧ v = x) ∨ (j ≠ a ∧ ls[j]? = some (some v) ∧ ¬ (j + 1 = a ∧ px_isl v))) : px_L ad la' ls' := by
  refine px_L_of (h.1.trans hn.symm) h.2.1 fun i v hi => ?_
  rcases hj i v hi with ⟨rfl, rfl⟩ | ⟨q1, q2, q3⟩
  · exact h.2.2 (i, px_v ad v) List.mem_cons_self
  · refine h.2.2 (i, px_v ad v) (List.mem_cons_of_mem _ (List.mem_filter.mpr ⟨(px_kn_mem ls 0 i _).mpr ⟨i, v, q2, by omega, rfl⟩, ?_⟩))
    simp only [Bool.and_eq_true, Bool.not_eq_true', beq_eq_false_iff_ne, ne_eq, Bool.and_eq_false_iff]
    refine ⟨q1, ?_⟩
    by_cases hc : i + 1 = a
    · right; exact fun z => q3 ⟨hc, px_cat2 z⟩
    · left; exact hc
theorem px_L_s2 {ad : Nat → Nat} {la' : Array Slot} {ls ls' : px_Ls} {a : Nat} {x : px_V} (hn : ls'.length = ls.length) (h : lv_has la' ls.length ((a, px_v ad x) :: (px_kn ad 0 ls).filter (fun q => !(q.1 == a) && (!(q.1 == a + 1) && !(q.1 + 1 == a && q.2.category == 2))))) (hj : ∀ (j : Nat) (v : px_V), ls'[j]? = some (some v) → (j = a ∧ v = x) ∨ (j ≠ a ∧ j ≠ a + 1 ∧ ls[j]? = some (some v) ∧ ¬ (j + 1 = a ∧ px_isl v))) : px_L ad la' ls' := by
  refine px_L_of (h.1.trans hn.symm) h.2.1 fun i v hi => ?_
  rcases hj i v hi with ⟨rfl, rfl⟩ | ⟨q1, q1', q2, q3⟩
  · exact h.2.2 (i, px_v ad v) List.mem_cons_self
  · refine h.2.2 (i, px_v ad v) (List.mem_cons_of_mem _ (List.mem_filter.mpr ⟨(px_kn_mem ls 0 i _).mpr ⟨i, v, q2, by omega, rfl⟩, ?_⟩))
    simp only [Bool.and_eq_true, Bool.not_eq_true', beq_eq_false_iff_ne, ne_eq, Bool.and_eq_false_iff]
    refine ⟨q1, q1', ?_⟩
    by_cases hc : i + 1 = a
    · right; exact fun z => q3 ⟨hc, px_cat2 z⟩
    · left; exact hc
/-! the world -/
theorem px_lay_mem {k : Nat} {e : Nat ⊕ (Nat × Nat)} : ∀ {tab : px_T}, px_lay tab k = some e → (k, e) ∈ tab := by
  intro tab
  induction tab with
  | nil => intro h; simp [px_lay] at h
  | cons q tab ih =>
    intro h
    obtain ⟨k', e'⟩ := q
    by_cases hk : k = k'
    · subst hk
      have : e' = e := by simpa [px_lay, List.lookup] using h
      subst this
      exact List.mem_cons_self
    · have h' : px_lay tab k = some e := by
        have hb : (k == k') = false := by simp [hk]
        simpa [px_lay, List.lookup, hb] using h
      exact List.mem_cons_of_mem _ (ih h')
theorem px_w_get {cy : Nat → ClassId} {ad : Nat → Nat} {σ : px_M} {k : Nat} {e : Nat ⊕ (Nat × Nat)} {tab : px_T} (h : px_lay tab k = some e) (hx : px_xb e = false) : ∃ q0 : Nat, (px_w cy ad tab σ)[q0]? = some (ad k, px_e cy ad σ k e) ∧ (px_in tab)[q0]? = some (k, e) := by
  have hm : (k, e) ∈ px_in tab := List.mem_filter.mpr ⟨px_lay_mem h, by simp [hx]⟩
  obtain ⟨q0, hq⟩ := List.getElem?_of_mem hm
  exact ⟨q0, by simp [px_w, hq], hq⟩
theorem px_w_set {cy : Nat → ClassId} {ad : Nat → Nat} {σ σ' : px_M} {tab : px_T} {k q0 : Nat} {e : Nat ⊕ (Nat × Nat)} (hn0 : px_nd tab) (hq : (px_in tab)[q0]? = some (k, e)) (ho : ∀ k' e', k' ≠ k → px_e cy ad σ k' e' = px_e cy ad σ' k' e') : (px_w cy ad tab σ).set q0 (ad k, px_e cy ad σ' k e) = px_w cy ad tab σ' := by
  have hn : ((px_in tab).map Prod.fst).Nodup := (List.filter_sublist.map Prod.fst).nodup hn0.1
  generalize hz : px_in tab = tb at hq hn
  apply List.ext_getElem?
  intro i
  rw [List.getElem?_set]
  by_cases hi : q0 = i
  · subst hi
    have hlt : q0 < tb.length := (List.getElem?_eq_some_iff.mp hq).1
    rw [if_pos rfl]
    simp only [px_w, hz, List.length_map, hlt, if_true, List.getElem?_map, hq, Option.map_some]
  · rw [if_neg hi]
    simp only [px_w, hz, List.getElem?_map]
    cases ht : tb[i]? with
    | none => rfl
    | some q =>
      obtain ⟨k', e'⟩ := q
      have hne : k' ≠ k := by
        intro h
        subst h
        have h1 : (tb.map Prod.fst)[i]? = some k' := by simp [ht]
        have h2 : (tb.map Prod.fst)[q0]? = some k' := by simp [hq]
        obtain ⟨l1, g1⟩ := List.getElem?_eq_some_iff.mp h1
        obtain ⟨l2, g2⟩ := List.getElem?_eq_some_iff.mp h2
        exact hi ((List.getElem_inj hn).mp (g2.trans g1.symm))
      simp only [Option.map_some]
      rw [ho k' e' hne]
/-- of the cells that nobody writes -/
theorem px_xt_str : ∀ q ∈ pn_xt, q.2 = .inl 23 → ∃ i, i < pn_NS ∧ q.1 = 1000 + i := by
  have h : ∀ q ∈ pn_xt, q.2 = .inl 23 → q.1 - 1000 < pn_NS ∧ q.1 = 1000 + (q.1 - 1000) := by decide +kernel
  intro q hq he
  exact ⟨q.1 - 1000, h q hq he⟩
theorem px_xt_arr : ∀ q ∈ pn_xt, q.2 ≠ .inl 23 → ∃ t n, q.2 = .inr (t, n) := by
  intro q hq he
  rcases hz : q.2 with c | ⟨t, n⟩
  · have h : ∀ q ∈ pn_xt, (match q.2 with | .inl c => c == 23 | .inr _ => true) = true := by decide +kernel
    have := h q hq
    rw [hz] at this
    have hc : c = 23 := by simpa using this
    subst hc
    exact absurd hz he
  · exact ⟨t, n, rfl⟩
theorem px_e_wi {cy : Nat → ClassId} {ad : Nat → Nat} {σ : px_M} {k j k' : Nat} {x : Int32} {e' : Nat ⊕ (Nat × Nat)} (h : k' ≠ k) : px_e cy ad σ k' e' = px_e cy ad (px_wi σ k j x) k' e' := by
  have h1 : ∀ i, px_up σ.1 k j x k' i = σ.1 k' i := fun i => px_up_n (fun q => h q.1)
  have h2 : px_up σ.1 k j x k' = σ.1 k' := funext h1
  rcases e' with ci | ⟨t, n⟩ <;> simp [px_e, px_fs, px_fv, px_wi, h1, h2]
theorem px_e_wl {cy : Nat → ClassId} {ad : Nat → Nat} {σ : px_M} {k j k' : Nat} {x : Int64} {e' : Nat ⊕ (Nat × Nat)} (h : k' ≠ k) : px_e cy ad σ k' e' = px_e cy ad (px_wl σ k j x) k' e' := by
  have h1 : ∀ i, px_up σ.2.1 k j x k' i = σ.2.1 k' i := fun i => px_up_n (fun q => h q.1)
  have h2 : px_up σ.2.1 k j x k' = σ.2.1 k' := funext h1
  rcases e' with ci | ⟨t, n⟩ <;> simp [px_e, px_fs, px_fv, px_wl, h1, h2]
theorem px_e_wr {cy : Nat → ClassId} {ad : Nat → Nat} {σ : px_M} {k j k' : Nat} {x : Option Nat} {e' : Nat ⊕ (Nat × Nat)} (h : k' ≠ k) : px_e cy ad σ k' e' = px_e cy ad (px_wr σ k j x) k' e' := by
  have h1 : ∀ i, px_up σ.2.2 k j x k' i = σ.2.2 k' i := fun i => px_up_n (fun q => h q.1)
  have h2 : px_up σ.2.2 k j x k' = σ.2.2 k' := funext h1
  rcases e' with ci | ⟨t, n⟩ <;> simp [px_e, px_fs, px_fv, px_wr, h1, h2]
