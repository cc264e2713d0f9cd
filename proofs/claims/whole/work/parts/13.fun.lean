/-! shallow functions over the small machine: answers as options, loops as least fixed points -/
def oW {α : Type} (o : Option α) (k : α → Prop) : Prop := ∃ x, o = some x ∧ k x
noncomputable def gd {α : Type} (c : Prop) (x : Option α) : Option α := @ite _ c (Classical.propDecidable c) x none
def bn {α : Type} (c : Prop) [Decidable c] (x y : Option α) : Option α := if c then y else x
def oA {α : Type} (o : Option (Nat ⊕ (Nat × Nat))) (f : Nat → Nat → Option α) : Option α := match o with
  | some (.inr (t, n)) => f t n
  | _ => none
theorem oW_some {α : Type} (x : α) (k : α → Prop) : oW (some x) k = k x := propext ⟨fun ⟨y, h, hk⟩ => (by cases h; exact hk), fun h => ⟨x, rfl, h⟩⟩
theorem oW_none {α : Type} (k : α → Prop) : oW none k = False := propext ⟨fun ⟨y, h, hk⟩ => (by cases h), fun h => h.elim⟩
theorem oW_bind {α β : Type} (o : Option α) (f : α → Option β) (k : β → Prop) : oW (o.bind f) k = oW o (fun x => oW (f x) k) := by
  cases o with
  | none => rw [oW_none]; exact oW_none k
  | some x => rw [oW_some]; rfl
theorem oW_map {α β : Type} (o : Option α) (f : α → β) (k : β → Prop) : oW (o.map f) k = oW o (fun x => k (f x)) := by
  cases o with
  | none => rw [oW_none]; exact oW_none k
  | some x => rw [oW_some]; exact oW_some _ _
theorem oW_ite {α : Type} (c : Prop) [Decidable c] (x y : Option α) (k : α → Prop) : oW (if c then x else y) k = ((c → oW x k) ∧ (¬ c → oW y k)) := by
  by_cases h : c <;> simp [h]
theorem oW_bn {α : Type} (c : Prop) [Decidable c] (x y : Option α) (k : α → Prop) : oW (bn c x y) k = ((¬ c → oW x k) ∧ (c → oW y k)) := by
  by_cases h : c <;> simp [h, bn]
theorem gd_t {α : Type} {c : Prop} (h : c) (x : Option α) : gd c x = x := by unfold gd; rw [if_pos h]
theorem gd_f {α : Type} {c : Prop} (h : ¬ c) (x : Option α) : gd c x = none := by unfold gd; rw [if_neg h]
theorem gd_tt {α : Type} (x : Option α) : gd True x = x := gd_t trivial x
theorem oW_gd {α : Type} (c : Prop) (x : Option α) (k : α → Prop) : oW (gd c x) k = (c ∧ oW x k) := by
  by_cases h : c
  · rw [gd_t h]; simp [h]
  · rw [gd_f h, oW_none]; simp [h]
theorem oA_arr {α : Type} (t n : Nat) (f : Nat → Nat → Option α) : oA (some (.inr (t, n))) f = f t n := rfl
theorem oW_oA {α : Type} (o : Option (Nat ⊕ (Nat × Nat))) (f : Nat → Nat → Option α) (k : α → Prop) : oW (oA o f) k = px_arr o (fun t n => oW (f t n) k) := by
  rcases o with _ | (c | ⟨t, n⟩)
  · exact oW_none k
  · exact oW_none k
  · rfl
theorem oW_and {α : Type} (o : Option α) (P Q : α → Prop) : (oW o P ∧ oW o Q) = oW o (fun x => P x ∧ Q x) := by
  cases o with
  | none => simp only [oW_none, and_self]
  | some x => simp only [oW_some]
theorem oW_of {α : Type} {o : Option α} {x : α} {P : α → Prop} (h : o = some x) (hP : P x) : oW o P := ⟨x, h, hP⟩
theorem oW_ex {α : Type} {o : Option α} {P : α → Prop} (h : oW o P) : ∃ x, o = some x ∧ P x := h
theorem px_r1_o (o : Option Nat) (s : List px_V) (f : Nat → List px_V → Prop) : px_r1 (.inr (.inr o) :: s) f = oW o (fun x => f x s) := by
  cases o with
  | none => rw [oW_none]; rfl
  | some x => rw [oW_some]; rfl
theorem px_rv_o (tab : px_T) (d : Nat) (o : Option Nat) (s : List px_V) : px_rv tab d (.inr (.inr o) :: s) = oW o (fun x => px_obj (px_lay tab x) d) := by
  cases o with
  | none => rw [oW_none]; rfl
  | some x => rw [oW_some]; rfl
theorem oW_no {α : Type} {k : α → Prop} (h : oW none k) : False := by rw [oW_none] at h; exact h
theorem oW_gx {α : Type} {c : Prop} {x : Option α} {k : α → Prop} (h : oW (gd c x) k) : c ∧ oW x k := by rw [oW_gd] at h; exact h
theorem oW_bx {α β : Type} {o : Option α} {f : α → Option β} {k : β → Prop} (h : oW (o.bind f) k) : ∃ x, o = some x ∧ oW (f x) k := by rw [oW_bind] at h; exact h
theorem oW_ax {α : Type} {o : Option (Nat ⊕ (Nat × Nat))} {f : Nat → Nat → Option α} {k : α → Prop} (h : oW (oA o f) k) : ∃ t n, o = some (.inr (t, n)) ∧ oW (f t n) k := by rw [oW_oA] at h; exact px_arr_spec h
theorem oW_t {α : Type} {c : Prop} [Decidable c] {x y : Option α} {k : α → Prop} (h : oW (if c then x else y) k) (hc : c) : oW x k := by rw [if_pos hc] at h; exact h
theorem oW_f {α : Type} {c : Prop} [Decidable c] {x y : Option α} {k : α → Prop} (h : oW (if c then x else y) k) (hc : ¬ c) : oW y k := by rw [if_neg hc] at h; exact h
theorem bW_t {α : Type} {c : Prop} [Decidable c] {x y : Option α} {k : α → Prop} (h : oW (bn c x y) k) (hc : c) : oW y k := by unfold bn at h; rw [if_pos hc] at h; exact h
theorem bW_f {α : Type} {c : Prop} [Decidable c] {x y : Option α} {k : α → Prop} (h : oW (bn c x y) k) (hc : ¬ c) : oW x k := by unfold bn at h; rw [if_neg hc] at h; exact h
theorem px_arr_s (t n : Nat) (f : Nat → Nat → Prop) : px_arr (some (.inr (t, n))) f = f t n := rfl
theorem nI_10f : (nI 1 = nI 0) = False := by decide
/-! loops -/
def itr {α β : Type} (F : α → Option (α ⊕ β)) : Nat → α → Option β
  | 0, _ => none
  | n + 1, a => (F a).bind (Sum.elim (itr F n) some)
theorem itr_up {α β : Type} {F : α → Option (α ⊕ β)} : ∀ {n : Nat} {a : α} {b : β}, itr F n a = some b → ∀ m, n ≤ m → itr F m a = some b := by
  intro n
  induction n with
  | zero => intro a b h; cases h
  | succ n ih =>
    intro a b h m hm
    obtain ⟨m, rfl⟩ : ∃ m', m = m' + 1 := ⟨m - 1, by omega⟩
    simp only [itr] at h ⊢
    cases hF : F a with
    | none => rw [hF] at h; cases h
    | some q =>
      rw [hF] at h
      cases q with
      | inl a' => exact ih h m (by omega)
      | inr b' => exact h
noncomputable def lpO {α β : Type} (F : α → Option (α ⊕ β)) (a : α) : Option β := @dite _ (∃ n b, itr F n a = some b) (Classical.propDecidable _) (fun h => itr F h.choose a) (fun _ => none)
theorem lpO_of {α β : Type} {F : α → Option (α ⊕ β)} {a : α} {b : β} {n : Nat} (h : itr F n a = some b) : lpO F a = some b := by
  have hx : ∃ n b, itr F n a = some b := ⟨n, b, h⟩
  unfold lpO
  rw [dif_pos hx]
  obtain ⟨b', hb⟩ := hx.choose_spec
  have h1 := itr_up h (max n hx.choose) (Nat.le_max_left _ _)
  have h2 := itr_up hb (max n hx.choose) (Nat.le_max_right _ _)
  rw [hb, ← h2, h1]
theorem lpO_ex {α β : Type} {F : α → Option (α ⊕ β)} {a : α} {b : β} (h : lpO F a = some b) : ∃ n, itr F n a = some b := by
  unfold lpO at h
  by_cases hx : ∃ n b, itr F n a = some b
  · rw [dif_pos hx] at h; exact ⟨_, h⟩
  · rw [dif_neg hx] at h; cases h
theorem lpO_eq {α β : Type} (F : α → Option (α ⊕ β)) (a : α) : lpO F a = (F a).bind (Sum.elim (lpO F) some) := by
  cases hF : F a with
  | none =>
    cases hl : lpO F a with
    | none => rfl
    | some b =>
      obtain ⟨n, hn⟩ := lpO_ex hl
      cases n with
      | zero => cases hn
      | succ n => rw [itr, hF] at hn; cases hn
  | some q =>
    cases q with
    | inr b => exact lpO_of (n := 1) (by rw [itr, hF]; rfl)
    | inl a' =>
      show lpO F a = lpO F a'
      cases hl : lpO F a' with
      | some b =>
        obtain ⟨n, hn⟩ := lpO_ex hl
        exact lpO_of (n := n + 1) (by rw [itr, hF]; exact hn)
      | none =>
        cases hl2 : lpO F a with
        | none => rfl
        | some b =>
          obtain ⟨n, hn⟩ := lpO_ex hl2
          cases n with
          | zero => cases hn
          | succ n =>
            rw [itr, hF] at hn
            rw [lpO_of (n := n) (b := b) hn] at hl
            cases hl
theorem lpO_sound {α β : Type} {F : α → Option (α ⊕ β)} {P : α → Prop} {k : β → Prop} (hs : ∀ a, oW (F a) (Sum.elim P k) → P a) {a : α} (h : oW (lpO F a) k) : P a := by
  obtain ⟨b, hb, hk⟩ := oW_ex h
  obtain ⟨n, hn⟩ := lpO_ex hb
  have key : ∀ n a, itr F n a = some b → P a := by
    intro n
    induction n with
    | zero => intro a h; cases h
    | succ n ih =>
      intro a h
      refine hs a ?_
      simp only [itr] at h
      cases hF : F a with
      | none => rw [hF] at h; cases h
      | some q =>
        rw [hF] at h
        cases q with
        | inl a' => rw [oW_some]; exact ih a' h
        | inr b' => cases h; rw [oW_some]; exact hk
  exact key n a hn
/-! places that are cut: the locals there -/
def kI (ls : px_Ls) (f : Int32 → px_Ls → Prop) : Prop := match ls with
  | some (.inl x) :: l => f x l
  | _ => False
def kJ (ls : px_Ls) (f : Int64 → px_Ls → Prop) : Prop := match ls with
  | some (.inr (.inl x)) :: none :: l => f x l
  | _ => False
def kN (ls : px_Ls) (f : Nat → px_Ls → Prop) : Prop := match ls with
  | some (.inr (.inr (some x))) :: l => f x l
  | _ => False
def kO (ls : px_Ls) (f : Option Nat → px_Ls → Prop) : Prop := match ls with
  | some (.inr (.inr x)) :: l => f x l
  | _ => False
def kZ (ls : px_Ls) (f : px_Ls → Prop) : Prop := match ls with
  | _ :: l => f l
  | _ => False
def kE (ls : px_Ls) (P : Prop) : Prop := match ls with
  | [] => P
  | _ => False
theorem kI_s (x : Int32) (l : px_Ls) (f : Int32 → px_Ls → Prop) : kI (some (.inl x) :: l) f = f x l := rfl
theorem kJ_s (x : Int64) (l : px_Ls) (f : Int64 → px_Ls → Prop) : kJ (some (.inr (.inl x)) :: none :: l) f = f x l := rfl
theorem kN_s (x : Nat) (l : px_Ls) (f : Nat → px_Ls → Prop) : kN (some (.inr (.inr (some x))) :: l) f = f x l := rfl
theorem kO_s (x : Option Nat) (l : px_Ls) (f : Option Nat → px_Ls → Prop) : kO (some (.inr (.inr x)) :: l) f = f x l := rfl
theorem kZ_s (x : Option px_V) (l : px_Ls) (f : px_Ls → Prop) : kZ (x :: l) f = f l := rfl
theorem kE_s (P : Prop) : kE [] P = P := rfl
theorem kI_sp {ls : px_Ls} {f : Int32 → px_Ls → Prop} (h : kI ls f) : ∃ x l, ls = some (.inl x) :: l ∧ f x l := by
  rcases ls with _ | ⟨_ | (x | x | x), l⟩
  · exact h.elim
  · exact h.elim
  · exact ⟨x, l, rfl, h⟩
  · exact h.elim
  · exact h.elim
theorem kJ_sp {ls : px_Ls} {f : Int64 → px_Ls → Prop} (h : kJ ls f) : ∃ x l, ls = some (.inr (.inl x)) :: none :: l ∧ f x l := by
  rcases ls with _ | ⟨_ | (x | x | x), _ | ⟨_ | y, l⟩⟩ <;> first | exact h.elim | exact ⟨x, l, rfl, h⟩
theorem kN_sp {ls : px_Ls} {f : Nat → px_Ls → Prop} (h : kN ls f) : ∃ x l, ls = some (.inr (.inr (some x))) :: l ∧ f x l := by
  rcases ls with _ | ⟨_ | (x | x | (_ | x)), l⟩ <;> first | exact h.elim | exact ⟨x, l, rfl, h⟩
theorem kO_sp {ls : px_Ls} {f : Option Nat → px_Ls → Prop} (h : kO ls f) : ∃ x l, ls = some (.inr (.inr x)) :: l ∧ f x l := by
  rcases ls with _ | ⟨_ | (x | x | x), l⟩ <;> first | exact h.elim | exact ⟨x, l, rfl, h⟩
theorem kZ_sp {ls : px_Ls} {f : px_Ls → Prop} (h : kZ ls f) : ∃ x l, ls = x :: l ∧ f l := by
  rcases ls with _ | ⟨x, l⟩
  · exact h.elim
  · exact ⟨x, l, rfl, h⟩
theorem kE_sp {ls : px_Ls} {P : Prop} (h : kE ls P) : ls = [] ∧ P := by
  rcases ls with _ | ⟨x, l⟩
  · exact ⟨rfl, h⟩
  · exact h.elim
/-- a contract that asks for what never is -/
theorem px_Ok_no {tab : px_T} {i : pn_I} {h : Nat} {S : px_S} (hS : ∀ av σ k, ¬ S av σ k) : px_Ok tab i h S := fun _ _ _ _ _ av σ k hz => absurd hz (hS av σ k)
