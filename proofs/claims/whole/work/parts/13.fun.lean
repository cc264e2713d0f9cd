/-! shallow functions over the small machine: answers as options, loops as least fixed points -/
def oW {α : Type} (o : Option α) (k : α → Prop) : Prop := ∃ x, o = some x ∧ k x
noncomputable def gd {α : Type} (c : Prop) (x : Option α) : Option α := @ite _ c (Classical.propDecidable c) x none
def bn {α : Type} (c : Prop) [Decidable c] (x y : Option α) : Option α := if c then y else x
def oA {α : Type} (o : Option (Nat ⊕ (Nat × Nat))) (f : Nat → Nat → Option α) : Option α := match o with
  | some (.inr (t, n)) => f t n
  | _ => none
theorem oW_some {α : Type} (x : α) (k : α → Prop) : oW (some x) k = k x := propext ⟨fun ⟨y, h, hk⟩ => (by cases h; exact hk), fun h => ⟨x, rfl, h⟩⟩
theorem oW_none {α : Type} (k : α → Prop) : oW none k = False := propext ⟨fun ⟨y, h, hk⟩ => (by cases h), fun h => h.elim⟩
theorem oW_bind {α β : Type} (o : Option α) (f : α → Option β) (k : β → Prop) : oW (o.bind f) k = oW o (fun x => oW (f x) k) := by
  cases o with
  | none => rw [oW_none]; exact oW_none k
  | some x => rw [oW_some]; rfl
theorem oW_map {α β : Type} (o : Option α) (f : α → β) (k : β → Prop) : oW (o.map f) k = oW o (fun x => k (f x)) := by
  cases o with
  | none => rw [oW_none]; exact oW_none k
  | some x => rw [oW_some]; exact oW_some _ _
theorem oW_ite {α : Type} (c : Prop) [Decidable c] (x y : Option α) (k : α → Prop) : oW (if c then x else y) k = ((c → oW x k) ∧ (¬ c → oW y k)) := by
  by_cases h : c <;> simp [h]
theorem oW_bn {α : Type} (c : Prop) [Decidable c] (x y : Option α) (k : α → Prop) : oW (bn c x y) k = ((¬ c → oW x k) ∧ (c → oW y k)) := by
  by_cases h : c <;> simp [h, bn]
theorem gd_t {α : Type} {c : Prop} (h : c) (x : Option α) : gd c x = x := by unfold gd; rw [if_pos h]
theorem gd_f {α : Type} {c : Prop} (h : ¬ c) (x : Option α) : gd c x = none := by unfold gd; rw [if_neg h]
theorem gd_tt {α : Type} (x : Option α) : gd True x = x := gd_t trivial x
theorem oW_gd {α : Type} (c : Prop) (x : Option α) (k : α → Prop) : oW (gd c x) k = (c ∧ oW x k) := by
  by_cases h : c
  · rw [gd_t h]; simp [h]
  · rw [gd_f h, oW_none]; simp [h]
theorem oA_arr {α : Type} (t n : Nat) (f : Nat → Nat → Option α) : oA (some (.inr (t, n))) f = f t n := rfl
theorem oW_oA {α : Type} (o : Option (Nat ⊕ (Nat × Nat))) (f : Nat → Nat → Option α) (k : α → Prop) : oW (oA o f) k = px_arr o (fun t n => oW (f t n) k) := by
  rcases o with _ | (c | ⟨t, n⟩)
  · exact oW_none k
  · exact oW_none k
  · rfl
theorem oW_and {α : Type} (o : Option α) (P Q : α → Prop) : (oW o P ∧ oW o Q) = oW o (fun x => P x ∧ Q x) := by
  cases o with
  | none => simp only [oW_none, and_self]
  | some x => simp only [oW_some]
theorem oW_of {α : Type} {o : Option α} {x : α} {P : α → Prop} (h : o = some x) (hP : P x) : oW o P := ⟨x, h, hP⟩
theorem oW_ex {α : Type} {o : Option α} {P : α → Prop} (h : oW o P) : ∃ x, o = some x ∧ P x := h
theorem px_r1_o (o : Option Nat) (s : List px_V) (f : Nat → List px_V → Prop) : px_r1 (.inr (.inr o) :: s) f = oW o (fun x => f x s) := by
  cases o with
  | none => rw [oW_none]; rfl
  | some x => rw [oW_some]; rfl
theorem px_rv_o (tab : px_T) (d : Nat) (o : Option Nat) (s : List px_V) : px_rv tab d (.inr (.inr o) :: s) = oW o (fun x => px_obj (px_lay tab x) d) := by
  cases o with
  | none => rw [oW_none]; rfl
  | some x => rw [oW_some]; rfl
theorem oW_no {α : Type} {k : α → Prop} (h : oW none k) : False := by rw [oW_none] at h; exact h
theorem oW_gx {α : Type} {c : Prop} {x : Option α} {k : α → Prop} (h : oW (gd c x) k) : c ∧ oW x k := by rw [oW_gd] at h; exact h
theorem oW_bx {α β : Type} {o : Option α} {f : α → Option β} {k : β → Prop} (h : oW (o.bind f) k) : ∃ x, o = some x ∧ oW (f x) k := by rw [oW_bind] at h; exact h
theorem oW_ax {α : Type} {o : Option (Nat ⊕ (Nat × Nat))} {f : Nat → Nat → Option α} {k : α → Prop} (h : oW (oA o f) k) : ∃ t n, o = some (.inr (t, n)) ∧ oW (f t n) k := by rw [oW_oA] at h; exact px_arr_spec h
theorem oW_t {α : Type} {c : Prop} [Decidable c] {x y : Option α} {k : α → Prop} (h : oW (if c then x else y) k) (hc : c) : oW x k := by rw [if_pos hc] at h; exact h
theorem oW_f {α : Type} {c : Prop} [Decidable c] {x y : Option α} {k : α → Prop} (h : oW (if c then x else y) k) (hc : ¬ c) : oW y k := by rw [if_neg hc] at h; exact h
theorem bW_t {α : Type} {c : Prop} [Decidable c] {x y : Option α} {k : α → Prop} (h : oW (bn c x y) k) (hc : c) : oW y k := by unfold bn at h; rw [if_pos hc] at h; exact h
theorem bW_f {α : Type} {c : Prop} [Decidable c] {x y : Option α} {k : α → Prop} (h : oW (bn c x y) k) (hc : ¬ c) : oW x k := by unfold bn at h; rw [if_neg hc] at h; exact h
theorem px_arr_s (t n : Nat) (f : Nat → Nat → Prop) : px_arr (some (.inr (t, n))) f = f t n := rfl
theorem nI_10f : (nI 1 = nI 0) = False := by decide
/-! loops -/
def itr {α β : Type} (F : α → Option (α ⊕ β)) : Nat → α → Option β
  | 0, _ => none
  | n + 1, a => (F a).bind (Sum.elim (itr F n) some)
theorem itr_up {α β : Type} {F : α → Option (α ⊕ β)} : ∀ {n : Nat} {a : α} {b : β}, itr F n a = some b → ∀ m, n ≤ m → itr F m a = some b := by
  intro n
  induction n with
  | zero => intro a b h; cases h
  | succ n ih =>
    intro a b h m hm
    obtain ⟨m, rfl⟩ : ∃ m', m = m' + 1 := ⟨m - 1, by omega⟩
    simp only [itr] at h ⊢
    cases hF : F a with
    | none => rw [hF] at h; cases h
    | some q =>
      rw [hF] at h
      cases q with
      | inl a' => exact ih h m (by omega)
      | inr b' => exact h
noncomputable def lpO {α β : Type} (F : α → Option (α ⊕ β)) (a : α) : Option β := @dite _ (∃ n b, itr F n a = some b) (Classical.propDecidable _) (fun h => itr F h.choose a) (fun _ => none)
theorem lpO_of {α β : Type} {F : α → Option (α ⊕ β)} {a : α} {b : β} {n : Nat} (h : itr F n a = some b) : lpO F a = some b := by
  have hx : ∃ n b, itr F n a = some b := ⟨n, b, h⟩
  unfold lpO
  rw [dif_pos hx]
  obtain ⟨b', hb⟩ := hx.choose_spec
  have h1 := itr_up h (max n hx.choose) (Nat.le_max_left _ _)
  have h2 := itr_up hb (max n hx.choose) (Nat.le_max_right _ _)
  rw [hb, ← h2, h1]
theorem lpO_ex {α β : Type} {F : α → Option (α ⊕ β)} {a : α} {b : β} (h : lpO F a = some b) : ∃ n, itr F n a = some b := by
  unfold lpO at h
  by_cases hx : ∃ n b, itr F n a = some b
  · rw [dif_pos hx] at h; exact ⟨_, h⟩
  · rw [dif_neg hx] at h; cases h
theorem lpO_eq {α β : Type} (F : α → Option (α ⊕ β)) (a : α) : lpO F a = (F a).bind (Sum.elim (lpO F) some) := by
  cases hF : F a with
  | none =>
    cases hl : lpO F a with
    | none => rfl
    | some b =>
      obtain ⟨n, hn⟩ := lpO_ex hl
      cases n with
      | zero => cases hn
      | succ n => rw [itr, hF] at hn; cases hn
  | some q =>
    cases q with
    | inr b => exact lpO_of (n := 1) (by rw [itr, hF]; rfl)
    | inl a' =>
      show lpO F a = lpO F a'
      cases hl : lpO F a' with
      | some b =>
        obtain ⟨n, hn⟩ := lpO_ex hl
        exact lpO_of (n := n + 1) (by rw [itr, hF]; exact hn)
      | none =>
        cases hl2 : lpO F a with
        | none => rfl
        | some b =>
          obtain ⟨n, hn⟩ := lpO_ex hl2
          cases n with
          | zero => cases hn
          | succ n =>
            rw [itr, hF] at hn
            rw [lpO_of (n := n) (b := b) hn] at hl
            cases hl
theorem lpO_sound {α β : Type} {F : α → Option (α ⊕ β)} {P : α → Prop} {k : β → Prop} (hs : ∀ a, oW (F a) (Sum.elim P k) → P a) {a : α} (h : oW (lpO F a) k) : P a := by
  obtain ⟨b, hb, hk⟩ := oW_ex h
  obtain ⟨n, hn⟩ := lpO_ex hb
  have key : ∀ n a, itr F n a = some b → P a := by
    intro n
    induction n with
    | zero => intro a h; cases h
    | succ n ih =>
      intro a h
      refine hs a ?_
      simp only [itr] at h
      cases hF : F a with
      | none => rw [hF] at h; cases h
      | some q =>
        rw [hF] at h
        cases q with
        | inl a' => rw [oW_some]; exact ih a' h
        | inr b' => cases h; rw [oW_some]; exact hk
  exact key n a hn
/-! places that are cut: the locals there -/
def kI (ls : px_Ls) (f : Int32 → px_Ls → Prop) : Prop := match ls with
  | some (.inl x) :: l => f x l
  | _ => False
def kJ (ls : px_Ls) (f : Int64 → px_Ls → Prop) : Prop := match ls with
  | some (.inr (.inl x)) :: none :: l => f x l
  | _ => False
def kN (ls : px_Ls) (f : Nat → px_Ls → Prop) : Prop := match ls with
  | some (.inr (.inr (some x))) :: l => f x l
  | _ => False
def kO (ls : px_Ls) (f : Option Nat → px_Ls → Prop) : Prop := match ls with
  | some (.inr (.inr x)) :: l => f x l
  | _ => False
def kZ (ls : px_Ls) (f : px_Ls → Prop) : Prop := match ls with
  | _ :: l => f l
  | _ => False
def kE (ls : px_Ls) (P : Prop) : Prop := match ls with
  | [] => P
  | _ => False
theorem kI_s (x : Int32) (l : px_Ls) (f : Int32 → px_Ls → Prop) : kI (some (.inl x) :: l) f = f x l := rfl
theorem kJ_s (x : Int64) (l : px_Ls) (f : Int64 → px_Ls → Prop) : kJ (some (.inr (.inl x)) :: none :: l) f = f x l := rfl
theorem kN_s (x : Nat) (l : px_Ls) (f : Nat → px_Ls → Prop) : kN (some (.inr (.inr (some x))) :: l) f = f x l := rfl
theorem kO_s (x : Option Nat) (l : px_Ls) (f : Option Nat → px_Ls → Prop) : kO (some (.inr (.inr x)) :: l) f = f x l := rfl
theorem kZ_s (x : Option px_V) (l : px_Ls) (f : px_Ls → Prop) : kZ (x :: l) f = f l := rfl
theorem kE_s (P : Prop) : kE [] P = P := rfl
theorem kI_sp {ls : px_Ls} {f : Int32 → px_Ls → Prop} (h : kI ls f) : ∃ x l, ls = some (.inl x) :: l ∧ f x l := by
  rcases ls with _ | ⟨_ | (x | x | x), l⟩
  · exact h.elim
  · exact h.elim
  · exact ⟨x, l, rfl, h⟩
  · exact h.elim
  · exact h.elim
theorem kJ_sp {ls : px_Ls} {f : Int64 → px_Ls → Prop} (h : kJ ls f) : ∃ x l, ls = some (.inr (.inl x)) :: none :: l ∧ f x l := by
  rcases ls with _ | ⟨_ | (x | x | x), _ | ⟨_ | y, l⟩⟩ <;> first | exact h.elim | exact ⟨x, l, rfl, h⟩
theorem kN_sp {ls : px_Ls} {f : Nat → px_Ls → Prop} (h : kN ls f) : ∃ x l, ls = some (.inr (.inr (some x))) :: l ∧ f x l := by
  rcases ls with _ | ⟨_ | (x | x | (_ | x)), l⟩ <;> first | exact h.elim | exact ⟨x, l, rfl, h⟩
theorem kO_sp {ls : px_Ls} {f : Option Nat → px_Ls → Prop} (h : kO ls f) : ∃ x l, ls = some (.inr (.inr x)) :: l ∧ f x l := by
  rcases ls with _ | ⟨_ | (x | x | x), l⟩ <;> first | exact h.elim | exact ⟨x, l, rfl, h⟩
theorem kZ_sp {ls : px_Ls} {f : px_Ls → Prop} (h : kZ ls f) : ∃ x l, ls = x :: l ∧ f l := by
  rcases ls with _ | ⟨x, l⟩
  · exact h.elim
  · exact ⟨x, l, rfl, h⟩
theorem kE_sp {ls : px_Ls} {P : Prop} (h : kE ls P) : ls = [] ∧ P := by
  rcases ls with _ | ⟨x, l⟩
  · exact ⟨rfl, h⟩
  · exact h.elim
/-- a contract that asks for what never is -/
theorem px_Ok_no {tab : px_T} {i : pn_I} {h : Nat} {S : px_S} (hS : ∀ av σ k, ¬ S av σ k) : px_Ok tab i h S := fun _ _ _ _ _ av σ k hz => absurd hz (hS av σ k)
/-! walks by the head alone: what is known at a place decides at once -/
theorem px_runH {C : px_C} {I : pn_I} {h : Nat} (h' : Nat) {k : Option px_V → px_M → Prop} {bk : Nat → Nat × List px_E} (hbk : ∀ pc, px_cks I (bk pc).1 pc (bk pc).2 = true) (sp : List (Nat × px_S)) (cuts : List (Nat × px_P)) (n nL : Nat) (rt : Option FieldType) (hnL : I.2.2.2.1 = nL) (hrt : I.2.2.2.2.1 = rt) (hC : px_ok C I h) (hsp : ∀ q ∈ sp, px_Ok (px_tb C) (pn_i q.1) h' q.2) (hh : h' + 1 ≤ h) (hcut : ∀ q ∈ cuts, ∀ ls st σ, q.2 ls st σ → px_W C k q.1 ls st σ) {pc : Nat} {ls : px_Ls} {st : List px_V} {σ : px_M} (go : ∀ (G Jf : Nat → px_J), (∀ n pc ls st σ, G (n + 1) pc ls st σ = px_vc (px_tb C) (Jf n) sp nL rt k (bk pc).1 (bk pc).2 ls st σ) → (∀ n pc ls st σ, Jf n pc ls st σ = px_jp (G n) cuts pc ls st σ) → G n pc ls st σ) : px_W C k pc ls st σ := by
  subst hnL
  subst hrt
  exact px_runG h' hbk sp cuts n hC hsp hh hcut go
theorem an_t {c : Prop} (hc : c) (p : Prop) : (c ∧ p) = p := propext ⟨fun z => z.2, fun z => ⟨hc, z⟩⟩
theorem an_rfl {α : Type} (a : α) (p : Prop) : (a = a ∧ p) = p := an_t rfl p
theorem bt1 {c : Prop} (hc : c) (p q : Prop) : ((c → p) ∧ (¬ c → q)) = p := propext ⟨fun z => z.1 hc, fun z => ⟨fun _ => z, fun n => absurd hc n⟩⟩
theorem bt2 {c : Prop} (hc : c) (p q : Prop) : ((¬ c → p) ∧ (c → q)) = q := propext ⟨fun z => z.2 hc, fun z => ⟨fun n => absurd hc n, fun _ => z⟩⟩
theorem bf1 {c : Prop} (hc : ¬ c) (p q : Prop) : ((c → p) ∧ (¬ c → q)) = q := propext ⟨fun z => z.2 hc, fun z => ⟨fun n => absurd n hc, fun _ => z⟩⟩
theorem bf2 {c : Prop} (hc : ¬ c) (p q : Prop) : ((¬ c → p) ∧ (c → q)) = p := propext ⟨fun z => z.1 hc, fun z => ⟨fun _ => z, fun n => absurd n hc⟩⟩
theorem n10 : ¬ nI 1 = nI 0 := by decide
theorem n00 : nI 0 = nI 0 := rfl
theorem r1_s (x : Nat) (s : List px_V) (f : Nat → List px_V → Prop) : px_r1 (.inr (.inr (some x)) :: s) f = f x s := rfl
theorem r1_e {o : Option Nat} {x : Nat} (h : o = some x) (s : List px_V) (f : Nat → List px_V → Prop) : px_r1 (.inr (.inr o) :: s) f = f x s := by subst h; rfl
theorem an_rv {tab : px_T} {d x : Nat} (hc : px_obj (px_lay tab x) d) (s : List px_V) (p : Prop) : (px_rv tab d (.inr (.inr (some x)) :: s) ∧ p) = p := an_t (show px_rv tab d (.inr (.inr (some x)) :: s) from hc) p
theorem an_rvo {tab : px_T} {d x : Nat} {o : Option Nat} (h : o = some x) (hc : px_obj (px_lay tab x) d) (s : List px_V) (p : Prop) : (px_rv tab d (.inr (.inr o) :: s) ∧ p) = p := by subst h; exact an_rv hc s p
theorem oW_e {α : Type} {o : Option α} {x : α} (h : o = some x) (k : α → Prop) : oW o k = k x := by subst h; exact oW_some x k
theorem ar_e {o : Option (Nat ⊕ (Nat × Nat))} {t n : Nat} (h : o = some (.inr (t, n))) (f : Nat → Nat → Prop) : px_arr o f = f t n := by subst h; rfl
theorem sz_v (v : px_V) (s : List px_V) : px_sz (v :: s) ≤ px_sz s + 2 := by rcases v with x | x | x <;> simp [px_sz]
theorem an_sz0 (p : Prop) : (px_sz [] ≤ 8 ∧ p) = p := an_t (by simp [px_sz]) p
theorem an_sz1 (a : px_V) (p : Prop) : (px_sz [a] ≤ 8 ∧ p) = p := an_t (by have := sz_v a []; simp [px_sz] at this; omega) p
theorem an_sz2 (a b : px_V) (p : Prop) : (px_sz [a, b] ≤ 8 ∧ p) = p := an_t (by have := sz_v a [b]; have := sz_v b []; simp [px_sz] at *; omega) p
theorem an_sz3 (a b c : px_V) (p : Prop) : (px_sz [a, b, c] ≤ 8 ∧ p) = p := an_t (by have := sz_v a [b, c]; have := sz_v b [c]; have := sz_v c []; simp [px_sz] at *; omega) p
theorem an_sz4 (a b c d : px_V) (p : Prop) : (px_sz [a, b, c, d] ≤ 8 ∧ p) = p := an_t (by have := sz_v a [b, c, d]; have := sz_v b [c, d]; have := sz_v c [d]; have := sz_v d []; simp [px_sz] at *; omega) p
theorem an_sz5 (a b c d : px_V) (o : Option Nat) (p : Prop) : (px_sz [a, b, c, .inl 0, .inr (.inr o)] ≤ 8 ∧ p) = (px_sz [a, b, c, .inl 0, .inr (.inr o)] ≤ 8 ∧ p) := by have := d; rfl
theorem an_ri (v : Int32) (p : Prop) : (px_rok (some .int) v ∧ p) = p := an_t trivial p
theorem an_rq (c : String) (p : Prop) : (px_rq (some (.object c)) ∧ p) = p := an_t trivial p
theorem an_rb0 (p : Prop) : (px_rok (some .boolean) (nI 0) ∧ p) = p := an_t (Or.inl rfl) p
theorem an_rb1 (p : Prop) : (px_rok (some .boolean) (nI 1) ∧ p) = p := an_t (Or.inr rfl) p
theorem an_rb {v : Int32} (h : v = nI 0 ∨ v = nI 1) (p : Prop) : (px_rok (some .boolean) v ∧ p) = p := an_t h p
theorem an_rc {v : Int32} (h : narrow .char (.int v) = .int v) (p : Prop) : (px_rok (some .char) v ∧ p) = p := an_t h p
theorem an_ry {v : Int32} (h : narrow .byte (.int v) = .int v) (p : Prop) : (px_rok (some .byte) v ∧ p) = p := an_t h p
theorem an_b0 (p : Prop) : ((nI 0 = nI 0 ∨ nI 0 = nI 1) ∧ p) = p := an_t (Or.inl rfl) p
theorem an_b1 (p : Prop) : ((nI 1 = nI 0 ∨ nI 1 = nI 1) ∧ p) = p := an_t (Or.inr rfl) p
theorem an_l0 (p : Prop) : (List.length ([] : px_Ls) = 0 ∧ p) = p := an_t rfl p
theorem an_l1 (x0 : Option px_V) (p : Prop) : (List.length ([x0] : px_Ls) = 1 ∧ p) = p := an_t rfl p
theorem an_l2 (x0 x1 : Option px_V) (p : Prop) : (List.length ([x0, x1] : px_Ls) = 2 ∧ p) = p := an_t rfl p
theorem an_l3 (x0 x1 x2 : Option px_V) (p : Prop) : (List.length ([x0, x1, x2] : px_Ls) = 3 ∧ p) = p := an_t rfl p
theorem an_l4 (x0 x1 x2 x3 : Option px_V) (p : Prop) : (List.length ([x0, x1, x2, x3] : px_Ls) = 4 ∧ p) = p := an_t rfl p
theorem an_l5 (x0 x1 x2 x3 x4 : Option px_V) (p : Prop) : (List.length ([x0, x1, x2, x3, x4] : px_Ls) = 5 ∧ p) = p := an_t rfl p
theorem an_l6 (x0 x1 x2 x3 x4 x5 : Option px_V) (p : Prop) : (List.length ([x0, x1, x2, x3, x4, x5] : px_Ls) = 6 ∧ p) = p := an_t rfl p
theorem an_l7 (x0 x1 x2 x3 x4 x5 x6 : Option px_V) (p : Prop) : (List.length ([x0, x1, x2, x3, x4, x5, x6] : px_Ls) = 7 ∧ p) = p := an_t rfl p
theorem an_l8 (x0 x1 x2 x3 x4 x5 x6 x7 : Option px_V) (p : Prop) : (List.length ([x0, x1, x2, x3, x4, x5, x6, x7] : px_Ls) = 8 ∧ p) = p := an_t rfl p
theorem an_l9 (x0 x1 x2 x3 x4 x5 x6 x7 x8 : Option px_V) (p : Prop) : (List.length ([x0, x1, x2, x3, x4, x5, x6, x7, x8] : px_Ls) = 9 ∧ p) = p := an_t rfl p
theorem an_l10 (x0 x1 x2 x3 x4 x5 x6 x7 x8 x9 : Option px_V) (p : Prop) : (List.length ([x0, x1, x2, x3, x4, x5, x6, x7, x8, x9] : px_Ls) = 10 ∧ p) = p := an_t rfl p
theorem an_l11 (x0 x1 x2 x3 x4 x5 x6 x7 x8 x9 x10 : Option px_V) (p : Prop) : (List.length ([x0, x1, x2, x3, x4, x5, x6, x7, x8, x9, x10] : px_Ls) = 11 ∧ p) = p := an_t rfl p
theorem an_l12 (x0 x1 x2 x3 x4 x5 x6 x7 x8 x9 x10 x11 : Option px_V) (p : Prop) : (List.length ([x0, x1, x2, x3, x4, x5, x6, x7, x8, x9, x10, x11] : px_Ls) = 12 ∧ p) = p := an_t rfl p
theorem an_l13 (x0 x1 x2 x3 x4 x5 x6 x7 x8 x9 x10 x11 x12 : Option px_V) (p : Prop) : (List.length ([x0, x1, x2, x3, x4, x5, x6, x7, x8, x9, x10, x11, x12] : px_Ls) = 13 ∧ p) = p := an_t rfl p
theorem an_l14 (x0 x1 x2 x3 x4 x5 x6 x7 x8 x9 x10 x11 x12 x13 : Option px_V) (p : Prop) : (List.length ([x0, x1, x2, x3, x4, x5, x6, x7, x8, x9, x10, x11, x12, x13] : px_Ls) = 14 ∧ p) = p := an_t rfl p
theorem an_l15 (x0 x1 x2 x3 x4 x5 x6 x7 x8 x9 x10 x11 x12 x13 x14 : Option px_V) (p : Prop) : (List.length ([x0, x1, x2, x3, x4, x5, x6, x7, x8, x9, x10, x11, x12, x13, x14] : px_Ls) = 15 ∧ p) = p := an_t rfl p
def ai_0 (l : List px_V) (f : Int32 → List px_V → Prop) : Prop := match l with
  | .inl x :: s => f x s
  | _ => False
theorem ai_0s (x : Int32) (s : List px_V) (f : Int32 → List px_V → Prop) : ai_0 (.inl x :: s) f = f x s := rfl
theorem ai_0p {l : List px_V} {f : Int32 → List px_V → Prop} (h : ai_0 l f) : ∃ x s, l = .inl x :: s ∧ f x s := by
  rcases l with _ | ⟨(x | x | x), s⟩ <;> first | exact h.elim | exact ⟨x, s, rfl, h⟩
def al_0 (l : List px_V) (f : Int64 → List px_V → Prop) : Prop := match l with
  | .inr (.inl x) :: s => f x s
  | _ => False
theorem al_0s (x : Int64) (s : List px_V) (f : Int64 → List px_V → Prop) : al_0 (.inr (.inl x) :: s) f = f x s := rfl
theorem al_0p {l : List px_V} {f : Int64 → List px_V → Prop} (h : al_0 l f) : ∃ x s, l = .inr (.inl x) :: s ∧ f x s := by
  rcases l with _ | ⟨(x | x | x), s⟩ <;> first | exact h.elim | exact ⟨x, s, rfl, h⟩
def av_0 (l : List px_V) (f : Nat → List px_V → Prop) : Prop := match l with
  | .inr (.inr (some x)) :: s => f x s
  | _ => False
theorem av_0s (x : Nat) (s : List px_V) (f : Nat → List px_V → Prop) : av_0 (.inr (.inr (some x)) :: s) f = f x s := rfl
theorem av_0p {l : List px_V} {f : Nat → List px_V → Prop} (h : av_0 l f) : ∃ x s, l = .inr (.inr (some x)) :: s ∧ f x s := by
  rcases l with _ | ⟨(x | x | (_ | x)), s⟩ <;> first | exact h.elim | exact ⟨x, s, rfl, h⟩
def aq_0 (l : List px_V) (f : Option Nat → List px_V → Prop) : Prop := match l with
  | .inr (.inr x) :: s => f x s
  | _ => False
theorem aq_0s (x : Option Nat) (s : List px_V) (f : Option Nat → List px_V → Prop) : aq_0 (.inr (.inr x) :: s) f = f x s := rfl
theorem aq_0p {l : List px_V} {f : Option Nat → List px_V → Prop} (h : aq_0 l f) : ∃ x s, l = .inr (.inr x) :: s ∧ f x s := by
  rcases l with _ | ⟨(x | x | x), s⟩ <;> first | exact h.elim | exact ⟨x, s, rfl, h⟩
theorem av_0e {o : Option Nat} {x : Nat} (h : o = some x) (s : List px_V) (f : Nat → List px_V → Prop) : av_0 (.inr (.inr o) :: s) f = f x s := by subst h; rfl
def ai_1 (l : List px_V) (f : Int32 → List px_V → Prop) : Prop := match l with
  | .inl x :: s => f x s
  | _ => False
theorem ai_1s (x : Int32) (s : List px_V) (f : Int32 → List px_V → Prop) : ai_1 (.inl x :: s) f = f x s := rfl
theorem ai_1p {l : List px_V} {f : Int32 → List px_V → Prop} (h : ai_1 l f) : ∃ x s, l = .inl x :: s ∧ f x s := by
  rcases l with _ | ⟨(x | x | x), s⟩ <;> first | exact h.elim | exact ⟨x, s, rfl, h⟩
def al_1 (l : List px_V) (f : Int64 → List px_V → Prop) : Prop := match l with
  | .inr (.inl x) :: s => f x s
  | _ => False
theorem al_1s (x : Int64) (s : List px_V) (f : Int64 → List px_V → Prop) : al_1 (.inr (.inl x) :: s) f = f x s := rfl
theorem al_1p {l : List px_V} {f : Int64 → List px_V → Prop} (h : al_1 l f) : ∃ x s, l = .inr (.inl x) :: s ∧ f x s := by
  rcases l with _ | ⟨(x | x | x), s⟩ <;> first | exact h.elim | exact ⟨x, s, rfl, h⟩
def av_1 (l : List px_V) (f : Nat → List px_V → Prop) : Prop := match l with
  | .inr (.inr (some x)) :: s => f x s
  | _ => False
theorem av_1s (x : Nat) (s : List px_V) (f : Nat → List px_V → Prop) : av_1 (.inr (.inr (some x)) :: s) f = f x s := rfl
theorem av_1p {l : List px_V} {f : Nat → List px_V → Prop} (h : av_1 l f) : ∃ x s, l = .inr (.inr (some x)) :: s ∧ f x s := by
  rcases l with _ | ⟨(x | x | (_ | x)), s⟩ <;> first | exact h.elim | exact ⟨x, s, rfl, h⟩
def aq_1 (l : List px_V) (f : Option Nat → List px_V → Prop) : Prop := match l with
  | .inr (.inr x) :: s => f x s
  | _ => False
theorem aq_1s (x : Option Nat) (s : List px_V) (f : Option Nat → List px_V → Prop) : aq_1 (.inr (.inr x) :: s) f = f x s := rfl
theorem aq_1p {l : List px_V} {f : Option Nat → List px_V → Prop} (h : aq_1 l f) : ∃ x s, l = .inr (.inr x) :: s ∧ f x s := by
  rcases l with _ | ⟨(x | x | x), s⟩ <;> first | exact h.elim | exact ⟨x, s, rfl, h⟩
theorem av_1e {o : Option Nat} {x : Nat} (h : o = some x) (s : List px_V) (f : Nat → List px_V → Prop) : av_1 (.inr (.inr o) :: s) f = f x s := by subst h; rfl
def ai_2 (l : List px_V) (f : Int32 → List px_V → Prop) : Prop := match l with
  | .inl x :: s => f x s
  | _ => False
theorem ai_2s (x : Int32) (s : List px_V) (f : Int32 → List px_V → Prop) : ai_2 (.inl x :: s) f = f x s := rfl
theorem ai_2p {l : List px_V} {f : Int32 → List px_V → Prop} (h : ai_2 l f) : ∃ x s, l = .inl x :: s ∧ f x s := by
  rcases l with _ | ⟨(x | x | x), s⟩ <;> first | exact h.elim | exact ⟨x, s, rfl, h⟩
def al_2 (l : List px_V) (f : Int64 → List px_V → Prop) : Prop := match l with
  | .inr (.inl x) :: s => f x s
  | _ => False
theorem al_2s (x : Int64) (s : List px_V) (f : Int64 → List px_V → Prop) : al_2 (.inr (.inl x) :: s) f = f x s := rfl
theorem al_2p {l : List px_V} {f : Int64 → List px_V → Prop} (h : al_2 l f) : ∃ x s, l = .inr (.inl x) :: s ∧ f x s := by
  rcases l with _ | ⟨(x | x | x), s⟩ <;> first | exact h.elim | exact ⟨x, s, rfl, h⟩
def av_2 (l : List px_V) (f : Nat → List px_V → Prop) : Prop := match l with
  | .inr (.inr (some x)) :: s => f x s
  | _ => False
theorem av_2s (x : Nat) (s : List px_V) (f : Nat → List px_V → Prop) : av_2 (.inr (.inr (some x)) :: s) f = f x s := rfl
theorem av_2p {l : List px_V} {f : Nat → List px_V → Prop} (h : av_2 l f) : ∃ x s, l = .inr (.inr (some x)) :: s ∧ f x s := by
  rcases l with _ | ⟨(x | x | (_ | x)), s⟩ <;> first | exact h.elim | exact ⟨x, s, rfl, h⟩
def aq_2 (l : List px_V) (f : Option Nat → List px_V → Prop) : Prop := match l with
  | .inr (.inr x) :: s => f x s
  | _ => False
theorem aq_2s (x : Option Nat) (s : List px_V) (f : Option Nat → List px_V → Prop) : aq_2 (.inr (.inr x) :: s) f = f x s := rfl
theorem aq_2p {l : List px_V} {f : Option Nat → List px_V → Prop} (h : aq_2 l f) : ∃ x s, l = .inr (.inr x) :: s ∧ f x s := by
  rcases l with _ | ⟨(x | x | x), s⟩ <;> first | exact h.elim | exact ⟨x, s, rfl, h⟩
theorem av_2e {o : Option Nat} {x : Nat} (h : o = some x) (s : List px_V) (f : Nat → List px_V → Prop) : av_2 (.inr (.inr o) :: s) f = f x s := by subst h; rfl
def ai_3 (l : List px_V) (f : Int32 → List px_V → Prop) : Prop := match l with
  | .inl x :: s => f x s
  | _ => False
theorem ai_3s (x : Int32) (s : List px_V) (f : Int32 → List px_V → Prop) : ai_3 (.inl x :: s) f = f x s := rfl
theorem ai_3p {l : List px_V} {f : Int32 → List px_V → Prop} (h : ai_3 l f) : ∃ x s, l = .inl x :: s ∧ f x s := by
  rcases l with _ | ⟨(x | x | x), s⟩ <;> first | exact h.elim | exact ⟨x, s, rfl, h⟩
def al_3 (l : List px_V) (f : Int64 → List px_V → Prop) : Prop := match l with
  | .inr (.inl x) :: s => f x s
  | _ => False
theorem al_3s (x : Int64) (s : List px_V) (f : Int64 → List px_V → Prop) : al_3 (.inr (.inl x) :: s) f = f x s := rfl
theorem al_3p {l : List px_V} {f : Int64 → List px_V → Prop} (h : al_3 l f) : ∃ x s, l = .inr (.inl x) :: s ∧ f x s := by
  rcases l with _ | ⟨(x | x | x), s⟩ <;> first | exact h.elim | exact ⟨x, s, rfl, h⟩
def av_3 (l : List px_V) (f : Nat → List px_V → Prop) : Prop := match l with
  | .inr (.inr (some x)) :: s => f x s
  | _ => False
theorem av_3s (x : Nat) (s : List px_V) (f : Nat → List px_V → Prop) : av_3 (.inr (.inr (some x)) :: s) f = f x s := rfl
theorem av_3p {l : List px_V} {f : Nat → List px_V → Prop} (h : av_3 l f) : ∃ x s, l = .inr (.inr (some x)) :: s ∧ f x s := by
  rcases l with _ | ⟨(x | x | (_ | x)), s⟩ <;> first | exact h.elim | exact ⟨x, s, rfl, h⟩
def aq_3 (l : List px_V) (f : Option Nat → List px_V → Prop) : Prop := match l with
  | .inr (.inr x) :: s => f x s
  | _ => False
theorem aq_3s (x : Option Nat) (s : List px_V) (f : Option Nat → List px_V → Prop) : aq_3 (.inr (.inr x) :: s) f = f x s := rfl
theorem aq_3p {l : List px_V} {f : Option Nat → List px_V → Prop} (h : aq_3 l f) : ∃ x s, l = .inr (.inr x) :: s ∧ f x s := by
  rcases l with _ | ⟨(x | x | x), s⟩ <;> first | exact h.elim | exact ⟨x, s, rfl, h⟩
theorem av_3e {o : Option Nat} {x : Nat} (h : o = some x) (s : List px_V) (f : Nat → List px_V → Prop) : av_3 (.inr (.inr o) :: s) f = f x s := by subst h; rfl
def ai_4 (l : List px_V) (f : Int32 → List px_V → Prop) : Prop := match l with
  | .inl x :: s => f x s
  | _ => False
theorem ai_4s (x : Int32) (s : List px_V) (f : Int32 → List px_V → Prop) : ai_4 (.inl x :: s) f = f x s := rfl
theorem ai_4p {l : List px_V} {f : Int32 → List px_V → Prop} (h : ai_4 l f) : ∃ x s, l = .inl x :: s ∧ f x s := by
  rcases l with _ | ⟨(x | x | x), s⟩ <;> first | exact h.elim | exact ⟨x, s, rfl, h⟩
def al_4 (l : List px_V) (f : Int64 → List px_V → Prop) : Prop := match l with
  | .inr (.inl x) :: s => f x s
  | _ => False
theorem al_4s (x : Int64) (s : List px_V) (f : Int64 → List px_V → Prop) : al_4 (.inr (.inl x) :: s) f = f x s := rfl
theorem al_4p {l : List px_V} {f : Int64 → List px_V → Prop} (h : al_4 l f) : ∃ x s, l = .inr (.inl x) :: s ∧ f x s := by
  rcases l with _ | ⟨(x | x | x), s⟩ <;> first | exact h.elim | exact ⟨x, s, rfl, h⟩
def av_4 (l : List px_V) (f : Nat → List px_V → Prop) : Prop := match l with
  | .inr (.inr (some x)) :: s => f x s
  | _ => False
theorem av_4s (x : Nat) (s : List px_V) (f : Nat → List px_V → Prop) : av_4 (.inr (.inr (some x)) :: s) f = f x s := rfl
theorem av_4p {l : List px_V} {f : Nat → List px_V → Prop} (h : av_4 l f) : ∃ x s, l = .inr (.inr (some x)) :: s ∧ f x s := by
  rcases l with _ | ⟨(x | x | (_ | x)), s⟩ <;> first | exact h.elim | exact ⟨x, s, rfl, h⟩
def aq_4 (l : List px_V) (f : Option Nat → List px_V → Prop) : Prop := match l with
  | .inr (.inr x) :: s => f x s
  | _ => False
theorem aq_4s (x : Option Nat) (s : List px_V) (f : Option Nat → List px_V → Prop) : aq_4 (.inr (.inr x) :: s) f = f x s := rfl
theorem aq_4p {l : List px_V} {f : Option Nat → List px_V → Prop} (h : aq_4 l f) : ∃ x s, l = .inr (.inr x) :: s ∧ f x s := by
  rcases l with _ | ⟨(x | x | x), s⟩ <;> first | exact h.elim | exact ⟨x, s, rfl, h⟩
theorem av_4e {o : Option Nat} {x : Nat} (h : o = some x) (s : List px_V) (f : Nat → List px_V → Prop) : av_4 (.inr (.inr o) :: s) f = f x s := by subst h; rfl
def ai_5 (l : List px_V) (f : Int32 → List px_V → Prop) : Prop := match l with
  | .inl x :: s => f x s
  | _ => False
theorem ai_5s (x : Int32) (s : List px_V) (f : Int32 → List px_V → Prop) : ai_5 (.inl x :: s) f = f x s := rfl
theorem ai_5p {l : List px_V} {f : Int32 → List px_V → Prop} (h : ai_5 l f) : ∃ x s, l = .inl x :: s ∧ f x s := by
  rcases l with _ | ⟨(x | x | x), s⟩ <;> first | exact h.elim | exact ⟨x, s, rfl, h⟩
def al_5 (l : List px_V) (f : Int64 → List px_V → Prop) : Prop := match l with
  | .inr (.inl x) :: s => f x s
  | _ => False
theorem al_5s (x : Int64) (s : List px_V) (f : Int64 → List px_V → Prop) : al_5 (.inr (.inl x) :: s) f = f x s := rfl
theorem al_5p {l : List px_V} {f : Int64 → List px_V → Prop} (h : al_5 l f) : ∃ x s, l = .inr (.inl x) :: s ∧ f x s := by
  rcases l with _ | ⟨(x | x | x), s⟩ <;> first | exact h.elim | exact ⟨x, s, rfl, h⟩
def av_5 (l : List px_V) (f : Nat → List px_V → Prop) : Prop := match l with
  | .inr (.inr (some x)) :: s => f x s
  | _ => False
theorem av_5s (x : Nat) (s : List px_V) (f : Nat → List px_V → Prop) : av_5 (.inr (.inr (some x)) :: s) f = f x s := rfl
theorem av_5p {l : List px_V} {f : Nat → List px_V → Prop} (h : av_5 l f) : ∃ x s, l = .inr (.inr (some x)) :: s ∧ f x s := by
  rcases l with _ | ⟨(x | x | (_ | x)), s⟩ <;> first | exact h.elim | exact ⟨x, s, rfl, h⟩
def aq_5 (l : List px_V) (f : Option Nat → List px_V → Prop) : Prop := match l with
  | .inr (.inr x) :: s => f x s
  | _ => False
theorem aq_5s (x : Option Nat) (s : List px_V) (f : Option Nat → List px_V → Prop) : aq_5 (.inr (.inr x) :: s) f = f x s := rfl
theorem aq_5p {l : List px_V} {f : Option Nat → List px_V → Prop} (h : aq_5 l f) : ∃ x s, l = .inr (.inr x) :: s ∧ f x s := by
  rcases l with _ | ⟨(x | x | x), s⟩ <;> first | exact h.elim | exact ⟨x, s, rfl, h⟩
theorem av_5e {o : Option Nat} {x : Nat} (h : o = some x) (s : List px_V) (f : Nat → List px_V → Prop) : av_5 (.inr (.inr o) :: s) f = f x s := by subst h; rfl
def ai_6 (l : List px_V) (f : Int32 → List px_V → Prop) : Prop := match l with
  | .inl x :: s => f x s
  | _ => False
theorem ai_6s (x : Int32) (s : List px_V) (f : Int32 → List px_V → Prop) : ai_6 (.inl x :: s) f = f x s := rfl
theorem ai_6p {l : List px_V} {f : Int32 → List px_V → Prop} (h : ai_6 l f) : ∃ x s, l = .inl x :: s ∧ f x s := by
  rcases l with _ | ⟨(x | x | x), s⟩ <;> first | exact h.elim | exact ⟨x, s, rfl, h⟩
def al_6 (l : List px_V) (f : Int64 → List px_V → Prop) : Prop := match l with
  | .inr (.inl x) :: s => f x s
  | _ => False
theorem al_6s (x : Int64) (s : List px_V) (f : Int64 → List px_V → Prop) : al_6 (.inr (.inl x) :: s) f = f x s := rfl
theorem al_6p {l : List px_V} {f : Int64 → List px_V → Prop} (h : al_6 l f) : ∃ x s, l = .inr (.inl x) :: s ∧ f x s := by
  rcases l with _ | ⟨(x | x | x), s⟩ <;> first | exact h.elim | exact ⟨x, s, rfl, h⟩
def av_6 (l : List px_V) (f : Nat → List px_V → Prop) : Prop := match l with
  | .inr (.inr (some x)) :: s => f x s
  | _ => False
theorem av_6s (x : Nat) (s : List px_V) (f : Nat → List px_V → Prop) : av_6 (.inr (.inr (some x)) :: s) f = f x s := rfl
theorem av_6p {l : List px_V} {f : Nat → List px_V → Prop} (h : av_6 l f) : ∃ x s, l = .inr (.inr (some x)) :: s ∧ f x s := by
  rcases l with _ | ⟨(x | x | (_ | x)), s⟩ <;> first | exact h.elim | exact ⟨x, s, rfl, h⟩
def aq_6 (l : List px_V) (f : Option Nat → List px_V → Prop) : Prop := match l with
  | .inr (.inr x) :: s => f x s
  | _ => False
theorem aq_6s (x : Option Nat) (s : List px_V) (f : Option Nat → List px_V → Prop) : aq_6 (.inr (.inr x) :: s) f = f x s := rfl
theorem aq_6p {l : List px_V} {f : Option Nat → List px_V → Prop} (h : aq_6 l f) : ∃ x s, l = .inr (.inr x) :: s ∧ f x s := by
  rcases l with _ | ⟨(x | x | x), s⟩ <;> first | exact h.elim | exact ⟨x, s, rfl, h⟩
theorem av_6e {o : Option Nat} {x : Nat} (h : o = some x) (s : List px_V) (f : Nat → List px_V → Prop) : av_6 (.inr (.inr o) :: s) f = f x s := by subst h; rfl
def ai_7 (l : List px_V) (f : Int32 → List px_V → Prop) : Prop := match l with
  | .inl x :: s => f x s
  | _ => False
theorem ai_7s (x : Int32) (s : List px_V) (f : Int32 → List px_V → Prop) : ai_7 (.inl x :: s) f = f x s := rfl
theorem ai_7p {l : List px_V} {f : Int32 → List px_V → Prop} (h : ai_7 l f) : ∃ x s, l = .inl x :: s ∧ f x s := by
  rcases l with _ | ⟨(x | x | x), s⟩ <;> first | exact h.elim | exact ⟨x, s, rfl, h⟩
def al_7 (l : List px_V) (f : Int64 → List px_V → Prop) : Prop := match l with
  | .inr (.inl x) :: s => f x s
  | _ => False
theorem al_7s (x : Int64) (s : List px_V) (f : Int64 → List px_V → Prop) : al_7 (.inr (.inl x) :: s) f = f x s := rfl
theorem al_7p {l : List px_V} {f : Int64 → List px_V → Prop} (h : al_7 l f) : ∃ x s, l = .inr (.inl x) :: s ∧ f x s := by
  rcases l with _ | ⟨(x | x | x), s⟩ <;> first | exact h.elim | exact ⟨x, s, rfl, h⟩
def av_7 (l : List px_V) (f : Nat → List px_V → Prop) : Prop := match l with
  | .inr (.inr (some x)) :: s => f x s
  | _ => False
theorem av_7s (x : Nat) (s : List px_V) (f : Nat → List px_V → Prop) : av_7 (.inr (.inr (some x)) :: s) f = f x s := rfl
theorem av_7p {l : List px_V} {f : Nat → List px_V → Prop} (h : av_7 l f) : ∃ x s, l = .inr (.inr (some x)) :: s ∧ f x s := by
  rcases l with _ | ⟨(x | x | (_ | x)), s⟩ <;> first | exact h.elim | exact ⟨x, s, rfl, h⟩
def aq_7 (l : List px_V) (f : Option Nat → List px_V → Prop) : Prop := match l with
  | .inr (.inr x) :: s => f x s
  | _ => False
theorem aq_7s (x : Option Nat) (s : List px_V) (f : Option Nat → List px_V → Prop) : aq_7 (.inr (.inr x) :: s) f = f x s := rfl
theorem aq_7p {l : List px_V} {f : Option Nat → List px_V → Prop} (h : aq_7 l f) : ∃ x s, l = .inr (.inr x) :: s ∧ f x s := by
  rcases l with _ | ⟨(x | x | x), s⟩ <;> first | exact h.elim | exact ⟨x, s, rfl, h⟩
theorem av_7e {o : Option Nat} {x : Nat} (h : o = some x) (s : List px_V) (f : Nat → List px_V → Prop) : av_7 (.inr (.inr o) :: s) f = f x s := by subst h; rfl
