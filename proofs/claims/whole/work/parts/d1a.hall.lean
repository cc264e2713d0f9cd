/-! telling: who can be told at once (Hall's counts), augmentation, greedy -/
def sbs (a b : Nat) : Prop := ∀ x, a.testBit x = true → b.testBit x = true
theorem sbs_rf (a : Nat) : sbs a a := fun _ h => h
theorem sbs_tr {a b c : Nat} (h1 : sbs a b) (h2 : sbs b c) : sbs a c := fun x h => h2 x (h1 x h)
theorem sbs_or {a b c : Nat} (h1 : sbs a c) (h2 : sbs b c) : sbs (a ||| b) c := fun x h => by
  rw [Nat.testBit_or, Bool.or_eq_true] at h
  rcases h with h | h
  · exact h1 x h
  · exact h2 x h
theorem sbs_l (a b : Nat) : sbs a (a ||| b) := fun x h => by rw [Nat.testBit_or, h]; rfl
theorem sbs_r (a b : Nat) : sbs b (a ||| b) := fun x h => by rw [Nat.testBit_or, h, Bool.or_true]
theorem sbs_al (a b : Nat) : sbs (a &&& b) a := fun x h => by rw [Nat.testBit_and, Bool.and_eq_true] at h; exact h.1
theorem sbs_ar (a b : Nat) : sbs (a &&& b) b := fun x h => by rw [Nat.testBit_and, Bool.and_eq_true] at h; exact h.2
theorem sbs_and {a b c : Nat} (h1 : sbs c a) (h2 : sbs c b) : sbs c (a &&& b) := fun x h => by rw [Nat.testBit_and, h1 x h, h2 x h]; rfl
theorem sbs_eq {a b : Nat} (h1 : sbs a b) (h2 : sbs b a) : a = b := tb_eq fun i => ⟨h1 i, h2 i⟩
theorem sbs_0 (b : Nat) : sbs 0 b := fun x h => by rw [Nat.zero_testBit] at h; cases h
theorem sbs_pw {k b : Nat} (h : b.testBit k = true) : sbs (2 ^ k) b := fun x hx => by
  rw [Nat.testBit_two_pow, decide_eq_true_eq] at hx
  rw [← hx]; exact h
theorem sbs_lt {a b n : Nat} (h : sbs a b) (hb : b < 2 ^ n) : a < 2 ^ n := by
  apply Nat.lt_pow_two_of_testBit
  intro i hi
  cases ha : a.testBit i with
  | false => rfl
  | true => have := tb_lt hb (h i ha); omega
theorem sbs_bc {a b : Nat} (h : sbs a b) : bc 11 a ≤ bc 11 b := bc_mono h 11
theorem sbs_full {a b : Nat} (h : sbs a b) (hb : b < 2048) (hc : bc 11 b ≤ bc 11 a) : a = b := by
  by_cases q : a = b
  · exact q
  · have := bc_ssub hb h q
    omega
theorem bc_ui (a b : Nat) : ∀ j, bc j (a ||| b) + bc j (a &&& b) = bc j a + bc j b := by
  intro j
  induction j with
  | zero => rfl
  | succ j ih =>
    simp only [bc, Nat.testBit_or, Nat.testBit_and]
    cases a.testBit j <;> cases b.testBit j <;> simp <;> omega
theorem bc_pw (h : Nat) : bc 11 (2 ^ h) ≤ 1 := by
  by_cases hh : h < 11
  · have := bc_one (s := 0) hh (Nat.zero_testBit h)
    rw [Nat.zero_or, bc_0] at this
    omega
  · rw [bc_congr (t := 0) (fun i hi => by rw [Nat.zero_testBit, Nat.testBit_two_pow, decide_eq_false (by omega)]), bc_0]
    omega
theorem bc_pwe {h : Nat} (hh : h < 11) : bc 11 (2 ^ h) = 1 := by
  have := bc_one (s := 0) hh (Nat.zero_testBit h)
  rw [Nat.zero_or, bc_0] at this
  exact this
theorem bc_or_le (a b : Nat) : bc 11 (a ||| b) ≤ bc 11 a + bc 11 b := by
  have := bc_ui a b 11
  omega
theorem ex_min {P : Nat → Prop} (f : Nat → Nat) (h : ∃ x, P x) : ∃ x, P x ∧ ∀ y, P y → f x ≤ f y := by
  obtain ⟨x, hx⟩ := h
  have key : ∀ k x, P x → f x = k → ∃ x, P x ∧ ∀ y, P y → f x ≤ f y := by
    intro k
    induction k using Nat.strongRecOn with
    | ind k ih =>
      intro x hx hk
      by_cases q : ∃ y, P y ∧ f y < k
      · obtain ⟨y, h1, h2⟩ := q
        exact ih (f y) h2 y h1 rfl
      · refine ⟨x, hx, fun y hy => ?_⟩
        rcases Nat.lt_or_ge (f y) k with z | z
        · exact absurd ⟨y, hy, z⟩ q
        · omega
  exact key (f x) x hx rfl
section
variable {n : Nat} {B : Nat → Nat} {S S' T G L : Nat}
theorem ar_sbs {a b : Nat} (h : sbs a b) : sbs (ar B n a) (ar B n b) := fun x hx => by
  obtain ⟨j, h1, h2, h3⟩ := ar_tb.mp hx
  exact ar_tb.mpr ⟨j, h1, h j h2, h3⟩
theorem ar_or (a b : Nat) : ar B n (a ||| b) = ar B n a ||| ar B n b := by
  apply tb_eq
  intro i
  rw [Nat.testBit_or, Bool.or_eq_true, ar_tb, ar_tb, ar_tb]
  constructor
  · rintro ⟨j, h1, h2, h3⟩
    rw [Nat.testBit_or, Bool.or_eq_true] at h2
    rcases h2 with h2 | h2
    · exact Or.inl ⟨j, h1, h2, h3⟩
    · exact Or.inr ⟨j, h1, h2, h3⟩
  · rintro (⟨j, h1, h2, h3⟩ | ⟨j, h1, h2, h3⟩)
    · exact ⟨j, h1, sbs_l a b j h2, h3⟩
    · exact ⟨j, h1, sbs_r a b j h2, h3⟩
/-- the tellers in S of a set -/
def tls (n : Nat) (B : Nat → Nat) (S L : Nat) : Nat := bc 11 (ar B n L &&& S)
theorem tls_mono {a b : Nat} (h : sbs a b) : tls n B S a ≤ tls n B S b := sbs_bc (sbs_and (sbs_tr (sbs_al _ _) (ar_sbs h)) (sbs_ar _ _))
theorem tls_S (h : sbs S S') (a : Nat) : tls n B S a ≤ tls n B S' a := sbs_bc (sbs_and (sbs_al _ _) (sbs_tr (sbs_ar _ _) h))
theorem tls_ui (a b : Nat) : tls n B S (a ||| b) + tls n B S (a &&& b) ≤ tls n B S a + tls n B S b := by
  unfold tls
  have h := bc_ui (ar B n a &&& S) (ar B n b &&& S) 11
  have h1 : bc 11 (ar B n (a ||| b) &&& S) ≤ bc 11 ((ar B n a &&& S) ||| (ar B n b &&& S)) := sbs_bc fun x hx => by
    rw [ar_or, Nat.testBit_and, Nat.testBit_or] at hx
    rw [Nat.testBit_or, Nat.testBit_and, Nat.testBit_and]
    revert hx
    cases (ar B n a).testBit x <;> cases (ar B n b).testBit x <;> cases S.testBit x <;> simp
  have h2 : bc 11 (ar B n (a &&& b) &&& S) ≤ bc 11 ((ar B n a &&& S) &&& (ar B n b &&& S)) := sbs_bc (sbs_and (sbs_and (sbs_tr (sbs_al _ _) (ar_sbs (sbs_al _ _))) (sbs_ar _ _)) (sbs_and (sbs_tr (sbs_al _ _) (ar_sbs (sbs_ar _ _))) (sbs_ar _ _)))
  omega
/-- no set among T has fewer tellers in S than it has houses -/
def hll (n : Nat) (B : Nat → Nat) (S T : Nat) : Prop := ∀ L, sbs L T → bc 11 L ≤ tls n B S L
theorem hll_sub (h : hll n B S T) (hs : sbs L T) : hll n B S L := fun K hK => h K (sbs_tr hK hs)
theorem hll_S (h : hll n B S T) (hs : sbs S S') : hll n B S' T := fun L hL => Nat.le_trans (h L hL) (tls_S hs L)
theorem hll_0 : hll n B S 0 := fun L hL => by
  rw [show L = 0 from sbs_eq hL (sbs_0 _), bc_0]
  exact Nat.zero_le _
theorem tls_drop {h : Nat} (hS : ∀ x, S.testBit x = true → S'.testBit x = true ∨ x = h) (a : Nat) : tls n B S a ≤ tls n B S' a + 1 := by
  unfold tls
  have h1 : bc 11 (ar B n a &&& S) ≤ bc 11 ((ar B n a &&& S') ||| 2 ^ h) := sbs_bc fun x hx => by
    rw [Nat.testBit_and, Bool.and_eq_true] at hx
    rw [Nat.testBit_or, Bool.or_eq_true]
    rcases hS x hx.2 with q | q
    · left; rw [Nat.testBit_and, hx.1, q]; rfl
    · right; rw [q]; exact Nat.testBit_two_pow_self
  have h2 := bc_or_le (ar B n a &&& S') (2 ^ h)
  have h3 := bc_pw h
  omega
theorem tls_dropN {h : Nat} (hS : ∀ x, S.testBit x = true → S'.testBit x = true ∨ x = h) {a : Nat} (hn : (ar B n a).testBit h = false) : tls n B S a ≤ tls n B S' a := by
  unfold tls
  refine sbs_bc fun x hx => ?_
  rw [Nat.testBit_and, Bool.and_eq_true] at hx
  rcases hS x hx.2 with q | q
  · rw [Nat.testBit_and, hx.1, q]; rfl
  · rw [q, hn] at hx; cases hx.1
/-- one teller less: he tells nobody, or one -/
theorem hll_step {h : Nat} (hn : n ≤ 11) (hT : hll n B S T) (hTl : T < 2048) (hS : ∀ x, S.testBit x = true → S'.testBit x = true ∨ x = h) : hll n B S' T ∨ ∃ k, k < n ∧ T.testBit k = true ∧ (B k).testBit h = true ∧ hll n B S' (nd T (2 ^ k)) := by
  by_cases q : hll n B S' T
  · exact Or.inl q
  · right
    have q' : ∃ L, sbs L T ∧ tls n B S' L < bc 11 L := by
      apply Classical.byContradiction
      intro hno
      apply q
      intro L hL
      apply Classical.byContradiction
      intro hlt
      exact hno ⟨L, hL, by omega⟩
    obtain ⟨L0, ⟨l1, l2⟩, l3⟩ := ex_min (bc 11) q'
    have l4 : (ar B n L0).testBit h = true := by
      cases hb : (ar B n L0).testBit h with
      | true => rfl
      | false =>
        have h1 := tls_dropN hS hb
        have h2 := hT L0 l1
        omega
    obtain ⟨k, k1, k2, k3⟩ := ar_tb.mp l4
    refine ⟨k, k1, l1 k k2, k3, fun L' hL' => ?_⟩
    apply Classical.byContradiction
    intro hlt
    have hL'T : sbs L' T := fun x hx => ((nd_tt hTl x).mp (hL' x hx)).1
    have u1 := tls_ui (n := n) (B := B) (S := S') L0 L'
    have u2 := bc_ui L0 L' 11
    have u3 := hT (L0 ||| L') (sbs_or l1 hL'T)
    have u4 := tls_drop (n := n) (B := B) hS (L0 ||| L')
    have u5 := l3 (L0 &&& L') ⟨sbs_tr (sbs_al _ _) l1, by omega⟩
    have u6 : bc 11 (L0 &&& L') < bc 11 L0 := bc_ssub (sbs_lt (n := 11) l1 hTl) (sbs_al _ _) (fun e => by
      have : (L0 &&& L').testBit k = true := by rw [e]; exact k2
      exact ((nd_tt hTl k).mp (hL' k (sbs_ar _ _ k this))).2 rfl)
    omega
/-- and back -/
theorem hll_back {h k : Nat} (hn : n ≤ 11) (hk : k < n) (hTl : T < 2048) (hh : h < 11) (h1 : S.testBit h = true) (h0 : S'.testBit h = false) (hS : sbs S' S) (hb : (B k).testBit h = true) (hT : hll n B S' (nd T (2 ^ k))) : hll n B S T := by
  intro L hL
  have hLl : L < 2048 := sbs_lt (n := 11) hL hTl
  by_cases hLk : L.testBit k = true
  · have e1 := bc_nd hLl (show k < 11 by omega) hLk
    have e2 := hT (nd L (2 ^ k)) (fun x hx => (nd_tt hTl x).mpr ⟨hL x ((nd_tt hLl x).mp hx).1, ((nd_tt hLl x).mp hx).2⟩)
    have e3 : tls n B S' (nd L (2 ^ k)) + 1 ≤ tls n B S L := by
      unfold tls
      have z : (ar B n (nd L (2 ^ k)) &&& S').testBit h = false := by rw [Nat.testBit_and, h0, Bool.and_false]
      rw [← bc_one hh z]
      refine sbs_bc (sbs_or (sbs_and (sbs_tr (sbs_al _ _) (ar_sbs (fun x hx => ((nd_tt hLl x).mp hx).1))) (sbs_tr (sbs_ar _ _) hS)) (sbs_pw ?_))
      rw [Nat.testBit_and, h1, Bool.and_true]
      exact ar_tb.mpr ⟨k, hk, hLk, hb⟩
    omega
  · have e2 := hT L (fun x hx => (nd_tt hTl x).mpr ⟨hL x hx, fun e => hLk (by rw [← e]; exact hx)⟩)
    exact Nat.le_trans e2 (tls_S hS L)
/-- a set that is smaller than another can be made greater out of it -/
theorem hll_aug (hTl : T < 2048) (hGl : G < 2048) (hT : hll n B S T) (hG : hll n B S G) (hlt : bc 11 T < bc 11 G) : ∃ x, G.testBit x = true ∧ T.testBit x = false ∧ hll n B S (T ||| 2 ^ x) := by
  apply Classical.byContradiction
  intro hno
  have one : ∀ x, G.testBit x = true → T.testBit x = false → ∃ A, sbs A T ∧ tls n B S (A ||| 2 ^ x) ≤ bc 11 A := by
    intro x h1 h2
    have hx : x < 11 := tb_lt (n := 11) hGl h1
    have q : ¬ hll n B S (T ||| 2 ^ x) := fun q => hno ⟨x, h1, h2, q⟩
    have q' : ∃ L, sbs L (T ||| 2 ^ x) ∧ tls n B S L < bc 11 L := by
      apply Classical.byContradiction
      intro hn2
      apply q
      intro L hL
      apply Classical.byContradiction
      intro hlt
      exact hn2 ⟨L, hL, by omega⟩
    obtain ⟨L, l1, l2⟩ := q'
    have hLl : L < 2048 := sbs_lt (n := 11) l1 (or_lt hTl (pw_lt hx))
    by_cases hLx : L.testBit x = true
    · have e1 := bc_nd hLl hx hLx
      refine ⟨nd L (2 ^ x), fun y hy => ?_, ?_⟩
      · obtain ⟨y1, y2⟩ := (nd_tt hLl y).mp hy
        have := l1 y y1
        rw [Nat.testBit_or, Nat.testBit_two_pow, decide_eq_false (Ne.symm y2), Bool.or_false] at this
        exact this
      · have : nd L (2 ^ x) ||| 2 ^ x = L := sbs_eq (sbs_or (fun y hy => ((nd_tt hLl y).mp hy).1) (sbs_pw hLx)) (fun y hy => by
          by_cases e : y = x
          · subst e; rw [Nat.testBit_or, Nat.testBit_two_pow_self, Bool.or_true]
          · exact sbs_l _ _ y ((nd_tt hLl y).mpr ⟨hy, e⟩))
        rw [this]
        omega
    · exfalso
      have := hT L (fun y hy => by
        have := l1 y hy
        rw [Nat.testBit_or, Bool.or_eq_true, Nat.testBit_two_pow, decide_eq_true_eq] at this
        rcases this with z | z
        · exact z
        · exact absurd (by rw [z]; exact hy) hLx)
      omega
  have all : ∀ j, j ≤ 11 → ∃ A, sbs A T ∧ tls n B S (A ||| bs (fun i => G.testBit i && !T.testBit i) j) ≤ bc 11 A := by
    intro j
    induction j with
    | zero =>
      intro _
      refine ⟨0, sbs_0 _, ?_⟩
      have : tls n B S (0 ||| bs (fun i => G.testBit i && !T.testBit i) 0) = 0 := by
        unfold tls
        have e : ar B n (0 ||| bs (fun i => G.testBit i && !T.testBit i) 0) = 0 := by
          apply tb_eq
          intro i
          rw [ar_tb, Nat.zero_testBit]
          constructor
          · rintro ⟨j, -, h, -⟩
            simp [bs] at h
          · intro h; cases h
        rw [e, Nat.zero_and, bc_0]
      rw [this]
      exact Nat.zero_le _
    | succ j ih =>
      intro hj
      obtain ⟨A, a1, a2⟩ := ih (by omega)
      by_cases hp : (G.testBit j && !T.testBit j) = true
      · have hp' := hp
        rw [Bool.and_eq_true, Bool.not_eq_true'] at hp'
        obtain ⟨A', b1, b2⟩ := one j hp'.1 hp'.2
        refine ⟨A ||| A', sbs_or a1 b1, ?_⟩
        rw [show bs (fun i => G.testBit i && !T.testBit i) (j + 1) = bs (fun i => G.testBit i && !T.testBit i) j ||| 2 ^ j by simp only [bs, hp, ↓reduceIte]]
        generalize bs (fun i => G.testBit i && !T.testBit i) j = X at a2 ⊢
        have u1 := tls_ui (n := n) (B := B) (S := S) (A ||| X) (A' ||| 2 ^ j)
        have u2 := bc_ui A A' 11
        have u3 : tls n B S (A &&& A') ≤ tls n B S ((A ||| X) &&& (A' ||| 2 ^ j)) := tls_mono (sbs_and (sbs_tr (sbs_al _ _) (sbs_l _ _)) (sbs_tr (sbs_ar _ _) (sbs_l _ _)))
        have u4 := hT (A &&& A') (sbs_tr (sbs_al _ _) a1)
        have u5 : A ||| A' ||| (X ||| 2 ^ j) = A ||| X ||| (A' ||| 2 ^ j) := by
          apply Nat.eq_of_testBit_eq
          intro i
          simp only [Nat.testBit_or]
          cases A.testBit i <;> cases A'.testBit i <;> cases X.testBit i <;> simp
        rw [u5]
        omega
      · refine ⟨A, a1, ?_⟩
        rw [show bs (fun i => G.testBit i && !T.testBit i) (j + 1) = bs (fun i => G.testBit i && !T.testBit i) j by
          show _ ||| (if (G.testBit j && !T.testBit j) = true then 2 ^ j else 0) = _
          rw [if_neg hp, Nat.or_zero]]
        exact a2
  obtain ⟨A, a1, a2⟩ := all 11 (Nat.le_refl _)
  have hX : ∀ x, (bs (fun i => G.testBit i && !T.testBit i) 11).testBit x = true ↔ G.testBit x = true ∧ T.testBit x = false := fun x => by
    rw [bs_tb, Bool.and_eq_true, Bool.and_eq_true, decide_eq_true_eq, Bool.not_eq_true']
    exact ⟨fun h => h.2, fun h => ⟨tb_lt (n := 11) hGl h.1, h⟩⟩
  generalize bs (fun i => G.testBit i && !T.testBit i) 11 = X at a2 hX
  have v1 := hG ((G &&& A) ||| X) (sbs_or (sbs_al _ _) (fun x hx => ((hX x).mp hx).1))
  have v2 : tls n B S ((G &&& A) ||| X) ≤ tls n B S (A ||| X) := tls_mono (sbs_or (sbs_tr (sbs_ar _ _) (sbs_l _ _)) (sbs_r _ _))
  have v3 : bc 11 ((G &&& A) ||| X) = bc 11 (G &&& A) + bc 11 X := bc_or (fun i h => by
    have h1 := a1 i (sbs_ar _ _ i h.1)
    rw [((hX i).mp h.2).2] at h1
    cases h1) 11
  have v4 : bc 11 G = bc 11 (G &&& T) + bc 11 X := by
    rw [← bc_or (a := G &&& T) (b := X) (fun i h => by
      have h1 := sbs_ar _ _ i h.1
      rw [((hX i).mp h.2).2] at h1
      cases h1) 11]
    congr 1
    apply tb_eq
    intro i
    rw [Nat.testBit_or, Bool.or_eq_true, hX, Nat.testBit_and, Bool.and_eq_true]
    cases G.testBit i <;> cases T.testBit i <;> simp
  have v5 := bc_ui (G &&& T) A 11
  have v6 : bc 11 (G &&& T &&& A) = bc 11 (G &&& A) := by
    congr 1
    exact sbs_eq (sbs_and (sbs_tr (sbs_al _ _) (sbs_al _ _)) (sbs_ar _ _)) (sbs_and (sbs_and (sbs_al _ _) (sbs_tr (sbs_ar _ _) a1)) (sbs_ar _ _))
  have v7 : bc 11 (G &&& T ||| A) ≤ bc 11 T := sbs_bc (sbs_or (sbs_ar _ _) a1)
  omega
end
