/-! the ways with one colour more -/
theorem sm_app (f : Nat → Nat) (a : Nat) : ∀ b, sm f (a + b) = sm f a + sm (fun i => f (a + i)) b := by
  intro b
  induction b with
  | zero => rfl
  | succ b ih =>
    show sm f (a + b) + f (a + b) = sm f a + (sm (fun i => f (a + i)) b + f (a + b))
    rw [ih, Nat.add_assoc]
theorem tb_pw {m I : Nat} (hI : I < 2 ^ m) (x : Nat) : (2 ^ m + I).testBit x = (decide (x = m) || I.testBit x) := by
  have e := Nat.two_pow_add_eq_or_of_lt hI 1
  rw [Nat.mul_one] at e
  rw [e, Nat.testBit_or, Nat.testBit_two_pow]
  by_cases h : x = m
  · subst h; simp
  · simp [h, Ne.symm h]
/-- those of I have the colour k -/
def ov (c : Nat → Nat) (I k : Nat) : Nat → Nat := fun x => if I.testBit x = true then k else c x
/-- without those of I -/
def wih (p : Nat → Bool) (I : Nat) : Nat → Bool := fun x => p x && !I.testBit x
theorem Cn_more {k : Nat} {p : Nat → Bool} : ∀ (m : Nat) (w : (Nat → Nat) → Nat) (κ : Nat → Nat), Cn (k + 1) p m w κ = sm (fun I => ic (∀ x, x < m → I.testBit x = true → p x = true) * Cn k (wih p I) m (fun c => w (ov c I k)) κ) (2 ^ m) := by
  intro m
  induction m with
  | zero =>
    intro w κ
    show w κ = sm _ 1
    simp only [sm, Cn]
    rw [ic_t (fun x hx => absurd hx (by omega)), Nat.one_mul, Nat.zero_add]
    congr 1
    funext x
    unfold ov
    rw [if_neg (by rw [Nat.zero_testBit]; simp)]
  | succ m ih =>
    intro w κ
    have tbm : ∀ {I}, I < 2 ^ m → I.testBit m = false := fun h => Nat.testBit_lt_two_pow h
    have hp2 : 2 ^ (m + 1) = 2 ^ m + 2 ^ m := by rw [Nat.pow_succ]; omega
    rw [hp2, sm_app]
    cases hp : p m with
    | true =>
      have c1 : ∀ I, I < 2 ^ m → ic (∀ x, x < m + 1 → I.testBit x = true → p x = true) = ic (∀ x, x < m → I.testBit x = true → p x = true) := fun I hI => ic_iff ⟨fun h x hx => h x (by omega), fun h x hx hb => by
        by_cases hxm : x = m
        · rw [hxm]; exact hp
        · exact h x (by omega) hb⟩
      have c2 : ∀ I, I < 2 ^ m → ic (∀ x, x < m + 1 → (2 ^ m + I).testBit x = true → p x = true) = ic (∀ x, x < m → I.testBit x = true → p x = true) := fun I hI => ic_iff ⟨fun h x hx hb => h x (by omega) (by rw [tb_pw hI, hb, Bool.or_true]), fun h x hx hb => by
        by_cases hxm : x = m
        · rw [hxm]; exact hp
        · rw [tb_pw hI, decide_eq_false hxm, Bool.false_or] at hb
          exact h x (by omega) hb⟩
      have e1 : Cn (k + 1) p (m + 1) w κ = sm (fun e => Cn (k + 1) p m w (un κ m e)) k + Cn (k + 1) p m w (un κ m k) := by
        simp only [Cn]
        rw [if_pos hp]
        rfl
      rw [e1]
      congr 1
      · rw [sm_congr (fun e _ => ih w (un κ m e)), ← sm_swap]
        refine sm_congr (fun I hI => ?_)
        rw [sm_mulc, c1 I hI]
        simp only [Cn]
        rw [if_pos (by unfold wih; rw [hp, tbm hI]; rfl)]
      · rw [ih]
        refine sm_congr (fun I hI => ?_)
        rw [c2 I hI]
        simp only [Cn]
        rw [if_neg (by unfold wih; rw [tb_pw hI]; simp), Cn_un _ _ _ _ _ (Nat.le_refl _)]
        congr 1
        rw [Cn_p (q := wih p (2 ^ m + I)) (fun x hx => by unfold wih; rw [tb_pw hI, decide_eq_false (by omega), Bool.false_or])]
        refine Cn_congr (fun c _ _ => ?_)
        congr 1
        funext x
        unfold ov
        rw [tb_pw hI]
        by_cases hxm : x = m
        · subst hxm
          rw [tbm hI, un_same]
          simp
        · rw [un_other _ _ hxm]
          simp [hxm]
    | false =>
      have e2 : sm (fun i => ic (∀ x, x < m + 1 → (2 ^ m + i).testBit x = true → p x = true) * Cn k (wih p (2 ^ m + i)) (m + 1) (fun c => w (ov c (2 ^ m + i) k)) κ) (2 ^ m) = 0 := by
        rw [sm_congr (g := fun _ => 0) (fun I hI => ?_), sm_0]
        rw [ic_f, Nat.zero_mul]
        intro h
        have := h m (by omega) (by rw [tb_pw hI, decide_eq_true rfl, Bool.true_or])
        rw [hp] at this
        cases this
      rw [e2, Nat.add_zero]
      have e1 : Cn (k + 1) p (m + 1) w κ = Cn (k + 1) p m w κ := by
        simp only [Cn]
        rw [if_neg (by rw [hp]; simp)]
      rw [e1, ih]
      refine sm_congr (fun I hI => ?_)
      simp only [Cn]
      rw [if_neg (by unfold wih; rw [hp]; simp)]
      congr 1
      refine ic_iff ⟨fun h x hx hb => ?_, fun h x hx => h x (by omega)⟩
      by_cases hxm : x = m
      · rw [hxm, tbm hI] at hb; cases hb
      · exact h x (by omega) hb
/-- no two of I are friends -/
def apart (R : Nat → Nat → Prop) (n I : Nat) : Prop := ∀ x y, x < n → y < n → I.testBit x = true → I.testBit y = true → ¬ R x y
theorem Wy_S {R : Nat → Nat → Prop} {n k : Nat} {p : Nat → Bool} : Wy R n p (k + 1) = sm (fun I => ic ((∀ x, x < n → I.testBit x = true → p x = true) ∧ apart R n I) * Wy R n (wih p I) k) (2 ^ n) := by
  have e1 : Wy R n p (k + 1) = Cn (k + 1) p n (fun c => ic (fit R p n c)) (fun _ => 0) := rfl
  rw [e1, Cn_more]
  refine sm_congr (fun I hI => ?_)
  rw [ic_and, Nat.mul_assoc]
  by_cases hs : ∀ x, x < n → I.testBit x = true → p x = true
  · congr 1
    unfold Wy
    rw [← Cn_mul]
    refine Cn_congr (fun c hc _ => ?_)
    rw [← ic_and]
    have hw : ∀ x, wih p I x = true ↔ p x = true ∧ I.testBit x = false := fun x => by
      unfold wih
      rw [Bool.and_eq_true, Bool.not_eq_true']
    refine ic_iff ⟨fun h => ⟨fun x y hx hy hIx hIy hr => ?_, fun x y hx hy hpx hpy hr => ?_⟩, fun ⟨h1, h2⟩ x y hx hy hpx hpy hr => ?_⟩
    · have := h x y hx hy (hs x hx hIx) (hs y hy hIy) hr
      unfold ov at this
      rw [if_pos hIx, if_pos hIy] at this
      exact this rfl
    · obtain ⟨px, ix⟩ := (hw x).mp hpx
      obtain ⟨py, iy⟩ := (hw y).mp hpy
      have := h x y hx hy px py hr
      unfold ov at this
      rw [if_neg (by rw [ix]; simp), if_neg (by rw [iy]; simp)] at this
      exact this
    · unfold ov
      cases ix : I.testBit x with
      | true =>
        cases iy : I.testBit y with
        | true => exact absurd hr (h1 x y hx hy ix iy)
        | false =>
          rw [if_pos rfl, if_neg (by simp)]
          have := hc y hy ((hw y).mpr ⟨hpy, iy⟩)
          omega
      | false =>
        have cx := hc x hx ((hw x).mpr ⟨hpx, ix⟩)
        cases iy : I.testBit y with
        | true =>
          rw [if_neg (by simp), if_pos rfl]
          omega
        | false =>
          rw [if_neg (by simp), if_neg (by simp)]
          exact h2 x y hx hy ((hw x).mpr ⟨hpx, ix⟩) ((hw y).mpr ⟨hpy, iy⟩) hr
  · rw [ic_f hs, Nat.zero_mul, Nat.zero_mul]
/-- the next smaller set of those in s -/
theorem sub_pred : ∀ s x I : Nat, x &&& s = x → I &&& s = I → I < x → I ≤ (x - 1) &&& s := by
  intro s
  induction s using Nat.strongRecOn with
  | _ s ih =>
    intro x I hx hI hlt
    have hx0 : 0 < x := by omega
    have hxs : x ≤ s := by rw [← hx]; exact Nat.and_le_right
    have d1 : (x &&& s) / 2 = x / 2 &&& s / 2 := Nat.and_div_two
    have d2 : (I &&& s) / 2 = I / 2 &&& s / 2 := Nat.and_div_two
    have d3 : ((x - 1) &&& s) / 2 = (x - 1) / 2 &&& s / 2 := Nat.and_div_two
    rw [hx] at d1
    rw [hI] at d2
    have m1 : I % 2 ≤ s % 2 := by
      have : (I &&& s) % 2 = I % 2 &&& s % 2 := Nat.and_mod_two_pow (n := 1)
      rw [hI] at this
      rw [this]
      exact Nat.and_le_right
    have m2 : ((x - 1) &&& s) % 2 = (x - 1) % 2 &&& s % 2 := Nat.and_mod_two_pow (n := 1)
    rcases Nat.mod_two_eq_zero_or_one x with hm | hm
    · have e1 : (x - 1) % 2 = 1 := by omega
      have e2 : (x - 1) / 2 = x / 2 - 1 := by omega
      have h1 := ih (s / 2) (by omega) (x / 2) (I / 2) d1.symm d2.symm (by omega)
      rw [e2] at d3
      rw [← d3] at h1
      rw [e1] at m2
      have m3 : 1 &&& s % 2 = s % 2 := by
        rcases Nat.mod_two_eq_zero_or_one s with q | q <;> rw [q] <;> rfl
      rw [m3] at m2
      omega
    · have e2 : (x - 1) / 2 = x / 2 := by omega
      rw [e2, ← d1] at d3
      omega
