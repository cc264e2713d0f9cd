/-! cures: sets of doors as bits, the earlier the higher -/
def qd (a b : Nat) : Nat := 54 - (a * (21 - a) / 2 + b - a - 1)
def dq (x y : Nat) : Nat := if x < y then qd x y else qd y x
theorem qd_lt (a b : Nat) : qd a b < 55 := by unfold qd; omega
theorem dq_lt (a b : Nat) : dq a b < 55 := by unfold dq; split <;> exact qd_lt _ _
theorem qd_ord0 : ∀ b, b < 11 → ∀ a, a < b → ∀ d, d < 11 → ∀ c, c < d → (100 * a + b < 100 * c + d ↔ qd c d < qd a b) := by decide +kernel
theorem qd_ord (a : Nat) (_ : a < 11) (b : Nat) (hb : b < 11) (hab : a < b) (c : Nat) (_ : c < 11) (d : Nat) (hd : d < 11) (hcd : c < d) : (100 * a + b < 100 * c + d ↔ qd c d < qd a b) := qd_ord0 b hb a hab d hd c hcd
theorem qd_inj {a b c d : Nat} (hab : a < b) (hb : b < 11) (hcd : c < d) (hd : d < 11) (e : qd a b = qd c d) : a = c ∧ b = d := by
  have h1 := qd_ord a (by omega) b hb hab c (by omega) d hd hcd
  have h2 := qd_ord c (by omega) d hd hcd a (by omega) b hb hab
  omega
theorem dq_comm (x y : Nat) : dq x y = dq y x := by
  unfold dq
  by_cases h : x = y
  · subst h; rfl
  · by_cases h1 : x < y
    · rw [if_pos h1, if_neg (by omega)]
    · rw [if_neg h1, if_pos (by omega)]
theorem dq_lo {x y : Nat} (h : x < y) : dq x y = qd x y := by unfold dq; rw [if_pos h]
theorem dq_inj {x y c d : Nat} (hxy : x ≠ y) (hx : x < 11) (hy : y < 11) (hcd : c < d) (hd : d < 11) (e : dq x y = qd c d) : (x = c ∧ y = d) ∨ (x = d ∧ y = c) := by
  unfold dq at e
  by_cases h : x < y
  · rw [if_pos h] at e; have := qd_inj h hy hcd hd e; omega
  · rw [if_neg h] at e; have := qd_inj (show y < x by omega) hx hcd hd e; omega
/-- the town without some doors -/
def rm (B : Nat → Nat) (w : Nat) : Nat → Nat := fun x => bs (fun y => (B x).testBit y && !w.testBit (dq x y)) 11
theorem rm_tb {B : Nat → Nat} (hB : ∀ x, B x < 2048) (w x y : Nat) : (rm B w x).testBit y = ((B x).testBit y && !w.testBit (dq x y)) := by
  unfold rm
  rw [bs_tb]
  by_cases h : y < 11
  · simp [h]
  · rw [tb_big (hB x) (by omega)]; simp
def n3 (n : Nat) (B : Nat → Nat) : Prop := ∀ a b c, a < b → b < c → c < n → ¬ ((B a).testBit b = true ∧ (B a).testBit c = true ∧ (B b).testBit c = true)
def drs (n : Nat) (B : Nat → Nat) (f : Int) (w : Nat) : Prop := ∀ i, w.testBit i = true → ∃ a b, a < b ∧ b < n ∧ (B a).testBit b = true ∧ i = qd a b ∧ f < (100 * a + b : Nat)
/-- doors behind f, at most k, that cure all -/
def cw (n : Nat) (B : Nat → Nat) (k : Nat) (f : Int) (w : Nat) : Prop := drs n B f w ∧ bc 55 w ≤ k ∧ n3 n (rm B w)
/-- without a bit -/
def mns (w i : Nat) : Nat := bs (fun j => w.testBit j && decide (j ≠ i)) 55
section
variable {n : Nat} {B : Nat → Nat} {f : Int}
theorem wf_rm (hw : wf n B) (w : Nat) : wf n (rm B w) := wf_of hw.1 (fun a b h => by
    rw [rm_tb (wf_2048 hw), Bool.and_eq_true] at h
    exact ⟨wf_l hw h.1, wf_r hw h.1⟩) (fun a b => by rw [rm_tb (wf_2048 hw), rm_tb (wf_2048 hw), hw.2.2.2.1, dq_comm]) (fun a => by rw [rm_tb (wf_2048 hw), hw.2.2.2.2, Bool.false_and])
theorem rm_0 (hw : wf n B) : rm B 0 = B := by
  funext x
  apply Nat.eq_of_testBit_eq
  intro y
  rw [rm_tb (wf_2048 hw), Nat.zero_testBit]
  simp
theorem drs_55 {w : Nat} (h : drs n B f w) {i : Nat} (hi : w.testBit i = true) : i < 55 := by
  obtain ⟨a, b, -, -, -, e, -⟩ := h i hi
  rw [e]; exact qd_lt a b
theorem mns_tb {w i : Nat} (h : ∀ j, w.testBit j = true → j < 55) (j : Nat) : (mns w i).testBit j = true ↔ w.testBit j = true ∧ j ≠ i := by
  unfold mns
  rw [bs_tb, Bool.and_eq_true, Bool.and_eq_true, decide_eq_true_eq, decide_eq_true_eq]
  exact ⟨fun q => q.2, fun q => ⟨h j q.1, q⟩⟩
theorem mns_bc {w i : Nat} (h : ∀ j, w.testBit j = true → j < 55) (hi : w.testBit i = true) : bc 55 w = bc 55 (mns w i) + 1 := by
  rw [bc_sm, bc_sm]
  have e : sm (fun j => (w.testBit j).toNat) 55 = sm (fun j => ((mns w i).testBit j).toNat + (if j = i then 1 else 0)) 55 := sm_congr (fun j _ => by
    have := mns_tb (i := i) h j
    by_cases q : j = i
    · subst q
      have z : (mns w j).testBit j = false := by
        cases z : (mns w j).testBit j with
        | false => rfl
        | true => exact absurd rfl (this.mp z).2
      rw [hi, z, if_pos rfl]; rfl
    · rw [if_neg q]
      have z : (mns w i).testBit j = w.testBit j := by rw [Bool.eq_iff_iff, this]; exact ⟨fun u => u.1, fun u => ⟨u, q⟩⟩
      rw [z]; rfl)
  rw [e, sm_add, sm_at (h i hi)]
theorem bc_ss {w v : Nat} (h : ∀ j, w.testBit j = true → j < 55) (hs : ∀ j, v.testBit j = true → w.testBit j = true) (hb : bc 55 w ≤ bc 55 v) : v = w := by
  apply tb_eq
  intro i
  refine ⟨hs i, fun hi => ?_⟩
  cases q : v.testBit i with
  | true => rfl
  | false =>
    have h1 := mns_bc h hi
    have h2 := bc_mono (s := v) (t := mns w i) (fun j hj => (mns_tb h j).mpr ⟨hs j hj, fun e => by rw [e, q] at hj; cases hj⟩) 55
    omega
/-- a door walled, then the rest -/
theorem rm_wl (hw : wf n B) {a b w : Nat} (hab : a < b) (hb : b < n) (hbit : w.testBit (qd a b) = true) : rm (wl B a b) (mns w (qd a b)) = rm B w ∨ ¬ (∀ j, w.testBit j = true → j < 55) := by
  by_cases h : ∀ j, w.testBit j = true → j < 55
  · left
    have hn := hw.1
    have hwl := wf_wl hw (show a ≠ b by omega)
    funext x
    apply tb_eq
    intro y
    rw [rm_tb (wf_2048 hwl), rm_tb (wf_2048 hw), wl_tb (wf_2048 hw) (by omega), Bool.and_eq_true, Bool.and_eq_true, Bool.and_eq_true, Bool.not_eq_true', Bool.not_eq_true', Bool.not_eq_true', decide_eq_false_iff_not]
    constructor
    · rintro ⟨⟨h1, h2⟩, h3⟩
      refine ⟨h1, ?_⟩
      cases q : w.testBit (dq x y) with
      | false => rfl
      | true =>
        exfalso
        have hne : x ≠ y := fun e => by rw [e, hw.2.2.2.2] at h1; cases h1
        have hxn := wf_l hw h1
        have hyn := wf_r hw h1
        have : (mns w (qd a b)).testBit (dq x y) = true := (mns_tb h _).mpr ⟨q, fun e => by
          have := dq_inj hne (by omega) (by omega) hab (by omega) e
          omega⟩
        rw [h3] at this; cases this
    · rintro ⟨h1, h2⟩
      refine ⟨⟨h1, ?_⟩, ?_⟩
      · rintro (⟨rfl, rfl⟩ | ⟨rfl, rfl⟩)
        · rw [dq_lo hab, hbit] at h2; cases h2
        · rw [dq_comm, dq_lo hab, hbit] at h2; cases h2
      · cases q : (mns w (qd a b)).testBit (dq x y) with
        | false => rfl
        | true => rw [((mns_tb h _).mp q).1] at h2; cases h2
  · exact Or.inr h
theorem rm_add (hw : wf n B) {a b w : Nat} (hab : a < b) (hb : b < n) : rm (wl B a b) w = rm B (w ||| 2 ^ qd a b) := by
  have hn := hw.1
  have hwl := wf_wl hw (show a ≠ b by omega)
  funext x
  apply tb_eq
  intro y
  rw [rm_tb (wf_2048 hwl), rm_tb (wf_2048 hw), wl_tb (wf_2048 hw) (by omega), Nat.testBit_or, Nat.testBit_two_pow, Bool.and_eq_true, Bool.and_eq_true, Bool.and_eq_true, Bool.not_eq_true', Bool.not_eq_true', Bool.not_eq_true', decide_eq_false_iff_not, Bool.or_eq_false_iff, decide_eq_false_iff_not]
  constructor
  · rintro ⟨⟨h1, h2⟩, h3⟩
    refine ⟨h1, h3, fun e => ?_⟩
    have hne : x ≠ y := fun e => by rw [e, hw.2.2.2.2] at h1; cases h1
    have hxn := wf_l hw h1
    have hyn := wf_r hw h1
    have := dq_inj hne (by omega) (by omega) hab (by omega) e.symm
    omega
  · rintro ⟨h1, h2, h3⟩
    refine ⟨⟨h1, ?_⟩, h2⟩
    rintro (⟨rfl, rfl⟩ | ⟨rfl, rfl⟩)
    · exact h3 (dq_lo hab).symm
    · exact h3 (by rw [dq_comm, dq_lo hab])
/-- what cures holds a door of each three -/
theorem cw_hit (hw : wf n B) {a b c k w : Nat} (hab : a < b) (hbc : b < c) (hc : c < n) (h1 : (B a).testBit b = true) (h2 : (B a).testBit c = true) (h3 : (B b).testBit c = true) (hcw : cw n B k f w) : w.testBit (qd a b) = true ∨ w.testBit (qd a c) = true ∨ w.testBit (qd b c) = true := by
  apply Classical.byContradiction
  intro hno
  refine hcw.2.2 a b c hab hbc hc ⟨?_, ?_, ?_⟩
  · rw [rm_tb (wf_2048 hw), h1, dq_lo hab, Bool.eq_false_iff.mpr (fun q => hno (Or.inl q))]; rfl
  · rw [rm_tb (wf_2048 hw), h2, dq_lo (by omega), Bool.eq_false_iff.mpr (fun q => hno (Or.inr (Or.inl q)))]; rfl
  · rw [rm_tb (wf_2048 hw), h3, dq_lo hbc, Bool.eq_false_iff.mpr (fun q => hno (Or.inr (Or.inr q)))]; rfl
theorem cw_take (hw : wf n B) {a b k w : Nat} (hab : a < b) (hb : b < n) (hcw : cw n B (k + 1) f w) (hbit : w.testBit (qd a b) = true) : cw n (wl B a b) k f (mns w (qd a b)) := by
  have h55 : ∀ j, w.testBit j = true → j < 55 := fun j hj => drs_55 hcw.1 hj
  have hn := hw.1
  refine ⟨fun i hi => ?_, ?_, ?_⟩
  · obtain ⟨h1, h2⟩ := (mns_tb h55 i).mp hi
    obtain ⟨x, y, z1, z2, z3, z4, z5⟩ := hcw.1 i h1
    refine ⟨x, y, z1, z2, ?_, z4, z5⟩
    rw [wl_tb (wf_2048 hw) (by omega), z3, Bool.true_and, Bool.not_eq_true', decide_eq_false_iff_not]
    rintro (⟨rfl, rfl⟩ | ⟨rfl, rfl⟩)
    · exact h2 z4
    · omega
  · have := mns_bc h55 hbit
    have := hcw.2.1
    omega
  · rcases rm_wl hw hab hb hbit with e | e
    · rw [e]; exact hcw.2.2
    · exact absurd h55 e
theorem cw_add (hw : wf n B) {a b k w : Nat} (hab : a < b) (hb : b < n) (hbit : (B a).testBit b = true) (hf : f < (100 * a + b : Nat)) (hcw : cw n (wl B a b) k f w) : cw n B (k + 1) f (w ||| 2 ^ qd a b) ∧ w.testBit (qd a b) = false := by
  have hn := hw.1
  have hfree : w.testBit (qd a b) = false := by
    cases q : w.testBit (qd a b) with
    | false => rfl
    | true =>
      obtain ⟨x, y, z1, z2, z3, z4, -⟩ := hcw.1 _ q
      obtain ⟨rfl, rfl⟩ := qd_inj hab (by omega) z1 (by omega) z4
      rw [wl_tb (wf_2048 hw) (by omega)] at z3
      simp at z3
  refine ⟨⟨fun i hi => ?_, ?_, ?_⟩, hfree⟩
  · rw [Nat.testBit_or, Nat.testBit_two_pow, Bool.or_eq_true, decide_eq_true_eq] at hi
    rcases hi with hi | hi
    · obtain ⟨x, y, z1, z2, z3, z4, z5⟩ := hcw.1 i hi
      rw [wl_tb (wf_2048 hw) (by omega), Bool.and_eq_true] at z3
      exact ⟨x, y, z1, z2, z3.1, z4, z5⟩
    · exact ⟨a, b, hab, hb, hbit, hi.symm, hf⟩
  · rw [bc_one (qd_lt a b) hfree]
    have := hcw.2.1
    omega
  · rw [← rm_add hw hab hb]; exact hcw.2.2
theorem cw_0 (hw : wf n B) (k : Nat) (h : n3 n B) : cw n B k f 0 := ⟨fun i hi => (by rw [Nat.zero_testBit] at hi; cases hi), by rw [bc_0]; exact Nat.zero_le _, by rw [rm_0 hw]; exact h⟩
theorem cw_k0 (hw : wf n B) {w : Nat} (h : cw n B 0 f w) : n3 n B := by
  have h55 : ∀ j, w.testBit j = true → j < 55 := fun j hj => drs_55 h.1 hj
  have : w = 0 := by
    apply tb_eq
    intro i
    rw [Nat.zero_testBit]
    refine ⟨fun hi => ?_, fun q => by cases q⟩
    have h1 := mns_bc h55 hi
    have h2 := h.2.1
    omega
  have h3 := h.2.2
  rw [this, rm_0 hw] at h3
  exact h3
theorem cw_mono {k k' w : Nat} (hk : k ≤ k') (h : cw n B k f w) : cw n B k' f w := ⟨h.1, Nat.le_trans h.2.1 hk, h.2.2⟩
def cu (n : Nat) (B : Nat → Nat) (k : Nat) (f : Int) : Prop := ∃ w, cw n B k f w
noncomputable def cub (n : Nat) (B : Nat → Nat) (k : Nat) (f : Int) : Bool := @decide (cu n B k f) (Classical.propDecidable _)
theorem cub_t {k : Nat} : cub n B k f = true ↔ cu n B k f := by unfold cub; exact @decide_eq_true_iff _ (Classical.propDecidable _)
theorem cub_f {k : Nat} (h : ¬ cu n B k f) : cub n B k f = false := Bool.eq_false_iff.mpr (fun q => h (cub_t.mp q))
/-- one door of a three is to go -/
theorem cu_three (hw : wf n B) {a b c k : Nat} (hab : a < b) (hbc : b < c) (hc : c < n) (h1 : (B a).testBit b = true) (h2 : (B a).testBit c = true) (h3 : (B b).testBit c = true) : cu n B (k + 1) f ↔ ((f < (100 * a + b : Nat) ∧ cu n (wl B a b) k f) ∨ (f < (100 * a + c : Nat) ∧ cu n (wl B a c) k f) ∨ (f < (100 * b + c : Nat) ∧ cu n (wl B b c) k f)) := by
  have hn := hw.1
  have fb : ∀ {x y w : Nat}, x < y → y < n → cw n B (k + 1) f w → w.testBit (qd x y) = true → f < (100 * x + y : Nat) := fun hxy hy hcw hb => by
    obtain ⟨x', y', z1, z2, z3, z4, z5⟩ := hcw.1 _ hb
    obtain ⟨rfl, rfl⟩ := qd_inj hxy (by omega) z1 (by omega) z4
    exact z5
  constructor
  · rintro ⟨w, hcw⟩
    rcases cw_hit hw hab hbc hc h1 h2 h3 hcw with q | q | q
    · exact Or.inl ⟨fb hab (by omega) hcw q, _, cw_take hw hab (by omega) hcw q⟩
    · exact Or.inr (Or.inl ⟨fb (by omega) hc hcw q, _, cw_take hw (by omega) hc hcw q⟩)
    · exact Or.inr (Or.inr ⟨fb hbc hc hcw q, _, cw_take hw hbc hc hcw q⟩)
  · rintro (⟨q1, w, q2⟩ | ⟨q1, w, q2⟩ | ⟨q1, w, q2⟩)
    · exact ⟨_, (cw_add hw hab (by omega) h1 q1 q2).1⟩
    · exact ⟨_, (cw_add hw (by omega) hc h2 q1 q2).1⟩
    · exact ⟨_, (cw_add hw hbc hc h3 q1 q2).1⟩
end
