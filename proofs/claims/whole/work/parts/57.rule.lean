/-! rules: what their codes come to -/
def wrd (c : Nat) : Prop := c < 1000 ∨ (1000 ≤ c ∧ c ≤ 1007) ∨ c = 1100
/-- a step on a stack of sorts (true: a truth) -/
def tS (c : Nat) (ts us : List Bool) : Prop := (wrd c ∧ ts.length < 64 ∧ us = false :: ts) ∨ (c = 3008 ∧ ∃ r, ts = true :: r ∧ us = true :: r) ∨ (3000 ≤ c ∧ c ≤ 3007 ∧ ∃ x y z r, ts = x :: y :: r ∧ us = z :: r ∧ (z = true → 3003 ≤ c) ∧ (3006 ≤ c → x = true ∧ y = true))
def tR (C : Nat → Nat) : Nat → List Bool → Prop
  | 0, ts => ts = []
  | k + 1, ts => ∃ us, tR C k us ∧ tS (C k) us ts
/-- what a word is for a house -/
noncomputable def wv (n : Nat) (B : Nat → Nat) (h c : Nat) : Nat := if c = 1000 then bc 11 (B h) else if c = 1001 then th2 n B h / 2 else if c = 1002 then fo1 n B h else if c = 1003 then ec n B h else if c = 1004 then dm n B else if c = 1005 then mgs n B else if c = 1006 then chi n B (2 ^ n - 1) else if c = 1007 then (if hv n B = -1 then 0 else 1) else if c = 1100 then n else c
def clp (x : Int64) : Int32 := if x ≤ lN 1000000 then (if (-1000000 : Int64) ≤ x then x.toInt32 else (-1000000 : Int64).toInt32) else (lN 1000000).toInt32
def bw (c : Nat) (a b : Int32) : Int32 := if c = 3000 then clp (a.toInt64 + b.toInt64) else if c = 3001 then clp (a.toInt64 - b.toInt64) else if c = 3002 then clp (a.toInt64 * b.toInt64) else if c = 3003 then (if a = b then nI 1 else nI 0) else if c = 3004 then (if b ≤ a then nI 0 else nI 1) else if c = 3005 then (if a ≤ b then nI 0 else nI 1) else if c = 3006 then (if a + b = nI 2 then nI 1 else nI 0) else (if a + b ≤ nI 0 then nI 0 else nI 1)
noncomputable def eS (n : Nat) (B : Nat → Nat) (h c : Nat) (vs : List Int32) : List Int32 :=
  if c < 3000 then nI (wv n B h c) :: vs else if c = 3008 then (match vs with | v :: r => (nI 1 - v) :: r | [] => []) else (match vs with | b :: a :: r => bw c a b :: r | _ => vs)
noncomputable def eR (n : Nat) (B : Nat → Nat) (h : Nat) (C : Nat → Nat) : Nat → List Int32
  | 0 => []
  | k + 1 => eS n B h (C k) (eR n B h C k)
/-- values are of their sorts -/
def tV : List Bool → List Int32 → Prop
  | [], [] => True
  | t :: ts, v :: vs => (t = true → v = nI 0 ∨ v = nI 1) ∧ tV ts vs
  | _, _ => False
theorem tV_len : ∀ {ts : List Bool} {vs : List Int32}, tV ts vs → vs.length = ts.length := by
  intro ts
  induction ts with
  | nil => intro vs h; cases vs with
    | nil => rfl
    | cons v vs => exact h.elim
  | cons t ts ih => intro vs h; cases vs with
    | nil => exact h.elim
    | cons v vs => simp only [List.length_cons, ih h.2]
theorem wrd_lt {c : Nat} (h : wrd c) : c < 3000 := by unfold wrd at h; omega
theorem eS_w {n : Nat} {B : Nat → Nat} {h c : Nat} (hc : c < 3000) (vs : List Int32) : eS n B h c vs = nI (wv n B h c) :: vs := by unfold eS; rw [if_pos hc]
theorem eS_n {n : Nat} {B : Nat → Nat} {h : Nat} (v : Int32) (vs : List Int32) : eS n B h 3008 (v :: vs) = (nI 1 - v) :: vs := by unfold eS; rw [if_neg (by decide), if_pos rfl]
theorem eS_b {n : Nat} {B : Nat → Nat} {h c : Nat} (h1 : 3000 ≤ c) (h2 : c ≤ 3007) (a b : Int32) (vs : List Int32) : eS n B h c (b :: a :: vs) = bw c a b :: vs := by unfold eS; rw [if_neg (by omega), if_neg (by omega)]
theorem bw_t {c : Nat} (h1 : 3003 ≤ c) (a b : Int32) : bw c a b = nI 0 ∨ bw c a b = nI 1 := by
  unfold bw
  rw [if_neg (by omega), if_neg (by omega), if_neg (by omega)]
  repeat' split
  all_goals first | exact Or.inl rfl | exact Or.inr rfl
theorem tS_V {n : Nat} {B : Nat → Nat} {h c : Nat} {ts us : List Bool} {vs : List Int32} (hs : tS c ts us) (hv : tV ts vs) : tV us (eS n B h c vs) := by
  rcases hs with ⟨h1, -, rfl⟩ | ⟨rfl, r, rfl, rfl⟩ | ⟨h1, h2, x, y, z, r, rfl, rfl, h3, h4⟩
  · rw [eS_w (wrd_lt h1)]; exact ⟨fun q => (by cases q), hv⟩
  · cases vs with
    | nil => exact hv.elim
    | cons v vs =>
      rw [eS_n]
      refine ⟨fun _ => ?_, hv.2⟩
      rcases hv.1 rfl with rfl | rfl
      · exact Or.inr (by decide)
      · exact Or.inl (by decide)
  · cases vs with
    | nil => exact hv.elim
    | cons b vs =>
      cases vs with
      | nil => exact hv.2.elim
      | cons a vs =>
        rw [eS_b h1 h2]
        exact ⟨fun q => bw_t (h3 q) a b, hv.2.2⟩
theorem tR_V {n : Nat} {B : Nat → Nat} {h : Nat} {C : Nat → Nat} : ∀ {k : Nat} {ts : List Bool}, tR C k ts → tV ts (eR n B h C k) := by
  intro k
  induction k with
  | zero => intro ts q; cases q; trivial
  | succ k ih => intro ts q; obtain ⟨us, q1, q2⟩ := q; exact tS_V q2 (ih q1)
theorem tS_len {c : Nat} {ts us : List Bool} (hs : tS c ts us) (h : ts.length ≤ 64) : us.length ≤ 64 := by
  rcases hs with ⟨-, h1, rfl⟩ | ⟨-, r, rfl, rfl⟩ | ⟨-, -, x, y, z, r, rfl, rfl, -⟩
  · simp only [List.length_cons]; omega
  · exact h
  · simp only [List.length_cons] at h ⊢; omega
theorem tR_len {C : Nat → Nat} : ∀ {k : Nat} {ts : List Bool}, tR C k ts → ts.length ≤ 64 := by
  intro k
  induction k with
  | zero => intro ts q; cases q; exact Nat.zero_le _
  | succ k ih => intro ts q; obtain ⟨us, q1, q2⟩ := q; exact tS_len q2 (ih q1)
theorem tR_pre {C : Nat → Nat} : ∀ {m : Nat} {ts : List Bool}, tR C m ts → ∀ j, j < m → ∃ us vs, tR C j us ∧ tR C (j + 1) vs ∧ tS (C j) us vs := by
  intro m
  induction m with
  | zero => intro ts _ j hj; omega
  | succ m ih =>
    intro ts q j hj
    obtain ⟨us, q1, q2⟩ := id q
    by_cases h : j = m
    · subst h; exact ⟨us, ts, q1, q, q2⟩
    · exact ih q1 j (by omega)
/-- a stack in a row -/
def stk (f : Nat → Int32) : List Int32 → Prop
  | [] => True
  | v :: vs => f vs.length = v ∧ stk f vs
theorem stk_up {f g : Nat → Int32} : ∀ {vs : List Int32}, (∀ i, i < vs.length → g i = f i) → stk f vs → stk g vs := by
  intro vs
  induction vs with
  | nil => intro _ _; trivial
  | cons v vs ih =>
    intro h q
    exact ⟨by rw [h _ (by simp)]; exact q.1, ih (fun i hi => h i (by simp only [List.length_cons]; omega)) q.2⟩
/-- whether a rule of m codes holds of a house -/
noncomputable def rh (n : Nat) (B : Nat → Nat) (h : Nat) (C : Nat → Nat) (m : Nat) : Bool := decide ((eR n B h C m).getD 0 0 = nI 1)
theorem rh_one {n : Nat} {B : Nat → Nat} {h : Nat} {C : Nat → Nat} {m : Nat} (q : tR C m [true]) : ∃ v, eR n B h C m = [v] ∧ (v = nI 0 ∨ v = nI 1) := by
  have h1 := tR_V (n := n) (B := B) (h := h) q
  cases hv : eR n B h C m with
  | nil => rw [hv] at h1; exact h1.elim
  | cons v vs =>
    rw [hv] at h1
    cases vs with
    | nil => exact ⟨v, rfl, h1.1 rfl⟩
    | cons w vs => exact h1.2.elim
section
variable {σ τ : px_M} {t n : Nat} {B : Nat → Nat}
/-! the model -/
def rS (l _ : Nat) : Bool := l == 15 || l == 16 || l == 17
theorem rS_15 : ∀ l j, rS l j = false → on 15 l j = false := fun l j h => by
  simp only [rS, Bool.or_eq_false_iff] at h; exact h.1.1
theorem rS_16 : ∀ l j, rS l j = false → on 16 l j = false := fun l j h => by
  simp only [rS, Bool.or_eq_false_iff] at h; exact h.1.2
theorem mo_rS (h : fr rS σ τ) (hm : mo σ n B) : mo τ n B := mo_fr h (fun _ => rfl) hm
theorem e_wordOf (hm : mo σ n B) {h c : Nat} (hh : h < n) (hc : wrd c) : ∃ υ, f_46 tT σ 0 (nI c) (nI h) = some (nI (wv n B h c), υ) ∧ fr rS σ υ ∧ ∀ j, υ.1 17 j = σ.1 17 j := by
  have hw := hm.2.1
  have hn := hw.1
  have hB := wf_2048 hw h
  have hc3 : c < 2 ^ 31 := by unfold wrd at hc; omega
  have ne : ∀ k, k < 2 ^ 31 → c ≠ k → ¬ nI c = nI k := fun k hk hck => by rw [nI_eq hc3 hk]; exact hck
  unfold f_46 wv
  by_cases h0 : c = 1000
  · subst h0
    refine ⟨σ, ?_, fr_rf _ _, fun _ => rfl⟩
    simp only [la_0, gd_tt, oA_arr, px_obj_s, Option.bind_some, Option.map_some, Option.bind_none, eq_self, true_or, or_true, px_av_0, px_av_1, px_av_2, px_av_10, px_av_11, bn, wi_1, wi_2, wl_1, wl_21, wl_22, wr_1, wr_21, wr_22, Sum.elim_inl, Sum.elim_inr, ↓reduceIte, Nat.reduceLT, Nat.reduceLeDiff, not_false_eq_true, not_true_eq_false, Nat.reduceEqDiff, Nat.reduceAdd, reduceCtorEq, and_true, true_and, and_false, false_and, false_or, or_false, e_near hm (show h < 11 by omega), e_bitsOf _ (show B h < 2 ^ 31 by omega)]
  rw [if_neg (ne _ (by decide) h0), if_neg h0]
  by_cases h1 : c = 1001
  · subst h1
    refine ⟨σ, ?_, fr_rf _ _, fun _ => rfl⟩
    simp only [la_0, gd_tt, oA_arr, px_obj_s, Option.bind_some, Option.map_some, Option.bind_none, eq_self, true_or, or_true, px_av_0, px_av_1, px_av_2, px_av_10, px_av_11, bn, wi_1, wi_2, wl_1, wl_21, wl_22, wr_1, wr_21, wr_22, Sum.elim_inl, Sum.elim_inr, ↓reduceIte, Nat.reduceLT, Nat.reduceLeDiff, not_false_eq_true, not_true_eq_false, Nat.reduceEqDiff, Nat.reduceAdd, reduceCtorEq, and_true, true_and, and_false, false_and, false_or, or_false, e_threesOf hm (show h < 11 by omega)]
  rw [if_neg (ne _ (by decide) h1), if_neg h1]
  by_cases h2 : c = 1002
  · subst h2
    refine ⟨σ, ?_, fr_rf _ _, fun _ => rfl⟩
    simp only [la_0, gd_tt, oA_arr, px_obj_s, Option.bind_some, Option.map_some, Option.bind_none, eq_self, true_or, or_true, px_av_0, px_av_1, px_av_2, px_av_10, px_av_11, bn, wi_1, wi_2, wl_1, wl_21, wl_22, wr_1, wr_21, wr_22, Sum.elim_inl, Sum.elim_inr, ↓reduceIte, Nat.reduceLT, Nat.reduceLeDiff, not_false_eq_true, not_true_eq_false, Nat.reduceEqDiff, Nat.reduceAdd, reduceCtorEq, and_true, true_and, and_false, false_and, false_or, or_false, e_foursOf hm (show h < 11 by omega)]
  rw [if_neg (ne _ (by decide) h2), if_neg h2]
  by_cases h3 : c = 1003
  · subst h3
    obtain ⟨υ, q1, q2, -⟩ := e_laysFar hm hh
    refine ⟨υ, ?_, fr_mono q2 rS_15, fun j => q2.1 17 j rfl⟩
    simp only [la_0, gd_tt, oA_arr, px_obj_s, Option.bind_some, Option.map_some, Option.bind_none, eq_self, true_or, or_true, px_av_0, px_av_1, px_av_2, px_av_10, px_av_11, bn, wi_1, wi_2, wl_1, wl_21, wl_22, wr_1, wr_21, wr_22, Sum.elim_inl, Sum.elim_inr, ↓reduceIte, Nat.reduceLT, Nat.reduceLeDiff, not_false_eq_true, not_true_eq_false, Nat.reduceEqDiff, Nat.reduceAdd, reduceCtorEq, and_true, true_and, and_false, false_and, false_or, or_false, q1]
  rw [if_neg (ne _ (by decide) h3), if_neg h3]
  by_cases h4 : c = 1004
  · subst h4
    refine ⟨σ, ?_, fr_rf _ _, fun _ => rfl⟩
    simp only [la_0, gd_tt, oA_arr, px_obj_s, Option.bind_some, Option.map_some, Option.bind_none, eq_self, true_or, or_true, px_av_0, px_av_1, px_av_2, px_av_10, px_av_11, bn, wi_1, wi_2, wl_1, wl_21, wl_22, wr_1, wr_21, wr_22, Sum.elim_inl, Sum.elim_inr, ↓reduceIte, Nat.reduceLT, Nat.reduceLeDiff, not_false_eq_true, not_true_eq_false, Nat.reduceEqDiff, Nat.reduceAdd, reduceCtorEq, and_true, true_and, and_false, false_and, false_or, or_false, e_doorMany hm]
  rw [if_neg (ne _ (by decide) h4), if_neg h4]
  by_cases h5 : c = 1005
  · subst h5
    obtain ⟨b, b1, b2⟩ := mgs_some (n := n) (B := B)
    have hbl := fwo_lt b1
    have hp := pw_le hn
    have e1 : f_41 tT σ 0 (nI 0) = some (nI b) := by rw [e_feastWith hm (by decide), b1]; rfl
    refine ⟨σ, ?_, fr_rf _ _, fun _ => rfl⟩
    simp only [la_0, gd_tt, oA_arr, px_obj_s, Option.bind_some, Option.map_some, Option.bind_none, eq_self, true_or, or_true, px_av_0, px_av_1, px_av_2, px_av_10, px_av_11, bn, wi_1, wi_2, wl_1, wl_21, wl_22, wr_1, wr_21, wr_22, Sum.elim_inl, Sum.elim_inr, ↓reduceIte, Nat.reduceLT, Nat.reduceLeDiff, not_false_eq_true, not_true_eq_false, Nat.reduceEqDiff, Nat.reduceAdd, reduceCtorEq, and_true, true_and, and_false, false_and, false_or, or_false, e1, e_bitsOf _ (show b < 2 ^ 31 by omega), b2]
  rw [if_neg (ne _ (by decide) h5), if_neg h5]
  by_cases h6 : c = 1006
  · subst h6
    obtain ⟨υ, q1, q2, -⟩ := e_fewest hm (bt_all hn)
    refine ⟨υ, ?_, fr_mono q2 rS_16, fun j => q2.1 17 j rfl⟩
    simp only [la_0, gd_tt, oA_arr, px_obj_s, Option.bind_some, Option.map_some, Option.bind_none, eq_self, true_or, or_true, px_av_0, px_av_1, px_av_2, px_av_10, px_av_11, bn, wi_1, wi_2, wl_1, wl_21, wl_22, wr_1, wr_21, wr_22, Sum.elim_inl, Sum.elim_inr, ↓reduceIte, Nat.reduceLT, Nat.reduceLeDiff, not_false_eq_true, not_true_eq_false, Nat.reduceEqDiff, Nat.reduceAdd, reduceCtorEq, and_true, true_and, and_false, false_and, false_or, or_false, q1]
  rw [if_neg (ne _ (by decide) h6), if_neg h6]
  by_cases h7 : c = 1007
  · subst h7
    obtain ⟨υ, q1, q2⟩ := e_half hm
    refine ⟨υ, ?_, fr_mono q2 rS_15, fun j => q2.1 17 j rfl⟩
    by_cases hq : hv n B = -1
    · simp only [la_0, gd_tt, oA_arr, px_obj_s, Option.bind_some, Option.map_some, Option.bind_none, eq_self, true_or, or_true, px_av_0, px_av_1, px_av_2, px_av_10, px_av_11, bn, wi_1, wi_2, wl_1, wl_21, wl_22, wr_1, wr_21, wr_22, Sum.elim_inl, Sum.elim_inr, ↓reduceIte, Nat.reduceLT, Nat.reduceLeDiff, not_false_eq_true, not_true_eq_false, Nat.reduceEqDiff, Nat.reduceAdd, reduceCtorEq, and_true, true_and, and_false, false_and, false_or, or_false, q1, hq, f_46_139]
    · simp only [la_0, gd_tt, oA_arr, px_obj_s, Option.bind_some, Option.map_some, Option.bind_none, eq_self, true_or, or_true, px_av_0, px_av_1, px_av_2, px_av_10, px_av_11, bn, wi_1, wi_2, wl_1, wl_21, wl_22, wr_1, wr_21, wr_22, Sum.elim_inl, Sum.elim_inr, ↓reduceIte, Nat.reduceLT, Nat.reduceLeDiff, not_false_eq_true, not_true_eq_false, Nat.reduceEqDiff, Nat.reduceAdd, reduceCtorEq, and_true, true_and, and_false, false_and, false_or, or_false, q1, hq, f_46_143]
  rw [if_neg (ne _ (by decide) h7), if_neg h7]
  by_cases h8 : c = 1100
  · subst h8
    refine ⟨σ, ?_, fr_rf _ _, fun _ => rfl⟩
    obtain ⟨hR, -, e1, -⟩ := id hm
    have c1 : vp_in (nI 1) 3216 := (vp_in_eq (by omega)).mpr (by omega)
    have c2 : (nI 1).toNatClampNeg = 1 := nI_clamp (by omega)
    simp only [la_0, la_1, rm_0_1 hR, gd_tt, oA_arr, px_obj_s, Option.bind_some, Option.map_some, Option.bind_none, eq_self, true_or, or_true, px_av_0, px_av_1, px_av_2, px_av_10, px_av_11, bn, wi_1, wi_2, wl_1, wl_21, wl_22, wr_1, wr_21, wr_22, Sum.elim_inl, Sum.elim_inr, ↓reduceIte, Nat.reduceLT, Nat.reduceLeDiff, not_false_eq_true, not_true_eq_false, Nat.reduceEqDiff, Nat.reduceAdd, reduceCtorEq, and_true, true_and, and_false, false_and, false_or, or_false, c1, c2, e1]
  rw [if_neg (ne _ (by decide) h8), if_neg h8]
  exact ⟨σ, rfl, fr_rf _ _, fun _ => rfl⟩
theorem e_between (σ : px_M) {c : Nat} (h1 : 3000 ≤ c) (h2 : c ≤ 3007) (a b : Int32) : f_47 tT σ (nI c) a b = some (bw c a b) := by
  have e43 : ∀ x : Int64, f_47_43 tT σ x = some (clp x) := fun x => by
    unfold f_47_43 clp
    repeat' split
    all_goals rfl
  have e0 : f_47_168 tT σ (nI 0) = some (nI 0) := rfl
  have e1 : f_47_168 tT σ (nI 1) = some (nI 1) := rfl
  have hc : c = 3000 ∨ c = 3001 ∨ c = 3002 ∨ c = 3003 ∨ c = 3004 ∨ c = 3005 ∨ c = 3006 ∨ c = 3007 := by omega
  rcases hc with rfl | rfl | rfl | rfl | rfl | rfl | rfl | rfl
  · show f_47_43 tT σ (a.toInt64 + b.toInt64) = _
    rw [e43]; rfl
  · show f_47_43 tT σ (a.toInt64 - b.toInt64) = _
    rw [e43]; rfl
  · show f_47_43 tT σ (a.toInt64 * b.toInt64) = _
    rw [e43]; rfl
  · show bn (a = b) (f_47_168 tT σ (nI 0)) (f_47_168 tT σ (nI 1)) = some (if a = b then nI 1 else nI 0)
    rw [e0, e1]; unfold bn; split <;> rfl
  · show (if b ≤ a then f_47_168 tT σ (nI 0) else f_47_168 tT σ (nI 1)) = some (if b ≤ a then nI 0 else nI 1)
    rw [e0, e1]; split <;> rfl
  · show (if a ≤ b then f_47_168 tT σ (nI 0) else f_47_168 tT σ (nI 1)) = some (if a ≤ b then nI 0 else nI 1)
    rw [e0, e1]; split <;> rfl
  · show bn (a + b = nI 2) (f_47_168 tT σ (nI 0)) (f_47_168 tT σ (nI 1)) = some (if a + b = nI 2 then nI 1 else nI 0)
    rw [e0, e1]; unfold bn; split <;> rfl
  · show (if a + b ≤ nI 0 then f_47_168 tT σ (nI 0) else f_47_168 tT σ (nI 1)) = some (if a + b ≤ nI 0 then nI 0 else nI 1)
    rw [e0, e1]; split <;> rfl
/-- the rules: how many, where each begins, the codes -/
def rul (nr : Nat) (S C : Nat → Nat) : Prop := nr ≤ 6 ∧ S 0 = 0 ∧ (∀ r, r < nr → S r ≤ S (r + 1)) ∧ S nr ≤ 900 ∧ ∀ r, r < nr → tR (fun k => C (S r + k)) (S (r + 1) - S r) [true]
theorem rul_le {nr : Nat} {S C : Nat → Nat} (h : rul nr S C) : ∀ a b, a ≤ b → b ≤ nr → S a ≤ S b := by
  intro a b hab
  induction b with
  | zero => intro _; have : a = 0 := by omega
            subst this; exact Nat.le_refl _
  | succ b ih =>
    intro hb
    by_cases q : a = b + 1
    · subst q; exact Nat.le_refl _
    · exact Nat.le_trans (ih (by omega) (by omega)) (h.2.2.1 b (by omega))
/-- in the model's row -/
def mru (σ : px_M) (off nr : Nat) (S C : Nat → Nat) : Prop := σ.1 1 (off + 158) = nI nr ∧ (∀ r, r < nr → σ.1 1 (off + 159 + r) = nI (S r) ∧ σ.1 1 (off + 165 + r) = nI (S (r + 1) - S r)) ∧ ∀ i, i < S nr → σ.1 1 (off + 172 + i) = nI (C i)
theorem mru_fr {S : Nat → Nat → Bool} {off nr : Nat} {Z C : Nat → Nat} (h : fr S σ τ) (h1 : ∀ j, off + 158 ≤ j → S 1 j = false) (hr : mru σ off nr Z C) : mru τ off nr Z C := ⟨by rw [h.1 1 _ (h1 _ (by omega))]; exact hr.1, fun r hr2 => ⟨by rw [h.1 1 _ (h1 _ (by omega))]; exact (hr.2.1 r hr2).1, by rw [h.1 1 _ (h1 _ (by omega))]; exact (hr.2.1 r hr2).2⟩, fun i hi => by rw [h.1 1 _ (h1 _ (by omega))]; exact hr.2.2 i hi⟩
/-- rule r holds of house h -/
noncomputable def rhr (n : Nat) (B : Nat → Nat) (S C : Nat → Nat) (r h : Nat) : Bool := rh n B h (fun k => C (S r + k)) (S (r + 1) - S r)
theorem e_ruleHolds (hm : mo σ n B) {nr : Nat} {S C : Nat → Nat} (hru : rul nr S C) (hr : mru σ 0 nr S C) {r h : Nat} (hrn : r < nr) (hh : h < n) : ∃ υ, f_48 tT σ 0 (nI r) (nI h) = some (mb (rhr n B S C r h), υ) ∧ fr rS σ υ := by
  have hw := hm.2.1
  have hn := hw.1
  obtain ⟨r1, r2, r3⟩ := hr
  obtain ⟨s1, s2⟩ := r2 r hrn
  have u6 := hru.1
  have ule := rul_le hru
  have u900 := hru.2.2.2.1
  have hty := hru.2.2.2.2 r hrn
  have hS1 := ule (r + 1) nr (by omega) (Nat.le_refl _)
  have hS0 := hru.2.2.1 r hrn
  unfold rhr
  generalize hD : (fun k => C (S r + k)) = D at hty
  generalize hM : S (r + 1) - S r = M at hty s2
  have hDk : ∀ k, D k = C (S r + k) := fun k => by rw [← hD]
  unfold f_48 f_48_5
  obtain ⟨b, q1, υ, rfl, q2⟩ := lp_for (F := fun s : Int32 × Int32 × px_M => F_48_5 tT 0 (nI r) (nI h) s.1 s.2.1 s.2.2) (fun j q => ∃ ρ, q = (nI (eR n B h D j).length, nI j, ρ) ∧ fr rS σ ρ ∧ stk (ρ.1 17) (eR n B h D j)) (fun b => ∃ υ, b = (mb (rh n B h D M), υ) ∧ fr rS σ υ) M (fun j q hj hI => by
    obtain ⟨ρ, rfl, g1, g2⟩ := hI
    have hmρ := mo_rS g1 hm
    obtain ⟨hR, -, -, -⟩ := id hmρ
    obtain ⟨ts, us, t1, t2, t3⟩ := tR_pre hty j hj
    have t4 := tR_len t1
    have t5 := tR_V (n := n) (B := B) (h := h) t1
    have t6 := tV_len t5
    have v1 : ρ.1 1 (159 + r) = nI (S r) := by rw [g1.1 1 _ rfl]; rw [Nat.zero_add] at s1; exact s1
    have v2 : ρ.1 1 (165 + r) = nI M := by rw [g1.1 1 _ rfl]; rw [Nat.zero_add] at s2; exact s2
    have v3 : ρ.1 1 (172 + S r + j) = nI (D j) := by
      rw [g1.1 1 _ rfl, hDk]
      have := r3 (S r + j) (by omega)
      rw [show 0 + 172 + (S r + j) = 172 + S r + j by omega] at this
      exact this
    have hDl : D j < 2 ^ 31 := by
      rcases t3 with ⟨w, -⟩ | ⟨w, -⟩ | ⟨-, w, -⟩
      · have := wrd_lt w; omega
      · omega
      · omega
    have c1 : vp_in (nI (159 + r)) 3216 := (vp_in_eq (by omega)).mpr (by omega)
    have c2 : (nI (159 + r)).toNatClampNeg = 159 + r := nI_clamp (by omega)
    have c3 : vp_in (nI (165 + r)) 3216 := (vp_in_eq (by omega)).mpr (by omega)
    have c4 : (nI (165 + r)).toNatClampNeg = 165 + r := nI_clamp (by omega)
    have c5 : vp_in (nI (172 + S r + j)) 3216 := (vp_in_eq (by omega)).mpr (by omega)
    have c6 : (nI (172 + S r + j)).toNatClampNeg = 172 + S r + j := nI_clamp (by omega)
    have a1 : ¬ nI M ≤ nI j := by rw [nI_leI (by omega) (by omega)]; omega
    have hes : eR n B h D (j + 1) = eS n B h (D j) (eR n B h D j) := rfl
    rw [hes]
    generalize hV : eR n B h D j = vs at g2 t5 t6
    rcases t3 with ⟨w1, w2, rfl⟩ | ⟨w1, rr, rfl, rfl⟩ | ⟨w1, w2, x, y, z, rr, rfl, rfl, -⟩
    · -- a word
      obtain ⟨υ, q1, q2, q3⟩ := e_wordOf hmρ hh w1
      have hl := wrd_lt w1
      have a2 : ¬ nI 3000 ≤ nI (D j) := by rw [nI_leI (by omega) hDl]; omega
      have d1 : vp_in (nI vs.length) 900 := (vp_in_eq (by omega)).mpr (by omega)
      have d2 : (nI vs.length).toNatClampNeg = vs.length := nI_clamp (by omega)
      rw [eS_w hl]
      refine ⟨(nI (vs.length + 1), nI (j + 1), px_wi υ 17 vs.length (nI (wv n B h (D j)))), ?_, _, rfl, fr_wi (fr_tr g1 q2) _ rfl, ?_, stk_up (fun i hi => ?_) g2⟩
      · dsimp only
        unfold F_48_5 f_48_52 f_48_130
        simp only [la_0, la_1, la_17, rm_0_1 hR, rm_0_17 hR, gd_tt, oA_arr, px_obj_s, Option.bind_some, Option.map_some, Option.bind_none, eq_self, true_or, or_true, px_av_0, px_av_1, px_av_2, px_av_10, px_av_11, bn, wi_1, wi_2, wl_1, wl_21, wl_22, wr_1, wr_21, wr_22, Sum.elim_inl, Sum.elim_inr, ↓reduceIte, Nat.reduceLT, Nat.reduceLeDiff, not_false_eq_true, not_true_eq_false, Nat.reduceEqDiff, Nat.reduceAdd, reduceCtorEq, and_true, true_and, and_false, false_and, false_or, or_false, nI_add, c1, c2, c3, c4, v1, v2, a1, c5, c6, v3, a2, q1, d1, d2]
      · exact wi_s _ _ _ _
      · show px_up υ.1 17 vs.length _ 17 i = _
        rw [up_s, if_neg (by omega)]; exact q3 i
    · -- not
      cases vs with
      | nil => exact t5.elim
      | cons v vs =>
        have hDj : D j = 3008 := w1
        have a2 : nI 3000 ≤ nI 3008 := by decide
        have a3 : nI (D j) = nI 3008 := by rw [hDj]
        simp only [List.length_cons] at t6 t4
        have d1 : vp_in (nI vs.length) 900 := (vp_in_eq (by omega)).mpr (by omega)
        have d2 : (nI vs.length).toNatClampNeg = vs.length := nI_clamp (by omega)
        have d3 : nI (vs.length + 1) - nI 1 = nI vs.length := by rw [ni_subL (by omega)]; rfl
        have d4 := g2.1
        rw [hDj, eS_n]
        refine ⟨(nI (vs.length + 1), nI (j + 1), px_wi ρ 17 vs.length (nI 1 - v)), ?_, _, rfl, fr_wi g1 _ rfl, wi_s _ _ _ _, stk_up (fun i hi => ?_) g2.2⟩
        · dsimp only
          unfold F_48_5 f_48_71 f_48_130
          simp only [la_0, la_1, la_17, rm_0_1 hR, rm_0_17 hR, gd_tt, oA_arr, px_obj_s, Option.bind_some, Option.map_some, Option.bind_none, eq_self, true_or, or_true, px_av_0, px_av_1, px_av_2, px_av_10, px_av_11, bn, wi_1, wi_2, wl_1, wl_21, wl_22, wr_1, wr_21, wr_22, Sum.elim_inl, Sum.elim_inr, ↓reduceIte, Nat.reduceLT, Nat.reduceLeDiff, not_false_eq_true, not_true_eq_false, Nat.reduceEqDiff, Nat.reduceAdd, reduceCtorEq, and_true, true_and, and_false, false_and, false_or, or_false, nI_add, c1, c2, c3, c4, v1, v2, a1, c5, c6, v3, a2, a3, List.length_cons, d3, d1, d2, d4]
        · show px_up ρ.1 17 vs.length _ 17 i = _
          rw [up_s, if_neg (by omega)]
    · cases vs with
      | nil => exact t5.elim
      | cons b vs =>
        cases vs with
        | nil => exact t5.2.elim
        | cons a vs =>
          have a2 : nI 3000 ≤ nI (D j) := by rw [nI_leI (by omega) hDl]; omega
          have a3 : ¬ nI (D j) = nI 3008 := by rw [nI_eq hDl (by omega)]; omega
          simp only [List.length_cons] at t6 t4
          have m1 : nI (vs.length + 1 + 1) + (-1) = nI (vs.length + 1) := by rw [show (-1 : Int32) = -(nI 1) from rfl, ← Int32.sub_eq_add_neg, ni_subL (by omega)]; rfl
          have m2 : nI (vs.length + 1) - nI 1 = nI vs.length := by rw [ni_subL (by omega)]; rfl
          have d1 : vp_in (nI vs.length) 900 := (vp_in_eq (by omega)).mpr (by omega)
          have d2 : (nI vs.length).toNatClampNeg = vs.length := nI_clamp (by omega)
          have d3 : vp_in (nI (vs.length + 1)) 900 := (vp_in_eq (by omega)).mpr (by omega)
          have d4 : (nI (vs.length + 1)).toNatClampNeg = vs.length + 1 := nI_clamp (by omega)
          have d5 : ρ.1 17 (vs.length + 1) = b := g2.1
          have d6 : ρ.1 17 vs.length = a := g2.2.1
          rw [eS_b w1 w2]
          refine ⟨(nI (vs.length + 1), nI (j + 1), px_wi ρ 17 vs.length (bw (D j) a b)), ?_, _, rfl, fr_wi g1 _ rfl, wi_s _ _ _ _, stk_up (fun i hi => ?_) g2.2.2⟩
          · dsimp only
            unfold F_48_5 f_48_71 f_48_126 f_48_130
            simp only [la_0, la_1, la_17, rm_0_1 hR, rm_0_17 hR, gd_tt, oA_arr, px_obj_s, Option.bind_some, Option.map_some, Option.bind_none, eq_self, true_or, or_true, px_av_0, px_av_1, px_av_2, px_av_10, px_av_11, bn, wi_1, wi_2, wl_1, wl_21, wl_22, wr_1, wr_21, wr_22, Sum.elim_inl, Sum.elim_inr, ↓reduceIte, Nat.reduceLT, Nat.reduceLeDiff, not_false_eq_true, not_true_eq_false, Nat.reduceEqDiff, Nat.reduceAdd, reduceCtorEq, and_true, true_and, and_false, false_and, false_or, or_false, nI_add, c1, c2, c3, c4, v1, v2, a1, c5, c6, v3, a2, a3, List.length_cons, m1, m2, d1, d2, d3, d4, d5, d6, e_between ρ w1 w2]
          · show px_up ρ.1 17 vs.length _ 17 i = _
            rw [up_s, if_neg (by omega)]) (fun q hI => by
    obtain ⟨ρ, rfl, g1, g2⟩ := hI
    have hmρ := mo_rS g1 hm
    obtain ⟨hR, -, -, -⟩ := id hmρ
    obtain ⟨v, w1, w2⟩ := rh_one (n := n) (B := B) (h := h) hty
    have v2 : ρ.1 1 (165 + r) = nI M := by rw [g1.1 1 _ rfl]; rw [Nat.zero_add] at s2; exact s2
    have c3 : vp_in (nI (165 + r)) 3216 := (vp_in_eq (by omega)).mpr (by omega)
    have c4 : (nI (165 + r)).toNatClampNeg = 165 + r := nI_clamp (by omega)
    have a1 : nI M ≤ nI M := by rw [nI_leI (by omega) (by omega)]; omega
    have d1 : vp_in (nI 0) 900 := (vp_in_eq (by omega)).mpr (by omega)
    have d2 : (nI 0).toNatClampNeg = 0 := nI_clamp (by omega)
    rw [w1] at g2
    have d3 : ρ.1 17 0 = v := g2.1
    refine ⟨(mb (rh n B h D M), ρ), ?_, ρ, rfl, g1⟩
    have e : rh n B h D M = decide (v = nI 1) := by unfold rh; rw [w1]; rfl
    rw [e]
    dsimp only
    unfold F_48_5
    rcases w2 with rfl | rfl
    · have z : ¬ (nI 0 = nI 1) := by decide
      simp only [la_0, la_1, la_17, rm_0_1 hR, rm_0_17 hR, gd_tt, oA_arr, px_obj_s, Option.bind_some, Option.map_some, Option.bind_none, eq_self, true_or, or_true, px_av_0, px_av_1, px_av_2, px_av_10, px_av_11, bn, wi_1, wi_2, wl_1, wl_21, wl_22, wr_1, wr_21, wr_22, Sum.elim_inl, Sum.elim_inr, ↓reduceIte, Nat.reduceLT, Nat.reduceLeDiff, not_false_eq_true, not_true_eq_false, Nat.reduceEqDiff, Nat.reduceAdd, reduceCtorEq, and_true, true_and, and_false, false_and, false_or, or_false, nI_add, c3, c4, v2, a1, d1, d2, d3, z, decide_false, mb_f0]
    · simp only [la_0, la_1, la_17, rm_0_1 hR, rm_0_17 hR, gd_tt, oA_arr, px_obj_s, Option.bind_some, Option.map_some, Option.bind_none, eq_self, true_or, or_true, px_av_0, px_av_1, px_av_2, px_av_10, px_av_11, bn, wi_1, wi_2, wl_1, wl_21, wl_22, wr_1, wr_21, wr_22, Sum.elim_inl, Sum.elim_inr, ↓reduceIte, Nat.reduceLT, Nat.reduceLeDiff, not_false_eq_true, not_true_eq_false, Nat.reduceEqDiff, Nat.reduceAdd, reduceCtorEq, and_true, true_and, and_false, false_and, false_or, or_false, nI_add, c3, c4, v2, a1, d1, d2, d3, decide_true, mb_t1]) 0 (nI 0, nI 0, σ) (by omega) ⟨σ, rfl, fr_rf _ _, trivial⟩
  exact ⟨υ, q1, q2⟩
end
