/-! the market: what walls and doors are worth -/
theorem sub_ti {x y : Nat} (hx : x < 2 ^ 30) (hy : y < 2 ^ 30) : (nI x - nI y).toInt = (x : Int) - y := by
  rw [Int32.toInt_sub, nI_toInt (by omega), nI_toInt (by omega), Int.bmod_eq_of_le (by omega) (by omega)]
def wI (n : Nat) (B : Nat → Nat) (h : Nat) : Int := (wth n B h : Nat)
def lss (n : Nat) (B : Nat → Nat) (a b : Nat) : Int := if wI n B b - wI n (wl B a b) b < wI n B a - wI n (wl B a b) a then wI n B b - wI n (wl B a b) b else wI n B a - wI n (wl B a b) a
def lur (n : Nat) (B : Nat → Nat) (a b : Nat) : Int := if wI n (jn B a b) a - wI n B a = wI n (jn B a b) b - wI n B b then wI n (jn B a b) a - wI n B a - 1 else if wI n (jn B a b) b - wI n B b < wI n (jn B a b) a - wI n B a then wI n (jn B a b) b - wI n B b else wI n (jn B a b) a - wI n B a
section
variable {σ τ : px_M} {n nr : Nat} {B S C : Nat → Nat}
theorem wth_le (h : Nat) : wth n B h ≤ 154 := by
  have h1 := bc_le 11 (B h)
  have h2 := bc_le 11 (ly B n h 2)
  unfold wth
  omega
theorem wI_b (h : Nat) : 0 ≤ wI n B h ∧ wI n B h ≤ 154 := by
  have := wth_le (n := n) (B := B) h
  unfold wI
  omega
theorem lss_b (a b : Nat) : -155 ≤ lss n B a b ∧ lss n B a b ≤ 155 := by
  have h1 := wI_b (n := n) (B := B) a
  have h2 := wI_b (n := n) (B := B) b
  have h3 := wI_b (n := n) (B := wl B a b) a
  have h4 := wI_b (n := n) (B := wl B a b) b
  unfold lss
  split <;> omega
theorem lur_b (a b : Nat) : -156 ≤ lur n B a b ∧ lur n B a b ≤ 155 := by
  have h1 := wI_b (n := n) (B := B) a
  have h2 := wI_b (n := n) (B := B) b
  have h3 := wI_b (n := n) (B := jn B a b) a
  have h4 := wI_b (n := n) (B := jn B a b) b
  unfold lur
  split
  · omega
  · split <;> omega
theorem wI_ti (h : Nat) {B' : Nat → Nat} : (nI (wth n B h) - nI (wth n B' h)).toInt = wI n B h - wI n B' h := by
  have h1 := wth_le (n := n) (B := B) h
  have h2 := wth_le (n := n) (B := B') h
  rw [sub_ti (by omega) (by omega)]
  rfl
/-! in the class -/
theorem c_loss (hR : cR σ.2.2) (hc : ct σ 231 n B) {a b : Nat} (ha : a < n) (hb : b < n) (hab : a ≠ b) : ∃ v υ, f_7006 tT σ 230 (nI a) (nI b) = some (v, υ) ∧ v.toInt = lss n B a b ∧ fr (tw2 233) σ υ := by
  obtain ⟨ρ, q1, q2, q3⟩ := c_become (t := 233) hc la_233 la_234 (rc_233_1 hR) (by decide) (by decide) (by decide)
  obtain ⟨υ, p1, p2, p3⟩ := c_part q3 ha hb hab
  have hRρ := cR_fr q2 hR
  have hRυ := cR_fr p2 hRρ
  have hcυ : ct υ 231 n B := ct_fr p2 (fun _ => rfl) (fun _ => rfl) (ct_fr q2 (fun _ => rfl) (fun _ => rfl) hc)
  have w1 := c_worth hcυ (m := 230) ha
  have w2 := c_worth hcυ (m := 230) hb
  have w3 := c_worth p3 (m := 230) ha
  have w4 := c_worth p3 (m := 230) hb
  refine ⟨if nI (wth n B b) - nI (wth n (wl B a b) b) < nI (wth n B a) - nI (wth n (wl B a b) a) then nI (wth n B b) - nI (wth n (wl B a b) b) else nI (wth n B a) - nI (wth n (wl B a b) a), υ, ?_, ?_, fr_tr q2 p2⟩
  · simp only [f_7006, f_7006_11, f_7006_20, la_230, la_233, rc_230_0 hR, rc_230_1 hR, gd_tt, oA_arr, px_obj_s, Option.bind_some, Option.map_some, Option.bind_none, eq_self, true_or, or_true, px_av_0, px_av_1, px_av_2, px_av_10, px_av_11, bn, wi_1, wi_2, wl_1, wl_21, wl_22, wr_1, wr_21, wr_22, Sum.elim_inl, Sum.elim_inr, ↓reduceIte, Nat.reduceLT, Nat.reduceLeDiff, not_false_eq_true, not_true_eq_false, Nat.reduceEqDiff, Nat.reduceAdd, reduceCtorEq, and_true, true_and, and_false, false_and, false_or, or_false, q1, rc_230_1 hRρ, p1, rc_230_0 hRυ, rc_230_1 hRυ, w1, w2, w3, w4]
  · unfold lss
    rw [← wI_ti, ← wI_ti]
    by_cases q : nI (wth n B b) - nI (wth n (wl B a b) b) < nI (wth n B a) - nI (wth n (wl B a b) a)
    · rw [if_pos q, if_pos (by rw [fa_lt] at q; exact q)]
    · rw [if_neg q, if_neg (by rw [fa_lt] at q; exact q)]
theorem c_lure (hR : cR σ.2.2) (hc : ct σ 231 n B) {a b : Nat} (ha : a < n) (hb : b < n) (hab : a ≠ b) : ∃ v υ, f_7007 tT σ 230 (nI a) (nI b) = some (v, υ) ∧ v.toInt = lur n B a b ∧ fr (tw2 233) σ υ := by
  obtain ⟨ρ, q1, q2, q3⟩ := c_become (t := 233) hc la_233 la_234 (rc_233_1 hR) (by decide) (by decide) (by decide)
  obtain ⟨υ, p1, p2, p3⟩ := c_link q3 ha hb hab
  have hRρ := cR_fr q2 hR
  have hRυ := cR_fr p2 hRρ
  have hcυ : ct υ 231 n B := ct_fr p2 (fun _ => rfl) (fun _ => rfl) (ct_fr q2 (fun _ => rfl) (fun _ => rfl) hc)
  have w1 := c_worth hcυ (m := 230) ha
  have w2 := c_worth hcυ (m := 230) hb
  have w3 := c_worth p3 (m := 230) ha
  have w4 := c_worth p3 (m := 230) hb
  have t1 := wI_ti (n := n) (B := jn B a b) (B' := B) a
  have t2 := wI_ti (n := n) (B := jn B a b) (B' := B) b
  have b1 := wI_b (n := n) (B := B) a
  have b3 := wI_b (n := n) (B := jn B a b) a
  have hF : f_7007 tT σ 230 (nI a) (nI b) = f_7007_61 tT υ (nI (wth n (jn B a b) a) - nI (wth n B a)) (nI (wth n (jn B a b) b) - nI (wth n B b)) := by
    simp only [f_7007, f_7007_20, f_7007_40, la_230, la_233, rc_230_0 hR, rc_230_1 hR, gd_tt, oA_arr, px_obj_s, Option.bind_some, Option.map_some, Option.bind_none, eq_self, true_or, or_true, px_av_0, px_av_1, px_av_2, px_av_10, px_av_11, bn, wi_1, wi_2, wl_1, wl_21, wl_22, wr_1, wr_21, wr_22, Sum.elim_inl, Sum.elim_inr, ↓reduceIte, Nat.reduceLT, Nat.reduceLeDiff, not_false_eq_true, not_true_eq_false, Nat.reduceEqDiff, Nat.reduceAdd, reduceCtorEq, and_true, true_and, and_false, false_and, false_or, or_false, q1, rc_230_1 hRρ, p1, rc_230_0 hRυ, rc_230_1 hRυ, w1, w2, w3, w4]
  rw [hF]
  unfold f_7007_61 bn lur
  rw [← t1, ← t2]
  by_cases q : nI (wth n (jn B a b) a) - nI (wth n B a) = nI (wth n (jn B a b) b) - nI (wth n B b)
  · refine ⟨_, υ, if_pos q, ?_, fr_tr q2 p2⟩
    rw [if_pos (by rw [q]), Int32.toInt_sub, t1, nI_toInt (by decide), Int.bmod_eq_of_le (by omega) (by omega)]
    rfl
  · refine ⟨_, υ, if_neg q, ?_, fr_tr q2 p2⟩
    rw [if_neg (fun z => q (Int32.toInt_inj.mp z))]
    by_cases q3 : nI (wth n (jn B a b) b) - nI (wth n B b) < nI (wth n (jn B a b) a) - nI (wth n B a)
    · rw [if_pos q3, if_pos (by rw [fa_lt] at q3; exact q3)]
    · rw [if_neg q3, if_neg (by rw [fa_lt] at q3; exact q3)]
/-! in the model -/
theorem fk_mo {Q : Nat → Nat → Bool} {υ : px_M} (h : fr (fun l j => Q l j || tn l j) σ υ) (h0 : ∀ j, Q 1 j = false) (hm : mo σ n B) (hm' : mo υ n B) : fk Q σ υ := by
  refine ⟨h, fun j => ?_⟩
  by_cases ht : 1 ≤ j ∧ j ≤ 12
  · have e1 := mo_row hm (j := j - 1) (by omega)
    have e2 := mo_row hm' (j := j - 1) (by omega)
    rw [show 1 + (j - 1) = j by omega] at e1 e2
    rw [e1, e2]
  · refine h.1 1 j ?_
    simp only [Bool.or_eq_false_iff]
    refine ⟨h0 j, ?_⟩
    cases hq : tn 1 j with
    | false => rfl
    | true =>
      simp only [tn, Bool.and_eq_true, beq_iff_eq, decide_eq_true_eq] at hq
      omega
theorem pay_ti {h c : Nat} (hc : c ≤ 99) : (nI (wth n B h) - nI (c * bc 11 (B h))).toInt = wI n B h - (c * bc 11 (B h) : Nat) := by
  have h1 := wth_le (n := n) (B := B) h
  have h2 := bc_le 11 (B h)
  have h3 : c * bc 11 (B h) ≤ 99 * 11 := Nat.mul_le_mul hc h2
  rw [sub_ti (by omega) (by omega)]
  rfl
theorem bc_wl (hw : wf n B) {a b : Nat} (hb : b < n) (h : (B a).testBit b = true) : bc 11 (B a) = bc 11 (wl B a b a) + 1 := by
  have : wl B a b a = nd (B a) (2 ^ b) := by unfold wl; rw [if_pos rfl]
  rw [this, bc_nd (wf_2048 hw a) (by have := hw.1; omega) h]
theorem wl_comm (hw : wf n B) {a b : Nat} (hab : a ≠ b) : wl B a b = wl B b a := by
  funext x
  apply Nat.eq_of_testBit_eq
  intro y
  rw [wl_tb (wf_2048 hw) hab, wl_tb (wf_2048 hw) hab.symm]
  congr 2
  exact decide_eq_decide.mpr (by omega)
theorem bc_jn {a b : Nat} (hb : b < 11) (h : (B a).testBit b = false) : bc 11 (jn B a b a) = bc 11 (B a) + 1 := by
  have : jn B a b a = B a ||| 2 ^ b := by unfold jn; rw [if_pos rfl]
  rw [this, bc_one hb h]
theorem e_wantsWall (hm : mo σ n B) {a b c : Nat} (ha : a < n) (hb : b < n) (hab : a ≠ b) (hbit : (B a).testBit b = true) (hc : c ≤ 99) : ∃ υ, f_121 tT σ 0 (nI a) (nI b) (nI c) = some (mb (decide (lss n B a b < c)), υ) ∧ fk (on 15) σ υ := by
  have hw := hm.2.1
  have hn := hw.1
  obtain ⟨ρ1, a1, a2⟩ := e_payOf hm ha c
  have m1 := mo_on (by decide) a2 hm
  obtain ⟨ρ2, b1, b2⟩ := e_payOf m1 hb c
  have m2 := mo_on (by decide) b2 m1
  obtain ⟨ρ3, c1, c2, c3⟩ := e_walls m2 ha hb hab
  obtain ⟨ρ4, d1, d2⟩ := e_payOf c3 ha c
  have m4 := mo_on (by decide) d2 c3
  obtain ⟨ρ5, e1, e2⟩ := e_payOf m4 hb c
  have m5 := mo_on (by decide) e2 m4
  have hwl := wf_wl hw hab
  have back : ∀ ρ, mo ρ n (wl B a b) → ∃ υ, f_15 tT ρ 1 (nI a) (nI b) = some υ ∧ fr tn ρ υ ∧ mo υ n B := fun ρ h => by
    obtain ⟨υ, z1, z2, z3⟩ := e_joins h ha hb hab
    rw [jn_wl hw hab hbit] at z3
    exact ⟨υ, z1, z2, z3⟩
  have w15 : ∀ {α β : px_M}, fr (on 15) α β → fr (fun l j => on 15 l j || tn l j) α β := fun h => fr_mono h (fun l j q => by simp only [Bool.or_eq_false_iff] at q; exact q.1)
  have wtn : ∀ {α β : px_M}, fr tn α β → fr (fun l j => on 15 l j || tn l j) α β := fun h => fr_mono h (fun l j q => by simp only [Bool.or_eq_false_iff] at q; exact q.2)
  have p1 := pay_ti (n := n) (B := B) (h := a) hc
  have p2 := pay_ti (n := n) (B := B) (h := b) hc
  have p3 := pay_ti (n := n) (B := wl B a b) (h := a) hc
  have p4 := pay_ti (n := n) (B := wl B a b) (h := b) hc
  have k1 := bc_wl hw hb hbit
  have k2 : bc 11 (B b) = bc 11 (wl B a b b) + 1 := by
    rw [wl_comm hw hab]
    exact bc_wl hw ha (wf_s hw hbit)
  have k3 : c * bc 11 (B a) = c * bc 11 (wl B a b a) + c := by rw [k1, Nat.mul_succ]
  have k4 : c * bc 11 (B b) = c * bc 11 (wl B a b b) + c := by rw [k2, Nat.mul_succ]
  have f1 : (nI (wth n B a) - nI (c * bc 11 (B a)) < nI (wth n (wl B a b) a) - nI (c * bc 11 (wl B a b a))) ↔ wI n B a - wI n (wl B a b) a < c := by rw [fa_lt, p1, p3, k3]; omega
  have f2 : (nI (wth n (wl B a b) b) - nI (c * bc 11 (wl B a b b)) ≤ nI (wth n B b) - nI (c * bc 11 (B b))) ↔ ¬ wI n B b - wI n (wl B a b) b < c := by rw [fa_le, p2, p4, k4]; omega
  have hl : (lss n B a b < c) ↔ (wI n B a - wI n (wl B a b) a < c ∨ wI n B b - wI n (wl B a b) b < c) := by
    unfold lss
    split <;> omega
  have g1 : (nI 1 = nI 0 ∨ nI 1 = nI 1) := Or.inr rfl
  have g0 : (nI 0 = nI 0 ∨ nI 0 = nI 1) := Or.inl rfl
  by_cases h1 : wI n B a - wI n (wl B a b) a < c
  · obtain ⟨υ, z1, z2, z3⟩ := back ρ4 m4
    refine ⟨υ, ?_, fk_mo (fr_tr (w15 a2) (fr_tr (w15 b2) (fr_tr (wtn c2) (fr_tr (w15 d2) (wtn z2))))) (fun _ => rfl) hm z3⟩
    have f1' := f1.mpr h1
    rw [decide_eq_true (hl.mpr (Or.inl h1)), mb_t1]
    simp only [f_121, f_121_22, f_121_44, f_121_51, la_0, gd_tt, oA_arr, px_obj_s, Option.bind_some, Option.map_some, Option.bind_none, eq_self, true_or, or_true, px_av_0, px_av_1, px_av_2, px_av_10, px_av_11, bn, wi_1, wi_2, wl_1, wl_21, wl_22, wr_1, wr_21, wr_22, Sum.elim_inl, Sum.elim_inr, ↓reduceIte, Nat.reduceLT, Nat.reduceLeDiff, not_false_eq_true, not_true_eq_false, Nat.reduceEqDiff, Nat.reduceAdd, reduceCtorEq, and_true, true_and, and_false, false_and, false_or, or_false, a1, b1, c1, d1, f1', rm_0_1 m4.1, z1, g1]
  · have f1' : ¬ (nI (wth n B a) - nI (c * bc 11 (B a)) < nI (wth n (wl B a b) a) - nI (c * bc 11 (wl B a b a))) := fun q => h1 (f1.mp q)
    obtain ⟨υ, z1, z2, z3⟩ := back ρ5 m5
    have hfk := fk_mo (Q := on 15) (fr_tr (w15 a2) (fr_tr (w15 b2) (fr_tr (wtn c2) (fr_tr (w15 d2) (fr_tr (w15 e2) (wtn z2)))))) (fun _ => rfl) hm z3
    refine ⟨υ, ?_, hfk⟩
    by_cases h2 : wI n B b - wI n (wl B a b) b < c
    · have f2' : ¬ (nI (wth n (wl B a b) b) - nI (c * bc 11 (wl B a b b)) ≤ nI (wth n B b) - nI (c * bc 11 (B b))) := fun q => f2.mp q h2
      rw [decide_eq_true (hl.mpr (Or.inr h2)), mb_t1]
      simp only [f_121, f_121_22, f_121_44, f_121_51, la_0, gd_tt, oA_arr, px_obj_s, Option.bind_some, Option.map_some, Option.bind_none, eq_self, true_or, or_true, px_av_0, px_av_1, px_av_2, px_av_10, px_av_11, bn, wi_1, wi_2, wl_1, wl_21, wl_22, wr_1, wr_21, wr_22, Sum.elim_inl, Sum.elim_inr, ↓reduceIte, Nat.reduceLT, Nat.reduceLeDiff, not_false_eq_true, not_true_eq_false, Nat.reduceEqDiff, Nat.reduceAdd, reduceCtorEq, and_true, true_and, and_false, false_and, false_or, or_false, a1, b1, c1, d1, f1', e1, f2', rm_0_1 m5.1, z1, g1]
    · have f2' := f2.mpr h2
      rw [decide_eq_false (fun q => (hl.mp q).elim h1 h2), mb_f0]
      simp only [f_121, f_121_22, f_121_44, f_121_51, la_0, gd_tt, oA_arr, px_obj_s, Option.bind_some, Option.map_some, Option.bind_none, eq_self, true_or, or_true, px_av_0, px_av_1, px_av_2, px_av_10, px_av_11, bn, wi_1, wi_2, wl_1, wl_21, wl_22, wr_1, wr_21, wr_22, Sum.elim_inl, Sum.elim_inr, ↓reduceIte, Nat.reduceLT, Nat.reduceLeDiff, not_false_eq_true, not_true_eq_false, Nat.reduceEqDiff, Nat.reduceAdd, reduceCtorEq, and_true, true_and, and_false, false_and, false_or, or_false, a1, b1, c1, d1, f1', e1, f2', rm_0_1 m5.1, z1, g0]
theorem e_wantJoin (hm : mor σ n B nr S C) (hru : rul nr S C) {a b c : Nat} (ha : a < n) (hb : b < n) (hab : a ≠ b) (hbit : (B a).testBit b = false) (hc : c ≤ 99) : ∃ υ, f_122 tT σ 0 (nI a) (nI b) (nI c) = some (mb (decide (rj n B nr S C a b = 0) && decide ((c : Int) ≤ lur n B a b)), υ) ∧ fk RQ σ υ := by
  have hw := hm.1.2.1
  have hn := hw.1
  obtain ⟨ρ0, r1, r2⟩ := e_rj hm.1 hru hm.2 ha hb hab
  have hle := rj_le (n := n) (B := B) (nr := nr) (S := S) (C := C) (a := a) (b := b)
  have la : (nI a).toInt64 = lN a := nI_l (by omega)
  have lb : (nI b).toInt64 = lN b := nI_l (by omega)
  by_cases h0 : rj n B nr S C a b = 0
  · rw [h0] at r1
    have m0 := mo_fk r2 hm.1
    obtain ⟨ρ1, a1, a2⟩ := e_payOf m0 ha c
    have m1 := mo_on (by decide) a2 m0
    obtain ⟨ρ2, b1, b2⟩ := e_payOf m1 hb c
    have m2 := mo_on (by decide) b2 m1
    obtain ⟨ρ3, c1, c2, c3⟩ := e_joins m2 ha hb hab
    obtain ⟨ρ4, d1, d2⟩ := e_payOf c3 ha c
    have m4 := mo_on (by decide) d2 c3
    obtain ⟨ρ5, e1, e2⟩ := e_payOf m4 hb c
    have m5 := mo_on (by decide) e2 m4
    obtain ⟨υ, z1, z2, z3⟩ := e_walls m5 ha hb hab
    rw [wl_jn hw ha hb hab hbit] at z3
    have w15 : ∀ {α β : px_M}, fr (on 15) α β → fr (fun l j => RQ l j || tn l j) α β := fun h => fr_mono h (fun l j q => by
      simp only [Bool.or_eq_false_iff] at q
      exact rS_15 l j (RQ_rS l j q.1))
    have wtn : ∀ {α β : px_M}, fr tn α β → fr (fun l j => RQ l j || tn l j) α β := fun h => fr_mono h (fun l j q => by simp only [Bool.or_eq_false_iff] at q; exact q.2)
    have hfk := fk_mo (Q := RQ) (fr_tr r2.1 (fr_tr (w15 a2) (fr_tr (w15 b2) (fr_tr (wtn c2) (fr_tr (w15 d2) (fr_tr (w15 e2) (wtn z2))))))) (fun _ => rfl) hm.1 z3
    refine ⟨υ, ?_, hfk⟩
    have p1 := pay_ti (n := n) (B := B) (h := a) hc
    have p2 := pay_ti (n := n) (B := B) (h := b) hc
    have p3 := pay_ti (n := n) (B := jn B a b) (h := a) hc
    have p4 := pay_ti (n := n) (B := jn B a b) (h := b) hc
    have k1 := bc_jn (B := B) (show b < 11 by omega) hbit
    have k2 : bc 11 (jn B a b b) = bc 11 (B b) + 1 := by
      rw [jn_comm hab]
      exact bc_jn (show a < 11 by omega) (by rw [hw.2.2.2.1]; exact hbit)
    have k3 : c * bc 11 (jn B a b a) = c * bc 11 (B a) + c := by rw [k1, Nat.mul_succ]
    have k4 : c * bc 11 (jn B a b b) = c * bc 11 (B b) + c := by rw [k2, Nat.mul_succ]
    have f1 : (nI (wth n (jn B a b) a) - nI (c * bc 11 (jn B a b a)) < nI (wth n B a) - nI (c * bc 11 (B a))) ↔ wI n (jn B a b) a - wI n B a < c := by rw [fa_lt, p1, p3, k3]; omega
    have f2 : (nI (wth n (jn B a b) b) - nI (c * bc 11 (jn B a b b)) < nI (wth n B b) - nI (c * bc 11 (B b))) ↔ wI n (jn B a b) b - wI n B b < c := by rw [fa_lt, p2, p4, k4]; omega
    have f3 : (nI (wth n B a) - nI (c * bc 11 (B a)) < nI (wth n (jn B a b) a) - nI (c * bc 11 (jn B a b a))) ↔ (c : Int) < wI n (jn B a b) a - wI n B a := by rw [fa_lt, p1, p3, k3]; omega
    have f4 : (nI (wth n (jn B a b) b) - nI (c * bc 11 (jn B a b b)) ≤ nI (wth n B b) - nI (c * bc 11 (B b))) ↔ ¬ (c : Int) < wI n (jn B a b) b - wI n B b := by rw [fa_le, p2, p4, k4]; omega
    have hl : ((c : Int) ≤ lur n B a b) ↔ (¬ wI n (jn B a b) a - wI n B a < c ∧ ¬ wI n (jn B a b) b - wI n B b < c ∧ ((c : Int) < wI n (jn B a b) a - wI n B a ∨ (c : Int) < wI n (jn B a b) b - wI n B b)) := by
      unfold lur
      split
      · omega
      · split <;> omega
    rw [decide_eq_true h0, Bool.true_and]
    have base : f_122 tT σ 0 (nI a) (nI b) (nI c) = f_122_54 tT ρ5 0 (nI a) (nI b) (nI (wth n B a) - nI (c * bc 11 (B a))) (nI (wth n B b) - nI (c * bc 11 (B b))) (nI (wth n (jn B a b) a) - nI (c * bc 11 (jn B a b a))) (nI (wth n (jn B a b) b) - nI (c * bc 11 (jn B a b b))) := by
      simp only [f_122, f_122_29, la_0, gd_tt, oA_arr, px_obj_s, Option.bind_some, Option.map_some, Option.bind_none, eq_self, true_or, or_true, px_av_0, px_av_1, px_av_2, px_av_10, px_av_11, bn, wi_1, wi_2, wl_1, wl_21, wl_22, wr_1, wr_21, wr_22, Sum.elim_inl, Sum.elim_inr, ↓reduceIte, Nat.reduceLT, Nat.reduceLeDiff, not_false_eq_true, not_true_eq_false, Nat.reduceEqDiff, Nat.reduceAdd, reduceCtorEq, and_true, true_and, and_false, false_and, false_or, or_false, la, lb, r1, a1, b1, rm_0_1 m2.1, c1, d1, e1]
    rw [base]
    unfold f_122_54 f_122_88 f_122_92
    by_cases h1 : wI n (jn B a b) a - wI n B a < c
    · have f1' := f1.mpr h1
      rw [decide_eq_false (fun q => (hl.mp q).1 h1), mb_f0]
      simp only [la_0, gd_tt, oA_arr, px_obj_s, Option.bind_some, Option.map_some, Option.bind_none, eq_self, true_or, or_true, px_av_0, px_av_1, px_av_2, px_av_10, px_av_11, bn, wi_1, wi_2, wl_1, wl_21, wl_22, wr_1, wr_21, wr_22, Sum.elim_inl, Sum.elim_inr, ↓reduceIte, Nat.reduceLT, Nat.reduceLeDiff, not_false_eq_true, not_true_eq_false, Nat.reduceEqDiff, Nat.reduceAdd, reduceCtorEq, and_true, true_and, and_false, false_and, false_or, or_false, z1, f1']
    · have f1' := mt f1.mp h1
      by_cases h2 : wI n (jn B a b) b - wI n B b < c
      · have f2' := f2.mpr h2
        rw [decide_eq_false (fun q => (hl.mp q).2.1 h2), mb_f0]
        simp only [la_0, gd_tt, oA_arr, px_obj_s, Option.bind_some, Option.map_some, Option.bind_none, eq_self, true_or, or_true, px_av_0, px_av_1, px_av_2, px_av_10, px_av_11, bn, wi_1, wi_2, wl_1, wl_21, wl_22, wr_1, wr_21, wr_22, Sum.elim_inl, Sum.elim_inr, ↓reduceIte, Nat.reduceLT, Nat.reduceLeDiff, not_false_eq_true, not_true_eq_false, Nat.reduceEqDiff, Nat.reduceAdd, reduceCtorEq, and_true, true_and, and_false, false_and, false_or, or_false, z1, f1', f2']
      · have f2' := mt f2.mp h2
        by_cases h3 : (c : Int) < wI n (jn B a b) a - wI n B a
        · have f3' := f3.mpr h3
          rw [decide_eq_true (hl.mpr ⟨h1, h2, Or.inl h3⟩), mb_t1]
          simp only [la_0, gd_tt, oA_arr, px_obj_s, Option.bind_some, Option.map_some, Option.bind_none, eq_self, true_or, or_true, px_av_0, px_av_1, px_av_2, px_av_10, px_av_11, bn, wi_1, wi_2, wl_1, wl_21, wl_22, wr_1, wr_21, wr_22, Sum.elim_inl, Sum.elim_inr, ↓reduceIte, Nat.reduceLT, Nat.reduceLeDiff, not_false_eq_true, not_true_eq_false, Nat.reduceEqDiff, Nat.reduceAdd, reduceCtorEq, and_true, true_and, and_false, false_and, false_or, or_false, z1, f1', f2', f3']
        · have f3' := mt f3.mp h3
          by_cases h4 : (c : Int) < wI n (jn B a b) b - wI n B b
          · have f4' := mt f4.mp (fun z => z h4)
            rw [decide_eq_true (hl.mpr ⟨h1, h2, Or.inr h4⟩), mb_t1]
            simp only [la_0, gd_tt, oA_arr, px_obj_s, Option.bind_some, Option.map_some, Option.bind_none, eq_self, true_or, or_true, px_av_0, px_av_1, px_av_2, px_av_10, px_av_11, bn, wi_1, wi_2, wl_1, wl_21, wl_22, wr_1, wr_21, wr_22, Sum.elim_inl, Sum.elim_inr, ↓reduceIte, Nat.reduceLT, Nat.reduceLeDiff, not_false_eq_true, not_true_eq_false, Nat.reduceEqDiff, Nat.reduceAdd, reduceCtorEq, and_true, true_and, and_false, false_and, false_or, or_false, z1, f1', f2', f3', f4']
          · have f4' := f4.mpr h4
            rw [decide_eq_false (fun q => (hl.mp q).2.2.elim h3 h4), mb_f0]
            simp only [la_0, gd_tt, oA_arr, px_obj_s, Option.bind_some, Option.map_some, Option.bind_none, eq_self, true_or, or_true, px_av_0, px_av_1, px_av_2, px_av_10, px_av_11, bn, wi_1, wi_2, wl_1, wl_21, wl_22, wr_1, wr_21, wr_22, Sum.elim_inl, Sum.elim_inr, ↓reduceIte, Nat.reduceLT, Nat.reduceLeDiff, not_false_eq_true, not_true_eq_false, Nat.reduceEqDiff, Nat.reduceAdd, reduceCtorEq, and_true, true_and, and_false, false_and, false_or, or_false, z1, f1', f2', f3', f4']
  · have z : ¬ nI (rj n B nr S C a b) = nI 0 := by rw [nI_eq (by omega) (by omega)]; exact h0
    refine ⟨ρ0, ?_, r2⟩
    rw [decide_eq_false h0, Bool.false_and, mb_f0]
    simp only [f_122, la_0, gd_tt, oA_arr, px_obj_s, Option.bind_some, Option.map_some, Option.bind_none, eq_self, true_or, or_true, px_av_0, px_av_1, px_av_2, px_av_10, px_av_11, bn, wi_1, wi_2, wl_1, wl_21, wl_22, wr_1, wr_21, wr_22, Sum.elim_inl, Sum.elim_inr, ↓reduceIte, Nat.reduceLT, Nat.reduceLeDiff, not_false_eq_true, not_true_eq_false, Nat.reduceEqDiff, Nat.reduceAdd, reduceCtorEq, and_true, true_and, and_false, false_and, false_or, or_false, la, lb, r1, z]
end
