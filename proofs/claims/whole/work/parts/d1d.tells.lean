/-! telling: the model's sets of those who know -/
section
variable {n : Nat} {B : Nat → Nat} {s T : Nat}
/-- those of s from house h on -/
def hib (h s : Nat) : Nat := nd s (2 ^ h - 1)
theorem hib_tb (hs : s < 2048) (h x : Nat) : (hib h s).testBit x = true ↔ s.testBit x = true ∧ h ≤ x := by
  unfold hib
  rw [nd_tb hs, tb_all, Bool.and_eq_true, Bool.not_eq_true', decide_eq_false_iff_not]
  constructor
  · rintro ⟨h1, h2⟩; exact ⟨h1, by omega⟩
  · rintro ⟨h1, h2⟩; exact ⟨h1, by omega⟩
/-- T can be told by those of s from house h on, m houses -/
def mtc (n : Nat) (B : Nat → Nat) (s : Nat) : Nat → Nat → Nat → Prop
  | 0, _, T => T = 0
  | m + 1, h, T => mtc n B s m (h + 1) T ∨ (s.testBit h = true ∧ ∃ k, k < n ∧ T.testBit k = true ∧ (B h).testBit k = true ∧ mtc n B s m (h + 1) (nd T (2 ^ k)))
theorem nd_ltn {k : Nat} (hn : n ≤ 11) (h : T < 2 ^ n) : nd T (2 ^ k) < 2 ^ n := sbs_lt (fun x hx => ((nd_tt (lt_2048 hn h) x).mp hx).1) h
theorem mtc_hll (hw : wf n B) (hs : s < 2 ^ n) : ∀ m h, h + m = n → ∀ T, T < 2 ^ n → (mtc n B s m h T ↔ hll n B (hib h s) T) := by
  have hn := hw.1
  have hsl := lt_2048 hn hs
  intro m
  induction m with
  | zero =>
    intro h hh T hT
    have hhn : h = n := by omega
    subst hhn
    have e0 : hib h s = 0 := sbs_eq (fun x hx => by
      obtain ⟨h1, h2⟩ := (hib_tb hsl h x).mp hx
      have := tb_lt hs h1
      omega) (sbs_0 _)
    rw [e0]
    constructor
    · intro q
      have q : T = 0 := q
      rw [q]
      exact hll_0
    · intro q
      have h1 := q T (sbs_rf _)
      unfold tls at h1
      rw [Nat.and_zero, bc_0] at h1
      exact bc_z (lt_2048 hn hT) (by omega)
  | succ m ih =>
    intro h hh T hT
    have hTl := lt_2048 hn hT
    have hsub : sbs (hib (h + 1) s) (hib h s) := fun x hx => by
      obtain ⟨h1, h2⟩ := (hib_tb hsl (h + 1) x).mp hx
      exact (hib_tb hsl h x).mpr ⟨h1, by omega⟩
    have hdr : ∀ x, (hib h s).testBit x = true → (hib (h + 1) s).testBit x = true ∨ x = h := fun x hx => by
      obtain ⟨h1, h2⟩ := (hib_tb hsl h x).mp hx
      by_cases q : x = h
      · exact Or.inr q
      · exact Or.inl ((hib_tb hsl (h + 1) x).mpr ⟨h1, by omega⟩)
    constructor
    · rintro (q | ⟨q1, k, q2, q3, q4, q5⟩)
      · exact hll_S ((ih (h + 1) (by omega) T hT).mp q) hsub
      · refine hll_back (h := h) (k := k) (S' := hib (h + 1) s) hn q2 hTl (by omega) ((hib_tb hsl h h).mpr ⟨q1, by omega⟩) ?_ hsub (by rw [hw.2.2.2.1]; exact q4) ((ih (h + 1) (by omega) _ (nd_ltn hn hT)).mp q5)
        cases z : (hib (h + 1) s).testBit h with
        | false => rfl
        | true => have := ((hib_tb hsl (h + 1) h).mp z).2; omega
    · intro q
      cases hsh : s.testBit h with
      | false =>
        left
        refine (ih (h + 1) (by omega) T hT).mpr (hll_S q (fun x hx => ?_))
        rcases hdr x hx with z | z
        · exact z
        · have := ((hib_tb hsl h x).mp hx).1
          rw [z, hsh] at this
          cases this
      | true =>
        rcases hll_step hn q hTl hdr with z | ⟨k, k1, k2, k3, k4⟩
        · exact Or.inl ((ih (h + 1) (by omega) T hT).mpr z)
        · exact Or.inr ⟨hsh, k, k1, k2, by rw [hw.2.2.2.1]; exact k3, (ih (h + 1) (by omega) _ (nd_ltn hn hT)).mpr k4⟩
theorem mtc_tld (hw : wf n B) (hs : s < 2 ^ n) : (T < 2 ^ n ∧ (∀ x, T.testBit x = true → s.testBit x = false) ∧ mtc n B s n 0 T) ↔ tld n B s T := by
  have hn := hw.1
  have e : hib 0 s = s := sbs_eq (fun x hx => ((hib_tb (lt_2048 hn hs) 0 x).mp hx).1) (fun x hx => (hib_tb (lt_2048 hn hs) 0 x).mpr ⟨hx, by omega⟩)
  constructor
  · rintro ⟨h1, h2, h3⟩
    have := (mtc_hll hw hs n 0 (by omega) T h1).mp h3
    rw [e] at this
    exact ⟨h1, h2, this⟩
  · rintro ⟨h1, h2, h3⟩
    exact ⟨h1, h2, (mtc_hll hw hs n 0 (by omega) T h1).mpr (by rw [e]; exact h3)⟩
end
section
variable {σ τ : px_M} {n : Nat} {B : Nat → Nat}
theorem mb_iff {p q : Bool} (h : mb p = mb q) : p = q := by revert h; cases p <;> cases q <;> decide
/-- a Bool of what is said -/
noncomputable def yes (p : Prop) : Bool := @decide p (Classical.propDecidable p)
theorem yes_t {p : Prop} : yes p = true ↔ p := @decide_eq_true_iff p (Classical.propDecidable p)
/-- what comes to be known -/
def reb (n : Nat) (B : Nat → Nat) (s m h now x : Nat) : Prop := ∃ T, T < 2 ^ n ∧ (∀ y, T.testBit y = true → now.testBit y = false) ∧ mtc n B s m h T ∧ x = now ||| T
theorem reb_S {s m h now x : Nat} (hn : n ≤ 11) (hnow : now < 2 ^ n) : reb n B s (m + 1) h now x ↔ reb n B s m (h + 1) now x ∨ (s.testBit h = true ∧ ∃ k, k < n ∧ (B h).testBit k = true ∧ now.testBit k = false ∧ reb n B s m (h + 1) (now ||| 2 ^ k) x) := by
  constructor
  · rintro ⟨T, t1, t2, (t3 | ⟨q1, k, q2, q3, q4, q5⟩), t4⟩
    · exact Or.inl ⟨T, t1, t2, t3, t4⟩
    · have hTl := lt_2048 hn t1
      refine Or.inr ⟨q1, k, q2, q4, t2 k q3, nd T (2 ^ k), nd_ltn hn t1, fun y hy => ?_, q5, ?_⟩
      · obtain ⟨y1, y2⟩ := (nd_tt hTl y).mp hy
        rw [Nat.testBit_or, t2 y y1, Nat.testBit_two_pow, decide_eq_false (Ne.symm y2)]
        rfl
      · rw [t4]
        apply Nat.eq_of_testBit_eq
        intro i
        rw [Nat.testBit_or, Nat.testBit_or, Nat.testBit_or, nd_tb hTl, Nat.testBit_two_pow]
        by_cases hi : k = i
        · subst hi; rw [q3]; simp
        · rw [decide_eq_false hi]; simp
  · rintro (⟨T, t1, t2, t3, t4⟩ | ⟨q1, k, q2, q3, q4, T, t1, t2, t3, t4⟩)
    · exact ⟨T, t1, t2, Or.inl t3, t4⟩
    · have hkT : T.testBit k = false := by
        cases z : T.testBit k with
        | false => rfl
        | true =>
          have := t2 k z
          rw [Nat.testBit_or, Nat.testBit_two_pow_self, Bool.or_true] at this
          cases this
      have hl : T ||| 2 ^ k < 2 ^ n := or_ltn t1 (Nat.pow_lt_pow_right (by omega) q2)
      have e : nd (T ||| 2 ^ k) (2 ^ k) = T := Nat.eq_of_testBit_eq fun i => by
        rw [nd_tb (lt_2048 hn hl), Nat.testBit_or, Nat.testBit_two_pow]
        by_cases hi : k = i
        · subst hi; rw [hkT]; simp
        · rw [decide_eq_false hi]; simp
      refine ⟨T ||| 2 ^ k, hl, fun y hy => ?_, Or.inr ⟨q1, k, q2, by rw [Nat.testBit_or, Nat.testBit_two_pow_self, Bool.or_true], q3, by rw [e]; exact t3⟩, ?_⟩
      · rw [Nat.testBit_or, Bool.or_eq_true, Nat.testBit_two_pow, decide_eq_true_eq] at hy
        rcases hy with hy | hy
        · have := t2 y hy
          rw [Nat.testBit_or, Bool.or_eq_false_iff] at this
          exact this.1
        · rw [← hy]; exact q4
      · rw [t4]
        apply Nat.eq_of_testBit_eq
        intro i
        simp only [Nat.testBit_or]
        cases now.testBit i <;> cases T.testBit i <;> simp
theorem mo_25 {υ : px_M} (h : fr (on 25) σ υ) (hm : mo σ n B) : mo υ n B := mo_on (by decide) h hm
theorem e_tells (hw : wf n B) {s : Nat} (hs : s < 2 ^ n) : ∀ m h, h + m = n → ∀ d, m + 1 ≤ d → ∀ (σ : px_M) (now : Nat) (K : Nat → Bool), mo σ n B → now < 2 ^ n → (∀ x, x < 2048 → σ.1 25 x = mb (K x)) → ∃ (υ : px_M) (K' : Nat → Bool), f_95 tT d σ 0 (nI h) (nI s) (nI now) = some υ ∧ fr (on 25) σ υ ∧ (∀ x, x < 2048 → υ.1 25 x = mb (K' x)) ∧ ∀ x, K' x = true ↔ K x = true ∨ reb n B s m h now x := by
  have k1 : vp_in (nI 1) 3216 := (vp_in_eq (by omega)).mpr (by omega)
  have k2 : (nI 1).toNatClampNeg = 1 := nI_clamp (by omega)
  have hn := hw.1
  have hsl := lt_2048 hn hs
  intro m
  induction m with
  | zero =>
    intro h hh d hd σ now K hm hnow hK
    have hhn : h = n := by omega
    subst hhn
    obtain ⟨d, rfl⟩ : ∃ d', d = d' + 1 := ⟨d - 1, by omega⟩
    obtain ⟨hR, -, e1, -⟩ := id hm
    have hnl := lt_2048 hn hnow
    have c1 : vp_in (nI now) 2048 := (vp_in_eq (by omega)).mpr (by omega)
    have c2 : (nI now).toNatClampNeg = now := nI_clamp (by omega)
    refine ⟨px_wi σ 25 now (nI 1), fun x => K x || decide (x = now), ?_, fr_wi (fr_rf _ _) _ rfl, fun x hx => ?_, fun x => ?_⟩
    · rw [f_95_S]
      unfold F_95
      simp only [la_0, la_1, la_25, rm_0_1 hR, rm_0_25 hR, k1, k2, c1, c2, e1, gd_tt, oA_arr, px_obj_s, Option.bind_some, Option.map_some, Option.bind_none, eq_self, true_or, or_true, px_av_0, px_av_1, px_av_2, px_av_10, px_av_11, bn, wi_1, wi_2, wl_1, wl_21, wl_22, wr_1, wr_21, wr_22, Sum.elim_inl, Sum.elim_inr, ↓reduceIte, Nat.reduceLT, Nat.reduceLeDiff, not_false_eq_true, not_true_eq_false, Nat.reduceEqDiff, Nat.reduceAdd, reduceCtorEq, and_true, true_and, and_false, false_and, false_or, or_false]
    · show px_up σ.1 25 now (nI 1) 25 x = mb (K x || decide (x = now))
      rw [up_s]
      by_cases q : x = now
      · rw [if_pos q, decide_eq_true q, Bool.or_true]; rfl
      · rw [if_neg q, decide_eq_false q, Bool.or_false]; exact hK x hx
    · rw [Bool.or_eq_true, decide_eq_true_eq]
      constructor
      · rintro (q | q)
        · exact Or.inl q
        · exact Or.inr ⟨0, Nat.two_pow_pos h, fun y hy => by (rw [Nat.zero_testBit] at hy; cases hy), rfl, by rw [Nat.or_zero]; exact q⟩
      · rintro (q | ⟨T, -, -, q, t4⟩)
        · exact Or.inl q
        · have q : T = 0 := q
          rw [q, Nat.or_zero] at t4
          exact Or.inr t4
  | succ m ih =>
    intro h hh d hd σ now K hm hnow hK
    obtain ⟨d, rfl⟩ : ∃ d', d = d' + 1 := ⟨d - 1, by omega⟩
    obtain ⟨hR, -, e1, -⟩ := id hm
    have hhn : h < n := by omega
    have hnl := lt_2048 hn hnow
    have a1 : ¬ nI h = nI n := by rw [nI_eq (by omega) (by omega)]; omega
    have ls : (nI s).toInt64 = lN s := nI_l (by omega)
    have lnow : (nI now).toInt64 = lN now := nI_l (by omega)
    obtain ⟨υ1, K1, y1, y2, y3, y4⟩ := ih (h + 1) (by omega) d (by omega) σ now K hm hnow hK
    have hm1 := mo_25 y2 hm
    have tst := e_isIn υ1 (s := s) (j := h) (by omega) (by omega)
    cases hsh : s.testBit h with
    | false =>
      rw [hsh, mb_f0] at tst
      refine ⟨υ1, K1, ?_, y2, y3, fun x => ?_⟩
      · rw [f_95_S]
        unfold F_95
        simp only [la_0, la_1, rm_0_1 hR, k1, k2, e1, a1, gd_tt, oA_arr, px_obj_s, Option.bind_some, Option.map_some, Option.bind_none, eq_self, true_or, or_true, px_av_0, px_av_1, px_av_2, px_av_10, px_av_11, bn, wi_1, wi_2, wl_1, wl_21, wl_22, wr_1, wr_21, wr_22, Sum.elim_inl, Sum.elim_inr, ↓reduceIte, Nat.reduceLT, Nat.reduceLeDiff, not_false_eq_true, not_true_eq_false, Nat.reduceEqDiff, Nat.reduceAdd, reduceCtorEq, and_true, true_and, and_false, false_and, false_or, or_false, nI_add, y1, ls, tst]
      · rw [y4, reb_S hn hnow]
        constructor
        · rintro (q | q)
          · exact Or.inl q
          · exact Or.inr (Or.inl q)
        · rintro (q | q | ⟨q, -⟩)
          · exact Or.inl q
          · exact Or.inr q
          · rw [hsh] at q; cases q
    | true =>
      rw [hsh, mb_t1] at tst
      have lp : ∃ b, f_95_40 tT (f_95 tT d) 0 (nI h) (nI s) (nI now) (nI 0) υ1 = some b ∧ fr (on 25) σ b ∧ ∃ K' : Nat → Bool, (∀ x, x < 2048 → b.1 25 x = mb (K' x)) ∧ ∀ x, K' x = true ↔ K1 x = true ∨ ∃ k, k < n ∧ (B h).testBit k = true ∧ now.testBit k = false ∧ reb n B s m (h + 1) (now ||| 2 ^ k) x := by
        unfold f_95_40
        refine lp_for (F := fun s' : Int32 × px_M => F_95_40 tT (f_95 tT d) 0 (nI h) (nI s) (nI now) s'.1 s'.2) (fun j q => ∃ ρ, q = (nI j, ρ) ∧ fr (on 25) σ ρ ∧ ∃ K' : Nat → Bool, (∀ x, x < 2048 → ρ.1 25 x = mb (K' x)) ∧ ∀ x, K' x = true ↔ K1 x = true ∨ ∃ k, k < j ∧ (B h).testBit k = true ∧ now.testBit k = false ∧ reb n B s m (h + 1) (now ||| 2 ^ k) x) _ n (fun j q hj hI => ?_) (fun q hI => ?_) 0 (nI 0, υ1) (by omega) ⟨υ1, rfl, y2, K1, y3, fun x => ⟨fun q => Or.inl q, fun q => by
          rcases q with q | ⟨k, q, -⟩
          · exact q
          · omega⟩⟩
        · obtain ⟨ρ, rfl, g1, K2, g2, g3⟩ := hI
          have hmρ := mo_25 g1 hm
          obtain ⟨hRρ, -, e1ρ, -⟩ := id hmρ
          have b1 : ¬ nI n ≤ nI j := by rw [nI_leI (by omega) (by omega)]; omega
          have enr := e_near hmρ (h := h) (by omega)
          have hBl := lt_2048 hn (hw.2.1 h)
          have lB : (nI (B h)).toInt64 = lN (B h) := nI_l (by omega)
          have t1 := e_isIn ρ (s := B h) (j := j) (by omega) (by omega)
          have t2 := e_isIn ρ (s := now) (j := j) (by omega) (by omega)
          have same : ∀ x, ¬ ((B h).testBit j = true ∧ now.testBit j = false) → (K2 x = true ↔ K1 x = true ∨ ∃ k, k < j + 1 ∧ (B h).testBit k = true ∧ now.testBit k = false ∧ reb n B s m (h + 1) (now ||| 2 ^ k) x) := fun x hno => by
            rw [g3]
            constructor
            · rintro (q | ⟨k, q1, q2⟩)
              · exact Or.inl q
              · exact Or.inr ⟨k, by omega, q2⟩
            · rintro (q | ⟨k, q1, q2, q3, q4⟩)
              · exact Or.inl q
              · by_cases e : k = j
                · subst e; exact absurd ⟨q2, q3⟩ hno
                · exact Or.inr ⟨k, by omega, q2, q3, q4⟩
          cases hb : (B h).testBit j with
          | false =>
            rw [hb, mb_f0] at t1
            refine ⟨(nI (j + 1), ρ), ?_, ρ, rfl, g1, K2, g2, fun x => same x (fun z => by rw [hb] at z; cases z.1)⟩
            dsimp only
            unfold F_95_40 f_95_89
            simp only [la_0, la_1, rm_0_1 hRρ, k1, k2, e1ρ, b1, gd_tt, oA_arr, px_obj_s, Option.bind_some, Option.map_some, Option.bind_none, eq_self, true_or, or_true, px_av_0, px_av_1, px_av_2, px_av_10, px_av_11, bn, wi_1, wi_2, wl_1, wl_21, wl_22, wr_1, wr_21, wr_22, Sum.elim_inl, Sum.elim_inr, ↓reduceIte, Nat.reduceLT, Nat.reduceLeDiff, not_false_eq_true, not_true_eq_false, Nat.reduceEqDiff, Nat.reduceAdd, reduceCtorEq, and_true, true_and, and_false, false_and, false_or, or_false, enr, lB, t1, nI_add]
          | true =>
            rw [hb, mb_t1] at t1
            cases hb2 : now.testBit j with
            | true =>
              rw [hb2, mb_t1] at t2
              refine ⟨(nI (j + 1), ρ), ?_, ρ, rfl, g1, K2, g2, fun x => same x (fun z => by rw [hb2] at z; cases z.2)⟩
              dsimp only
              unfold F_95_40 f_95_65 f_95_89
              simp only [la_0, la_1, rm_0_1 hRρ, k1, k2, e1ρ, b1, gd_tt, oA_arr, px_obj_s, Option.bind_some, Option.map_some, Option.bind_none, eq_self, true_or, or_true, px_av_0, px_av_1, px_av_2, px_av_10, px_av_11, bn, wi_1, wi_2, wl_1, wl_21, wl_22, wr_1, wr_21, wr_22, Sum.elim_inl, Sum.elim_inr, ↓reduceIte, Nat.reduceLT, Nat.reduceLeDiff, not_false_eq_true, not_true_eq_false, Nat.reduceEqDiff, Nat.reduceAdd, reduceCtorEq, and_true, true_and, and_false, false_and, false_or, or_false, enr, lB, t1, n10, lnow, t2, nI_add]
            | false =>
              rw [hb2, mb_f0] at t2
              obtain ⟨υ3, K3, z1, z2, z3, z4⟩ := ih (h + 1) (by omega) d (by omega) ρ (now ||| 2 ^ j) K2 hmρ (or_ltn hnow (Nat.pow_lt_pow_right (by omega) hj)) g2
              refine ⟨(nI (j + 1), υ3), ?_, υ3, rfl, fr_tr g1 z2, K3, z3, fun x => ?_⟩
              · dsimp only
                unfold F_95_40 f_95_65 f_95_89
                simp only [la_0, la_1, rm_0_1 hRρ, k1, k2, e1ρ, b1, gd_tt, oA_arr, px_obj_s, Option.bind_some, Option.map_some, Option.bind_none, eq_self, true_or, or_true, px_av_0, px_av_1, px_av_2, px_av_10, px_av_11, bn, wi_1, wi_2, wl_1, wl_21, wl_22, wr_1, wr_21, wr_22, Sum.elim_inl, Sum.elim_inr, ↓reduceIte, Nat.reduceLT, Nat.reduceLeDiff, not_false_eq_true, not_true_eq_false, Nat.reduceEqDiff, Nat.reduceAdd, reduceCtorEq, and_true, true_and, and_false, false_and, false_or, or_false, enr, lB, t1, n10, lnow, t2, nI_add, ni_1s (show j < 31 by omega), fa_or, z1]
              · rw [z4, g3]
                constructor
                · rintro ((q | ⟨k, q1, q2⟩) | q)
                  · exact Or.inl q
                  · exact Or.inr ⟨k, by omega, q2⟩
                  · exact Or.inr ⟨j, by omega, hb, hb2, q⟩
                · rintro (q | ⟨k, q1, q2, q3, q4⟩)
                  · exact Or.inl (Or.inl q)
                  · by_cases e : k = j
                    · subst e; exact Or.inr q4
                    · exact Or.inl (Or.inr ⟨k, by omega, q2, q3, q4⟩)
        · obtain ⟨ρ, rfl, g1, K2, g2, g3⟩ := hI
          have hmρ := mo_25 g1 hm
          obtain ⟨hRρ, -, e1ρ, -⟩ := id hmρ
          have b1 : nI n ≤ nI n := by rw [nI_leI (by omega) (by omega)]; omega
          refine ⟨ρ, ?_, g1, K2, g2, g3⟩
          dsimp only
          unfold F_95_40
          simp only [la_0, la_1, rm_0_1 hRρ, k1, k2, e1ρ, b1, gd_tt, oA_arr, px_obj_s, Option.bind_some, Option.map_some, Option.bind_none, eq_self, true_or, or_true, px_av_0, px_av_1, px_av_2, px_av_10, px_av_11, bn, wi_1, wi_2, wl_1, wl_21, wl_22, wr_1, wr_21, wr_22, Sum.elim_inl, Sum.elim_inr, ↓reduceIte, Nat.reduceLT, Nat.reduceLeDiff, not_false_eq_true, not_true_eq_false, Nat.reduceEqDiff, Nat.reduceAdd, reduceCtorEq, and_true, true_and, and_false, false_and, false_or, or_false]
      obtain ⟨b, q1, q2, K', q3, q4⟩ := lp
      refine ⟨b, K', ?_, q2, q3, fun x => ?_⟩
      · rw [f_95_S]
        unfold F_95 f_95_37
        simp only [la_0, la_1, rm_0_1 hR, k1, k2, e1, a1, gd_tt, oA_arr, px_obj_s, Option.bind_some, Option.map_some, Option.bind_none, eq_self, true_or, or_true, px_av_0, px_av_1, px_av_2, px_av_10, px_av_11, bn, wi_1, wi_2, wl_1, wl_21, wl_22, wr_1, wr_21, wr_22, Sum.elim_inl, Sum.elim_inr, ↓reduceIte, Nat.reduceLT, Nat.reduceLeDiff, not_false_eq_true, not_true_eq_false, Nat.reduceEqDiff, Nat.reduceAdd, reduceCtorEq, and_true, true_and, and_false, false_and, false_or, or_false, nI_add, y1, ls, tst, n10, q1]
      · rw [q4, y4, reb_S hn hnow]
        constructor
        · rintro ((q | q) | q)
          · exact Or.inl q
          · exact Or.inr (Or.inl q)
          · exact Or.inr (Or.inr ⟨hsh, q⟩)
        · rintro (q | q | ⟨-, q⟩)
          · exact Or.inl (Or.inl q)
          · exact Or.inl (Or.inr q)
          · exact Or.inr q
end
