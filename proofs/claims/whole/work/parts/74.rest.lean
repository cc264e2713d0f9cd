/-! atRest, changing, dearness -/
def tdo (B : Nat → Nat) (o : Option (Nat × Nat)) : Nat → Nat := match o with
  | none => B
  | some p => tdB B p.1 p.2
def RQt (l j : Nat) : Bool := RQ l j || tn l j
section
variable {σ τ : px_M} {n nr : Nat} {B S C : Nat → Nat}
theorem fk_RQt {σ τ : px_M} (h : fk RQ σ τ) : fr RQt σ τ := h.1
theorem tn_RQt {σ τ : px_M} (h : fr tn σ τ) : fr RQt σ τ := fr_mono h (fun l j q => by simp only [RQt, Bool.or_eq_false_iff] at q; exact q.2)
theorem tn_13 {j : Nat} (h : 13 ≤ j) : tn 1 j = false := by
  cases hq : tn 1 j with
  | false => rfl
  | true =>
    simp only [tn, Bool.and_eq_true, beq_iff_eq, decide_eq_true_eq] at hq
    omega
theorem mor_tn {υ : px_M} (h : fr tn σ υ) (hm : mo υ n B) {B' : Nat → Nat} (hr : mor σ n B' nr S C) : mor υ n B nr S C := ⟨hm, mru_fr h (fun j hj => tn_13 (by omega)) hr.2⟩
theorem e_joinS (hm : mor σ n B nr S C) (hru : rul nr S C) {c r : Nat} (hc99 : c ≤ 99) (hr : r = 0 ∨ r = 1) : ∃ b, f_123_83 tT 0 (nI c) (nI r) (nI 0) σ = some b ∧ ∃ o υ, b = (mb o.isSome, υ) ∧ fpp n (pJ n B nr S C c) o ∧ fr RQt σ υ ∧ mor υ n (if r = 1 then tdo B o else B) nr S C := by
  have hw := hm.1.2.1
  have hn := hw.1
  have k1 : vp_in (nI 1) 3216 := (vp_in_eq (by omega)).mpr (by omega)
  have k2 : (nI 1).toNatClampNeg = 1 := nI_clamp (by omega)
  unfold f_123_83
  refine lp_rel (F := fun s : Int32 × px_M => F_123_83 tT 0 (nI c) (nI r) s.1 s.2) (fun a q => ∃ ρ, q = (nI a, ρ) ∧ fk RQ σ ρ ∧ ∀ a' b, a' < a → a' < b → b < n → pJ n B nr S C c a' b = false) _ n (fun a q ha hI => ?_) 0 (nI 0, σ) (by omega) ⟨σ, rfl, fk_rf _ _, fun a' b h => by omega⟩
  obtain ⟨ρ, rfl, g1, g3⟩ := hI
  have hmρ := mor_fk g1 hm
  obtain ⟨hR, -, e1, -⟩ := id hmρ.1
  by_cases han : a = n
  · subst han
    refine Or.inr ⟨(nI 0, ρ), ?_, none, ρ, rfl, fun a' b h1 h2 => g3 a' b (by omega) h1 h2, fk_RQt g1, ?_⟩
    · have a1 : nI a ≤ nI a := by rw [nI_leI (by omega) (by omega)]; omega
      dsimp only
      unfold F_123_83
      simp only [la_0, la_1, rm_0_1 hR, gd_tt, oA_arr, px_obj_s, Option.bind_some, Option.map_some, Option.bind_none, eq_self, true_or, or_true, px_av_0, px_av_1, px_av_2, px_av_10, px_av_11, bn, wi_1, wi_2, wl_1, wl_21, wl_22, wr_1, wr_21, wr_22, Sum.elim_inl, Sum.elim_inr, ↓reduceIte, Nat.reduceLT, Nat.reduceLeDiff, not_false_eq_true, not_true_eq_false, Nat.reduceEqDiff, Nat.reduceAdd, reduceCtorEq, and_true, true_and, and_false, false_and, false_or, or_false, k1, k2, e1, a1]
    · have : (if r = 1 then tdo B none else B) = B := by split <;> rfl
      rw [this]; exact hmρ
  · have ha' : a < n := by omega
    have inner : ∃ b, f_123_98 tT 0 (nI c) (nI r) (nI a) (nI (a + 1)) ρ = some b ∧ ((∃ υ, b = .inl (nI (a + 1), υ) ∧ fk RQ σ υ ∧ ∀ b, a < b → b < n → pJ n B nr S C c a b = false) ∨ (∃ x υ, b = .inr (nI 1, υ) ∧ a < x ∧ x < n ∧ pJ n B nr S C c a x = true ∧ (∀ b, a < b → b < x → pJ n B nr S C c a b = false) ∧ fr RQt σ υ ∧ mor υ n (if r = 1 then tdB B a x else B) nr S C)) := by
      unfold f_123_98
      refine lp_rel (F := fun s : Int32 × px_M => F_123_98 tT 0 (nI c) (nI r) (nI a) s.1 s.2) (fun j q => ∃ ρ, q = (nI (a + 1 + j), ρ) ∧ fk RQ σ ρ ∧ ∀ b, a < b → b < a + 1 + j → pJ n B nr S C c a b = false) _ (n - 1 - a) (fun j q hj hI => ?_) 0 (nI (a + 1), ρ) (by omega) ⟨ρ, rfl, g1, fun b h1 h2 => by omega⟩
      obtain ⟨ρ, rfl, g1, g4⟩ := hI
      have hmρ := mor_fk g1 hm
      obtain ⟨hR, -, e1, -⟩ := id hmρ.1
      by_cases hjn : j = n - 1 - a
      · subst hjn
        refine Or.inr ⟨.inl (nI (a + 1), ρ), ?_, Or.inl ⟨ρ, rfl, g1, fun b h1 h2 => g4 b h1 (by omega)⟩⟩
        have a1 : nI n ≤ nI (a + 1 + (n - 1 - a)) := by rw [nI_leI (by omega) (by omega)]; omega
        dsimp only
        unfold F_123_98
        simp only [la_0, la_1, rm_0_1 hR, gd_tt, oA_arr, px_obj_s, Option.bind_some, Option.map_some, Option.bind_none, eq_self, true_or, or_true, px_av_0, px_av_1, px_av_2, px_av_10, px_av_11, bn, wi_1, wi_2, wl_1, wl_21, wl_22, wr_1, wr_21, wr_22, Sum.elim_inl, Sum.elim_inr, ↓reduceIte, Nat.reduceLT, Nat.reduceLeDiff, not_false_eq_true, not_true_eq_false, Nat.reduceEqDiff, Nat.reduceAdd, reduceCtorEq, and_true, true_and, and_false, false_and, false_or, or_false, k1, k2, e1, a1, nI_add]
      · have a1 : ¬ nI n ≤ nI (a + 1 + j) := by rw [nI_leI (by omega) (by omega)]; omega
        have hBa := wf_2048 hw a
        have n1 := e_near hmρ.1 (show a < 11 by omega)
        have n2 := e_isIn ρ (s := B a) (j := a + 1 + j) (by omega) (by omega)
        have l3 : (nI (B a)).toInt64 = lN (B a) := nI_l (by omega)
        have hjj : a + 1 + (j + 1) = a + 1 + j + 1 := by omega
        have go : pJ n B nr S C c a (a + 1 + j) = false → ∀ b, a < b → b < a + 1 + (j + 1) → pJ n B nr S C c a b = false := fun h b h1 h2 => by
          by_cases q : b = a + 1 + j
          · subst q; exact h
          · exact g4 b h1 (by omega)
        cases hb : (B a).testBit (a + 1 + j) with
        | true =>
          rw [hb, mb_t1] at n2
          refine Or.inl ⟨(nI (a + 1 + j + 1), ρ), ?_, by omega, ρ, by rw [hjj], g1, go (by unfold pJ; rw [hb]; rfl)⟩
          dsimp only
          unfold F_123_98 f_123_153
          simp only [la_0, la_1, rm_0_1 hR, gd_tt, oA_arr, px_obj_s, Option.bind_some, Option.map_some, Option.bind_none, eq_self, true_or, or_true, px_av_0, px_av_1, px_av_2, px_av_10, px_av_11, bn, wi_1, wi_2, wl_1, wl_21, wl_22, wr_1, wr_21, wr_22, Sum.elim_inl, Sum.elim_inr, ↓reduceIte, Nat.reduceLT, Nat.reduceLeDiff, not_false_eq_true, not_true_eq_false, Nat.reduceEqDiff, Nat.reduceAdd, reduceCtorEq, and_true, true_and, and_false, false_and, false_or, or_false, k1, k2, e1, a1, n1, l3, n2, n10, nI_add]
        | false =>
          rw [hb, mb_f0] at n2
          obtain ⟨ρ2, w1, w2⟩ := e_wantJoin hmρ hru ha' (show a + 1 + j < n by omega) (show a ≠ a + 1 + j by omega) hb hc99
          have hpj : pJ n B nr S C c a (a + 1 + j) = (decide (rj n B nr S C a (a + 1 + j) = 0) && decide ((c : Int) ≤ lur n B a (a + 1 + j))) := by unfold pJ; rw [hb]; rfl
          rw [← hpj] at w1
          have hm2 := mor_fk w2 hmρ
          cases hp : pJ n B nr S C c a (a + 1 + j) with
          | false =>
            rw [hp, mb_f0] at w1
            refine Or.inl ⟨(nI (a + 1 + j + 1), ρ2), ?_, by omega, ρ2, by rw [hjj], fk_tr g1 w2, go hp⟩
            dsimp only
            unfold F_123_98 f_123_123 f_123_153
            simp only [la_0, la_1, rm_0_1 hR, gd_tt, oA_arr, px_obj_s, Option.bind_some, Option.map_some, Option.bind_none, eq_self, true_or, or_true, px_av_0, px_av_1, px_av_2, px_av_10, px_av_11, bn, wi_1, wi_2, wl_1, wl_21, wl_22, wr_1, wr_21, wr_22, Sum.elim_inl, Sum.elim_inr, ↓reduceIte, Nat.reduceLT, Nat.reduceLeDiff, not_false_eq_true, not_true_eq_false, Nat.reduceEqDiff, Nat.reduceAdd, reduceCtorEq, and_true, true_and, and_false, false_and, false_or, or_false, k1, k2, e1, a1, n1, l3, n2, w1, nI_add]
          | true =>
            rw [hp, mb_t1] at w1
            rcases hr with rfl | rfl
            · refine Or.inr ⟨.inr (nI 1, ρ2), ?_, Or.inr ⟨a + 1 + j, ρ2, rfl, by omega, by omega, hp, g4, fk_RQt (fk_tr g1 w2), by rw [if_neg (by decide)]; exact hm2⟩⟩
              dsimp only
              unfold F_123_98 f_123_123 f_123_151
              simp only [la_0, la_1, rm_0_1 hR, gd_tt, oA_arr, px_obj_s, Option.bind_some, Option.map_some, Option.bind_none, eq_self, true_or, or_true, px_av_0, px_av_1, px_av_2, px_av_10, px_av_11, bn, wi_1, wi_2, wl_1, wl_21, wl_22, wr_1, wr_21, wr_22, Sum.elim_inl, Sum.elim_inr, ↓reduceIte, Nat.reduceLT, Nat.reduceLeDiff, not_false_eq_true, not_true_eq_false, Nat.reduceEqDiff, Nat.reduceAdd, reduceCtorEq, and_true, true_and, and_false, false_and, false_or, or_false, k1, k2, e1, a1, n1, l3, n2, w1, n10]
            · obtain ⟨υ, y1, y2, y3⟩ := e_joins hm2.1 ha' (show a + 1 + j < n by omega) (show a ≠ a + 1 + j by omega)
              refine Or.inr ⟨.inr (nI 1, υ), ?_, Or.inr ⟨a + 1 + j, υ, rfl, by omega, by omega, hp, g4, fr_tr (fk_RQt (fk_tr g1 w2)) (tn_RQt y2), ?_⟩⟩
              · dsimp only
                unfold F_123_98 f_123_123 f_123_151
                simp only [la_0, la_1, rm_0_1 hR, gd_tt, oA_arr, px_obj_s, Option.bind_some, Option.map_some, Option.bind_none, eq_self, true_or, or_true, px_av_0, px_av_1, px_av_2, px_av_10, px_av_11, bn, wi_1, wi_2, wl_1, wl_21, wl_22, wr_1, wr_21, wr_22, Sum.elim_inl, Sum.elim_inr, ↓reduceIte, Nat.reduceLT, Nat.reduceLeDiff, not_false_eq_true, not_true_eq_false, Nat.reduceEqDiff, Nat.reduceAdd, reduceCtorEq, and_true, true_and, and_false, false_and, false_or, or_false, k1, k2, e1, a1, n1, l3, n2, w1, n10, rm_0_1 hm2.1.1, y1]
              · have : tdB B a (a + 1 + j) = jn B a (a + 1 + j) := by unfold tdB; rw [if_neg (by simp [hb])]
                rw [if_pos rfl, this]
                exact mor_tn y2 y3 hm2
    obtain ⟨b, q1, q2⟩ := inner
    have a1 : ¬ nI n ≤ nI a := by rw [nI_leI (by omega) (by omega)]; omega
    have hF : F_123_83 tT 0 (nI c) (nI r) (nI a) ρ = some b := by
      unfold F_123_83
      simp only [la_0, la_1, rm_0_1 hR, gd_tt, oA_arr, px_obj_s, Option.bind_some, Option.map_some, Option.bind_none, eq_self, true_or, or_true, px_av_0, px_av_1, px_av_2, px_av_10, px_av_11, bn, wi_1, wi_2, wl_1, wl_21, wl_22, wr_1, wr_21, wr_22, Sum.elim_inl, Sum.elim_inr, ↓reduceIte, Nat.reduceLT, Nat.reduceLeDiff, not_false_eq_true, not_true_eq_false, Nat.reduceEqDiff, Nat.reduceAdd, reduceCtorEq, and_true, true_and, and_false, false_and, false_or, or_false, k1, k2, e1, a1, nI_add, q1]
    rcases q2 with ⟨υ, rfl, q3, q5⟩ | ⟨x, υ, rfl, q3, q4, q5, q6, q7, q8⟩
    · refine Or.inl ⟨(nI (a + 1), υ), hF, by omega, υ, rfl, q3, fun a' b h1 h2 h3 => ?_⟩
      by_cases q : a' = a
      · subst q; exact q5 b h2 h3
      · exact g3 a' b (by omega) h2 h3
    · exact Or.inr ⟨(nI 1, υ), hF, some (a, x), υ, rfl, ⟨q3, q4, q5, g3, q6⟩, q7, q8⟩
theorem e_changes (hm : mor σ n B nr S C) (hru : rul nr S C) {c r : Nat} (hc99 : c ≤ 99) (hr : r = 0 ∨ r = 1) : ∃ o υ, f_123 tT σ 0 (nI c) (nI r) = some (mb o.isSome, υ) ∧ nxt n B nr S C c o ∧ fr RQt σ υ ∧ mor υ n (if r = 1 then tdo B o else B) nr S C := by
  have hw := hm.1.2.1
  have hn := hw.1
  have k1 : vp_in (nI 1) 3216 := (vp_in_eq (by omega)).mpr (by omega)
  have k2 : (nI 1).toNatClampNeg = 1 := nI_clamp (by omega)
  have RQ15 : ∀ l j, RQ l j = false → on 15 l j = false := fun l j q => rS_15 l j (RQ_rS l j q)
  have key : ∃ b, f_123 tT σ 0 (nI c) (nI r) = some b ∧ ∃ o υ, b = (mb o.isSome, υ) ∧ nxt n B nr S C c o ∧ fr RQt σ υ ∧ mor υ n (if r = 1 then tdo B o else B) nr S C := by
    unfold f_123 f_123_2
    refine lp_rel (F := fun s : Int32 × px_M => F_123_2 tT 0 (nI c) (nI r) s.1 s.2) (fun a q => ∃ ρ, q = (nI a, ρ) ∧ fk RQ σ ρ ∧ ∀ a' b, a' < a → a' < b → b < n → pW n B c a' b = false) _ n (fun a q ha hI => ?_) 0 (nI 0, σ) (by omega) ⟨σ, rfl, fk_rf _ _, fun a' b h => by omega⟩
    obtain ⟨ρ, rfl, g1, g3⟩ := hI
    have hmρ := mor_fk g1 hm
    obtain ⟨hR, -, e1, -⟩ := id hmρ.1
    by_cases han : a = n
    · subst han
      obtain ⟨b, y1, o, υ, rfl, y2, y3, y4⟩ := e_joinS hmρ hru hc99 hr
      refine Or.inr ⟨(mb o.isSome, υ), ?_, o, υ, rfl, Or.inr ⟨fun a' b h1 h2 => g3 a' b (by omega) h1 h2, y2⟩, fr_tr (fk_RQt g1) y3, y4⟩
      have a1 : nI a ≤ nI a := by rw [nI_leI (by omega) (by omega)]; omega
      dsimp only
      unfold F_123_2
      simp only [la_0, la_1, rm_0_1 hR, gd_tt, oA_arr, px_obj_s, Option.bind_some, Option.map_some, Option.bind_none, eq_self, true_or, or_true, px_av_0, px_av_1, px_av_2, px_av_10, px_av_11, bn, wi_1, wi_2, wl_1, wl_21, wl_22, wr_1, wr_21, wr_22, Sum.elim_inl, Sum.elim_inr, ↓reduceIte, Nat.reduceLT, Nat.reduceLeDiff, not_false_eq_true, not_true_eq_false, Nat.reduceEqDiff, Nat.reduceAdd, reduceCtorEq, and_true, true_and, and_false, false_and, false_or, or_false, k1, k2, e1, a1, y1]
    · have ha' : a < n := by omega
      have inner : ∃ b, f_123_17 tT 0 (nI c) (nI r) (nI a) (nI (a + 1)) ρ = some b ∧ ((∃ υ, b = .inl (nI (a + 1), υ) ∧ fk RQ σ υ ∧ ∀ b, a < b → b < n → pW n B c a b = false) ∨ (∃ x υ, b = .inr (nI 1, υ) ∧ a < x ∧ x < n ∧ pW n B c a x = true ∧ (∀ b, a < b → b < x → pW n B c a b = false) ∧ fr RQt σ υ ∧ mor υ n (if r = 1 then tdB B a x else B) nr S C)) := by
        unfold f_123_17
        refine lp_rel (F := fun s : Int32 × px_M => F_123_17 tT 0 (nI c) (nI r) (nI a) s.1 s.2) (fun j q => ∃ ρ, q = (nI (a + 1 + j), ρ) ∧ fk RQ σ ρ ∧ ∀ b, a < b → b < a + 1 + j → pW n B c a b = false) _ (n - 1 - a) (fun j q hj hI => ?_) 0 (nI (a + 1), ρ) (by omega) ⟨ρ, rfl, g1, fun b h1 h2 => by omega⟩
        obtain ⟨ρ, rfl, g1, g4⟩ := hI
        have hmρ := mor_fk g1 hm
        obtain ⟨hR, -, e1, -⟩ := id hmρ.1
        by_cases hjn : j = n - 1 - a
        · subst hjn
          refine Or.inr ⟨.inl (nI (a + 1), ρ), ?_, Or.inl ⟨ρ, rfl, g1, fun b h1 h2 => g4 b h1 (by omega)⟩⟩
          have a1 : nI n ≤ nI (a + 1 + (n - 1 - a)) := by rw [nI_leI (by omega) (by omega)]; omega
          dsimp only
          unfold F_123_17
          simp only [la_0, la_1, rm_0_1 hR, gd_tt, oA_arr, px_obj_s, Option.bind_some, Option.map_some, Option.bind_none, eq_self, true_or, or_true, px_av_0, px_av_1, px_av_2, px_av_10, px_av_11, bn, wi_1, wi_2, wl_1, wl_21, wl_22, wr_1, wr_21, wr_22, Sum.elim_inl, Sum.elim_inr, ↓reduceIte, Nat.reduceLT, Nat.reduceLeDiff, not_false_eq_true, not_true_eq_false, Nat.reduceEqDiff, Nat.reduceAdd, reduceCtorEq, and_true, true_and, and_false, false_and, false_or, or_false, k1, k2, e1, a1, nI_add]
        · have a1 : ¬ nI n ≤ nI (a + 1 + j) := by rw [nI_leI (by omega) (by omega)]; omega
          have hBa := wf_2048 hw a
          have n1 := e_near hmρ.1 (show a < 11 by omega)
          have n2 := e_isIn ρ (s := B a) (j := a + 1 + j) (by omega) (by omega)
          have l3 : (nI (B a)).toInt64 = lN (B a) := nI_l (by omega)
          have hjj : a + 1 + (j + 1) = a + 1 + j + 1 := by omega
          have go : pW n B c a (a + 1 + j) = false → ∀ b, a < b → b < a + 1 + (j + 1) → pW n B c a b = false := fun h b h1 h2 => by
            by_cases q : b = a + 1 + j
            · subst q; exact h
            · exact g4 b h1 (by omega)
          cases hb : (B a).testBit (a + 1 + j) with
          | false =>
            rw [hb, mb_f0] at n2
            refine Or.inl ⟨(nI (a + 1 + j + 1), ρ), ?_, by omega, ρ, by rw [hjj], g1, go (by unfold pW; rw [hb]; rfl)⟩
            dsimp only
            unfold F_123_17 f_123_69
            simp only [la_0, la_1, rm_0_1 hR, gd_tt, oA_arr, px_obj_s, Option.bind_some, Option.map_some, Option.bind_none, eq_self, true_or, or_true, px_av_0, px_av_1, px_av_2, px_av_10, px_av_11, bn, wi_1, wi_2, wl_1, wl_21, wl_22, wr_1, wr_21, wr_22, Sum.elim_inl, Sum.elim_inr, ↓reduceIte, Nat.reduceLT, Nat.reduceLeDiff, not_false_eq_true, not_true_eq_false, Nat.reduceEqDiff, Nat.reduceAdd, reduceCtorEq, and_true, true_and, and_false, false_and, false_or, or_false, k1, k2, e1, a1, n1, l3, n2, nI_add]
          | true =>
            rw [hb, mb_t1] at n2
            obtain ⟨ρ2, w1, w2⟩ := e_wantsWall hmρ.1 ha' (show a + 1 + j < n by omega) (show a ≠ a + 1 + j by omega) hb hc99
            have w2' := fk_mono w2 RQ15
            have hpw : pW n B c a (a + 1 + j) = decide (lss n B a (a + 1 + j) < c) := by unfold pW; rw [hb]; rfl
            rw [← hpw] at w1
            have hm2 := mor_fk w2 hmρ
            cases hp : pW n B c a (a + 1 + j) with
            | false =>
              rw [hp, mb_f0] at w1
              refine Or.inl ⟨(nI (a + 1 + j + 1), ρ2), ?_, by omega, ρ2, by rw [hjj], fk_tr g1 w2', go hp⟩
              dsimp only
              unfold F_123_17 f_123_42 f_123_69
              simp only [la_0, la_1, rm_0_1 hR, gd_tt, oA_arr, px_obj_s, Option.bind_some, Option.map_some, Option.bind_none, eq_self, true_or, or_true, px_av_0, px_av_1, px_av_2, px_av_10, px_av_11, bn, wi_1, wi_2, wl_1, wl_21, wl_22, wr_1, wr_21, wr_22, Sum.elim_inl, Sum.elim_inr, ↓reduceIte, Nat.reduceLT, Nat.reduceLeDiff, not_false_eq_true, not_true_eq_false, Nat.reduceEqDiff, Nat.reduceAdd, reduceCtorEq, and_true, true_and, and_false, false_and, false_or, or_false, k1, k2, e1, a1, n1, l3, n2, n10, w1, nI_add]
            | true =>
              rw [hp, mb_t1] at w1
              rcases hr with rfl | rfl
              · refine Or.inr ⟨.inr (nI 1, ρ2), ?_, Or.inr ⟨a + 1 + j, ρ2, rfl, by omega, by omega, hp, g4, fk_RQt (fk_tr g1 w2'), by rw [if_neg (by decide)]; exact hm2⟩⟩
                dsimp only
                unfold F_123_17 f_123_42 f_123_67
                simp only [la_0, la_1, rm_0_1 hR, gd_tt, oA_arr, px_obj_s, Option.bind_some, Option.map_some, Option.bind_none, eq_self, true_or, or_true, px_av_0, px_av_1, px_av_2, px_av_10, px_av_11, bn, wi_1, wi_2, wl_1, wl_21, wl_22, wr_1, wr_21, wr_22, Sum.elim_inl, Sum.elim_inr, ↓reduceIte, Nat.reduceLT, Nat.reduceLeDiff, not_false_eq_true, not_true_eq_false, Nat.reduceEqDiff, Nat.reduceAdd, reduceCtorEq, and_true, true_and, and_false, false_and, false_or, or_false, k1, k2, e1, a1, n1, l3, n2, w1, n10]
              · obtain ⟨υ, y1, y2, y3⟩ := e_walls hm2.1 ha' (show a + 1 + j < n by omega) (show a ≠ a + 1 + j by omega)
                refine Or.inr ⟨.inr (nI 1, υ), ?_, Or.inr ⟨a + 1 + j, υ, rfl, by omega, by omega, hp, g4, fr_tr (fk_RQt (fk_tr g1 w2')) (tn_RQt y2), ?_⟩⟩
                · dsimp only
                  unfold F_123_17 f_123_42 f_123_67
                  simp only [la_0, la_1, rm_0_1 hR, gd_tt, oA_arr, px_obj_s, Option.bind_some, Option.map_some, Option.bind_none, eq_self, true_or, or_true, px_av_0, px_av_1, px_av_2, px_av_10, px_av_11, bn, wi_1, wi_2, wl_1, wl_21, wl_22, wr_1, wr_21, wr_22, Sum.elim_inl, Sum.elim_inr, ↓reduceIte, Nat.reduceLT, Nat.reduceLeDiff, not_false_eq_true, not_true_eq_false, Nat.reduceEqDiff, Nat.reduceAdd, reduceCtorEq, and_true, true_and, and_false, false_and, false_or, or_false, k1, k2, e1, a1, n1, l3, n2, w1, n10, y1]
                · have : tdB B a (a + 1 + j) = wl B a (a + 1 + j) := by unfold tdB; rw [if_pos hb]
                  rw [if_pos rfl, this]
                  exact mor_tn y2 y3 hm2
      obtain ⟨b, q1, q2⟩ := inner
      have a1 : ¬ nI n ≤ nI a := by rw [nI_leI (by omega) (by omega)]; omega
      have hF : F_123_2 tT 0 (nI c) (nI r) (nI a) ρ = some b := by
        unfold F_123_2
        simp only [la_0, la_1, rm_0_1 hR, gd_tt, oA_arr, px_obj_s, Option.bind_some, Option.map_some, Option.bind_none, eq_self, true_or, or_true, px_av_0, px_av_1, px_av_2, px_av_10, px_av_11, bn, wi_1, wi_2, wl_1, wl_21, wl_22, wr_1, wr_21, wr_22, Sum.elim_inl, Sum.elim_inr, ↓reduceIte, Nat.reduceLT, Nat.reduceLeDiff, not_false_eq_true, not_true_eq_false, Nat.reduceEqDiff, Nat.reduceAdd, reduceCtorEq, and_true, true_and, and_false, false_and, false_or, or_false, k1, k2, e1, a1, nI_add, q1]
      rcases q2 with ⟨υ, rfl, q3, q5⟩ | ⟨x, υ, rfl, q3, q4, q5, q6, q7, q8⟩
      · refine Or.inl ⟨(nI (a + 1), υ), hF, by omega, υ, rfl, q3, fun a' b h1 h2 h3 => ?_⟩
        by_cases q : a' = a
        · subst q; exact q5 b h2 h3
        · exact g3 a' b (by omega) h2 h3
      · exact Or.inr ⟨(nI 1, υ), hF, some (a, x), υ, rfl, Or.inl ⟨(a, x), rfl, ⟨q3, q4, q5, g3, q6⟩⟩, q7, q8⟩
  obtain ⟨b, q1, o, υ, rfl, q2⟩ := key
  exact ⟨o, υ, q1, q2⟩
theorem e_chk (hm : mor σ n B nr S C) (hru : rul nr S C) {c : Nat} (hc99 : c ≤ 99) : ∃ o υ, f_123 tT σ 0 (nI c) (nI 0) = some (mb o.isSome, υ) ∧ nxt n B nr S C c o ∧ fk RQ σ υ := by
  obtain ⟨o, υ, q1, q2, q3, q4⟩ := e_changes hm hru hc99 (Or.inl rfl)
  rw [if_neg (by decide)] at q4
  exact ⟨o, υ, q1, q2, fk_mo q3 (fun _ => rfl) hm.1 q4.1⟩
/-! atRest -/
theorem c_visit (hc : clr σ n B nr S C) : ∃ υ, f_7002 tT σ 230 111 = some υ ∧ fr SC σ υ ∧ mkt υ n B nr S C ∧ clr υ n B nr S C := by
  have hR := hc.1.1
  obtain ⟨υ, q1, q2, q3⟩ := c_become (t := 231) hc.1.2 la_231 la_232 (rc_231_1 hR) (by decide) (by decide) (by decide)
  have f1 : fr SC σ υ := fr_mono q2 (fun l j h => by
    simp only [SC, Bool.and_eq_false_iff, decide_eq_false_iff_not] at h
    exact tw2_n (by omega) (by omega))
  have hcυ := clr_SC f1 hc
  refine ⟨υ, ?_, f1, ⟨hcυ.1.1, q3, hcυ.2.1, hcυ.2.2⟩, hcυ⟩
  simp only [f_7002, la_230, la_231, rc_230_0 hR, gd_tt, oA_arr, px_obj_s, Option.bind_some, Option.map_some, Option.bind_none, eq_self, true_or, or_true, px_av_0, px_av_1, px_av_2, px_av_10, px_av_11, bn, wi_1, wi_2, wl_1, wl_21, wl_22, wr_1, wr_21, wr_22, Sum.elim_inl, Sum.elim_inr, ↓reduceIte, Nat.reduceLT, Nat.reduceLeDiff, not_false_eq_true, not_true_eq_false, Nat.reduceEqDiff, Nat.reduceAdd, reduceCtorEq, and_true, true_and, and_false, false_and, false_or, or_false, q1]
theorem oP_n {o : Option (Nat × Nat)} (h : ∀ p, o = some p → 100 * p.1 + p.2 < 2 ^ 31) : (oP o = -1) ↔ o = none := by
  cases o with
  | none => exact ⟨fun _ => rfl, fun _ => rfl⟩
  | some p =>
    constructor
    · intro q; exact absurd q (nI_m1 (h p rfl))
    · intro q; cases q
theorem c_isCost' (σ : px_M) (x : Int32) : (∃ c, c ≤ 99 ∧ x = nI c ∧ f_12058 tT σ x = some (nI 1)) ∨ (¬ (((0 : Nat) : Int) ≤ x.toInt ∧ x.toInt ≤ ((99 : Nat) : Int)) ∧ f_12058 tT σ x = some (nI 0)) := by
  have h := c_isCost σ x
  rcases rg_cases x 0 99 (by omega) with ⟨c, -, hc, rfl⟩ | hno
  · refine Or.inl ⟨c, hc, rfl, ?_⟩
    rw [decide_eq_true (by rw [nI_toInt (by omega)]; omega)] at h
    exact h
  · refine Or.inr ⟨hno, ?_⟩
    rw [decide_eq_false (fun q => hno (by omega))] at h
    exact h
theorem a_atRest (hc : clr σ n B nr S C) (x : Int32) : agR σ (f_12046 tT σ 100 x) (fun τ => f_124 tT τ 0 x) n B nr S C := by
  have hR := hc.1.1
  have hn := hc.1.2.2.2.2.1.1
  rcases c_isCost' σ x with ⟨c, hc99, rfl, h1⟩ | ⟨hno, h1⟩
  · obtain ⟨ρ, q1, q2, q3, q4⟩ := c_visit hc
    obtain ⟨o, υ, p1, p2, p3⟩ := c_next q3 hc99
    have hRρ := q4.1.1
    have hop := oP_n (o := o) (fun p hp => by subst hp; have := nxt_in p2; omega)
    refine ⟨if o.isSome = true then nI 0 else nI 1, υ, ?_, fr_tr q2 (fr_mono p3 SC_MK), fun τ hm => ?_⟩
    · cases ho : o with
      | none =>
        rw [ho] at p1
        have z : oP none = -1 := rfl
        simp only [f_12046, f_12046_24, f_12046_47, h1, n10, la_100, la_110, la_230, rc_100_0 hR, rc_100_11 hR, rc_110_0 hR, gd_tt, oA_arr, px_obj_s, Option.bind_some, Option.map_some, Option.bind_none, eq_self, true_or, or_true, px_av_0, px_av_1, px_av_2, px_av_10, px_av_11, bn, wi_1, wi_2, wl_1, wl_21, wl_22, wr_1, wr_21, wr_22, Sum.elim_inl, Sum.elim_inr, ↓reduceIte, Nat.reduceLT, Nat.reduceLeDiff, not_false_eq_true, not_true_eq_false, Nat.reduceEqDiff, Nat.reduceAdd, reduceCtorEq, and_true, true_and, and_false, false_and, false_or, or_false, q1, rc_100_0 hRρ, rc_100_11 hRρ, rc_110_1 hRρ, rc_100_10 hRρ, p1, z, Option.isSome_none, Bool.false_eq_true]
      | some p =>
        rw [ho] at p1 hop
        have z : ¬ oP (some p) = -1 := fun q => by have := hop.mp q; cases this
        simp only [f_12046, f_12046_24, f_12046_51, h1, n10, la_100, la_110, la_230, rc_100_0 hR, rc_100_11 hR, rc_110_0 hR, gd_tt, oA_arr, px_obj_s, Option.bind_some, Option.map_some, Option.bind_none, eq_self, true_or, or_true, px_av_0, px_av_1, px_av_2, px_av_10, px_av_11, bn, wi_1, wi_2, wl_1, wl_21, wl_22, wr_1, wr_21, wr_22, Sum.elim_inl, Sum.elim_inr, ↓reduceIte, Nat.reduceLT, Nat.reduceLeDiff, not_false_eq_true, not_true_eq_false, Nat.reduceEqDiff, Nat.reduceAdd, reduceCtorEq, and_true, true_and, and_false, false_and, false_or, or_false, q1, rc_100_0 hRρ, rc_100_11 hRρ, rc_110_1 hRρ, rc_100_10 hRρ, p1, z, Option.isSome_some]
    · obtain ⟨o', χ, w1, w2, w3⟩ := e_chk (mor_thr hm) hc.2.2 hc99
      have := nxt_uniq p2 w2
      subst this
      refine ⟨χ, ?_, fk_tr fk_thr (fk_mono w3 SM_RQ)⟩
      have w0 := e_withinN (px_wi τ 0 0 (nI 0)) (nI c) (lo := 0) (hi := 99) (by omega) (by omega)
      rw [decide_eq_true (by rw [nI_toInt (by omega)]; omega), mb_t1] at w0
      cases ho : o with
      | none =>
        rw [ho] at w1
        simp only [Option.isSome_none, mb_f0] at w1
        simp only [f_124, la_0, gd_tt, oA_arr, px_obj_s, Option.bind_some, Option.map_some, Option.bind_none, eq_self, true_or, or_true, px_av_0, px_av_1, px_av_2, px_av_10, px_av_11, bn, wi_1, wi_2, wl_1, wl_21, wl_22, wr_1, wr_21, wr_22, Sum.elim_inl, Sum.elim_inr, ↓reduceIte, Nat.reduceLT, Nat.reduceLeDiff, not_false_eq_true, not_true_eq_false, Nat.reduceEqDiff, Nat.reduceAdd, reduceCtorEq, and_true, true_and, and_false, false_and, false_or, or_false, w0, n10, w1, Option.isSome_none, Bool.false_eq_true]
      | some p =>
        rw [ho] at w1
        simp only [Option.isSome_some, mb_t1] at w1
        simp only [f_124, la_0, gd_tt, oA_arr, px_obj_s, Option.bind_some, Option.map_some, Option.bind_none, eq_self, true_or, or_true, px_av_0, px_av_1, px_av_2, px_av_10, px_av_11, bn, wi_1, wi_2, wl_1, wl_21, wl_22, wr_1, wr_21, wr_22, Sum.elim_inl, Sum.elim_inr, ↓reduceIte, Nat.reduceLT, Nat.reduceLeDiff, not_false_eq_true, not_true_eq_false, Nat.reduceEqDiff, Nat.reduceAdd, reduceCtorEq, and_true, true_and, and_false, false_and, false_or, or_false, w0, n10, w1, Option.isSome_some]
  · refine ⟨-3, σ, ?_, fr_rf _ _, fun τ hm => ⟨_, ?_, fk_thr⟩⟩
    · simp only [f_12046, h1, gd_tt, oA_arr, px_obj_s, Option.bind_some, Option.map_some, Option.bind_none, eq_self, true_or, or_true, px_av_0, px_av_1, px_av_2, px_av_10, px_av_11, bn, wi_1, wi_2, wl_1, wl_21, wl_22, wr_1, wr_21, wr_22, Sum.elim_inl, Sum.elim_inr, ↓reduceIte, Nat.reduceLT, Nat.reduceLeDiff, not_false_eq_true, not_true_eq_false, Nat.reduceEqDiff, Nat.reduceAdd, reduceCtorEq, and_true, true_and, and_false, false_and, false_or, or_false]
    · have w0 := e_withinN (px_wi τ 0 0 (nI 0)) x (lo := 0) (hi := 99) (by omega) (by omega)
      rw [decide_eq_false hno, mb_f0] at w0
      simp only [f_124, la_0, gd_tt, oA_arr, px_obj_s, Option.bind_some, Option.map_some, Option.bind_none, eq_self, true_or, or_true, px_av_0, px_av_1, px_av_2, px_av_10, px_av_11, bn, wi_1, wi_2, wl_1, wl_21, wl_22, wr_1, wr_21, wr_22, Sum.elim_inl, Sum.elim_inr, ↓reduceIte, Nat.reduceLT, Nat.reduceLeDiff, not_false_eq_true, not_true_eq_false, Nat.reduceEqDiff, Nat.reduceAdd, reduceCtorEq, and_true, true_and, and_false, false_and, false_or, or_false, w0]
end
