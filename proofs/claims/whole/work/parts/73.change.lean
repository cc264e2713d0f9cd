/-! the market: the next change -/
/-- the first pair of which P says so -/
def fpp (n : Nat) (P : Nat → Nat → Bool) (o : Option (Nat × Nat)) : Prop := match o with
  | none => ∀ a b, a < b → b < n → P a b = false
  | some p => p.1 < p.2 ∧ p.2 < n ∧ P p.1 p.2 = true ∧ (∀ a b, a < p.1 → a < b → b < n → P a b = false) ∧ ∀ b, p.1 < b → b < p.2 → P p.1 b = false
theorem fpp_uniq {n : Nat} {P : Nat → Nat → Bool} {o o' : Option (Nat × Nat)} (h1 : fpp n P o) (h2 : fpp n P o') : o = o' := by
  cases o with
  | none =>
    cases o' with
    | none => rfl
    | some p =>
      obtain ⟨b1, b2, b3, -⟩ := h2
      have := h1 p.1 p.2 b1 b2
      rw [b3] at this; cases this
  | some p =>
    obtain ⟨a1, a2, a3, a4, a5⟩ := h1
    cases o' with
    | none =>
      have := h2 p.1 p.2 a1 a2
      rw [a3] at this; cases this
    | some q =>
      obtain ⟨b1, b2, b3, b4, b5⟩ := h2
      have e1 : p.1 = q.1 := by
        rcases Nat.lt_trichotomy p.1 q.1 with z | z | z
        · have := b4 p.1 p.2 z a1 a2; rw [a3] at this; cases this
        · exact z
        · have := a4 q.1 q.2 z b1 b2; rw [b3] at this; cases this
      have e2 : p.2 = q.2 := by
        rcases Nat.lt_trichotomy p.2 q.2 with z | z | z
        · have := b5 p.2 (by omega) z; rw [← e1, a3] at this; cases this
        · exact z
        · have := a5 q.2 (by omega) z; rw [e1, b3] at this; cases this
      rw [show p = (p.1, p.2) from rfl, show q = (q.1, q.2) from rfl, e1, e2]
noncomputable def pW (n : Nat) (B : Nat → Nat) (c a b : Nat) : Bool := (B a).testBit b && decide (lss n B a b < c)
noncomputable def pJ (n : Nat) (B : Nat → Nat) (nr : Nat) (S C : Nat → Nat) (c a b : Nat) : Bool := !(B a).testBit b && (decide (rj n B nr S C a b = 0) && decide ((c : Int) ≤ lur n B a b))
/-- the next change, if there is one -/
def nxt (n : Nat) (B : Nat → Nat) (nr : Nat) (S C : Nat → Nat) (c : Nat) (o : Option (Nat × Nat)) : Prop := (∃ p, o = some p ∧ fpp n (pW n B c) (some p)) ∨ (fpp n (pW n B c) none ∧ fpp n (pJ n B nr S C c) o)
theorem nxt_uniq {n : Nat} {B : Nat → Nat} {nr : Nat} {S C : Nat → Nat} {c : Nat} {o o' : Option (Nat × Nat)} (h1 : nxt n B nr S C c o) (h2 : nxt n B nr S C c o') : o = o' := by
  rcases h1 with ⟨p, rfl, h1⟩ | ⟨h1, h3⟩
  · rcases h2 with ⟨q, rfl, h2⟩ | ⟨h2, -⟩
    · exact fpp_uniq h1 h2
    · have := fpp_uniq h1 h2; cases this
  · rcases h2 with ⟨q, rfl, h2⟩ | ⟨h2, h4⟩
    · have := fpp_uniq h1 h2; cases this
    · exact fpp_uniq h3 h4
theorem nxt_in {n : Nat} {B : Nat → Nat} {nr : Nat} {S C : Nat → Nat} {c : Nat} {p : Nat × Nat} (h : nxt n B nr S C c (some p)) : p.1 < p.2 ∧ p.2 < n := by
  rcases h with ⟨q, e, h⟩ | ⟨-, h⟩
  · cases e; exact ⟨h.1, h.2.1⟩
  · exact ⟨h.1, h.2.1⟩
def oP (o : Option (Nat × Nat)) : Int32 := match o with
  | none => -1
  | some p => nI (100 * p.1 + p.2)
section
variable {σ τ : px_M} {n nr : Nat} {B S C : Nat → Nat}
def MK (l j : Nat) : Bool := CS l j || tw2 233 l j
theorem MK_CS {σ τ : px_M} (h : fr CS σ τ) : fr MK σ τ := fr_mono h (fun l j q => by simp only [MK, Bool.or_eq_false_iff] at q; exact q.1)
theorem MK_tw {σ τ : px_M} (h : fr (tw2 233) σ τ) : fr MK σ τ := fr_mono h (fun l j q => by simp only [MK, Bool.or_eq_false_iff] at q; exact q.2)
theorem MK_n {l : Nat} (j : Nat) (h : l < 210 ∨ 220 < l) (h2 : l ≠ 233 ∧ l ≠ 234) : MK l j = false := by
  simp only [MK, Bool.or_eq_false_iff]
  exact ⟨CS_n j h, tw2_n h2.1 h2.2⟩
theorem SC_MK : ∀ l j, SC l j = false → MK l j = false := fun l j h => by
  simp only [SC, Bool.and_eq_false_iff, decide_eq_false_iff_not] at h
  exact MK_n j (by omega) (by omega)
theorem out_231 : outT 231 := Or.inr (by decide)
/-- a market: scene and rules -/
def mkt (σ : px_M) (n : Nat) (B : Nat → Nat) (nr : Nat) (S C : Nat → Nat) : Prop := cR σ.2.2 ∧ ct σ 231 n B ∧ cru σ 113 nr S C ∧ rul nr S C
theorem mkt_MK {υ : px_M} (h : fr MK σ υ) (hm : mkt σ n B nr S C) : mkt υ n B nr S C := ⟨cR_fr h hm.1, ct_fr h (fun j => MK_n j (by omega) (by omega)) (fun j => MK_n j (by omega) (by omega)) hm.2.1, cru_fr h (fun j => MK_n j (by omega) (by omega)) (fun j => MK_n j (by omega) (by omega)) (fun j => MK_n j (by omega) (by omega)) (fun j => MK_n j (by omega) (by omega)) hm.2.2.1, hm.2.2.2⟩
theorem cnv_tw {υ : px_M} (h : fr (tw2 233) σ υ) (hc : cnv σ 113 231 nr S C n B) : cnv υ 113 231 nr S C n B := by
  obtain ⟨⟨c1, ⟨c2, c3⟩, c4, c5, c6, c7, c8⟩, c9⟩ := hc
  refine ⟨⟨cR_fr h c1, ⟨by rw [h.2.2 210 5 (Or.inl rfl)]; exact c2, by rw [h.2.2 210 6 (Or.inl rfl)]; exact c3⟩, c4, c5, c6, cru_fr h (fun _ => rfl) (fun _ => rfl) (fun _ => rfl) (fun _ => rfl) c7, ct_fr h (fun _ => rfl) (fun _ => rfl) c8⟩, ?_⟩
  rcases c9 with q | ⟨q1, q2⟩
  · exact Or.inl (by rw [h.1 210 9 rfl]; exact q)
  · exact Or.inr ⟨by rw [h.1 210 9 rfl]; exact q1, fun r hr => by rw [h.1 219 r rfl]; exact q2 r hr⟩
theorem lt_ti {v : Int32} {c : Nat} (hc : c < 2 ^ 31) : (v < nI c) ↔ v.toInt < c := by rw [fa_lt, nI_toInt hc]
theorem le_ti {v : Int32} {c : Nat} (hc : c < 2 ^ 31) : (nI c ≤ v) ↔ (c : Int) ≤ v.toInt := by rw [fa_le, nI_toInt hc]
/-- the class's council convenes over the scene -/
theorem c_convM (hm : mkt σ n B nr S C) : ∃ υ, f_2002 tT σ 210 113 231 = some υ ∧ fr CS σ υ ∧ cnv υ 113 231 nr S C n B := by
  obtain ⟨hR, hc, hcr, hru⟩ := hm
  obtain ⟨ρ, hρ⟩ : ∃ ρ, px_wi (px_wr (px_wr σ 210 5 (some 113)) 210 6 (some 231)) 210 9 (nI 0) = ρ := ⟨_, rfl⟩
  have g1 : fr CS σ ρ := by rw [← hρ]; exact fr_wi (fr_wr (fr_wr (fr_rf _ _) _ rfl rfl) _ rfl rfl) _ rfl
  have r5 : ρ.2.2 210 5 = some 113 := by rw [← hρ, wi_2, wr_22, px_up_n (by decide), wr_22]; exact px_up_s _ _ _ _
  have r6 : ρ.2.2 210 6 = some 231 := by rw [← hρ, wi_2, wr_22]; exact px_up_s _ _ _ _
  have v9 : ρ.1 210 9 = nI 0 := by rw [← hρ]; exact wi_s _ _ _ _
  refine ⟨ρ, ?_, g1, ⟨cR_fr g1 hR, ⟨r5, r6⟩, by decide, out_231, hru, cru_CS (by decide) g1 hcr, ct_CS out_231 g1 hc⟩, Or.inl v9⟩
  simp only [f_2002, la_210, gd_tt, oA_arr, px_obj_s, Option.bind_some, Option.map_some, Option.bind_none, eq_self, true_or, or_true, px_av_0, px_av_1, px_av_2, px_av_10, px_av_11, bn, wi_1, wi_2, wl_1, wl_21, wl_22, wr_1, wr_21, wr_22, Sum.elim_inl, Sum.elim_inr, ↓reduceIte, Nat.reduceLT, Nat.reduceLeDiff, not_false_eq_true, not_true_eq_false, Nat.reduceEqDiff, Nat.reduceAdd, reduceCtorEq, and_true, true_and, and_false, false_and, false_or, or_false, hρ]
theorem c_joinS (hc : cnv σ 113 231 nr S C n B) {c : Nat} (hc99 : c ≤ 99) : ∃ b, f_7004_92 tT 230 210 (nI c) (nI 0) σ = some b ∧ ∃ o υ, b = (oP o, υ) ∧ fpp n (pJ n B nr S C c) o ∧ fr MK σ υ := by
  have hn := hc.1.2.2.2.2.2.2.2.2.2.1.1
  unfold f_7004_92
  refine lp_rel (F := fun s : Int32 × px_M => F_7004_92 tT 230 210 (nI c) s.1 s.2) (fun a q => ∃ ρ, q = (nI a, ρ) ∧ fr MK σ ρ ∧ cnv ρ 113 231 nr S C n B ∧ ∀ a' b, a' < a → a' < b → b < n → pJ n B nr S C c a' b = false) _ n (fun a q ha hI => ?_) 0 (nI 0, σ) (by omega) ⟨σ, rfl, fr_rf _ _, hc, fun a' b h => by omega⟩
  obtain ⟨ρ, rfl, g1, g2, g3⟩ := hI
  obtain ⟨c1, -, -, -, -, c7, c8⟩ := id g2.1
  by_cases han : a = n
  · subst han
    refine Or.inr ⟨(-1, ρ), ?_, none, ρ, rfl, fun a' b h1 h2 => g3 a' b (by omega) h1 h2, g1⟩
    have a1 : nI a ≤ nI a := by rw [nI_leI (by omega) (by omega)]; omega
    dsimp only
    unfold F_7004_92
    simp only [la_230, la_231, rc_230_0 c1, c8.2.2.2.2.1, gd_tt, oA_arr, px_obj_s, Option.bind_some, Option.map_some, Option.bind_none, eq_self, true_or, or_true, px_av_0, px_av_1, px_av_2, px_av_10, px_av_11, bn, wi_1, wi_2, wl_1, wl_21, wl_22, wr_1, wr_21, wr_22, Sum.elim_inl, Sum.elim_inr, ↓reduceIte, Nat.reduceLT, Nat.reduceLeDiff, not_false_eq_true, not_true_eq_false, Nat.reduceEqDiff, Nat.reduceAdd, reduceCtorEq, and_true, true_and, and_false, false_and, false_or, or_false, a1]
  · have ha' : a < n := by omega
    have inner : ∃ b, f_7004_110 tT 230 210 (nI c) (nI a) (nI (a + 1)) ρ = some b ∧ ((∃ υ, b = .inl (nI (a + 1), υ) ∧ fr MK σ υ ∧ cnv υ 113 231 nr S C n B ∧ ∀ b, a < b → b < n → pJ n B nr S C c a b = false) ∨ (∃ x υ, b = .inr (nI (100 * a + x), υ) ∧ fr MK σ υ ∧ a < x ∧ x < n ∧ pJ n B nr S C c a x = true ∧ ∀ b, a < b → b < x → pJ n B nr S C c a b = false)) := by
      unfold f_7004_110
      refine lp_rel (F := fun s : Int32 × px_M => F_7004_110 tT 230 210 (nI c) (nI a) s.1 s.2) (fun j q => ∃ ρ, q = (nI (a + 1 + j), ρ) ∧ fr MK σ ρ ∧ cnv ρ 113 231 nr S C n B ∧ ∀ b, a < b → b < a + 1 + j → pJ n B nr S C c a b = false) _ (n - 1 - a) (fun j q hj hI => ?_) 0 (nI (a + 1), ρ) (by omega) ⟨ρ, rfl, g1, g2, fun b h1 h2 => by omega⟩
      obtain ⟨ρ, rfl, g1, g2, g4⟩ := hI
      obtain ⟨c1, -, -, -, -, c7, c8⟩ := id g2.1
      by_cases hjn : j = n - 1 - a
      · subst hjn
        refine Or.inr ⟨.inl (nI (a + 1), ρ), ?_, Or.inl ⟨ρ, rfl, g1, g2, fun b h1 h2 => g4 b h1 (by omega)⟩⟩
        have a1 : nI n ≤ nI (a + 1 + (n - 1 - a)) := by rw [nI_leI (by omega) (by omega)]; omega
        dsimp only
        unfold F_7004_110
        simp only [la_230, la_231, rc_230_0 c1, c8.2.2.2.2.1, gd_tt, oA_arr, px_obj_s, Option.bind_some, Option.map_some, Option.bind_none, eq_self, true_or, or_true, px_av_0, px_av_1, px_av_2, px_av_10, px_av_11, bn, wi_1, wi_2, wl_1, wl_21, wl_22, wr_1, wr_21, wr_22, Sum.elim_inl, Sum.elim_inr, ↓reduceIte, Nat.reduceLT, Nat.reduceLeDiff, not_false_eq_true, not_true_eq_false, Nat.reduceEqDiff, Nat.reduceAdd, reduceCtorEq, and_true, true_and, and_false, false_and, false_or, or_false, a1, nI_add]
      · have a1 : ¬ nI n ≤ nI (a + 1 + j) := by rw [nI_leI (by omega) (by omega)]; omega
        have lk := c_linked c8 (a := a) (b := a + 1 + j) ha' (by omega)
        have hjj : a + 1 + (j + 1) = a + 1 + j + 1 := by omega
        have go : pJ n B nr S C c a (a + 1 + j) = false → ∀ b, a < b → b < a + 1 + (j + 1) → pJ n B nr S C c a b = false := fun h b h1 h2 => by
          by_cases q : b = a + 1 + j
          · subst q; exact h
          · exact g4 b h1 (by omega)
        cases hb : (B a).testBit (a + 1 + j) with
        | true =>
          rw [hb, mb_t1] at lk
          refine Or.inl ⟨(nI (a + 1 + j + 1), ρ), ?_, by omega, ρ, by rw [hjj], g1, g2, go (by unfold pJ; rw [hb]; rfl)⟩
          dsimp only
          unfold F_7004_110 f_7004_168
          simp only [la_230, la_231, rc_230_0 c1, c8.2.2.2.2.1, gd_tt, oA_arr, px_obj_s, Option.bind_some, Option.map_some, Option.bind_none, eq_self, true_or, or_true, px_av_0, px_av_1, px_av_2, px_av_10, px_av_11, bn, wi_1, wi_2, wl_1, wl_21, wl_22, wr_1, wr_21, wr_22, Sum.elim_inl, Sum.elim_inr, ↓reduceIte, Nat.reduceLT, Nat.reduceLeDiff, not_false_eq_true, not_true_eq_false, Nat.reduceEqDiff, Nat.reduceAdd, reduceCtorEq, and_true, true_and, and_false, false_and, false_or, or_false, a1, lk, n10, nI_add]
        | false =>
          rw [hb, mb_f0] at lk
          obtain ⟨v, ρ2, w1, w2, w3⟩ := c_lure c1 c8 ha' (show a + 1 + j < n by omega) (show a ≠ a + 1 + j by omega)
          have g2' := cnv_tw w3 g2
          by_cases hlt : v < nI c
          · have hv : ¬ (c : Int) ≤ lur n B a (a + 1 + j) := by rw [lt_ti (by omega), w2] at hlt; omega
            refine Or.inl ⟨(nI (a + 1 + j + 1), ρ2), ?_, by omega, ρ2, by rw [hjj], fr_tr g1 (MK_tw w3), g2', go (by unfold pJ; rw [decide_eq_false hv]; simp)⟩
            dsimp only
            unfold F_7004_110 f_7004_168
            simp only [la_230, la_231, rc_230_0 c1, c8.2.2.2.2.1, gd_tt, oA_arr, px_obj_s, Option.bind_some, Option.map_some, Option.bind_none, eq_self, true_or, or_true, px_av_0, px_av_1, px_av_2, px_av_10, px_av_11, bn, wi_1, wi_2, wl_1, wl_21, wl_22, wr_1, wr_21, wr_22, Sum.elim_inl, Sum.elim_inr, ↓reduceIte, Nat.reduceLT, Nat.reduceLeDiff, not_false_eq_true, not_true_eq_false, Nat.reduceEqDiff, Nat.reduceAdd, reduceCtorEq, and_true, true_and, and_false, false_and, false_or, or_false, a1, lk, w1, hlt, nI_add]
          · have hv : (c : Int) ≤ lur n B a (a + 1 + j) := by rw [lt_ti (by omega), w2] at hlt; omega
            obtain ⟨ρ3, y1, y2, y3⟩ := c_rj g2' ha' (show a + 1 + j < n by omega) (show a ≠ a + 1 + j by omega)
            have hle := rj_le (n := n) (B := B) (nr := nr) (S := S) (C := C) (a := a) (b := a + 1 + j)
            by_cases h0 : rj n B nr S C a (a + 1 + j) = 0
            · rw [h0] at y1
              refine Or.inr ⟨.inr (nI (100 * a + (a + 1 + j)), ρ3), ?_, Or.inr ⟨a + 1 + j, ρ3, rfl, fr_tr g1 (fr_tr (MK_tw w3) (MK_CS y2)), by omega, by omega, by unfold pJ; rw [hb, decide_eq_true h0, decide_eq_true hv]; rfl, g4⟩⟩
              dsimp only
              unfold F_7004_110 f_7004_148
              simp only [la_230, la_231, la_210, rc_230_0 c1, c8.2.2.2.2.1, gd_tt, oA_arr, px_obj_s, Option.bind_some, Option.map_some, Option.bind_none, eq_self, true_or, or_true, px_av_0, px_av_1, px_av_2, px_av_10, px_av_11, bn, wi_1, wi_2, wl_1, wl_21, wl_22, wr_1, wr_21, wr_22, Sum.elim_inl, Sum.elim_inr, ↓reduceIte, Nat.reduceLT, Nat.reduceLeDiff, not_false_eq_true, not_true_eq_false, Nat.reduceEqDiff, Nat.reduceAdd, reduceCtorEq, and_true, true_and, and_false, false_and, false_or, or_false, a1, lk, w1, hlt, y1, pk_mul, nI_add]
            · have z : ¬ nI (rj n B nr S C a (a + 1 + j)) = nI 0 := by rw [nI_eq (by omega) (by omega)]; exact h0
              refine Or.inl ⟨(nI (a + 1 + j + 1), ρ3), ?_, by omega, ρ3, by rw [hjj], fr_tr g1 (fr_tr (MK_tw w3) (MK_CS y2)), y3, go (by unfold pJ; rw [decide_eq_false h0]; simp)⟩
              dsimp only
              unfold F_7004_110 f_7004_148 f_7004_168
              simp only [la_230, la_231, la_210, rc_230_0 c1, c8.2.2.2.2.1, gd_tt, oA_arr, px_obj_s, Option.bind_some, Option.map_some, Option.bind_none, eq_self, true_or, or_true, px_av_0, px_av_1, px_av_2, px_av_10, px_av_11, bn, wi_1, wi_2, wl_1, wl_21, wl_22, wr_1, wr_21, wr_22, Sum.elim_inl, Sum.elim_inr, ↓reduceIte, Nat.reduceLT, Nat.reduceLeDiff, not_false_eq_true, not_true_eq_false, Nat.reduceEqDiff, Nat.reduceAdd, reduceCtorEq, and_true, true_and, and_false, false_and, false_or, or_false, a1, lk, w1, hlt, y1, z, nI_add]
    obtain ⟨b, q1, q2⟩ := inner
    have a1 : ¬ nI n ≤ nI a := by rw [nI_leI (by omega) (by omega)]; omega
    have hF : F_7004_92 tT 230 210 (nI c) (nI a) ρ = some b := by
      unfold F_7004_92
      simp only [la_230, la_231, rc_230_0 c1, c8.2.2.2.2.1, gd_tt, oA_arr, px_obj_s, Option.bind_some, Option.map_some, Option.bind_none, eq_self, true_or, or_true, px_av_0, px_av_1, px_av_2, px_av_10, px_av_11, bn, wi_1, wi_2, wl_1, wl_21, wl_22, wr_1, wr_21, wr_22, Sum.elim_inl, Sum.elim_inr, ↓reduceIte, Nat.reduceLT, Nat.reduceLeDiff, not_false_eq_true, not_true_eq_false, Nat.reduceEqDiff, Nat.reduceAdd, reduceCtorEq, and_true, true_and, and_false, false_and, false_or, or_false, a1, nI_add, q1]
    rcases q2 with ⟨υ, rfl, q3, q4, q5⟩ | ⟨x, υ, rfl, q3, q4, q5, q6, q7⟩
    · refine Or.inl ⟨(nI (a + 1), υ), hF, by omega, υ, rfl, q3, q4, fun a' b h1 h2 h3 => ?_⟩
      by_cases q : a' = a
      · subst q; exact q5 b h2 h3
      · exact g3 a' b (by omega) h2 h3
    · exact Or.inr ⟨(nI (100 * a + x), υ), hF, some (a, x), υ, rfl, ⟨q4, q5, q6, g3, q7⟩, q3⟩
theorem c_next (hm : mkt σ n B nr S C) {c : Nat} (hc99 : c ≤ 99) : ∃ o υ, f_7004 tT σ 230 113 210 (nI c) = some (oP o, υ) ∧ nxt n B nr S C c o ∧ fr MK σ υ := by
  have hn := hm.2.1.2.2.2.1.1
  have key : ∃ b, f_7004 tT σ 230 113 210 (nI c) = some b ∧ ∃ o υ, b = (oP o, υ) ∧ nxt n B nr S C c o ∧ fr MK σ υ := by
    unfold f_7004 f_7004_3
    refine lp_rel (F := fun s : Int32 × px_M => F_7004_3 tT 230 113 210 (nI c) s.1 s.2) (fun a q => ∃ ρ, q = (nI a, ρ) ∧ fr MK σ ρ ∧ ∀ a' b, a' < a → a' < b → b < n → pW n B c a' b = false) _ n (fun a q ha hI => ?_) 0 (nI 0, σ) (by omega) ⟨σ, rfl, fr_rf _ _, fun a' b h => by omega⟩
    obtain ⟨ρ, rfl, g1, g3⟩ := hI
    have hmρ := mkt_MK g1 hm
    obtain ⟨c1, c8, c7, -⟩ := id hmρ
    by_cases han : a = n
    · subst han
      obtain ⟨ρ2, w1, w2, w3⟩ := c_convM hmρ
      obtain ⟨b, y1, o, υ, rfl, y2, y3⟩ := c_joinS w3 hc99
      refine Or.inr ⟨(oP o, υ), ?_, o, υ, rfl, Or.inr ⟨fun a' b h1 h2 => g3 a' b (by omega) h1 h2, y2⟩, fr_tr g1 (fr_tr (MK_CS w2) y3)⟩
      have a1 : nI a ≤ nI a := by rw [nI_leI (by omega) (by omega)]; omega
      dsimp only
      unfold F_7004_3
      simp only [la_230, la_231, la_210, rc_230_0 c1, c8.2.2.2.2.1, gd_tt, oA_arr, px_obj_s, Option.bind_some, Option.map_some, Option.bind_none, eq_self, true_or, or_true, px_av_0, px_av_1, px_av_2, px_av_10, px_av_11, bn, wi_1, wi_2, wl_1, wl_21, wl_22, wr_1, wr_21, wr_22, Sum.elim_inl, Sum.elim_inr, ↓reduceIte, Nat.reduceLT, Nat.reduceLeDiff, not_false_eq_true, not_true_eq_false, Nat.reduceEqDiff, Nat.reduceAdd, reduceCtorEq, and_true, true_and, and_false, false_and, false_or, or_false, a1, w1, y1]
    · have ha' : a < n := by omega
      have inner : ∃ b, f_7004_21 tT 230 113 210 (nI c) (nI a) (nI (a + 1)) ρ = some b ∧ ((∃ υ, b = .inl (nI (a + 1), υ) ∧ fr MK σ υ ∧ ∀ b, a < b → b < n → pW n B c a b = false) ∨ (∃ x υ, b = .inr (nI (100 * a + x), υ) ∧ fr MK σ υ ∧ a < x ∧ x < n ∧ pW n B c a x = true ∧ ∀ b, a < b → b < x → pW n B c a b = false)) := by
        unfold f_7004_21
        refine lp_rel (F := fun s : Int32 × px_M => F_7004_21 tT 230 113 210 (nI c) (nI a) s.1 s.2) (fun j q => ∃ ρ, q = (nI (a + 1 + j), ρ) ∧ fr MK σ ρ ∧ ∀ b, a < b → b < a + 1 + j → pW n B c a b = false) _ (n - 1 - a) (fun j q hj hI => ?_) 0 (nI (a + 1), ρ) (by omega) ⟨ρ, rfl, g1, fun b h1 h2 => by omega⟩
        obtain ⟨ρ, rfl, g1, g4⟩ := hI
        obtain ⟨c1, c8, c7, -⟩ := mkt_MK g1 hm
        by_cases hjn : j = n - 1 - a
        · subst hjn
          refine Or.inr ⟨.inl (nI (a + 1), ρ), ?_, Or.inl ⟨ρ, rfl, g1, fun b h1 h2 => g4 b h1 (by omega)⟩⟩
          have a1 : nI n ≤ nI (a + 1 + (n - 1 - a)) := by rw [nI_leI (by omega) (by omega)]; omega
          dsimp only
          unfold F_7004_21
          simp only [la_230, la_231, rc_230_0 c1, c8.2.2.2.2.1, gd_tt, oA_arr, px_obj_s, Option.bind_some, Option.map_some, Option.bind_none, eq_self, true_or, or_true, px_av_0, px_av_1, px_av_2, px_av_10, px_av_11, bn, wi_1, wi_2, wl_1, wl_21, wl_22, wr_1, wr_21, wr_22, Sum.elim_inl, Sum.elim_inr, ↓reduceIte, Nat.reduceLT, Nat.reduceLeDiff, not_false_eq_true, not_true_eq_false, Nat.reduceEqDiff, Nat.reduceAdd, reduceCtorEq, and_true, true_and, and_false, false_and, false_or, or_false, a1, nI_add]
        · have a1 : ¬ nI n ≤ nI (a + 1 + j) := by rw [nI_leI (by omega) (by omega)]; omega
          have lk := c_linked c8 (a := a) (b := a + 1 + j) ha' (by omega)
          have hjj : a + 1 + (j + 1) = a + 1 + j + 1 := by omega
          have go : pW n B c a (a + 1 + j) = false → ∀ b, a < b → b < a + 1 + (j + 1) → pW n B c a b = false := fun h b h1 h2 => by
            by_cases q : b = a + 1 + j
            · subst q; exact h
            · exact g4 b h1 (by omega)
          cases hb : (B a).testBit (a + 1 + j) with
          | false =>
            rw [hb, mb_f0] at lk
            refine Or.inl ⟨(nI (a + 1 + j + 1), ρ), ?_, by omega, ρ, by rw [hjj], g1, go (by unfold pW; rw [hb]; rfl)⟩
            dsimp only
            unfold F_7004_21 f_7004_68
            simp only [la_230, la_231, rc_230_0 c1, c8.2.2.2.2.1, gd_tt, oA_arr, px_obj_s, Option.bind_some, Option.map_some, Option.bind_none, eq_self, true_or, or_true, px_av_0, px_av_1, px_av_2, px_av_10, px_av_11, bn, wi_1, wi_2, wl_1, wl_21, wl_22, wr_1, wr_21, wr_22, Sum.elim_inl, Sum.elim_inr, ↓reduceIte, Nat.reduceLT, Nat.reduceLeDiff, not_false_eq_true, not_true_eq_false, Nat.reduceEqDiff, Nat.reduceAdd, reduceCtorEq, and_true, true_and, and_false, false_and, false_or, or_false, a1, lk, nI_add]
          | true =>
            rw [hb, mb_t1] at lk
            obtain ⟨v, ρ2, w1, w2, w3⟩ := c_loss c1 c8 ha' (show a + 1 + j < n by omega) (show a ≠ a + 1 + j by omega)
            by_cases hle : nI c ≤ v
            · have hv : ¬ lss n B a (a + 1 + j) < c := by rw [le_ti (by omega), w2] at hle; omega
              refine Or.inl ⟨(nI (a + 1 + j + 1), ρ2), ?_, by omega, ρ2, by rw [hjj], fr_tr g1 (MK_tw w3), go (by unfold pW; rw [decide_eq_false hv]; simp)⟩
              dsimp only
              unfold F_7004_21 f_7004_68
              simp only [la_230, la_231, rc_230_0 c1, c8.2.2.2.2.1, gd_tt, oA_arr, px_obj_s, Option.bind_some, Option.map_some, Option.bind_none, eq_self, true_or, or_true, px_av_0, px_av_1, px_av_2, px_av_10, px_av_11, bn, wi_1, wi_2, wl_1, wl_21, wl_22, wr_1, wr_21, wr_22, Sum.elim_inl, Sum.elim_inr, ↓reduceIte, Nat.reduceLT, Nat.reduceLeDiff, not_false_eq_true, not_true_eq_false, Nat.reduceEqDiff, Nat.reduceAdd, reduceCtorEq, and_true, true_and, and_false, false_and, false_or, or_false, a1, lk, n10, w1, hle, nI_add]
            · have hv : lss n B a (a + 1 + j) < c := by rw [le_ti (by omega), w2] at hle; omega
              refine Or.inr ⟨.inr (nI (100 * a + (a + 1 + j)), ρ2), ?_, Or.inr ⟨a + 1 + j, ρ2, rfl, fr_tr g1 (MK_tw w3), by omega, by omega, by unfold pW; rw [hb, decide_eq_true hv]; rfl, g4⟩⟩
              dsimp only
              unfold F_7004_21 f_7004_59
              simp only [la_230, la_231, rc_230_0 c1, c8.2.2.2.2.1, gd_tt, oA_arr, px_obj_s, Option.bind_some, Option.map_some, Option.bind_none, eq_self, true_or, or_true, px_av_0, px_av_1, px_av_2, px_av_10, px_av_11, bn, wi_1, wi_2, wl_1, wl_21, wl_22, wr_1, wr_21, wr_22, Sum.elim_inl, Sum.elim_inr, ↓reduceIte, Nat.reduceLT, Nat.reduceLeDiff, not_false_eq_true, not_true_eq_false, Nat.reduceEqDiff, Nat.reduceAdd, reduceCtorEq, and_true, true_and, and_false, false_and, false_or, or_false, a1, lk, n10, w1, hle, pk_mul, nI_add]
      obtain ⟨b, q1, q2⟩ := inner
      have a1 : ¬ nI n ≤ nI a := by rw [nI_leI (by omega) (by omega)]; omega
      have hF : F_7004_3 tT 230 113 210 (nI c) (nI a) ρ = some b := by
        unfold F_7004_3
        simp only [la_230, la_231, rc_230_0 c1, c8.2.2.2.2.1, gd_tt, oA_arr, px_obj_s, Option.bind_some, Option.map_some, Option.bind_none, eq_self, true_or, or_true, px_av_0, px_av_1, px_av_2, px_av_10, px_av_11, bn, wi_1, wi_2, wl_1, wl_21, wl_22, wr_1, wr_21, wr_22, Sum.elim_inl, Sum.elim_inr, ↓reduceIte, Nat.reduceLT, Nat.reduceLeDiff, not_false_eq_true, not_true_eq_false, Nat.reduceEqDiff, Nat.reduceAdd, reduceCtorEq, and_true, true_and, and_false, false_and, false_or, or_false, a1, nI_add, q1]
      rcases q2 with ⟨υ, rfl, q3, q5⟩ | ⟨x, υ, rfl, q3, q4, q5, q6, q7⟩
      · refine Or.inl ⟨(nI (a + 1), υ), hF, by omega, υ, rfl, q3, fun a' b h1 h2 h3 => ?_⟩
        by_cases q : a' = a
        · subst q; exact q5 b h2 h3
        · exact g3 a' b (by omega) h2 h3
      · exact Or.inr ⟨(nI (100 * a + x), υ), hF, some (a, x), υ, rfl, Or.inl ⟨(a, x), rfl, ⟨q4, q5, q6, g3, q7⟩⟩, q3⟩
  obtain ⟨b, q1, o, υ, rfl, q2⟩ := key
  exact ⟨o, υ, q1, q2⟩
end
