/-! judge and perform -/
/-- the town after k acts -/
def rnB (n : Nat) (B : Nat → Nat) (N : Nat → Int64) : Nat → (Nat → Nat)
  | 0 => B
  | k + 1 => tdx n (rnB n B N k) (N k)
def rnd (d : Nat) : Nat → Nat
  | 0 => d
  | k + 1 => inc (rnd d k)
def rnG (n : Nat) (B : Nat → Nat) (N : Nat → Int64) (G : Nat → Nat → Int32) : Nat → (Nat → Nat → Int32)
  | 0 => G
  | k + 1 => psh (rnG n B N G k) (trow n (rnB n B N k))
/-- where the acts stop -/
def stp (n : Nat) (B : Nat → Nat) (nr : Nat) (S C : Nat → Nat) (N : Nat → Int64) (m k : Nat) : Prop := k ≤ m ∧ (∀ i, i < k → rac n (rnB n B N i) nr S C (N i) = 0) ∧ (k = m ∨ ¬ rac n (rnB n B N k) nr S C (N k) = 0)
theorem stp_uniq {n : Nat} {B : Nat → Nat} {nr : Nat} {S C : Nat → Nat} {N : Nat → Int64} {m k k' : Nat} (h1 : stp n B nr S C N m k) (h2 : stp n B nr S C N m k') : k = k' := by
  obtain ⟨a1, a2, a3⟩ := h1
  obtain ⟨b1, b2, b3⟩ := h2
  rcases Nat.lt_trichotomy k k' with q | q | q
  · rcases a3 with a3 | a3
    · omega
    · exact absurd (b2 k q) a3
  · exact q
  · rcases b3 with b3 | b3
    · omega
    · exact absurd (a2 k' q) b3
section
variable {σ τ : px_M} {T n nr d : Nat} {B S C : Nat → Nat} {G : Nat → Nat → Int32} {N : Nat → Int64}
theorem mru_uS {υ : px_M} (h : fr SMD σ υ) (hm : mru σ 0 nr S C) : mru υ 0 nr S C := mru_fr h (fun j hj => by
  cases hq : SMD 1 j with
  | false => rfl
  | true =>
    simp only [SMD, SM_1, uS, tn, hs, Bool.false_or, Bool.or_eq_true, Bool.and_eq_true, beq_iff_eq, decide_eq_true_eq] at hq
    omega) hm
/-- the acts of a row in the model -/
def rwm (τ : px_M) (r m : Nat) (N : Nat → Int64) : Prop := τ.1 36 r = nI m ∧ ∀ k, k < m → τ.2.1 37 (40 * r + k) = N k
theorem rwm_fr {Q : Nat → Nat → Bool} {υ : px_M} {r m : Nat} (h : fr Q τ υ) (h1 : ∀ j, Q 36 j = false) (h2 : ∀ j, Q 37 j = false) (hr : rwm τ r m N) : rwm υ r m N := ⟨by rw [h.1 36 r (h1 r)]; exact hr.1, fun k hk => by rw [h.2.1 37 _ (h2 _)]; exact hr.2 k hk⟩
def rwc (σ : px_M) (r m : Nat) (N : Nat → Int64) : Prop := σ.1 105 r = nI m ∧ ∀ k, k < m → σ.2.1 103 (40 * r + k) = N k
theorem rwc_fr {Q : Nat → Nat → Bool} {υ : px_M} {r m : Nat} (h : fr Q τ υ) (h1 : ∀ j, Q 105 j = false) (h2 : ∀ j, Q 103 j = false) (hr : rwc τ r m N) : rwc υ r m N := ⟨by rw [h.1 105 r (h1 r)]; exact hr.1, fun k hk => by rw [h.2.1 103 _ (h2 _)]; exact hr.2 k hk⟩
def RT (l j : Nat) : Bool := RA1 l j || tn l j
theorem RT_f {j : Nat} (h : 13 ≤ j) : RT 1 j = false := by
  cases hq : RT 1 j with
  | false => rfl
  | true =>
    simp only [RT, RA1, RQ, tn, Bool.or_eq_true, Bool.and_eq_true, beq_iff_eq, decide_eq_true_eq] at hq
    omega
theorem fk_RT {σ τ : px_M} (h : fk RA1 σ τ) : fr RT σ τ := h.1
theorem tn_RT {σ τ : px_M} (h : fr tn σ τ) : fr RT σ τ := fr_mono h (fun l j q => by simp only [RT, Bool.or_eq_false_iff] at q; exact q.2)
/-- one turn of the model's loop; noted or not -/
theorem e_actG (hm : mor σ n B nr S C) (hru : rul nr S C) {r m j : Nat} (hr4 : r < 4) (hm40 : m ≤ 40) (hj : j < m) (hrw : rwm σ r m N) (nt : Nat) (hnt : nt = 0 ∨ nt = 1) : ∃ ω, fk RA1 σ ω ∧ ω.1 0 21 = nI (rac n B nr S C (N j)) ∧ (rac n B nr S C (N j) ≠ 0 → F_72_7 tT 0 (nI r) (nI nt) (nI j) σ = some (.inr (nI j, ω))) ∧ (rac n B nr S C (N j) = 0 → ∃ a b, acp n (N j) a b ∧ F_72_7 tT 0 (nI r) (nI nt) (nI j) σ = (if nt = 0 then f_72_162 tT ω 0 (nI r) (nI nt) (nI j) (lN a) (lN b) (mb ((B a).testBit b)) else (f_58 tT ω 0).bind fun q => f_72_162 tT q 0 (nI r) (nI nt) (nI j) (lN a) (lN b) (mb ((B a).testBit b)))) := by
  obtain ⟨ω, w1, w2, w3⟩ := e_act hm hru (nI r) (nI nt) (nI j) (N j)
  have hle := rac_le (n := n) (B := B) (nr := nr) (S := S) (C := C) (N j)
  have hR := hm.1.1
  have c1 : vp_in (nI r) 4 := (vp_in_eq (by omega)).mpr (by omega)
  have c2 : (nI r).toNatClampNeg = r := nI_clamp (by omega)
  have c3 : vp_in (nI (40 * r + j)) 160 := (vp_in_eq (by omega)).mpr (by omega)
  have c4 : (nI (40 * r + j)).toNatClampNeg = 40 * r + j := nI_clamp (by omega)
  have a1 : ¬ nI m ≤ nI j := by rw [nI_leI (by omega) (by omega)]; omega
  have v1 := hrw.1
  have v2 := hrw.2 j hj
  refine ⟨ω, w1, w2, fun h0 => ?_, fun h0 => ?_⟩
  · have z : ¬ nI (rac n B nr S C (N j)) = nI 0 := by rw [nI_eq (by omega) (by omega)]; exact h0
    have fin : ∀ a b c, f_72_145 tT ω 0 (nI r) (nI nt) (nI j) a b c = some (.inr (nI j, ω)) := fun a b c => by
      simp only [f_72_145, la_0, gd_tt, oA_arr, px_obj_s, Option.bind_some, Option.map_some, Option.bind_none, eq_self, true_or, or_true, px_av_0, px_av_1, px_av_2, px_av_10, px_av_11, bn, wi_1, wi_2, wl_1, wl_21, wl_22, wr_1, wr_21, wr_22, Sum.elim_inl, Sum.elim_inr, ↓reduceIte, Nat.reduceLT, Nat.reduceLeDiff, not_false_eq_true, not_true_eq_false, Nat.reduceEqDiff, Nat.reduceAdd, reduceCtorEq, and_true, true_and, and_false, false_and, false_or, or_false, w2, z]
    unfold F_72_7
    rcases w3 with ⟨a, b, -, w4⟩ | ⟨-, a, b, w4⟩
    · simp only [la_0, la_36, la_37, rm_0_36 hR, rm_0_37 hR, gd_tt, oA_arr, px_obj_s, Option.bind_some, Option.map_some, Option.bind_none, eq_self, true_or, or_true, px_av_0, px_av_1, px_av_2, px_av_10, px_av_11, bn, wi_1, wi_2, wl_1, wl_21, wl_22, wr_1, wr_21, wr_22, Sum.elim_inl, Sum.elim_inr, ↓reduceIte, Nat.reduceLT, Nat.reduceLeDiff, not_false_eq_true, not_true_eq_false, Nat.reduceEqDiff, Nat.reduceAdd, reduceCtorEq, and_true, true_and, and_false, false_and, false_or, or_false, c1, c2, v1, a1, pk_mul, nI_add, c3, c4, v2, l100, w4, fin]
    · simp only [la_0, la_36, la_37, rm_0_36 hR, rm_0_37 hR, gd_tt, oA_arr, px_obj_s, Option.bind_some, Option.map_some, Option.bind_none, eq_self, true_or, or_true, px_av_0, px_av_1, px_av_2, px_av_10, px_av_11, bn, wi_1, wi_2, wl_1, wl_21, wl_22, wr_1, wr_21, wr_22, Sum.elim_inl, Sum.elim_inr, ↓reduceIte, Nat.reduceLT, Nat.reduceLeDiff, not_false_eq_true, not_true_eq_false, Nat.reduceEqDiff, Nat.reduceAdd, reduceCtorEq, and_true, true_and, and_false, false_and, false_or, or_false, c1, c2, v1, a1, pk_mul, nI_add, c3, c4, v2, l100, w4, fin]
  · rcases w3 with ⟨a, b, w5, w4⟩ | ⟨w5, -⟩
    · refine ⟨a, b, w5, ?_⟩
      rw [h0] at w2
      have fin : ∀ a b c, f_72_145 tT ω 0 (nI r) (nI nt) (nI j) a b c = (if nt = 0 then f_72_162 tT ω 0 (nI r) (nI nt) (nI j) a b c else (f_58 tT ω 0).bind fun q => f_72_162 tT q 0 (nI r) (nI nt) (nI j) a b c) := fun a b c => by
        rcases hnt with rfl | rfl
        · simp only [f_72_145, la_0, gd_tt, oA_arr, px_obj_s, Option.bind_some, Option.map_some, Option.bind_none, eq_self, true_or, or_true, px_av_0, px_av_1, px_av_2, px_av_10, px_av_11, bn, wi_1, wi_2, wl_1, wl_21, wl_22, wr_1, wr_21, wr_22, Sum.elim_inl, Sum.elim_inr, ↓reduceIte, Nat.reduceLT, Nat.reduceLeDiff, not_false_eq_true, not_true_eq_false, Nat.reduceEqDiff, Nat.reduceAdd, reduceCtorEq, and_true, true_and, and_false, false_and, false_or, or_false, w2]
        · simp only [f_72_145, la_0, gd_tt, oA_arr, px_obj_s, Option.bind_some, Option.map_some, Option.bind_none, eq_self, true_or, or_true, px_av_0, px_av_1, px_av_2, px_av_10, px_av_11, bn, wi_1, wi_2, wl_1, wl_21, wl_22, wr_1, wr_21, wr_22, Sum.elim_inl, Sum.elim_inr, ↓reduceIte, Nat.reduceLT, Nat.reduceLeDiff, not_false_eq_true, not_true_eq_false, Nat.reduceEqDiff, Nat.reduceAdd, reduceCtorEq, and_true, true_and, and_false, false_and, false_or, or_false, w2, n10, Nat.one_ne_zero]
      unfold F_72_7
      simp only [la_0, la_36, la_37, rm_0_36 hR, rm_0_37 hR, gd_tt, oA_arr, px_obj_s, Option.bind_some, Option.map_some, Option.bind_none, eq_self, true_or, or_true, px_av_0, px_av_1, px_av_2, px_av_10, px_av_11, bn, wi_1, wi_2, wl_1, wl_21, wl_22, wr_1, wr_21, wr_22, Sum.elim_inl, Sum.elim_inr, ↓reduceIte, Nat.reduceLT, Nat.reduceLeDiff, not_false_eq_true, not_true_eq_false, Nat.reduceEqDiff, Nat.reduceAdd, reduceCtorEq, and_true, true_and, and_false, false_and, false_or, or_false, c1, c2, v1, a1, pk_mul, nI_add, c3, c4, v2, l100, w4, fin]
    · omega
theorem e_do (hm : mo σ n B) {a b : Nat} (ha : a < n) (hb : b < n) (hab : a ≠ b) (x1 x2 x3 : Int32) : ∃ υ, f_72_162 tT σ 0 x1 x2 x3 (lN a) (lN b) (mb ((B a).testBit b)) = some (.inl (x3 + nI 1, υ)) ∧ fr tn σ υ ∧ mo υ n (tdB B a b) := by
  have hn := hm.2.1.1
  have l1 : (lN a).toInt32 = nI a := nI_lI (by omega)
  have l2 : (lN b).toInt32 = nI b := nI_lI (by omega)
  unfold tdB
  cases hq : (B a).testBit b with
  | true =>
    obtain ⟨υ, q1, q2, q3⟩ := e_walls hm ha hb hab
    refine ⟨υ, ?_, q2, q3⟩
    simp only [f_72_162, f_72_193, la_0, gd_tt, oA_arr, px_obj_s, Option.bind_some, Option.map_some, Option.bind_none, eq_self, true_or, or_true, px_av_0, px_av_1, px_av_2, px_av_10, px_av_11, bn, wi_1, wi_2, wl_1, wl_21, wl_22, wr_1, wr_21, wr_22, Sum.elim_inl, Sum.elim_inr, ↓reduceIte, Nat.reduceLT, Nat.reduceLeDiff, not_false_eq_true, not_true_eq_false, Nat.reduceEqDiff, Nat.reduceAdd, reduceCtorEq, and_true, true_and, and_false, false_and, false_or, or_false, mb_t1, n10, l1, l2, q1]
  | false =>
    obtain ⟨υ, q1, q2, q3⟩ := e_joins hm ha hb hab
    refine ⟨υ, ?_, q2, q3⟩
    simp only [f_72_162, f_72_193, la_0, gd_tt, oA_arr, px_obj_s, Option.bind_some, Option.map_some, Option.bind_none, eq_self, true_or, or_true, px_av_0, px_av_1, px_av_2, px_av_10, px_av_11, bn, wi_1, wi_2, wl_1, wl_21, wl_22, wr_1, wr_21, wr_22, Sum.elim_inl, Sum.elim_inr, ↓reduceIte, Nat.reduceLT, Nat.reduceLeDiff, not_false_eq_true, not_true_eq_false, Nat.reduceEqDiff, Nat.reduceAdd, reduceCtorEq, and_true, true_and, and_false, false_and, false_or, or_false, mb_f0, rm_0_1 hm.1, l1, l2, q1]
/-- the acts in the model, not noted -/
theorem e_acts0 (hm : mor σ n B nr S C) (hru : rul nr S C) {r m : Nat} (hr4 : r < 4) (hm40 : m ≤ 40) (hrw : rwm σ r m N) : ∃ k υ, f_72 tT σ 0 (nI r) (nI 0) = some (nI k, υ) ∧ stp n B nr S C N m k ∧ fr RT σ υ ∧ mor υ n (rnB n B N k) nr S C ∧ υ.1 0 21 = nI (if k = m then 0 else rac n (rnB n B N k) nr S C (N k)) := by
  have hw21 : fr RT σ (px_wi σ 0 21 (nI 0)) := fr_wi (fr_rf _ _) _ rfl
  have key : ∃ b, f_72_7 tT 0 (nI r) (nI 0) (nI 0) (px_wi σ 0 21 (nI 0)) = some b ∧ ∃ k υ, b = (nI k, υ) ∧ stp n B nr S C N m k ∧ fr RT σ υ ∧ mor υ n (rnB n B N k) nr S C ∧ υ.1 0 21 = nI (if k = m then 0 else rac n (rnB n B N k) nr S C (N k)) := by
    unfold f_72_7
    refine lp_rel (F := fun s : Int32 × px_M => F_72_7 tT 0 (nI r) (nI 0) s.1 s.2) (fun j q => ∃ ρ, q = (nI j, ρ) ∧ fr RT σ ρ ∧ mor ρ n (rnB n B N j) nr S C ∧ ρ.1 0 21 = nI 0 ∧ ∀ i, i < j → rac n (rnB n B N i) nr S C (N i) = 0) _ m (fun j q hj hI => ?_) 0 (nI 0, px_wi σ 0 21 (nI 0)) (by omega) ⟨_, rfl, hw21, ⟨mo_fr (S := RA1) (fr_wi (fr_rf _ _) _ rfl) (fun _ => rfl) hm.1, mru_fr (S := RA1) (fr_wi (fr_rf _ _) _ rfl) (fun _ _ => rfl) hm.2⟩, wi_s _ _ _ _, fun i hi => by omega⟩
    obtain ⟨ρ, rfl, g1, g2, g3, g4⟩ := hI
    have hrwρ := rwm_fr g1 (fun _ => rfl) (fun _ => rfl) hrw
    by_cases hjm : j = m
    · subst hjm
      refine Or.inr ⟨(nI j, ρ), ?_, j, ρ, rfl, ⟨Nat.le_refl _, g4, Or.inl rfl⟩, g1, g2, by rw [if_pos rfl]; exact g3⟩
      have c1 : vp_in (nI r) 4 := (vp_in_eq (by omega)).mpr (by omega)
      have c2 : (nI r).toNatClampNeg = r := nI_clamp (by omega)
      have a1 : nI j ≤ nI j := by rw [nI_leI (by omega) (by omega)]; omega
      dsimp only
      unfold F_72_7
      simp only [la_0, la_36, rm_0_36 g2.1.1, gd_tt, oA_arr, px_obj_s, Option.bind_some, Option.map_some, Option.bind_none, eq_self, true_or, or_true, px_av_0, px_av_1, px_av_2, px_av_10, px_av_11, bn, wi_1, wi_2, wl_1, wl_21, wl_22, wr_1, wr_21, wr_22, Sum.elim_inl, Sum.elim_inr, ↓reduceIte, Nat.reduceLT, Nat.reduceLeDiff, not_false_eq_true, not_true_eq_false, Nat.reduceEqDiff, Nat.reduceAdd, reduceCtorEq, and_true, true_and, and_false, false_and, false_or, or_false, c1, c2, hrwρ.1, a1]
    · obtain ⟨ω, w1, w2, w3, w4⟩ := e_actG g2 hru hr4 hm40 (show j < m by omega) hrwρ 0 (Or.inl rfl)
      by_cases h0 : rac n (rnB n B N j) nr S C (N j) = 0
      · obtain ⟨a, b, w5, w6⟩ := w4 h0
        have hmω := mor_fk w1 g2
        obtain ⟨υ, q1, q2, q3⟩ := e_do hmω.1 w5.1 w5.2.1 w5.2.2.1 (nI r) (nI 0) (nI j)
        have hB : rnB n B N (j + 1) = tdB (rnB n B N j) a b := tdx_in hm.1.2.1.1 w5
        refine Or.inl ⟨(nI (j + 1), υ), ?_, by omega, υ, rfl, fr_tr g1 (fr_tr (fk_RT w1) (tn_RT q2)), ?_, ?_, fun i hi => ?_⟩
        · dsimp only
          rw [w6, if_pos rfl, q1, nI_add]
        · rw [hB]
          exact ⟨q3, mru_fr (tn_RT q2) (fun j hj => RT_f (by omega)) hmω.2⟩
        · rw [q2.1 0 21 rfl, w2, h0]
        · by_cases hij : i = j
          · subst hij; exact h0
          · exact g4 i (by omega)
      · refine Or.inr ⟨(nI j, ω), w3 h0, j, ω, rfl, ⟨hj, g4, Or.inr h0⟩, fr_tr g1 (fk_RT w1), mor_fk w1 g2, by rw [if_neg hjm]; exact w2⟩
  obtain ⟨b, q1, k, υ, rfl, q2⟩ := key
  refine ⟨k, υ, ?_, q2⟩
  simp only [f_72, la_0, gd_tt, oA_arr, px_obj_s, Option.bind_some, Option.map_some, Option.bind_none, eq_self, true_or, or_true, px_av_0, px_av_1, px_av_2, px_av_10, px_av_11, bn, wi_1, wi_2, wl_1, wl_21, wl_22, wr_1, wr_21, wr_22, Sum.elim_inl, Sum.elim_inr, ↓reduceIte, Nat.reduceLT, Nat.reduceLeDiff, not_false_eq_true, not_true_eq_false, Nat.reduceEqDiff, Nat.reduceAdd, reduceCtorEq, and_true, true_and, and_false, false_and, false_or, or_false, q1]
/-- the acts in the model, noted -/
theorem e_acts1 (hm : modl σ n B nr S C d G) (hru : rul nr S C) {r m : Nat} (hr4 : r < 4) (hm40 : m ≤ 40) (hrw : rwm σ r m N) : ∃ k υ, f_72 tT σ 0 (nI r) (nI 1) = some (nI k, υ) ∧ stp n B nr S C N m k ∧ fr SMD σ υ ∧ modl υ n (rnB n B N k) nr S C (rnd d k) (rnG n B N G k) := by
  have h0f : fk SM σ (px_wi σ 0 21 (nI 0)) := fk_of (fr_wi (fr_rf _ _) _ rfl) SM_1
  have key : ∃ b, f_72_7 tT 0 (nI r) (nI 1) (nI 0) (px_wi σ 0 21 (nI 0)) = some b ∧ ∃ k υ, b = (nI k, υ) ∧ stp n B nr S C N m k ∧ fr SMD σ υ ∧ modl υ n (rnB n B N k) nr S C (rnd d k) (rnG n B N G k) := by
    unfold f_72_7
    refine lp_rel (F := fun s : Int32 × px_M => F_72_7 tT 0 (nI r) (nI 1) s.1 s.2) (fun j q => ∃ ρ, q = (nI j, ρ) ∧ fr SMD σ ρ ∧ modl ρ n (rnB n B N j) nr S C (rnd d j) (rnG n B N G j) ∧ ∀ i, i < j → rac n (rnB n B N i) nr S C (N i) = 0) _ m (fun j q hj hI => ?_) 0 (nI 0, px_wi σ 0 21 (nI 0)) (by omega) ⟨_, rfl, fr_fk h0f, modl_fk h0f hm, fun i hi => by omega⟩
    obtain ⟨ρ, rfl, g1, g2, g4⟩ := hI
    have hrwρ := rwm_fr g1 (fun _ => rfl) (fun _ => rfl) hrw
    by_cases hjm : j = m
    · subst hjm
      refine Or.inr ⟨(nI j, ρ), ?_, j, ρ, rfl, ⟨Nat.le_refl _, g4, Or.inl rfl⟩, g1, g2⟩
      have c1 : vp_in (nI r) 4 := (vp_in_eq (by omega)).mpr (by omega)
      have c2 : (nI r).toNatClampNeg = r := nI_clamp (by omega)
      have a1 : nI j ≤ nI j := by rw [nI_leI (by omega) (by omega)]; omega
      dsimp only
      unfold F_72_7
      simp only [la_0, la_36, rm_0_36 g2.1.1.1, gd_tt, oA_arr, px_obj_s, Option.bind_some, Option.map_some, Option.bind_none, eq_self, true_or, or_true, px_av_0, px_av_1, px_av_2, px_av_10, px_av_11, bn, wi_1, wi_2, wl_1, wl_21, wl_22, wr_1, wr_21, wr_22, Sum.elim_inl, Sum.elim_inr, ↓reduceIte, Nat.reduceLT, Nat.reduceLeDiff, not_false_eq_true, not_true_eq_false, Nat.reduceEqDiff, Nat.reduceAdd, reduceCtorEq, and_true, true_and, and_false, false_and, false_or, or_false, c1, c2, hrwρ.1, a1]
    · obtain ⟨ω, w1, w2, w3, w4⟩ := e_actG g2.1 hru hr4 hm40 (show j < m by omega) hrwρ 1 (Or.inr rfl)
      have w1' : fk SM ρ ω := fk_mono w1 SM_RA1
      by_cases h0 : rac n (rnB n B N j) nr S C (N j) = 0
      · obtain ⟨a, b, w5, w6⟩ := w4 h0
        have hmω := modl_fk w1 g2
        have hB : rnB n B N (j + 1) = tdB (rnB n B N j) a b := tdx_in hm.1.1.2.1.1 w5
        obtain ⟨α, β, y1, y2, y3, y4, y5⟩ := e_deed hmω (fun ρ => (f_72_162 tT ρ 0 (nI r) (nI 1) (nI j) (lN a) (lN b) (mb ((rnB n B N j a).testBit b))).bind fun q => match q with | .inl z => some z.2 | .inr z => some z.2) (fun ρ hmρ => by
          obtain ⟨χ, z1, z2, z3⟩ := e_do hmρ w5.1 w5.2.1 w5.2.2.1 (nI r) (nI 1) (nI j)
          exact ⟨χ, by rw [z1]; rfl, tn_20 z2, z3⟩)
        obtain ⟨χ, z1, z2, z3⟩ := e_do y2 w5.1 w5.2.1 w5.2.2.1 (nI r) (nI 1) (nI j)
        have hβ : χ = β := by
          rw [z1] at y3
          exact Option.some.inj y3
        subst hβ
        refine Or.inl ⟨(nI (j + 1), χ), ?_, by omega, χ, rfl, fr_tr g1 (fr_tr (fr_fk w1') y4), ?_, fun i hi => ?_⟩
        · dsimp only
          rw [w6, if_neg (by decide), y1, Option.bind_some, z1, nI_add]
        · rw [hB]; exact y5
        · by_cases hij : i = j
          · subst hij; exact h0
          · exact g4 i (by omega)
      · refine Or.inr ⟨(nI j, ω), w3 h0, j, ω, rfl, ⟨hj, g4, Or.inr h0⟩, fr_tr g1 (fr_fk w1'), modl_fk w1 g2⟩
  obtain ⟨b, q1, k, υ, rfl, q2⟩ := key
  refine ⟨k, υ, ?_, q2⟩
  simp only [f_72, la_0, gd_tt, oA_arr, px_obj_s, Option.bind_some, Option.map_some, Option.bind_none, eq_self, true_or, or_true, px_av_0, px_av_1, px_av_2, px_av_10, px_av_11, bn, wi_1, wi_2, wl_1, wl_21, wl_22, wr_1, wr_21, wr_22, Sum.elim_inl, Sum.elim_inr, ↓reduceIte, Nat.reduceLT, Nat.reduceLeDiff, not_false_eq_true, not_true_eq_false, Nat.reduceEqDiff, Nat.reduceAdd, reduceCtorEq, and_true, true_and, and_false, false_and, false_or, or_false, q1]
theorem c_number (hR : cR σ.2.2) {r m k : Nat} (hr4 : r < 4) (hm40 : m ≤ 40) (hk : k < m) (hrw : rwc σ r m N) : f_12066 tT σ 100 (nI r) (nI k) = some (N k) := by
  have a1 : ¬ nI (r * 40 + k) < nI 0 := by rw [nI_ltI (by omega) (by omega)]; omega
  have a2 : ¬ nI 160 ≤ nI (r * 40 + k) := by rw [nI_leI (by omega) (by omega)]; omega
  have c3 : vp_in (nI (r * 40 + k)) 160 := (vp_in_eq (by omega)).mpr (by omega)
  have c4 : (nI (r * 40 + k)).toNatClampNeg = r * 40 + k := nI_clamp (by omega)
  have v := hrw.2 k hk
  rw [show 40 * r + k = r * 40 + k by omega] at v
  simp only [f_12066, f_12066_7, pk_mul, nI_add, a1, a2, la_100, la_103, rc_100_13 hR, gd_tt, oA_arr, px_obj_s, Option.bind_some, Option.map_some, Option.bind_none, eq_self, true_or, or_true, px_av_0, px_av_1, px_av_2, px_av_10, px_av_11, bn, wi_1, wi_2, wl_1, wl_21, wl_22, wr_1, wr_21, wr_22, Sum.elim_inl, Sum.elim_inr, ↓reduceIte, Nat.reduceLT, Nat.reduceLeDiff, not_false_eq_true, not_true_eq_false, Nat.reduceEqDiff, Nat.reduceAdd, reduceCtorEq, and_true, true_and, and_false, false_and, false_or, or_false, c3, c4, v]
theorem c_perf (hc : cld σ n B nr S C d G) {r m : Nat} (hr4 : r < 4) (hm40 : m ≤ 40) (hrw : rwc σ r m N) : ∃ k υ, f_12019_26 tT 100 (nI r) (nI 0) (nI 0) σ = some (nI k, υ) ∧ stp n B nr S C N m k ∧ fr SCD σ υ ∧ cld υ n (rnB n B N k) nr S C (rnd d k) (rnG n B N G k) := by
  have hn := hc.1.1.2.2.2.2.1.1
  have key : ∃ b, f_12019_26 tT 100 (nI r) (nI 0) (nI 0) σ = some b ∧ ∃ k υ, b = (nI k, υ) ∧ stp n B nr S C N m k ∧ fr SCD σ υ ∧ cld υ n (rnB n B N k) nr S C (rnd d k) (rnG n B N G k) := by
    unfold f_12019_26
    refine lp_rel (F := fun s : Int32 × Int32 × px_M => F_12019_26 tT 100 (nI r) s.1 s.2.1 s.2.2) (fun j q => ∃ ρ, q = (nI j, nI j, ρ) ∧ fr SCD σ ρ ∧ cld ρ n (rnB n B N j) nr S C (rnd d j) (rnG n B N G j) ∧ ∀ i, i < j → rac n (rnB n B N i) nr S C (N i) = 0) _ m (fun j q hj hI => ?_) 0 (nI 0, nI 0, σ) (by omega) ⟨_, rfl, fr_rf _ _, hc, fun i hi => by omega⟩
    obtain ⟨ρ, rfl, g1, g2, g4⟩ := hI
    have hrwρ := rwc_fr g1 (fun _ => rfl) (fun _ => rfl) hrw
    have hR := g2.1.1.1
    have c1 : vp_in (nI r) 4 := (vp_in_eq (by omega)).mpr (by omega)
    have c2 : (nI r).toNatClampNeg = r := nI_clamp (by omega)
    by_cases hjm : j = m
    · subst hjm
      refine Or.inr ⟨(nI j, ρ), ?_, j, ρ, rfl, ⟨Nat.le_refl _, g4, Or.inl rfl⟩, g1, g2⟩
      have a1 : nI j ≤ nI j := by rw [nI_leI (by omega) (by omega)]; omega
      dsimp only
      unfold F_12019_26 f_12019_91
      simp only [la_100, la_105, rc_100_15 hR, gd_tt, oA_arr, px_obj_s, Option.bind_some, Option.map_some, Option.bind_none, eq_self, true_or, or_true, px_av_0, px_av_1, px_av_2, px_av_10, px_av_11, bn, wi_1, wi_2, wl_1, wl_21, wl_22, wr_1, wr_21, wr_22, Sum.elim_inl, Sum.elim_inr, ↓reduceIte, Nat.reduceLT, Nat.reduceLeDiff, not_false_eq_true, not_true_eq_false, Nat.reduceEqDiff, Nat.reduceAdd, reduceCtorEq, and_true, true_and, and_false, false_and, false_or, or_false, c1, c2, hrwρ.1, a1]
    · have a1 : ¬ nI m ≤ nI j := by rw [nI_leI (by omega) (by omega)]; omega
      have hnum := c_number hR hr4 hm40 (show j < m by omega) hrwρ
      obtain ⟨ω, w1, w2⟩ := c_act hR g2.1.2.1 g2.1.2.2 out_111 g2.1.1.2 (N j)
      have hle := rac_le (n := n) (B := rnB n B N j) (nr := nr) (S := S) (C := C) (N j)
      have hcω := cld_SC (fr_CS w2) g2
      by_cases h0 : rac n (rnB n B N j) nr S C (N j) = 0
      · rw [h0] at w1
        have w5 := rac_0 h0
        have hB : rnB n B N (j + 1) = tdB (rnB n B N j) (av1 (N j)) (bv1 (N j)) := tdx_in hn w5
        obtain ⟨ψ, υ, y1, y2, y3, y4, y5⟩ := c_deed hcω (fun ρ => f_12065 tT ρ 111 (N j)) (fun ρ _ ht => c_turnD ht w5)
        refine Or.inl ⟨(nI (j + 1), nI (j + 1), υ), ?_, by omega, υ, rfl, fr_tr g1 (fr_tr (fr_mono (fr_CS w2) SCD_SC) y4), ?_, fun i hi => ?_⟩
        · dsimp only
          unfold F_12019_26 f_12019_63
          simp only [la_100, la_105, la_110, rc_100_15 hR, rc_100_0 hR, rc_110_0 hR, gd_tt, oA_arr, px_obj_s, Option.bind_some, Option.map_some, Option.bind_none, eq_self, true_or, or_true, px_av_0, px_av_1, px_av_2, px_av_10, px_av_11, bn, wi_1, wi_2, wl_1, wl_21, wl_22, wr_1, wr_21, wr_22, Sum.elim_inl, Sum.elim_inr, ↓reduceIte, Nat.reduceLT, Nat.reduceLeDiff, not_false_eq_true, not_true_eq_false, Nat.reduceEqDiff, Nat.reduceAdd, reduceCtorEq, and_true, true_and, and_false, false_and, false_or, or_false, c1, c2, hrwρ.1, a1, hnum, w1, rc_100_0 hcω.1.1.1, y1, rc_100_0 y2, rc_110_0 y2, y3, nI_add]
        · rw [hB]; exact y5
        · by_cases hij : i = j
          · subst hij; exact h0
          · exact g4 i (by omega)
      · have z : ¬ nI (rac n (rnB n B N j) nr S C (N j)) = nI 0 := by rw [nI_eq (by omega) (by omega)]; exact h0
        refine Or.inr ⟨(nI j, ω), ?_, j, ω, rfl, ⟨hj, g4, Or.inr h0⟩, fr_tr g1 (fr_mono (fr_CS w2) SCD_SC), hcω⟩
        dsimp only
        unfold F_12019_26 f_12019_91
        simp only [la_100, la_105, la_110, rc_100_15 hR, rc_100_0 hR, rc_110_0 hR, gd_tt, oA_arr, px_obj_s, Option.bind_some, Option.map_some, Option.bind_none, eq_self, true_or, or_true, px_av_0, px_av_1, px_av_2, px_av_10, px_av_11, bn, wi_1, wi_2, wl_1, wl_21, wl_22, wr_1, wr_21, wr_22, Sum.elim_inl, Sum.elim_inr, ↓reduceIte, Nat.reduceLT, Nat.reduceLeDiff, not_false_eq_true, not_true_eq_false, Nat.reduceEqDiff, Nat.reduceAdd, reduceCtorEq, and_true, true_and, and_false, false_and, false_or, or_false, c1, c2, hrwρ.1, a1, hnum, w1, z]
  obtain ⟨b, q1, k, υ, rfl, q2⟩ := key
  exact ⟨k, υ, q1, q2⟩
end
