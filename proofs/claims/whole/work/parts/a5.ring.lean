/-! two readers: houses, rings, rules -/
section
variable {σ0 τ0 σ τ : px_M} {b pl bh κ v : Nat → Nat} {e K k n nr m ln : Nat} {B S C : Nat → Nat} {ts us : List Bool}
/-- the draft's town, changed in both -/
theorem j_town (hx : cx σ0 τ0 b e K pl bh κ v) (h : ex σ0 τ0 K pl bh κ v n B nr S ln σ τ k C m ts) {n' : Nat} {B' : Nat → Nat} {σ' τ' : px_M} (y2 : fr (tw2 141) σ σ') (y3 : ct σ' 141 n' B') (u1 : fr (on 4) τ τ') (u2 : ∀ j, 13 ≤ j ∨ j = 0 → τ'.1 4 j = τ.1 4 j) (u3 : τ'.1 4 1 = nI n') (u4 : ∀ g, g < 11 → τ'.1 4 (2 + g) = nI (B' g)) : ex σ0 τ0 K pl bh κ v n' B' nr S ln σ' τ' k C m ts := by
  obtain ⟨⟨⟨f1, f2⟩, hk, ⟨p1, p2, p3⟩, p4, p5, p6, p7, p8⟩, ⟨d1, d2, d3, d4, d5, d6, d7, d8, d9, d10⟩, ⟨e1, e2, e3, e4, e5, e6, e7, e8⟩, t1, t2, t3, t4⟩ := h
  have o : ∀ l j, l ≠ 141 → l ≠ 142 → σ'.1 l j = σ.1 l j := fun l j q1 q2 => y2.1 l j (tw2_n q1 q2)
  have fc : fr CG σ σ' := fr_mono y2 (fun l j q => by
    refine tw2_n ?_ ?_
    · intro z; subst z; simp [CG] at q
    · intro z; subst z; simp [CG] at q)
  have wM : fr MF τ τ' := fr_mono u1 (fun l j q => by
    simp only [on, beq_eq_false_iff_ne]
    intro z; subst z; simp [MF] at q)
  have r0 : ∀ j, τ'.1 0 j = τ.1 0 j := fun j => u1.1 0 j rfl
  refine ⟨⟨⟨fr_tr f1 fc, fr_tr f2 wM⟩, hk, ⟨?_, ?_, ?_⟩, ?_, ?_, ?_, fun q => ?_, ?_⟩, ⟨y3, ?_, fun r hr => ?_, fun r hr => ?_, fun hr => ?_, fun r h1 h2 => ?_, fun i hi => ?_, ?_, ?_, ?_⟩, ⟨u3, u4, ?_, fun r hr => ⟨?_, ?_⟩, ?_, fun i hi => ?_, ?_, ?_⟩, t1, t2, t3, t4⟩
  · rw [o 150 8 (by decide) (by decide)]; exact p1
  · rw [o 150 9 (by decide) (by decide)]; exact p2
  · rw [o 150 1 (by decide) (by decide)]; exact p3
  · rw [r0]; exact p4
  · rw [r0]; exact p5
  · rw [r0]; exact p6
  · rw [r0]; exact p7 q
  · rw [r0]; exact p8
  · rw [o _ _ (by decide) (by decide)]; exact d2
  · rw [o _ _ (by decide) (by decide)]; exact d3 r hr
  · rw [o _ _ (by decide) (by decide)]; exact d4 r hr
  · rw [o _ _ (by decide) (by decide)]; exact d5 hr
  · rw [o _ _ (by decide) (by decide)]; exact d6 r h1 h2
  · rw [o _ _ (by decide) (by decide)]; exact d7 i hi
  · rw [o _ _ (by decide) (by decide)]; exact d8
  · rw [o _ _ (by decide) (by decide)]; exact d9
  · rw [o _ _ (by decide) (by decide)]; exact d10
  · rw [u2 _ (by omega)]; exact e3
  · rw [u2 _ (by omega)]; exact (e4 r hr).1
  · rw [u2 _ (by omega)]; exact (e4 r hr).2
  · rw [u2 _ (by omega)]; exact e5
  · rw [u2 _ (by omega)]; exact e6 i hi
  · rw [u2 _ (by omega)]; exact e7
  · rw [u2 _ (by omega)]; exact e8
theorem j_grow (hx : cx σ0 τ0 b e K pl bh κ v) (h : ex σ0 τ0 K pl bh κ v n B nr S ln σ τ k C m ts) {w : Nat} (hw : n + w ≤ 11) : ∃ ρ, f_9021_64 tT 150 (nI w) (nI 0) σ = ((f_9015 tT ρ 150).bind fun q1 => some (nI 1, q1)) ∧ ex σ0 τ0 K pl bh κ v (n + w) B nr S ln ρ (px_wi τ 4 1 (nI (n + w))) k C m ts := by
  obtain ⟨hR, -⟩ := cx_c hx h.1.1.1
  have d1 := h.2.1.1
  have key : ∀ y i ρ, i + y = w → fr (tw2 141) σ ρ → ct ρ 141 (n + i) B → ∃ ρ', lpO (fun s : Int32 × px_M => F_9021_64 tT 150 (nI w) s.1 s.2) (nI i, ρ) = ((f_9015 tT ρ' 150).bind fun q1 => some (nI 1, q1)) ∧ fr (tw2 141) σ ρ' ∧ ct ρ' 141 (n + w) B := by
    intro y
    induction y with
    | zero =>
      intro i ρ hi hf hc
      have hiw : i = w := by omega
      subst hiw
      have a1 : nI i ≤ nI i := by rw [nI_leI (by omega) (by omega)]; omega
      refine ⟨ρ, ?_, hf, hc⟩
      rw [lpO_eq]
      dsimp only
      unfold F_9021_64
      simp only [a1, la_150, gd_tt, px_obj_s, eq_self, ↓reduceIte]
      cases f_9015 tT ρ 150 <;> rfl
    | succ y ih =>
      intro i ρ hi hf hc
      have a1 : ¬ nI w ≤ nI i := by rw [nI_leI (by omega) (by omega)]; omega
      have hRρ := cR_fr hf hR
      obtain ⟨υ, y1, y2, y3⟩ := c_addHouse hc (by omega) (s := 0) (Nat.two_pow_pos _)
      rw [ah_0 hc.2.2.2.1] at y3
      obtain ⟨ρ', z1, z2, z3⟩ := ih (i + 1) υ (by omega) (fr_tr hf y2) y3
      refine ⟨ρ', ?_, z2, z3⟩
      rw [lp_next (a' := (nI (i + 1), υ)) (by
        dsimp only
        unfold F_9021_64
        simp only [a1, la_150, la_140, la_141, rc_150_3 hRρ, rc_140_0 hRρ, y1, nI_add, gd_tt, oA_arr, px_obj_s, Option.bind_some, Option.map_some, Option.bind_none, eq_self, true_or, or_true, px_av_0, px_av_1, px_av_2, px_av_10, px_av_11, bn, wi_1, wi_2, wl_1, wl_21, wl_22, wr_1, wr_21, wr_22, Sum.elim_inl, Sum.elim_inr, ↓reduceIte, Nat.reduceLT, Nat.reduceLeDiff, not_false_eq_true, not_true_eq_false, Nat.reduceEqDiff, Nat.reduceAdd, reduceCtorEq, and_true, true_and, and_false, false_and, false_or, or_false])]
      exact z1
  obtain ⟨ρ', z1, z2, z3⟩ := key w 0 σ (by omega) (fr_rf _ _) d1
  refine ⟨ρ', z1, j_town hx h z2 z3 (fr_wi (fr_rf _ _) _ (on_t _ _)) (fun j hj => ?_) (wi_s _ _ _ _) (fun g hg => ?_)⟩
  · show px_up τ.1 4 1 _ 4 j = _
    rw [up_s, if_neg (by omega)]
  · show px_up τ.1 4 1 _ 4 (2 + g) = _
    rw [up_s, if_neg (by omega)]; exact h.2.2.1.2.1 g hg
theorem j_houses (hx : cx σ0 τ0 b e K pl bh κ v) (h : ex σ0 τ0 K pl bh κ v n B nr S ln σ τ k C (S nr) []) (hm : S nr ≤ k) {σ1 : px_M} (h9 : f_9015 tT σ1 150 = some σ) : oc σ0 τ0 (f_9021 tT σ1 150) (f_16 tT τ 0) (lns σ0 τ0 K pl bh κ v ln k) := by
  have kk1 : vp_in (nI 1) 1072 := (vp_in_eq (by omega)).mpr (by omega)
  have kk2 : (nI 1).toNatClampNeg = 1 := nI_clamp (by omega)
  have hRm := (cx_t hx h.1.1.2).1
  have en := h.2.2.1.1
  have hn := h.2.1.1.2.2.2.1.1
  have en0 := h.2.1.1.2.2.2.2.1
  have hk := h.1.2.1
  obtain ⟨k1, k2, k3, k4, k5, k6, k7, k8⟩ := cx_k hx hk
  have p2 := h.1.2.2.1.2.1
  have p7 := h.1.2.2.2.2.2.2.1
  have p8 := h.1.2.2.2.2.2.2.2
  have n1 := k_isNum hx h.1
  have i1 := m_is hx h.1 (c := 16) (by omega)
  have l1 : (nI 1).toInt64 = lN 1 := by decide
  have l11 : (nI 11).toInt64 = lN 11 := by decide
  obtain ⟨hR, -⟩ := cx_c hx h.1.1.1
  by_cases q : κ k = 16
  · rw [decide_eq_true q, mb_t1] at n1 i1
    have hv := k2 q
    have p7' := p7 q
    rw [q, show tcd 16 (v k) = v k from rfl] at p2
    have hti : (nI (v k)).toInt = v k := nI_toInt (by omega)
    have wi := e_withinN τ (nI (v k)) (lo := 1) (hi := 11) (by omega) (by omega)
    by_cases hb : 1 ≤ v k ∧ v k ≤ 11
    · rw [decide_eq_true (by omega), mb_t1] at wi
      have a1 : ¬ nI (v k) < nI 1 := by rw [nI_ltI (by omega) (by omega)]; omega
      have a2 : nI (v k) ≤ nI 11 := by rw [nI_leI (by omega) (by omega)]; omega
      by_cases hs : n + v k ≤ 11
      · have a3 : nI (n + v k) ≤ nI 11 := by rw [nI_leI (by omega) (by omega)]; omega
        obtain ⟨ρ, y1, y2⟩ := j_grow hx h hs
        obtain ⟨σ5, τ5, x1, x2, x3, -⟩ := j_adv hx y2 (by omega)
        obtain ⟨σ3, τ3, z1, z2, z3, -⟩ := j_adv hx h (by omega)
        obtain ⟨ρ3, w1, w2⟩ := j_grow hx z3 hs
        have p83 := z3.1.2.2.2.2.2.2.2
        have hRm3 := (cx_t hx z3.1.1.2).1
        have en3 := z3.2.2.1.1
        refine Or.inl ⟨σ5, px_wi τ3 4 1 (nI (n + v k)), ?_, ?_, k + 1, n + v k, B, nr, S, C, ex_mix x3 w2, by omega, by omega⟩
        · unfold f_9021 f_9021_39
          simp only [la_150, la_140, la_141, h9, n1, n10, p2, a1, a2, rc_150_3 hR, rc_140_0 hR, en0, nI_add, a3, y1, x1, gd_tt, oA_arr, px_obj_s, Option.bind_some, Option.map_some, Option.bind_none, eq_self, true_or, or_true, px_av_0, px_av_1, px_av_2, px_av_10, px_av_11, bn, wi_1, wi_2, wl_1, wl_21, wl_22, wr_1, wr_21, wr_22, Sum.elim_inl, Sum.elim_inr, ↓reduceIte, Nat.reduceLT, Nat.reduceLeDiff, not_false_eq_true, not_true_eq_false, Nat.reduceEqDiff, Nat.reduceAdd, reduceCtorEq, and_true, true_and, and_false, false_and, false_or, or_false]
        · unfold f_16 f_16_45 f_13 f_13_37
          simp only [la_0, la_4, i1, n10, p7', wi, l1, l11, rm_0_4 hRm, rm_0_4 hRm3, kk1, kk2, en, nI_add, a3, p8, z2, p83, en3, gd_tt, oA_arr, px_obj_s, Option.bind_some, Option.map_some, Option.bind_none, eq_self, true_or, or_true, px_av_0, px_av_1, px_av_2, px_av_10, px_av_11, bn, wi_1, wi_2, wl_1, wl_21, wl_22, wr_1, wr_21, wr_22, Sum.elim_inl, Sum.elim_inr, ↓reduceIte, Nat.reduceLT, Nat.reduceLeDiff, not_false_eq_true, not_true_eq_false, Nat.reduceEqDiff, Nat.reduceAdd, reduceCtorEq, and_true, true_and, and_false, false_and, false_or, or_false]
      · have a3 : ¬ nI (n + v k) ≤ nI 11 := by rw [nI_leI (by omega) (by omega)]; omega
        obtain ⟨σ2, τ2, y1, y2, y3⟩ := j_blame hx h.1 (f := 4) (Or.inr ⟨Or.inr rfl, by omega⟩)
        obtain ⟨f, f0, f5, f1⟩ := ded_x y3
        have fa : ¬ nI f = nI 0 := by rw [nI_eq (by omega) (by omega)]; exact f0
        refine Or.inr ⟨σ2, τ2, ?_, ?_, y3⟩
        · unfold f_9021 f_9021_39
          simp only [la_150, la_140, la_141, h9, n1, n10, p2, a1, a2, rc_150_3 hR, rc_140_0 hR, en0, nI_add, a3, y1, gd_tt, oA_arr, px_obj_s, Option.bind_some, Option.map_some, Option.bind_none, eq_self, true_or, or_true, px_av_0, px_av_1, px_av_2, px_av_10, px_av_11, bn, wi_1, wi_2, wl_1, wl_21, wl_22, wr_1, wr_21, wr_22, Sum.elim_inl, Sum.elim_inr, ↓reduceIte, Nat.reduceLT, Nat.reduceLeDiff, not_false_eq_true, not_true_eq_false, Nat.reduceEqDiff, Nat.reduceAdd, reduceCtorEq, and_true, true_and, and_false, false_and, false_or, or_false]
        · unfold f_16 f_16_45
          simp only [la_0, la_4, i1, n10, p7', wi, rm_0_4 hRm, kk1, kk2, en, nI_add, a3, y2, z_takes f0 f5 f1, f1, fa, gd_tt, oA_arr, px_obj_s, Option.bind_some, Option.map_some, Option.bind_none, eq_self, true_or, or_true, px_av_0, px_av_1, px_av_2, px_av_10, px_av_11, bn, wi_1, wi_2, wl_1, wl_21, wl_22, wr_1, wr_21, wr_22, Sum.elim_inl, Sum.elim_inr, ↓reduceIte, Nat.reduceLT, Nat.reduceLeDiff, not_false_eq_true, not_true_eq_false, Nat.reduceEqDiff, Nat.reduceAdd, reduceCtorEq, and_true, true_and, and_false, false_and, false_or, or_false]
    · rw [decide_eq_false (by omega), mb_f0] at wi
      obtain ⟨σ2, τ2, y1, y2, y3⟩ := j_blame hx h.1 (f := 3) (Or.inr ⟨Or.inl rfl, by omega⟩)
      obtain ⟨f, f0, f5, f1⟩ := ded_x y3
      have fa : ¬ nI f = nI 0 := by rw [nI_eq (by omega) (by omega)]; exact f0
      have bl : f_9021_33 tT σ 150 = some (nI 0, σ2) := by
        unfold f_9021_33
        simp only [la_150, y1, gd_tt, oA_arr, px_obj_s, Option.bind_some, Option.map_some, Option.bind_none, eq_self, true_or, or_true, px_av_0, px_av_1, px_av_2, px_av_10, px_av_11, bn, wi_1, wi_2, wl_1, wl_21, wl_22, wr_1, wr_21, wr_22, Sum.elim_inl, Sum.elim_inr, ↓reduceIte, Nat.reduceLT, Nat.reduceLeDiff, not_false_eq_true, not_true_eq_false, Nat.reduceEqDiff, Nat.reduceAdd, reduceCtorEq, and_true, true_and, and_false, false_and, false_or, or_false]
      refine Or.inr ⟨σ2, τ2, ?_, ?_, y3⟩
      · unfold f_9021
        by_cases hb1 : v k < 1
        · have a1 : nI (v k) < nI 1 := by rw [nI_ltI (by omega) (by omega)]; omega
          simp only [la_150, h9, n1, n10, p2, a1, bl, gd_tt, oA_arr, px_obj_s, Option.bind_some, Option.map_some, Option.bind_none, eq_self, true_or, or_true, px_av_0, px_av_1, px_av_2, px_av_10, px_av_11, bn, wi_1, wi_2, wl_1, wl_21, wl_22, wr_1, wr_21, wr_22, Sum.elim_inl, Sum.elim_inr, ↓reduceIte, Nat.reduceLT, Nat.reduceLeDiff, not_false_eq_true, not_true_eq_false, Nat.reduceEqDiff, Nat.reduceAdd, reduceCtorEq, and_true, true_and, and_false, false_and, false_or, or_false]
        · have a1 : ¬ nI (v k) < nI 1 := by rw [nI_ltI (by omega) (by omega)]; omega
          have a2 : ¬ nI (v k) ≤ nI 11 := by rw [nI_leI (by omega) (by omega)]; omega
          simp only [la_150, h9, n1, n10, p2, a1, a2, bl, gd_tt, oA_arr, px_obj_s, Option.bind_some, Option.map_some, Option.bind_none, eq_self, true_or, or_true, px_av_0, px_av_1, px_av_2, px_av_10, px_av_11, bn, wi_1, wi_2, wl_1, wl_21, wl_22, wr_1, wr_21, wr_22, Sum.elim_inl, Sum.elim_inr, ↓reduceIte, Nat.reduceLT, Nat.reduceLeDiff, not_false_eq_true, not_true_eq_false, Nat.reduceEqDiff, Nat.reduceAdd, reduceCtorEq, and_true, true_and, and_false, false_and, false_or, or_false]
      · unfold f_16 f_16_45 f_13 f_13_37
        simp only [la_0, i1, n10, p7', wi, l1, l11, y2, f1, fa, gd_tt, oA_arr, px_obj_s, Option.bind_some, Option.map_some, Option.bind_none, eq_self, true_or, or_true, px_av_0, px_av_1, px_av_2, px_av_10, px_av_11, bn, wi_1, wi_2, wl_1, wl_21, wl_22, wr_1, wr_21, wr_22, Sum.elim_inl, Sum.elim_inr, ↓reduceIte, Nat.reduceLT, Nat.reduceLeDiff, not_false_eq_true, not_true_eq_false, Nat.reduceEqDiff, Nat.reduceAdd, reduceCtorEq, and_true, true_and, and_false, false_and, false_or, or_false]
  · rw [decide_eq_false q, mb_f0] at n1 i1
    obtain ⟨σ2, τ2, y1, y2, y3⟩ := j_blame hx h.1 (f := 2) (Or.inl rfl)
    obtain ⟨f, f0, f5, f1⟩ := ded_x y3
    have fa : ¬ nI f = nI 0 := by rw [nI_eq (by omega) (by omega)]; exact f0
    refine Or.inr ⟨σ2, τ2, ?_, ?_, y3⟩
    · unfold f_9021
      simp only [la_150, h9, n1, y1, gd_tt, oA_arr, px_obj_s, Option.bind_some, Option.map_some, Option.bind_none, eq_self, true_or, or_true, px_av_0, px_av_1, px_av_2, px_av_10, px_av_11, bn, wi_1, wi_2, wl_1, wl_21, wl_22, wr_1, wr_21, wr_22, Sum.elim_inl, Sum.elim_inr, ↓reduceIte, Nat.reduceLT, Nat.reduceLeDiff, not_false_eq_true, not_true_eq_false, Nat.reduceEqDiff, Nat.reduceAdd, reduceCtorEq, and_true, true_and, and_false, false_and, false_or, or_false]
    · unfold f_16 f_16_45 f_13 f_13_37
      simp only [la_0, i1, y2, f1, fa, gd_tt, oA_arr, px_obj_s, Option.bind_some, Option.map_some, Option.bind_none, eq_self, true_or, or_true, px_av_0, px_av_1, px_av_2, px_av_10, px_av_11, bn, wi_1, wi_2, wl_1, wl_21, wl_22, wr_1, wr_21, wr_22, Sum.elim_inl, Sum.elim_inr, ↓reduceIte, Nat.reduceLT, Nat.reduceLeDiff, not_false_eq_true, not_true_eq_false, Nat.reduceEqDiff, Nat.reduceAdd, reduceCtorEq, and_true, true_and, and_false, false_and, false_or, or_false]
/-- the model, dead, within truths -/
theorem z_unit {d : Nat} {f : Nat} (hf : f ≠ 0) (hf5 : f < 5) (h : τ.1 0 11 = nI f) (x : Int32) : f_24 tT (d + 1) τ 0 x = some τ := by
  rw [f_24_S]
  unfold F_24 f_24_78 f_24_112 f_24_146 f_24_151
  simp only [la_0, z_is hf hf5 h, z_fails hf hf5 h, z_sum (d := 57) hf hf5 h, z_codes hf hf5 h, gd_tt, oA_arr, px_obj_s, Option.bind_some, Option.map_some, Option.bind_none, eq_self, true_or, or_true, px_av_0, px_av_1, px_av_2, px_av_10, px_av_11, bn, wi_1, wi_2, wl_1, wl_21, wl_22, wr_1, wr_21, wr_22, Sum.elim_inl, Sum.elim_inr, ↓reduceIte, Nat.reduceLT, Nat.reduceLeDiff, not_false_eq_true, not_true_eq_false, Nat.reduceEqDiff, Nat.reduceAdd, reduceCtorEq, and_true, true_and, and_false, false_and, false_or, or_false]
theorem z_truth {d : Nat} {f : Nat} (hf : f ≠ 0) (hf5 : f < 5) (h : τ.1 0 11 = nI f) (x : Int32) : f_26 tT (d + 3) τ 0 x = some τ := by
  have e1 : f_25 tT (d + 2) τ 0 x = some τ := by
    rw [f_25_S]
    unfold F_25 f_25_5
    have e2 : F_25_5 tT (f_24 tT (d + 1)) (f_25 tT (d + 1)) (f_26 tT (d + 1)) 0 x τ = some (.inr τ) := by
      unfold F_25_5
      simp only [la_0, z_eats hf hf5 h, gd_tt, oA_arr, px_obj_s, Option.bind_some, Option.map_some, Option.bind_none, eq_self, true_or, or_true, px_av_0, px_av_1, px_av_2, px_av_10, px_av_11, bn, wi_1, wi_2, wl_1, wl_21, wl_22, wr_1, wr_21, wr_22, Sum.elim_inl, Sum.elim_inr, ↓reduceIte, Nat.reduceLT, Nat.reduceLeDiff, not_false_eq_true, not_true_eq_false, Nat.reduceEqDiff, Nat.reduceAdd, reduceCtorEq, and_true, true_and, and_false, false_and, false_or, or_false]
    simp only [la_0, z_unit hf hf5 h, lp_end e2, gd_tt, oA_arr, px_obj_s, Option.bind_some, Option.map_some, Option.bind_none, eq_self, true_or, or_true, px_av_0, px_av_1, px_av_2, px_av_10, px_av_11, bn, wi_1, wi_2, wl_1, wl_21, wl_22, wr_1, wr_21, wr_22, Sum.elim_inl, Sum.elim_inr, ↓reduceIte, Nat.reduceLT, Nat.reduceLeDiff, not_false_eq_true, not_true_eq_false, Nat.reduceEqDiff, Nat.reduceAdd, reduceCtorEq, and_true, true_and, and_false, false_and, false_or, or_false]
  rw [f_26_S]
  unfold F_26 f_26_5
  have e2 : F_26_5 tT (f_24 tT (d + 2)) (f_25 tT (d + 2)) (f_26 tT (d + 2)) 0 x τ = some (.inr τ) := by
    unfold F_26_5
    simp only [la_0, z_eats hf hf5 h, gd_tt, oA_arr, px_obj_s, Option.bind_some, Option.map_some, Option.bind_none, eq_self, true_or, or_true, px_av_0, px_av_1, px_av_2, px_av_10, px_av_11, bn, wi_1, wi_2, wl_1, wl_21, wl_22, wr_1, wr_21, wr_22, Sum.elim_inl, Sum.elim_inr, ↓reduceIte, Nat.reduceLT, Nat.reduceLeDiff, not_false_eq_true, not_true_eq_false, Nat.reduceEqDiff, Nat.reduceAdd, reduceCtorEq, and_true, true_and, and_false, false_and, false_or, or_false]
  simp only [la_0, e1, lp_end e2, gd_tt, oA_arr, px_obj_s, Option.bind_some, Option.map_some, Option.bind_none, eq_self, true_or, or_true, px_av_0, px_av_1, px_av_2, px_av_10, px_av_11, bn, wi_1, wi_2, wl_1, wl_21, wl_22, wr_1, wr_21, wr_22, Sum.elim_inl, Sum.elim_inr, ↓reduceIte, Nat.reduceLT, Nat.reduceLeDiff, not_false_eq_true, not_true_eq_false, Nat.reduceEqDiff, Nat.reduceAdd, reduceCtorEq, and_true, true_and, and_false, false_and, false_or, or_false]
theorem tR_0 (C : Nat → Nat) : tR C 0 [] := rfl
/-- a rule closed, in both -/
theorem j_close (hx : cx σ0 τ0 b e K pl bh κ v) (h6 : nr < 6) (h : ex σ0 τ0 K pl bh κ v n B nr S ln σ τ k C m [true]) : ∃ σ', f_10005 tT σ 143 = some σ' ∧ ex σ0 τ0 K pl bh κ v n B (nr + 1) (upm S (nr + 1) m) ln σ' (px_wi (px_wi (px_wi τ 4 (159 + nr) (nI (S nr))) 4 (165 + nr) (nI (m - S nr))) 4 158 (nI (nr + 1))) k C (upm S (nr + 1) m (nr + 1)) [] := by
  obtain ⟨⟨⟨f1, f2⟩, hk, ⟨p1, p2, p3⟩, p4, p5, p6, p7, p8⟩, ⟨d1, d2, d3, d4, d5, d6, d7, d8, d9, d10⟩, ⟨e1, e2, e3, e4, e5, e6, e7, e8⟩, t1, t2, t3, t4⟩ := h
  obtain ⟨hR, -⟩ := cx_c hx f1
  have a1 : ¬ nI nr < nI 0 := by rw [nI_ltI (by omega) (by omega)]; omega
  have a2 : ¬ nI 6 ≤ nI nr := by rw [nI_leI (by omega) (by omega)]; omega
  have c1 : vp_in (nI (nr + 1)) 7 := (vp_in_eq (by omega)).mpr (by omega)
  have c2 : (nI (nr + 1)).toNatClampNeg = nr + 1 := nI_clamp (by omega)
  have fS : ∀ r, r ≤ nr → upm S (nr + 1) m r = S r := fun r hr => upm_n (by omega)
  have hus : ∀ r, r < nr → us (upm S (nr + 1) m) C r = us S C r := fun r hr => by
    unfold us; rw [fS r (by omega), fS (r + 1) (by omega)]
  have husn : us (upm S (nr + 1) m) C nr = uset (fun k => C (S nr + k)) (m - S nr) := by
    unfold us; rw [fS nr (by omega), upm_s]
  have oC : ∀ l j, l ≠ 143 → l ≠ 144 → (px_wi (px_wi σ 143 0 (nI (nr + 1))) 144 (nr + 1) (nI m)).1 l j = σ.1 l j := fun l j q1 q2 => by rw [wi_n q2, wi_n q1]
  have oM : ∀ j, j ≠ 159 + nr → j ≠ 165 + nr → j ≠ 158 → (px_wi (px_wi (px_wi τ 4 (159 + nr) (nI (S nr))) 4 (165 + nr) (nI (m - S nr))) 4 158 (nI (nr + 1))).1 4 j = τ.1 4 j := fun j q1 q2 q3 => by
    show px_up (px_up (px_up τ.1 4 (159 + nr) (nI (S nr))) 4 (165 + nr) (nI (m - S nr))) 4 158 (nI (nr + 1)) 4 j = _
    rw [up_s, if_neg q3, up_s, if_neg q2, up_s, if_neg q1]
  have r0 : ∀ j, (px_wi (px_wi (px_wi τ 4 (159 + nr) (nI (S nr))) 4 (165 + nr) (nI (m - S nr))) 4 158 (nI (nr + 1))).1 0 j = τ.1 0 j := fun j => by rw [wi_n (by decide), wi_n (by decide), wi_n (by decide)]
  refine ⟨px_wi (px_wi σ 143 0 (nI (nr + 1))) 144 (nr + 1) (nI m), ?_, ⟨⟨fr_tr f1 (fr_wi (fr_wi (fr_rf _ _) _ rfl) _ rfl), fr_tr f2 (fr_wi (fr_wi (fr_wi (fr_rf _ _) _ rfl) _ rfl) _ rfl)⟩, hk, ⟨?_, ?_, ?_⟩, ?_, ?_, ?_, fun q => ?_, ?_⟩, ⟨?_, ?_, fun r hr => ?_, fun r hr => ?_, fun hr => ?_, fun r h1 h2 => ?_, fun i hi => ?_, ?_, ?_, ?_⟩, ⟨?_, fun g hg => ?_, wi_s _ _ _ _, fun r hr => ⟨?_, ?_⟩, ?_, fun i hi => ?_, ?_, ?_⟩, ⟨by omega, ?_, fun r hr => ?_, ?_, fun r hr => ?_⟩, Nat.le_refl _, ?_, ?_⟩
  · unfold f_10005
    have y1 : (px_wi σ 143 0 (nI (nr + 1))).1 143 0 = nI (nr + 1) := wi_s _ _ _ _
    have y2 : (px_wi σ 143 0 (nI (nr + 1))).1 143 4 = nI m := by
      show px_up σ.1 143 0 (nI (nr + 1)) 143 4 = _
      rw [up_s, if_neg (by decide)]; exact d8
    have y3 : (px_wi σ 143 0 (nI (nr + 1))).2.2 143 1 = some 144 := rc_143_1 hR
    rw [d2, nI_add]
    generalize px_wi σ 143 0 (nI (nr + 1)) = ω at y1 y2 y3 ⊢
    simp only [la_143, la_144, a1, a2, y1, y2, y3, c1, c2, gd_tt, oA_arr, px_obj_s, Option.bind_some, Option.map_some, Option.bind_none, eq_self, true_or, or_true, px_av_0, px_av_1, px_av_2, px_av_10, px_av_11, bn, wi_1, wi_2, wl_1, wl_21, wl_22, wr_1, wr_21, wr_22, Sum.elim_inl, Sum.elim_inr, ↓reduceIte, Nat.reduceLT, Nat.reduceLeDiff, not_false_eq_true, not_true_eq_false, Nat.reduceEqDiff, Nat.reduceAdd, reduceCtorEq, and_true, true_and, and_false, false_and, false_or, or_false]
  · rw [oC _ _ (by decide) (by decide)]; exact p1
  · rw [oC _ _ (by decide) (by decide)]; exact p2
  · rw [oC _ _ (by decide) (by decide)]; exact p3
  · rw [r0]; exact p4
  · rw [r0]; exact p5
  · rw [r0]; exact p6
  · rw [r0]; exact p7 q
  · rw [r0]; exact p8
  · exact ct_fr (S := fun l j => l == 143 || l == 144) (fr_wi (fr_wi (fr_rf _ _) _ rfl) _ rfl) (fun _ => rfl) (fun _ => rfl) d1
  · rw [wi_n (by decide)]; exact wi_s _ _ _ _
  · show px_up (px_wi σ 143 0 (nI (nr + 1))).1 144 (nr + 1) (nI m) 144 r = _
    rw [up_s]
    by_cases q : r = nr + 1
    · subst q; rw [if_pos rfl, upm_s]
    · rw [if_neg q, upm_n q, wi_n (by decide)]; exact d3 r (by omega)
  · rw [oC _ _ (by decide) (by decide)]
    by_cases q : r = nr
    · subst q; rw [husn]; exact d5 h6
    · rw [hus r (by omega)]; exact d4 r (by omega)
  · rw [oC _ _ (by decide) (by decide), upm_s, Nat.sub_self]
    exact d6 (nr + 1) (by omega) hr
  · rw [oC _ _ (by decide) (by decide)]; exact d6 r (by omega) h2
  · rw [upm_s] at hi
    rw [oC _ _ (by decide) (by decide)]; exact d7 i hi
  · rw [upm_s, wi_n (by decide)]
    show px_up σ.1 143 0 (nI (nr + 1)) 143 4 = _
    rw [up_s, if_neg (by decide)]; exact d8
  · rw [oC _ _ (by decide) (by decide)]; exact d9
  · rw [oC _ _ (by decide) (by decide)]; exact d10
  · rw [oM _ (by omega) (by omega) (by omega)]; exact e1
  · rw [oM _ (by omega) (by omega) (by omega)]; exact e2 g hg
  · by_cases q : r = nr
    · subst q
      rw [fS r (by omega)]
      show px_up (px_up (px_up τ.1 4 (159 + r) (nI (S r))) 4 (165 + r) (nI (m - S r))) 4 158 (nI (r + 1)) 4 (159 + r) = _
      rw [up_s, if_neg (by omega), up_s, if_neg (by omega), up_s, if_pos rfl]
    · rw [fS r (by omega), oM _ (by omega) (by omega) (by omega)]; exact (e4 r (by omega)).1
  · by_cases q : r = nr
    · subst q
      rw [fS r (by omega), upm_s]
      show px_up (px_up (px_up τ.1 4 (159 + r) (nI (S r))) 4 (165 + r) (nI (m - S r))) 4 158 (nI (r + 1)) 4 (165 + r) = _
      rw [up_s, if_neg (by omega), up_s, if_pos rfl]
    · rw [fS r (by omega), fS (r + 1) (by omega), oM _ (by omega) (by omega) (by omega)]; exact (e4 r (by omega)).2
  · rw [upm_s, oM _ (by omega) (by omega) (by omega)]; exact e5
  · rw [upm_s] at hi
    rw [oM _ (by omega) (by omega) (by omega)]; exact e6 i hi
  · rw [oM _ (by omega) (by omega) (by omega)]; exact e7
  · rw [oM _ (by omega) (by omega) (by omega)]; exact e8
  · rw [fS 0 (by omega)]; exact t1.2.1
  · by_cases q : r = nr
    · subst q; rw [fS r (by omega), upm_s]; exact t2
    · rw [fS r (by omega), fS (r + 1) (by omega)]; exact t1.2.2.1 r (by omega)
  · rw [upm_s]; exact t3
  · by_cases q : r = nr
    · subst q; rw [fS r (by omega), upm_s]; exact t4
    · rw [fS r (by omega), fS (r + 1) (by omega)]; exact t1.2.2.2.2 r (by omega)
  · rw [upm_s]; exact t3
  · rw [Nat.sub_self]; exact tR_0 _
theorem j_rule (hx : cx σ0 τ0 b e K pl bh κ v) (h : ex σ0 τ0 K pl bh κ v n B nr S ln σ τ k C (S nr) []) (hm : S nr ≤ k) (h17 : κ k ≠ 17) (h18 : κ k ≠ 18) : oc σ0 τ0 (f_9024 tT σ 150) (f_27 tT τ 0) (lns σ0 τ0 K pl bh κ v ln k) := by
  have hRm := (cx_t hx h.1.1.2).1
  obtain ⟨hR, -⟩ := cx_c hx h.1.1.1
  have k1 : vp_in (nI 158) 1072 := (vp_in_eq (by omega)).mpr (by omega)
  have k2 : (nI 158).toNatClampNeg = 158 := nI_clamp (by omega)
  have k3 : vp_in (nI 171) 1072 := (vp_in_eq (by omega)).mpr (by omega)
  have k4 : (nI 171).toNatClampNeg = 171 := nI_clamp (by omega)
  have d2 := h.2.1.2.1
  have e3 := h.2.2.1.2.2.1
  have p8 := h.1.2.2.2.2.2.2.2
  have u6 := h.2.2.2.1.1
  by_cases h6 : nr < 6
  · have a1 : nI nr < nI 6 := by rw [nI_ltI (by omega) (by omega)]; exact h6
    have a2 : ¬ nI nr = nI 6 := by rw [nI_eq (by omega) (by omega)]; omega
    obtain ⟨σ1, τ1, y1, y2, y3, -⟩ := j_adv hx h h17
    -- the model up to the colon
    have m27 : f_27 tT τ 0 = (f_12 tT τ1 0 (nI 21)).bind fun q2 => bn (q2.1 = nI 0) (f_27_46 tT q2.2 0 (nI nr)) ((f_10 tT q2.2 0 (nI 2)).bind fun q3 => f_27_46 tT q3 0 (nI nr)) := by
      unfold f_27 f_27_20
      simp only [la_0, la_4, rm_0_4 hRm, k1, k2, e3, a2, p8, y2, gd_tt, oA_arr, px_obj_s, Option.bind_some, eq_self, true_or, px_av_0, bn, ↓reduceIte]
    have dead46 : ∀ σ' τ', ded σ0 τ0 σ' τ' → f_27_46 tT τ' 0 (nI nr) = some τ' := fun σ' τ' hd => by
      obtain ⟨f, f0, f5, f1⟩ := ded_x hd
      have fa : ¬ nI f = nI 0 := by rw [nI_eq (by omega) (by omega)]; exact f0
      have hRd := (cx_t hx hd.1.2).1
      unfold f_27_46
      simp only [la_0, la_4, rm_0_4 hRd, k3, z_truth (d := 57) f0 f5 f1, f1, fa, gd_tt, oA_arr, px_obj_s, Option.bind_some, Option.map_some, Option.bind_none, eq_self, true_or, or_true, px_av_0, px_av_1, px_av_2, px_av_10, px_av_11, bn, wi_1, wi_2, wl_1, wl_21, wl_22, wr_1, wr_21, wr_22, Sum.elim_inl, Sum.elim_inr, ↓reduceIte, Nat.reduceLT, Nat.reduceLeDiff, not_false_eq_true, not_true_eq_false, Nat.reduceEqDiff, Nat.reduceAdd, reduceCtorEq, and_true, true_and, and_false, false_and, false_or, or_false]
    rcases j_pass hx y3 (c := 21) (by omega) (by omega) (by omega) (by omega) with ⟨-, σ2, τ2, w1, w2, w3⟩ | ⟨-, σ2, τ2, w1, w2, w3, w4⟩
    · have w1' : f_9019 tT σ1 150 (nI 4058) = some (nI 1, σ2) := w1
      have hRm2 := (cx_t hx w3.1.1.2).1
      have e5 := w3.2.2.1.2.2.2.2.1
      rcases (j_truths hx h6 6 0 (by omega) 60 60 (by omega) (by omega)).1 σ2 τ2 (k + 1 + 1) C (S nr) [] w3 (by omega) (by decide) with ⟨σ3, τ3, z1, z2, k', C', m', z3, z4, z5⟩ | ⟨σ3, τ3, z1, z2, z3⟩
      · obtain ⟨hR3, -⟩ := cx_c hx z3.1.1.1
        have hRm3 := (cx_t hx z3.1.1.2).1
        have p83 := z3.1.2.2.2.2.2.2.2
        have e53 := z3.2.2.1.2.2.2.2.1
        have e33 := z3.2.2.1.2.2.1
        have t23 := z3.2.2.2.2.1
        have hk' := z3.1.2.1
        obtain ⟨σ4, x1, x2⟩ := j_close hx h6 z3
        have i1 : vp_in (nI (159 + nr)) 1072 := (vp_in_eq (by omega)).mpr (by omega)
        have i2 : (nI (159 + nr)).toNatClampNeg = 159 + nr := nI_clamp (by omega)
        have i3 : vp_in (nI (165 + nr)) 1072 := (vp_in_eq (by omega)).mpr (by omega)
        have i4 : (nI (165 + nr)).toNatClampNeg = 165 + nr := nI_clamp (by omega)
        refine Or.inl ⟨σ4, _, ?_, ?_, k', n, B, nr + 1, _, C', x2, by omega, by rw [upm_s]; omega⟩
        · unfold f_9024 f_9024_35
          simp only [la_150, la_140, la_143, rc_150_3 hR, rc_140_1 hR, rc_150_3 hR3, rc_140_1 hR3, d2, a1, y1, w1', n10, z1, x1, gd_tt, oA_arr, px_obj_s, Option.bind_some, Option.map_some, Option.bind_none, eq_self, true_or, or_true, px_av_0, px_av_1, px_av_2, px_av_10, px_av_11, bn, wi_1, wi_2, wl_1, wl_21, wl_22, wr_1, wr_21, wr_22, Sum.elim_inl, Sum.elim_inr, ↓reduceIte, Nat.reduceLT, Nat.reduceLeDiff, not_false_eq_true, not_true_eq_false, Nat.reduceEqDiff, Nat.reduceAdd, reduceCtorEq, and_true, true_and, and_false, false_and, false_or, or_false]
        · rw [m27, w2]
          have n1' : ¬ nI 1 = nI 0 := by decide
          simp only [Option.bind_some, bn, n1', ↓reduceIte]
          have g1 : (px_wi τ3 4 (159 + nr) (nI (S nr))).1 4 171 = nI m' := by
            show px_up τ3.1 4 (159 + nr) _ 4 171 = _
            rw [up_s, if_neg (by omega)]; exact e53
          have g2 : (px_wi (px_wi τ3 4 (159 + nr) (nI (S nr))) 4 (165 + nr) (nI (m' - S nr))).1 4 158 = nI nr := by
            show px_up (px_up τ3.1 4 (159 + nr) (nI (S nr))) 4 (165 + nr) (nI (m' - S nr)) 4 158 = _
            rw [up_s, if_neg (by omega), up_s, if_neg (by omega)]; exact e33
          have g3 : (px_wi τ3 4 (159 + nr) (nI (S nr))).2.2 0 4 = some 4 := rm_0_4 hRm3
          have g4 : (px_wi (px_wi τ3 4 (159 + nr) (nI (S nr))) 4 (165 + nr) (nI (m' - S nr))).2.2 0 4 = some 4 := rm_0_4 hRm3
          unfold f_27_46
          simp only [la_0, la_4, rm_0_4 hRm2, rm_0_4 hRm3, k3, k4, e5, z2, p83, nI_add, i1, i2, gd_tt, oA_arr, px_obj_s, Option.bind_some, eq_self, true_or, px_av_0, ↓reduceIte]
          unfold f_27_79
          generalize px_wi τ3 4 (159 + nr) (nI (S nr)) = ω at g1 g2 g3 g4 ⊢
          simp only [la_0, la_4, g1, g3, k3, k4, nI_add, i3, i4, ni_subL t23, gd_tt, oA_arr, px_obj_s, Option.bind_some, eq_self, true_or, px_av_0, ↓reduceIte]
          generalize px_wi ω 4 (165 + nr) (nI (m' - S nr)) = χ at g2 g4 ⊢
          simp only [la_4, g2, g4, k1, k2, nI_add, gd_tt, oA_arr, px_obj_s, Option.bind_some, eq_self, true_or, px_av_0, ↓reduceIte]
      · refine Or.inr ⟨σ3, τ3, ?_, ?_, z3⟩
        · unfold f_9024 f_9024_35 f_9024_43
          simp only [la_150, la_140, la_143, rc_150_3 hR, rc_140_1 hR, d2, a1, y1, w1', n10, z1, gd_tt, oA_arr, px_obj_s, Option.bind_some, Option.map_some, Option.bind_none, eq_self, true_or, or_true, px_av_0, px_av_1, px_av_2, px_av_10, px_av_11, bn, wi_1, wi_2, wl_1, wl_21, wl_22, wr_1, wr_21, wr_22, Sum.elim_inl, Sum.elim_inr, ↓reduceIte, Nat.reduceLT, Nat.reduceLeDiff, not_false_eq_true, not_true_eq_false, Nat.reduceEqDiff, Nat.reduceAdd, reduceCtorEq, and_true, true_and, and_false, false_and, false_or, or_false]
        · obtain ⟨f, f0, f5, f1⟩ := ded_x z3
          have fa : ¬ nI f = nI 0 := by rw [nI_eq (by omega) (by omega)]; exact f0
          rw [m27, w2]
          have n1' : ¬ nI 1 = nI 0 := by decide
          simp only [Option.bind_some, bn, n1', ↓reduceIte]
          unfold f_27_46
          simp only [la_0, la_4, rm_0_4 hRm2, k3, z2, f1, fa, gd_tt, oA_arr, px_obj_s, Option.bind_some, Option.map_some, Option.bind_none, eq_self, true_or, or_true, px_av_0, px_av_1, px_av_2, px_av_10, px_av_11, bn, wi_1, wi_2, wl_1, wl_21, wl_22, wr_1, wr_21, wr_22, Sum.elim_inl, Sum.elim_inr, ↓reduceIte, Nat.reduceLT, Nat.reduceLeDiff, not_false_eq_true, not_true_eq_false, Nat.reduceEqDiff, Nat.reduceAdd, reduceCtorEq, and_true, true_and, and_false, false_and, false_or, or_false]
    · have w1' : f_9019 tT σ1 150 (nI 4058) = some (nI 0, σ2) := w1
      refine Or.inr ⟨σ2, τ2, ?_, ?_, w4⟩
      · unfold f_9024 f_9024_43
        simp only [la_150, la_140, la_143, rc_150_3 hR, rc_140_1 hR, d2, a1, y1, w1', gd_tt, oA_arr, px_obj_s, Option.bind_some, Option.map_some, Option.bind_none, eq_self, true_or, or_true, px_av_0, px_av_1, px_av_2, px_av_10, px_av_11, bn, wi_1, wi_2, wl_1, wl_21, wl_22, wr_1, wr_21, wr_22, Sum.elim_inl, Sum.elim_inr, ↓reduceIte, Nat.reduceLT, Nat.reduceLeDiff, not_false_eq_true, not_true_eq_false, Nat.reduceEqDiff, Nat.reduceAdd, reduceCtorEq, and_true, true_and, and_false, false_and, false_or, or_false]
      · rw [m27, w2]
        simp only [Option.bind_some, bn, ↓reduceIte, w3, dead46 σ2 τ2 w4]
  · have a1 : ¬ nI nr < nI 6 := by rw [nI_ltI (by omega) (by omega)]; exact h6
    have hnr : nr = 6 := by omega
    obtain ⟨σ2, τ2, y1, y2, y3⟩ := j_blame hx h.1 (f := 4) (Or.inr ⟨Or.inr rfl, h18⟩)
    obtain ⟨f, f0, f5, f1⟩ := ded_x y3
    have fa : ¬ nI f = nI 0 := by rw [nI_eq (by omega) (by omega)]; exact f0
    refine Or.inr ⟨σ2, τ2, ?_, ?_, y3⟩
    · unfold f_9024
      simp only [la_150, la_140, la_143, rc_150_3 hR, rc_140_1 hR, d2, a1, y1, gd_tt, oA_arr, px_obj_s, Option.bind_some, Option.map_some, Option.bind_none, eq_self, true_or, or_true, px_av_0, px_av_1, px_av_2, px_av_10, px_av_11, bn, wi_1, wi_2, wl_1, wl_21, wl_22, wr_1, wr_21, wr_22, Sum.elim_inl, Sum.elim_inr, ↓reduceIte, Nat.reduceLT, Nat.reduceLeDiff, not_false_eq_true, not_true_eq_false, Nat.reduceEqDiff, Nat.reduceAdd, reduceCtorEq, and_true, true_and, and_false, false_and, false_or, or_false]
    · rw [hnr] at e3
      unfold f_27 f_27_20
      simp only [la_0, la_4, rm_0_4 hRm, k1, k2, e3, y2, f1, fa, gd_tt, oA_arr, px_obj_s, Option.bind_some, Option.map_some, Option.bind_none, eq_self, true_or, or_true, px_av_0, px_av_1, px_av_2, px_av_10, px_av_11, bn, wi_1, wi_2, wl_1, wl_21, wl_22, wr_1, wr_21, wr_22, Sum.elim_inl, Sum.elim_inr, ↓reduceIte, Nat.reduceLT, Nat.reduceLeDiff, not_false_eq_true, not_true_eq_false, Nat.reduceEqDiff, Nat.reduceAdd, reduceCtorEq, and_true, true_and, and_false, false_and, false_or, or_false]
end
