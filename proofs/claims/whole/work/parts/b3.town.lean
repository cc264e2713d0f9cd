/-! town -/
section
variable {σ τ σ' τ' : px_M}
theorem e_takes4 (hR : mR τ.2.2) : ∃ φ, f_28_220 tT 0 (nI 0) τ = some (τ.1 4 0, φ) ∧ fr (rwS 0) τ φ ∧ ∀ j, j < 1072 → φ.1 1 (0 + j) = τ.1 4 j := by
  have key : ∀ y i ρ, i + y = 1072 → fr (rwS 0) τ ρ → (∀ j, j < i → ρ.1 1 (0 + j) = τ.1 4 j) → ∃ φ, lpO (fun s : Int32 × px_M => F_28_220 tT 0 s.1 s.2) (nI i, ρ) = some (τ.1 4 0, φ) ∧ fr (rwS 0) τ φ ∧ ∀ j, j < 1072 → φ.1 1 (0 + j) = τ.1 4 j := by
    intro y
    induction y with
    | zero =>
      intro i ρ hi hf hz
      have : i = 1072 := by omega
      subst this
      have hRρ := mR_fr hf hR
      have a1 : nI 1072 ≤ nI 1072 := by decide
      have c1 : vp_in (nI 0) 3216 := (vp_in_eq (by omega)).mpr (by omega)
      have c2 : (nI 0).toNatClampNeg = 0 := nI_clamp (by omega)
      have e0 : ρ.1 1 0 = τ.1 4 0 := hz 0 (by omega)
      refine ⟨ρ, lp_end ?_, hf, hz⟩
      show F_28_220 tT 0 (nI 1072) ρ = _
      unfold F_28_220
      simp only [a1, la_0, la_1, rm_0_1 hRρ, c1, c2, e0, gd_tt, oA_arr, px_obj_s, Option.bind_some, Option.map_some, Option.bind_none, eq_self, true_or, or_true, px_av_0, px_av_1, px_av_2, px_av_10, px_av_11, bn, wi_1, wi_2, wl_1, wl_21, wl_22, wr_1, wr_21, wr_22, Sum.elim_inl, Sum.elim_inr, ↓reduceIte, Nat.reduceLT, Nat.reduceLeDiff, not_false_eq_true, not_true_eq_false, Nat.reduceEqDiff, Nat.reduceAdd, reduceCtorEq, and_true, true_and, and_false, false_and, false_or, or_false]
    | succ y ih =>
      intro i ρ hi hf hz
      have hRρ := mR_fr hf hR
      have a1 : ¬ nI 1072 ≤ nI i := by rw [nI_leI (by omega) (by omega)]; omega
      have c1 : vp_in (nI i) 1072 := (vp_in_eq (by omega)).mpr (by omega)
      have c3 : vp_in (nI i) 3216 := (vp_in_eq (by omega)).mpr (by omega)
      have c2 : (nI i).toNatClampNeg = i := nI_clamp (by omega)
      have e4 : ρ.1 4 i = τ.1 4 i := hf.1 4 i rfl
      rw [lp_next (a' := (nI (i + 1), px_wi ρ 1 i (τ.1 4 i))) (by
        show F_28_220 tT 0 (nI i) ρ = _
        unfold F_28_220
        simp only [a1, la_0, la_1, la_4, rm_0_1 hRρ, rm_0_4 hRρ, c1, c2, c3, e4, nI_add, gd_tt, oA_arr, px_obj_s, Option.bind_some, Option.map_some, Option.bind_none, eq_self, true_or, or_true, px_av_0, px_av_1, px_av_2, px_av_10, px_av_11, bn, wi_1, wi_2, wl_1, wl_21, wl_22, wr_1, wr_21, wr_22, Sum.elim_inl, Sum.elim_inr, ↓reduceIte, Nat.reduceLT, Nat.reduceLeDiff, not_false_eq_true, not_true_eq_false, Nat.reduceEqDiff, Nat.reduceAdd, reduceCtorEq, and_true, true_and, and_false, false_and, false_or, or_false])]
      refine ih (i + 1) _ (by omega) (fr_wi hf _ (by simp [rwS]; omega)) (fun j hj => ?_)
      show px_up ρ.1 1 i (τ.1 4 i) 1 (0 + j) = _
      rw [up_s]
      by_cases q : j = i
      · subst q; rw [if_pos (by omega)]
      · rw [if_neg (by omega)]; exact hz j (by omega)
  exact key 1072 0 τ (by omega) (fr_rf _ _) (fun j hj => by omega)
def MT2 (l j : Nat) : Bool := MT l j || (l == 0 && (j == 13 || j == 14))
theorem CT_CF : ∀ l j, CT l j = false → CF l j = false := fun l j h => by simp only [CT, Bool.or_eq_false_iff] at h; exact h.1.1
theorem MT_MF : ∀ l j, MT l j = false → MF l j = false := fun l j h => by simp only [MT, Bool.or_eq_false_iff] at h; exact h.1
theorem MT2_MT : ∀ l j, MT2 l j = false → MT l j = false := fun l j h => by simp only [MT2, Bool.or_eq_false_iff] at h; exact h.1
theorem CT_o {l : Nat} (j : Nat) (h : l < 140 ∨ l = 151 ∨ 154 ≤ l) : CT l j = false := by
  simp only [CT, CF, CG, TK, Bool.or_eq_false_iff, Bool.and_eq_false_iff, beq_eq_false_iff_ne, decide_eq_false_iff_not]
  omega
theorem MT2_o {l : Nat} (j : Nat) (h : l ≠ 0 ∧ l ≠ 4) : MT2 l j = false := by
  simp only [MT2, MT, MF, Bool.or_eq_false_iff, Bool.and_eq_false_iff, beq_eq_false_iff_ne]
  omega
theorem s_town (h : ST σ τ) (x : Int32) : stII σ τ (f_12003 tT σ 100 x) (f_28 tT τ 0 x) := by
  have hT := ST_thr h
  have hJ := SJ_thr h
  have hR := h.1.1
  have hRm := hT.1.2
  obtain ⟨b, t, t1, t2, t3, t4, t5, t6⟩ := id hT.2.2.2.2.1
  have l1 : (nI t).toInt64 = lN t := nI_l (by omega)
  rcases rg_cases x 0 t (by omega) with ⟨e, -, he, rfl⟩ | hno
  · have a1 : ¬ nI e < nI 0 := by rw [nI_ltI (by omega) (by omega)]; omega
    have a2 : nI e ≤ nI t := by rw [nI_leI (by omega) (by omega)]; omega
    have wi : ∀ ω, f_2 tT ω (nI e).toInt64 (lN 0) (lN t) = some (nI 1) := fun ω => by
      rw [e_withinN ω (nI e) (lo := 0) (hi := t) (by omega) (by omega), decide_eq_true (by rw [nI_toInt (by omega)]; omega), mb_t1]
    have n1 : ¬ nI 1 = nI 0 := by decide
    obtain ⟨-, ha, ⟨i0, i1⟩, hrw, htp, -, hdr⟩ := id hT
    obtain ⟨σ0, τ0, K, pl, bh, κ, v, σ1, τ1, y1, y2, hx, ⟨g1, g2⟩, ⟨g3, g4, g5⟩, hrd⟩ := j_read (e := e) hR hRm (by omega) t4 t5 t6 hdr.2
    have mside : ∀ r φ, f_28_176 tT τ1 0 = some (r, φ) → f_28 tT τ 0 (nI e) = some (r, φ) := fun r φ hφ => by
      rw [← y2] at hφ
      unfold f_28
      generalize px_wi τ 0 0 (nI 0) = ζ at hT hJ hRm t3 hφ ⊢
      simp only [la_0, t3, l1, wi, n1, hφ, gd_tt, oA_arr, px_obj_s, Option.bind_some, Option.map_some, Option.bind_none, eq_self, true_or, or_true, px_av_0, px_av_1, px_av_2, px_av_10, px_av_11, bn, wi_1, wi_2, wl_1, wl_21, wl_22, wr_1, wr_21, wr_22, Sum.elim_inl, Sum.elim_inr, ↓reduceIte, Nat.reduceLT, Nat.reduceLeDiff, not_false_eq_true, not_true_eq_false, Nat.reduceEqDiff, Nat.reduceAdd, reduceCtorEq, and_true, true_and, and_false, false_and, false_or, or_false]
    rcases hrd with ⟨n, B, nr, S, C, ln, k, hex⟩ | hd
    · obtain ⟨⟨⟨f1, f2⟩, hk, ⟨p1, p2, p3⟩, p4, p5, p6, p7, p8⟩, ⟨d1, d2, d3, d4, d5, d6, d7, d8, d9, d10⟩, ⟨e1, e2, e3, e4, e5, e6, e7, e8⟩, u1, u2, u3, u4⟩ := hex
      have fC : fr CT σ σ1 := fr_tr g1 (fr_mono f1 (fun l j q => CF_CG l j (CT_CF l j q)))
      have fM : fr MT (px_wi τ 0 0 (nI 0)) τ1 := fr_tr g2 (fr_mono f2 MT_MF)
      have hR1 := cR_fr fC hR
      have hRm1 := mR_fr fM hRm
      have q2 : σ1.1 150 2 = -1 := by rw [f1.1 150 2 rfl]; exact g3
      have q0 : σ1.1 150 0 = nI 0 := by rw [f1.1 150 0 rfl]; exact g4
      have q5 : τ1.1 0 5 = nI 0 := by rw [f2.1 0 5 rfl]; exact g5
      obtain ⟨⟨L, hL1, hL2⟩, h144⟩ := drX_fr fC rfl rfl hdr
      have haL := aL_140 hR1
      have hanC : anC σ1 140 n B nr S C 0 (fun _ _ => nI 0) (nI ln) := ⟨d1, ⟨haL.2.1, ⟨haL.2.2.2.2.1, haL.2.2.2.2.2.1, haL.2.2.2.2.2.2⟩, d2, d3, d4, d7, d8⟩, u1, ⟨by omega, d10, L, hL1, hL2, fun i hi => by omega⟩, fun i hi => by omega, d9⟩
      obtain ⟨υ, z1, z2, z3⟩ := c_annalsB (X := 110) (A := 140) (by omega) (dA_h (by omega)) (aL_110 hR1) haL hanC
      have hRυ := cR_fr z2 hR1
      -- the model takes it
      obtain ⟨ψ, hψ⟩ : ∃ ψ, ψ = px_wi (px_wi τ1 0 13 (nI 0)) 0 14 (-1) := ⟨_, rfl⟩
      have fψ : fr MT2 (px_wi τ 0 0 (nI 0)) ψ := by rw [hψ]; exact fr_wi (fr_wi (fr_mono fM MT2_MT) _ rfl) _ rfl
      have hRψ := mR_fr fψ hRm
      have ψ4 : ∀ j, ψ.1 4 j = τ1.1 4 j := fun j => by rw [hψ, wi_n (by decide), wi_n (by decide)]
      have ψ11 : ψ.1 0 11 = nI 0 := by rw [hψ, w_o (by decide), w_o (by decide)]; exact p8
      have ψ5 : ψ.1 0 5 = nI 0 := by rw [hψ, w_o (by decide), w_o (by decide)]; exact q5
      have ψ13 : ψ.1 0 13 = nI 0 := by rw [hψ, w_o (by decide)]; exact wi_s _ _ _ _
      have ψ14 : ψ.1 0 14 = -1 := by rw [hψ]; exact wi_s _ _ _ _
      obtain ⟨φ, x1, x2, x3⟩ := e_takes4 hRψ
      have oφ : ∀ l j, l ≠ 1 → φ.1 l j = ψ.1 l j := fun l j q => x2.1 l j (by simp [rwS, q])
      have oφ1 : ∀ j, 1072 ≤ j → φ.1 1 j = (px_wi τ 0 0 (nI 0)).1 1 j := fun j q => by
        rw [x2.1 1 j (rwS_f (by omega)), fψ.1 1 j rfl]
      have rφ : ∀ j, j < 1072 → φ.1 1 j = τ1.1 4 j := fun j hj => by
        have := x3 j hj
        rw [Nat.zero_add, ψ4] at this
        exact this
      have m176 : f_28_176 tT τ1 0 = some (nI ln, φ) := by
        have b1 : (px_wi τ1 0 13 (nI 0)).1 0 11 = nI 0 := by rw [w_o (by decide)]; exact p8
        have x1' : f_28_203 tT ψ 0 = some (nI ln, φ) := by
          rw [ψ4, e7] at x1
          unfold f_28_203
          simp only [la_0, ψ11, x1, gd_tt, oA_arr, px_obj_s, Option.bind_some, Option.map_some, Option.bind_none, eq_self, true_or, or_true, px_av_0, px_av_1, px_av_2, px_av_10, px_av_11, bn, wi_1, wi_2, wl_1, wl_21, wl_22, wr_1, wr_21, wr_22, Sum.elim_inl, Sum.elim_inr, ↓reduceIte, Nat.reduceLT, Nat.reduceLeDiff, not_false_eq_true, not_true_eq_false, Nat.reduceEqDiff, Nat.reduceAdd, reduceCtorEq, and_true, true_and, and_false, false_and, false_or, or_false]
        unfold f_28_176
        rw [p8]
        simp only [la_0, gd_tt, px_obj_s, eq_self, ↓reduceIte]
        rw [b1]
        simp only [bn, ↓reduceIte]
        rw [← hψ]; exact x1'
      refine ⟨nI ln, υ, φ, ?_, mside _ _ m176, ?_⟩
      · have zz : υ.1 110 2 = nI ln := z3.2.2.2.2.2
        unfold f_12003 f_12003_61
        simp only [la_100, la_150, la_110, rc_100_4 hR, rc_100_4 hR1, rc_100_0 hR1, rc_100_0 hRυ, rc_150_3 hR1, a1, t2, a2, y1, p3, z1, zz, gd_tt, oA_arr, px_obj_s, Option.bind_some, Option.map_some, Option.bind_none, eq_self, true_or, or_true, px_av_0, px_av_1, px_av_2, px_av_10, px_av_11, bn, wi_1, wi_2, wl_1, wl_21, wl_22, wr_1, wr_21, wr_22, Sum.elim_inl, Sum.elim_inr, ↓reduceIte, Nat.reduceLT, Nat.reduceLeDiff, not_false_eq_true, not_true_eq_false, Nat.reduceEqDiff, Nat.reduceAdd, reduceCtorEq, and_true, true_and, and_false, false_and, false_or, or_false]
      · have fC2 : ∀ l j, (l < 110 ∨ 118 ≤ l) → υ.1 l j = σ1.1 l j := fun l j q => z2.1 l j (anS_f j (by omega))
        have fMφ : fr (fun l j => MT2 l j || rwS 0 l j) (px_wi τ 0 0 (nI 0)) φ := fr_tr (fr_mono fψ (fun l j q => by simp only [Bool.or_eq_false_iff] at q; exact q.1)) (fr_mono x2 (fun l j q => by simp only [Bool.or_eq_false_iff] at q; exact q.2))
        have fCυ : fr (fun l j => CT l j || anS 110 l j) σ υ := fr_tr (fr_mono fC (fun l j q => by simp only [Bool.or_eq_false_iff] at q; exact q.1)) (fr_mono z2 (fun l j q => by simp only [Bool.or_eq_false_iff] at q; exact q.2))
        have qC : ∀ l j, (l < 110 ∨ (118 ≤ l ∧ l < 140) ∨ l = 151) → (CT l j || anS 110 l j) = false := fun l j q => by
          rw [CT_o j (by omega), anS_f j (by omega)]; rfl
        have qM : ∀ l j, l ≠ 0 → l ≠ 1 → l ≠ 4 → (MT2 l j || rwS 0 l j) = false := fun l j q1 q2 q3 => by
          rw [MT2_o j ⟨q1, q3⟩]; simp [rwS, q2]
        refine SJ_go hJ ⟨?_, lo_fr fCυ (fun l j hl => qC l j (by omega)), hi_fr fMφ (fun l j hl => qM l j (by omega) (by omega) (by omega))⟩
        refine ⟨⟨hRυ, mR_fr fMφ hRm⟩, ⟨n, B, nr, S, C, 0, fun _ _ => nI 0, nI ln, z3, ⟨d1.2.2.2.1, ?_, fun g hg => ?_, ⟨?_, fun r hr => ⟨?_, ?_⟩, fun i hi => ?_⟩, ⟨by omega, ?_, fun i hi => by omega⟩, ?_⟩⟩, ⟨?_, ?_⟩, ?_, ?_, ⟨?_, ?_⟩, ?_⟩
        · rw [rφ _ (by omega)]; exact e1
        · rw [rφ _ (by omega), show 0 + 2 + g = 2 + g by omega]; exact e2 g hg
        · rw [rφ _ (by omega)]; exact e3
        · have := u1.1
          rw [rφ _ (by omega), show 0 + 159 + r = 159 + r by omega]; exact (e4 r hr).1
        · have := u1.1
          rw [rφ _ (by omega), show 0 + 165 + r = 165 + r by omega]; exact (e4 r hr).2
        · rw [rφ _ (by omega), show 0 + 172 + i = 172 + i by omega]; exact e6 i hi
        · rw [rφ _ (by omega)]; exact e8
        · rw [rφ _ (by omega)]; exact e7
        · exact imX_fr (by omega) fCυ fMφ (fun l j q => qC l j (by omega)) (fun j => qM _ _ (by omega) (by omega) (by omega)) (fun j q1 q2 => oφ1 j q1) i0
        · exact imX_fr (by omega) fCυ fMφ (fun l j q => qC l j (by omega)) (fun j => qM _ _ (by omega) (by omega) (by omega)) (fun j q1 q2 => oφ1 j q1) i1
        · exact rwX_fr fCυ fMφ (fun l j q1 q2 => qC l j (by omega)) (fun l j q1 q2 => qM l j (by omega) (by omega) (by omega)) hrw
        · refine ⟨b, 0, by omega, by rw [fC2 _ _ (by omega)]; exact q0, by rw [oφ _ _ (by omega)]; exact ψ5, fun i hi => ?_, fun i hi => ?_, t6⟩
          · rw [fCυ.1 151 i (qC _ _ (by omega))]; exact t4 i hi
          · rw [fMφ.1 3 i (qM _ _ (by omega) (by omega) (by omega))]; exact t5 i hi
        · rw [fC2 _ _ (by omega), oφ _ _ (by omega), p3, ψ13]
        · rw [fC2 _ _ (by omega), oφ _ _ (by omega), q2, ψ14]
        · exact ⟨⟨L, hL1, by rw [fC2 _ _ (by omega)]; exact hL2⟩, by rw [fC2 _ _ (by omega)]; exact h144⟩
    · obtain ⟨⟨f1, f2⟩, f, p, f0, f5, q1, q2, q3, q4⟩ := hd
      have fC : fr CT σ σ1 := fr_tr g1 (fr_mono f1 CT_CF)
      have fM : fr MT (px_wi τ 0 0 (nI 0)) τ1 := fr_tr g2 (fr_mono f2 MT_MF)
      have hR1 := cR_fr fC hR
      have fa : ¬ nI f = nI 0 := by rw [nI_eq (by omega) (by omega)]; exact f0
      have q0 : σ1.1 150 0 = nI 0 := by rw [f1.1 150 0 rfl]; exact g4
      have q5 : τ1.1 0 5 = nI 0 := by rw [f2.1 0 5 rfl]; exact g5
      obtain ⟨ψ, hψ⟩ : ∃ ψ, ψ = px_wi (px_wi τ1 0 13 (nI f)) 0 14 (nI p) := ⟨_, rfl⟩
      have fψ : fr MT2 (px_wi τ 0 0 (nI 0)) ψ := by rw [hψ]; exact fr_wi (fr_wi (fr_mono fM MT2_MT) _ rfl) _ rfl
      have ψ11 : ψ.1 0 11 = nI f := by rw [hψ, w_o (by decide), w_o (by decide)]; exact q2
      have ψ5 : ψ.1 0 5 = nI 0 := by rw [hψ, w_o (by decide), w_o (by decide)]; exact q5
      have ψ13 : ψ.1 0 13 = nI f := by rw [hψ, w_o (by decide)]; exact wi_s _ _ _ _
      have ψ14 : ψ.1 0 14 = nI p := by rw [hψ]; exact wi_s _ _ _ _
      have m176 : f_28_176 tT τ1 0 = some (-30 - nI f, ψ) := by
        have b1 : (px_wi τ1 0 13 (nI f)).1 0 11 = nI f := by rw [w_o (by decide)]; exact q2
        have b2 : (px_wi τ1 0 13 (nI f)).1 0 12 = nI p := by rw [w_o (by decide)]; exact q4
        have x1' : f_28_203 tT ψ 0 = some (-30 - nI f, ψ) := by
          unfold f_28_203
          simp only [la_0, ψ11, fa, gd_tt, oA_arr, px_obj_s, Option.bind_some, Option.map_some, Option.bind_none, eq_self, true_or, or_true, px_av_0, px_av_1, px_av_2, px_av_10, px_av_11, bn, wi_1, wi_2, wl_1, wl_21, wl_22, wr_1, wr_21, wr_22, Sum.elim_inl, Sum.elim_inr, ↓reduceIte, Nat.reduceLT, Nat.reduceLeDiff, not_false_eq_true, not_true_eq_false, Nat.reduceEqDiff, Nat.reduceAdd, reduceCtorEq, and_true, true_and, and_false, false_and, false_or, or_false]
        unfold f_28_176
        rw [q2]
        simp only [la_0, gd_tt, px_obj_s, eq_self, ↓reduceIte]
        rw [b1, b2]
        simp only [bn, fa, ↓reduceIte]
        rw [← hψ]; exact x1'
      refine ⟨-30 - nI f, σ1, ψ, ?_, mside _ _ m176, ?_⟩
      · unfold f_12003
        simp only [la_100, la_150, rc_100_4 hR, rc_100_4 hR1, a1, t2, a2, y1, q1, fa, gd_tt, oA_arr, px_obj_s, Option.bind_some, Option.map_some, Option.bind_none, eq_self, true_or, or_true, px_av_0, px_av_1, px_av_2, px_av_10, px_av_11, bn, wi_1, wi_2, wl_1, wl_21, wl_22, wr_1, wr_21, wr_22, Sum.elim_inl, Sum.elim_inr, ↓reduceIte, Nat.reduceLT, Nat.reduceLeDiff, not_false_eq_true, not_true_eq_false, Nat.reduceEqDiff, Nat.reduceAdd, reduceCtorEq, and_true, true_and, and_false, false_and, false_or, or_false]
      · have qC : ∀ l j, (l < 140 ∨ l = 151) → CT l j = false := fun l j q => CT_o j (by omega)
        refine SJ_go hJ ⟨?_, lo_fr fC (fun l j hl => qC l j (by omega)), hi_fr fψ (fun l j hl => MT2_o j (by omega))⟩
        refine ⟨⟨hR1, mR_fr fψ hRm⟩, anX_fr fC (fun l j a1 a2 => qC l j (by omega)) (fun k hk => fψ.1 1 _ rfl) ha, ⟨?_, ?_⟩, ?_, ?_, ⟨?_, ?_⟩, drX_fr fC rfl rfl hdr⟩
        · exact imX_fr (by omega) fC fψ (fun l j q => qC l j (by omega)) (fun j => MT2_o j (by omega)) (fun j _ _ => fψ.1 1 _ rfl) i0
        · exact imX_fr (by omega) fC fψ (fun l j q => qC l j (by omega)) (fun j => MT2_o j (by omega)) (fun j _ _ => fψ.1 1 _ rfl) i1
        · exact rwX_fr fC fψ (fun l j q1 q2 => qC l j (by omega)) (fun l j q1 q2 => MT2_o j (by omega)) hrw
        · refine ⟨b, 0, by omega, q0, ψ5, fun i hi => ?_, fun i hi => ?_, t6⟩
          · rw [fC.1 151 i (qC _ _ (by omega))]; exact t4 i hi
          · rw [fψ.1 3 i rfl]; exact t5 i hi
        · rw [q1, ψ13]
        · rw [q3, ψ14]
  · have wi : ∀ ω, f_2 tT ω x.toInt64 (lN 0) (lN t) = some (nI 0) := fun ω => by
      rw [e_withinN ω x (lo := 0) (hi := t) (by omega) (by omega), decide_eq_false hno, mb_f0]
    refine ⟨-3, σ, px_wi τ 0 0 (nI 0), ?_, ?_, hJ⟩
    · unfold f_12003
      by_cases a1 : x < nI 0
      · simp only [a1, gd_tt, oA_arr, px_obj_s, Option.bind_some, Option.map_some, Option.bind_none, eq_self, true_or, or_true, px_av_0, px_av_1, px_av_2, px_av_10, px_av_11, bn, wi_1, wi_2, wl_1, wl_21, wl_22, wr_1, wr_21, wr_22, Sum.elim_inl, Sum.elim_inr, ↓reduceIte, Nat.reduceLT, Nat.reduceLeDiff, not_false_eq_true, not_true_eq_false, Nat.reduceEqDiff, Nat.reduceAdd, reduceCtorEq, and_true, true_and, and_false, false_and, false_or, or_false]
      · have a2 : ¬ x ≤ nI t := by
          rw [fa_lt, nI_toInt (by omega)] at a1
          rw [fa_le, nI_toInt (by omega)]
          omega
        simp only [la_100, la_150, rc_100_4 hR, a1, t2, a2, gd_tt, oA_arr, px_obj_s, Option.bind_some, Option.map_some, Option.bind_none, eq_self, true_or, or_true, px_av_0, px_av_1, px_av_2, px_av_10, px_av_11, bn, wi_1, wi_2, wl_1, wl_21, wl_22, wr_1, wr_21, wr_22, Sum.elim_inl, Sum.elim_inr, ↓reduceIte, Nat.reduceLT, Nat.reduceLeDiff, not_false_eq_true, not_true_eq_false, Nat.reduceEqDiff, Nat.reduceAdd, reduceCtorEq, and_true, true_and, and_false, false_and, false_or, or_false]
    · unfold f_28 f_28_19
      generalize px_wi τ 0 0 (nI 0) = ζ at hT hJ hRm t3 ⊢
      simp only [la_0, t3, l1, wi, gd_tt, oA_arr, px_obj_s, Option.bind_some, Option.map_some, Option.bind_none, eq_self, true_or, or_true, px_av_0, px_av_1, px_av_2, px_av_10, px_av_11, bn, wi_1, wi_2, wl_1, wl_21, wl_22, wr_1, wr_21, wr_22, Sum.elim_inl, Sum.elim_inr, ↓reduceIte, Nat.reduceLT, Nat.reduceLeDiff, not_false_eq_true, not_true_eq_false, Nat.reduceEqDiff, Nat.reduceAdd, reduceCtorEq, and_true, true_and, and_false, false_and, false_or, or_false]
end
