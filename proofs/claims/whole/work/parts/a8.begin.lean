/-! two readers: how they begin -/
section
variable {σ0 τ0 σ τ : px_M} {b pl bh κ v : Nat → Nat} {e K k n nr m ln : Nat} {B S C : Nat → Nat} {ts us : List Bool}
def CL (l j : Nat) : Bool := decide (140 ≤ l) && decide (l < 147) && !(l == 140 && j == 4) && !(l == 144 && j == 0)
def zro (_ : Nat) : Nat := 0
theorem wf_zro : wf 0 zro := ⟨by omega, fun _ => Nat.two_pow_pos _, fun _ _ => rfl, fun _ _ => by simp [zro], fun _ => by simp [zro]⟩
theorem c_clear (hR : cR σ.2.2) : ∃ υ, f_1003 tT σ 140 = some υ ∧ fr CL σ υ ∧ ct υ 141 0 zro ∧ υ.1 143 0 = nI 0 ∧ υ.1 143 4 = nI 0 ∧ (∀ r, r < 6 → υ.1 145 r = nI 0) ∧ υ.1 140 2 = nI 0 ∧ υ.1 140 3 = nI 0 := by
  obtain ⟨υ1, q1, q2, q3⟩ := c_fill (σ := px_wi σ 141 0 (nI 0)) la_142 (by omega)
  have hR1 : cR υ1.2.2 := cR_fr q2 hR
  obtain ⟨υ2, r1, r2, r3⟩ := c_fill (σ := px_wi (px_wi υ1 143 0 (nI 0)) 143 4 (nI 0)) la_145 (by omega)
  have hR2 : cR υ2.2.2 := cR_fr r2 hR1
  have o2 : ∀ l j, l ≠ 145 → υ2.1 l j = (px_wi (px_wi υ1 143 0 (nI 0)) 143 4 (nI 0)).1 l j := fun l j h => r2.1 l j (by simp [on, h])
  have o1 : ∀ l j, l ≠ 142 → υ1.1 l j = (px_wi σ 141 0 (nI 0)).1 l j := fun l j h => q2.1 l j (by simp [on, h])
  have oz : ∀ l j, l ≠ 140 → (px_wi (px_wi υ2 140 2 (nI 0)) 140 3 (nI 0)).1 l j = υ2.1 l j := fun l j h => by rw [wi_n h, wi_n h]
  refine ⟨px_wi (px_wi υ2 140 2 (nI 0)) 140 3 (nI 0), ?_, ?_, ⟨la_141, la_142, rc_141_1 hR2, wf_zro, ?_, fun h hh => ?_⟩, ?_, ?_, fun r hr => ?_, ?_, wi_s _ _ _ _⟩
  · have e1 : f_11008 tT σ 141 = some υ1 := by
      unfold f_11008
      simp only [la_141, wi_2, rc_141_1 hR, q1, gd_tt, oA_arr, px_obj_s, Option.bind_some, Option.map_some, Option.bind_none, eq_self, true_or, or_true, px_av_0, px_av_1, px_av_2, px_av_10, px_av_11, bn, wi_1, wi_2, wl_1, wl_21, wl_22, wr_1, wr_21, wr_22, Sum.elim_inl, Sum.elim_inr, ↓reduceIte, Nat.reduceLT, Nat.reduceLeDiff, not_false_eq_true, not_true_eq_false, Nat.reduceEqDiff, Nat.reduceAdd, reduceCtorEq, and_true, true_and, and_false, false_and, false_or, or_false]
    have e2 : f_10002 tT υ1 143 = some υ2 := by
      unfold f_10002
      simp only [la_143, wi_2, rc_143_2 hR1, r1, gd_tt, oA_arr, px_obj_s, Option.bind_some, Option.map_some, Option.bind_none, eq_self, true_or, or_true, px_av_0, px_av_1, px_av_2, px_av_10, px_av_11, bn, wi_1, wi_2, wl_1, wl_21, wl_22, wr_1, wr_21, wr_22, Sum.elim_inl, Sum.elim_inr, ↓reduceIte, Nat.reduceLT, Nat.reduceLeDiff, not_false_eq_true, not_true_eq_false, Nat.reduceEqDiff, Nat.reduceAdd, reduceCtorEq, and_true, true_and, and_false, false_and, false_or, or_false]
    unfold f_1003
    simp only [la_140, la_141, la_143, rc_140_0 hR, rc_140_1 hR1, e1, e2, gd_tt, oA_arr, px_obj_s, Option.bind_some, Option.map_some, Option.bind_none, eq_self, true_or, or_true, px_av_0, px_av_1, px_av_2, px_av_10, px_av_11, bn, wi_1, wi_2, wl_1, wl_21, wl_22, wr_1, wr_21, wr_22, Sum.elim_inl, Sum.elim_inr, ↓reduceIte, Nat.reduceLT, Nat.reduceLeDiff, not_false_eq_true, not_true_eq_false, Nat.reduceEqDiff, Nat.reduceAdd, reduceCtorEq, and_true, true_and, and_false, false_and, false_or, or_false]
  · have g1 : fr CL σ υ1 := fr_tr (fr_wi (fr_rf _ _) _ rfl) (fr_mono q2 (fun l j h => by
      simp only [on, beq_eq_false_iff_ne]
      intro z; subst z; simp [CL] at h))
    have g2 : fr CL υ1 υ2 := fr_tr (fr_wi (fr_wi (fr_rf _ _) _ rfl) _ rfl) (fr_mono r2 (fun l j h => by
      simp only [on, beq_eq_false_iff_ne]
      intro z; subst z; simp [CL] at h))
    exact fr_wi (fr_wi (fr_tr g1 g2) _ rfl) _ rfl
  · rw [oz _ _ (by decide), o2 _ _ (by decide), wi_n (by decide), wi_n (by decide), o1 _ _ (by decide)]; exact wi_s _ _ _ _
  · rw [oz _ _ (by decide), o2 _ _ (by decide), wi_n (by decide), wi_n (by decide)]; exact q3 h hh
  · rw [oz _ _ (by decide), o2 _ _ (by decide)]
    show px_up (px_wi υ1 143 0 (nI 0)).1 143 4 (nI 0) 143 0 = _
    rw [up_s, if_neg (by decide)]; exact wi_s _ _ _ _
  · rw [oz _ _ (by decide), o2 _ _ (by decide)]; exact wi_s _ _ _ _
  · rw [oz _ _ (by decide)]; exact r3 r hr
  · show px_up (px_wi υ2 140 2 (nI 0)).1 140 3 (nI 0) 140 2 = _
    rw [up_s, if_neg (by decide)]; exact wi_s _ _ _ _
theorem e_clear4 (hR : mR τ.2.2) : ∃ υ, f_28_44 tT 0 (nI 0) τ = ((f_9 tT υ 0).bind fun q => f_28_68 tT 0 q) ∧ fr (on 4) τ υ ∧ ∀ j, j < 1072 → υ.1 4 j = nI 0 := by
  have key : ∀ y i ρ, i + y = 1072 → fr (on 4) τ ρ → (∀ j, j < i → ρ.1 4 j = nI 0) → ∃ υ, lpO (fun s : Int32 × px_M => F_28_44 tT 0 s.1 s.2) (nI i, ρ) = ((f_9 tT υ 0).bind fun q => f_28_68 tT 0 q) ∧ fr (on 4) τ υ ∧ ∀ j, j < 1072 → υ.1 4 j = nI 0 := by
    intro y
    induction y with
    | zero =>
      intro i ρ hi hf hz
      have hi2 : i = 1072 := by omega
      subst hi2
      refine ⟨ρ, ?_, hf, hz⟩
      have a1 : nI 1072 ≤ nI 1072 := by decide
      rw [lpO_eq]
      dsimp only
      unfold F_28_44
      simp only [a1, la_0, gd_tt, px_obj_s, eq_self, ↓reduceIte]
      cases f_9 tT ρ 0 with
      | none => rfl
      | some q =>
        show _ = f_28_68 tT 0 q
        cases h : f_28_68 tT 0 q with
        | none => simp only [Option.bind_some, h, Option.map_none]; rfl
        | some r => simp only [Option.bind_some, h, Option.map_some]; rfl
    | succ y ih =>
      intro i ρ hi hf hz
      have hRρ := mR_fr hf hR
      have a1 : ¬ nI 1072 ≤ nI i := by rw [nI_leI (by omega) (by omega)]; omega
      have c1 : vp_in (nI i) 1072 := (vp_in_eq (by omega)).mpr (by omega)
      have c2 : (nI i).toNatClampNeg = i := nI_clamp (by omega)
      rw [lp_next (a' := (nI (i + 1), px_wi ρ 4 i (nI 0))) (by
        dsimp only
        unfold F_28_44
        simp only [a1, la_0, la_4, rm_0_4 hRρ, c1, c2, nI_add, gd_tt, oA_arr, px_obj_s, Option.bind_some, Option.map_some, Option.bind_none, eq_self, true_or, or_true, px_av_0, px_av_1, px_av_2, px_av_10, px_av_11, bn, wi_1, wi_2, wl_1, wl_21, wl_22, wr_1, wr_21, wr_22, Sum.elim_inl, Sum.elim_inr, ↓reduceIte, Nat.reduceLT, Nat.reduceLeDiff, not_false_eq_true, not_true_eq_false, Nat.reduceEqDiff, Nat.reduceAdd, reduceCtorEq, and_true, true_and, and_false, false_and, false_or, or_false])]
      refine ih (i + 1) _ (by omega) (fr_wi hf _ (on_t _ _)) (fun j hj => ?_)
      show px_up ρ.1 4 i _ 4 j = _
      rw [up_s]
      by_cases q : j = i
      · rw [if_pos q]
      · rw [if_neg q]; exact hz j (by omega)
  exact key 1072 0 τ (by omega) (fr_rf _ _) (fun j hj => by omega)
def CT (l j : Nat) : Bool := CF l j || TK l j || (l == 150 && (j == 0 || j == 7))
def MT (l j : Nat) : Bool := MF l j || (l == 0 && (j == 5 || j == 8))
theorem j_read (hR : cR σ.2.2) (hRm : mR τ.2.2) (he : e ≤ 900) (hb : ∀ i, i < 900 → σ.1 151 i = sb (b i)) (hb2 : ∀ i, i < 900 → τ.1 3 i = nI (b i)) (hb3 : ∀ i, b i < 256) (h144 : σ.1 144 0 = nI 0) : ∃ σ0 τ0 K pl bh κ v σ' τ', f_9004 tT σ 150 (nI e) = some σ' ∧ f_28_22 tT τ 0 (nI e) = f_28_176 tT τ' 0 ∧ cx σ0 τ0 b e K pl bh κ v ∧ (fr CT σ σ0 ∧ fr MT τ τ0) ∧ (σ0.1 150 2 = -1 ∧ σ0.1 150 0 = nI 0 ∧ τ0.1 0 5 = nI 0) ∧ rdo σ0 τ0 K pl bh κ v σ' τ' := by
  -- the class
  have a0 : ¬ nI e < nI 0 := by rw [nI_ltI (by omega) (by omega)]; omega
  have a9 : ¬ nI 900 < nI e := by rw [nI_ltI (by omega) (by omega)]; omega
  obtain ⟨ω, hω⟩ : ∃ ω, ω = px_wi (px_wi (px_wi (px_wi σ 150 7 (nI e)) 150 0 (nI 0)) 150 1 (nI 0)) 150 2 (-1) := ⟨_, rfl⟩
  have fω : fr CT σ ω := by rw [hω]; exact fr_wi (fr_wi (fr_wi (fr_wi (fr_rf _ _) _ rfl) _ rfl) _ rfl) _ rfl
  have ω7 : ω.1 150 7 = nI e := by
    rw [hω]
    show px_up (px_up (px_up (px_up σ.1 150 7 (nI e)) 150 0 (nI 0)) 150 1 (nI 0)) 150 2 (-1) 150 7 = _
    rw [up_s, if_neg (by decide), up_s, if_neg (by decide), up_s, if_neg (by decide), up_s, if_pos rfl]
  have ω0 : ω.1 150 0 = nI 0 := by
    rw [hω]
    show px_up (px_up (px_up (px_up σ.1 150 7 (nI e)) 150 0 (nI 0)) 150 1 (nI 0)) 150 2 (-1) 150 0 = _
    rw [up_s, if_neg (by decide), up_s, if_neg (by decide), up_s, if_pos rfl]
  have ω1 : ω.1 150 1 = nI 0 := by
    rw [hω]
    show px_up (px_up (px_up (px_up σ.1 150 7 (nI e)) 150 0 (nI 0)) 150 1 (nI 0)) 150 2 (-1) 150 1 = _
    rw [up_s, if_neg (by decide), up_s, if_pos rfl]
  have ω2 : ω.1 150 2 = -1 := by rw [hω]; exact wi_s _ _ _ _
  have oω : ∀ l j, l ≠ 150 → ω.1 l j = σ.1 l j := fun l j h => by rw [hω, wi_n h, wi_n h, wi_n h, wi_n h]
  have hRω : cR ω.2.2 := cR_fr fω hR
  obtain ⟨υ, y1, y2, y3, y4, y5, y6, y7, y8⟩ := c_clear hRω
  have hRυ : cR υ.2.2 := cR_fr y2 hRω

  have tpu : ∀ i, i < 900 → υ.1 151 i = sb (b i) := fun i hi => by rw [y2.1 151 i rfl, oω _ _ (by decide)]; exact hb i hi
  have t7 : υ.1 150 7 = nI e := by rw [y2.1 150 7 rfl]; exact ω7
  have t0 : υ.1 150 0 = nI 0 := by rw [y2.1 150 0 rfl]; exact ω0
  obtain ⟨ρ, K, pl, bh, κ, v, z1, z2, z3, z4⟩ := k_find (σ := υ) (b := b) (e := e) ⟨hRυ, t7, he, tpu, hb3⟩
  have hRρ : cR ρ.2.2 := cR_fr z2 hRυ
  -- the model
  obtain ⟨ψ, hψ⟩ : ∃ ψ, ψ = px_wi (px_wi (px_wi (px_wi τ 0 8 (nI e)) 0 5 (nI 0)) 0 7 (nI 0)) 0 11 (nI 0) := ⟨_, rfl⟩
  have fψ : fr MT τ ψ := by rw [hψ]; exact fr_wi (fr_wi (fr_wi (fr_wi (fr_rf _ _) _ rfl) _ rfl) _ rfl) _ rfl
  have ψ8 : ψ.1 0 8 = nI e := by
    rw [hψ, w_o (by decide), w_o (by decide), w_o (by decide)]; exact wi_s _ _ _ _
  have ψ5 : ψ.1 0 5 = nI 0 := by rw [hψ, w_o (by decide), w_o (by decide)]; exact wi_s _ _ _ _
  have ψ7 : ψ.1 0 7 = nI 0 := by rw [hψ, w_o (by decide)]; exact wi_s _ _ _ _
  have ψ11 : ψ.1 0 11 = nI 0 := by rw [hψ]; exact wi_s _ _ _ _
  have oψ : ∀ l j, l ≠ 0 → ψ.1 l j = τ.1 l j := fun l j h => by rw [hψ, wi_n h, wi_n h, wi_n h, wi_n h]
  have hRψ : mR ψ.2.2 := mR_fr fψ hRm
  obtain ⟨φ, u1, u2, u3⟩ := e_clear4 hRψ
  have hRφ : mR φ.2.2 := mR_fr u2 hRψ
  have oφ : ∀ l j, l ≠ 4 → φ.1 l j = ψ.1 l j := fun l j h => u2.1 l j (by simp [on, h])
  have htp : tp φ b e := ⟨hRφ, by rw [oφ _ _ (by decide)]; exact ψ8, he, fun i hi => by rw [oφ _ _ (by decide), oψ _ _ (by decide)]; exact hb2 i hi, hb3⟩
  obtain ⟨s, q, κ', v', φ2, w1, w2, w3, w4, w5, w6, w7⟩ := e_token htp (p := 0) (by rw [oφ _ _ (by decide)]; exact ψ7) (by omega)
  have hch := z3
  obtain ⟨g1, g2, g3, g4, g5⟩ := z3
  have h0 := g3 0 (by omega)
  rw [g1] at h0
  obtain ⟨r1, r2, r3, r4⟩ := tkn_u w2 h0
  subst r1 r2 r3 r4
  have hx : cx ρ φ b e K pl bh κ v := ⟨hRρ, htp, hch, z4⟩
  -- the first token, in both
  have tk0 := (z4 0 (by omega)).2
  obtain ⟨χ, hχ⟩ : ∃ χ, χ = px_wi (px_wi ρ 150 8 (nI 0)) 150 9 (nI (tcd (κ 0) (v 0))) := ⟨_, rfl⟩
  have fχ : fr CG ρ χ := by rw [hχ]; exact fr_wi (fr_wi (fr_rf _ _) _ rfl) _ rfl
  have oχ : ∀ l j, l ≠ 150 → χ.1 l j = ρ.1 l j := fun l j h => by rw [hχ, wi_n h, wi_n h]
  have oρ : ∀ l j, l ≠ 152 → l ≠ 153 → ρ.1 l j = υ.1 l j := fun l j h1 h2 => z2.1 l j (by simp [TK, h1, h2])
  have uo : ∀ j, υ.1 150 j = ω.1 150 j := fun j => y2.1 150 j rfl
  have fχ' : fr (on 150) ρ χ := by rw [hχ]; exact fr_wi (fr_wi (fr_rf _ _) _ rfl) _ rfl
  have hex : ex ρ φ K pl bh κ v 0 zro 0 zro 0 χ φ2 0 zro (zro 0) [] := by
    refine ⟨⟨⟨fχ, fr_mono w3 MF_NX⟩, by omega, ⟨?_, ?_, ?_⟩, w4, w5, w6, w7, ?_⟩, ⟨?_, ?_, fun r hr => ?_, fun r hr => absurd hr (by omega), fun hr => ?_, fun r h1 h2 => ?_, fun i hi => absurd hi (by show ¬ i < 0; omega), ?_, ?_, ?_⟩, ⟨?_, fun g hg => ?_, ?_, fun r hr => absurd hr (by omega), ?_, fun i hi => absurd hi (by show ¬ i < 0; omega), ?_, ?_⟩, ⟨by omega, rfl, fun r hr => absurd hr (by omega), by show (0:Nat) ≤ 900; omega, fun r hr => absurd hr (by omega)⟩, Nat.le_refl _, by show (0:Nat) ≤ 900; omega, ?_⟩
    · rw [hχ]
      show px_up (px_wi ρ 150 8 (nI 0)).1 150 9 (nI (tcd (κ 0) (v 0))) 150 8 = _
      rw [up_s, if_neg (by decide)]; exact wi_s _ _ _ _
    · rw [hχ]; exact wi_s _ _ _ _
    · rw [hχ]
      show px_up (px_up ρ.1 150 8 (nI 0)) 150 9 (nI (tcd (κ 0) (v 0))) 150 1 = _
      rw [up_s, if_neg (by decide), up_s, if_neg (by decide), oρ _ _ (by decide) (by decide), uo 1]; exact ω1
    · rw [w3.1 0 11 rfl, oφ _ _ (by decide)]; exact ψ11
    · exact ct_fr fχ' (fun _ => rfl) (fun _ => rfl) (ct_fr z2 (fun _ => rfl) (fun _ => rfl) y3)
    · rw [oχ _ _ (by decide), oρ _ _ (by decide) (by decide)]; exact y4
    · have : r = 0 := by omega
      subst this
      rw [oχ _ _ (by decide), oρ _ _ (by decide) (by decide), y2.1 144 0 rfl, oω _ _ (by decide)]; exact h144
    · rw [oχ _ _ (by decide), oρ _ _ (by decide) (by decide)]; exact y6 0 (by omega)
    · rw [oχ _ _ (by decide), oρ _ _ (by decide) (by decide)]; exact y6 r h2
    · rw [oχ _ _ (by decide), oρ _ _ (by decide) (by decide)]; exact y5
    · rw [oχ _ _ (by decide), oρ _ _ (by decide) (by decide)]; exact y7
    · rw [oχ _ _ (by decide), oρ _ _ (by decide) (by decide)]; exact y8
    · rw [w3.1 4 1 rfl]; exact u3 1 (by omega)
    · rw [w3.1 4 (2 + g) rfl]; exact u3 (2 + g) (by omega)
    · rw [w3.1 4 158 rfl]; exact u3 158 (by omega)
    · rw [w3.1 4 171 rfl]; exact u3 171 (by omega)
    · rw [w3.1 4 0 rfl]; exact u3 0 (by omega)
    · rw [w3.1 4 13 rfl]; exact u3 13 (by omega)
    · exact tR_0 _
  obtain ⟨σ', τ', v1, v2, v3⟩ := j_lines hx K 0 χ φ2 0 0 zro 0 zro zro 0 (by omega) hex (by omega) (Nat.le_refl _)
  refine ⟨ρ, φ, K, pl, bh, κ, v, σ', τ', ?_, ?_, hx, ⟨?_, ?_⟩, ⟨?_, ?_, ?_⟩, v3⟩
  · have e1 : f_9004_25 tT (px_wi (px_wi (px_wi σ 150 7 (nI e)) 150 0 (nI 0)) 150 1 (nI 0)) 150 = some σ' := by
      have c1 : vp_in (nI 0) 901 := (vp_in_eq (by omega)).mpr (by omega)
      have c2 : (nI 0).toNatClampNeg = 0 := nI_clamp (by omega)
      have x1 : (px_wi ρ 150 8 (nI 0)).1 152 0 = nI (tcd (κ 0) (v 0)) := by rw [wi_n (by decide)]; exact tk0
      have x2 : (px_wi ρ 150 8 (nI 0)).2.2 150 5 = some 152 := rc_150_5 hRρ
      unfold f_9004_25
      rw [← hω]
      simp only [la_150, la_140, rc_150_3 hRω, y1, z1, gd_tt, px_obj_s, Option.bind_some, eq_self, ↓reduceIte]
      generalize hχ8 : px_wi ρ 150 8 (nI 0) = χ8 at x1 x2
      simp only [x2, la_152, c1, c2, x1, gd_tt, oA_arr, Option.bind_some, eq_self, true_or, px_av_0, ↓reduceIte]
      rw [← hχ8, ← hχ]
      unfold f_9004_56 f_9004_58
      exact v1
    unfold f_9004
    simp only [la_150, a0, a9, gd_tt, px_obj_s, eq_self, ↓reduceIte]
    exact e1
  · unfold f_28_22
    rw [← hψ]
    simp only [la_0, gd_tt, px_obj_s, eq_self, ↓reduceIte]
    rw [u1, w1]
    show f_28_68 tT 0 φ2 = _
    unfold f_28_68
    exact v2
  · exact fr_tr fω (fr_tr (fr_mono y2 (fun l j h => by simp only [CT, CF, CG, Bool.or_eq_false_iff] at h; exact h.1.1.1.1)) (fr_mono z2 (fun l j h => by simp only [CT, Bool.or_eq_false_iff] at h; exact h.1.2)))
  · exact fr_tr fψ (fr_mono u2 (fun l j h => by
      simp only [on, beq_eq_false_iff_ne]
      intro z; subst z; simp [MT, MF] at h))
  · rw [oρ _ _ (by decide) (by decide), uo 2]; exact ω2
  · rw [oρ _ _ (by decide) (by decide)]; exact t0
  · rw [oφ _ _ (by decide)]; exact ψ5
end
