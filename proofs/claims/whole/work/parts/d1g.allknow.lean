/-! telling: the helper's search -/
theorem ush_all : ∀ a, a < 64 → ∀ b, b < 32 → ∀ j, j < 11 → ((nI (32 * a + b)).toUInt32 >>> ((nI j).toUInt32 &&& Int32.toUInt32 31)).toInt32 = nI ((32 * a + b) / 2 ^ j) := by decide +kernel
theorem ush_n {s j : Nat} (hs : s < 2048) (hj : j < 11) : ((nI s).toUInt32 >>> ((nI j).toUInt32 &&& Int32.toUInt32 31)).toInt32 = nI (s / 2 ^ j) := by
  have h := ush_all (s / 32) (by omega) (s % 32) (by omega) j hj
  rw [show 32 * (s / 32) + s % 32 = s by omega] at h
  exact h
theorem ush_0 {s j : Nat} (hs : s < 2048) (hj : j < 11) : (((nI s).toUInt32 >>> ((nI j).toUInt32 &&& Int32.toUInt32 31)).toInt32 = nI 0) ↔ s < 2 ^ j := by
  have hp : 0 < 2 ^ j := Nat.two_pow_pos j
  have hd : s / 2 ^ j ≤ s := Nat.div_le_self _ _
  rw [ush_n hs hj, nI_eq (by omega) (by omega), Nat.div_eq_zero_iff]
  omega
section
variable {σ τ : px_M} {n g : Nat} {B : Nat → Nat}
/-- in so many rounds not all can know -/
def lst (σ : px_M) (n : Nat) (B : Nat → Nat) : Prop := ∀ k, k < 2 ^ n → ∃ v, v ≤ 11 ∧ σ.1 183 k = nI v ∧ (0 < v → ¬ kno n B (rc B n 11 k) v k)
def akn (n : Nat) (B : Nat → Nat) (g r : Nat) : Prop := ∀ (d : Nat) (σ : px_M) (s : Nat), 13 * r + 2 ≤ d → gsA σ n B g → lst σ n B → vkn n B g s → ∃ b σ', f_4005 tT d σ 180 (nI s) (nI r) = some (mb b, σ') ∧ fr (on 183) σ σ' ∧ lst σ' n B ∧ (b = true ↔ kno n B g r s)
/-- a set that begins with told, in order -/
def nrt (B : Nat → Nat) (s T told : Nat) : Prop := sbs told T ∧ (∀ x y, T.testBit x = true → told.testBit x = false → told.testBit y = true → y < x) ∧ ∀ h e, T.testBit h = true → told.testBit h = false → (eld B h h).testBit e = true → s.testBit e = true ∨ T.testBit e = true
def trg (n : Nat) (B : Nat → Nat) (g r s told left T : Nat) : Prop := tld n B s T ∧ kno n B g r (s ||| T) ∧ bc 11 T = bc 11 told + left ∧ nrt B s T told
theorem trg_up {r s told left T j : Nat} (hw : wf n B) (hj : j < n) (h : trg n B g r s told (left + 1) T) (hjT : T.testBit j = true) (hjt : told.testBit j = false) (hlow : ∀ x, T.testBit x = true → told.testBit x = false → j ≤ x) : trg n B g r s (told ||| 2 ^ j) left T := by
  have hn := hw.1
  obtain ⟨h1, h2, h3, h4, h5, h6⟩ := h
  have sp : ∀ x, (told ||| 2 ^ j).testBit x = false → told.testBit x = false ∧ x ≠ j := fun x hx => by
    rw [Nat.testBit_or, Bool.or_eq_false_iff, Nat.testBit_two_pow, decide_eq_false_iff_not] at hx
    exact ⟨hx.1, Ne.symm hx.2⟩
  refine ⟨h1, h2, by rw [bc_one (by omega) hjt]; omega, sbs_or h4 (sbs_pw hjT), fun x y hx hx2 hy => ?_, fun h e hh hh2 he => h6 h e hh (sp h hh2).1 he⟩
  obtain ⟨q1, q2⟩ := sp x hx2
  rw [Nat.testBit_or, Bool.or_eq_true, Nat.testBit_two_pow, decide_eq_true_eq] at hy
  rcases hy with hy | hy
  · exact h5 x y hx q1 hy
  · have := hlow x hx q1
    omega
theorem c_tell (hw : wf n B) (hg : gcl n B g) {r s : Nat} (hr : r + 1 ≤ 10) (ihr : akn n B g r) (hv : vkn n B g s) : ∀ (left told d : Nat) (σ : px_M), left + 1 + (13 * r + 2) ≤ d → gsA σ n B g → lst σ n B → tld n B s told → 1 ≤ bc 11 told + left → left ≤ 11 → ∃ b σ', f_4007 tT d σ 180 (nI s) (nI told) (nI left) (nI (r + 1)) = some (mb b, σ') ∧ fr (on 183) σ σ' ∧ lst σ' n B ∧ (b = true → kno n B g (r + 1) s) ∧ ∀ T, trg n B g r s told left T → b = true := by
  have hn := hw.1
  have hsl := lt_2048 hn hv.1
  intro left
  induction left with
  | zero =>
    intro told d σ hd hgs hls ht hpos _
    obtain ⟨d, rfl⟩ : ∃ d', d = d' + 1 := ⟨d - 1, by omega⟩
    have htl := lt_2048 hn ht.1
    have a0 : ¬ nI 0 < nI 0 := by rw [nI_ltI (by omega) (by omega)]; omega
    have a1 : ¬ nI told = nI 0 := by
      rw [nI_eq (by omega) (by omega)]
      intro e
      rw [e, bc_0] at hpos
      omega
    have a2 : ¬ nI (r + 1) ≤ nI 0 := by rw [nI_leI (by omega) (by omega)]; omega
    have a3 : nI (r + 1) - nI 1 = nI r := by rw [ni_subL (by omega)]; rfl
    obtain ⟨b, σ', y1, y2, y3, y4⟩ := ihr d σ (s ||| told) (by omega) hgs hls (vkn_tld hw hg hv ht)
    refine ⟨b, σ', ?_, y2, y3, fun q => ⟨told, ht, y4.mp q⟩, fun T hT => ?_⟩
    · rw [f_4007_S]
      unfold F_4007 f_4007_31
      cases b with
      | true =>
        rw [mb_t1] at y1 ⊢
        simp only [a0, a1, a2, a3, la_180, fa_or, y1, n10, gd_tt, oA_arr, px_obj_s, Option.bind_some, Option.map_some, Option.bind_none, eq_self, true_or, or_true, px_av_0, px_av_1, px_av_2, px_av_10, px_av_11, bn, wi_1, wi_2, wl_1, wl_21, wl_22, wr_1, wr_21, wr_22, Sum.elim_inl, Sum.elim_inr, ↓reduceIte, Nat.reduceLT, Nat.reduceLeDiff, not_false_eq_true, not_true_eq_false, Nat.reduceEqDiff, Nat.reduceAdd, reduceCtorEq, and_true, true_and, and_false, false_and, false_or, or_false]
      | false =>
        rw [mb_f0] at y1 ⊢
        simp only [a0, a1, a2, a3, la_180, fa_or, y1, gd_tt, oA_arr, px_obj_s, Option.bind_some, Option.map_some, Option.bind_none, eq_self, true_or, or_true, px_av_0, px_av_1, px_av_2, px_av_10, px_av_11, bn, wi_1, wi_2, wl_1, wl_21, wl_22, wr_1, wr_21, wr_22, Sum.elim_inl, Sum.elim_inr, ↓reduceIte, Nat.reduceLT, Nat.reduceLeDiff, not_false_eq_true, not_true_eq_false, Nat.reduceEqDiff, Nat.reduceAdd, reduceCtorEq, and_true, true_and, and_false, false_and, false_or, or_false]
    · obtain ⟨t1, t2, t3, t4, -, -⟩ := hT
      have e : told = T := sbs_full t4 (lt_2048 hn t1.1) (by omega)
      rw [← e] at t2
      exact y4.mpr t2
  | succ left ih =>
    intro told d σ hd hgs hls ht hpos hle
    obtain ⟨d, rfl⟩ : ∃ d', d = d' + 1 := ⟨d - 1, by omega⟩
    have htl := lt_2048 hn ht.1
    have a0 : nI 0 < nI (left + 1) := by rw [nI_ltI (by omega) (by omega)]; omega
    have a3 : nI (left + 1) - nI 1 = nI left := by rw [ni_subL (by omega)]; rfl
    have lp : ∃ b, f_4007_36 tT (f_4005 tT d) (f_4007 tT d) 180 (nI s) (nI told) (nI (left + 1)) (nI (r + 1)) (nI 0) σ = some b ∧ ∃ p σ', b = (mb p, σ') ∧ fr (on 183) σ σ' ∧ lst σ' n B ∧ (p = true → kno n B g (r + 1) s) ∧ ∀ T, trg n B g r s told (left + 1) T → p = true := by
      unfold f_4007_36
      refine lp_rel (F := fun q : Int32 × px_M => F_4007_36 tT (f_4005 tT d) (f_4007 tT d) 180 (nI s) (nI told) (nI (left + 1)) (nI (r + 1)) q.1 q.2) (fun j q => ∃ ρ, q = (nI j, ρ) ∧ fr (on 183) σ ρ ∧ lst ρ n B ∧ ∀ T, trg n B g r s told (left + 1) T → ∀ x, T.testBit x = true → told.testBit x = false → j ≤ x) _ n (fun j q hj hI => ?_) 0 (nI 0, σ) (by omega) ⟨σ, rfl, fr_rf _ _, hls, fun _ _ _ _ _ => by omega⟩
      obtain ⟨ρ, rfl, g1, g2, g3⟩ := hI
      have hgρ := gsA_fr g1 hgs
      obtain ⟨hRρ, p2, p3, p4, p5, p6⟩ := id hgρ
      have l1 := p3.1
      have e1 := p3.2.2.2.2.1
      by_cases hjn : j = n
      · have b1 : nI n ≤ nI j := by rw [nI_leI (by omega) (by omega)]; omega
        refine Or.inr ⟨(nI 0, ρ), ?_, false, ρ, rfl, g1, g2, fun q => (by cases q), fun T hT => ?_⟩
        · dsimp only
          unfold F_4007_36
          simp only [la_180, p2, l1, e1, b1, gd_tt, oA_arr, px_obj_s, Option.bind_some, Option.map_some, Option.bind_none, eq_self, true_or, or_true, px_av_0, px_av_1, px_av_2, px_av_10, px_av_11, bn, wi_1, wi_2, wl_1, wl_21, wl_22, wr_1, wr_21, wr_22, Sum.elim_inl, Sum.elim_inr, ↓reduceIte, Nat.reduceLT, Nat.reduceLeDiff, not_false_eq_true, not_true_eq_false, Nat.reduceEqDiff, Nat.reduceAdd, reduceCtorEq, and_true, true_and, and_false, false_and, false_or, or_false]
        · exfalso
          have hx : ∃ x, T.testBit x = true ∧ told.testBit x = false := by
            apply Classical.byContradiction
            intro hno
            have hsub : sbs T told := fun x hx => by
              cases q : told.testBit x with
              | true => rfl
              | false => exact absurd ⟨x, hx, q⟩ hno
            have h1 := sbs_bc hsub
            have h2 := hT.2.2.1
            omega
          obtain ⟨x, x1, x2⟩ := hx
          have h1 := g3 T hT x x1 x2
          have h2 := tb_lt hT.1.1 x1
          omega
      · have hjn' : j < n := by omega
        have b1 : ¬ nI n ≤ nI j := by rw [nI_leI (by omega) (by omega)]; omega
        have h1j := ni_1s (j := j) (by omega)
        have skip : (∀ T, trg n B g r s told (left + 1) T → T.testBit j = true → told.testBit j = false → False) → ∀ T, trg n B g r s told (left + 1) T → ∀ x, T.testBit x = true → told.testBit x = false → j + 1 ≤ x := fun z T hT x x1 x2 => by
          have h1 := g3 T hT x x1 x2
          by_cases e : x = j
          · subst e; exact absurd x2 (fun _ => z T hT x1 x2)
          · omega
        have ush := ush_0 (s := told) (j := j) htl (by omega)
        by_cases hu : told < 2 ^ j
        · have u' := ush.mpr hu
          have hjt : told.testBit j = false := Nat.testBit_lt_two_pow hu
          have hnx := c_isNext hgρ hjn' hv.1 ht.1
          cases hb : nxh n B j s told with
          | false =>
            rw [hb, mb_f0] at hnx
            refine Or.inl ⟨(nI (j + 1), ρ), ?_, by omega, ρ, rfl, g1, g2, skip (fun T hT hjT _ => ?_)⟩
            · dsimp only
              unfold F_4007_36 f_4007_101
              simp only [la_180, p2, l1, e1, b1, u', hnx, nI_add, gd_tt, oA_arr, px_obj_s, Option.bind_some, Option.map_some, Option.bind_none, eq_self, true_or, or_true, px_av_0, px_av_1, px_av_2, px_av_10, px_av_11, bn, wi_1, wi_2, wl_1, wl_21, wl_22, wr_1, wr_21, wr_22, Sum.elim_inl, Sum.elim_inr, ↓reduceIte, Nat.reduceLT, Nat.reduceLeDiff, not_false_eq_true, not_true_eq_false, Nat.reduceEqDiff, Nat.reduceAdd, reduceCtorEq, and_true, true_and, and_false, false_and, false_or, or_false]
            · have hz : nd (nd (eld B j j) s) told = 0 := sbs_eq (fun x hx => by
                exfalso
                have hel : eld B j j < 2048 := bs_lt (by omega)
                rw [nd_tb (nd_lt hel), nd_tb hel, Bool.and_eq_true, Bool.and_eq_true, Bool.not_eq_true', Bool.not_eq_true'] at hx
                obtain ⟨⟨q1, q2⟩, q3⟩ := hx
                rcases hT.2.2.2.2.2 j x hjT hjt q1 with z | z
                · rw [q2] at z; cases z
                · have h1 := g3 T hT x z q3
                  have h2 := (eld_tb hw q1).1
                  omega) (sbs_0 _)
              unfold nxh at hb
              rw [hT.1.2.1 j hjT, tld_ar hw hT.1 j hjT, decide_eq_true hz] at hb
              cases hb
          | true =>
            rw [hb, mb_t1] at hnx
            obtain ⟨b, c1, rfl⟩ := c_cbt hgρ hjn' hv.1 ht.1 ht.2.2
            cases hc : cbt n B j s told with
            | false =>
              rw [hc, mb_f0] at c1
              refine Or.inl ⟨(nI (j + 1), ρ), ?_, by omega, ρ, rfl, g1, g2, skip (fun T hT hjT _ => ?_)⟩
              · dsimp only
                unfold F_4007_36 f_4007_101
                simp only [la_180, p2, l1, e1, b1, u', hnx, n10, c1, nI_add, gd_tt, oA_arr, px_obj_s, Option.bind_some, Option.map_some, Option.bind_none, eq_self, true_or, or_true, px_av_0, px_av_1, px_av_2, px_av_10, px_av_11, bn, wi_1, wi_2, wl_1, wl_21, wl_22, wr_1, wr_21, wr_22, Sum.elim_inl, Sum.elim_inr, ↓reduceIte, Nat.reduceLT, Nat.reduceLeDiff, not_false_eq_true, not_true_eq_false, Nat.reduceEqDiff, Nat.reduceAdd, reduceCtorEq, and_true, true_and, and_false, false_and, false_or, or_false]
              · have := cbt_t.mpr (hll_sub hT.1.2.2 (sbs_or hT.2.2.2.1 (sbs_pw hjT)))
                rw [hc] at this
                cases this
            | true =>
              rw [hc, mb_t1] at c1
              have hsj : s.testBit j = false := by
                unfold nxh at hb
                rw [Bool.and_eq_true, Bool.and_eq_true, Bool.not_eq_true'] at hb
                exact hb.1.1
              have ht' : tld n B s (told ||| 2 ^ j) := ⟨or_ltn ht.1 (Nat.pow_lt_pow_right (by omega) hjn'), fun x hx => by
                rw [Nat.testBit_or, Bool.or_eq_true, Nat.testBit_two_pow, decide_eq_true_eq] at hx
                rcases hx with hx | hx
                · exact ht.2.1 x hx
                · rw [← hx]; exact hsj, cbt_t.mp hc⟩
              obtain ⟨p, υ, y1, y2, y3, y4, y5⟩ := ih (told ||| 2 ^ j) d ρ (by omega) hgρ g2 ht' (by rw [bc_one (by omega) hjt]; omega) (by omega)
              cases hp : p with
              | true =>
                rw [hp, mb_t1] at y1
                refine Or.inr ⟨(nI 1, υ), ?_, true, υ, rfl, fr_tr g1 y2, y3, fun _ => y4 hp, fun _ _ => rfl⟩
                dsimp only
                unfold F_4007_36 f_4007_80
                simp only [la_180, p2, l1, e1, b1, u', hnx, n10, c1, h1j, fa_or, a3, y1, gd_tt, oA_arr, px_obj_s, Option.bind_some, Option.map_some, Option.bind_none, eq_self, true_or, or_true, px_av_0, px_av_1, px_av_2, px_av_10, px_av_11, bn, wi_1, wi_2, wl_1, wl_21, wl_22, wr_1, wr_21, wr_22, Sum.elim_inl, Sum.elim_inr, ↓reduceIte, Nat.reduceLT, Nat.reduceLeDiff, not_false_eq_true, not_true_eq_false, Nat.reduceEqDiff, Nat.reduceAdd, reduceCtorEq, and_true, true_and, and_false, false_and, false_or, or_false]
              | false =>
                rw [hp, mb_f0] at y1
                refine Or.inl ⟨(nI (j + 1), υ), ?_, by omega, υ, rfl, fr_tr g1 y2, y3, skip (fun T hT hjT _ => ?_)⟩
                · dsimp only
                  unfold F_4007_36 f_4007_80 f_4007_101
                  simp only [la_180, p2, l1, e1, b1, u', hnx, n10, c1, h1j, fa_or, a3, y1, nI_add, gd_tt, oA_arr, px_obj_s, Option.bind_some, Option.map_some, Option.bind_none, eq_self, true_or, or_true, px_av_0, px_av_1, px_av_2, px_av_10, px_av_11, bn, wi_1, wi_2, wl_1, wl_21, wl_22, wr_1, wr_21, wr_22, Sum.elim_inl, Sum.elim_inr, ↓reduceIte, Nat.reduceLT, Nat.reduceLeDiff, not_false_eq_true, not_true_eq_false, Nat.reduceEqDiff, Nat.reduceAdd, reduceCtorEq, and_true, true_and, and_false, false_and, false_or, or_false]
                · have := y5 T (trg_up hw hjn' hT hjT hjt (g3 T hT))
                  rw [hp] at this
                  cases this
        · have u' : ¬ ((nI told).toUInt32 >>> ((nI j).toUInt32 &&& Int32.toUInt32 31)).toInt32 = nI 0 := fun q => hu (ush.mp q)
          refine Or.inl ⟨(nI (j + 1), ρ), ?_, by omega, ρ, rfl, g1, g2, skip (fun T hT hjT hjt => ?_)⟩
          · dsimp only
            unfold F_4007_36 f_4007_101
            simp only [la_180, p2, l1, e1, b1, u', nI_add, gd_tt, oA_arr, px_obj_s, Option.bind_some, Option.map_some, Option.bind_none, eq_self, true_or, or_true, px_av_0, px_av_1, px_av_2, px_av_10, px_av_11, bn, wi_1, wi_2, wl_1, wl_21, wl_22, wr_1, wr_21, wr_22, Sum.elim_inl, Sum.elim_inr, ↓reduceIte, Nat.reduceLT, Nat.reduceLeDiff, not_false_eq_true, not_true_eq_false, Nat.reduceEqDiff, Nat.reduceAdd, reduceCtorEq, and_true, true_and, and_false, false_and, false_or, or_false]
          · apply hu
            apply Nat.lt_pow_two_of_testBit
            intro i hi
            cases q : told.testBit i with
            | false => rfl
            | true =>
              have := hT.2.2.2.2.1 j i hjT hjt q
              omega
    obtain ⟨b, q1, p, σ', rfl, q2, q3, q4, q5⟩ := lp
    refine ⟨p, σ', ?_, q2, q3, q4, q5⟩
    rw [f_4007_S]
    unfold F_4007
    simp only [a0, q1, gd_tt, oA_arr, px_obj_s, Option.bind_some, Option.map_some, Option.bind_none, eq_self, true_or, or_true, px_av_0, px_av_1, px_av_2, px_av_10, px_av_11, bn, wi_1, wi_2, wl_1, wl_21, wl_22, wr_1, wr_21, wr_22, Sum.elim_inl, Sum.elim_inr, ↓reduceIte, Nat.reduceLT, Nat.reduceLeDiff, not_false_eq_true, not_true_eq_false, Nat.reduceEqDiff, Nat.reduceAdd, reduceCtorEq, and_true, true_and, and_false, false_and, false_or, or_false]
theorem c_akn (hw : wf n B) (hg : gcl n B g) : ∀ r, r ≤ 10 → akn n B g r := by
  have hn := hw.1
  have hgl := lt_2048 hn hg.1
  intro r
  induction r with
  | zero =>
    intro _ d σ s hd hgs hls hv
    obtain ⟨d, rfl⟩ : ∃ d', d = d' + 1 := ⟨d - 1, by omega⟩
    have hsl := lt_2048 hn hv.1
    obtain ⟨hR, g2, g3, g4, g5, g6⟩ := hgs
    by_cases e : s = g
    · have e' : (nI s = nI g) = True := eq_true (by rw [e])
      refine ⟨true, σ, ?_, fr_rf _ _, hls, fun _ => (by rw [e]; exact sbs_rf _), fun _ => rfl⟩
      rw [f_4005_S]
      unfold F_4005
      simp only [la_180, g6, e', gd_tt, oA_arr, px_obj_s, Option.bind_some, Option.map_some, Option.bind_none, eq_self, true_or, or_true, px_av_0, px_av_1, px_av_2, px_av_10, px_av_11, bn, wi_1, wi_2, wl_1, wl_21, wl_22, wr_1, wr_21, wr_22, Sum.elim_inl, Sum.elim_inr, ↓reduceIte, Nat.reduceLT, Nat.reduceLeDiff, not_false_eq_true, not_true_eq_false, Nat.reduceEqDiff, Nat.reduceAdd, reduceCtorEq, and_true, true_and, and_false, false_and, false_or, or_false]
      rfl
    · have e' : ¬ nI s = nI g := by rw [nI_eq (by omega) (by omega)]; exact e
      obtain ⟨v, v1, v2, v3⟩ := hls s hv.1
      have b1 : ¬ nI s < nI 0 := by rw [nI_ltI (by omega) (by omega)]; omega
      have b2 : ¬ nI 2048 ≤ nI s := by rw [nI_leI (by omega) (by omega)]; omega
      have c1 : vp_in (nI s) 2048 := (vp_in_eq (by omega)).mpr (by omega)
      have c2 : (nI s).toNatClampNeg = s := nI_clamp (by omega)
      have b3 : nI 0 ≤ nI v := by rw [nI_leI (by omega) (by omega)]; omega
      refine ⟨false, σ, ?_, fr_rf _ _, hls, fun q => (by cases q), fun q => absurd (sbs_eq (vkn_sub hv) q) e⟩
      rw [f_4005_S]
      unfold F_4005 f_4005_40
      simp only [la_180, la_183, rc_180_1 hR, g6, e', b1, b2, c1, c2, v2, b3, gd_tt, oA_arr, px_obj_s, Option.bind_some, Option.map_some, Option.bind_none, eq_self, true_or, or_true, px_av_0, px_av_1, px_av_2, px_av_10, px_av_11, bn, wi_1, wi_2, wl_1, wl_21, wl_22, wr_1, wr_21, wr_22, Sum.elim_inl, Sum.elim_inr, ↓reduceIte, Nat.reduceLT, Nat.reduceLeDiff, not_false_eq_true, not_true_eq_false, Nat.reduceEqDiff, Nat.reduceAdd, reduceCtorEq, and_true, true_and, and_false, false_and, false_or, or_false]
      rfl
  | succ r ih =>
    intro hr d σ s hd hgs hls hv
    obtain ⟨d, rfl⟩ : ∃ d', d = d' + 1 := ⟨d - 1, by omega⟩
    have hsl := lt_2048 hn hv.1
    obtain ⟨hR, g2, g3, g4, g5, g6⟩ := id hgs
    by_cases e : s = g
    · have e' : (nI s = nI g) = True := eq_true (by rw [e])
      refine ⟨true, σ, ?_, fr_rf _ _, hls, fun _ => kno_le (Nat.zero_le _) (show sbs g s by rw [e]; exact sbs_rf _), fun _ => rfl⟩
      rw [f_4005_S]
      unfold F_4005
      simp only [la_180, g6, e', gd_tt, oA_arr, px_obj_s, Option.bind_some, Option.map_some, Option.bind_none, eq_self, true_or, or_true, px_av_0, px_av_1, px_av_2, px_av_10, px_av_11, bn, wi_1, wi_2, wl_1, wl_21, wl_22, wr_1, wr_21, wr_22, Sum.elim_inl, Sum.elim_inr, ↓reduceIte, Nat.reduceLT, Nat.reduceLeDiff, not_false_eq_true, not_true_eq_false, Nat.reduceEqDiff, Nat.reduceAdd, reduceCtorEq, and_true, true_and, and_false, false_and, false_or, or_false]
      rfl
    · have e' : ¬ nI s = nI g := by rw [nI_eq (by omega) (by omega)]; exact e
      obtain ⟨v, v1, v2, v3⟩ := hls s hv.1
      rw [hv.2] at v3
      have b1 : ¬ nI s < nI 0 := by rw [nI_ltI (by omega) (by omega)]; omega
      have b2 : ¬ nI 2048 ≤ nI s := by rw [nI_leI (by omega) (by omega)]; omega
      have c1 : vp_in (nI s) 2048 := (vp_in_eq (by omega)).mpr (by omega)
      have c2 : (nI s).toNatClampNeg = s := nI_clamp (by omega)
      by_cases hlv : r + 1 ≤ v
      · have b3 : nI (r + 1) ≤ nI v := by rw [nI_leI (by omega) (by omega)]; omega
        refine ⟨false, σ, ?_, fr_rf _ _, hls, fun q => (by cases q), fun q => absurd (kno_le hlv q) (v3 (by omega))⟩
        rw [f_4005_S]
        unfold F_4005 f_4005_40
        simp only [la_180, la_183, rc_180_1 hR, g6, e', b1, b2, c1, c2, v2, b3, gd_tt, oA_arr, px_obj_s, Option.bind_some, Option.map_some, Option.bind_none, eq_self, true_or, or_true, px_av_0, px_av_1, px_av_2, px_av_10, px_av_11, bn, wi_1, wi_2, wl_1, wl_21, wl_22, wr_1, wr_21, wr_22, Sum.elim_inl, Sum.elim_inr, ↓reduceIte, Nat.reduceLT, Nat.reduceLeDiff, not_false_eq_true, not_true_eq_false, Nat.reduceEqDiff, Nat.reduceAdd, reduceCtorEq, and_true, true_and, and_false, false_and, false_or, or_false]
        rfl
      · have b3 : ¬ nI (r + 1) ≤ nI v := by rw [nI_leI (by omega) (by omega)]; omega
        obtain ⟨b, m1, rfl⟩ := c_might hgs hgl hv.1 hr
        cases hm : mgt n B g (r + 1) s with
        | false =>
          rw [hm, mb_f0] at m1
          refine ⟨false, σ, ?_, fr_rf _ _, hls, fun q => (by cases q), fun q => ?_⟩
          · rw [f_4005_S]
            unfold F_4005 f_4005_40
            simp only [la_180, la_183, rc_180_1 hR, g6, e', b1, b2, c1, c2, v2, b3, m1, gd_tt, oA_arr, px_obj_s, Option.bind_some, Option.map_some, Option.bind_none, eq_self, true_or, or_true, px_av_0, px_av_1, px_av_2, px_av_10, px_av_11, bn, wi_1, wi_2, wl_1, wl_21, wl_22, wr_1, wr_21, wr_22, Sum.elim_inl, Sum.elim_inr, ↓reduceIte, Nat.reduceLT, Nat.reduceLeDiff, not_false_eq_true, not_true_eq_false, Nat.reduceEqDiff, Nat.reduceAdd, reduceCtorEq, and_true, true_and, and_false, false_and, false_or, or_false]
            rfl
          · obtain ⟨w1, w2⟩ := might hw hg hv q
            unfold mgt at hm
            rw [decide_eq_true w1, decide_eq_true w2] at hm
            cases hm
        | true =>
          rw [hm, mb_t1] at m1
          obtain ⟨b, t1, rfl⟩ := c_most hgs hv.1
          have hb11 := bc_le 11 (grd n B s n)
          have hpos := grd_pos hw hv e
          obtain ⟨p, υ, y1, y2, y3, y4, y5⟩ := c_tell hw hg hr (ih (by omega)) hv (bc 11 (grd n B s n)) 0 d σ (by omega) hgs hls tld_0 (by omega) hb11
          have hiff : p = true ↔ kno n B g (r + 1) s := ⟨y4, fun hk => by
            obtain ⟨T, ⟨q1, q2, q3⟩, q4⟩ := best hw hg hv hk
            exact y5 T ⟨q1, q3, by rw [bc_0, q2, Nat.zero_add], sbs_0 _, fun x y _ _ hy => (by rw [Nat.zero_testBit] at hy; cases hy), fun h e hh _ he => q4 h e hh he⟩⟩
          cases hp : p with
          | true =>
            rw [hp, mb_t1] at y1
            rw [hp] at hiff
            refine ⟨true, υ, ?_, y2, y3, hiff⟩
            rw [f_4005_S]
            unfold F_4005 f_4005_42
            simp only [la_180, la_183, rc_180_1 hR, g6, e', b1, b2, c1, c2, v2, b3, m1, n10, t1, y1, gd_tt, oA_arr, px_obj_s, Option.bind_some, Option.map_some, Option.bind_none, eq_self, true_or, or_true, px_av_0, px_av_1, px_av_2, px_av_10, px_av_11, bn, wi_1, wi_2, wl_1, wl_21, wl_22, wr_1, wr_21, wr_22, Sum.elim_inl, Sum.elim_inr, ↓reduceIte, Nat.reduceLT, Nat.reduceLeDiff, not_false_eq_true, not_true_eq_false, Nat.reduceEqDiff, Nat.reduceAdd, reduceCtorEq, and_true, true_and, and_false, false_and, false_or, or_false]
            rfl
          | false =>
            rw [hp, mb_f0] at y1
            rw [hp] at hiff
            have hRυ := (gsA_fr y2 hgs).1
            refine ⟨false, px_wi υ 183 s (nI (r + 1)), ?_, fr_wi y2 _ rfl, fun k hk => ?_, hiff⟩
            · rw [f_4005_S]
              unfold F_4005 f_4005_42 f_4005_66
              simp only [la_180, la_183, rc_180_1 hR, rc_180_1 hRυ, g6, e', b1, b2, c1, c2, v2, b3, m1, n10, t1, y1, gd_tt, oA_arr, px_obj_s, Option.bind_some, Option.map_some, Option.bind_none, eq_self, true_or, or_true, px_av_0, px_av_1, px_av_2, px_av_10, px_av_11, bn, wi_1, wi_2, wl_1, wl_21, wl_22, wr_1, wr_21, wr_22, Sum.elim_inl, Sum.elim_inr, ↓reduceIte, Nat.reduceLT, Nat.reduceLeDiff, not_false_eq_true, not_true_eq_false, Nat.reduceEqDiff, Nat.reduceAdd, reduceCtorEq, and_true, true_and, and_false, false_and, false_or, or_false]
              rfl
            · by_cases ek : k = s
              · refine ⟨r + 1, by omega, ?_, fun _ q => ?_⟩
                · show px_up υ.1 183 s (nI (r + 1)) 183 k = _
                  rw [up_s, if_pos ek]
                · rw [ek, hv.2] at q
                  have := hiff.mpr q
                  cases this
              · obtain ⟨v, w1, w2, w3⟩ := y3 k hk
                refine ⟨v, w1, ?_, w3⟩
                show px_up υ.1 183 s (nI (r + 1)) 183 k = _
                rw [up_s, if_neg ek]
                exact w2
end
