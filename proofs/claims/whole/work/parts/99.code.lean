/-! two readers: codes, and signs that must stand -/
theorem tR_cng {C D : Nat → Nat} : ∀ {k : Nat} {ts : List Bool}, (∀ i, i < k → C i = D i) → tR C k ts → tR D k ts := by
  intro k
  induction k with
  | zero => intro ts _ h; exact h
  | succ k ih =>
    intro ts h hr
    obtain ⟨us, h1, h2⟩ := hr
    exact ⟨us, ih (fun i hi => h i (by omega)) h1, by rw [← h k (by omega)]; exact h2⟩
theorem uset_cng {C D : Nat → Nat} : ∀ {k : Nat}, (∀ i, i < k → C i = D i) → uset C k = uset D k := by
  intro k
  induction k with
  | zero => intro _; rfl
  | succ k ih => intro h; simp only [uset]; rw [ih (fun i hi => h i (by omega)), h k (by omega)]
theorem rul_cng {nr : Nat} {S C D : Nat → Nat} (h : ∀ i, i < S nr → C i = D i) (hr : rul nr S C) : rul nr S D := by
  refine ⟨hr.1, hr.2.1, hr.2.2.1, hr.2.2.2.1, fun r hr2 => tR_cng (fun i hi => ?_) (hr.2.2.2.2 r hr2)⟩
  have := rul_le hr (r + 1) nr (by omega) (Nat.le_refl _)
  exact h _ (by omega)
theorem us_cng {nr r : Nat} {S C D : Nat → Nat} (hr : rul nr S C) (h : ∀ i, i < S nr → C i = D i) (hr2 : r < nr) : us S C r = us S D r := by
  refine uset_cng (fun i hi => ?_)
  have := rul_le hr (r + 1) nr (by omega) (Nat.le_refl _)
  exact h _ (by omega)
section
variable {σ0 τ0 σ τ : px_M} {b pl bh κ v : Nat → Nat} {e K k n nr m ln : Nat} {B S C : Nat → Nat} {ts us : List Bool}
theorem ctr_c {c : Nat} (h : tS c ts us) : ctr c < 2009 ∧ (ctr c < 1000 ∨ ctr c < 1009 ∨ 2000 ≤ ctr c) ∧ c < 3009 := by
  have hc : wrd c ∨ (3000 ≤ c ∧ c ≤ 3008) := by
    rcases h with ⟨h, -⟩ | ⟨rfl, -⟩ | ⟨h1, h2, -⟩
    · exact Or.inl h
    · exact Or.inr (by omega)
    · exact Or.inr ⟨h1, by omega⟩
  unfold wrd at hc
  unfold ctr
  repeat' split
  all_goals omega
theorem j_code (hx : cx σ0 τ0 b e K pl bh κ v) (h : ex σ0 τ0 K pl bh κ v n B nr S ln σ τ k C m ts) (h6 : nr < 6) {c : Nat} (hc : tS c ts us) (hm : m < 900) : ∃ σ' τ', f_10004 tT σ 143 (nI (ctr c)) = some σ' ∧ f_19 tT τ 0 (nI c) = some τ' ∧ ex σ0 τ0 K pl bh κ v n B nr S ln σ' τ' k (upm C m c) (m + 1) us := by
  obtain ⟨⟨⟨f1, f2⟩, hk, ⟨p1, p2, p3⟩, p4, p5, p6, p7, p8⟩, ⟨d1, d2, d3, d4, d5, d6, d7, d8, d9, d10⟩, ⟨e1, e2, e3, e4, e5, e6, e7, e8⟩, t1, t2, t3, t4⟩ := h
  obtain ⟨hR, -⟩ := cx_c hx f1
  have hRm := (cx_t hx f2).1
  obtain ⟨x1, x2, x3⟩ := ctr_c hc
  have cong : ∀ i, i < S nr → C i = upm C m c i := fun i hi => (upm_n (by omega)).symm
  have a1 : ¬ nI m < nI 0 := by rw [nI_ltI (by omega) (by omega)]; omega
  have a2 : ¬ nI 900 ≤ nI m := by rw [nI_leI (by omega) (by omega)]; omega
  have a3 : ¬ nI nr < nI 0 := by rw [nI_ltI (by omega) (by omega)]; omega
  have a4 : nI nr < nI 6 := by rw [nI_ltI (by omega) (by omega)]; omega
  have c1 : vp_in (nI m) 900 := (vp_in_eq (by omega)).mpr (by omega)
  have c2 : (nI m).toNatClampNeg = m := nI_clamp (by omega)
  have n1 : vp_in (nI nr) 6 := (vp_in_eq (by omega)).mpr (by omega)
  have n2 : (nI nr).toNatClampNeg = nr := nI_clamp (by omega)
  obtain ⟨ω, hω⟩ : ∃ ω, px_wi (px_wi σ 146 m (nI (ctr c))) 143 4 (nI (m + 1)) = ω := ⟨_, rfl⟩
  have fω : fr CG σ ω := by rw [← hω]; exact fr_wi (fr_wi (fr_rf _ _) _ rfl) _ rfl
  have o1 : ω.1 143 0 = nI nr := by
    rw [← hω]
    show px_up (px_wi σ 146 m (nI (ctr c))).1 143 4 (nI (m + 1)) 143 0 = _
    rw [up_s, if_neg (by decide), wi_n (by decide)]; exact d2
  have o2 : ω.1 143 4 = nI (m + 1) := by rw [← hω]; exact wi_s _ _ _ _
  have o3 : ∀ l j, l ≠ 143 → l ≠ 146 → ω.1 l j = σ.1 l j := fun l j q1 q2 => by rw [← hω, wi_n q1, wi_n q2]
  have o4 : ∀ i, i < m + 1 → ω.1 146 i = nI (ctr (upm C m c i)) := fun i hi => by
    rw [← hω, wi_n (by decide)]
    show px_up σ.1 146 m (nI (ctr c)) 146 i = _
    rw [up_s]
    by_cases q : i = m
    · subst q; rw [if_pos rfl, upm_s]
    · rw [if_neg q, upm_n q]; exact d7 i (by omega)
  have hRω := cR_fr fω hR
  have hus : uset (fun k => upm C m c (S nr + k)) (m + 1 - S nr) = uset (fun k => C (S nr + k)) (m - S nr) ||| wbt c := by
    rw [show m + 1 - S nr = (m - S nr) + 1 by omega]
    simp only [uset]
    rw [uset_cng (D := fun k => C (S nr + k)) (fun i hi => upm_n (by omega)), show S nr + (m - S nr) = m by omega, upm_s]
  obtain ⟨υ, u1, u2, u3, u4⟩ : ∃ υ, f_10004_54 tT ω 143 (nI (ctr c)) = some υ ∧ fr (on 145) ω υ ∧ υ.1 145 nr = nI (uset (fun k => upm C m c (S nr + k)) (m + 1 - S nr)) ∧ ∀ r, r ≠ nr → υ.1 145 r = σ.1 145 r := by
    rw [hus]
    have z5 := d5 h6
    by_cases w1 : ctr c < 1000
    · have b1 : nI (ctr c) < nI 1000 := by rw [nI_ltI (by omega) (by omega)]; omega
      refine ⟨ω, ?_, fr_rf _ _, ?_, fun r hr => o3 145 r (by decide) (by decide)⟩
      · unfold f_10004_54; rw [if_pos b1]
      · rw [o3 145 nr (by decide) (by decide), z5]
        unfold wbt
        rw [if_neg (by omega), Nat.or_zero]
    · have b1 : ¬ nI (ctr c) < nI 1000 := by rw [nI_ltI (by omega) (by omega)]; omega
      by_cases w2 : 2000 ≤ ctr c
      · have b2 : nI 2000 ≤ nI (ctr c) := by rw [nI_leI (by omega) (by omega)]; omega
        refine ⟨ω, ?_, fr_rf _ _, ?_, fun r hr => o3 145 r (by decide) (by decide)⟩
        · unfold f_10004_54; rw [if_neg b1, if_pos b2]
        · rw [o3 145 nr (by decide) (by decide), z5]
          unfold wbt
          rw [if_neg (by omega), Nat.or_zero]
      · have b2 : ¬ nI 2000 ≤ nI (ctr c) := by rw [nI_leI (by omega) (by omega)]; omega
        have w3 : wbt c = 2 ^ (ctr c - 1000) := by unfold wbt; rw [if_pos (by omega)]
        refine ⟨px_wi ω 145 nr (nI (uset (fun k => C (S nr + k)) (m - S nr) ||| wbt c)), ?_, fr_wi (fr_rf _ _) _ (on_t _ _), wi_s _ _ _ _, fun r hr => ?_⟩
        · have o5 := o3 145 nr (by decide) (by decide)
          rw [z5] at o5
          unfold f_10004_54
          simp only [b1, b2, la_143, la_145, rc_143_2 hRω, o1, o5, n1, n2, ni_subL (show 1000 ≤ ctr c by omega), ni_1s (show ctr c - 1000 < 31 by omega), fa_or, w3, gd_tt, oA_arr, px_obj_s, Option.bind_some, Option.map_some, Option.bind_none, eq_self, true_or, or_true, px_av_0, px_av_1, px_av_2, px_av_10, px_av_11, bn, wi_1, wi_2, wl_1, wl_21, wl_22, wr_1, wr_21, wr_22, Sum.elim_inl, Sum.elim_inr, ↓reduceIte, Nat.reduceLT, Nat.reduceLeDiff, not_false_eq_true, not_true_eq_false, Nat.reduceEqDiff, Nat.reduceAdd, reduceCtorEq, and_true, true_and, and_false, false_and, false_or, or_false]
        · show px_up ω.1 145 nr _ 145 r = _
          rw [up_s, if_neg hr]; exact o3 145 r (by decide) (by decide)
  have on5 : ∀ l j, l ≠ 145 → υ.1 l j = ω.1 l j := fun l j q => u2.1 l j (by simp only [on, beq_eq_false_iff_ne]; exact q)
  have fυ : fr CG σ υ := fr_tr fω (fr_mono u2 (fun l j q => by
    simp only [on, beq_eq_false_iff_ne]
    intro z; subst z; simp [CG] at q))
  have m1 : vp_in (nI 171) 1072 := (vp_in_eq (by omega)).mpr (by omega)
  have m2 : (nI 171).toNatClampNeg = 171 := nI_clamp (by omega)
  have m3 : vp_in (nI (172 + m)) 1072 := (vp_in_eq (by omega)).mpr (by omega)
  have m4 : (nI (172 + m)).toNatClampNeg = 172 + m := nI_clamp (by omega)
  have wM : fr MF τ (px_wi (px_wi τ 4 (172 + m) (nI c)) 4 171 (nI (m + 1))) := fr_wi (fr_wi (fr_rf _ _) _ rfl) _ rfl
  have rM : ∀ j, j ≠ 171 → j ≠ 172 + m → (px_wi (px_wi τ 4 (172 + m) (nI c)) 4 171 (nI (m + 1))).1 4 j = τ.1 4 j := fun j q1 q2 => by
    show px_up (px_up τ.1 4 (172 + m) (nI c)) 4 171 (nI (m + 1)) 4 j = _
    rw [up_s, if_neg q1, up_s, if_neg q2]
  have r0 : ∀ j, (px_wi (px_wi τ 4 (172 + m) (nI c)) 4 171 (nI (m + 1))).1 0 j = τ.1 0 j := fun j => by rw [wi_n (by decide), wi_n (by decide)]
  refine ⟨υ, px_wi (px_wi τ 4 (172 + m) (nI c)) 4 171 (nI (m + 1)), ?_, ?_, ⟨⟨fr_tr f1 fυ, fr_tr f2 wM⟩, hk, ⟨?_, ?_, ?_⟩, ?_, ?_, ?_, fun q => ?_, ?_⟩, ⟨?_, ?_, fun r hr => ?_, fun r hr => ?_, fun _ => u3, fun r h1 h2 => ?_, fun i hi => ?_, ?_, ?_, ?_⟩, ⟨?_, fun r hr => ?_, ?_, fun r hr => ⟨?_, ?_⟩, wi_s _ _ _ _, fun i hi => ?_, ?_, ?_⟩, rul_cng cong t1, by omega, by omega, ?_⟩
  · unfold f_10004
    have y4 : (px_wi σ 146 m (nI (ctr c))).1 143 4 = nI m := by rw [wi_n (by decide)]; exact d8
    rw [d8, d2, c2]
    simp only [rc_143_3 hR, Option.bind_some]
    rw [y4, nI_add, hω]
    simp only [la_143, la_146, a1, a2, a3, a4, rc_143_3 hR, c1, u1, gd_tt, oA_arr, px_obj_s, Option.bind_some, Option.map_some, Option.bind_none, eq_self, true_or, or_true, px_av_0, px_av_1, px_av_2, px_av_10, px_av_11, bn, wi_1, wi_2, wl_1, wl_21, wl_22, wr_1, wr_21, wr_22, Sum.elim_inl, Sum.elim_inr, ↓reduceIte, Nat.reduceLT, Nat.reduceLeDiff, not_false_eq_true, not_true_eq_false, Nat.reduceEqDiff, Nat.reduceAdd, reduceCtorEq, and_true, true_and, and_false, false_and, false_or, or_false]
  · unfold f_19
    have y1 : (px_wi τ 4 (172 + m) (nI c)).1 4 171 = nI m := by
      show px_up τ.1 4 (172 + m) _ 4 171 = _
      rw [up_s, if_neg (by omega)]; exact e5
    have y2 : (px_wi τ 4 (172 + m) (nI c)).2.2 0 4 = some 4 := rm_0_4 hRm
    simp only [la_0, la_4, p8, rm_0_4 hRm, m1, m2, e5, nI_add, m3, m4, px_av_0, gd_tt, oA_arr, px_obj_s, Option.bind_some, Option.map_some, Option.bind_none, eq_self, true_or, or_true, px_av_0, px_av_1, px_av_2, px_av_10, px_av_11, bn, wi_1, wi_2, wl_1, wl_21, wl_22, wr_1, wr_21, wr_22, Sum.elim_inl, Sum.elim_inr, ↓reduceIte, Nat.reduceLT, Nat.reduceLeDiff, not_false_eq_true, not_true_eq_false, Nat.reduceEqDiff, Nat.reduceAdd, reduceCtorEq, and_true, true_and, and_false, false_and, false_or, or_false]
    rw [show px_up τ.1 4 (172 + m) (nI c) 4 171 = nI m from y1, nI_add]
  · rw [on5 150 8 (by decide), o3 150 8 (by decide) (by decide)]; exact p1
  · rw [on5 150 9 (by decide), o3 150 9 (by decide) (by decide)]; exact p2
  · rw [on5 150 1 (by decide), o3 150 1 (by decide) (by decide)]; exact p3
  · rw [r0]; exact p4
  · rw [r0]; exact p5
  · rw [r0]; exact p6
  · rw [r0]; exact p7 q
  · rw [r0]; exact p8
  · exact ct_fr (S := fun l j => l == 143 || l == 145 || l == 146) (fr_tr (by rw [← hω]; exact fr_wi (fr_wi (fr_rf _ _) _ rfl) _ rfl) (fr_mono u2 (fun l j q => by
      simp only [Bool.or_eq_false_iff, beq_eq_false_iff_ne] at q
      simp only [on, beq_eq_false_iff_ne]; exact q.1.2))) (fun _ => rfl) (fun _ => rfl) d1
  · rw [on5 143 0 (by decide)]; exact o1
  · rw [on5 144 r (by decide), o3 144 r (by decide) (by decide)]; exact d3 r hr
  · rw [u4 r (by omega), d4 r hr, us_cng t1 cong hr]
  · rw [u4 r (by omega)]; exact d6 r h1 h2
  · rw [on5 146 i (by decide)]; exact o4 i hi
  · rw [on5 143 4 (by decide)]; exact o2
  · rw [on5 140 2 (by decide), o3 140 2 (by decide) (by decide)]; exact d9
  · rw [on5 140 3 (by decide), o3 140 3 (by decide) (by decide)]; exact d10
  · rw [rM 1 (by decide) (by omega)]; exact e1
  · rw [rM _ (by omega) (by omega)]; exact e2 r hr
  · rw [rM _ (by omega) (by omega)]; exact e3
  · rw [rM _ (by omega) (by omega)]; exact (e4 r hr).1
  · rw [rM _ (by omega) (by omega)]; exact (e4 r hr).2
  · by_cases q : i = m
    · subst q
      rw [upm_s]
      show px_up (px_up τ.1 4 (172 + i) (nI c)) 4 171 (nI (i + 1)) 4 (172 + i) = _
      rw [up_s, if_neg (by omega), up_s, if_pos rfl]
    · rw [rM _ (by omega) (by omega), upm_n q]; exact e6 i (by omega)
  · rw [rM _ (by omega) (by omega)]; exact e7
  · rw [rM _ (by omega) (by omega)]; exact e8
  · rw [show m + 1 - S nr = (m - S nr) + 1 by omega]
    refine ⟨ts, tR_cng (fun i hi => (upm_n (by omega)).symm) t4, ?_⟩
    show tS (upm C m c (S nr + (m - S nr))) ts us
    rw [show S nr + (m - S nr) = m by omega, upm_s]
    exact hc
/-- a sign that must stand here -/
theorem j_pass (hx : cx σ0 τ0 b e K pl bh κ v) (h : ex σ0 τ0 K pl bh κ v n B nr S ln σ τ k C m ts) {c : Nat} (hc : c < 32) (h16 : c ≠ 16) (h17 : c ≠ 17) (h19 : c ≠ 19) : (κ k = c ∧ ∃ σ' τ', f_9019 tT σ 150 (nI (tcd c 0)) = some (nI 1, σ') ∧ f_12 tT τ 0 (nI c) = some (nI 1, τ') ∧ ex σ0 τ0 K pl bh κ v n B nr S ln σ' τ' (k + 1) C m ts) ∨ (κ k ≠ c ∧ ∃ σ' τ', f_9019 tT σ 150 (nI (tcd c 0)) = some (nI 0, σ') ∧ f_12 tT τ 0 (nI c) = some (nI 0, τ) ∧ f_10 tT τ 0 (nI 2) = some τ' ∧ ded σ0 τ0 σ' τ') := by
  have his := m_is hx h.1 hc
  have hk := h.1.2.1
  have p2 := h.1.2.2.1.2.1
  by_cases q : κ k = c
  · obtain ⟨σ', τ', y1, y2, y3, -⟩ := j_adv hx h (by omega)
    refine Or.inl ⟨q, σ', τ', ?_, ?_, y3⟩
    · unfold f_9019
      have a1 := (tcd_eq hx hk hc h16 h19).mpr q
      simp only [la_150, p2, a1, y1, gd_tt, oA_arr, px_obj_s, Option.bind_some, Option.map_some, Option.bind_none, eq_self, true_or, or_true, px_av_0, px_av_1, px_av_2, px_av_10, px_av_11, bn, wi_1, wi_2, wl_1, wl_21, wl_22, wr_1, wr_21, wr_22, Sum.elim_inl, Sum.elim_inr, ↓reduceIte, Nat.reduceLT, Nat.reduceLeDiff, not_false_eq_true, not_true_eq_false, Nat.reduceEqDiff, Nat.reduceAdd, reduceCtorEq, and_true, true_and, and_false, false_and, false_or, or_false]
    · rw [decide_eq_true q, mb_t1] at his
      unfold f_12
      simp only [la_0, his, n10, y2, gd_tt, oA_arr, px_obj_s, Option.bind_some, Option.map_some, Option.bind_none, eq_self, true_or, or_true, px_av_0, px_av_1, px_av_2, px_av_10, px_av_11, bn, wi_1, wi_2, wl_1, wl_21, wl_22, wr_1, wr_21, wr_22, Sum.elim_inl, Sum.elim_inr, ↓reduceIte, Nat.reduceLT, Nat.reduceLeDiff, not_false_eq_true, not_true_eq_false, Nat.reduceEqDiff, Nat.reduceAdd, reduceCtorEq, and_true, true_and, and_false, false_and, false_or, or_false]
  · obtain ⟨σ', τ', y1, y2, y3⟩ := j_blame hx h.1 (f := 2) (Or.inl rfl)
    refine Or.inr ⟨q, σ', τ', ?_, ?_, y2, y3⟩
    · unfold f_9019
      have a1 := mt (tcd_eq hx hk hc h16 h19).mp q
      simp only [la_150, p2, a1, y1, gd_tt, oA_arr, px_obj_s, Option.bind_some, Option.map_some, Option.bind_none, eq_self, true_or, or_true, px_av_0, px_av_1, px_av_2, px_av_10, px_av_11, bn, wi_1, wi_2, wl_1, wl_21, wl_22, wr_1, wr_21, wr_22, Sum.elim_inl, Sum.elim_inr, ↓reduceIte, Nat.reduceLT, Nat.reduceLeDiff, not_false_eq_true, not_true_eq_false, Nat.reduceEqDiff, Nat.reduceAdd, reduceCtorEq, and_true, true_and, and_false, false_and, false_or, or_false]
    · rw [decide_eq_false q, mb_f0] at his
      unfold f_12
      simp only [la_0, his, gd_tt, oA_arr, px_obj_s, Option.bind_some, Option.map_some, Option.bind_none, eq_self, true_or, or_true, px_av_0, px_av_1, px_av_2, px_av_10, px_av_11, bn, wi_1, wi_2, wl_1, wl_21, wl_22, wr_1, wr_21, wr_22, Sum.elim_inl, Sum.elim_inr, ↓reduceIte, Nat.reduceLT, Nat.reduceLeDiff, not_false_eq_true, not_true_eq_false, Nat.reduceEqDiff, Nat.reduceAdd, reduceCtorEq, and_true, true_and, and_false, false_and, false_or, or_false]
theorem ex_mix {σ1 τ1 : px_M} (h1 : ex σ0 τ0 K pl bh κ v n B nr S ln σ τ1 k C m ts) (h2 : ex σ0 τ0 K pl bh κ v n B nr S ln σ1 τ k C m ts) : ex σ0 τ0 K pl bh κ v n B nr S ln σ τ k C m ts := ⟨⟨⟨h1.1.1.1, h2.1.1.2⟩, h1.1.2.1, h1.1.2.2.1, h2.1.2.2.2⟩, h1.2.1, h2.2.2.1, h1.2.2.2⟩
/-- outcome of a piece: read on, or dead -/
def oc (σ0 τ0 : px_M) (fc : Option (Int32 × px_M)) (fm : Option px_M) (Q : px_M → px_M → Prop) : Prop := (∃ σ' τ', fc = some (nI 1, σ') ∧ fm = some τ' ∧ Q σ' τ') ∨ ∃ σ' τ', fc = some (nI 0, σ') ∧ fm = some τ' ∧ ded σ0 τ0 σ' τ'
end
