/-! two readers: houses and doors -/
section
variable {σ0 τ0 σ τ : px_M} {b pl bh κ v : Nat → Nat} {e K k n nr m ln : Nat} {B S C : Nat → Nat} {ts us : List Bool}
theorem w_in (τ : px_M) {a n : Nat} (ha : a < 1000) (hn : n ≤ 11) : f_2 tT τ (nI a).toInt64 (lN 0) (nI n - nI 1).toInt64 = some (mb (decide (a < n))) := by
  rw [e_within]
  congr 2
  have e0 : (lN 0).toInt = 0 := pf_lI (by omega)
  have e1 : decide (lN 0 ≤ (nI a).toInt64) = true := decide_eq_true (by rw [fa_le64, Int32.toInt_toInt64, e0, nI_toInt (by omega)]; omega)
  have e2 : decide ((nI a).toInt64 ≤ (nI n - nI 1).toInt64) = decide (a < n) := decide_eq_decide.mpr (by
    rw [fa_le64, Int32.toInt_toInt64, Int32.toInt_toInt64, nI_toInt (by omega), sub_ti (by omega) (by omega)]; omega)
  rw [e1, e2, Bool.true_and]
theorem l0_i : (nI 0).toInt64 = lN 0 := by decide
/-- both towns get a door -/
theorem j_link (hx : cx σ0 τ0 b e K pl bh κ v) (h : ex σ0 τ0 K pl bh κ v n B nr S ln σ τ k C m ts) {a c : Nat} (ha : a < n) (hc : c < n) (hac : a ≠ c) : ∃ σ' τ', f_11009 tT σ 141 (nI a) (nI c) = some σ' ∧ f_15 tT τ 4 (nI a) (nI c) = some τ' ∧ ex σ0 τ0 K pl bh κ v n (jn B a c) nr S ln σ' τ' k C m ts ∧ fr (tw2 141) σ σ' := by
  obtain ⟨⟨⟨f1, f2⟩, hk, ⟨p1, p2, p3⟩, p4, p5, p6, p7, p8⟩, ⟨d1, d2, d3, d4, d5, d6, d7, d8, d9, d10⟩, ⟨e1, e2, e3, e4, e5, e6, e7, e8⟩, t1, t2, t3, t4⟩ := h
  have hn := d1.2.2.2.1.1
  have hBa := wf_2048 d1.2.2.2.1 a
  have hBc := wf_2048 d1.2.2.2.1 c
  obtain ⟨υ, y1, y2, y3⟩ := c_link d1 ha hc hac
  have o : ∀ l j, l ≠ 141 → l ≠ 142 → υ.1 l j = σ.1 l j := fun l j q1 q2 => y2.1 l j (tw2_n q1 q2)
  have fc : fr CG σ υ := fr_mono y2 (fun l j q => by
    refine tw2_n ?_ ?_
    · intro z; subst z; simp [CG] at q
    · intro z; subst z; simp [CG] at q)
  have a1 : vp_in (nI (2 + a)) 1072 := (vp_in_eq (by omega)).mpr (by omega)
  have a2 : (nI (2 + a)).toNatClampNeg = 2 + a := nI_clamp (by omega)
  have a3 : vp_in (nI (2 + c)) 1072 := (vp_in_eq (by omega)).mpr (by omega)
  have a4 : (nI (2 + c)).toNatClampNeg = 2 + c := nI_clamp (by omega)
  have wM : fr MF τ (px_wi (px_wi τ 4 (2 + a) (nI (B a ||| 2 ^ c))) 4 (2 + c) (nI (B c ||| 2 ^ a))) := fr_wi (fr_wi (fr_rf _ _) _ rfl) _ rfl
  have rM : ∀ j, j ≠ 2 + a → j ≠ 2 + c → (px_wi (px_wi τ 4 (2 + a) (nI (B a ||| 2 ^ c))) 4 (2 + c) (nI (B c ||| 2 ^ a))).1 4 j = τ.1 4 j := fun j q1 q2 => by
    show px_up (px_up τ.1 4 (2 + a) (nI (B a ||| 2 ^ c))) 4 (2 + c) (nI (B c ||| 2 ^ a)) 4 j = _
    rw [up_s, if_neg q2, up_s, if_neg q1]
  have r0 : ∀ j, (px_wi (px_wi τ 4 (2 + a) (nI (B a ||| 2 ^ c))) 4 (2 + c) (nI (B c ||| 2 ^ a))).1 0 j = τ.1 0 j := fun j => by rw [wi_n (by decide), wi_n (by decide)]
  refine ⟨υ, px_wi (px_wi τ 4 (2 + a) (nI (B a ||| 2 ^ c))) 4 (2 + c) (nI (B c ||| 2 ^ a)), y1, ?_, ⟨⟨⟨fr_tr f1 fc, fr_tr f2 wM⟩, hk, ⟨?_, ?_, ?_⟩, ?_, ?_, ?_, fun q => ?_, ?_⟩, ⟨y3, ?_, fun r hr => ?_, fun r hr => ?_, fun hr => ?_, fun r h1 h2 => ?_, fun i hi => ?_, ?_, ?_, ?_⟩, ⟨?_, fun h hh => ?_, ?_, fun r hr => ⟨?_, ?_⟩, ?_, fun i hi => ?_, ?_, ?_⟩, t1, t2, t3, t4⟩, y2⟩
  · have y5 : (px_wi τ 4 (2 + a) (nI (B a ||| 2 ^ c))).1 4 (2 + c) = nI (B c) := by
      show px_up τ.1 4 (2 + a) _ 4 (2 + c) = _
      rw [up_s, if_neg (by omega)]; exact e2 c (by omega)
    unfold f_15
    simp only [la_4, nI_add, a1, a2, a3, a4, e2 a (by omega), ni_1s (show c < 31 by omega), ni_1s (show a < 31 by omega), fa_or, gd_tt, oA_arr, px_obj_s, Option.bind_some, Option.map_some, Option.bind_none, eq_self, true_or, or_true, px_av_0, px_av_1, px_av_2, px_av_10, px_av_11, bn, wi_1, wi_2, wl_1, wl_21, wl_22, wr_1, wr_21, wr_22, Sum.elim_inl, Sum.elim_inr, ↓reduceIte, Nat.reduceLT, Nat.reduceLeDiff, not_false_eq_true, not_true_eq_false, Nat.reduceEqDiff, Nat.reduceAdd, reduceCtorEq, and_true, true_and, and_false, false_and, false_or, or_false]
    rw [show px_up τ.1 4 (2 + a) (nI (B a ||| 2 ^ c)) 4 (2 + c) = nI (B c) from y5, fa_or]
  · rw [o 150 8 (by decide) (by decide)]; exact p1
  · rw [o 150 9 (by decide) (by decide)]; exact p2
  · rw [o 150 1 (by decide) (by decide)]; exact p3
  · rw [r0]; exact p4
  · rw [r0]; exact p5
  · rw [r0]; exact p6
  · rw [r0]; exact p7 q
  · rw [r0]; exact p8
  · rw [o _ _ (by decide) (by decide)]; exact d2
  · rw [o _ _ (by decide) (by decide)]; exact d3 r hr
  · rw [o _ _ (by decide) (by decide)]; exact d4 r hr
  · rw [o _ _ (by decide) (by decide)]; exact d5 hr
  · rw [o _ _ (by decide) (by decide)]; exact d6 r h1 h2
  · rw [o _ _ (by decide) (by decide)]; exact d7 i hi
  · rw [o _ _ (by decide) (by decide)]; exact d8
  · rw [o _ _ (by decide) (by decide)]; exact d9
  · rw [o _ _ (by decide) (by decide)]; exact d10
  · rw [rM _ (by omega) (by omega)]; exact e1
  · unfold jn
    show px_up (px_up τ.1 4 (2 + a) (nI (B a ||| 2 ^ c))) 4 (2 + c) (nI (B c ||| 2 ^ a)) 4 (2 + h) = _
    rw [up_s, up_s]
    by_cases h1 : h = a
    · subst h1; rw [if_neg (by omega), if_pos rfl, if_pos rfl]
    · by_cases h2 : h = c
      · subst h2; rw [if_pos rfl, if_neg h1, if_pos rfl]
      · rw [if_neg (by omega), if_neg (by omega), if_neg h1, if_neg h2]; exact e2 h hh
  · rw [rM _ (by omega) (by omega)]; exact e3
  · rw [rM _ (by omega) (by omega)]; exact (e4 r hr).1
  · rw [rM _ (by omega) (by omega)]; exact (e4 r hr).2
  · rw [rM _ (by omega) (by omega)]; exact e5
  · rw [rM _ (by omega) (by omega)]; exact e6 i hi
  · rw [rM _ (by omega) (by omega)]; exact e7
  · rw [rM _ (by omega) (by omega)]; exact e8
/-- a house must stand here -/
theorem j_house (hx : cx σ0 τ0 b e K pl bh κ v) (h : ex σ0 τ0 K pl bh κ v n B nr S ln σ τ k C m ts) : (κ k = 16 ∧ v k < n ∧ f_9020 tT σ 150 = some (nI 1, σ) ∧ ∃ σ' τ', f_9015 tT σ 150 = some σ' ∧ f_13 tT τ 0 (nI 0) (nI n - nI 1) = some (nI (v k), τ') ∧ ex σ0 τ0 K pl bh κ v n B nr S ln σ' τ' (k + 1) C m ts) ∨ (¬ (κ k = 16 ∧ v k < n) ∧ ∃ σ' τ' r, f_9020 tT σ 150 = some (nI 0, σ') ∧ f_13 tT τ 0 (nI 0) (nI n - nI 1) = some (r, τ') ∧ ded σ0 τ0 σ' τ') := by
  have hk := h.1.2.1
  obtain ⟨k1, k2, k3, k4, k5, k6, k7, k8⟩ := cx_k hx hk
  have p2 := h.1.2.2.1.2.1
  have p7 := h.1.2.2.2.2.2.2.1
  have p8 := h.1.2.2.2.2.2.2.2
  have d1 := h.2.1.1
  have hn := d1.2.2.2.1.1
  have n1 := k_isNum hx h.1
  have i1 := m_is hx h.1 (c := 16) (by omega)
  obtain ⟨hR, -⟩ := cx_c hx h.1.1.1
  by_cases q : κ k = 16
  · rw [decide_eq_true q, mb_t1] at n1 i1
    have hv := k2 q
    have p7' := p7 q
    rw [q, show tcd 16 (v k) = v k from rfl] at p2
    have hh := c_hasN d1 (h := v k) (by omega)
    have wi := w_in τ hv hn
    by_cases hvn : v k < n
    · rw [decide_eq_true hvn, mb_t1] at hh wi
      obtain ⟨σ', τ', y1, y2, y3, -⟩ := j_adv hx h (by omega)
      refine Or.inl ⟨q, hvn, ?_, σ', τ', y1, ?_, y3⟩
      · unfold f_9020 f_9020_38
        simp only [la_150, la_140, la_141, n1, n10, rc_150_3 hR, rc_140_0 hR, p2, hh, gd_tt, oA_arr, px_obj_s, Option.bind_some, Option.map_some, Option.bind_none, eq_self, true_or, or_true, px_av_0, px_av_1, px_av_2, px_av_10, px_av_11, bn, wi_1, wi_2, wl_1, wl_21, wl_22, wr_1, wr_21, wr_22, Sum.elim_inl, Sum.elim_inr, ↓reduceIte, Nat.reduceLT, Nat.reduceLeDiff, not_false_eq_true, not_true_eq_false, Nat.reduceEqDiff, Nat.reduceAdd, reduceCtorEq, and_true, true_and, and_false, false_and, false_or, or_false]
      · unfold f_13 f_13_37
        simp only [la_0, i1, n10, l0_i, p7', wi, p8, y2, gd_tt, oA_arr, px_obj_s, Option.bind_some, Option.map_some, Option.bind_none, eq_self, true_or, or_true, px_av_0, px_av_1, px_av_2, px_av_10, px_av_11, bn, wi_1, wi_2, wl_1, wl_21, wl_22, wr_1, wr_21, wr_22, Sum.elim_inl, Sum.elim_inr, ↓reduceIte, Nat.reduceLT, Nat.reduceLeDiff, not_false_eq_true, not_true_eq_false, Nat.reduceEqDiff, Nat.reduceAdd, reduceCtorEq, and_true, true_and, and_false, false_and, false_or, or_false]
    · rw [decide_eq_false hvn, mb_f0] at hh wi
      obtain ⟨σ', τ', y1, y2, y3⟩ := j_blame hx h.1 (f := 3) (Or.inr ⟨Or.inl rfl, by omega⟩)
      obtain ⟨f, f0, f5, f1⟩ := ded_x y3
      have fa : ¬ nI f = nI 0 := by rw [nI_eq (by omega) (by omega)]; exact f0
      refine Or.inr ⟨fun z => hvn z.2, σ', τ', τ'.1 0 10, ?_, ?_, y3⟩
      · unfold f_9020
        simp only [la_150, la_140, la_141, n1, n10, rc_150_3 hR, rc_140_0 hR, p2, hh, y1, gd_tt, oA_arr, px_obj_s, Option.bind_some, Option.map_some, Option.bind_none, eq_self, true_or, or_true, px_av_0, px_av_1, px_av_2, px_av_10, px_av_11, bn, wi_1, wi_2, wl_1, wl_21, wl_22, wr_1, wr_21, wr_22, Sum.elim_inl, Sum.elim_inr, ↓reduceIte, Nat.reduceLT, Nat.reduceLeDiff, not_false_eq_true, not_true_eq_false, Nat.reduceEqDiff, Nat.reduceAdd, reduceCtorEq, and_true, true_and, and_false, false_and, false_or, or_false]
      · unfold f_13 f_13_37
        simp only [la_0, i1, n10, l0_i, p7', wi, y2, f1, fa, gd_tt, oA_arr, px_obj_s, Option.bind_some, Option.map_some, Option.bind_none, eq_self, true_or, or_true, px_av_0, px_av_1, px_av_2, px_av_10, px_av_11, bn, wi_1, wi_2, wl_1, wl_21, wl_22, wr_1, wr_21, wr_22, Sum.elim_inl, Sum.elim_inr, ↓reduceIte, Nat.reduceLT, Nat.reduceLeDiff, not_false_eq_true, not_true_eq_false, Nat.reduceEqDiff, Nat.reduceAdd, reduceCtorEq, and_true, true_and, and_false, false_and, false_or, or_false]
  · rw [decide_eq_false q, mb_f0] at n1 i1
    obtain ⟨σ', τ', y1, y2, y3⟩ := j_blame hx h.1 (f := 2) (Or.inl rfl)
    obtain ⟨f, f0, f5, f1⟩ := ded_x y3
    have fa : ¬ nI f = nI 0 := by rw [nI_eq (by omega) (by omega)]; exact f0
    refine Or.inr ⟨fun z => q z.1, σ', τ', τ'.1 0 10, ?_, ?_, y3⟩
    · unfold f_9020
      simp only [la_150, n1, y1, gd_tt, oA_arr, px_obj_s, Option.bind_some, Option.map_some, Option.bind_none, eq_self, true_or, or_true, px_av_0, px_av_1, px_av_2, px_av_10, px_av_11, bn, wi_1, wi_2, wl_1, wl_21, wl_22, wr_1, wr_21, wr_22, Sum.elim_inl, Sum.elim_inr, ↓reduceIte, Nat.reduceLT, Nat.reduceLeDiff, not_false_eq_true, not_true_eq_false, Nat.reduceEqDiff, Nat.reduceAdd, reduceCtorEq, and_true, true_and, and_false, false_and, false_or, or_false]
    · unfold f_13 f_13_37
      simp only [la_0, i1, y2, f1, fa, gd_tt, oA_arr, px_obj_s, Option.bind_some, Option.map_some, Option.bind_none, eq_self, true_or, or_true, px_av_0, px_av_1, px_av_2, px_av_10, px_av_11, bn, wi_1, wi_2, wl_1, wl_21, wl_22, wr_1, wr_21, wr_22, Sum.elim_inl, Sum.elim_inr, ↓reduceIte, Nat.reduceLT, Nat.reduceLeDiff, not_false_eq_true, not_true_eq_false, Nat.reduceEqDiff, Nat.reduceAdd, reduceCtorEq, and_true, true_and, and_false, false_and, false_or, or_false]
/-- what a line comes to -/
def lns (σ0 τ0 : px_M) (K : Nat) (pl bh κ v : Nat → Nat) (ln k : Nat) (σ' τ' : px_M) : Prop := ∃ k' n' B' nr' S' C', ex σ0 τ0 K pl bh κ v n' B' nr' S' ln σ' τ' k' C' (S' nr') [] ∧ k ≤ k' ∧ S' nr' ≤ k'
theorem j_door (hx : cx σ0 τ0 b e K pl bh κ v) (h : ex σ0 τ0 K pl bh κ v n B nr S ln σ τ k C (S nr) []) (hm : S nr ≤ k) {σ1 τ1 : px_M} (h9 : f_9015 tT σ1 150 = some σ) : oc σ0 τ0 (f_9022 tT σ1 150) (f_17 tT τ 0) (lns σ0 τ0 K pl bh κ v ln k) := by
  have kk1 : vp_in (nI 1) 1072 := (vp_in_eq (by omega)).mpr (by omega)
  have kk2 : (nI 1).toNatClampNeg = 1 := nI_clamp (by omega)
  have hRm := (cx_t hx h.1.1.2).1
  have en := h.2.2.1.1
  have hn := h.2.1.1.2.2.2.1.1
  rcases j_house hx h with ⟨q1, q2, q3, σ2, τ2, y1, y2, y3⟩ | ⟨q1, σ2, τ2, r, y1, y2, y3⟩
  · have p2 := h.1.2.2.1.2.1
    rw [q1, show tcd 16 (v k) = v k from rfl] at p2
    have hv := (cx_k hx h.1.2.1).2.1 q1
    have i1 := m_is hx y3.1 (c := 16) (by omega)
    have hRm2 := (cx_t hx y3.1.1.2).1
    have en2 := y3.2.2.1.1
    have eb2 := y3.2.2.1.2.1
    have p7 := y3.1.2.2.2.2.2.2.1
    obtain ⟨hR2, -⟩ := cx_c hx y3.1.1.1
    have d1 := y3.2.1.1
    have hw := d1.2.2.2.1
    have hBv := wf_2048 hw (v k)
    have c1 : vp_in (nI (2 + v k)) 1072 := (vp_in_eq (by omega)).mpr (by omega)
    have c2 : (nI (2 + v k)).toNatClampNeg = 2 + v k := nI_clamp (by omega)
    rcases j_house hx y3 with ⟨r1, r2, r3, σ3, τ3, z1, z2, z3⟩ | ⟨r1, σ3, τ3, r, z1, z2, z3⟩
    · have p22 := y3.1.2.2.1.2.1
      rw [r1, show tcd 16 (v (k + 1)) = v (k + 1) from rfl] at p22
      have p7' := p7 r1
      have hv2 := (cx_k hx y3.1.2.1).2.1 r1
      have wi := w_in τ2 hv2 hn
      rw [decide_eq_true r2, mb_t1] at wi
      rw [decide_eq_true r1, mb_t1] at i1
      have lk := c_linked d1 q2 r2
      have isn := e_isIn τ2 (s := B (v k)) (j := v (k + 1)) (by omega) (by omega)
      have l3 : (nI (B (v k))).toInt64 = lN (B (v k)) := nI_l (by omega)
      by_cases hbad : v (k + 1) = v k ∨ (B (v k)).testBit (v (k + 1)) = true
      · obtain ⟨σ4, τ4, w1, w2, w3⟩ := j_blame hx y3.1 (f := 3) (Or.inr ⟨Or.inl rfl, by omega⟩)
        obtain ⟨f, f0, f5, f1⟩ := ded_x w3
        have fa : ¬ nI f = nI 0 := by rw [nI_eq (by omega) (by omega)]; exact f0
        have w1' : f_9022_57 tT σ2 150 = some (nI 0, σ4) := by
          unfold f_9022_57
          simp only [la_150, w1, gd_tt, oA_arr, px_obj_s, Option.bind_some, Option.map_some, Option.bind_none, eq_self, true_or, or_true, px_av_0, px_av_1, px_av_2, px_av_10, px_av_11, bn, wi_1, wi_2, wl_1, wl_21, wl_22, wr_1, wr_21, wr_22, Sum.elim_inl, Sum.elim_inr, ↓reduceIte, Nat.reduceLT, Nat.reduceLeDiff, not_false_eq_true, not_true_eq_false, Nat.reduceEqDiff, Nat.reduceAdd, reduceCtorEq, and_true, true_and, and_false, false_and, false_or, or_false]
        have fr4 : fr MF τ0 τ4 := w3.1.2
        have hRm4 := (cx_t hx fr4).1
        have w2' : f_17_71 tT τ2 0 (nI (v k)) = some τ4 := by
          unfold f_17_71 f_17_76
          simp only [la_0, la_4, w2, rm_0_4 hRm4, kk1, z_takes f0 f5 f1, f1, fa, gd_tt, oA_arr, px_obj_s, Option.bind_some, Option.map_some, Option.bind_none, eq_self, true_or, or_true, px_av_0, px_av_1, px_av_2, px_av_10, px_av_11, bn, wi_1, wi_2, wl_1, wl_21, wl_22, wr_1, wr_21, wr_22, Sum.elim_inl, Sum.elim_inr, ↓reduceIte, Nat.reduceLT, Nat.reduceLeDiff, not_false_eq_true, not_true_eq_false, Nat.reduceEqDiff, Nat.reduceAdd, reduceCtorEq, and_true, true_and, and_false, false_and, false_or, or_false]
        refine Or.inr ⟨σ4, τ4, ?_, ?_, w3⟩
        · unfold f_9022 f_9022_22
          by_cases hs : v (k + 1) = v k
          · rw [hs] at p22
            simp only [la_150, h9, q3, n10, y1, p2, r3, p22, w1', gd_tt, oA_arr, px_obj_s, Option.bind_some, Option.map_some, Option.bind_none, eq_self, true_or, or_true, px_av_0, px_av_1, px_av_2, px_av_10, px_av_11, bn, wi_1, wi_2, wl_1, wl_21, wl_22, wr_1, wr_21, wr_22, Sum.elim_inl, Sum.elim_inr, ↓reduceIte, Nat.reduceLT, Nat.reduceLeDiff, not_false_eq_true, not_true_eq_false, Nat.reduceEqDiff, Nat.reduceAdd, reduceCtorEq, and_true, true_and, and_false, false_and, false_or, or_false]
          · have hs' : ¬ nI (v (k + 1)) = nI (v k) := by rw [nI_eq (by omega) (by omega)]; exact hs
            have hl : (B (v k)).testBit (v (k + 1)) = true := by rcases hbad with z | z; exact absurd z hs; exact z
            rw [hl, mb_t1] at lk
            simp only [la_150, la_140, la_141, h9, q3, n10, y1, p2, r3, p22, hs', rc_150_3 hR2, rc_140_0 hR2, lk, w1', gd_tt, oA_arr, px_obj_s, Option.bind_some, Option.map_some, Option.bind_none, eq_self, true_or, or_true, px_av_0, px_av_1, px_av_2, px_av_10, px_av_11, bn, wi_1, wi_2, wl_1, wl_21, wl_22, wr_1, wr_21, wr_22, Sum.elim_inl, Sum.elim_inr, ↓reduceIte, Nat.reduceLT, Nat.reduceLeDiff, not_false_eq_true, not_true_eq_false, Nat.reduceEqDiff, Nat.reduceAdd, reduceCtorEq, and_true, true_and, and_false, false_and, false_or, or_false]
        · unfold f_17 f_17_23 f_17_44
          by_cases hs : v (k + 1) = v k
          · rw [hs] at p7' wi
            simp only [la_0, la_4, rm_0_4 hRm, rm_0_4 hRm2, kk1, kk2, en, en2, y2, i1, n10, p7', wi, w2', gd_tt, oA_arr, px_obj_s, Option.bind_some, Option.map_some, Option.bind_none, eq_self, true_or, or_true, px_av_0, px_av_1, px_av_2, px_av_10, px_av_11, bn, wi_1, wi_2, wl_1, wl_21, wl_22, wr_1, wr_21, wr_22, Sum.elim_inl, Sum.elim_inr, ↓reduceIte, Nat.reduceLT, Nat.reduceLeDiff, not_false_eq_true, not_true_eq_false, Nat.reduceEqDiff, Nat.reduceAdd, reduceCtorEq, and_true, true_and, and_false, false_and, false_or, or_false]
          · have hs' : ¬ nI (v (k + 1)) = nI (v k) := by rw [nI_eq (by omega) (by omega)]; exact hs
            have hl : (B (v k)).testBit (v (k + 1)) = true := by rcases hbad with z | z; exact absurd z hs; exact z
            rw [hl, mb_t1] at isn
            simp only [la_0, la_4, rm_0_4 hRm, rm_0_4 hRm2, kk1, kk2, en, en2, y2, i1, n10, p7', wi, hs', nI_add, c1, c2, eb2 (v k) (by omega), l3, isn, w2', gd_tt, oA_arr, px_obj_s, Option.bind_some, Option.map_some, Option.bind_none, eq_self, true_or, or_true, px_av_0, px_av_1, px_av_2, px_av_10, px_av_11, bn, wi_1, wi_2, wl_1, wl_21, wl_22, wr_1, wr_21, wr_22, Sum.elim_inl, Sum.elim_inr, ↓reduceIte, Nat.reduceLT, Nat.reduceLeDiff, not_false_eq_true, not_true_eq_false, Nat.reduceEqDiff, Nat.reduceAdd, reduceCtorEq, and_true, true_and, and_false, false_and, false_or, or_false]
      · have hs : v (k + 1) ≠ v k := fun z => hbad (Or.inl z)
        have hl : (B (v k)).testBit (v (k + 1)) = false := by
          cases z : (B (v k)).testBit (v (k + 1)) with
          | false => rfl
          | true => exact absurd (Or.inr z) hbad
        have hs' : ¬ nI (v (k + 1)) = nI (v k) := by rw [nI_eq (by omega) (by omega)]; exact hs
        rw [hl, mb_f0] at lk isn
        -- the class: the door, then on
        obtain ⟨σ4, τ4, w1, w2, w3, -⟩ := j_link hx y3 q2 r2 (fun z => hs z.symm)
        obtain ⟨σ5, τ5, x1, x2, x3, -⟩ := j_adv hx w3 (by omega)
        -- the model: on, then the door
        obtain ⟨σ6, τ6, u1, u2, u3, -⟩ := j_link hx z3 q2 r2 (fun z => hs z.symm)
        have hRm3 := (cx_t hx z3.1.1.2).1
        have p83 := z3.1.2.2.2.2.2.2.2
        have en3 := z3.2.2.1.1
        refine Or.inl ⟨σ5, τ6, ?_, ?_, k + 1 + 1, n, _, nr, S, C, ex_mix x3 u3, by omega, by omega⟩
        · unfold f_9022 f_9022_22 f_9022_63
          simp only [la_150, la_140, la_141, h9, q3, n10, y1, p2, r3, p22, hs', rc_150_3 hR2, rc_140_0 hR2, lk, w1, x1, gd_tt, oA_arr, px_obj_s, Option.bind_some, Option.map_some, Option.bind_none, eq_self, true_or, or_true, px_av_0, px_av_1, px_av_2, px_av_10, px_av_11, bn, wi_1, wi_2, wl_1, wl_21, wl_22, wr_1, wr_21, wr_22, Sum.elim_inl, Sum.elim_inr, ↓reduceIte, Nat.reduceLT, Nat.reduceLeDiff, not_false_eq_true, not_true_eq_false, Nat.reduceEqDiff, Nat.reduceAdd, reduceCtorEq, and_true, true_and, and_false, false_and, false_or, or_false]
        · unfold f_17 f_17_23 f_17_44 f_17_76 f_17_97
          simp only [la_0, la_4, rm_0_4 hRm, rm_0_4 hRm2, rm_0_4 hRm3, kk1, kk2, en, en2, y2, i1, n10, p7', wi, hs', nI_add, c1, c2, eb2 (v k) (by omega), l3, isn, z2, p83, u2, gd_tt, oA_arr, px_obj_s, Option.bind_some, Option.map_some, Option.bind_none, eq_self, true_or, or_true, px_av_0, px_av_1, px_av_2, px_av_10, px_av_11, bn, wi_1, wi_2, wl_1, wl_21, wl_22, wr_1, wr_21, wr_22, Sum.elim_inl, Sum.elim_inr, ↓reduceIte, Nat.reduceLT, Nat.reduceLeDiff, not_false_eq_true, not_true_eq_false, Nat.reduceEqDiff, Nat.reduceAdd, reduceCtorEq, and_true, true_and, and_false, false_and, false_or, or_false]
    · obtain ⟨f, f0, f5, f1⟩ := ded_x z3
      have fa : ¬ nI f = nI 0 := by rw [nI_eq (by omega) (by omega)]; exact f0
      refine Or.inr ⟨σ3, τ3, ?_, ?_, z3⟩
      · unfold f_9022 f_9022_22
        simp only [la_150, h9, q3, n10, y1, z1, gd_tt, oA_arr, px_obj_s, Option.bind_some, Option.map_some, Option.bind_none, eq_self, true_or, or_true, px_av_0, px_av_1, px_av_2, px_av_10, px_av_11, bn, wi_1, wi_2, wl_1, wl_21, wl_22, wr_1, wr_21, wr_22, Sum.elim_inl, Sum.elim_inr, ↓reduceIte, Nat.reduceLT, Nat.reduceLeDiff, not_false_eq_true, not_true_eq_false, Nat.reduceEqDiff, Nat.reduceAdd, reduceCtorEq, and_true, true_and, and_false, false_and, false_or, or_false]
      · have tl : f_17_76 tT τ2 0 (nI (v k)) = some τ3 := by
          unfold f_17_76
          simp only [la_0, la_4, rm_0_4 hRm2, kk1, kk2, en2, z2, f1, fa, gd_tt, oA_arr, px_obj_s, Option.bind_some, Option.map_some, Option.bind_none, eq_self, true_or, or_true, px_av_0, px_av_1, px_av_2, px_av_10, px_av_11, bn, wi_1, wi_2, wl_1, wl_21, wl_22, wr_1, wr_21, wr_22, Sum.elim_inl, Sum.elim_inr, ↓reduceIte, Nat.reduceLT, Nat.reduceLeDiff, not_false_eq_true, not_true_eq_false, Nat.reduceEqDiff, Nat.reduceAdd, reduceCtorEq, and_true, true_and, and_false, false_and, false_or, or_false]
        by_cases hq : κ (k + 1) = 16
        · rw [decide_eq_true hq, mb_t1] at i1
          have hv2 := (cx_k hx y3.1.2.1).2.1 hq
          have p7' := p7 hq
          have wi := w_in τ2 hv2 hn
          rw [decide_eq_false (fun z => r1 ⟨hq, z⟩), mb_f0] at wi
          unfold f_17 f_17_23
          simp only [la_0, la_4, rm_0_4 hRm, rm_0_4 hRm2, kk1, kk2, en, en2, y2, i1, n10, p7', wi, tl, gd_tt, oA_arr, px_obj_s, Option.bind_some, Option.map_some, Option.bind_none, eq_self, true_or, or_true, px_av_0, px_av_1, px_av_2, px_av_10, px_av_11, bn, wi_1, wi_2, wl_1, wl_21, wl_22, wr_1, wr_21, wr_22, Sum.elim_inl, Sum.elim_inr, ↓reduceIte, Nat.reduceLT, Nat.reduceLeDiff, not_false_eq_true, not_true_eq_false, Nat.reduceEqDiff, Nat.reduceAdd, reduceCtorEq, and_true, true_and, and_false, false_and, false_or, or_false]
        · rw [decide_eq_false hq, mb_f0] at i1
          unfold f_17
          simp only [la_0, la_4, rm_0_4 hRm, kk1, kk2, en, y2, i1, tl, gd_tt, oA_arr, px_obj_s, Option.bind_some, Option.map_some, Option.bind_none, eq_self, true_or, or_true, px_av_0, px_av_1, px_av_2, px_av_10, px_av_11, bn, wi_1, wi_2, wl_1, wl_21, wl_22, wr_1, wr_21, wr_22, Sum.elim_inl, Sum.elim_inr, ↓reduceIte, Nat.reduceLT, Nat.reduceLeDiff, not_false_eq_true, not_true_eq_false, Nat.reduceEqDiff, Nat.reduceAdd, reduceCtorEq, and_true, true_and, and_false, false_and, false_or, or_false]
  · obtain ⟨f, f0, f5, f1⟩ := ded_x y3
    have fa : ¬ nI f = nI 0 := by rw [nI_eq (by omega) (by omega)]; exact f0
    have hRm2 := (cx_t hx y3.1.2).1
    refine Or.inr ⟨σ2, τ2, ?_, ?_, y3⟩
    · unfold f_9022
      simp only [la_150, h9, y1, gd_tt, oA_arr, px_obj_s, Option.bind_some, Option.map_some, Option.bind_none, eq_self, true_or, or_true, px_av_0, px_av_1, px_av_2, px_av_10, px_av_11, bn, wi_1, wi_2, wl_1, wl_21, wl_22, wr_1, wr_21, wr_22, Sum.elim_inl, Sum.elim_inr, ↓reduceIte, Nat.reduceLT, Nat.reduceLeDiff, not_false_eq_true, not_true_eq_false, Nat.reduceEqDiff, Nat.reduceAdd, reduceCtorEq, and_true, true_and, and_false, false_and, false_or, or_false]
    · unfold f_17 f_17_76
      simp only [la_0, la_4, rm_0_4 hRm, rm_0_4 hRm2, kk1, kk2, en, y2, z_is f0 f5 f1, z_takes f0 f5 f1, f1, fa, gd_tt, oA_arr, px_obj_s, Option.bind_some, Option.map_some, Option.bind_none, eq_self, true_or, or_true, px_av_0, px_av_1, px_av_2, px_av_10, px_av_11, bn, wi_1, wi_2, wl_1, wl_21, wl_22, wr_1, wr_21, wr_22, Sum.elim_inl, Sum.elim_inr, ↓reduceIte, Nat.reduceLT, Nat.reduceLeDiff, not_false_eq_true, not_true_eq_false, Nat.reduceEqDiff, Nat.reduceAdd, reduceCtorEq, and_true, true_and, and_false, false_and, false_or, or_false]
end
