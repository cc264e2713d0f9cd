/-! telling: the helper's pieces -/
section
variable {σ τ : px_M} {n g : Nat} {B : Nat → Nat}
/-- the helper's town, tables and goal -/
def gsA (σ : px_M) (n : Nat) (B : Nat → Nat) (g : Nat) : Prop := cR σ.2.2 ∧ σ.2.2 180 3 = some 111 ∧ ct σ 111 n B ∧ ft σ 181 n B ∧ (∀ h, h < n → σ.1 184 h = nI (eld B h h)) ∧ σ.1 180 4 = nI g
theorem ft_on {υ : px_M} {f k : Nat} (h : fr (on k) σ υ) (h1 : k ≠ f) (h2 : k ≠ f + 1) (hf : ft σ f n B) : ft υ f n B := by
  obtain ⟨a1, a2, a3, a4, a5, a6⟩ := hf
  have o1 : ∀ j, on k f j = false := fun j => by simp only [on, beq_eq_false_iff_ne]; exact Ne.symm h1
  have o2 : ∀ j, on k (f + 1) j = false := fun j => by simp only [on, beq_eq_false_iff_ne]; exact Ne.symm h2
  exact ⟨a1, a2, by rw [h.2.2 f 0 (Or.inl (o1 0))]; exact a3, a4, by rw [h.1 f 1 (o1 1)]; exact a5, fun s hs => by rw [h.1 (f + 1) s (o2 s)]; exact a6 s hs⟩
theorem gsA_fr {υ : px_M} (h : fr (on 183) σ υ) (hg : gsA σ n B g) : gsA υ n B g := by
  obtain ⟨g1, g2, g3, g4, g5, g6⟩ := hg
  exact ⟨cR_fr h g1, by rw [h.2.2 180 3 (Or.inl rfl)]; exact g2, ct_fr h (fun _ => rfl) (fun _ => rfl) g3, ft_on h (by decide) (by decide) g4, fun x hx => by rw [h.1 184 x rfl]; exact g5 x hx, by rw [h.1 180 4 rfl]; exact g6⟩
theorem ar_lt2 (hw : wf n B) (s : Nat) : ar B n s < 2 ^ n := by
  apply Nat.lt_pow_two_of_testBit
  intro i hi
  cases hb : (ar B n s).testBit i with
  | false => rfl
  | true =>
    obtain ⟨j, -, -, j3⟩ := ar_tb.mp hb
    have := tb_lt (hw.2.1 j) j3
    omega
theorem ev_4010 (hR : cR σ.2.2) {H S TT x4 x5 X A u w : Int32} (b1 : ¬ nI 2048 ≤ x5) (hX : x4 ||| ((nI 1) <<< (H &&& 31)) = X) (hA : f_3003 tT σ 181 X = some A) (hw : f_21000 tT σ (A &&& S) = some w) (hu : f_21000 tT σ X = some u) : F_4010_6 tT σ 180 H S TT x4 x5 = if u ≤ w then (if x4 = nI 0 then some (.inr (nI 1)) else some (.inl ((x4 - nI 1) &&& TT, x5 + nI 1))) else some (.inr (nI 0)) := by
  unfold F_4010_6
  rw [if_neg b1, hX]
  unfold f_4010_22
  simp (implicitDefEqProofs := false) only [la_180, la_181, rc_180_0 hR, hA, hw, hu, gd_tt, oA_arr, px_obj_s, Option.bind_some, Option.map_some, Option.bind_none, eq_self, true_or, or_true, px_av_0, px_av_1, px_av_2, px_av_10, px_av_11, bn, wi_1, wi_2, wl_1, wl_21, wl_22, wr_1, wr_21, wr_22, Sum.elim_inl, Sum.elim_inr, ↓reduceIte, Nat.reduceLT, Nat.reduceLeDiff, not_false_eq_true, not_true_eq_false, Nat.reduceEqDiff, Nat.reduceAdd, reduceCtorEq, and_true, true_and, and_false, false_and, false_or, or_false]
  by_cases h1 : u ≤ w
  · rw [if_pos h1, if_pos h1]
    by_cases h2 : x4 = nI 0
    · rw [if_pos h2, if_pos h2]; rfl
    · rw [if_neg h2, if_neg h2]; rfl
  · rw [if_neg h1, if_neg h1]
theorem c_cbt (hg : gsA σ n B g) {h s T : Nat} (hh : h < n) (hs : s < 2 ^ n) (hT : T < 2 ^ n) (hl : hll n B s T) : ∃ b, f_4010 tT σ 180 (nI h) (nI s) (nI T) = some b ∧ b = mb (cbt n B h s T) := by
  obtain ⟨hR, g2, g3, g4, g5, g6⟩ := hg
  have hw := g3.2.2.2.1
  have hn := hw.1
  have hsl := lt_2048 hn hs
  have hTl := lt_2048 hn hT
  have h1h := ni_1s (j := h) (by omega)
  have hph : 2 ^ h < 2 ^ n := Nat.pow_lt_pow_right (by omega) hh
  unfold f_4010 f_4010_6
  refine lp_rel (F := fun q : Int32 × Int32 => F_4010_6 tT σ 180 (nI h) (nI s) (nI T) q.1 q.2) (fun j q => ∃ x, q = (nI x, nI j) ∧ sbs x T ∧ x + j ≤ T ∧ ∀ L, sbs L T → x < L → bc 11 (L ||| 2 ^ h) ≤ tls n B s (L ||| 2 ^ h)) _ T (fun j q hj hI => ?_) 0 (nI T, nI 0) (by omega) ⟨T, rfl, sbs_rf _, by omega, fun L hL hlt => ?_⟩
  · obtain ⟨x, rfl, x1, x2, x3⟩ := hI
    have b1 : ¬ nI 2048 ≤ nI j := by rw [nI_leI (by omega) (by omega)]; omega
    have hxn : x < 2 ^ n := sbs_lt x1 hT
    have hLn : x ||| 2 ^ h < 2 ^ n := or_ltn hxn hph
    have hLl := lt_2048 hn hLn
    have a1 := c_aroundOf g4 hLn
    have a2 : ar B n (x ||| 2 ^ h) &&& s < 2048 := and_lt (ar_ltn hw)
    have a3 := e_bitCount σ a2
    have a4 := e_bitCount σ hLl
    have c1 := bc_le 11 (ar B n (x ||| 2 ^ h) &&& s)
    have c2 := bc_le 11 (x ||| 2 ^ h)
    have hiff : (bc 11 (x ||| 2 ^ h) ≤ tls n B s (x ||| 2 ^ h)) ↔ (bc 11 (x ||| 2 ^ h) ≤ bc 11 (ar B n (x ||| 2 ^ h) &&& s)) := Iff.rfl
    obtain ⟨u, hu⟩ : ∃ u, bc 11 (x ||| 2 ^ h) = u := ⟨_, rfl⟩
    obtain ⟨w, hw'⟩ : ∃ w, bc 11 (ar B n (x ||| 2 ^ h) &&& s) = w := ⟨_, rfl⟩
    rw [hu] at a4 c2
    rw [hw'] at a3 c1
    rw [hw', hu] at hiff
    have hX : nI x ||| (nI 1 <<< (nI h &&& 31)) = nI (x ||| 2 ^ h) := by rw [h1h, fa_or]
    rw [← fa_and] at a3
    have hev := ev_4010 (TT := nI T) hR b1 hX a1 a3 a4
    by_cases hc : u ≤ w
    · have hc' : nI u ≤ nI w := by rw [nI_leI (by omega) (by omega)]; exact hc
      have hcq : bc 11 (x ||| 2 ^ h) ≤ tls n B s (x ||| 2 ^ h) := by rw [hu]; exact hiff.mpr hc
      by_cases hx0 : x = 0
      · have z0 : nI x = nI 0 := by rw [hx0]
        refine Or.inr ⟨nI 1, ?_, ?_⟩
        · dsimp only
          rw [hev, if_pos hc', if_pos z0]
        · have : cbt n B h s T = true := cbt_t.mpr (fun L hL => by
            have hLl' : L < 2048 := sbs_lt (n := 11) hL (or_lt hTl (lt_2048 hn hph))
            by_cases hLh : L.testBit h = true
            · have hLe : nd L (2 ^ h) ||| 2 ^ h = L := sbs_eq (sbs_or (fun y hy => ((nd_tt hLl' y).mp hy).1) (sbs_pw hLh)) (fun y hy => by
                by_cases e : y = h
                · subst e; rw [Nat.testBit_or, Nat.testBit_two_pow_self, Bool.or_true]
                · exact sbs_l _ _ y ((nd_tt hLl' y).mpr ⟨hy, e⟩))
              have hLs : sbs (nd L (2 ^ h)) T := fun y hy => by
                obtain ⟨y1, y2⟩ := (nd_tt hLl' y).mp hy
                have := hL y y1
                rw [Nat.testBit_or, Nat.testBit_two_pow, decide_eq_false (Ne.symm y2), Bool.or_false] at this
                exact this
              rcases Nat.eq_zero_or_pos (nd L (2 ^ h)) with z | z
              · rw [← hLe, z]
                rw [hx0] at hcq
                exact hcq
              · have := x3 _ hLs (by omega)
                rw [hLe] at this
                exact this
            · exact hl L (fun y hy => by
                have := hL y hy
                rw [Nat.testBit_or, Bool.or_eq_true, Nat.testBit_two_pow, decide_eq_true_eq] at this
                rcases this with z | z
                · exact z
                · exact absurd (by rw [z]; exact hy) hLh))
          rw [this, mb_t1]
      · have z0 : ¬ nI x = nI 0 := by rw [nI_eq (by omega) (by omega)]; exact hx0
        have hy : (x - 1) &&& T ≤ x - 1 := Nat.and_le_left
        refine Or.inl ⟨(nI ((x - 1) &&& T), nI (j + 1)), ?_, by omega, (x - 1) &&& T, rfl, sbs_ar _ _, by omega, fun L hL hlt => ?_⟩
        · have hsub : nI x - nI 1 = nI (x - 1) := ni_subL (by omega)
          dsimp only
          rw [hev, if_pos hc', if_neg z0, hsub, fa_and, nI_add]
        · by_cases e : L = x
          · rw [e]; exact hcq
          · by_cases e2 : x < L
            · exact x3 L hL e2
            · have := sub_pred T x L (sub_iff.mpr x1) (sub_iff.mpr hL) (by omega)
              omega
    · have hc' : ¬ nI u ≤ nI w := by rw [nI_leI (by omega) (by omega)]; exact hc
      refine Or.inr ⟨nI 0, ?_, ?_⟩
      · dsimp only
        rw [hev, if_neg hc']
      · have : cbt n B h s T = false := by
          cases z : cbt n B h s T with
          | false => rfl
          | true =>
            have := cbt_t.mp z (x ||| 2 ^ h) (sbs_or (sbs_tr x1 (sbs_l _ _)) (sbs_r _ _))
            rw [hu] at this
            exact absurd (hiff.mp this) hc
        rw [this, mb_f0]
  · exfalso
    have := Nat.le_of_lt_succ (Nat.lt_succ_of_le (show L ≤ T by rw [← sub_iff.mpr hL]; exact Nat.and_le_right))
    omega
theorem c_most (hg : gsA σ n B g) {s : Nat} (hs : s < 2 ^ n) : ∃ b, f_4009 tT σ 180 (nI s) = some b ∧ b = nI (bc 11 (grd n B s n)) := by
  obtain ⟨hR, g2, g3, g4, g5, g6⟩ := id hg
  have hw := g3.2.2.2.1
  have hn := hw.1
  have hsl := lt_2048 hn hs
  have l1 := g3.1
  have e1 := g3.2.2.2.2.1
  unfold f_4009 f_4009_4
  refine lp_for (F := fun q : Int32 × Int32 => F_4009_4 tT σ 180 (nI s) q.1 q.2) (fun j q => q = (nI (grd n B s j), nI j)) _ n (fun j q hj hI => ?_) (fun q hI => ?_) 0 (nI 0, nI 0) (by omega) rfl
  · subst hI
    have b1 : ¬ nI n ≤ nI j := by rw [nI_leI (by omega) (by omega)]; omega
    have h1j := ni_1s (j := j) (by omega)
    have tst := ni_tst2 (s := s) (j := j) (by omega)
    have hlt : grd n B s j < 2 ^ n := Nat.lt_of_lt_of_le (grd_lt j) (Nat.pow_le_pow_right (by omega) (by omega))
    refine ⟨_, ?_, rfl⟩
    dsimp only
    cases hb : s.testBit j with
    | true =>
      have t' : ¬ nI (s &&& 2 ^ j) = nI 0 := fun q => by rw [tst, hb] at q; cases q
      have e : grd n B s (j + 1) = grd n B s j := by simp [grd, hb]
      rw [e]
      unfold F_4009_4 f_4009_39
      simp only [la_180, g2, l1, e1, b1, h1j, fa_and, t', nI_add, gd_tt, oA_arr, px_obj_s, Option.bind_some, Option.map_some, Option.bind_none, eq_self, true_or, or_true, px_av_0, px_av_1, px_av_2, px_av_10, px_av_11, bn, wi_1, wi_2, wl_1, wl_21, wl_22, wr_1, wr_21, wr_22, Sum.elim_inl, Sum.elim_inr, ↓reduceIte, Nat.reduceLT, Nat.reduceLeDiff, not_false_eq_true, not_true_eq_false, Nat.reduceEqDiff, Nat.reduceAdd, reduceCtorEq, and_true, true_and, and_false, false_and, false_or, or_false]
    | false =>
      have t' := tst.mpr hb
      obtain ⟨b, c1, rfl⟩ := c_cbt hg hj hs hlt (grd_ok j).1
      cases hc : cbt n B j s (grd n B s j) with
      | true =>
        rw [hc, mb_t1] at c1
        have e : grd n B s (j + 1) = grd n B s j ||| 2 ^ j := by simp [grd, hb, hc]
        rw [e]
        unfold F_4009_4 f_4009_39
        simp only [la_180, g2, l1, e1, b1, h1j, fa_and, t', c1, n10, fa_or, nI_add, gd_tt, oA_arr, px_obj_s, Option.bind_some, Option.map_some, Option.bind_none, eq_self, true_or, or_true, px_av_0, px_av_1, px_av_2, px_av_10, px_av_11, bn, wi_1, wi_2, wl_1, wl_21, wl_22, wr_1, wr_21, wr_22, Sum.elim_inl, Sum.elim_inr, ↓reduceIte, Nat.reduceLT, Nat.reduceLeDiff, not_false_eq_true, not_true_eq_false, Nat.reduceEqDiff, Nat.reduceAdd, reduceCtorEq, and_true, true_and, and_false, false_and, false_or, or_false]
      | false =>
        rw [hc, mb_f0] at c1
        have e : grd n B s (j + 1) = grd n B s j := by simp [grd, hb, hc]
        rw [e]
        unfold F_4009_4 f_4009_39
        simp only [la_180, g2, l1, e1, b1, h1j, fa_and, t', c1, nI_add, gd_tt, oA_arr, px_obj_s, Option.bind_some, Option.map_some, Option.bind_none, eq_self, true_or, or_true, px_av_0, px_av_1, px_av_2, px_av_10, px_av_11, bn, wi_1, wi_2, wl_1, wl_21, wl_22, wr_1, wr_21, wr_22, Sum.elim_inl, Sum.elim_inr, ↓reduceIte, Nat.reduceLT, Nat.reduceLeDiff, not_false_eq_true, not_true_eq_false, Nat.reduceEqDiff, Nat.reduceAdd, reduceCtorEq, and_true, true_and, and_false, false_and, false_or, or_false]
  · subst hI
    have b1 : nI n ≤ nI n := by rw [nI_leI (by omega) (by omega)]; omega
    have a1 := e_bitCount σ (lt_2048 hn (grd_lt (n := n) (B := B) (s := s) n))
    refine ⟨_, ?_, rfl⟩
    dsimp only
    unfold F_4009_4
    simp only [la_180, g2, l1, e1, b1, a1, gd_tt, oA_arr, px_obj_s, Option.bind_some, Option.map_some, Option.bind_none, eq_self, true_or, or_true, px_av_0, px_av_1, px_av_2, px_av_10, px_av_11, bn, wi_1, wi_2, wl_1, wl_21, wl_22, wr_1, wr_21, wr_22, Sum.elim_inl, Sum.elim_inr, ↓reduceIte, Nat.reduceLT, Nat.reduceLeDiff, not_false_eq_true, not_true_eq_false, Nat.reduceEqDiff, Nat.reduceAdd, reduceCtorEq, and_true, true_and, and_false, false_and, false_or, or_false]
/-- whether a house is next -/
def nxh (n : Nat) (B : Nat → Nat) (h s T : Nat) : Bool := !s.testBit h && (ar B n s).testBit h && decide (nd (nd (eld B h h) s) T = 0)
theorem c_isNext (hg : gsA σ n B g) {h s T : Nat} (hh : h < n) (hs : s < 2 ^ n) (hT : T < 2 ^ n) : f_4008 tT σ 180 (nI h) (nI s) (nI T) = some (mb (nxh n B h s T)) := by
  obtain ⟨hR, g2, g3, g4, g5, g6⟩ := hg
  have hw := g3.2.2.2.1
  have hn := hw.1
  have hsl := lt_2048 hn hs
  have h1h := ni_1s (j := h) (by omega)
  have tst := ni_tst2 (s := s) (j := h) (by omega)
  have a1 := c_aroundOf g4 hs
  have hal := ar_ltn (s := s) hw
  have tst2 := ni_tst2 (s := ar B n s) (j := h) (by omega)
  have hel : eld B h h < 2048 := bs_lt (by omega)
  have c1 : vp_in (nI h) 11 := (vp_in_eq (by omega)).mpr (by omega)
  have c2 : (nI h).toNatClampNeg = h := nI_clamp (by omega)
  have hE := g5 h hh
  have n1 := ni_nd (s := s) hel
  have n2 := ni_nd (s := T) (nd_lt (s := s) hel)
  have hl2 : nd (nd (eld B h h) s) T < 2048 := nd_lt (nd_lt hel)
  unfold nxh
  cases hb : s.testBit h with
  | true =>
    have t' : ¬ nI (s &&& 2 ^ h) = nI 0 := fun q => by rw [tst, hb] at q; cases q
    unfold f_4008 f_4008_5 f_4008_47
    simp only [h1h, fa_and, t', gd_tt, oA_arr, px_obj_s, Option.bind_some, Option.map_some, Option.bind_none, eq_self, true_or, or_true, px_av_0, px_av_1, px_av_2, px_av_10, px_av_11, bn, wi_1, wi_2, wl_1, wl_21, wl_22, wr_1, wr_21, wr_22, Sum.elim_inl, Sum.elim_inr, ↓reduceIte, Nat.reduceLT, Nat.reduceLeDiff, not_false_eq_true, not_true_eq_false, Nat.reduceEqDiff, Nat.reduceAdd, reduceCtorEq, and_true, true_and, and_false, false_and, false_or, or_false]
    rfl
  | false =>
    have t' := tst.mpr hb
    cases hb2 : (ar B n s).testBit h with
    | false =>
      have t2' := tst2.mpr hb2
      unfold f_4008 f_4008_5 f_4008_47
      simp only [h1h, fa_and, t', la_180, la_181, rc_180_0 hR, a1, t2', gd_tt, oA_arr, px_obj_s, Option.bind_some, Option.map_some, Option.bind_none, eq_self, true_or, or_true, px_av_0, px_av_1, px_av_2, px_av_10, px_av_11, bn, wi_1, wi_2, wl_1, wl_21, wl_22, wr_1, wr_21, wr_22, Sum.elim_inl, Sum.elim_inr, ↓reduceIte, Nat.reduceLT, Nat.reduceLeDiff, not_false_eq_true, not_true_eq_false, Nat.reduceEqDiff, Nat.reduceAdd, reduceCtorEq, and_true, true_and, and_false, false_and, false_or, or_false]
      rfl
    | true =>
      have t2' : ¬ nI (ar B n s &&& 2 ^ h) = nI 0 := fun q => by rw [tst2, hb2] at q; cases q
      by_cases hz : nd (nd (eld B h h) s) T = 0
      · have z' : (nI (nd (nd (eld B h h) s) T) = nI 0) = True := eq_true (by rw [hz])
        rw [decide_eq_true hz]
        unfold f_4008 f_4008_5 f_4008_47
        simp only [h1h, fa_and, t', la_180, la_181, la_184, rc_180_0 hR, rc_180_2 hR, a1, t2', c1, c2, hE, n1, n2, z', gd_tt, oA_arr, px_obj_s, Option.bind_some, Option.map_some, Option.bind_none, eq_self, true_or, or_true, px_av_0, px_av_1, px_av_2, px_av_10, px_av_11, bn, wi_1, wi_2, wl_1, wl_21, wl_22, wr_1, wr_21, wr_22, Sum.elim_inl, Sum.elim_inr, ↓reduceIte, Nat.reduceLT, Nat.reduceLeDiff, not_false_eq_true, not_true_eq_false, Nat.reduceEqDiff, Nat.reduceAdd, reduceCtorEq, and_true, true_and, and_false, false_and, false_or, or_false]
        rfl
      · have z' : ¬ nI (nd (nd (eld B h h) s) T) = nI 0 := by rw [nI_eq (by omega) (by omega)]; exact hz
        rw [decide_eq_false hz]
        unfold f_4008 f_4008_5 f_4008_47
        simp only [h1h, fa_and, t', la_180, la_181, la_184, rc_180_0 hR, rc_180_2 hR, a1, t2', c1, c2, hE, n1, n2, z', gd_tt, oA_arr, px_obj_s, Option.bind_some, Option.map_some, Option.bind_none, eq_self, true_or, or_true, px_av_0, px_av_1, px_av_2, px_av_10, px_av_11, bn, wi_1, wi_2, wl_1, wl_21, wl_22, wr_1, wr_21, wr_22, Sum.elim_inl, Sum.elim_inr, ↓reduceIte, Nat.reduceLT, Nat.reduceLeDiff, not_false_eq_true, not_true_eq_false, Nat.reduceEqDiff, Nat.reduceAdd, reduceCtorEq, and_true, true_and, and_false, false_and, false_or, or_false]
        rfl
theorem ni_shl2 {a r : Nat} (ha : a ≤ 11) (hr : r ≤ 10) : nI a <<< (nI r &&& 31) = nI (a * 2 ^ r) := by
  have key : ∀ a, a < 12 → ∀ r, r < 11 → nI a <<< (nI r &&& 31) = nI (a * 2 ^ r) := by decide +kernel
  exact key a (by omega) r (by omega)
/-- whether all might know -/
def mgt (n : Nat) (B : Nat → Nat) (g r s : Nat) : Bool := decide (rc B n r s = g) && decide (bc 11 g ≤ bc 11 s * 2 ^ r)
theorem c_might (hg : gsA σ n B g) (hgl : g < 2048) {s r : Nat} (hs : s < 2 ^ n) (hr : r ≤ 10) : ∃ b, f_4006 tT σ 180 (nI s) (nI r) = some b ∧ b = mb (mgt n B g r s) := by
  obtain ⟨hR, g2, g3, g4, g5, g6⟩ := hg
  have hw := g3.2.2.2.1
  have hn := hw.1
  have hsl := lt_2048 hn hs
  have hB : ∀ a, a < n → B a < 2048 := fun j _ => lt_2048 hn (hw.2.1 j)
  have hrl : ∀ j, rc B n j s < 2 ^ n := by
    intro j
    induction j with
    | zero => exact hs
    | succ j ih => exact or_ltn ih (ar_lt2 hw _)
  unfold f_4006 f_4006_5
  refine lp_for (F := fun q : Int32 × Int32 => F_4006_5 tT σ 180 (nI s) (nI r) q.1 q.2) (fun j q => q = (nI (rc B n j s), nI j)) _ r (fun j q hj hI => ?_) (fun q hI => ?_) 0 (nI s, nI 0) (by omega) rfl
  · subst hI
    have b1 : ¬ nI r ≤ nI j := by rw [nI_leI (by omega) (by omega)]; omega
    have b2 : ¬ nI 11 ≤ nI j := by rw [nI_leI (by omega) (by omega)]; omega
    have a1 := c_aroundOf g4 (hrl j)
    refine ⟨_, ?_, rfl⟩
    dsimp only
    unfold F_4006_5 f_4006_29
    simp only [b1, b2, la_180, la_181, rc_180_0 hR, a1, fa_or, nI_add, gd_tt, oA_arr, px_obj_s, Option.bind_some, Option.map_some, Option.bind_none, eq_self, true_or, or_true, px_av_0, px_av_1, px_av_2, px_av_10, px_av_11, bn, wi_1, wi_2, wl_1, wl_21, wl_22, wr_1, wr_21, wr_22, Sum.elim_inl, Sum.elim_inr, ↓reduceIte, Nat.reduceLT, Nat.reduceLeDiff, not_false_eq_true, not_true_eq_false, Nat.reduceEqDiff, Nat.reduceAdd, reduceCtorEq, and_true, true_and, and_false, false_and, false_or, or_false]
    rfl
  · subst hI
    have b1 : nI r ≤ nI r := by rw [nI_leI (by omega) (by omega)]; omega
    have a1 := e_bitCount σ hsl
    have a2 := e_bitCount σ hgl
    have s1 := ni_shl2 (bc_le 11 s) hr
    have c1 := bc_le 11 s
    have c2 := bc_le 11 g
    have hrc := lt_2048 hn (hrl r)
    have h2 : bc 11 s * 2 ^ r ≤ 11 * 1024 := Nat.mul_le_mul c1 (Nat.pow_le_pow_right (n := 2) (j := 10) (by omega) hr)
    refine ⟨_, ?_, rfl⟩
    dsimp only
    unfold mgt
    by_cases e : rc B n r s = g
    · have e' : (nI (rc B n r s) = nI g) = True := eq_true (by rw [e])
      rw [decide_eq_true e, Bool.true_and]
      by_cases hc : bc 11 g ≤ bc 11 s * 2 ^ r
      · have hc' : ¬ nI (bc 11 s * 2 ^ r) < nI (bc 11 g) := by rw [nI_ltI (by omega) (by omega)]; omega
        rw [decide_eq_true hc]
        unfold F_4006_5 f_4006_59
        simp only [b1, la_180, g6, e', a1, a2, s1, hc', gd_tt, oA_arr, px_obj_s, Option.bind_some, Option.map_some, Option.bind_none, eq_self, true_or, or_true, px_av_0, px_av_1, px_av_2, px_av_10, px_av_11, bn, wi_1, wi_2, wl_1, wl_21, wl_22, wr_1, wr_21, wr_22, Sum.elim_inl, Sum.elim_inr, ↓reduceIte, Nat.reduceLT, Nat.reduceLeDiff, not_false_eq_true, not_true_eq_false, Nat.reduceEqDiff, Nat.reduceAdd, reduceCtorEq, and_true, true_and, and_false, false_and, false_or, or_false]
        rfl
      · have hc' : nI (bc 11 s * 2 ^ r) < nI (bc 11 g) := by rw [nI_ltI (by omega) (by omega)]; omega
        rw [decide_eq_false hc]
        unfold F_4006_5 f_4006_63
        simp only [b1, la_180, g6, e', a1, a2, s1, hc', gd_tt, oA_arr, px_obj_s, Option.bind_some, Option.map_some, Option.bind_none, eq_self, true_or, or_true, px_av_0, px_av_1, px_av_2, px_av_10, px_av_11, bn, wi_1, wi_2, wl_1, wl_21, wl_22, wr_1, wr_21, wr_22, Sum.elim_inl, Sum.elim_inr, ↓reduceIte, Nat.reduceLT, Nat.reduceLeDiff, not_false_eq_true, not_true_eq_false, Nat.reduceEqDiff, Nat.reduceAdd, reduceCtorEq, and_true, true_and, and_false, false_and, false_or, or_false]
        rfl
    · have e' : ¬ nI (rc B n r s) = nI g := by rw [nI_eq (by omega) (by omega)]; exact e
      rw [decide_eq_false e, Bool.false_and]
      unfold F_4006_5 f_4006_63
      simp only [b1, la_180, g6, e', gd_tt, oA_arr, px_obj_s, Option.bind_some, Option.map_some, Option.bind_none, eq_self, true_or, or_true, px_av_0, px_av_1, px_av_2, px_av_10, px_av_11, bn, wi_1, wi_2, wl_1, wl_21, wl_22, wr_1, wr_21, wr_22, Sum.elim_inl, Sum.elim_inr, ↓reduceIte, Nat.reduceLT, Nat.reduceLeDiff, not_false_eq_true, not_true_eq_false, Nat.reduceEqDiff, Nat.reduceAdd, reduceCtorEq, and_true, true_and, and_false, false_and, false_or, or_false]
      rfl
end
