/-! mark: class and model alike -/
section
variable {σ τ : px_M} {t n : Nat} {B : Nat → Nat}
def upm (m : Nat → Nat) (k h : Nat) : Nat → Nat := fun x => if x = k then h else m x
theorem upm_s (m : Nat → Nat) (k h : Nat) : upm m k h k = h := by unfold upm; rw [if_pos rfl]
theorem upm_n {m : Nat → Nat} {k h x : Nat} (e : x ≠ k) : upm m k h x = m x := by unfold upm; rw [if_neg e]
/-- numberings that go on from one -/
def exq (n k : Nat) (m : Nat → Nat) (p : Nat → Nat) : Prop := pm n p ∧ ∀ i, i < k → p i = m i
/-- a beginning of a numbering -/
def bgn (n k : Nat) (m : Nat → Nat) : Prop := (∀ i, i < k → m i < n) ∧ ∀ i j, i < k → j < k → m i = m j → i = j
theorem bgn_up {k h : Nat} {m : Nat → Nat} (hb : bgn n k m) (hh : h < n) (hf : (tk m k).testBit h = false) : bgn n (k + 1) (upm m k h) := by
  have hne : ∀ i, i < k → m i ≠ h := fun i hi e => by
    have := (tk_tb m h k).mpr ⟨i, hi, e⟩
    rw [hf] at this; cases this
  refine ⟨fun i hi => ?_, fun i j hi hj e => ?_⟩
  · by_cases q : i = k
    · subst q; rw [upm_s]; exact hh
    · rw [upm_n q]; exact hb.1 i (by omega)
  · by_cases q1 : i = k
    · by_cases q2 : j = k
      · omega
      · subst q1; rw [upm_s, upm_n q2] at e; exact absurd e.symm (hne j (by omega))
    · by_cases q2 : j = k
      · subst q2; rw [upm_s, upm_n q1] at e; exact absurd e (hne i (by omega))
      · rw [upm_n q1, upm_n q2] at e; exact hb.2 i j (by omega) (by omega) e
theorem tk_up {k h : Nat} {m : Nat → Nat} : tk (upm m k h) (k + 1) = tk m k ||| 2 ^ h := by
  simp only [tk]
  rw [upm_s, tk_congr (q := m) (fun i hi => upm_n (by omega))]
theorem exq_up {k h : Nat} {m p : Nat → Nat} : exq n (k + 1) (upm m k h) p ↔ (exq n k m p ∧ p k = h) := by
  constructor
  · rintro ⟨h1, h2⟩
    refine ⟨⟨h1, fun i hi => ?_⟩, ?_⟩
    · rw [h2 i (by omega), upm_n (by omega)]
    · rw [h2 k (by omega), upm_s]
  · rintro ⟨⟨h1, h2⟩, h3⟩
    refine ⟨h1, fun i hi => ?_⟩
    by_cases q : i = k
    · subst q; rw [upm_s]; exact h3
    · rw [upm_n q]; exact h2 i (by omega)
theorem exq_no {k h : Nat} {m p : Nat → Nat} (hk : k < n) (hf : (tk m k).testBit h = true) : ¬ (exq n k m p ∧ p k = h) := by
  rintro ⟨⟨h1, h2⟩, h3⟩
  obtain ⟨i, z1, z2⟩ := (tk_tb m h k).mp hf
  have := h1.2 i k (by omega) hk (by rw [h2 i z1, z2, h3])
  omega
def KS (l j : Nat) : Bool := l == 191 || (l == 190 && j == 3)
theorem oI_lt (L : Option Nat) (v : Nat) (hL : ∀ u, L = some u → u < 2 ^ 31) (hv : v < 2 ^ 31) : (if oI L = -1 then nI v else (if nI v < oI L then nI v else oI L)) = oI (lmin L v) := by
  cases L with
  | none => rfl
  | some u =>
    have h1 := hL u rfl
    show (if nI u = -1 then nI v else (if nI v < nI u then nI v else nI u)) = nI (if v < u then v else u)
    rw [if_neg (nI_m1 h1)]
    by_cases q : v < u
    · rw [if_pos q, if_pos (by rw [nI_ltI hv h1]; exact q)]
    · rw [if_neg q, if_neg (by rw [nI_ltI hv h1]; exact q)]
theorem c_rowOf (hR : cR σ.2.2) (h1 : σ.2.2 190 1 = some t) (hc : ct σ t n B) {k h : Nat} {m : Nat → Nat} (hk : k ≤ 6) (hm : ∀ i, i < k → σ.1 191 i = nI (m i) ∧ m i < n) (hh : h < n) : f_6004 tT σ 190 (nI k) (nI h) = some (nI (bs (fun i => (B (m i)).testBit h) k)) := by
  have hn := hc.2.2.2.1.1
  unfold f_6004 f_6004_5
  refine lp_to (fun j => (nI (bs (fun i => (B (m i)).testBit h) j), nI j)) k (fun j hj => ?_) ?_ 0 (by omega)
  · obtain ⟨v, vl⟩ := hm j hj
    have lk := c_linked hc vl hh
    have a1 : ¬ nI k ≤ nI j := by rw [nI_leI (by omega) (by omega)]; omega
    have c1 : vp_in (nI j) 11 := (vp_in_eq (by omega)).mpr (by omega)
    have c2 : (nI j).toNatClampNeg = j := nI_clamp (by omega)
    dsimp only
    rw [bs_S]
    generalize bs (fun i => (B (m i)).testBit h) j = z
    unfold F_6004_5 f_6004_36
    cases hb : (B (m j)).testBit h with
    | false =>
      rw [hb, mb_f0] at lk
      simp only [a1, la_190, la_191, rc_190_0 hR, h1, hc.1, gd_tt, oA_arr, px_obj_s, Option.bind_some, Option.map_some, Option.bind_none, eq_self, true_or, or_true, px_av_0, px_av_1, px_av_2, px_av_10, px_av_11, bn, wi_1, wi_2, wl_1, wl_21, wl_22, wr_1, wr_21, wr_22, Sum.elim_inl, Sum.elim_inr, ↓reduceIte, Nat.reduceLT, Nat.reduceLeDiff, not_false_eq_true, not_true_eq_false, Nat.reduceEqDiff, Nat.reduceAdd, reduceCtorEq, and_true, true_and, and_false, false_and, false_or, or_false, c1, c2, v, lk, nI_add, Bool.false_eq_true, Nat.or_zero]
    | true =>
      rw [hb, mb_t1] at lk
      simp only [a1, la_190, la_191, rc_190_0 hR, h1, hc.1, gd_tt, oA_arr, px_obj_s, Option.bind_some, Option.map_some, Option.bind_none, eq_self, true_or, or_true, px_av_0, px_av_1, px_av_2, px_av_10, px_av_11, bn, wi_1, wi_2, wl_1, wl_21, wl_22, wr_1, wr_21, wr_22, Sum.elim_inl, Sum.elim_inr, ↓reduceIte, Nat.reduceLT, Nat.reduceLeDiff, not_false_eq_true, not_true_eq_false, Nat.reduceEqDiff, Nat.reduceAdd, reduceCtorEq, and_true, true_and, and_false, false_and, false_or, or_false, c1, c2, v, lk, n10, ni_1s (show j < 31 by omega), fa_or, nI_add]
  · have a1 : nI k ≤ nI k := by rw [nI_leI (by omega) (by omega)]; omega
    dsimp only
    unfold F_6004_5
    rw [if_pos a1]
theorem ni_shk {r k : Nat} (hr : r < 64) (hk : k ≤ 15) : nI r <<< (nI k &&& 31) = nI (r <<< k) := by
  have : ∀ k, k < 16 → ∀ r, r < 64 → nI r <<< (nI k &&& 31) = nI (r <<< k) := by decide +kernel
  exact this k (by omega) r hr
theorem c_num (hw : wf n B) (hn6 : n ≤ 6) : ∀ k j, j + k = n → ∀ d, k + 1 ≤ d → ∀ (σ : px_M) (m : Nat → Nat) (L : Option Nat), cR σ.2.2 → σ.2.2 190 1 = some t → (t ≠ 190 ∧ t ≠ 191 ∧ t + 1 ≠ 190 ∧ t + 1 ≠ 191) → ct σ t n B → bgn n j m → (∀ i, i < j → σ.1 191 i = nI (m i)) → σ.1 190 3 = oI L → (∀ u, L = some u → u < 32768) → ∃ υ L', f_6003 tT d σ 190 (nI j) (nI (tk m j)) (nI (mkS B m j)) = some υ ∧ υ.1 190 3 = oI L' ∧ LO (fun p => mkS B p n) (exq n j m) L L' ∧ (∀ u, L' = some u → u < 32768) ∧ fr KS σ υ ∧ ∀ i, i < j → υ.1 191 i = σ.1 191 i := by
  intro k
  induction k with
  | zero =>
    intro j hj d hd σ m L hR h1 ht hc hb hm hL hLb
    have hjn : j = n := by omega
    subst hjn
    obtain ⟨d, rfl⟩ : ∃ d', d = d' + 1 := ⟨d - 1, by omega⟩
    have hmk := mkS_15 (B := B) (p := m) (m := j) hn6
    have a1 : nI j ≤ nI j := by rw [nI_leI (by omega) (by omega)]; omega
    refine ⟨px_wi σ 190 3 (oI (lmin L (mkS B m j))), lmin L (mkS B m j), ?_, wi_s _ _ _ _, LO_one L (fun p hp => mkS_congr hp.2) ⟨m, hb, fun _ _ => rfl⟩, fun u hu => ?_, fr_wi (fr_rf _ _) _ rfl, fun i hi => wi_n (by decide)⟩
    · rw [f_6003_S]
      have e := oI_lt L (mkS B m j) (fun u hu => by have := hLb u hu; omega) (by omega)
      have e1 := hc.2.2.2.2.1
      unfold F_6003
      by_cases q : oI L = -1
      · rw [if_pos q] at e
        simp only [la_190, h1, hc.1, e1, a1, hL, q, gd_tt, oA_arr, px_obj_s, Option.bind_some, Option.map_some, Option.bind_none, eq_self, true_or, or_true, px_av_0, px_av_1, px_av_2, px_av_10, px_av_11, bn, wi_1, wi_2, wl_1, wl_21, wl_22, wr_1, wr_21, wr_22, Sum.elim_inl, Sum.elim_inr, ↓reduceIte, Nat.reduceLT, Nat.reduceLeDiff, not_false_eq_true, not_true_eq_false, Nat.reduceEqDiff, Nat.reduceAdd, reduceCtorEq, and_true, true_and, and_false, false_and, false_or, or_false, e]
      · rw [if_neg q] at e
        simp only [la_190, h1, hc.1, e1, a1, hL, q, gd_tt, oA_arr, px_obj_s, Option.bind_some, Option.map_some, Option.bind_none, eq_self, true_or, or_true, px_av_0, px_av_1, px_av_2, px_av_10, px_av_11, bn, wi_1, wi_2, wl_1, wl_21, wl_22, wr_1, wr_21, wr_22, Sum.elim_inl, Sum.elim_inr, ↓reduceIte, Nat.reduceLT, Nat.reduceLeDiff, not_false_eq_true, not_true_eq_false, Nat.reduceEqDiff, Nat.reduceAdd, reduceCtorEq, and_true, true_and, and_false, false_and, false_or, or_false, e]
    · cases L with
      | none => simp only [lmin, Option.some.injEq] at hu; omega
      | some w =>
        have := hLb w rfl
        simp only [lmin, Option.some.injEq] at hu
        split at hu <;> omega
  | succ k ih =>
    intro j hj d hd σ m L hR h1 ht hc hb hm hL hLb
    obtain ⟨d, rfl⟩ : ∃ d', d = d' + 1 := ⟨d - 1, by omega⟩
    obtain ⟨t1, t2, t3, t4⟩ := ht
    have hjn : j < n := by omega
    have e1 := hc.2.2.2.2.1
    have htl := tk_lt hb.1
    have hp := pw_le hw.1
    have o1 := ofs_t j (by omega)
    have a1 : ¬ nI n ≤ nI j := by rw [nI_leI (by omega) (by omega)]; omega
    have a2 : nI j < nI 6 := by rw [nI_ltI (by omega) (by omega)]; omega
    have a3 : ¬ nI 2 = nI 0 := by decide
    have c1 : vp_in (nI j) 11 := (vp_in_eq (by omega)).mpr (by omega)
    have c2 : (nI j).toNatClampNeg = j := nI_clamp (by omega)
    have hofs : nI j * (nI j - nI 1) / nI 2 = nI (ofs j) := by
      have : ∀ j, j < 6 → nI j * (nI j - nI 1) / nI 2 = nI (ofs j) := by decide
      exact this j (by omega)
    have lp : ∃ υ, f_6003_45 tT (f_6003 tT d) 190 (nI j) (nI (tk m j)) (nI (mkS B m j)) (nI 0) σ = some υ ∧ ∃ L', υ.1 190 3 = oI L' ∧ LO (fun p => mkS B p n) (exq n j m) L L' ∧ (∀ u, L' = some u → u < 32768) ∧ fr KS σ υ ∧ ∀ i, i < j → υ.1 191 i = σ.1 191 i := by
      unfold f_6003_45
      refine lp_for (F := fun s : Int32 × px_M => F_6003_45 tT (f_6003 tT d) 190 (nI j) (nI (tk m j)) (nI (mkS B m j)) s.1 s.2) (fun h q => ∃ ρ L', q = (nI h, ρ) ∧ ρ.1 190 3 = oI L' ∧ LO (fun p => mkS B p n) (fun p => exq n j m p ∧ p j < h) L L' ∧ (∀ u, L' = some u → u < 32768) ∧ fr KS σ ρ ∧ ∀ i, i < j → ρ.1 191 i = σ.1 191 i) _ n (fun h q hh hI => ?_) (fun q hI => ?_) 0 (nI 0, σ) (by omega) ⟨σ, L, rfl, hL, LO_no (fun p hp => by omega) L, hLb, fr_rf _ _, fun _ _ => rfl⟩
      · obtain ⟨ρ, L1, rfl, g1, g2, g3, g4, g5⟩ := hI
        have hRρ := cR_fr g4 hR
        have h1ρ : ρ.2.2 190 1 = some t := by rw [g4.2.2 190 1 (Or.inl rfl)]; exact h1
        have hcρ : ct ρ t n B := ct_fr g4 (fun i => by simp [KS, t1, t2]) (fun i => by
          cases hq : KS (t + 1) i with
          | false => rfl
          | true => simp only [KS, Bool.or_eq_true, Bool.and_eq_true, beq_iff_eq] at hq; omega) hc
        have e1ρ := hcρ.2.2.2.2.1
        have b1 : ¬ nI n ≤ nI h := by rw [nI_leI (by omega) (by omega)]; omega
        have tst := ni_tst (s := tk m j) (j := h) (by omega) (by omega)
        cases hf : (tk m j).testBit h with
        | true =>
          have tst' : ¬ (nI (tk m j) &&& (nI 1 <<< (nI h &&& 31)) = nI 0) := fun q => by rw [tst, hf] at q; cases q
          refine ⟨(nI (h + 1), ρ), ?_, ρ, L1, rfl, g1, LO_cg (fun p => ?_) g2, g3, g4, g5⟩
          · dsimp only
            unfold F_6003_45 f_6003_108
            simp only [la_190, h1ρ, hcρ.1, e1ρ, b1, gd_tt, oA_arr, px_obj_s, Option.bind_some, Option.map_some, Option.bind_none, eq_self, true_or, or_true, px_av_0, px_av_1, px_av_2, px_av_10, px_av_11, bn, wi_1, wi_2, wl_1, wl_21, wl_22, wr_1, wr_21, wr_22, Sum.elim_inl, Sum.elim_inr, ↓reduceIte, Nat.reduceLT, Nat.reduceLeDiff, not_false_eq_true, not_true_eq_false, Nat.reduceEqDiff, Nat.reduceAdd, reduceCtorEq, and_true, true_and, and_false, false_and, false_or, or_false, tst', nI_add]
          · constructor
            · rintro ⟨z1, z2⟩
              refine ⟨z1, ?_⟩
              by_cases q : p j = h
              · exact absurd ⟨z1, q⟩ (exq_no hjn hf)
              · omega
            · rintro ⟨z1, z2⟩; exact ⟨z1, by omega⟩
        | false =>
          have tst' := tst.mpr hf
          have tst2 : nI (tk m j) &&& nI (2 ^ h) = nI 0 := by rw [← ni_1s (show h < 31 by omega)]; exact tst'
          obtain ⟨ω, hω⟩ : ∃ ω, px_wi ρ 191 j (nI h) = ω := ⟨_, rfl⟩
          have w1 : fr KS ρ ω := by rw [← hω]; exact fr_wi (fr_rf _ _) _ rfl
          have hRω := cR_fr w1 hRρ
          have h1ω : ω.2.2 190 1 = some t := by rw [w1.2.2 190 1 (Or.inl rfl)]; exact h1ρ
          have hcω : ct ω t n B := ct_fr w1 (fun i => by simp [KS, t1, t2]) (fun i => by
            cases hq : KS (t + 1) i with
            | false => rfl
            | true => simp only [KS, Bool.or_eq_true, Bool.and_eq_true, beq_iff_eq] at hq; omega) hcρ
          have mω : ∀ i, i < j → ω.1 191 i = nI (m i) := fun i hi => by
            rw [← hω]
            show px_up ρ.1 191 j _ 191 i = _
            rw [up_s, if_neg (by omega), g5 i hi]; exact hm i hi
          have mω2 : ∀ i, i < j + 1 → ω.1 191 i = nI (upm m j h i) := fun i hi => by
            by_cases q : i = j
            · subst q; rw [upm_s, ← hω]; exact wi_s _ _ _ _
            · rw [upm_n q]; exact mω i (by omega)
          have hrow := c_rowOf hRω h1ω hcω (k := j) (h := h) (m := m) (by omega) (fun i hi => ⟨mω i hi, hb.1 i hi⟩) hh
          have hrl : bs (fun i => (B (m i)).testBit h) j < 64 := Nat.lt_of_lt_of_le (bs_2n _ (Nat.le_refl j)) (Nat.pow_le_pow_right (n := 2) (by omega) (show j ≤ 6 by omega))
          have hmkS : mkS B (upm m j h) (j + 1) = mkS B m j ||| (bs (fun i => (B (m i)).testBit h) j <<< ofs j) := by
            simp only [mkS]
            rw [mkS_congr (q := m) (fun i hi => upm_n (by omega))]
            congr 2
            apply tb_eq
            intro i
            rw [bs_tb, bs_tb, Bool.and_eq_true, Bool.and_eq_true, decide_eq_true_eq, upm_s]
            constructor
            · rintro ⟨z1, z2⟩; exact ⟨z1, by rw [upm_n (by omega)] at z2; exact z2⟩
            · rintro ⟨z1, z2⟩; exact ⟨z1, by rw [upm_n (by omega)]; exact z2⟩
          obtain ⟨υ, L2, y1, y2, y3, y4, y5, y6⟩ := ih (j + 1) (by omega) d (by omega) ω (upm m j h) L1 hRω h1ω ⟨t1, t2, t3, t4⟩ hcω (bgn_up hb hh hf) mω2 (by rw [← hω, wi_n (by decide)]; exact g1) g3
          rw [tk_up, hmkS] at y1
          refine ⟨(nI (h + 1), υ), ?_, υ, L2, rfl, y2, LO_tr (fun p => ?_) g2 y3, y4, fr_tr g4 (fr_tr w1 y5), fun i hi => ?_⟩
          · dsimp only
            unfold F_6003_45 f_6003_83 f_6003_108
            simp only [la_190, la_191, h1ρ, hcρ.1, e1ρ, b1, rc_190_0 hRρ, gd_tt, oA_arr, px_obj_s, Option.bind_some, Option.map_some, Option.bind_none, eq_self, true_or, or_true, px_av_0, px_av_1, px_av_2, px_av_10, px_av_11, bn, wi_1, wi_2, wl_1, wl_21, wl_22, wr_1, wr_21, wr_22, Sum.elim_inl, Sum.elim_inr, ↓reduceIte, Nat.reduceLT, Nat.reduceLeDiff, not_false_eq_true, not_true_eq_false, Nat.reduceEqDiff, Nat.reduceAdd, reduceCtorEq, and_true, true_and, and_false, false_and, false_or, or_false, tst', tst2, c1, c2, a3, hofs, hω, hrow, ni_shk hrl o1.2, ni_1s (show h < 31 by omega), fa_or, nI_add, y1]
          · rw [exq_up]
            constructor
            · rintro ⟨z1, z2⟩
              by_cases q : p j = h
              · exact Or.inr ⟨z1, q⟩
              · exact Or.inl ⟨z1, by omega⟩
            · rintro (⟨z1, z2⟩ | ⟨z1, z2⟩)
              · exact ⟨z1, by omega⟩
              · exact ⟨z1, by omega⟩
          · rw [y6 i (by omega), mω i hi]; exact (hm i hi).symm
      · obtain ⟨ρ, L1, rfl, g1, g2, g3, g4, g5⟩ := hI
        have h1ρ : ρ.2.2 190 1 = some t := by rw [g4.2.2 190 1 (Or.inl rfl)]; exact h1
        have e1ρ : ρ.1 t 0 = nI n := by rw [g4.1 t 0 (by simp [KS, t1, t2])]; exact e1
        have b1 : nI n ≤ nI n := by rw [nI_leI (by omega) (by omega)]; omega
        refine ⟨ρ, ?_, L1, g1, LO_cg (fun p => ⟨fun z => ⟨z, z.1.1 j hjn⟩, fun z => z.1⟩) g2, g3, g4, g5⟩
        dsimp only
        unfold F_6003_45
        simp only [la_190, h1ρ, hc.1, e1ρ, b1, gd_tt, oA_arr, px_obj_s, Option.bind_some, Option.map_some, Option.bind_none, eq_self, true_or, or_true, px_av_0, px_av_1, px_av_2, px_av_10, px_av_11, bn, wi_1, wi_2, wl_1, wl_21, wl_22, wr_1, wr_21, wr_22, Sum.elim_inl, Sum.elim_inr, ↓reduceIte, Nat.reduceLT, Nat.reduceLeDiff, not_false_eq_true, not_true_eq_false, Nat.reduceEqDiff, Nat.reduceAdd, reduceCtorEq, and_true, true_and, and_false, false_and, false_or, or_false]
    obtain ⟨υ, q1, L', q2⟩ := lp
    refine ⟨υ, L', ?_, q2⟩
    rw [f_6003_S]
    unfold F_6003
    simp only [la_190, h1, hc.1, e1, a1, a2, gd_tt, oA_arr, px_obj_s, Option.bind_some, Option.map_some, Option.bind_none, eq_self, true_or, or_true, px_av_0, px_av_1, px_av_2, px_av_10, px_av_11, bn, wi_1, wi_2, wl_1, wl_21, wl_22, wr_1, wr_21, wr_22, Sum.elim_inl, Sum.elim_inr, ↓reduceIte, Nat.reduceLT, Nat.reduceLeDiff, not_false_eq_true, not_true_eq_false, Nat.reduceEqDiff, Nat.reduceAdd, reduceCtorEq, and_true, true_and, and_false, false_and, false_or, or_false, q1]
end
