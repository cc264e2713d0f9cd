/-! selves, alike: the class -/
section
variable {σ τ : px_M} {t u n : Nat} {B D : Nat → Nat}
/-- kin's two towns -/
def kin (σ : px_M) (t u n : Nat) (B D : Nat → Nat) : Prop := cR σ.2.2 ∧ σ.2.2 190 1 = some t ∧ σ.2.2 190 2 = some u ∧ (t ≠ 191 ∧ t + 1 ≠ 191 ∧ u ≠ 191 ∧ u + 1 ≠ 191) ∧ ct σ t n B ∧ ct σ u n D
theorem kin_fr {υ : px_M} (h : fr (on 191) σ υ) (hk : kin σ t u n B D) : kin υ t u n B D := by
  obtain ⟨k1, k2, k3, ⟨k4, k5, k6, k7⟩, k8, k9⟩ := hk
  exact ⟨cR_fr h k1, by rw [h.2.2 190 1 (Or.inl rfl)]; exact k2, by rw [h.2.2 190 2 (Or.inl rfl)]; exact k3, ⟨k4, k5, k6, k7⟩, ct_fr h (fun j => by simp [on, k4]) (fun j => by simp only [on, beq_eq_false_iff_ne]; exact k5) k8, ct_fr h (fun j => by simp [on, k6]) (fun j => by simp only [on, beq_eq_false_iff_ne]; exact k7) k9⟩
def fitD (B D : Nat → Nat) (h x : Nat) (m : Nat → Nat) : Bool := decide (bc 11 (B h) = bc 11 (D x)) && decide (∀ i, i < h → (B i).testBit h = (D (m i)).testBit x)
theorem c_fits (hk : kin σ t u n B D) {h x : Nat} {m : Nat → Nat} (hh : h < n) (hx : x < n) (hm : ∀ i, i < h → σ.1 191 i = nI (m i) ∧ m i < n) : f_6008 tT σ 190 (nI h) (nI x) = some (mb (fitD B D h x m)) := by
  obtain ⟨hR, h1, h2, -, hc, hd⟩ := hk
  have hn := hc.2.2.2.1.1
  have d1 := c_doorsOf hc hh
  have d2 := c_doorsOf hd hx
  have b1 := bc_le 11 (B h)
  have b2 := bc_le 11 (D x)
  unfold fitD
  by_cases hq : bc 11 (B h) = bc 11 (D x)
  · have z : (nI (bc 11 (B h)) = nI (bc 11 (D x))) = True := eq_true (by rw [hq])
    rw [decide_eq_true hq, Bool.true_and]
    have lp : ∃ b, f_6008_23 tT σ 190 (nI h) (nI x) (nI 0) = some b ∧ b = mb (decide (∀ i, i < h → (B i).testBit h = (D (m i)).testBit x)) := by
      unfold f_6008_23
      refine lp_rel (F := fun s : Int32 => F_6008_23 tT σ 190 (nI h) (nI x) s) (fun j q => q = nI j ∧ ∀ i, i < j → (B i).testBit h = (D (m i)).testBit x) _ h (fun j q hj hI => ?_) 0 (nI 0) (by omega) ⟨rfl, fun i hi => by omega⟩
      obtain ⟨rfl, g1⟩ := hI
      by_cases hjh : j = h
      · subst hjh
        refine Or.inr ⟨nI 1, ?_, by rw [decide_eq_true g1, mb_t1]⟩
        have a1 : nI j ≤ nI j := by rw [nI_leI (by omega) (by omega)]; omega
        show F_6008_23 tT σ 190 (nI j) (nI x) (nI j) = _
        unfold F_6008_23
        rw [if_pos a1]
      · have a1 : ¬ nI h ≤ nI j := by rw [nI_leI (by omega) (by omega)]; omega
        obtain ⟨v, vl⟩ := hm j (by omega)
        have l1 := c_linked hc (a := j) (b := h) (by omega) hh
        have l2 := c_linked hd (a := m j) (b := x) vl hx
        have c1 : vp_in (nI j) 11 := (vp_in_eq (by omega)).mpr (by omega)
        have c2 : (nI j).toNatClampNeg = j := nI_clamp (by omega)
        by_cases e : (B j).testBit h = (D (m j)).testBit x
        · rw [e] at l1
          refine Or.inl ⟨nI (j + 1), ?_, by omega, rfl, fun i hi => ?_⟩
          · show F_6008_23 tT σ 190 (nI h) (nI x) (nI j) = _
            unfold F_6008_23
            simp only [a1, la_190, la_191, h1, h2, hc.1, hd.1, rc_190_0 hR, gd_tt, oA_arr, px_obj_s, Option.bind_some, Option.map_some, Option.bind_none, eq_self, true_or, or_true, px_av_0, px_av_1, px_av_2, px_av_10, px_av_11, bn, wi_1, wi_2, wl_1, wl_21, wl_22, wr_1, wr_21, wr_22, Sum.elim_inl, Sum.elim_inr, ↓reduceIte, Nat.reduceLT, Nat.reduceLeDiff, not_false_eq_true, not_true_eq_false, Nat.reduceEqDiff, Nat.reduceAdd, reduceCtorEq, and_true, true_and, and_false, false_and, false_or, or_false, l1, c1, c2, v, l2, nI_add]
          · by_cases q : i = j
            · subst q; exact e
            · exact g1 i (by omega)
        · have e2 : ¬ mb ((B j).testBit h) = mb ((D (m j)).testBit x) := fun q => e (by
            cases w1 : (B j).testBit h <;> cases w2 : (D (m j)).testBit x <;> rw [w1, w2] at q <;> first | rfl | exact absurd q (by decide))
          refine Or.inr ⟨nI 0, ?_, ?_⟩
          · show F_6008_23 tT σ 190 (nI h) (nI x) (nI j) = _
            unfold F_6008_23
            simp only [a1, la_190, la_191, h1, h2, hc.1, hd.1, rc_190_0 hR, gd_tt, oA_arr, px_obj_s, Option.bind_some, Option.map_some, Option.bind_none, eq_self, true_or, or_true, px_av_0, px_av_1, px_av_2, px_av_10, px_av_11, bn, wi_1, wi_2, wl_1, wl_21, wl_22, wr_1, wr_21, wr_22, Sum.elim_inl, Sum.elim_inr, ↓reduceIte, Nat.reduceLT, Nat.reduceLeDiff, not_false_eq_true, not_true_eq_false, Nat.reduceEqDiff, Nat.reduceAdd, reduceCtorEq, and_true, true_and, and_false, false_and, false_or, or_false, l1, c1, c2, v, l2, e2]
          · rw [decide_eq_false (fun q => e (q j (by omega))), mb_f0]
    obtain ⟨b, q1, rfl⟩ := lp
    simp only [f_6008, la_190, h1, h2, hc.1, hd.1, gd_tt, oA_arr, px_obj_s, Option.bind_some, Option.map_some, Option.bind_none, eq_self, true_or, or_true, px_av_0, px_av_1, px_av_2, px_av_10, px_av_11, bn, wi_1, wi_2, wl_1, wl_21, wl_22, wr_1, wr_21, wr_22, Sum.elim_inl, Sum.elim_inr, ↓reduceIte, Nat.reduceLT, Nat.reduceLeDiff, not_false_eq_true, not_true_eq_false, Nat.reduceEqDiff, Nat.reduceAdd, reduceCtorEq, and_true, true_and, and_false, false_and, false_or, or_false, d1, d2, z, q1]
  · have z : ¬ nI (bc 11 (B h)) = nI (bc 11 (D x)) := by rw [nI_eq (by omega) (by omega)]; exact hq
    rw [decide_eq_false hq, Bool.false_and, mb_f0]
    simp only [f_6008, la_190, h1, h2, hc.1, hd.1, gd_tt, oA_arr, px_obj_s, Option.bind_some, Option.map_some, Option.bind_none, eq_self, true_or, or_true, px_av_0, px_av_1, px_av_2, px_av_10, px_av_11, bn, wi_1, wi_2, wl_1, wl_21, wl_22, wr_1, wr_21, wr_22, Sum.elim_inl, Sum.elim_inr, ↓reduceIte, Nat.reduceLT, Nat.reduceLeDiff, not_false_eq_true, not_true_eq_false, Nat.reduceEqDiff, Nat.reduceAdd, reduceCtorEq, and_true, true_and, and_false, false_and, false_or, or_false, d1, d2, z]
theorem c_match : ∀ k h, h + k = n → ∀ d, k + 1 ≤ d → ∀ (σ : px_M) (m : Nat → Nat), kin σ t u n B D → bgn n h m → cns B D h m → (∀ i, i < h → σ.1 191 i = nI (m i)) → ∃ υ, f_6007 tT d σ 190 (nI h) (nI (tk m h)) = some (mb (exb n B D h m), υ) ∧ fr (on 191) σ υ ∧ ∀ i, i < h → υ.1 191 i = σ.1 191 i := by
  intro k
  induction k with
  | zero =>
    intro h hh d hd σ m hk hb hc hm
    have hhn : h = n := by omega
    subst hhn
    obtain ⟨d, rfl⟩ : ∃ d', d = d' + 1 := ⟨d - 1, by omega⟩
    obtain ⟨hR, h1, h2, -, hct, hdt⟩ := hk
    have hn := hct.2.2.2.1.1
    have a1 : ¬ nI h < nI h := by rw [nI_ltI (by omega) (by omega)]; omega
    refine ⟨σ, ?_, fr_rf _ _, fun _ _ => rfl⟩
    rw [exb_t.mpr (exI_n hb hc), mb_t1, f_6007_S]
    unfold F_6007
    simp only [la_190, h1, hct.1, hct.2.2.2.2.1, a1, gd_tt, oA_arr, px_obj_s, Option.bind_some, Option.map_some, Option.bind_none, eq_self, true_or, or_true, px_av_0, px_av_1, px_av_2, px_av_10, px_av_11, bn, wi_1, wi_2, wl_1, wl_21, wl_22, wr_1, wr_21, wr_22, Sum.elim_inl, Sum.elim_inr, ↓reduceIte, Nat.reduceLT, Nat.reduceLeDiff, not_false_eq_true, not_true_eq_false, Nat.reduceEqDiff, Nat.reduceAdd, reduceCtorEq, and_true, true_and, and_false, false_and, false_or, or_false]
  | succ k ih =>
    intro h hh d hd σ m hk hb hc hm
    obtain ⟨d, rfl⟩ : ∃ d', d = d' + 1 := ⟨d - 1, by omega⟩
    obtain ⟨hR, h1, h2, hne, hct, hdt⟩ := id hk
    have hw := hct.2.2.2.1
    have hwD := hdt.2.2.2.1
    have hn := hw.1
    have hhn : h < n := by omega
    have a1 : nI h < nI n := by rw [nI_ltI (by omega) (by omega)]; omega
    have htl := tk_lt hb.1
    have hp := pw_le hn
    have c1 : vp_in (nI h) 11 := (vp_in_eq (by omega)).mpr (by omega)
    have c2 : (nI h).toNatClampNeg = h := nI_clamp (by omega)
    have lp : ∃ b, f_6007_15 tT (f_6007 tT d) 190 (nI h) (nI (tk m h)) (nI 0) σ = some b ∧ ∃ υ, b = (mb (exb n B D h m), υ) ∧ fr (on 191) σ υ ∧ ∀ i, i < h → υ.1 191 i = σ.1 191 i := by
      unfold f_6007_15
      refine lp_rel (F := fun s : Int32 × px_M => F_6007_15 tT (f_6007 tT d) 190 (nI h) (nI (tk m h)) s.1 s.2) (fun x q => ∃ ρ, q = (nI x, ρ) ∧ fr (on 191) σ ρ ∧ (∀ i, i < h → ρ.1 191 i = σ.1 191 i) ∧ ∀ y, y < x → (tk m h).testBit y = false → ¬ exI n B D (h + 1) (upm m h y)) _ n (fun x q hx hI => ?_) 0 (nI 0, σ) (by omega) ⟨σ, rfl, fr_rf _ _, fun _ _ => rfl, fun y hy => by omega⟩
      obtain ⟨ρ, rfl, g1, g2, g3⟩ := hI
      obtain ⟨hRρ, h1ρ, h2ρ, -, hctρ, hdtρ⟩ := kin_fr g1 hk
      by_cases hxn : x = n
      · subst hxn
        have hno : exb x B D h m = false := by
          cases z : exb x B D h m with
          | false => rfl
          | true =>
            obtain ⟨y, y1, y2, y3⟩ := (exI_step hhn).mp (exb_t.mp z)
            exact absurd y3 (g3 y y1 y2)
        refine Or.inr ⟨(nI 0, ρ), ?_, ρ, by rw [hno, mb_f0], g1, g2⟩
        have b1 : nI x ≤ nI x := by rw [nI_leI (by omega) (by omega)]; omega
        dsimp only
        unfold F_6007_15
        simp only [la_190, h2ρ, hdtρ.1, hdtρ.2.2.2.2.1, b1, gd_tt, oA_arr, px_obj_s, Option.bind_some, Option.map_some, Option.bind_none, eq_self, true_or, or_true, px_av_0, px_av_1, px_av_2, px_av_10, px_av_11, bn, wi_1, wi_2, wl_1, wl_21, wl_22, wr_1, wr_21, wr_22, Sum.elim_inl, Sum.elim_inr, ↓reduceIte, Nat.reduceLT, Nat.reduceLeDiff, not_false_eq_true, not_true_eq_false, Nat.reduceEqDiff, Nat.reduceAdd, reduceCtorEq, and_true, true_and, and_false, false_and, false_or, or_false]
      · have b1 : ¬ nI n ≤ nI x := by rw [nI_leI (by omega) (by omega)]; omega
        have tst := ni_tst (s := tk m h) (j := x) (by omega) (by omega)
        have go : ¬ ((tk m h).testBit x = false ∧ exI n B D (h + 1) (upm m h x)) → ∀ y, y < x + 1 → (tk m h).testBit y = false → ¬ exI n B D (h + 1) (upm m h y) := fun z y hy y1 y2 => by
          by_cases q : y = x
          · subst q; exact z ⟨y1, y2⟩
          · exact g3 y (by omega) y1 y2
        cases hf : (tk m h).testBit x with
        | true =>
          have tst' : ¬ (nI (tk m h) &&& (nI 1 <<< (nI x &&& 31)) = nI 0) := fun q => by rw [tst, hf] at q; cases q
          refine Or.inl ⟨(nI (x + 1), ρ), ?_, by omega, ρ, rfl, g1, g2, go (fun z => by rw [hf] at z; cases z.1)⟩
          dsimp only
          unfold F_6007_15 f_6007_67
          simp only [la_190, h2ρ, hdtρ.1, hdtρ.2.2.2.2.1, b1, gd_tt, oA_arr, px_obj_s, Option.bind_some, Option.map_some, Option.bind_none, eq_self, true_or, or_true, px_av_0, px_av_1, px_av_2, px_av_10, px_av_11, bn, wi_1, wi_2, wl_1, wl_21, wl_22, wr_1, wr_21, wr_22, Sum.elim_inl, Sum.elim_inr, ↓reduceIte, Nat.reduceLT, Nat.reduceLeDiff, not_false_eq_true, not_true_eq_false, Nat.reduceEqDiff, Nat.reduceAdd, reduceCtorEq, and_true, true_and, and_false, false_and, false_or, or_false, tst', nI_add]
        | false =>
          have tst' := tst.mpr hf
          have mρ : ∀ i, i < h → ρ.1 191 i = nI (m i) ∧ m i < n := fun i hi => ⟨by rw [g2 i hi]; exact hm i hi, hb.1 i hi⟩
          have hfit := c_fits (kin_fr g1 hk) (x := x) hhn (by omega) mρ
          cases hfd : fitD B D h x m with
          | false =>
            rw [hfd, mb_f0] at hfit
            refine Or.inl ⟨(nI (x + 1), ρ), ?_, by omega, ρ, rfl, g1, g2, go (fun z => ?_)⟩
            · dsimp only
              unfold F_6007_15 f_6007_67
              simp only [la_190, h2ρ, hdtρ.1, hdtρ.2.2.2.2.1, b1, gd_tt, oA_arr, px_obj_s, Option.bind_some, Option.map_some, Option.bind_none, eq_self, true_or, or_true, px_av_0, px_av_1, px_av_2, px_av_10, px_av_11, bn, wi_1, wi_2, wl_1, wl_21, wl_22, wr_1, wr_21, wr_22, Sum.elim_inl, Sum.elim_inr, ↓reduceIte, Nat.reduceLT, Nat.reduceLeDiff, not_false_eq_true, not_true_eq_false, Nat.reduceEqDiff, Nat.reduceAdd, reduceCtorEq, and_true, true_and, and_false, false_and, false_or, or_false, tst', hfit, nI_add]
            · have e1 := exI_fit hhn z.2
              have e2 := exI_deg hw hwD hhn z.2
              unfold fitD at hfd
              rw [decide_eq_true e1, decide_eq_true e2] at hfd
              cases hfd
          | true =>
            rw [hfd, mb_t1] at hfit
            have hfb : ∀ i, i < h → (B i).testBit h = (D (m i)).testBit x := by
              unfold fitD at hfd
              rw [Bool.and_eq_true, decide_eq_true_eq, decide_eq_true_eq] at hfd
              exact hfd.2
            obtain ⟨ω, hω⟩ : ∃ ω, px_wi ρ 191 h (nI x) = ω := ⟨_, rfl⟩
            have w1 : fr (on 191) ρ ω := by rw [← hω]; exact fr_wi (fr_rf _ _) _ rfl
            have mω : ∀ i, i < h + 1 → ω.1 191 i = nI (upm m h x i) := fun i hi => by
              rw [← hω]
              show px_up ρ.1 191 h _ 191 i = _
              rw [up_s]
              by_cases q : i = h
              · subst q; rw [if_pos rfl, upm_s]
              · rw [if_neg q, upm_n q]; exact (mρ i (by omega)).1
            obtain ⟨υ, y1, y2, y3⟩ := ih (h + 1) (by omega) d (by omega) ω (upm m h x) (kin_fr w1 (kin_fr g1 hk)) (bgn_up hb (by omega) hf) (cns_up hw hwD hc hfb) mω
            rw [tk_up] at y1
            have tst2 : nI (tk m h) &&& nI (2 ^ x) = nI 0 := by rw [← ni_1s (show x < 31 by omega)]; exact tst'
            have keep : ∀ i, i < h → υ.1 191 i = σ.1 191 i := fun i hi => by rw [y3 i (by omega), mω i (by omega), upm_n (by omega), hm i hi]
            cases hex : exb n B D (h + 1) (upm m h x) with
            | true =>
              rw [hex, mb_t1] at y1
              have hyes : exb n B D h m = true := exb_t.mpr ((exI_step hhn).mpr ⟨x, by omega, hf, exb_t.mp hex⟩)
              refine Or.inr ⟨(nI 1, υ), ?_, υ, by rw [hyes, mb_t1], fr_tr g1 (fr_tr w1 y2), keep⟩
              dsimp only
              unfold F_6007_15 f_6007_50
              simp only [la_190, la_191, h2ρ, hdtρ.1, hdtρ.2.2.2.2.1, b1, rc_190_0 hRρ, gd_tt, oA_arr, px_obj_s, Option.bind_some, Option.map_some, Option.bind_none, eq_self, true_or, or_true, px_av_0, px_av_1, px_av_2, px_av_10, px_av_11, bn, wi_1, wi_2, wl_1, wl_21, wl_22, wr_1, wr_21, wr_22, Sum.elim_inl, Sum.elim_inr, ↓reduceIte, Nat.reduceLT, Nat.reduceLeDiff, not_false_eq_true, not_true_eq_false, Nat.reduceEqDiff, Nat.reduceAdd, reduceCtorEq, and_true, true_and, and_false, false_and, false_or, or_false, tst', tst2, hfit, n10, c1, c2, hω, ni_1s (show x < 31 by omega), fa_or, nI_add, y1]
            | false =>
              rw [hex, mb_f0] at y1
              refine Or.inl ⟨(nI (x + 1), υ), ?_, by omega, υ, rfl, fr_tr g1 (fr_tr w1 y2), keep, go (fun z => by rw [exb_t.mpr z.2] at hex; cases hex)⟩
              dsimp only
              unfold F_6007_15 f_6007_50 f_6007_67
              simp only [la_190, la_191, h2ρ, hdtρ.1, hdtρ.2.2.2.2.1, b1, rc_190_0 hRρ, gd_tt, oA_arr, px_obj_s, Option.bind_some, Option.map_some, Option.bind_none, eq_self, true_or, or_true, px_av_0, px_av_1, px_av_2, px_av_10, px_av_11, bn, wi_1, wi_2, wl_1, wl_21, wl_22, wr_1, wr_21, wr_22, Sum.elim_inl, Sum.elim_inr, ↓reduceIte, Nat.reduceLT, Nat.reduceLeDiff, not_false_eq_true, not_true_eq_false, Nat.reduceEqDiff, Nat.reduceAdd, reduceCtorEq, and_true, true_and, and_false, false_and, false_or, or_false, tst', tst2, hfit, n10, c1, c2, hω, ni_1s (show x < 31 by omega), fa_or, nI_add, y1]
    obtain ⟨b, q1, υ, rfl, q2⟩ := lp
    refine ⟨υ, ?_, q2⟩
    rw [f_6007_S]
    unfold F_6007
    simp only [la_190, h1, hct.1, hct.2.2.2.2.1, a1, gd_tt, oA_arr, px_obj_s, Option.bind_some, Option.map_some, Option.bind_none, eq_self, true_or, or_true, px_av_0, px_av_1, px_av_2, px_av_10, px_av_11, bn, wi_1, wi_2, wl_1, wl_21, wl_22, wr_1, wr_21, wr_22, Sum.elim_inl, Sum.elim_inr, ↓reduceIte, Nat.reduceLT, Nat.reduceLeDiff, not_false_eq_true, not_true_eq_false, Nat.reduceEqDiff, Nat.reduceAdd, reduceCtorEq, and_true, true_and, and_false, false_and, false_or, or_false, q1]
theorem c_selves (hk : kin σ t t n B B) (hn8 : n ≤ 8) : ∃ b, f_6006_14 tT 190 t (nI 1) (nI 0) σ = some b ∧ ∃ υ, b = (nI (wys n B n), υ) ∧ fr (on 191) σ υ := by
  have hw := hk.2.2.2.2.1.2.2.2.1
  unfold f_6006_14
  refine lp_for (F := fun s : Int32 × Int32 × px_M => F_6006_14 tT 190 t s.1 s.2.1 s.2.2) (fun h q => ∃ ρ, q = (nI (wys n B h), nI h, ρ) ∧ fr (on 191) σ ρ ∧ ∀ i, i < h → ρ.1 191 i = nI i) _ n (fun h q hh hI => ?_) (fun q hI => ?_) 0 (nI 1, nI 0, σ) (by omega) ⟨σ, rfl, fr_rf _ _, fun i hi => by omega⟩
  · obtain ⟨ρ, rfl, g1, g2⟩ := hI
    obtain ⟨hRρ, h1ρ, h2ρ, hne, hcρ, -⟩ := kin_fr g1 hk
    have c1 : vp_in (nI h) 11 := (vp_in_eq (by omega)).mpr (by omega)
    have c2 : (nI h).toNatClampNeg = h := nI_clamp (by omega)
    have hws : wys n B (h + 1) = wys n B h * gos n B h (n - 1 - h) := rfl
    rw [hws]
    generalize wys n B h = W
    have inner : ∃ b, f_6006_30 tT 190 t (nI W) (nI h) (nI 1) (nI (h + 1)) ρ = some b ∧ ∃ υ, b = .inl (nI (W * gos n B h (n - 1 - h)), nI (h + 1), υ) ∧ fr (on 191) σ υ ∧ ∀ i, i < h + 1 → υ.1 191 i = nI i := by
      unfold f_6006_30
      refine lp_for (F := fun s : Int32 × Int32 × px_M => F_6006_30 tT 190 t (nI W) (nI h) s.1 s.2.1 s.2.2) (fun j q => ∃ ρ, q = (nI (gos n B h j), nI (h + 1 + j), ρ) ∧ fr (on 191) σ ρ ∧ ∀ i, i < h → ρ.1 191 i = nI i) _ (n - 1 - h) (fun j q hj hI => ?_) (fun q hI => ?_) 0 (nI 1, nI (h + 1), ρ) (by omega) ⟨ρ, rfl, g1, g2⟩
      · obtain ⟨ρ, rfl, g1, g2⟩ := hI
        have hkρ := kin_fr g1 hk
        obtain ⟨hRρ, h1ρ, h2ρ, hne, hcρ, -⟩ := id hkρ
        have b1 : ¬ nI n ≤ nI (h + 1 + j) := by rw [nI_leI (by omega) (by omega)]; omega
        have hfit := c_fits (x := h + 1 + j) (m := idf) hkρ hh (by omega) (fun i hi => ⟨by rw [g2 i hi]; rfl, by unfold idf; omega⟩)
        have hgs : gos n B h (j + 1) = gos n B h j + (if exb n B B (h + 1) (upm idf h (h + 1 + j)) = true then 1 else 0) := by
          show 1 + (sm (fun i => if exb n B B (h + 1) (upm idf h (h + 1 + i)) = true then 1 else 0) j + (if exb n B B (h + 1) (upm idf h (h + 1 + j)) = true then 1 else 0)) = 1 + _ + _
          exact (Nat.add_assoc _ _ _).symm
        rw [hgs]
        generalize gos n B h j = Z
        have hjj : h + 1 + (j + 1) = h + 1 + j + 1 := by omega
        rw [hjj]
        cases hfd : fitD B B h (h + 1 + j) idf with
        | false =>
          rw [hfd, mb_f0] at hfit
          have hno : exb n B B (h + 1) (upm idf h (h + 1 + j)) = false := by
            cases z : exb n B B (h + 1) (upm idf h (h + 1 + j)) with
            | false => rfl
            | true =>
              have e1 := exI_fit hh (exb_t.mp z)
              have e2 := exI_deg hw hw hh (exb_t.mp z)
              unfold fitD at hfd
              rw [decide_eq_true e1, decide_eq_true e2] at hfd
              cases hfd
          rw [hno]
          refine ⟨_, ?_, ρ, rfl, g1, g2⟩
          dsimp only
          unfold F_6006_30 f_6006_87
          simp only [la_190, hcρ.1, hcρ.2.2.2.2.1, b1, gd_tt, oA_arr, px_obj_s, Option.bind_some, Option.map_some, Option.bind_none, eq_self, true_or, or_true, px_av_0, px_av_1, px_av_2, px_av_10, px_av_11, bn, wi_1, wi_2, wl_1, wl_21, wl_22, wr_1, wr_21, wr_22, Sum.elim_inl, Sum.elim_inr, ↓reduceIte, Nat.reduceLT, Nat.reduceLeDiff, not_false_eq_true, not_true_eq_false, Nat.reduceEqDiff, Nat.reduceAdd, reduceCtorEq, and_true, true_and, and_false, false_and, false_or, or_false, hfit, nI_add, Bool.false_eq_true, Nat.add_zero]
        | true =>
          rw [hfd, mb_t1] at hfit
          have hfb : ∀ i, i < h → (B i).testBit h = (B (idf i)).testBit (h + 1 + j) := by
            unfold fitD at hfd
            rw [Bool.and_eq_true, decide_eq_true_eq, decide_eq_true_eq] at hfd
            exact hfd.2
          obtain ⟨ω, hω⟩ : ∃ ω, px_wi ρ 191 h (nI (h + 1 + j)) = ω := ⟨_, rfl⟩
          have w1 : fr (on 191) ρ ω := by rw [← hω]; exact fr_wi (fr_rf _ _) _ rfl
          have mω : ∀ i, i < h + 1 → ω.1 191 i = nI (upm idf h (h + 1 + j) i) := fun i hi => by
            rw [← hω]
            show px_up ρ.1 191 h _ 191 i = _
            rw [up_s]
            by_cases q : i = h
            · subst q; rw [if_pos rfl, upm_s]
            · rw [if_neg q, upm_n q, g2 i (by omega)]; rfl
          obtain ⟨υ, y1, y2, y3⟩ := c_match (n - (h + 1)) (h + 1) (by omega) 24 (by omega) ω (upm idf h (h + 1 + j)) (kin_fr w1 hkρ) (bgn_up (bgn_id (by omega)) (by omega) (by rw [tk_id, decide_eq_false (by omega)])) (cns_up hw hw cns_id hfb) mω
          rw [tk_up, tk_idn] at y1
          have keep : ∀ i, i < h → υ.1 191 i = nI i := fun i hi => by rw [y3 i (by omega), mω i (by omega), upm_n (by omega)]; rfl
          have hp1 : 1 ≤ 2 ^ h := Nat.one_le_two_pow
          cases hex : exb n B B (h + 1) (upm idf h (h + 1 + j)) with
          | true =>
            rw [hex, mb_t1] at y1
            refine ⟨_, ?_, υ, rfl, fr_tr g1 (fr_tr w1 y2), keep⟩
            dsimp only
            unfold F_6006_30 f_6006_57 f_6006_87
            simp only [la_190, la_191, hcρ.1, hcρ.2.2.2.2.1, b1, rc_190_0 hRρ, gd_tt, oA_arr, px_obj_s, Option.bind_some, Option.map_some, Option.bind_none, eq_self, true_or, or_true, px_av_0, px_av_1, px_av_2, px_av_10, px_av_11, bn, wi_1, wi_2, wl_1, wl_21, wl_22, wr_1, wr_21, wr_22, Sum.elim_inl, Sum.elim_inr, ↓reduceIte, Nat.reduceLT, Nat.reduceLeDiff, not_false_eq_true, not_true_eq_false, Nat.reduceEqDiff, Nat.reduceAdd, reduceCtorEq, and_true, true_and, and_false, false_and, false_or, or_false, hfit, n10, c1, c2, hω, ni_1s (show h < 31 by omega), ni_1s (show h + 1 + j < 31 by omega), ni_subL hp1, fa_or, nI_add, y1]
          | false =>
            rw [hex, mb_f0] at y1
            refine ⟨_, ?_, υ, rfl, fr_tr g1 (fr_tr w1 y2), keep⟩
            dsimp only
            unfold F_6006_30 f_6006_57 f_6006_87
            simp only [la_190, la_191, hcρ.1, hcρ.2.2.2.2.1, b1, rc_190_0 hRρ, gd_tt, oA_arr, px_obj_s, Option.bind_some, Option.map_some, Option.bind_none, eq_self, true_or, or_true, px_av_0, px_av_1, px_av_2, px_av_10, px_av_11, bn, wi_1, wi_2, wl_1, wl_21, wl_22, wr_1, wr_21, wr_22, Sum.elim_inl, Sum.elim_inr, ↓reduceIte, Nat.reduceLT, Nat.reduceLeDiff, not_false_eq_true, not_true_eq_false, Nat.reduceEqDiff, Nat.reduceAdd, reduceCtorEq, and_true, true_and, and_false, false_and, false_or, or_false, hfit, n10, c1, c2, hω, ni_1s (show h < 31 by omega), ni_1s (show h + 1 + j < 31 by omega), ni_subL hp1, fa_or, nI_add, y1, Bool.false_eq_true]
      · obtain ⟨ρ, rfl, g1, g2⟩ := hI
        obtain ⟨hRρ, h1ρ, h2ρ, hne, hcρ, -⟩ := kin_fr g1 hk
        have b1 : nI n ≤ nI (h + 1 + (n - 1 - h)) := by rw [nI_leI (by omega) (by omega)]; omega
        refine ⟨_, ?_, px_wi ρ 191 h (nI h), rfl, fr_wi g1 _ rfl, fun i hi => ?_⟩
        · generalize gos n B h (n - 1 - h) = Z
          dsimp only
          unfold F_6006_30 f_6006_105
          simp only [la_190, la_191, hcρ.1, hcρ.2.2.2.2.1, b1, rc_190_0 hRρ, gd_tt, oA_arr, px_obj_s, Option.bind_some, Option.map_some, Option.bind_none, eq_self, true_or, or_true, px_av_0, px_av_1, px_av_2, px_av_10, px_av_11, bn, wi_1, wi_2, wl_1, wl_21, wl_22, wr_1, wr_21, wr_22, Sum.elim_inl, Sum.elim_inr, ↓reduceIte, Nat.reduceLT, Nat.reduceLeDiff, not_false_eq_true, not_true_eq_false, Nat.reduceEqDiff, Nat.reduceAdd, reduceCtorEq, and_true, true_and, and_false, false_and, false_or, or_false, c1, c2, pk_mul, nI_add]
        · show px_up ρ.1 191 h _ 191 i = _
          rw [up_s]
          by_cases q : i = h
          · subst q; rw [if_pos rfl]
          · rw [if_neg q]; exact g2 i (by omega)
    obtain ⟨b, q1, υ, rfl, q2, q3⟩ := inner
    have b1 : ¬ nI n ≤ nI h := by rw [nI_leI (by omega) (by omega)]; omega
    refine ⟨_, ?_, υ, rfl, q2, q3⟩
    dsimp only
    unfold F_6006_14
    simp only [hcρ.1, hcρ.2.2.2.2.1, b1, gd_tt, oA_arr, px_obj_s, Option.bind_some, Option.map_some, Option.bind_none, eq_self, true_or, or_true, px_av_0, px_av_1, px_av_2, px_av_10, px_av_11, bn, wi_1, wi_2, wl_1, wl_21, wl_22, wr_1, wr_21, wr_22, Sum.elim_inl, Sum.elim_inr, ↓reduceIte, Nat.reduceLT, Nat.reduceLeDiff, not_false_eq_true, not_true_eq_false, Nat.reduceEqDiff, Nat.reduceAdd, reduceCtorEq, and_true, true_and, and_false, false_and, false_or, or_false, nI_add, q1]
  · obtain ⟨ρ, rfl, g1, g2⟩ := hI
    obtain ⟨hRρ, h1ρ, h2ρ, hne, hcρ, -⟩ := kin_fr g1 hk
    have b1 : nI n ≤ nI n := by rw [nI_leI (by omega) (by omega)]; omega
    refine ⟨_, ?_, ρ, rfl, g1⟩
    generalize wys n B n = W
    dsimp only
    unfold F_6006_14
    simp only [hcρ.1, hcρ.2.2.2.2.1, b1, gd_tt, oA_arr, px_obj_s, Option.bind_some, Option.map_some, Option.bind_none, eq_self, true_or, or_true, px_av_0, px_av_1, px_av_2, px_av_10, px_av_11, bn, wi_1, wi_2, wl_1, wl_21, wl_22, wr_1, wr_21, wr_22, Sum.elim_inl, Sum.elim_inr, ↓reduceIte, Nat.reduceLT, Nat.reduceLeDiff, not_false_eq_true, not_true_eq_false, Nat.reduceEqDiff, Nat.reduceAdd, reduceCtorEq, and_true, true_and, and_false, false_and, false_or, or_false]
end
