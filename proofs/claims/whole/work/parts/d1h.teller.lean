/-! telling and teller: both answer alike -/
section
variable {σ τ : px_M} {n g : Nat} {B : Nat → Nat}
/-- the helper's town and tables -/
def gsB (σ : px_M) (n : Nat) (B : Nat → Nat) : Prop := cR σ.2.2 ∧ σ.2.2 180 3 = some 111 ∧ ct σ 111 n B ∧ ft σ 181 n B ∧ ∀ h, h < n → σ.1 184 h = nI (eld B h h)
def SG (l j : Nat) : Bool := l == 183 || (l == 180 && j == 4)
theorem fr_SG {υ : px_M} (h : fr SG σ υ) : fr SC σ υ := fr_mono h (fun l j q => by
  simp only [SC, Bool.and_eq_false_iff, decide_eq_false_iff_not] at q
  simp only [SG, Bool.or_eq_false_iff, Bool.and_eq_false_iff, beq_eq_false_iff_ne]
  constructor
  · omega
  · left; omega)
theorem fr_183 {υ : px_M} (h : fr (on 183) σ υ) : fr SG σ υ := fr_mono h (fun l j q => by
  simp only [SG, Bool.or_eq_false_iff] at q
  exact q.1)
theorem tel_ex (hw : wf n B) {h : Nat} (hh : h < n) : ∃ R, R ≤ 10 ∧ kno n B (rc B n 11 (2 ^ h)) R (2 ^ h) ∧ ∀ i, i < R → ¬ kno n B (rc B n 11 (2 ^ h)) i (2 ^ h) := by
  have hn := hw.1
  have hgc : gcl n B (rc B n 11 (2 ^ h)) := ⟨by
    apply Nat.lt_pow_two_of_testBit
    intro i hi
    exact tb_ff (rc_in hw hh) hi, rc_11cl hw hh⟩
  have h10 := kno_all hw hgc 10 (2 ^ h) ⟨Nat.pow_lt_pow_right (by omega) hh, rfl⟩ (by rw [bc_pwe (by omega)]; omega)
  obtain ⟨R, r1, r2⟩ := ex_min (P := fun r => kno n B (rc B n 11 (2 ^ h)) r (2 ^ h)) (fun x => x) ⟨10, h10⟩
  refine ⟨R, r2 10 h10, r1, fun i hi q => ?_⟩
  have : R ≤ i := r2 i q
  omega
theorem c_rndF (hs : gsB σ n B) (hls : lst σ n B) {h : Nat} (hh : h < n) {R : Nat} (hRk : kno n B (rc B n 11 (2 ^ h)) R (2 ^ h)) (hRm : ∀ i, i < R → ¬ kno n B (rc B n 11 (2 ^ h)) i (2 ^ h)) (hR10 : R ≤ 10) : ∃ υ, f_4004 tT σ 180 (nI h) = some (nI R, υ) ∧ fr SG σ υ ∧ gsB υ n B ∧ lst υ n B := by
  obtain ⟨hR, g2, g3, g4, g5⟩ := hs
  have hw := g3.2.2.2.1
  have hn := hw.1
  have hgc : gcl n B (rc B n 11 (2 ^ h)) := ⟨by
    apply Nat.lt_pow_two_of_testBit
    intro i hi
    exact tb_ff (rc_in hw hh) hi, rc_11cl hw hh⟩
  have hv0 : vkn n B (rc B n 11 (2 ^ h)) (2 ^ h) := ⟨Nat.pow_lt_pow_right (by omega) hh, rfl⟩
  have cw := c_within g3 hh (m := 11) (by omega)
  generalize rc B n 11 (2 ^ h) = g at *
  obtain ⟨ω, hω⟩ : ∃ ω, px_wi σ 180 4 (nI g) = ω := ⟨_, rfl⟩
  have f0 : fr SG σ ω := by rw [← hω]; exact fr_wi (fr_rf _ _) _ rfl
  have hA : gsA ω n B g := ⟨cR_fr f0 hR, by rw [f0.2.2 180 3 (Or.inl rfl)]; exact g2, ct_fr f0 (fun _ => rfl) (fun _ => rfl) g3, by
    obtain ⟨a1, a2, a3, a4, a5, a6⟩ := g4
    exact ⟨a1, a2, by rw [f0.2.2 181 0 (Or.inl rfl)]; exact a3, a4, by rw [f0.1 181 1 rfl]; exact a5, fun s hs => by rw [f0.1 182 s rfl]; exact a6 s hs⟩, fun x hx => by rw [f0.1 184 x rfl]; exact g5 x hx, by
    rw [← hω]
    show px_up σ.1 180 4 (nI g) 180 4 = _
    rw [up_s, if_pos rfl]⟩
  have hL : lst ω n B := fun k hk => by
    obtain ⟨v, v1, v2, v3⟩ := hls k hk
    refine ⟨v, v1, ?_, v3⟩
    rw [← hω]
    show px_up σ.1 180 4 (nI g) 183 k = _
    rw [px_up_row (by omega)]; exact v2
  have h1h := ni_1s (j := h) (by omega)
  have lp : ∃ b, f_4004_16 tT 180 (nI h) (nI 0) ω = some b ∧ ∃ υ, b = (nI R, υ) ∧ fr (on 183) ω υ ∧ lst υ n B := by
    unfold f_4004_16
    refine lp_rel (F := fun q : Int32 × px_M => F_4004_16 tT 180 (nI h) q.1 q.2) (fun i q => ∃ ρ, q = (nI i, ρ) ∧ fr (on 183) ω ρ ∧ lst ρ n B) _ R (fun i q hi hI => ?_) 0 (nI 0, ω) (by omega) ⟨ω, rfl, fr_rf _ _, hL⟩
    obtain ⟨ρ, rfl, p1, p2⟩ := hI
    have b1 : ¬ nI 11 ≤ nI i := by rw [nI_leI (by omega) (by omega)]; omega
    obtain ⟨b, υ, y1, y2, y3, y4⟩ := c_akn hw hgc i (by omega) 160 ρ (2 ^ h) (by omega) (gsA_fr p1 hA) p2 hv0
    cases hb : b with
    | true =>
      rw [hb, mb_t1] at y1
      have hki := y4.mp hb
      have hiR : i = R := by
        rcases Nat.lt_or_ge i R with z | z
        · exact absurd hki (hRm i z)
        · omega
      subst hiR
      refine Or.inr ⟨(nI i, υ), ?_, υ, rfl, fr_tr p1 y2, y3⟩
      dsimp only
      unfold F_4004_16
      simp only [b1, la_180, h1h, y1, n10, gd_tt, oA_arr, px_obj_s, Option.bind_some, Option.map_some, Option.bind_none, eq_self, true_or, or_true, px_av_0, px_av_1, px_av_2, px_av_10, px_av_11, bn, wi_1, wi_2, wl_1, wl_21, wl_22, wr_1, wr_21, wr_22, Sum.elim_inl, Sum.elim_inr, ↓reduceIte, Nat.reduceLT, Nat.reduceLeDiff, not_false_eq_true, not_true_eq_false, Nat.reduceEqDiff, Nat.reduceAdd, reduceCtorEq, and_true, true_and, and_false, false_and, false_or, or_false]
    | false =>
      rw [hb, mb_f0] at y1
      have hiR : i ≠ R := fun e => by
        rw [← e] at hRk
        rw [y4.mpr hRk] at hb
        cases hb
      refine Or.inl ⟨(nI (i + 1), υ), ?_, by omega, υ, rfl, fr_tr p1 y2, y3⟩
      dsimp only
      unfold F_4004_16
      simp only [b1, la_180, h1h, y1, nI_add, gd_tt, oA_arr, px_obj_s, Option.bind_some, Option.map_some, Option.bind_none, eq_self, true_or, or_true, px_av_0, px_av_1, px_av_2, px_av_10, px_av_11, bn, wi_1, wi_2, wl_1, wl_21, wl_22, wr_1, wr_21, wr_22, Sum.elim_inl, Sum.elim_inr, ↓reduceIte, Nat.reduceLT, Nat.reduceLeDiff, not_false_eq_true, not_true_eq_false, Nat.reduceEqDiff, Nat.reduceAdd, reduceCtorEq, and_true, true_and, and_false, false_and, false_or, or_false]
  obtain ⟨b, q1, υ, rfl, q2, q3⟩ := lp
  obtain ⟨w1, w2, w3, w4, w5, w6⟩ := gsA_fr q2 hA
  refine ⟨υ, ?_, fr_tr f0 (fr_183 q2), ⟨w1, w2, w3, w4, w5⟩, q3⟩
  have l1 := g3.1
  unfold f_4004
  simp only [la_180, g2, l1, cw, hω, q1, gd_tt, oA_arr, px_obj_s, Option.bind_some, Option.map_some, Option.bind_none, eq_self, true_or, or_true, px_av_0, px_av_1, px_av_2, px_av_10, px_av_11, bn, wi_1, wi_2, wl_1, wl_21, wl_22, wr_1, wr_21, wr_22, Sum.elim_inl, Sum.elim_inr, ↓reduceIte, Nat.reduceLT, Nat.reduceLeDiff, not_false_eq_true, not_true_eq_false, Nat.reduceEqDiff, Nat.reduceAdd, reduceCtorEq, and_true, true_and, and_false, false_and, false_or, or_false]
/-- the helper listens to a town -/
theorem c_listen (hc : cl σ n B) : ∃ υ, f_4002 tT σ 180 111 = some υ ∧ fr SC σ υ ∧ gsB υ n B ∧ lst υ n B := by
  obtain ⟨hR, ht⟩ := hc
  have hw := ht.2.2.2.1
  have hn := hw.1
  obtain ⟨ω, hω⟩ : ∃ ω, px_wr σ 180 3 (some 111) = ω := ⟨_, rfl⟩
  have f0 : fr SC σ ω := by rw [← hω]; exact fr_wr (fr_rf _ _) _ rfl rfl
  have hω3 : ω.2.2 180 3 = some 111 := by
    rw [← hω]
    show px_up σ.2.2 180 3 (some 111) 180 3 = _
    simp [px_up]
  have hRω := cR_fr f0 hR
  have htω : ct ω 111 n B := ct_fr f0 (fun _ => rfl) (fun _ => rfl) ht
  obtain ⟨υ1, y1, y2, y3⟩ := c_lay (f := 181) htω la_181 la_182 (rc_181_0 hRω) (by omega) (by omega) (by omega)
  have hR1 := cR_fr y2 hRω
  have ht1 : ct υ1 111 n B := ct_fr y2 (fun _ => rfl) (fun _ => rfl) htω
  have h31 : υ1.2.2 180 3 = some 111 := by rw [y2.2.2 180 3 (Or.inl rfl)]; exact hω3
  obtain ⟨υ2, z1, z2, z3⟩ := c_fill (σ := υ1) la_183 (by omega)
  have hR2 := cR_fr z2 hR1
  have ht2 : ct υ2 111 n B := ct_fr z2 (fun _ => rfl) (fun _ => rfl) ht1
  have h32 : υ2.2.2 180 3 = some 111 := by rw [z2.2.2 180 3 (Or.inl rfl)]; exact h31
  have lp : ∃ b, f_4002_26 tT 180 (nI 0) υ2 = some b ∧ fr (on 184) υ2 b ∧ ∀ i, i < n → b.1 184 i = nI (eld B i i) := by
    unfold f_4002_26
    refine lp_for (F := fun q : Int32 × px_M => F_4002_26 tT 180 q.1 q.2) (fun h q => ∃ ρ, q = (nI h, ρ) ∧ fr (on 184) υ2 ρ ∧ ∀ i, i < h → ρ.1 184 i = nI (eld B i i)) _ n (fun h q hh hI => ?_) (fun q hI => ?_) 0 (nI 0, υ2) (by omega) ⟨υ2, rfl, fr_rf _ _, fun i hi => by omega⟩
    · obtain ⟨ρ, rfl, g1, g2⟩ := hI
      have hRρ := cR_fr g1 hR2
      have htρ : ct ρ 111 n B := ct_fr g1 (fun _ => rfl) (fun _ => rfl) ht2
      have h3ρ : ρ.2.2 180 3 = some 111 := by rw [g1.2.2 180 3 (Or.inl rfl)]; exact h32
      have l1 := htρ.1
      have e1 := htρ.2.2.2.2.1
      have b1 : ¬ nI n ≤ nI h := by rw [nI_leI (by omega) (by omega)]; omega
      have c1 : vp_in (nI h) 11 := (vp_in_eq (by omega)).mpr (by omega)
      have c2 : (nI h).toNatClampNeg = h := nI_clamp (by omega)
      obtain ⟨ω2, hω2⟩ : ∃ ω2, px_wi ρ 184 h (nI 0) = ω2 := ⟨_, rfl⟩
      have k1 : fr (on 184) ρ ω2 := by rw [← hω2]; exact fr_wi (fr_rf _ _) _ rfl
      have k2 : ∀ i, i < h → ω2.1 184 i = nI (eld B i i) := fun i hi => by
        rw [← hω2]
        show px_up ρ.1 184 h (nI 0) 184 i = _
        rw [up_s, if_neg (by omega)]; exact g2 i hi
      have k3 : ω2.1 184 h = nI (eld B h 0) := by
        rw [← hω2]
        show px_up ρ.1 184 h (nI 0) 184 h = _
        rw [up_s, if_pos rfl]; rfl
      have inner : ∃ b, f_4002_46 tT 180 (nI h) (nI 0) ω2 = some b ∧ ∃ υ, b = .inl (nI (h + 1), υ) ∧ fr (on 184) υ2 υ ∧ ∀ i, i < h + 1 → υ.1 184 i = nI (eld B i i) := by
        unfold f_4002_46
        refine lp_for (F := fun q : Int32 × px_M => F_4002_46 tT 180 (nI h) q.1 q.2) (fun j q => ∃ ρ, q = (nI j, ρ) ∧ fr (on 184) υ2 ρ ∧ (∀ i, i < h → ρ.1 184 i = nI (eld B i i)) ∧ ρ.1 184 h = nI (eld B h j)) _ h (fun j q hj hI => ?_) (fun q hI => ?_) 0 (nI 0, ω2) (by omega) ⟨ω2, rfl, fr_tr g1 k1, k2, k3⟩
        · obtain ⟨ρ, rfl, m1, m2, m3⟩ := hI
          have hRρ := cR_fr m1 hR2
          have htρ : ct ρ 111 n B := ct_fr m1 (fun _ => rfl) (fun _ => rfl) ht2
          have h3ρ : ρ.2.2 180 3 = some 111 := by rw [m1.2.2 180 3 (Or.inl rfl)]; exact h32
          have l1 := htρ.1
          have r1 := htρ.2.2.1
          have nb := htρ.2.2.2.2.2
          have nh : ρ.1 112 h = nI (B h) := nb h (by omega)
          have nj : ρ.1 112 j = nI (B j) := nb j (by omega)
          have r1' : ρ.2.2 111 1 = some 112 := r1
          have b1 : ¬ nI h ≤ nI j := by rw [nI_leI (by omega) (by omega)]; omega
          have d1 : vp_in (nI j) 11 := (vp_in_eq (by omega)).mpr (by omega)
          have d2 : (nI j).toNatClampNeg = j := nI_clamp (by omega)
          have h1h := ni_1s (j := h) (by omega)
          have h1j := ni_1s (j := j) (by omega)
          have hBh := lt_2048 hn (hw.2.1 h)
          have hBj := lt_2048 hn (hw.2.1 j)
          have n1 := ni_nd (s := 2 ^ h ||| 2 ^ j) hBh
          have n2 := ni_nd (s := 2 ^ h ||| 2 ^ j) hBj
          have n3 : nd (B h) (2 ^ h ||| 2 ^ j) < 2048 := nd_lt hBh
          have n4 : nd (B j) (2 ^ h ||| 2 ^ j) < 2048 := nd_lt hBj
          have eS : eld B h (j + 1) = eld B h j ||| (if decide (nd (B h) (2 ^ h ||| 2 ^ j) = nd (B j) (2 ^ h ||| 2 ^ j)) = true then 2 ^ j else 0) := rfl
          by_cases e : nd (B h) (2 ^ h ||| 2 ^ j) = nd (B j) (2 ^ h ||| 2 ^ j)
          · have e' : (nI (nd (B h) (2 ^ h ||| 2 ^ j)) = nI (nd (B j) (2 ^ h ||| 2 ^ j))) = True := eq_true (by rw [e])
            refine ⟨(nI (j + 1), px_wi ρ 184 h (nI (eld B h j ||| 2 ^ j))), ?_, _, rfl, fr_wi m1 _ rfl, fun i hi => ?_, ?_⟩
            · dsimp only
              unfold F_4002_46 f_4002_60 f_4002_103
              simp only [b1, h1h, h1j, fa_or, la_180, la_112, la_184, h3ρ, l1, r1', c1, c2, d1, d2, nh, nj, n1, n2, e', rc_180_2 hRρ, m3, nI_add, gd_tt, oA_arr, px_obj_s, Option.bind_some, Option.map_some, Option.bind_none, eq_self, true_or, or_true, px_av_0, px_av_1, px_av_2, px_av_10, px_av_11, bn, wi_1, wi_2, wl_1, wl_21, wl_22, wr_1, wr_21, wr_22, Sum.elim_inl, Sum.elim_inr, ↓reduceIte, Nat.reduceLT, Nat.reduceLeDiff, not_false_eq_true, not_true_eq_false, Nat.reduceEqDiff, Nat.reduceAdd, reduceCtorEq, and_true, true_and, and_false, false_and, false_or, or_false]
            · show px_up ρ.1 184 h _ 184 i = _
              rw [up_s, if_neg (by omega)]; exact m2 i hi
            · show px_up ρ.1 184 h _ 184 h = _
              rw [up_s, if_pos rfl, eS, decide_eq_true e, if_pos rfl]
          · have e' : ¬ nI (nd (B h) (2 ^ h ||| 2 ^ j)) = nI (nd (B j) (2 ^ h ||| 2 ^ j)) := by rw [nI_eq (by omega) (by omega)]; exact e
            refine ⟨(nI (j + 1), ρ), ?_, ρ, rfl, m1, m2, ?_⟩
            · dsimp only
              unfold F_4002_46 f_4002_60 f_4002_103
              simp only [b1, h1h, h1j, fa_or, la_180, la_112, h3ρ, l1, r1', c1, c2, d1, d2, nh, nj, n1, n2, e', nI_add, gd_tt, oA_arr, px_obj_s, Option.bind_some, Option.map_some, Option.bind_none, eq_self, true_or, or_true, px_av_0, px_av_1, px_av_2, px_av_10, px_av_11, bn, wi_1, wi_2, wl_1, wl_21, wl_22, wr_1, wr_21, wr_22, Sum.elim_inl, Sum.elim_inr, ↓reduceIte, Nat.reduceLT, Nat.reduceLeDiff, not_false_eq_true, not_true_eq_false, Nat.reduceEqDiff, Nat.reduceAdd, reduceCtorEq, and_true, true_and, and_false, false_and, false_or, or_false]
            · rw [eS, decide_eq_false e, if_neg (by decide), Nat.or_zero]; exact m3
        · obtain ⟨ρ, rfl, m1, m2, m3⟩ := hI
          have b1 : nI h ≤ nI h := by rw [nI_leI (by omega) (by omega)]; omega
          refine ⟨.inl (nI (h + 1), ρ), ?_, ρ, rfl, m1, fun i hi => ?_⟩
          · dsimp only
            unfold F_4002_46
            simp only [b1, nI_add, gd_tt, oA_arr, px_obj_s, Option.bind_some, Option.map_some, Option.bind_none, eq_self, true_or, or_true, px_av_0, px_av_1, px_av_2, px_av_10, px_av_11, bn, wi_1, wi_2, wl_1, wl_21, wl_22, wr_1, wr_21, wr_22, Sum.elim_inl, Sum.elim_inr, ↓reduceIte, Nat.reduceLT, Nat.reduceLeDiff, not_false_eq_true, not_true_eq_false, Nat.reduceEqDiff, Nat.reduceAdd, reduceCtorEq, and_true, true_and, and_false, false_and, false_or, or_false]
          · by_cases e : i = h
            · subst e; exact m3
            · exact m2 i (by omega)
      obtain ⟨b, q1, υ, rfl, q2, q3⟩ := inner
      refine ⟨(nI (h + 1), υ), ?_, υ, rfl, q2, q3⟩
      dsimp only
      unfold F_4002_26
      simp only [la_180, la_184, h3ρ, l1, e1, b1, rc_180_2 hRρ, c1, c2, hω2, q1, gd_tt, oA_arr, px_obj_s, Option.bind_some, Option.map_some, Option.bind_none, eq_self, true_or, or_true, px_av_0, px_av_1, px_av_2, px_av_10, px_av_11, bn, wi_1, wi_2, wl_1, wl_21, wl_22, wr_1, wr_21, wr_22, Sum.elim_inl, Sum.elim_inr, ↓reduceIte, Nat.reduceLT, Nat.reduceLeDiff, not_false_eq_true, not_true_eq_false, Nat.reduceEqDiff, Nat.reduceAdd, reduceCtorEq, and_true, true_and, and_false, false_and, false_or, or_false]
    · obtain ⟨ρ, rfl, g1, g2⟩ := hI
      have htρ : ct ρ 111 n B := ct_fr g1 (fun _ => rfl) (fun _ => rfl) ht2
      have h3ρ : ρ.2.2 180 3 = some 111 := by rw [g1.2.2 180 3 (Or.inl rfl)]; exact h32
      have l1 := htρ.1
      have e1 := htρ.2.2.2.2.1
      have b1 : nI n ≤ nI n := by rw [nI_leI (by omega) (by omega)]; omega
      refine ⟨ρ, ?_, g1, g2⟩
      dsimp only
      unfold F_4002_26
      simp only [la_180, h3ρ, l1, e1, b1, gd_tt, oA_arr, px_obj_s, Option.bind_some, Option.map_some, Option.bind_none, eq_self, true_or, or_true, px_av_0, px_av_1, px_av_2, px_av_10, px_av_11, bn, wi_1, wi_2, wl_1, wl_21, wl_22, wr_1, wr_21, wr_22, Sum.elim_inl, Sum.elim_inr, ↓reduceIte, Nat.reduceLT, Nat.reduceLeDiff, not_false_eq_true, not_true_eq_false, Nat.reduceEqDiff, Nat.reduceAdd, reduceCtorEq, and_true, true_and, and_false, false_and, false_or, or_false]
  obtain ⟨b, q1, q2, q3⟩ := lp
  have hp := pw_le hn
  refine ⟨b, ?_, ?_, ⟨cR_fr q2 hR2, by rw [q2.2.2 180 3 (Or.inl rfl)]; exact h32, ct_fr q2 (fun _ => rfl) (fun _ => rfl) ht2, ft_on q2 (by decide) (by decide) (ft_on z2 (by decide) (by decide) y3), q3⟩, fun k hk => ⟨0, by omega, ?_, fun h => by omega⟩⟩
  · simp only [f_4002, la_180, la_181, hω, hω3, rc_180_0 hRω, rc_180_1 hR1, y1, z1, q1, gd_tt, oA_arr, px_obj_s, Option.bind_some, Option.map_some, Option.bind_none, eq_self, true_or, or_true, px_av_0, px_av_1, px_av_2, px_av_10, px_av_11, bn, wi_1, wi_2, wl_1, wl_21, wl_22, wr_1, wr_21, wr_22, Sum.elim_inl, Sum.elim_inr, ↓reduceIte, Nat.reduceLT, Nat.reduceLeDiff, not_false_eq_true, not_true_eq_false, Nat.reduceEqDiff, Nat.reduceAdd, reduceCtorEq, and_true, true_and, and_false, false_and, false_or, or_false]
  · refine fr_tr f0 (fr_tr (fr_mono y2 (fun l j q => ?_)) (fr_tr (fr_mono z2 (fun l j q => ?_)) (fr_mono q2 (fun l j q => ?_))))
    · simp only [SC, Bool.and_eq_false_iff, decide_eq_false_iff_not] at q
      exact tw2_n (by omega) (by omega)
    · simp only [SC, Bool.and_eq_false_iff, decide_eq_false_iff_not] at q
      simp only [on, beq_eq_false_iff_ne]; omega
    · simp only [SC, Bool.and_eq_false_iff, decide_eq_false_iff_not] at q
      simp only [on, beq_eq_false_iff_ne]; omega
  · rw [q2.1 183 k rfl]
    exact z3 k (by omega)
theorem a_telling (hc : cl σ n B) (v : Int32) : agI σ (f_12035 tT σ 100 v) (fun τ => f_98 tT τ 0 v) n B := by
  have hw := hc.2.2.2.2.1
  have hn := hw.1
  obtain ⟨υ, q1, q2, q3, q4⟩ := c_listen hc
  obtain ⟨hR, ht⟩ := id hc
  rcases hs_cases v hn with ⟨h, hh, rfl⟩ | hno
  · obtain ⟨R, r1, r2, r3⟩ := tel_ex hw hh
    obtain ⟨υ2, w1, w2, w3, w4⟩ := c_rndF q3 q4 hh r2 r3 r1
    refine ⟨nI R, υ2, ?_, fr_tr q2 (fr_SG w2), fun τ hm => ?_⟩
    · simp only [f_12035, f_12035_31, la_100, la_102, la_103, la_104, la_105, la_110, la_111, la_112, la_113, la_114, la_115, la_116, la_117, la_120, la_121, la_122, la_123, la_124, la_125, la_126, la_127, la_130, la_131, la_132, la_133, la_134, la_135, la_136, la_137, la_140, la_141, la_142, la_143, la_144, la_145, la_146, la_147, la_150, la_151, la_152, la_153, la_160, la_161, la_170, la_171, la_172, la_173, la_174, la_180, la_181, la_182, la_183, la_184, la_185, la_186, la_190, la_191, la_192, la_193, la_194, la_195, la_200, la_201, la_202, la_210, la_211, la_212, la_213, la_214, la_215, la_216, la_217, la_218, la_219, la_220, la_221, la_222, la_223, la_224, la_225, la_226, la_230, la_231, la_232, la_233, la_234, la_240, la_241, rc_100_0 hR, rc_100_1 hR, rc_100_2 hR, rc_100_3 hR, rc_100_4 hR, rc_100_5 hR, rc_100_6 hR, rc_100_7 hR, rc_100_8 hR, rc_100_9 hR, rc_100_10 hR, rc_100_11 hR, rc_100_12 hR, rc_100_13 hR, rc_100_14 hR, rc_100_15 hR, rc_111_1 hR, rc_113_1 hR, rc_113_2 hR, rc_113_3 hR, rc_110_0 hR, rc_110_1 hR, rc_110_5 hR, rc_121_1 hR, rc_123_1 hR, rc_123_2 hR, rc_123_3 hR, rc_120_0 hR, rc_120_1 hR, rc_120_5 hR, rc_131_1 hR, rc_133_1 hR, rc_133_2 hR, rc_133_3 hR, rc_130_0 hR, rc_130_1 hR, rc_130_5 hR, rc_141_1 hR, rc_143_1 hR, rc_143_2 hR, rc_143_3 hR, rc_140_0 hR, rc_140_1 hR, rc_140_5 hR, rc_150_3 hR, rc_150_4 hR, rc_150_5 hR, rc_150_6 hR, rc_160_0 hR, rc_173_1 hR, rc_170_0 hR, rc_170_1 hR, rc_181_0 hR, rc_185_1 hR, rc_180_0 hR, rc_180_1 hR, rc_180_2 hR, rc_192_1 hR, rc_194_1 hR, rc_190_0 hR, rc_201_1 hR, rc_200_0 hR, rc_214_1 hR, rc_211_0 hR, rc_211_1 hR, rc_216_1 hR, rc_221_1 hR, rc_221_2 hR, rc_221_3 hR, rc_225_1 hR, rc_210_0 hR, rc_210_1 hR, rc_210_2 hR, rc_210_3 hR, rc_210_4 hR, rc_231_1 hR, rc_233_1 hR, rc_230_0 hR, rc_230_1 hR, rc_240_1 hR, rc_100_7 q3.1, gd_tt, oA_arr, px_obj_s, Option.bind_some, Option.map_some, Option.bind_none, eq_self, true_or, or_true, px_av_0, px_av_1, px_av_2, px_av_10, px_av_11, bn, wi_1, wi_2, wl_1, wl_21, wl_22, wr_1, wr_21, wr_22, Sum.elim_inl, Sum.elim_inr, ↓reduceIte, Nat.reduceLT, Nat.reduceLeDiff, not_false_eq_true, not_true_eq_false, Nat.reduceEqDiff, Nat.reduceAdd, reduceCtorEq, and_true, true_and, and_false, false_and, false_or, or_false, c_hasI ht hh, n10, q1, w1]
    · obtain ⟨ω, hω⟩ : ∃ ω, px_wi τ 0 0 (nI 0) = ω := ⟨_, rfl⟩
      have hmω : mo ω n B := by rw [← hω]; exact mo_thr hm
      have fω : fr SM τ ω := by rw [← hω]; exact fr_thr (fr_rf _ _)
      obtain ⟨υ3, x1, x2⟩ := e_tellingOf hmω hh r2 r3 r1
      exact ⟨υ3, by simp only [f_98, la_0, hω, e_hs hmω hh, n10, x1, gd_tt, oA_arr, px_obj_s, Option.bind_some, Option.map_some, Option.bind_none, eq_self, true_or, or_true, px_av_0, px_av_1, px_av_2, px_av_10, px_av_11, bn, wi_1, wi_2, wl_1, wl_21, wl_22, wr_1, wr_21, wr_22, Sum.elim_inl, Sum.elim_inr, ↓reduceIte, Nat.reduceLT, Nat.reduceLeDiff, not_false_eq_true, not_true_eq_false, Nat.reduceEqDiff, Nat.reduceAdd, reduceCtorEq, and_true, true_and, and_false, false_and, false_or, or_false], fr_tr fω x2⟩
  · refine ⟨-2, σ, ?_, fr_rf _ _, fun τ hm => ⟨px_wi τ 0 0 (nI 0), ?_, fr_thr (fr_rf _ _)⟩⟩
    · simp only [f_12035, la_100, la_102, la_103, la_104, la_105, la_110, la_111, la_112, la_113, la_114, la_115, la_116, la_117, la_120, la_121, la_122, la_123, la_124, la_125, la_126, la_127, la_130, la_131, la_132, la_133, la_134, la_135, la_136, la_137, la_140, la_141, la_142, la_143, la_144, la_145, la_146, la_147, la_150, la_151, la_152, la_153, la_160, la_161, la_170, la_171, la_172, la_173, la_174, la_180, la_181, la_182, la_183, la_184, la_185, la_186, la_190, la_191, la_192, la_193, la_194, la_195, la_200, la_201, la_202, la_210, la_211, la_212, la_213, la_214, la_215, la_216, la_217, la_218, la_219, la_220, la_221, la_222, la_223, la_224, la_225, la_226, la_230, la_231, la_232, la_233, la_234, la_240, la_241, rc_100_0 hR, rc_100_1 hR, rc_100_2 hR, rc_100_3 hR, rc_100_4 hR, rc_100_5 hR, rc_100_6 hR, rc_100_7 hR, rc_100_8 hR, rc_100_9 hR, rc_100_10 hR, rc_100_11 hR, rc_100_12 hR, rc_100_13 hR, rc_100_14 hR, rc_100_15 hR, rc_111_1 hR, rc_113_1 hR, rc_113_2 hR, rc_113_3 hR, rc_110_0 hR, rc_110_1 hR, rc_110_5 hR, rc_121_1 hR, rc_123_1 hR, rc_123_2 hR, rc_123_3 hR, rc_120_0 hR, rc_120_1 hR, rc_120_5 hR, rc_131_1 hR, rc_133_1 hR, rc_133_2 hR, rc_133_3 hR, rc_130_0 hR, rc_130_1 hR, rc_130_5 hR, rc_141_1 hR, rc_143_1 hR, rc_143_2 hR, rc_143_3 hR, rc_140_0 hR, rc_140_1 hR, rc_140_5 hR, rc_150_3 hR, rc_150_4 hR, rc_150_5 hR, rc_150_6 hR, rc_160_0 hR, rc_173_1 hR, rc_170_0 hR, rc_170_1 hR, rc_181_0 hR, rc_185_1 hR, rc_180_0 hR, rc_180_1 hR, rc_180_2 hR, rc_192_1 hR, rc_194_1 hR, rc_190_0 hR, rc_201_1 hR, rc_200_0 hR, rc_214_1 hR, rc_211_0 hR, rc_211_1 hR, rc_216_1 hR, rc_221_1 hR, rc_221_2 hR, rc_221_3 hR, rc_225_1 hR, rc_210_0 hR, rc_210_1 hR, rc_210_2 hR, rc_210_3 hR, rc_210_4 hR, rc_231_1 hR, rc_233_1 hR, rc_230_0 hR, rc_230_1 hR, rc_240_1 hR, gd_tt, oA_arr, px_obj_s, Option.bind_some, Option.map_some, Option.bind_none, eq_self, true_or, or_true, px_av_0, px_av_1, px_av_2, px_av_10, px_av_11, bn, wi_1, wi_2, wl_1, wl_21, wl_22, wr_1, wr_21, wr_22, Sum.elim_inl, Sum.elim_inr, ↓reduceIte, Nat.reduceLT, Nat.reduceLeDiff, not_false_eq_true, not_true_eq_false, Nat.reduceEqDiff, Nat.reduceAdd, reduceCtorEq, and_true, true_and, and_false, false_and, false_or, or_false, c_has0 ht hno]
    · simp only [f_98, la_0, gd_tt, oA_arr, px_obj_s, Option.bind_some, Option.map_some, Option.bind_none, eq_self, true_or, or_true, px_av_0, px_av_1, px_av_2, px_av_10, px_av_11, bn, wi_1, wi_2, wl_1, wl_21, wl_22, wr_1, wr_21, wr_22, Sum.elim_inl, Sum.elim_inr, ↓reduceIte, Nat.reduceLT, Nat.reduceLeDiff, not_false_eq_true, not_true_eq_false, Nat.reduceEqDiff, Nat.reduceAdd, reduceCtorEq, and_true, true_and, and_false, false_and, false_or, or_false, e_hs0 (mo_thr hm) hno]
def mxc (c : Nat → Nat) : Nat → Nat
  | 0 => 0
  | j + 1 => if mxc c j < c j then c j else mxc c j
def tmd (c e : Nat → Nat) : Nat → Int32 × Nat × Nat
  | 0 => (-1, 0, 0)
  | j + 1 => if (tmd c e j).2.1 ≤ c j ∧ (c j ≠ (tmd c e j).2.1 ∨ e j < (tmd c e j).2.2) then (nI j, c j, e j) else tmd c e j
def tqd (c e : Nat → Nat) (M : Nat) : Nat → Int32 × Nat
  | 0 => (-1, 11)
  | j + 1 => if c j = M ∧ e j < (tqd c e M j).2 then (nI j, e j) else tqd c e M j
theorem mxc_ge {c : Nat → Nat} : ∀ {j i : Nat}, i < j → c i ≤ mxc c j := by
  intro j
  induction j with
  | zero => intro i hi; omega
  | succ j ih =>
    intro i hi
    simp only [mxc]
    by_cases e : i = j
    · subst e; split <;> omega
    · have := ih (i := i) (by omega)
      split <;> omega
theorem tqd_no {c e : Nat → Nat} {M : Nat} : ∀ {j : Nat}, (∀ i, i < j → c i ≠ M) → tqd c e M j = (-1, 11) := by
  intro j
  induction j with
  | zero => intro _; rfl
  | succ j ih =>
    intro h
    simp only [tqd]
    rw [if_neg (fun q => h j (by omega) q.1)]
    exact ih (fun i hi => h i (by omega))
theorem tmd_tqd {c e : Nat → Nat} {n : Nat} (hc : ∀ j, j < n → 1 ≤ c j) (he : ∀ j, j < n → e j ≤ 10) : ∀ j, j + 1 ≤ n → tmd c e (j + 1) = ((tqd c e (mxc c (j + 1)) (j + 1)).1, mxc c (j + 1), (tqd c e (mxc c (j + 1)) (j + 1)).2) := by
  intro j
  induction j with
  | zero =>
    intro hj
    have h1 := hc 0 (by omega)
    have h2 := he 0 (by omega)
    have e1 : mxc c 1 = c 0 := by
      show (if mxc c 0 < c 0 then c 0 else mxc c 0) = _
      exact if_pos (show 0 < c 0 by omega)
    have e2 : tqd c e (c 0) 1 = (nI 0, e 0) := by
      show (if c 0 = c 0 ∧ e 0 < (tqd c e (c 0) 0).2 then (nI 0, e 0) else tqd c e (c 0) 0) = _
      rw [if_pos ⟨rfl, show e 0 < 11 by omega⟩]
    have e3 : tmd c e 1 = (nI 0, c 0, e 0) := by
      show (if (tmd c e 0).2.1 ≤ c 0 ∧ (c 0 ≠ (tmd c e 0).2.1 ∨ e 0 < (tmd c e 0).2.2) then (nI 0, c 0, e 0) else tmd c e 0) = _
      rw [if_pos ⟨show 0 ≤ c 0 by omega, Or.inl (show c 0 ≠ 0 by omega)⟩]
    show tmd c e 1 = ((tqd c e (mxc c 1) 1).1, mxc c 1, (tqd c e (mxc c 1) 1).2)
    rw [e1, e2, e3]
  | succ j ih =>
    intro hj
    have h1 := hc (j + 1) (by omega)
    have h2 := he (j + 1) (by omega)
    have hi := ih (by omega)
    rcases Nat.lt_trichotomy (mxc c (j + 1)) (c (j + 1)) with q | q | q
    · have e1 : mxc c (j + 1 + 1) = c (j + 1) := by
        show (if mxc c (j + 1) < c (j + 1) then c (j + 1) else mxc c (j + 1)) = _
        rw [if_pos q]
      have e0 : tqd c e (c (j + 1)) (j + 1) = (-1, 11) := tqd_no (fun i hi => by
        have := mxc_ge (c := c) hi
        omega)
      have e2 : tqd c e (c (j + 1)) (j + 1 + 1) = (nI (j + 1), e (j + 1)) := by
        show (if c (j + 1) = c (j + 1) ∧ e (j + 1) < (tqd c e (c (j + 1)) (j + 1)).2 then (nI (j + 1), e (j + 1)) else tqd c e (c (j + 1)) (j + 1)) = _
        rw [e0, if_pos ⟨rfl, by show e (j + 1) < 11; omega⟩]
      have e3 : tmd c e (j + 1 + 1) = (nI (j + 1), c (j + 1), e (j + 1)) := by
        show (if (tmd c e (j + 1)).2.1 ≤ c (j + 1) ∧ (c (j + 1) ≠ (tmd c e (j + 1)).2.1 ∨ e (j + 1) < (tmd c e (j + 1)).2.2) then (nI (j + 1), c (j + 1), e (j + 1)) else tmd c e (j + 1)) = _
        rw [hi, if_pos ⟨by show mxc c (j + 1) ≤ c (j + 1); omega, Or.inl (by show c (j + 1) ≠ mxc c (j + 1); omega)⟩]
      rw [e1, e2, e3]
    · have e1 : mxc c (j + 1 + 1) = mxc c (j + 1) := by
        show (if mxc c (j + 1) < c (j + 1) then c (j + 1) else mxc c (j + 1)) = _
        rw [if_neg (by omega)]
      have e2 : tqd c e (mxc c (j + 1)) (j + 1 + 1) = if e (j + 1) < (tqd c e (mxc c (j + 1)) (j + 1)).2 then (nI (j + 1), e (j + 1)) else tqd c e (mxc c (j + 1)) (j + 1) := by
        show (if c (j + 1) = mxc c (j + 1) ∧ e (j + 1) < (tqd c e (mxc c (j + 1)) (j + 1)).2 then (nI (j + 1), e (j + 1)) else tqd c e (mxc c (j + 1)) (j + 1)) = _
        by_cases z : e (j + 1) < (tqd c e (mxc c (j + 1)) (j + 1)).2
        · rw [if_pos z, if_pos ⟨q.symm, z⟩]
        · rw [if_neg z, if_neg (fun y => z y.2)]
      have e3 : tmd c e (j + 1 + 1) = if e (j + 1) < (tqd c e (mxc c (j + 1)) (j + 1)).2 then (nI (j + 1), c (j + 1), e (j + 1)) else tmd c e (j + 1) := by
        show (if (tmd c e (j + 1)).2.1 ≤ c (j + 1) ∧ (c (j + 1) ≠ (tmd c e (j + 1)).2.1 ∨ e (j + 1) < (tmd c e (j + 1)).2.2) then (nI (j + 1), c (j + 1), e (j + 1)) else tmd c e (j + 1)) = _
        rw [hi]
        dsimp only
        by_cases z : e (j + 1) < (tqd c e (mxc c (j + 1)) (j + 1)).2
        · rw [if_pos z, if_pos ⟨by omega, Or.inr z⟩]
        · rw [if_neg z, if_neg (fun y => by
            rcases y.2 with w | w
            · omega
            · exact z w)]
      rw [e1, e2, e3, hi]
      by_cases z : e (j + 1) < (tqd c e (mxc c (j + 1)) (j + 1)).2
      · rw [if_pos z, if_pos z, q]
      · rw [if_neg z, if_neg z]
    · have e1 : mxc c (j + 1 + 1) = mxc c (j + 1) := by
        show (if mxc c (j + 1) < c (j + 1) then c (j + 1) else mxc c (j + 1)) = _
        rw [if_neg (by omega)]
      have e2 : tqd c e (mxc c (j + 1)) (j + 1 + 1) = tqd c e (mxc c (j + 1)) (j + 1) := by
        show (if c (j + 1) = mxc c (j + 1) ∧ e (j + 1) < (tqd c e (mxc c (j + 1)) (j + 1)).2 then (nI (j + 1), e (j + 1)) else tqd c e (mxc c (j + 1)) (j + 1)) = _
        rw [if_neg (fun y => by omega)]
      have e3 : tmd c e (j + 1 + 1) = tmd c e (j + 1) := by
        show (if (tmd c e (j + 1)).2.1 ≤ c (j + 1) ∧ (c (j + 1) ≠ (tmd c e (j + 1)).2.1 ∨ e (j + 1) < (tmd c e (j + 1)).2.2) then (nI (j + 1), c (j + 1), e (j + 1)) else tmd c e (j + 1)) = _
        rw [if_neg (fun y => by
          have := y.1
          rw [hi] at this
          dsimp only at this
          omega)]
      rw [e1, e2, e3, hi]
theorem tmd_end {c e : Nat → Nat} {n : Nat} (hc : ∀ j, j < n → 1 ≤ c j) (he : ∀ j, j < n → e j ≤ 10) : (tmd c e n).1 = (tqd c e (mxc c n) n).1 := by
  cases n with
  | zero => rfl
  | succ j => rw [tmd_tqd hc he j (Nat.le_refl _)]
theorem tqd_le {c e : Nat → Nat} {M : Nat} : ∀ j, (tqd c e M j).2 ≤ 11 := by
  intro j
  induction j with
  | zero => exact Nat.le_refl _
  | succ j ih =>
    simp only [tqd]
    split
    · rename_i h
      have := h.2
      dsimp only
      omega
    · exact ih
theorem mxc_le {c : Nat → Nat} {K : Nat} (h : ∀ j, c j ≤ K) : ∀ j, mxc c j ≤ K := by
  intro j
  induction j with
  | zero => exact Nat.zero_le _
  | succ j ih =>
    simp only [mxc]
    split
    · exact h j
    · exact ih
theorem tmd_le {c e : Nat → Nat} {K : Nat} (h1 : ∀ j, c j ≤ K) (h2 : ∀ j, e j ≤ K) : ∀ j, (tmd c e j).2.1 ≤ K ∧ (tmd c e j).2.2 ≤ K := by
  intro j
  induction j with
  | zero => exact ⟨Nat.zero_le _, Nat.zero_le _⟩
  | succ j ih =>
    simp only [tmd]
    split
    · exact ⟨h1 j, h2 j⟩
    · exact ih
/-- how many are reached -/
def rcn (n : Nat) (B : Nat → Nat) (h : Nat) : Nat := bc 11 (rc B n 11 (2 ^ h))
theorem e_teller (hm : mo σ n B) {e : Nat → Nat} (he : ∀ h, e h ≤ 10) (hk : ∀ h, h < n → kno n B (rc B n 11 (2 ^ h)) (e h) (2 ^ h) ∧ ∀ i, i < e h → ¬ kno n B (rc B n 11 (2 ^ h)) i (2 ^ h)) : ∃ b, f_99_14 tT 0 (-1) (nI 0) (nI 0) (nI 0) σ = some b ∧ ∃ υ, b = ((tmd (rcn n B) e n).1, υ) ∧ fr SM σ υ := by
  have k1 : vp_in (nI 1) 3216 := (vp_in_eq (by omega)).mpr (by omega)
  have k2 : (nI 1).toNatClampNeg = 1 := nI_clamp (by omega)
  have hw := hm.2.1
  have hn := hw.1
  have hc11 : ∀ j, rcn n B j ≤ 11 := fun j => bc_le 11 _
  have hle := tmd_le (c := rcn n B) (e := e) (K := 11) hc11 (fun j => by have := he j; omega)
  unfold f_99_14
  refine lp_for (F := fun s : Int32 × Int32 × Int32 × Int32 × px_M => F_99_14 tT 0 s.1 s.2.1 s.2.2.1 s.2.2.2.1 s.2.2.2.2) (fun j q => ∃ ρ, q = ((tmd (rcn n B) e j).1, nI (tmd (rcn n B) e j).2.1, nI (tmd (rcn n B) e j).2.2, nI j, ρ) ∧ fr SM σ ρ) _ n (fun j q hj hI => ?_) (fun q hI => ?_) 0 (-1, nI 0, nI 0, nI 0, σ) (by omega) ⟨σ, rfl, fr_rf _ _⟩
  · obtain ⟨ρ, rfl, g1⟩ := hI
    have hmρ := mo_SM g1 hm
    obtain ⟨hRρ, -, e1ρ, -⟩ := id hmρ
    have b1 : ¬ nI n ≤ nI j := by rw [nI_leI (by omega) (by omega)]; omega
    obtain ⟨υ1, y1, y2⟩ := e_reached hmρ hj
    have hm1 : mo υ1 n B := mo_on (by decide) y2 hmρ
    have hrl : rc B n 11 (2 ^ j) < 2048 := rc_lt (pw_lt (by omega)) (fun a _ => lt_2048 hn (hw.2.1 a)) 11
    have y3 := e_bitsOf υ1 (s := rc B n 11 (2 ^ j)) (by omega)
    obtain ⟨m1, m2⟩ := hk j hj
    obtain ⟨υ2, z1, z2⟩ := e_tellingOf hm1 hj m1 m2 (he j)
    have hcj : bc 11 (rc B n 11 (2 ^ j)) = rcn n B j := rfl
    rw [hcj] at y3
    have l1 := hc11 j
    have l2 := he j
    obtain ⟨l3, l4⟩ := hle j
    have hS : tmd (rcn n B) e (j + 1) = if (tmd (rcn n B) e j).2.1 ≤ rcn n B j ∧ (rcn n B j ≠ (tmd (rcn n B) e j).2.1 ∨ e j < (tmd (rcn n B) e j).2.2) then (nI j, rcn n B j, e j) else tmd (rcn n B) e j := rfl
    rw [hS]
    generalize tmd (rcn n B) e j = Z at *
    obtain ⟨zb, zm, zl⟩ := Z
    dsimp only at *
    generalize rcn n B j = C at *
    generalize e j = E at *
    generalize rc B n 11 (2 ^ j) = Rr at *
    by_cases hge : zm ≤ C
    · have hge' : nI zm ≤ nI C := by rw [nI_leI (by omega) (by omega)]; exact hge
      by_cases heq : C = zm
      · have heq' : (nI C = nI zm) = True := eq_true (by rw [heq])
        by_cases hlt : E < zl
        · have hlt' : nI E < nI zl := by rw [nI_ltI (by omega) (by omega)]; exact hlt
          rw [if_pos ⟨hge, Or.inr hlt⟩]
          refine ⟨_, ?_, υ2, rfl, fr_tr g1 (fr_tr (fr_15 y2) z2)⟩
          unfold F_99_14 f_99_36 f_99_53 f_99_68 f_99_77
          simp only [la_0, la_1, rm_0_1 hRρ, k1, k2, e1ρ, b1, y1, y3, hge', z1, heq', hlt', nI_add, gd_tt, oA_arr, px_obj_s, Option.bind_some, Option.map_some, Option.bind_none, eq_self, true_or, or_true, px_av_0, px_av_1, px_av_2, px_av_10, px_av_11, bn, wi_1, wi_2, wl_1, wl_21, wl_22, wr_1, wr_21, wr_22, Sum.elim_inl, Sum.elim_inr, ↓reduceIte, Nat.reduceLT, Nat.reduceLeDiff, not_false_eq_true, not_true_eq_false, Nat.reduceEqDiff, Nat.reduceAdd, reduceCtorEq, and_true, true_and, and_false, false_and, false_or, or_false]
        · have hlt' : ¬ nI E < nI zl := by rw [nI_ltI (by omega) (by omega)]; exact hlt
          rw [if_neg (fun y => by
            rcases y.2 with w | w
            · exact w heq
            · exact hlt w)]
          refine ⟨_, ?_, υ2, rfl, fr_tr g1 (fr_tr (fr_15 y2) z2)⟩
          unfold F_99_14 f_99_36 f_99_53 f_99_77
          simp only [la_0, la_1, rm_0_1 hRρ, k1, k2, e1ρ, b1, y1, y3, hge', z1, heq', hlt', nI_add, gd_tt, oA_arr, px_obj_s, Option.bind_some, Option.map_some, Option.bind_none, eq_self, true_or, or_true, px_av_0, px_av_1, px_av_2, px_av_10, px_av_11, bn, wi_1, wi_2, wl_1, wl_21, wl_22, wr_1, wr_21, wr_22, Sum.elim_inl, Sum.elim_inr, ↓reduceIte, Nat.reduceLT, Nat.reduceLeDiff, not_false_eq_true, not_true_eq_false, Nat.reduceEqDiff, Nat.reduceAdd, reduceCtorEq, and_true, true_and, and_false, false_and, false_or, or_false]
      · have heq' : ¬ nI C = nI zm := by rw [nI_eq (by omega) (by omega)]; exact heq
        rw [if_pos ⟨hge, Or.inl heq⟩]
        refine ⟨_, ?_, υ2, rfl, fr_tr g1 (fr_tr (fr_15 y2) z2)⟩
        unfold F_99_14 f_99_36 f_99_53 f_99_68 f_99_77
        simp only [la_0, la_1, rm_0_1 hRρ, k1, k2, e1ρ, b1, y1, y3, hge', z1, heq', nI_add, gd_tt, oA_arr, px_obj_s, Option.bind_some, Option.map_some, Option.bind_none, eq_self, true_or, or_true, px_av_0, px_av_1, px_av_2, px_av_10, px_av_11, bn, wi_1, wi_2, wl_1, wl_21, wl_22, wr_1, wr_21, wr_22, Sum.elim_inl, Sum.elim_inr, ↓reduceIte, Nat.reduceLT, Nat.reduceLeDiff, not_false_eq_true, not_true_eq_false, Nat.reduceEqDiff, Nat.reduceAdd, reduceCtorEq, and_true, true_and, and_false, false_and, false_or, or_false]
    · have hge' : ¬ nI zm ≤ nI C := by rw [nI_leI (by omega) (by omega)]; exact hge
      rw [if_neg (fun y => hge y.1)]
      refine ⟨_, ?_, υ1, rfl, fr_tr g1 (fr_15 y2)⟩
      unfold F_99_14 f_99_36 f_99_77
      simp only [la_0, la_1, rm_0_1 hRρ, k1, k2, e1ρ, b1, y1, y3, hge', nI_add, gd_tt, oA_arr, px_obj_s, Option.bind_some, Option.map_some, Option.bind_none, eq_self, true_or, or_true, px_av_0, px_av_1, px_av_2, px_av_10, px_av_11, bn, wi_1, wi_2, wl_1, wl_21, wl_22, wr_1, wr_21, wr_22, Sum.elim_inl, Sum.elim_inr, ↓reduceIte, Nat.reduceLT, Nat.reduceLeDiff, not_false_eq_true, not_true_eq_false, Nat.reduceEqDiff, Nat.reduceAdd, reduceCtorEq, and_true, true_and, and_false, false_and, false_or, or_false]
  · obtain ⟨ρ, rfl, g1⟩ := hI
    have hmρ := mo_SM g1 hm
    obtain ⟨hRρ, -, e1ρ, -⟩ := id hmρ
    have b1 : nI n ≤ nI n := by rw [nI_leI (by omega) (by omega)]; omega
    refine ⟨_, ?_, ρ, rfl, g1⟩
    dsimp only
    unfold F_99_14
    simp only [la_0, la_1, rm_0_1 hRρ, k1, k2, e1ρ, b1, gd_tt, oA_arr, px_obj_s, Option.bind_some, Option.map_some, Option.bind_none, eq_self, true_or, or_true, px_av_0, px_av_1, px_av_2, px_av_10, px_av_11, bn, wi_1, wi_2, wl_1, wl_21, wl_22, wr_1, wr_21, wr_22, Sum.elim_inl, Sum.elim_inr, ↓reduceIte, Nat.reduceLT, Nat.reduceLeDiff, not_false_eq_true, not_true_eq_false, Nat.reduceEqDiff, Nat.reduceAdd, reduceCtorEq, and_true, true_and, and_false, false_and, false_or, or_false]
theorem c_best (hs : gsB σ n B) (hls : lst σ n B) {e : Nat → Nat} (he : ∀ h, e h ≤ 10) (hk : ∀ h, h < n → kno n B (rc B n 11 (2 ^ h)) (e h) (2 ^ h) ∧ ∀ i, i < e h → ¬ kno n B (rc B n 11 (2 ^ h)) i (2 ^ h)) : ∃ b, f_4003 tT σ 180 = some b ∧ ∃ υ, b = ((tqd (rcn n B) e (mxc (rcn n B) n) n).1, υ) ∧ fr SG σ υ := by
  obtain ⟨hR, g2, g3, g4, g5⟩ := id hs
  have hw := g3.2.2.2.1
  have hn := hw.1
  have hc11 : ∀ j, rcn n B j ≤ 11 := fun j => bc_le 11 _
  have cnt : ∀ ρ, ct ρ 111 n B → ∀ j, j < n → ∃ r, f_11017 tT ρ 111 (nI j) (nI 11) = some r ∧ f_21000 tT ρ r = some (nI (rcn n B j)) := fun ρ hρ j hj => by
    have hrl : rc B n 11 (2 ^ j) < 2048 := rc_lt (pw_lt (by omega)) (fun a _ => lt_2048 hn (hw.2.1 a)) 11
    exact ⟨_, c_within hρ hj (by omega), e_bitCount ρ hrl⟩
  have hM := mxc_le hc11 n
  have second : ∀ M, M ≤ 11 → ∃ b, f_4003_47 tT 180 (nI M) (-1) (nI 11) (nI 0) σ = some b ∧ ∃ υ, b = ((tqd (rcn n B) e M n).1, υ) ∧ fr SG σ υ := by
    intro M hM
    unfold f_4003_47
    refine lp_for (F := fun s : Int32 × Int32 × Int32 × px_M => F_4003_47 tT 180 (nI M) s.1 s.2.1 s.2.2.1 s.2.2.2) (fun j q => ∃ ρ, q = ((tqd (rcn n B) e M j).1, nI (tqd (rcn n B) e M j).2, nI j, ρ) ∧ fr SG σ ρ ∧ gsB ρ n B ∧ lst ρ n B) _ n (fun j q hj hI => ?_) (fun q hI => ?_) 0 (-1, nI 11, nI 0, σ) (by omega) ⟨σ, rfl, fr_rf _ _, hs, hls⟩
    · obtain ⟨ρ, rfl, p1, p2, p3⟩ := hI
      obtain ⟨w1, w2, w3, w4, w5⟩ := id p2
      have l1 := w3.1
      have e1 := w3.2.2.2.2.1
      have b1 : ¬ nI n ≤ nI j := by rw [nI_leI (by omega) (by omega)]; omega
      obtain ⟨r, r1, r2⟩ := cnt ρ w3 j hj
      have l2 := hc11 j
      have l3 := he j
      have l4 := tqd_le (c := rcn n B) (e := e) (M := M) j
      have hS : tqd (rcn n B) e M (j + 1) = if rcn n B j = M ∧ e j < (tqd (rcn n B) e M j).2 then (nI j, e j) else tqd (rcn n B) e M j := rfl
      obtain ⟨m1, m2⟩ := hk j hj
      obtain ⟨υ, y1, y2, y3, y4⟩ := c_rndF p2 p3 hj m1 m2 (he j)
      rw [hS]
      generalize tqd (rcn n B) e M j = Z at *
      obtain ⟨zb, zf⟩ := Z
      dsimp only at *
      generalize rcn n B j = C at *
      generalize e j = E at *
      by_cases hC : C = M
      · have hC' : (nI C = nI M) = True := eq_true (by rw [hC])
        by_cases hlt : E < zf
        · have hlt' : ¬ nI zf ≤ nI E := by rw [nI_leI (by omega) (by omega)]; omega
          rw [if_pos ⟨hC, hlt⟩]
          refine ⟨_, ?_, υ, rfl, fr_tr p1 y2, y3, y4⟩
          unfold F_4003_47 f_4003_77 f_4003_97
          simp (implicitDefEqProofs := false) only [la_180, w2, l1, e1, b1, r1, r2, hC', y1, hlt', nI_add, gd_tt, oA_arr, px_obj_s, Option.bind_some, Option.map_some, Option.bind_none, eq_self, true_or, or_true, px_av_0, px_av_1, px_av_2, px_av_10, px_av_11, bn, wi_1, wi_2, wl_1, wl_21, wl_22, wr_1, wr_21, wr_22, Sum.elim_inl, Sum.elim_inr, ↓reduceIte, Nat.reduceLT, Nat.reduceLeDiff, not_false_eq_true, not_true_eq_false, Nat.reduceEqDiff, Nat.reduceAdd, reduceCtorEq, and_true, true_and, and_false, false_and, false_or, or_false]
        · have hlt' : nI zf ≤ nI E := by rw [nI_leI (by omega) (by omega)]; omega
          rw [if_neg (fun y => hlt y.2)]
          refine ⟨_, ?_, υ, rfl, fr_tr p1 y2, y3, y4⟩
          unfold F_4003_47 f_4003_77 f_4003_97
          simp (implicitDefEqProofs := false) only [la_180, w2, l1, e1, b1, r1, r2, hC', y1, hlt', nI_add, gd_tt, oA_arr, px_obj_s, Option.bind_some, Option.map_some, Option.bind_none, eq_self, true_or, or_true, px_av_0, px_av_1, px_av_2, px_av_10, px_av_11, bn, wi_1, wi_2, wl_1, wl_21, wl_22, wr_1, wr_21, wr_22, Sum.elim_inl, Sum.elim_inr, ↓reduceIte, Nat.reduceLT, Nat.reduceLeDiff, not_false_eq_true, not_true_eq_false, Nat.reduceEqDiff, Nat.reduceAdd, reduceCtorEq, and_true, true_and, and_false, false_and, false_or, or_false]
      · have hC' : ¬ nI C = nI M := by rw [nI_eq (by omega) (by omega)]; exact hC
        rw [if_neg (fun y => hC y.1)]
        refine ⟨_, ?_, ρ, rfl, p1, p2, p3⟩
        unfold F_4003_47 f_4003_97
        simp (implicitDefEqProofs := false) only [la_180, w2, l1, e1, b1, r1, r2, hC', nI_add, gd_tt, oA_arr, px_obj_s, Option.bind_some, Option.map_some, Option.bind_none, eq_self, true_or, or_true, px_av_0, px_av_1, px_av_2, px_av_10, px_av_11, bn, wi_1, wi_2, wl_1, wl_21, wl_22, wr_1, wr_21, wr_22, Sum.elim_inl, Sum.elim_inr, ↓reduceIte, Nat.reduceLT, Nat.reduceLeDiff, not_false_eq_true, not_true_eq_false, Nat.reduceEqDiff, Nat.reduceAdd, reduceCtorEq, and_true, true_and, and_false, false_and, false_or, or_false]
    · obtain ⟨ρ, rfl, p1, p2, p3⟩ := hI
      obtain ⟨w1, w2, w3, w4, w5⟩ := id p2
      have l1 := w3.1
      have e1 := w3.2.2.2.2.1
      have b1 : nI n ≤ nI n := by rw [nI_leI (by omega) (by omega)]; omega
      refine ⟨_, ?_, ρ, rfl, p1⟩
      dsimp only
      unfold F_4003_47
      simp only [la_180, w2, l1, e1, b1, gd_tt, oA_arr, px_obj_s, Option.bind_some, Option.map_some, Option.bind_none, eq_self, true_or, or_true, px_av_0, px_av_1, px_av_2, px_av_10, px_av_11, bn, wi_1, wi_2, wl_1, wl_21, wl_22, wr_1, wr_21, wr_22, Sum.elim_inl, Sum.elim_inr, ↓reduceIte, Nat.reduceLT, Nat.reduceLeDiff, not_false_eq_true, not_true_eq_false, Nat.reduceEqDiff, Nat.reduceAdd, reduceCtorEq, and_true, true_and, and_false, false_and, false_or, or_false]
  have l1 := g3.1
  have e1 := g3.2.2.2.2.1
  unfold f_4003 f_4003_4
  refine lp_for (F := fun s : Int32 × Int32 => F_4003_4 tT σ 180 s.1 s.2) (fun j q => q = (nI (mxc (rcn n B) j), nI j)) _ n (fun j q hj hI => ?_) (fun q hI => ?_) 0 (nI 0, nI 0) (by omega) rfl
  · subst hI
    have b1 : ¬ nI n ≤ nI j := by rw [nI_leI (by omega) (by omega)]; omega
    obtain ⟨r, r1, r2⟩ := cnt σ g3 j hj
    have l2 := hc11 j
    have l3 := mxc_le hc11 j
    have hS : mxc (rcn n B) (j + 1) = if mxc (rcn n B) j < rcn n B j then rcn n B j else mxc (rcn n B) j := rfl
    refine ⟨_, ?_, rfl⟩
    rw [hS]
    dsimp only
    generalize mxc (rcn n B) j = Z at *
    generalize rcn n B j = C at *
    have hite : (if nI Z < nI C then nI C else nI Z) = nI (if Z < C then C else Z) := by
      by_cases h : Z < C
      · rw [if_pos (show nI Z < nI C by rw [nI_ltI (by omega) (by omega)]; exact h), if_pos h]
      · rw [if_neg (show ¬ nI Z < nI C by rw [nI_ltI (by omega) (by omega)]; exact h), if_neg h]
    unfold F_4003_4 f_4003_33
    simp (implicitDefEqProofs := false) only [la_180, g2, l1, e1, b1, r1, r2, hite, nI_add, gd_tt, oA_arr, px_obj_s, Option.bind_some, Option.map_some, Option.bind_none, eq_self, true_or, or_true, px_av_0, px_av_1, px_av_2, px_av_10, px_av_11, bn, wi_1, wi_2, wl_1, wl_21, wl_22, wr_1, wr_21, wr_22, Sum.elim_inl, Sum.elim_inr, ↓reduceIte, Nat.reduceLT, Nat.reduceLeDiff, not_false_eq_true, not_true_eq_false, Nat.reduceEqDiff, Nat.reduceAdd, reduceCtorEq, and_true, true_and, and_false, false_and, false_or, or_false]
  · subst hI
    have b1 : nI n ≤ nI n := by rw [nI_leI (by omega) (by omega)]; omega
    obtain ⟨b, y1, υ, rfl, y2⟩ := second (mxc (rcn n B) n) hM
    refine ⟨_, ?_, υ, rfl, y2⟩
    dsimp only
    unfold F_4003_4
    simp only [la_180, g2, l1, e1, b1, y1, gd_tt, oA_arr, px_obj_s, Option.bind_some, Option.map_some, Option.bind_none, eq_self, true_or, or_true, px_av_0, px_av_1, px_av_2, px_av_10, px_av_11, bn, wi_1, wi_2, wl_1, wl_21, wl_22, wr_1, wr_21, wr_22, Sum.elim_inl, Sum.elim_inr, ↓reduceIte, Nat.reduceLT, Nat.reduceLeDiff, not_false_eq_true, not_true_eq_false, Nat.reduceEqDiff, Nat.reduceAdd, reduceCtorEq, and_true, true_and, and_false, false_and, false_or, or_false]
theorem a_teller (hc : cl σ n B) : agI σ (f_12036 tT σ 100) (fun τ => f_99 tT τ 0) n B := by
  have hw := hc.2.2.2.2.1
  have hn := hw.1
  obtain ⟨υ, q1, q2, q3, q4⟩ := c_listen hc
  obtain ⟨hR, ht⟩ := id hc
  have hex : ∀ h, ∃ R, R ≤ 10 ∧ (h < n → kno n B (rc B n 11 (2 ^ h)) R (2 ^ h) ∧ ∀ i, i < R → ¬ kno n B (rc B n 11 (2 ^ h)) i (2 ^ h)) := fun h => by
    by_cases hh : h < n
    · obtain ⟨R, r1, r2, r3⟩ := tel_ex hw hh
      exact ⟨R, r1, fun _ => ⟨r2, r3⟩⟩
    · exact ⟨0, by omega, fun q => absurd q hh⟩
  obtain ⟨e, he⟩ := Classical.axiomOfChoice hex
  have hc1 : ∀ j, j < n → 1 ≤ rcn n B j := fun j hj => bc_1 (i := j) (by omega) (rc_les (m := 0) (k := 11) (Nat.zero_le _) j (by show (2 ^ j).testBit j = true; exact Nat.testBit_two_pow_self))
  have hend := tmd_end (c := rcn n B) (e := e) hc1 (fun j _ => (he j).1)
  obtain ⟨b, y1, υ2, rfl, y2⟩ := c_best q3 q4 (fun h => (he h).1) (fun h hh => (he h).2 hh)
  refine ⟨(tqd (rcn n B) e (mxc (rcn n B) n) n).1, υ2, ?_, fr_tr q2 (fr_SG y2), fun τ hm => ?_⟩
  · simp only [f_12036, la_100, la_102, la_103, la_104, la_105, la_110, la_111, la_112, la_113, la_114, la_115, la_116, la_117, la_120, la_121, la_122, la_123, la_124, la_125, la_126, la_127, la_130, la_131, la_132, la_133, la_134, la_135, la_136, la_137, la_140, la_141, la_142, la_143, la_144, la_145, la_146, la_147, la_150, la_151, la_152, la_153, la_160, la_161, la_170, la_171, la_172, la_173, la_174, la_180, la_181, la_182, la_183, la_184, la_185, la_186, la_190, la_191, la_192, la_193, la_194, la_195, la_200, la_201, la_202, la_210, la_211, la_212, la_213, la_214, la_215, la_216, la_217, la_218, la_219, la_220, la_221, la_222, la_223, la_224, la_225, la_226, la_230, la_231, la_232, la_233, la_234, la_240, la_241, rc_100_0 hR, rc_100_1 hR, rc_100_2 hR, rc_100_3 hR, rc_100_4 hR, rc_100_5 hR, rc_100_6 hR, rc_100_7 hR, rc_100_8 hR, rc_100_9 hR, rc_100_10 hR, rc_100_11 hR, rc_100_12 hR, rc_100_13 hR, rc_100_14 hR, rc_100_15 hR, rc_111_1 hR, rc_113_1 hR, rc_113_2 hR, rc_113_3 hR, rc_110_0 hR, rc_110_1 hR, rc_110_5 hR, rc_121_1 hR, rc_123_1 hR, rc_123_2 hR, rc_123_3 hR, rc_120_0 hR, rc_120_1 hR, rc_120_5 hR, rc_131_1 hR, rc_133_1 hR, rc_133_2 hR, rc_133_3 hR, rc_130_0 hR, rc_130_1 hR, rc_130_5 hR, rc_141_1 hR, rc_143_1 hR, rc_143_2 hR, rc_143_3 hR, rc_140_0 hR, rc_140_1 hR, rc_140_5 hR, rc_150_3 hR, rc_150_4 hR, rc_150_5 hR, rc_150_6 hR, rc_160_0 hR, rc_173_1 hR, rc_170_0 hR, rc_170_1 hR, rc_181_0 hR, rc_185_1 hR, rc_180_0 hR, rc_180_1 hR, rc_180_2 hR, rc_192_1 hR, rc_194_1 hR, rc_190_0 hR, rc_201_1 hR, rc_200_0 hR, rc_214_1 hR, rc_211_0 hR, rc_211_1 hR, rc_216_1 hR, rc_221_1 hR, rc_221_2 hR, rc_221_3 hR, rc_225_1 hR, rc_210_0 hR, rc_210_1 hR, rc_210_2 hR, rc_210_3 hR, rc_210_4 hR, rc_231_1 hR, rc_233_1 hR, rc_230_0 hR, rc_230_1 hR, rc_240_1 hR, rc_100_7 q3.1, gd_tt, oA_arr, px_obj_s, Option.bind_some, Option.map_some, Option.bind_none, eq_self, true_or, or_true, px_av_0, px_av_1, px_av_2, px_av_10, px_av_11, bn, wi_1, wi_2, wl_1, wl_21, wl_22, wr_1, wr_21, wr_22, Sum.elim_inl, Sum.elim_inr, ↓reduceIte, Nat.reduceLT, Nat.reduceLeDiff, not_false_eq_true, not_true_eq_false, Nat.reduceEqDiff, Nat.reduceAdd, reduceCtorEq, and_true, true_and, and_false, false_and, false_or, or_false, q1, y1]
  · obtain ⟨ω, hω⟩ : ∃ ω, px_wi τ 0 0 (nI 0) = ω := ⟨_, rfl⟩
    have hmω : mo ω n B := by rw [← hω]; exact mo_thr hm
    have fω : fr SM τ ω := by rw [← hω]; exact fr_thr (fr_rf _ _)
    obtain ⟨b, z1, υ3, rfl, z2⟩ := e_teller hmω (fun h => (he h).1) (fun h hh => (he h).2 hh)
    rw [hend] at z1
    exact ⟨υ3, by simp only [f_99, la_0, hω, z1, gd_tt, oA_arr, px_obj_s, Option.bind_some, Option.map_some, Option.bind_none, eq_self, true_or, or_true, px_av_0, px_av_1, px_av_2, px_av_10, px_av_11, bn, wi_1, wi_2, wl_1, wl_21, wl_22, wr_1, wr_21, wr_22, Sum.elim_inl, Sum.elim_inr, ↓reduceIte, Nat.reduceLT, Nat.reduceLeDiff, not_false_eq_true, not_true_eq_false, Nat.reduceEqDiff, Nat.reduceAdd, reduceCtorEq, and_true, true_and, and_false, false_and, false_or, or_false], fr_tr fω z2⟩
end
theorem s_telling {σ τ : px_M} (h : ST σ τ) (x : Int32) : stII σ τ (f_12035 tT σ 100 x) (f_98 tT τ 0 x) := s_I (fm := fun τ => f_98 tT τ 0 x) h (fun _ _ hc => a_telling hc x)
theorem s_teller {σ τ : px_M} (h : ST σ τ) : stII σ τ (f_12036 tT σ 100) (f_99 tT τ 0) := s_I (fm := fun τ => f_99 tT τ 0) h (fun _ _ hc => a_teller hc)
