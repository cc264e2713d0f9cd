/-! the model: safe -/
theorem rc_ly {nb : Nat → Nat} {n a h : Nat} (ha : a < 11) (hl : ∀ j, j < n → nb j < 2048) : ∀ {m : Nat}, (rc nb n m (2 ^ a)).testBit h = true ↔ ∃ i, i ≤ m ∧ (ly nb n a i).testBit h = true := by
  intro m
  induction m with
  | zero =>
    constructor
    · intro q; exact ⟨0, by omega, q⟩
    · rintro ⟨i, h1, h2⟩
      have : i = 0 := by omega
      subst this; exact h2
  | succ m ih =>
    rw [← rc_next ha hl m, Nat.testBit_or, Bool.or_eq_true, ih]
    constructor
    · rintro (⟨i, h1, h2⟩ | q)
      · exact ⟨i, by omega, h2⟩
      · exact ⟨m + 1, by omega, q⟩
    · rintro ⟨i, h1, h2⟩
      by_cases hi : i = m + 1
      · subst hi; exact Or.inr h2
      · exact Or.inl ⟨i, by omega, h2⟩
theorem fz_le {r : Nat → Int32} {a : Nat} {row : Nat → Int32} (ht : tok r) (ha : a < 11) (hf : fz r a row) {h m : Nat} (hh : h < 11) (hm : m < 99) : row h ≤ nI m ↔ (rc (tB r) (tN r) m (2 ^ a)).testBit h = true := by
  have hf2 := hf
  obtain ⟨hn, -, -, hlt⟩ := id ht
  have hltn : ∀ j, j < tN r → tB r j < 2048 := fun j hj => hlt j (by omega)
  obtain ⟨M, h1, h2, h3, h4⟩ := hf
  have h5 := fd_le (nb := tB r) (n := tN r) (a := a) h (M := M) (by omega)
  rw [rc_ly ha hltn]
  constructor
  · intro q
    rw [h1 h hh, nI_leI (by omega) (by omega)] at q
    exact ⟨_, q, (fz_at ht ha hf2 hh (i := fd (tB r) (tN r) a M h) (by omega)).mp (h1 h hh)⟩
  · rintro ⟨i, q1, q2⟩
    rw [(fz_at ht ha hf2 hh (by omega)).mpr q2]
    exact nI_le q1 (by omega)
theorem mb_house2 {v : Int64} {n : Nat} (h1 : 1 ≤ n) (hn : n ≤ 11) : (decide (lN 0 ≤ v) && decide (v ≤ lN (n - 1))) = decide (0 ≤ v.toInt ∧ v.toInt < n) := by
  have := mb_house (v := v) hn
  rw [pk_sub h1, nI_l (by omega)] at this
  exact this
def sf_c (y : Int32) : Bool := decide (lN 0 ≤ y.toInt64) && decide (y.toInt64 ≤ lN 10)
theorem sf_of {x : Int32} (h : sf_c x = true) : ∃ i, i < 11 ∧ x = nI i := by
  unfold sf_c at h
  rw [Bool.and_eq_true, decide_eq_true_eq, decide_eq_true_eq, fa_le64, fa_le64, Int32.toInt_toInt64] at h
  have e0 : (lN 0).toInt = 0 := by decide
  have e1 : (lN 10).toInt = 10 := by decide
  rw [e0, e1] at h
  refine ⟨x.toInt.toNat, by omega, ?_⟩
  apply Int32.toInt_inj.mp
  rw [nI_toInt (by omega)]
  omega
def S_safe : px_S := fun av σ k => match av with
  | [.inr (.inr (some 0)), .inl x, .inl y] => mt_R σ.2.2 ∧ tok (σ.1 1) ∧ tok2 (σ.1 1) ∧ (¬ (0 ≤ x.toInt64.toInt ∧ x.toInt64.toInt < tN (σ.1 1)) → k (some (.inl (-2))) (px_wi σ 0 0 (nI 0))) ∧ ((0 ≤ x.toInt64.toInt ∧ x.toInt64.toInt < tN (σ.1 1)) → sf_c y = false → k (some (.inl (-3))) (px_wi σ 0 0 (nI 0))) ∧ (∀ (a m : Nat) (τ : px_M), a < tN (σ.1 1) → m < 11 → x = nI a → y = nI m → fr 15 (px_wi σ 0 0 (nI 0)) τ → k (some (.inl (nI (bs (fun h => !(rc (tB (σ.1 1)) (tN (σ.1 1)) m (2 ^ a)).testBit h) (tN (σ.1 1)))))) τ)
  | _ => False
theorem S_safe_sp {av : List px_V} {σ : px_M} {k : Option px_V → px_M → Prop} (h : S_safe av σ k) : ∃ x y, av = [.inr (.inr (some 0)), .inl x, .inl y] ∧ (mt_R σ.2.2 ∧ tok (σ.1 1) ∧ tok2 (σ.1 1) ∧ (¬ (0 ≤ x.toInt64.toInt ∧ x.toInt64.toInt < tN (σ.1 1)) → k (some (.inl (-2))) (px_wi σ 0 0 (nI 0))) ∧ ((0 ≤ x.toInt64.toInt ∧ x.toInt64.toInt < tN (σ.1 1)) → sf_c y = false → k (some (.inl (-3))) (px_wi σ 0 0 (nI 0))) ∧ (∀ (a m : Nat) (τ : px_M), a < tN (σ.1 1) → m < 11 → x = nI a → y = nI m → fr 15 (px_wi σ 0 0 (nI 0)) τ → k (some (.inl (nI (bs (fun h => !(rc (tB (σ.1 1)) (tN (σ.1 1)) m (2 ^ a)).testBit h) (tN (σ.1 1)))))) τ)) := by
  unfold S_safe at h
  split at h
  · exact ⟨_, _, rfl, h⟩
  · exact h.elim
def I_safe (a m : Nat) (σ : px_M) : Nat → px_Ls → px_M → Prop := fun j ls τ => fr 15 (px_wi σ 0 0 (nI 0)) τ ∧ fz (σ.1 1) a (τ.1 15) ∧ ls = [some (.inr (.inr (some 0))), some (.inl (nI a)), some (.inl (nI m)), some (.inl (nI (bs (fun h => !(rc (tB (σ.1 1)) (tN (σ.1 1)) m (2 ^ a)).testBit h) j))), some (.inl (nI j))]
set_option maxHeartbeats 4000000 in
set_option maxRecDepth 100000 in
theorem m_safe {tab : px_T} (ht : mt_ok tab) {h : Nat} (hh : 3 ≤ h) : px_Ok tab pn_i100 h S_safe := by
  refine px_mth ht.1 (by decide +kernel) (fun av σ k hS => by obtain ⟨x, y, rfl, hR, htk, htk2, hS1, hS2, hS3⟩ := S_safe_sp hS; exact Nat.le_of_ble_eq_true rfl) (fun C hT hC av σ k hS => ?_)
  replace hS := S_safe_sp hS
  obtain ⟨x, y, rfl, hR, htk, htk2, hS1, hS2, hS3⟩ := hS
  subst hT
  obtain ⟨hn, h1, hnb, hlt⟩ := id htk
  by_cases hx : 0 ≤ x.toInt64.toInt ∧ x.toInt64.toInt < tN (σ.1 1)
  · cases hc : sf_c y with
    | false =>
      have hc2 := hc
      unfold sf_c at hc2
      refine px_runG (h - 1) ck_100 [(30, S_isHouse), (2, S_within)] [(32, (fun _ _ _ => False))] 24 hC (px_sp1 (m_isHouse ht (by omega)) (px_sp1 (m_within ht (by omega)) px_nosp)) (by omega) (px_cut1 (fun _ _ _ hz => hz.elim) px_nocut) (fun G Jf hG hJf => ?_)
      simp only [↓hG, ↓hJf, ↓px_go, ↓px_vc, ↓px_ex, ↓px_jp, ↓px_gi, ↓px_gl, ↓px_gr, ↓px_s1, ↓px_s2, ↓px_nl, ↓px_i1, ↓px_l1, ↓px_r1, ↓px_q1, ↓px_i2, ↓px_l2, ↓px_il, ↓px_d0, ↓px_d1, ↓px_d2, ↓px_pop, px_sz, ↓px_sp, ↓px_obj, ↓px_arr, ↓px_rd, ↓px_pt, ↓px_rok, ↓px_rv, ↓px_fill, ↓px_sl, ↓px_li, ↓px_l0, ↓px_lw, ↓px_lc, px_wi, px_wl, px_wr, px_up_at, lc_lt, lc_ge, lc_gt, lc_le, lc_eq, ↓reduceIte, Nat.reduceEqDiff, Nat.reduceLeDiff, Nat.reduceAdd, Nat.reduceSub, reduceCtorEq, List.length_cons, List.length_nil, Option.toList_some, Option.toList_none, List.cons_append, List.nil_append, true_and, and_true, false_and, and_false, true_or, or_true, false_or, or_false, and_self, or_self, not_false_eq_true, not_true_eq_false, false_implies, forall_const, true_implies, ↓bk_100, ↓pn_i100, ↓S_isHouse, ↓S_within, mt_0 ht]
      try simp (disch := omega) only [true_and, and_true, mb_bit, mb_house, bcI_eq, px_up_row, ni_divL, ni_subL, nI_add, pk_mul, nI_leI, nI_ltI, nI_eq, vp_in_eq, nI_clamp, fa_and, fa_or, ni_bit1, ni_1s, nI_l, mb_eq0, mb_ne0, mb_eq1, h1, hc2, mb_house2]
      exact ⟨hR, fun _ => by first | exact hS2 hx hc | exact ⟨fun q => absurd rfl q, fun _ => hS2 hx hc⟩ | exact ⟨fun q => absurd trivial q, fun _ => hS2 hx hc⟩, fun q => by rw [decide_eq_true hx] at q; cases q⟩
    | true =>
      have hc2 := hc
      unfold sf_c at hc2
      obtain ⟨a, ha, rfl⟩ := hs_of hx hn
      obtain ⟨m, hm, rfl⟩ := sf_of hc
      have lp := px_loop (C := C) (k := k) (pc := 43) (I_safe a m σ) (tN (σ.1 1)) (fun j ls τ hj hI hn2 => by
        obtain ⟨hfr, hfz, rfl⟩ := hI
        have hr1 : τ.1 1 = σ.1 1 := by
          rw [hfr.1 1 (by decide)]
          show px_up σ.1 0 0 (nI 0) 1 = _
          exact px_up_row (by decide)
        have hR' : mt_R τ.2.2 := by rw [hfr.2]; exact hR
        have hbl := bs_lt (p := fun h => !(rc (tB (σ.1 1)) (tN (σ.1 1)) m (2 ^ a)).testBit h) (j := j) (by omega)
        refine px_runG (h - 1) ck_100 [] [(43, px_li (I_safe a m σ) j (tN (σ.1 1)))] 24 hC px_nosp (by omega) (px_cut1 (px_li_ok hn2) px_nocut) (fun G Jf hG hJf => ?_)
        simp only [↓hG, ↓hJf, ↓px_go, ↓px_vc, ↓px_ex, ↓px_jp, ↓px_gi, ↓px_gl, ↓px_gr, ↓px_s1, ↓px_s2, ↓px_nl, ↓px_i1, ↓px_l1, ↓px_r1, ↓px_q1, ↓px_i2, ↓px_l2, ↓px_il, ↓px_d0, ↓px_d1, ↓px_d2, ↓px_pop, px_sz, ↓px_sp, ↓px_obj, ↓px_arr, ↓px_rd, ↓px_pt, ↓px_rok, ↓px_rv, ↓px_fill, ↓px_sl, ↓px_li, ↓px_l0, ↓px_lw, ↓px_lc, px_wi, px_wl, px_wr, px_up_at, lc_lt, lc_ge, lc_gt, lc_le, lc_eq, ↓reduceIte, Nat.reduceEqDiff, Nat.reduceLeDiff, Nat.reduceAdd, Nat.reduceSub, reduceCtorEq, List.length_cons, List.length_nil, Option.toList_some, Option.toList_none, List.cons_append, List.nil_append, true_and, and_true, false_and, and_false, true_or, or_true, false_or, or_false, and_self, or_self, not_false_eq_true, not_true_eq_false, false_implies, forall_const, true_implies, ↓bk_100, ↓pn_i100, I_safe, mt_0 ht, mt_1 ht, mt_15 ht, mr_1 hR', mr_15 hR']
        try simp (disch := omega) only [true_and, and_true, mb_bit, mb_house, bcI_eq, px_up_row, ni_divL, ni_subL, nI_add, pk_mul, nI_leI, nI_ltI, nI_eq, vp_in_eq, nI_clamp, fa_and, fa_or, ni_bit1, ni_1s, nI_l, mb_eq0, mb_ne0, mb_eq1, hr1, h1]
        refine ⟨by omega, fun q => ?_, fun q => ⟨by omega, fun q2 => ⟨by omega, hfr, hfz, ?_⟩, fun q2 => ⟨by omega, hfr, hfz, ?_⟩⟩⟩
        · have : j = tN (σ.1 1) := by omega
          subst this
          exact hS3 a m τ ha hm rfl rfl hfr
        · have hb := (fz_le htk (by omega) hfz (by omega) (by omega)).mp q2
          simp [bs, hb]
        · have hb : (rc (tB (σ.1 1)) (tN (σ.1 1)) m (2 ^ a)).testBit j = false := by
            cases hb : (rc (tB (σ.1 1)) (tN (σ.1 1)) m (2 ^ a)).testBit j with
            | false => rfl
            | true => exact absurd ((fz_le htk (by omega) hfz (by omega) (by omega)).mpr hb) q2
          simp [bs, hb])
      rw [nI_l (by omega)] at hc2 hx
      refine px_runG (h - 1) ck_100 [(30, S_isHouse), (2, S_within), (35, S_laysFar)] [(43, px_l0 (I_safe a m σ))] 24 hC (px_sp1 (m_isHouse ht (by omega)) (px_sp1 (m_within ht (by omega)) (px_sp1 (m_laysFar ht (by omega)) px_nosp))) (by omega) (px_cut1 (px_l0_ok lp) px_nocut) (fun G Jf hG hJf => ?_)
      simp only [↓hG, ↓hJf, ↓px_go, ↓px_vc, ↓px_ex, ↓px_jp, ↓px_gi, ↓px_gl, ↓px_gr, ↓px_s1, ↓px_s2, ↓px_nl, ↓px_i1, ↓px_l1, ↓px_r1, ↓px_q1, ↓px_i2, ↓px_l2, ↓px_il, ↓px_d0, ↓px_d1, ↓px_d2, ↓px_pop, px_sz, ↓px_sp, ↓px_obj, ↓px_arr, ↓px_rd, ↓px_pt, ↓px_rok, ↓px_rv, ↓px_fill, ↓px_sl, ↓px_li, ↓px_l0, ↓px_lw, ↓px_lc, px_wi, px_wl, px_wr, px_up_at, lc_lt, lc_ge, lc_gt, lc_le, lc_eq, ↓reduceIte, Nat.reduceEqDiff, Nat.reduceLeDiff, Nat.reduceAdd, Nat.reduceSub, reduceCtorEq, List.length_cons, List.length_nil, Option.toList_some, Option.toList_none, List.cons_append, List.nil_append, true_and, and_true, false_and, and_false, true_or, or_true, false_or, or_false, and_self, or_self, not_false_eq_true, not_true_eq_false, false_implies, forall_const, true_implies, ↓bk_100, ↓pn_i100, ↓S_isHouse, ↓S_within, ↓S_laysFar, I_safe, mt_0 ht]
      try simp (disch := omega) only [true_and, and_true, mb_bit, mb_house, bcI_eq, px_up_row, ni_divL, ni_subL, nI_add, pk_mul, nI_leI, nI_ltI, nI_eq, vp_in_eq, nI_clamp, fa_and, fa_or, ni_bit1, ni_1s, nI_l, mb_eq0, mb_ne0, mb_eq1, h1, hc2, mb_house2]
      refine ⟨hR, fun _ => ⟨fun _ => ⟨hR, htk, htk2, by omega, fun M τ g1 g2 g3 g4 => ⟨g1, fz_of htk (by omega) g2 g3 g4, rfl⟩⟩, fun q => by cases q⟩, fun q => ?_⟩
      rw [decide_eq_true hx] at q
      cases q
  ·
    refine px_runG (h - 1) ck_100 [(30, S_isHouse)] [(17, (fun _ _ _ => False))] 24 hC (px_sp1 (m_isHouse ht (by omega)) px_nosp) (by omega) (px_cut1 (fun _ _ _ hz => hz.elim) px_nocut) (fun G Jf hG hJf => ?_)
    simp only [↓hG, ↓hJf, ↓px_go, ↓px_vc, ↓px_ex, ↓px_jp, ↓px_gi, ↓px_gl, ↓px_gr, ↓px_s1, ↓px_s2, ↓px_nl, ↓px_i1, ↓px_l1, ↓px_r1, ↓px_q1, ↓px_i2, ↓px_l2, ↓px_il, ↓px_d0, ↓px_d1, ↓px_d2, ↓px_pop, px_sz, ↓px_sp, ↓px_obj, ↓px_arr, ↓px_rd, ↓px_pt, ↓px_rok, ↓px_rv, ↓px_fill, ↓px_sl, ↓px_li, ↓px_l0, ↓px_lw, ↓px_lc, px_wi, px_wl, px_wr, px_up_at, lc_lt, lc_ge, lc_gt, lc_le, lc_eq, ↓reduceIte, Nat.reduceEqDiff, Nat.reduceLeDiff, Nat.reduceAdd, Nat.reduceSub, reduceCtorEq, List.length_cons, List.length_nil, Option.toList_some, Option.toList_none, List.cons_append, List.nil_append, true_and, and_true, false_and, and_false, true_or, or_true, false_or, or_false, and_self, or_self, not_false_eq_true, not_true_eq_false, false_implies, forall_const, true_implies, ↓bk_100, ↓pn_i100, ↓S_isHouse, mt_0 ht]
    try simp (disch := omega) only [true_and, and_true, mb_bit, mb_house, bcI_eq, px_up_row, ni_divL, ni_subL, nI_add, pk_mul, nI_leI, nI_ltI, nI_eq, vp_in_eq, nI_clamp, fa_and, fa_or, ni_bit1, ni_1s, nI_l, mb_eq0, mb_ne0, mb_eq1, h1]
    exact ⟨hR, fun q => absurd (by simpa using q) hx, fun _ => hS1 hx⟩
