/-! rows of numbers; judge and perform: class and model alike -/
/-- rows: sort and size, and the numbers; in the class, in the model -/
def cr4 (σ : px_M) (K : Nat → Option (Nat × Nat)) (N : Nat → Nat → Int64) : Prop := ∀ r, r < 4 → (K r = none ∧ σ.1 105 r = -1) ∨ (∃ s m, K r = some (s, m) ∧ s ≤ 3 ∧ m ≤ 40 ∧ σ.1 104 r = nI s ∧ rwc σ r m (N r))
def mr4 (τ : px_M) (K : Nat → Option (Nat × Nat)) (N : Nat → Nat → Int64) : Prop := ∀ r, r < 4 → (K r = none ∧ τ.1 35 r = -1) ∨ (∃ s m, K r = some (s, m) ∧ s ≤ 3 ∧ m ≤ 40 ∧ τ.1 35 r = nI s ∧ rwm τ r m (N r))
section
variable {σ τ : px_M} {T n nr d : Nat} {B S C : Nat → Nat} {G : Nat → Nat → Int32} {K : Nat → Option (Nat × Nat)} {N : Nat → Nat → Int64}
theorem cr4_fr {Q : Nat → Nat → Bool} {υ : px_M} (h : fr Q σ υ) (h3 : ∀ j, Q 103 j = false) (h4 : ∀ j, Q 104 j = false) (h5 : ∀ j, Q 105 j = false) (hc : cr4 σ K N) : cr4 υ K N := fun r hr => by
  rcases hc r hr with ⟨q1, q2⟩ | ⟨s, m, q1, q2, q3, q4, q5⟩
  · exact Or.inl ⟨q1, by rw [h.1 105 r (h5 r)]; exact q2⟩
  · exact Or.inr ⟨s, m, q1, q2, q3, by rw [h.1 104 r (h4 r)]; exact q4, rwc_fr h h5 h3 q5⟩
theorem mr4_fr {Q : Nat → Nat → Bool} {υ : px_M} (h : fr Q σ υ) (h3 : ∀ j, Q 35 j = false) (h4 : ∀ j, Q 36 j = false) (h5 : ∀ j, Q 37 j = false) (hc : mr4 σ K N) : mr4 υ K N := fun r hr => by
  rcases hc r hr with ⟨q1, q2⟩ | ⟨s, m, q1, q2, q3, q4, q5⟩
  · exact Or.inl ⟨q1, by rw [h.1 35 r (h3 r)]; exact q2⟩
  · exact Or.inr ⟨s, m, q1, q2, q3, by rw [h.1 35 r (h3 r)]; exact q4, rwm_fr h h4 h5 q5⟩
theorem mr4_thr (hc : mr4 τ K N) : mr4 (px_wi τ 0 0 (nI 0)) K N := mr4_fr (Q := SM) (fr_thr (fr_rf _ _)) (fun _ => by simp [SM]) (fun _ => by simp [SM]) (fun _ => by simp [SM]) hc
theorem c_isRow (σ : px_M) (x : Int32) : (∃ r, r < 4 ∧ x = nI r ∧ f_12055 tT σ x = some (nI 1)) ∨ (¬ (((0 : Nat) : Int) ≤ x.toInt ∧ x.toInt ≤ ((3 : Nat) : Int)) ∧ f_12055 tT σ x = some (nI 0)) := by
  rcases rg_cases x 0 3 (by omega) with ⟨r, -, hr, rfl⟩ | h
  · refine Or.inl ⟨r, by omega, rfl, ?_⟩
    have a1 : ¬ nI r < nI 0 := by rw [nI_ltI (by omega) (by omega)]; omega
    have a2 : ¬ nI 4 ≤ nI r := by rw [nI_leI (by omega) (by omega)]; omega
    simp only [f_12055, a1, a2, ↓reduceIte]
  · refine Or.inr ⟨h, ?_⟩
    by_cases a1 : x < nI 0
    · simp only [f_12055, a1, ↓reduceIte]
    · have a2 : nI 4 ≤ x := by
        rw [fa_lt, nI_toInt (by omega)] at a1
        rw [fa_le, nI_toInt (by omega)]
        omega
      simp only [f_12055, a1, a2, ↓reduceIte]
theorem nm1_le : ¬ nI 0 ≤ (-1 : Int32) := by decide
theorem a_perform (hc : cld σ n B nr S C d G) (hk : cr4 σ K N) (x : Int32) : ∃ r σ' B' d' G', f_12019 tT σ 100 x = some (r, σ') ∧ fr SCD σ σ' ∧ cld σ' n B' nr S C d' G' ∧ ∀ τ, modl τ n B nr S C d G → mr4 τ K N → ∃ υ, f_75 tT τ 0 x = some (r, υ) ∧ fr SMD τ υ ∧ modl υ n B' nr S C d' G' := by
  have hR := hc.1.1.1
  have hru := hc.1.2.2
  rcases c_isRow σ x with ⟨r, hr, rfl, h1⟩ | ⟨hno, h1⟩
  · have c1 : vp_in (nI r) 4 := (vp_in_eq (by omega)).mpr (by omega)
    have c2 : (nI r).toNatClampNeg = r := nI_clamp (by omega)
    have w0 : ∀ ω, f_2 tT ω (nI r).toInt64 (lN 0) (lN 3) = some (nI 1) := fun ω => by
      rw [e_withinN ω (nI r) (lo := 0) (hi := 3) (by omega) (by omega), decide_eq_true (by rw [nI_toInt (by omega)]; omega), mb_t1]
    rcases hk r hr with ⟨k1, k2⟩ | ⟨s, m, k1, k2, k3, k4, k5⟩
    · refine ⟨-6, σ, B, d, G, ?_, fr_rf _ _, hc, fun τ hm hmr => ?_⟩
      · simp only [f_12019, h1, la_100, la_105, rc_100_15 hR, gd_tt, oA_arr, px_obj_s, Option.bind_some, Option.map_some, Option.bind_none, eq_self, true_or, or_true, px_av_0, px_av_1, px_av_2, px_av_10, px_av_11, bn, wi_1, wi_2, wl_1, wl_21, wl_22, wr_1, wr_21, wr_22, Sum.elim_inl, Sum.elim_inr, ↓reduceIte, Nat.reduceLT, Nat.reduceLeDiff, not_false_eq_true, not_true_eq_false, Nat.reduceEqDiff, Nat.reduceAdd, reduceCtorEq, and_true, true_and, and_false, false_and, false_or, or_false, n10, c1, c2, k2, nm1_le]
      · have hmt := modl_thr hm
        have hmr' := mr4_thr hmr r hr
        have hfk : fk SM τ (px_wi τ 0 0 (nI 0)) := fk_thr
        show ∃ υ, f_75 tT τ 0 (nI r) = _ ∧ _
        unfold f_75
        generalize px_wi τ 0 0 (nI 0) = ω at hmt hfk hmr' ⊢
        rw [k1] at hmr'
        rcases hmr' with ⟨-, m2⟩ | ⟨s, m, m1, -⟩
        · refine ⟨ω, ?_, fr_fk hfk, hmt⟩
          simp only [la_0, la_35, rm_0_35 hmt.1.1.1, gd_tt, oA_arr, px_obj_s, Option.bind_some, Option.map_some, Option.bind_none, eq_self, true_or, or_true, px_av_0, px_av_1, px_av_2, px_av_10, px_av_11, bn, wi_1, wi_2, wl_1, wl_21, wl_22, wr_1, wr_21, wr_22, Sum.elim_inl, Sum.elim_inr, ↓reduceIte, Nat.reduceLT, Nat.reduceLeDiff, not_false_eq_true, not_true_eq_false, Nat.reduceEqDiff, Nat.reduceAdd, reduceCtorEq, and_true, true_and, and_false, false_and, false_or, or_false, w0, n10, c1, c2, m2]
        · cases m1
    · obtain ⟨k, υ, q1, q2, q3, q4⟩ := c_perf hc hr k3 k5
      refine ⟨nI k, υ, rnB n B (N r) k, rnd d k, rnG n B (N r) G k, ?_, q3, q4, fun τ hm hmr => ?_⟩
      · have a1 : nI 0 ≤ nI m := by rw [nI_leI (by omega) (by omega)]; omega
        simp only [f_12019, h1, la_100, la_105, rc_100_15 hR, gd_tt, oA_arr, px_obj_s, Option.bind_some, Option.map_some, Option.bind_none, eq_self, true_or, or_true, px_av_0, px_av_1, px_av_2, px_av_10, px_av_11, bn, wi_1, wi_2, wl_1, wl_21, wl_22, wr_1, wr_21, wr_22, Sum.elim_inl, Sum.elim_inr, ↓reduceIte, Nat.reduceLT, Nat.reduceLeDiff, not_false_eq_true, not_true_eq_false, Nat.reduceEqDiff, Nat.reduceAdd, reduceCtorEq, and_true, true_and, and_false, false_and, false_or, or_false, n10, c1, c2, k5.1, a1, q1]
      · have hmt := modl_thr hm
        have hmr' := mr4_thr hmr r hr
        have hfk : fk SM τ (px_wi τ 0 0 (nI 0)) := fk_thr
        show ∃ υ, f_75 tT τ 0 (nI r) = _ ∧ _
        unfold f_75
        generalize px_wi τ 0 0 (nI 0) = ω at hmt hfk hmr' ⊢
        rw [k1] at hmr'
        rcases hmr' with ⟨m1, -⟩ | ⟨s', m', m1, m2, m3, m4, m5⟩
        · cases m1
        · cases m1
          obtain ⟨k', χ, y1, y2, y3, y4⟩ := e_acts1 hmt hru hr k3 m5
          have := stp_uniq q2 y2
          subst this
          have hs1 : ¬ nI s = -1 := nm1 (by omega)
          refine ⟨χ, ?_, fr_tr (fr_fk hfk) y3, y4⟩
          simp only [la_0, la_35, rm_0_35 hmt.1.1.1, gd_tt, oA_arr, px_obj_s, Option.bind_some, Option.map_some, Option.bind_none, eq_self, true_or, or_true, px_av_0, px_av_1, px_av_2, px_av_10, px_av_11, bn, wi_1, wi_2, wl_1, wl_21, wl_22, wr_1, wr_21, wr_22, Sum.elim_inl, Sum.elim_inr, ↓reduceIte, Nat.reduceLT, Nat.reduceLeDiff, not_false_eq_true, not_true_eq_false, Nat.reduceEqDiff, Nat.reduceAdd, reduceCtorEq, and_true, true_and, and_false, false_and, false_or, or_false, w0, n10, c1, c2, m4, hs1, y1]
  · refine ⟨-2, σ, B, d, G, ?_, fr_rf _ _, hc, fun τ hm hmr => ⟨_, ?_, fr_fk fk_thr, modl_thr hm⟩⟩
    · simp only [f_12019, h1, gd_tt, oA_arr, px_obj_s, Option.bind_some, Option.map_some, Option.bind_none, eq_self, true_or, or_true, px_av_0, px_av_1, px_av_2, px_av_10, px_av_11, bn, wi_1, wi_2, wl_1, wl_21, wl_22, wr_1, wr_21, wr_22, Sum.elim_inl, Sum.elim_inr, ↓reduceIte, Nat.reduceLT, Nat.reduceLeDiff, not_false_eq_true, not_true_eq_false, Nat.reduceEqDiff, Nat.reduceAdd, reduceCtorEq, and_true, true_and, and_false, false_and, false_or, or_false]
    · have w0 := e_withinN (px_wi τ 0 0 (nI 0)) x (lo := 0) (hi := 3) (by omega) (by omega)
      rw [decide_eq_false hno, mb_f0] at w0
      simp only [f_75, la_0, gd_tt, oA_arr, px_obj_s, Option.bind_some, Option.map_some, Option.bind_none, eq_self, true_or, or_true, px_av_0, px_av_1, px_av_2, px_av_10, px_av_11, bn, wi_1, wi_2, wl_1, wl_21, wl_22, wr_1, wr_21, wr_22, Sum.elim_inl, Sum.elim_inr, ↓reduceIte, Nat.reduceLT, Nat.reduceLeDiff, not_false_eq_true, not_true_eq_false, Nat.reduceEqDiff, Nat.reduceAdd, reduceCtorEq, and_true, true_and, and_false, false_and, false_or, or_false, w0]
theorem out_240 : outT 240 := Or.inr (by decide)
def S240 (l j : Nat) : Bool := CS l j || tw2 240 l j
theorem SC_240 : ∀ l j, SC l j = false → S240 l j = false := fun l j h => by
  simp only [SC, Bool.and_eq_false_iff, decide_eq_false_iff_not] at h
  simp only [S240, Bool.or_eq_false_iff]
  exact ⟨CS_n j (by omega), tw2_n (by omega) (by omega)⟩
theorem S240_CS {σ τ : px_M} (h : fr CS σ τ) : fr S240 σ τ := fr_mono h (fun l j q => by simp only [S240, Bool.or_eq_false_iff] at q; exact q.1)
theorem S240_tw {σ τ : px_M} (h : fr (tw2 240) σ τ) : fr S240 σ τ := fr_mono h (fun l j q => by simp only [S240, Bool.or_eq_false_iff] at q; exact q.2)
theorem S240_n {l : Nat} (j : Nat) (h : l < 210) : S240 l j = false := by
  simp only [S240, Bool.or_eq_false_iff]
  exact ⟨CS_n j (by omega), tw2_n (by omega) (by omega)⟩
/-- what judge answers -/
noncomputable def jdg (n : Nat) (B : Nat → Nat) (nr : Nat) (S C : Nat → Nat) (N : Nat → Int64) (m k w : Nat) : Int32 := if w = 0 then (if k = m then -1 else nI k) else if w = 1 then nI (if k = m then 0 else rac n (rnB n B N k) nr S C (N k)) else if w = 2 then nI (dm n (rnB n B N k)) else nI (tr n (rnB n B N k))
theorem c_jdg (hR : cR σ.2.2) (hcr : cru σ 113 nr S C) (hru : rul nr S C) (hc : ct σ 240 n B) {r m w : Nat} (hr4 : r < 4) (hm40 : m ≤ 40) (hw3 : w ≤ 3) {N : Nat → Int64} (hrw : rwc σ r m N) : ∃ k υ, f_12018_53 tT 100 (nI r) (nI w) (-1) (nI 0) (nI 0) σ = some (jdg n B nr S C N m k w, υ) ∧ stp n B nr S C N m k ∧ fr S240 σ υ := by
  have hn := hc.2.2.2.1.1
  have c1 : vp_in (nI r) 4 := (vp_in_eq (by omega)).mpr (by omega)
  have c2 : (nI r).toNatClampNeg = r := nI_clamp (by omega)
  -- the end: what is asked
  have fin : ∀ ρ k, cR ρ.2.2 → ct ρ 240 n (rnB n B N k) → f_12018_116 tT ρ 100 (nI w) (if k = m then -1 else nI k) (nI (if k = m then 0 else rac n (rnB n B N k) nr S C (N k))) = some (jdg n B nr S C N m k w, ρ) := by
    intro ρ k hRρ htρ
    have hq : w = 0 ∨ w = 1 ∨ w = 2 ∨ w = 3 := by omega
    unfold f_12018_116 jdg
    rcases hq with rfl | rfl | rfl | rfl
    · rw [if_pos rfl, if_pos rfl]
    · rw [if_neg (show ¬ nI 1 = nI 0 by decide), if_pos rfl, if_neg (show ¬ (1 : Nat) = 0 by decide), if_pos rfl]
    · rw [if_neg (by decide), if_neg (by decide), if_pos rfl, if_neg (by decide), if_neg (by decide), if_pos rfl]
      simp only [la_100, rc_100_12 hRρ, htρ.1, gd_tt, oA_arr, px_obj_s, Option.bind_some, Option.map_some, Option.bind_none, eq_self, true_or, or_true, px_av_0, px_av_1, px_av_2, px_av_10, px_av_11, bn, wi_1, wi_2, wl_1, wl_21, wl_22, wr_1, wr_21, wr_22, Sum.elim_inl, Sum.elim_inr, ↓reduceIte, Nat.reduceLT, Nat.reduceLeDiff, not_false_eq_true, not_true_eq_false, Nat.reduceEqDiff, Nat.reduceAdd, reduceCtorEq, and_true, true_and, and_false, false_and, false_or, or_false, c_doors htρ]
    · rw [if_neg (by decide), if_neg (by decide), if_neg (by decide), if_neg (by decide), if_neg (by decide), if_neg (by decide)]
      simp only [la_100, rc_100_12 hRρ, htρ.1, gd_tt, oA_arr, px_obj_s, Option.bind_some, Option.map_some, Option.bind_none, eq_self, true_or, or_true, px_av_0, px_av_1, px_av_2, px_av_10, px_av_11, bn, wi_1, wi_2, wl_1, wl_21, wl_22, wr_1, wr_21, wr_22, Sum.elim_inl, Sum.elim_inr, ↓reduceIte, Nat.reduceLT, Nat.reduceLeDiff, not_false_eq_true, not_true_eq_false, Nat.reduceEqDiff, Nat.reduceAdd, reduceCtorEq, and_true, true_and, and_false, false_and, false_or, or_false, c_threes htρ]
  have key : ∃ b, f_12018_53 tT 100 (nI r) (nI w) (-1) (nI 0) (nI 0) σ = some b ∧ ∃ k υ, b = (jdg n B nr S C N m k w, υ) ∧ stp n B nr S C N m k ∧ fr S240 σ υ := by
    unfold f_12018_53
    refine lp_rel (F := fun s : Int32 × Int32 × Int32 × px_M => F_12018_53 tT 100 (nI r) (nI w) s.1 s.2.1 s.2.2.1 s.2.2.2) (fun j q => ∃ ρ, fr S240 σ ρ ∧ ((q = (-1, nI 0, nI j, ρ) ∧ j ≤ m ∧ ct ρ 240 n (rnB n B N j) ∧ ∀ i, i < j → rac n (rnB n B N i) nr S C (N i) = 0) ∨ (∃ k, j = k + 1 ∧ k < m ∧ q = (nI k, nI (rac n (rnB n B N k) nr S C (N k)), nI j, ρ) ∧ ct ρ 240 n (rnB n B N k) ∧ stp n B nr S C N m k ∧ ¬ rac n (rnB n B N k) nr S C (N k) = 0))) _ (m + 1) (fun j q hj hI => ?_) 0 (-1, nI 0, nI 0, σ) (by omega) ⟨σ, fr_rf _ _, Or.inl ⟨rfl, by omega, hc, fun i hi => by omega⟩⟩
    obtain ⟨ρ, g1, hI⟩ := hI
    have hRρ := cR_fr g1 hR
    have hrwρ := rwc_fr g1 (fun j => S240_n j (by decide)) (fun j => S240_n j (by decide)) hrw
    rcases hI with ⟨rfl, h1, h2, h3⟩ | ⟨k, rfl, h1, rfl, h2, h3, h4⟩
    · by_cases hjm : j = m
      · subst hjm
        refine Or.inr ⟨(jdg n B nr S C N j j w, ρ), ?_, j, ρ, rfl, ⟨Nat.le_refl _, h3, Or.inl rfl⟩, g1⟩
        have f := fin ρ j hRρ h2
        rw [if_pos rfl, if_pos rfl] at f
        have a1 : nI j ≤ nI j := by rw [nI_leI (by omega) (by omega)]; omega
        dsimp only
        unfold F_12018_53
        simp only [la_100, la_105, rc_100_15 hRρ, gd_tt, oA_arr, px_obj_s, Option.bind_some, Option.map_some, Option.bind_none, eq_self, true_or, or_true, px_av_0, px_av_1, px_av_2, px_av_10, px_av_11, bn, wi_1, wi_2, wl_1, wl_21, wl_22, wr_1, wr_21, wr_22, Sum.elim_inl, Sum.elim_inr, ↓reduceIte, Nat.reduceLT, Nat.reduceLeDiff, not_false_eq_true, not_true_eq_false, Nat.reduceEqDiff, Nat.reduceAdd, reduceCtorEq, and_true, true_and, and_false, false_and, false_or, or_false, c1, c2, hrwρ.1, a1, f]
      · have a1 : ¬ nI m ≤ nI j := by rw [nI_leI (by omega) (by omega)]; omega
        have hnum := c_number hRρ hr4 hm40 (show j < m by omega) hrwρ
        have hcrρ := cru_fr g1 (fun j => S240_n j (by decide)) (fun j => S240_n j (by decide)) (fun j => S240_n j (by decide)) (fun j => S240_n j (by decide)) hcr
        obtain ⟨ω, w1, w2⟩ := c_act hRρ hcrρ hru out_240 h2 (N j)
        have hle := rac_le (n := n) (B := rnB n B N j) (nr := nr) (S := S) (C := C) (N j)
        have hRω := cR_fr w2 hRρ
        have htω := ct_CS out_240 w2 h2
        by_cases h0 : rac n (rnB n B N j) nr S C (N j) = 0
        · rw [h0] at w1
          have w5 := rac_0 h0
          have hB : rnB n B N (j + 1) = tdB (rnB n B N j) (av1 (N j)) (bv1 (N j)) := tdx_in hn w5
          obtain ⟨υ, y1, y2, y3⟩ := c_turnD htω w5
          refine Or.inl ⟨(-1, nI 0, nI (j + 1), υ), ?_, by omega, υ, fr_tr g1 (fr_tr (S240_CS w2) (S240_tw y2)), Or.inl ⟨rfl, by omega, by rw [hB]; exact y3, fun i hi => ?_⟩⟩
          · dsimp only
            unfold F_12018_53 f_12018_78 f_12018_110
            simp only [la_100, la_105, rc_100_15 hRρ, rc_100_12 hRρ, gd_tt, oA_arr, px_obj_s, Option.bind_some, Option.map_some, Option.bind_none, eq_self, true_or, or_true, px_av_0, px_av_1, px_av_2, px_av_10, px_av_11, bn, wi_1, wi_2, wl_1, wl_21, wl_22, wr_1, wr_21, wr_22, Sum.elim_inl, Sum.elim_inr, ↓reduceIte, Nat.reduceLT, Nat.reduceLeDiff, not_false_eq_true, not_true_eq_false, Nat.reduceEqDiff, Nat.reduceAdd, reduceCtorEq, and_true, true_and, and_false, false_and, false_or, or_false, c1, c2, hrwρ.1, a1, hnum, w1, rc_100_12 hRω, y1, nI_add]
          · by_cases hij : i = j
            · subst hij; exact h0
            · exact h3 i (by omega)
        · have z : ¬ nI (rac n (rnB n B N j) nr S C (N j)) = nI 0 := by rw [nI_eq (by omega) (by omega)]; exact h0
          refine Or.inl ⟨(nI j, nI (rac n (rnB n B N j) nr S C (N j)), nI (j + 1), ω), ?_, by omega, ω, fr_tr g1 (S240_CS w2), Or.inr ⟨j, rfl, by omega, rfl, htω, ⟨by omega, h3, Or.inr h0⟩, h0⟩⟩
          dsimp only
          unfold F_12018_53 f_12018_78 f_12018_110
          simp only [la_100, la_105, rc_100_15 hRρ, rc_100_12 hRρ, gd_tt, oA_arr, px_obj_s, Option.bind_some, Option.map_some, Option.bind_none, eq_self, true_or, or_true, px_av_0, px_av_1, px_av_2, px_av_10, px_av_11, bn, wi_1, wi_2, wl_1, wl_21, wl_22, wr_1, wr_21, wr_22, Sum.elim_inl, Sum.elim_inr, ↓reduceIte, Nat.reduceLT, Nat.reduceLeDiff, not_false_eq_true, not_true_eq_false, Nat.reduceEqDiff, Nat.reduceAdd, reduceCtorEq, and_true, true_and, and_false, false_and, false_or, or_false, c1, c2, hrwρ.1, a1, hnum, w1, z, nI_add]
    · have hle := rac_le (n := n) (B := rnB n B N k) (nr := nr) (S := S) (C := C) (N k)
      have z : ¬ nI (rac n (rnB n B N k) nr S C (N k)) = nI 0 := by rw [nI_eq (by omega) (by omega)]; exact h4
      refine Or.inr ⟨(jdg n B nr S C N m k w, ρ), ?_, k, ρ, rfl, h3, g1⟩
      have f := fin ρ k hRρ h2
      rw [if_neg (by omega), if_neg (by omega)] at f
      dsimp only
      unfold F_12018_53
      by_cases a1 : nI m ≤ nI (k + 1)
      · simp only [la_100, la_105, rc_100_15 hRρ, gd_tt, oA_arr, px_obj_s, Option.bind_some, Option.map_some, Option.bind_none, eq_self, true_or, or_true, px_av_0, px_av_1, px_av_2, px_av_10, px_av_11, bn, wi_1, wi_2, wl_1, wl_21, wl_22, wr_1, wr_21, wr_22, Sum.elim_inl, Sum.elim_inr, ↓reduceIte, Nat.reduceLT, Nat.reduceLeDiff, not_false_eq_true, not_true_eq_false, Nat.reduceEqDiff, Nat.reduceAdd, reduceCtorEq, and_true, true_and, and_false, false_and, false_or, or_false, c1, c2, hrwρ.1, a1, f]
      · simp only [la_100, la_105, rc_100_15 hRρ, gd_tt, oA_arr, px_obj_s, Option.bind_some, Option.map_some, Option.bind_none, eq_self, true_or, or_true, px_av_0, px_av_1, px_av_2, px_av_10, px_av_11, bn, wi_1, wi_2, wl_1, wl_21, wl_22, wr_1, wr_21, wr_22, Sum.elim_inl, Sum.elim_inr, ↓reduceIte, Nat.reduceLT, Nat.reduceLeDiff, not_false_eq_true, not_true_eq_false, Nat.reduceEqDiff, Nat.reduceAdd, reduceCtorEq, and_true, true_and, and_false, false_and, false_or, or_false, c1, c2, hrwρ.1, a1, z, f]
  obtain ⟨b, q1, k, υ, rfl, q2⟩ := key
  exact ⟨k, υ, q1, q2⟩
theorem e_jdg (hm : mor σ n B nr S C) (hru : rul nr S C) {r m w : Nat} (hr4 : r < 4) (hm40 : m ≤ 40) (hw3 : w ≤ 3) {N : Nat → Int64} (hrw : rwm σ r m N) : ∃ k υ ρ1 ρ2, f_52 tT σ 0 18 = some ρ1 ∧ f_72 tT ρ1 0 (nI r) (nI 0) = some (nI k, ρ2) ∧ f_74_60 tT ρ2 0 (nI w) (nI k) = some (jdg n B nr S C N m k w, υ) ∧ stp n B nr S C N m k ∧ fk SM σ υ := by
  obtain ⟨ρ1, a1, a2, a3⟩ := e_keeps hm.1.1 la_18 (by decide)
  have m1 : mor ρ1 n B nr S C := ⟨mo_on (by decide) a2 hm.1, mru_fr a2 (fun _ _ => rfl) hm.2⟩
  obtain ⟨k, ρ2, b1, b2, b3, b4, b5⟩ := e_acts0 m1 hru hr4 hm40 (rwm_fr a2 (fun _ => rfl) (fun _ => rfl) hrw)
  obtain ⟨ρ3, e1, e2, e3⟩ := e_isAgain b4.1.1 la_18 (by decide)
  have hle := rac_le (n := n) (B := rnB n B N k) (nr := nr) (S := S) (C := C) (N k)
  have v21 : ρ3.1 0 21 = nI (if k = m then 0 else rac n (rnB n B N k) nr S C (N k)) := by rw [e2.1 0 21 rfl]; exact b5
  refine ⟨k, ρ3, ρ1, ρ2, a1, b1, ?_, b2, fk_back (Q := SM) (ρ := ρ2) ?_ SM_1 e2 (fun j hj => ?_)⟩
  · have hq : w = 0 ∨ w = 1 ∨ w = 2 ∨ w = 3 := by omega
    have d1 := e_doorMany b4.1
    have d2 := e_threeMany b4.1
    rw [tm_tr b4.1.2.1] at d2
    have h80 : f_74_60 tT ρ2 0 (nI w) (nI k) = f_74_80 tT ρ3 0 (nI w) (nI k) (nI (dm n (rnB n B N k))) (nI (tr n (rnB n B N k))) := by
      simp only [f_74_60, la_0, gd_tt, oA_arr, px_obj_s, Option.bind_some, Option.map_some, Option.bind_none, eq_self, true_or, or_true, px_av_0, px_av_1, px_av_2, px_av_10, px_av_11, bn, wi_1, wi_2, wl_1, wl_21, wl_22, wr_1, wr_21, wr_22, Sum.elim_inl, Sum.elim_inr, ↓reduceIte, Nat.reduceLT, Nat.reduceLeDiff, not_false_eq_true, not_true_eq_false, Nat.reduceEqDiff, Nat.reduceAdd, reduceCtorEq, and_true, true_and, and_false, false_and, false_or, or_false, d1, d2, rm_0_18 b4.1.1, e1]
    rw [h80]
    unfold f_74_80 jdg bn
    rcases hq with rfl | rfl | rfl | rfl
    · rw [if_pos rfl, if_pos rfl]
      by_cases hkm : k = m
      · rw [if_pos hkm] at v21 ⊢
        simp only [la_0, gd_tt, oA_arr, px_obj_s, Option.bind_some, Option.map_some, Option.bind_none, eq_self, true_or, or_true, px_av_0, px_av_1, px_av_2, px_av_10, px_av_11, bn, wi_1, wi_2, wl_1, wl_21, wl_22, wr_1, wr_21, wr_22, Sum.elim_inl, Sum.elim_inr, ↓reduceIte, Nat.reduceLT, Nat.reduceLeDiff, not_false_eq_true, not_true_eq_false, Nat.reduceEqDiff, Nat.reduceAdd, reduceCtorEq, and_true, true_and, and_false, false_and, false_or, or_false, v21]
      · have h0 : ¬ rac n (rnB n B N k) nr S C (N k) = 0 := by
          rcases b2.2.2 with q | q
          · exact absurd q hkm
          · exact q
        rw [if_neg hkm] at v21 ⊢
        have z : ¬ nI (rac n (rnB n B N k) nr S C (N k)) = nI 0 := by rw [nI_eq (by omega) (by omega)]; exact h0
        simp only [la_0, gd_tt, oA_arr, px_obj_s, Option.bind_some, Option.map_some, Option.bind_none, eq_self, true_or, or_true, px_av_0, px_av_1, px_av_2, px_av_10, px_av_11, bn, wi_1, wi_2, wl_1, wl_21, wl_22, wr_1, wr_21, wr_22, Sum.elim_inl, Sum.elim_inr, ↓reduceIte, Nat.reduceLT, Nat.reduceLeDiff, not_false_eq_true, not_true_eq_false, Nat.reduceEqDiff, Nat.reduceAdd, reduceCtorEq, and_true, true_and, and_false, false_and, false_or, or_false, v21, z]
    · rw [if_neg (by decide), if_pos rfl, if_neg (by decide), if_pos rfl]
      simp only [la_0, gd_tt, oA_arr, px_obj_s, Option.bind_some, Option.map_some, Option.bind_none, eq_self, true_or, or_true, px_av_0, px_av_1, px_av_2, px_av_10, px_av_11, bn, wi_1, wi_2, wl_1, wl_21, wl_22, wr_1, wr_21, wr_22, Sum.elim_inl, Sum.elim_inr, ↓reduceIte, Nat.reduceLT, Nat.reduceLeDiff, not_false_eq_true, not_true_eq_false, Nat.reduceEqDiff, Nat.reduceAdd, reduceCtorEq, and_true, true_and, and_false, false_and, false_or, or_false, v21]
    · rw [if_neg (by decide), if_neg (by decide), if_pos rfl, if_neg (by decide), if_neg (by decide), if_pos rfl]
    · rw [if_neg (by decide), if_neg (by decide), if_neg (by decide), if_neg (by decide), if_neg (by decide), if_neg (by decide)]
  · refine fr_tr (fr_mono a2 (fun l j q => ?_)) (fr_mono b3 (fun l j q => ?_))
    · simp only [Bool.or_eq_false_iff] at q
      simp only [on, beq_eq_false_iff_ne]
      rintro rfl
      have := q.1
      simp [SM] at this
    · simp only [Bool.or_eq_false_iff] at q
      simp only [RT, Bool.or_eq_false_iff]
      exact ⟨SM_RA1 l j q.1, q.2⟩
  · rw [e3 j hj, b3.1 18 j rfl, a3 j hj]
theorem a_judge (hc : clr σ n B nr S C) (hk : cr4 σ K N) (x y : Int32) : ∃ r σ', f_12018 tT σ 100 x y = some (r, σ') ∧ fr SC σ σ' ∧ ∀ τ, mor τ n B nr S C → mr4 τ K N → ∃ υ, f_74 tT τ 0 x y = some (r, υ) ∧ fk SM τ υ := by
  have hR := hc.1.1
  have hru := hc.2.2
  have mno : ∀ (_ : ¬ (((0 : Nat) : Int) ≤ x.toInt ∧ x.toInt ≤ ((3 : Nat) : Int)) ∨ ¬ (((0 : Nat) : Int) ≤ y.toInt ∧ y.toInt ≤ ((3 : Nat) : Int))) (τ : px_M), f_74 tT τ 0 x y = some (-2, px_wi τ 0 0 (nI 0)) := by
    intro h τ
    have w0 := e_withinN (px_wi τ 0 0 (nI 0)) x (lo := 0) (hi := 3) (by omega) (by omega)
    have w1 := e_withinN (px_wi τ 0 0 (nI 0)) y (lo := 0) (hi := 3) (by omega) (by omega)
    by_cases h1 : ((0 : Nat) : Int) ≤ x.toInt ∧ x.toInt ≤ ((3 : Nat) : Int)
    · rw [decide_eq_true h1, mb_t1] at w0
      rw [decide_eq_false (h.resolve_left (fun q => q h1)), mb_f0] at w1
      simp only [f_74, f_74_29, la_0, gd_tt, oA_arr, px_obj_s, Option.bind_some, Option.map_some, Option.bind_none, eq_self, true_or, or_true, px_av_0, px_av_1, px_av_2, px_av_10, px_av_11, bn, wi_1, wi_2, wl_1, wl_21, wl_22, wr_1, wr_21, wr_22, Sum.elim_inl, Sum.elim_inr, ↓reduceIte, Nat.reduceLT, Nat.reduceLeDiff, not_false_eq_true, not_true_eq_false, Nat.reduceEqDiff, Nat.reduceAdd, reduceCtorEq, and_true, true_and, and_false, false_and, false_or, or_false, w0, n10, w1]
    · rw [decide_eq_false h1, mb_f0] at w0
      simp only [f_74, f_74_29, la_0, gd_tt, oA_arr, px_obj_s, Option.bind_some, Option.map_some, Option.bind_none, eq_self, true_or, or_true, px_av_0, px_av_1, px_av_2, px_av_10, px_av_11, bn, wi_1, wi_2, wl_1, wl_21, wl_22, wr_1, wr_21, wr_22, Sum.elim_inl, Sum.elim_inr, ↓reduceIte, Nat.reduceLT, Nat.reduceLeDiff, not_false_eq_true, not_true_eq_false, Nat.reduceEqDiff, Nat.reduceAdd, reduceCtorEq, and_true, true_and, and_false, false_and, false_or, or_false, w0]
  rcases c_isRow σ x with ⟨r, hr, rfl, h1⟩ | ⟨hno, h1⟩
  · rcases rg_cases y 0 3 (by omega) with ⟨w, -, hw, rfl⟩ | hny
    · have a1 : ¬ nI w < nI 0 := by rw [nI_ltI (by omega) (by omega)]; omega
      have a2 : nI w ≤ nI 3 := by rw [nI_leI (by omega) (by omega)]; omega
      have c1 : vp_in (nI r) 4 := (vp_in_eq (by omega)).mpr (by omega)
      have c2 : (nI r).toNatClampNeg = r := nI_clamp (by omega)
      have w0 : ∀ z ω, z ≤ 3 → f_2 tT ω (nI z).toInt64 (lN 0) (lN 3) = some (nI 1) := fun z ω hz => by
        rw [e_withinN ω (nI z) (lo := 0) (hi := 3) (by omega) (by omega), decide_eq_true (by rw [nI_toInt (by omega)]; omega), mb_t1]
      rcases hk r hr with ⟨k1, k2⟩ | ⟨s, m, k1, k2, k3, k4, k5⟩
      · refine ⟨-6, σ, ?_, fr_rf _ _, fun τ hm hmr => ?_⟩
        · simp only [f_12018, f_12018_28, h1, la_100, la_105, rc_100_15 hR, gd_tt, oA_arr, px_obj_s, Option.bind_some, Option.map_some, Option.bind_none, eq_self, true_or, or_true, px_av_0, px_av_1, px_av_2, px_av_10, px_av_11, bn, wi_1, wi_2, wl_1, wl_21, wl_22, wr_1, wr_21, wr_22, Sum.elim_inl, Sum.elim_inr, ↓reduceIte, Nat.reduceLT, Nat.reduceLeDiff, not_false_eq_true, not_true_eq_false, Nat.reduceEqDiff, Nat.reduceAdd, reduceCtorEq, and_true, true_and, and_false, false_and, false_or, or_false, n10, a1, a2, c1, c2, k2, nm1_le]
        · have hmt := mor_thr hm
          have hmr' := mr4_thr hmr r hr
          have hfk : fk SM τ (px_wi τ 0 0 (nI 0)) := fk_thr
          show ∃ υ, f_74 tT τ 0 (nI r) (nI w) = _ ∧ _
          unfold f_74
          generalize px_wi τ 0 0 (nI 0) = ω at hmt hfk hmr' ⊢
          rw [k1] at hmr'
          rcases hmr' with ⟨-, m2⟩ | ⟨s, m, m1, -⟩
          · refine ⟨ω, ?_, hfk⟩
            simp only [f_74_32, la_0, la_35, rm_0_35 hmt.1.1, gd_tt, oA_arr, px_obj_s, Option.bind_some, Option.map_some, Option.bind_none, eq_self, true_or, or_true, px_av_0, px_av_1, px_av_2, px_av_10, px_av_11, bn, wi_1, wi_2, wl_1, wl_21, wl_22, wr_1, wr_21, wr_22, Sum.elim_inl, Sum.elim_inr, ↓reduceIte, Nat.reduceLT, Nat.reduceLeDiff, not_false_eq_true, not_true_eq_false, Nat.reduceEqDiff, Nat.reduceAdd, reduceCtorEq, and_true, true_and, and_false, false_and, false_or, or_false, w0 r ω (by omega), w0 w ω hw, n10, c1, c2, m2]
          · cases m1
      · obtain ⟨ρ, q1, q2, q3⟩ := c_become hc.1.2 la_240 la_241 (rc_240_1 hR) (by decide) (by decide) (by decide)
        have hRρ := cR_fr q2 hR
        obtain ⟨k, υ, p1, p2, p3⟩ := c_jdg hRρ (cru_fr q2 (fun _ => rfl) (fun _ => rfl) (fun _ => rfl) (fun _ => rfl) hc.2.1) hru q3 hr k3 hw (rwc_fr q2 (fun _ => rfl) (fun _ => rfl) k5)
        refine ⟨jdg n B nr S C (N r) m k w, υ, ?_, fr_mono (fr_tr (S240_tw q2) p3) SC_240, fun τ hm hmr => ?_⟩
        · have a3 : nI 0 ≤ nI m := by rw [nI_leI (by omega) (by omega)]; omega
          simp only [f_12018, f_12018_31, f_12018_50, h1, la_100, la_105, la_110, la_240, rc_100_15 hR, rc_100_0 hR, rc_100_12 hR, rc_110_0 hR, gd_tt, oA_arr, px_obj_s, Option.bind_some, Option.map_some, Option.bind_none, eq_self, true_or, or_true, px_av_0, px_av_1, px_av_2, px_av_10, px_av_11, bn, wi_1, wi_2, wl_1, wl_21, wl_22, wr_1, wr_21, wr_22, Sum.elim_inl, Sum.elim_inr, ↓reduceIte, Nat.reduceLT, Nat.reduceLeDiff, not_false_eq_true, not_true_eq_false, Nat.reduceEqDiff, Nat.reduceAdd, reduceCtorEq, and_true, true_and, and_false, false_and, false_or, or_false, n10, a1, a2, c1, c2, k5.1, a3, q1, p1]
        · have hmt := mor_thr hm
          have hmr' := mr4_thr hmr r hr
          have hfk : fk SM τ (px_wi τ 0 0 (nI 0)) := fk_thr
          show ∃ υ, f_74 tT τ 0 (nI r) (nI w) = _ ∧ _
          unfold f_74
          generalize px_wi τ 0 0 (nI 0) = ω at hmt hfk hmr' ⊢
          rw [k1] at hmr'
          rcases hmr' with ⟨m1, -⟩ | ⟨s', m', m1, m2, m3, m4, m5⟩
          · cases m1
          · cases m1
            obtain ⟨k', χ, χ1, χ2, y1, y2, y3, y4, y5⟩ := e_jdg hmt hru hr k3 hw m5
            have := stp_uniq p2 y4
            subst this
            have hs1 : ¬ nI s = -1 := nm1 (by omega)
            refine ⟨χ, ?_, fk_tr hfk y5⟩
            simp only [f_74_32, la_0, la_35, rm_0_35 hmt.1.1, rm_0_18 hmt.1.1, gd_tt, oA_arr, px_obj_s, Option.bind_some, Option.map_some, Option.bind_none, eq_self, true_or, or_true, px_av_0, px_av_1, px_av_2, px_av_10, px_av_11, bn, wi_1, wi_2, wl_1, wl_21, wl_22, wr_1, wr_21, wr_22, Sum.elim_inl, Sum.elim_inr, ↓reduceIte, Nat.reduceLT, Nat.reduceLeDiff, not_false_eq_true, not_true_eq_false, Nat.reduceEqDiff, Nat.reduceAdd, reduceCtorEq, and_true, true_and, and_false, false_and, false_or, or_false, w0 r ω (by omega), w0 w ω hw, n10, c1, c2, m4, hs1, y1, y2, y3]
    · refine ⟨-2, σ, ?_, fr_rf _ _, fun τ hm hmr => ⟨_, mno (Or.inr hny) τ, fk_thr⟩⟩
      by_cases b1 : y < nI 0
      · simp only [f_12018, f_12018_16, h1, gd_tt, oA_arr, px_obj_s, Option.bind_some, Option.map_some, Option.bind_none, eq_self, true_or, or_true, px_av_0, px_av_1, px_av_2, px_av_10, px_av_11, bn, wi_1, wi_2, wl_1, wl_21, wl_22, wr_1, wr_21, wr_22, Sum.elim_inl, Sum.elim_inr, ↓reduceIte, Nat.reduceLT, Nat.reduceLeDiff, not_false_eq_true, not_true_eq_false, Nat.reduceEqDiff, Nat.reduceAdd, reduceCtorEq, and_true, true_and, and_false, false_and, false_or, or_false, n10, b1]
      · have b2 : ¬ y ≤ nI 3 := by
          rw [fa_lt, nI_toInt (by omega)] at b1
          rw [fa_le, nI_toInt (by omega)]
          omega
        simp only [f_12018, f_12018_16, h1, gd_tt, oA_arr, px_obj_s, Option.bind_some, Option.map_some, Option.bind_none, eq_self, true_or, or_true, px_av_0, px_av_1, px_av_2, px_av_10, px_av_11, bn, wi_1, wi_2, wl_1, wl_21, wl_22, wr_1, wr_21, wr_22, Sum.elim_inl, Sum.elim_inr, ↓reduceIte, Nat.reduceLT, Nat.reduceLeDiff, not_false_eq_true, not_true_eq_false, Nat.reduceEqDiff, Nat.reduceAdd, reduceCtorEq, and_true, true_and, and_false, false_and, false_or, or_false, n10, b1, b2]
  · refine ⟨-2, σ, ?_, fr_rf _ _, fun τ hm hmr => ⟨_, mno (Or.inl hno) τ, fk_thr⟩⟩
    simp only [f_12018, f_12018_16, h1, gd_tt, oA_arr, px_obj_s, Option.bind_some, Option.map_some, Option.bind_none, eq_self, true_or, or_true, px_av_0, px_av_1, px_av_2, px_av_10, px_av_11, bn, wi_1, wi_2, wl_1, wl_21, wl_22, wr_1, wr_21, wr_22, Sum.elim_inl, Sum.elim_inr, ↓reduceIte, Nat.reduceLT, Nat.reduceLeDiff, not_false_eq_true, not_true_eq_false, Nat.reduceEqDiff, Nat.reduceAdd, reduceCtorEq, and_true, true_and, and_false, false_and, false_or, or_false]
end
