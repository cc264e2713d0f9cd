/-! the model: fewestColours -/
theorem pigeon : ∀ (m : Nat) (L : List Nat), (∀ x, x < m → x ∈ L) → m ≤ L.length := by
  intro m
  induction m with
  | zero => intro L _; omega
  | succ m ih =>
    intro L h
    have h1 := ih (L.erase m) (fun x hx => (List.mem_erase_of_ne (by omega)).mpr (h x (by omega)))
    have hm := h m (by omega)
    have h2 := List.length_erase_of_mem hm
    have h3 : 0 < L.length := List.length_pos_of_mem hm
    omega
theorem dyl_some {f : List Nat → Option (List Nat)} {ok : Nat → Bool} {L : List Nat} {y : Nat} (ho : ok y = true) (hf : ¬ f (L ++ [y]) = none) : ∀ (e x : Nat), x ≤ y → y < x + e → ¬ dyl f ok L e x = none := by
  intro e
  induction e with
  | zero => intro x h1 h2; omega
  | succ e ih =>
    intro x h1 h2
    simp only [dyl]
    by_cases hxy : x = y
    · subst hxy
      rw [if_pos ho]
      cases hq : f (L ++ [x]) with
      | none => exact absurd hq hf
      | some q => simp
    · have := ih (x + 1) (by omega) (by omega)
      split
      · split
        · simp
        · exact this
      · exact this
theorem okj_t {r : Nat → Int32} {but : Int32} {L : List Nat} {x : Nat} (h : x ∉ L) : ∀ j, j ≤ L.length → okj r but L x j = true := by
  intro j
  induction j with
  | zero => intro _; rfl
  | succ j ih =>
    intro hj
    have hne : L.getD j 0 ≠ x := by
      intro e
      apply h
      rw [← e, List.getD_eq_getElem?_getD, List.getElem?_eq_getElem (by omega)]
      simp
    simp [okj, ih (by omega)]
    right
    intro e
    apply hne
    rw [List.getD_eq_getElem?_getD]
    exact e
/-- with as many colours as houses there is always a way -/
theorem dy_some {r : Nat → Int32} {but : Int32} {many : Nat} : ∀ (d : Nat) (L : List Nat), L.length + d ≤ many → ¬ dy r but many d L = none := by
  intro d
  induction d with
  | zero => intro L _; simp [dy]
  | succ d ih =>
    intro L hL
    simp only [dy]
    split
    · exact ih (L ++ [0]) (by simp; omega)
    · have hx : ∃ x, x < many ∧ x ∉ L := by
        apply Classical.byContradiction
        intro hno
        have := pigeon many L (fun x hx => Classical.byContradiction fun hn => hno ⟨x, hx, hn⟩)
        omega
      obtain ⟨x, h1, h2⟩ := hx
      exact dyl_some (y := x) (okj_t h2 L.length (Nat.le_refl _)) (ih (L ++ [x]) (by simp; omega)) many 0 (by omega) (by omega)
def S_fewestColours : px_S := fun av σ k => match av with
  | [.inr (.inr (some 0)), .inl but] => mt_R σ.2.2 ∧ tok (σ.1 1) ∧ ∀ (m : Nat) (q : List Nat) (τ : px_M), fr 16 σ τ → m ≤ tN (σ.1 1) → dy (σ.1 1) but m (tN (σ.1 1)) [] = some q → (∀ i, i < m → dy (σ.1 1) but i (tN (σ.1 1)) [] = none) → cw but q (τ.1 16) → k (some (.inl (nI m))) τ
  | _ => False
theorem S_fewestColours_sp {av : List px_V} {σ : px_M} {k : Option px_V → px_M → Prop} (h : S_fewestColours av σ k) : ∃ but, av = [.inr (.inr (some 0)), .inl but] ∧ (mt_R σ.2.2 ∧ tok (σ.1 1) ∧ ∀ (m : Nat) (q : List Nat) (τ : px_M), fr 16 σ τ → m ≤ tN (σ.1 1) → dy (σ.1 1) but m (tN (σ.1 1)) [] = some q → (∀ i, i < m → dy (σ.1 1) but i (tN (σ.1 1)) [] = none) → cw but q (τ.1 16) → k (some (.inl (nI m))) τ) := by
  unfold S_fewestColours at h
  split at h
  · exact ⟨_, rfl, h⟩
  · exact h.elim
def I_few (but : Int32) (σ : px_M) : Nat → px_Ls → px_M → Prop := fun m ls τ => ls = [some (.inr (.inr (some 0))), some (.inl but), some (.inl (nI m))] ∧ fr 16 σ τ ∧ ∀ i, i < m → dy (σ.1 1) but i (tN (σ.1 1)) [] = none
set_option maxHeartbeats 4000000 in
set_option maxRecDepth 100000 in
theorem m_fewestColours {tab : px_T} (ht : mt_ok tab) {h : Nat} (hh : 14 ≤ h) : px_Ok tab pn_i43 h S_fewestColours := by
  refine px_mth ht.1 (by decide +kernel) (fun av σ k hS => by obtain ⟨but, rfl, hR, htk, hS⟩ := S_fewestColours_sp hS; exact Nat.le_of_ble_eq_true rfl) (fun C hT hC av σ k hS => ?_)
  replace hS := S_fewestColours_sp hS
  obtain ⟨but, rfl, hR, htk, hS⟩ := hS
  subst hT
  obtain ⟨hn, h1, hnb, hlt⟩ := id htk
  have lp := px_loop (C := C) (k := k) (pc := 2) (I_few but σ) (tN (σ.1 1)) (fun m ls τ hm hI hn2 => by
    obtain ⟨rfl, hfr, hno⟩ := hI
    have hr1 : τ.1 1 = σ.1 1 := hfr.1 1 (by decide)
    have hR' : mt_R τ.2.2 := by rw [hfr.2]; exact hR
    refine px_runG (h - 1) ck_43 [(42, S_dyes (tN (σ.1 1)))] [(2, px_li (I_few but σ) m (tN (σ.1 1)))] 24 hC (px_sp1 (m_dyes ht (tN (σ.1 1)) (by omega)) px_nosp) (by omega) (px_cut1 (px_li_ok hn2) px_nocut) (fun G Jf hG hJf => ?_)
    simp only [↓hG, ↓hJf, ↓px_go, ↓px_vc, ↓px_ex, ↓px_jp, ↓px_gi, ↓px_gl, ↓px_gr, ↓px_s1, ↓px_s2, ↓px_nl, ↓px_i1, ↓px_l1, ↓px_r1, ↓px_q1, ↓px_i2, ↓px_l2, ↓px_il, ↓px_d0, ↓px_d1, ↓px_d2, ↓px_pop, px_sz, ↓px_sp, ↓px_obj, ↓px_arr, ↓px_rd, ↓px_pt, ↓px_rok, ↓px_rv, ↓px_fill, ↓px_sl, ↓px_li, ↓px_l0, ↓px_lw, ↓px_lc, px_wi, px_wl, px_wr, px_up_at, lc_lt, lc_ge, lc_gt, lc_le, lc_eq, ↓reduceIte, Nat.reduceEqDiff, Nat.reduceLeDiff, Nat.reduceAdd, Nat.reduceSub, reduceCtorEq, List.length_cons, List.length_nil, Option.toList_some, Option.toList_none, List.cons_append, List.nil_append, true_and, and_true, false_and, and_false, true_or, or_true, false_or, or_false, and_self, or_self, not_false_eq_true, not_true_eq_false, false_implies, forall_const, true_implies, ↓bk_43, ↓pn_i43, mt_0 ht, S_dyes, I_few]
    try simp (disch := omega) only [true_and, and_true, mb_bit, mb_house, bcI_eq, px_up_row, ni_divL, ni_subL, nI_add, pk_mul, nI_leI, nI_ltI, nI_eq, vp_in_eq, nI_clamp, fa_and, fa_or, ni_bit1, ni_1s, nI_l, mb_eq0, mb_ne0, mb_eq1, hr1]
    refine ⟨[], m, but, rfl, hR', htk, by simp, by omega, fun i => by simp, fun i hi => absurd hi (by simp), fun υ hu => ?_⟩
    cases hq : dy (σ.1 1) but m (tN (σ.1 1)) [] with
    | some q0 =>
      intro hcq
      have hf := hS m q0 υ (fr_tr hfr hu) hm hq hno hcq
      first | exact hf | exact ⟨fun _ => hf, fun z => absurd z (by omega)⟩ | exact ⟨fun z => absurd z (by omega), fun _ => hf⟩
    | none =>
      intro hcq
      have hlt2 : m < tN (σ.1 1) := by
        rcases Nat.lt_or_ge m (tN (σ.1 1)) with q | q
        · exact q
        · exact absurd hq (dy_some _ [] (by simp; omega))
      refine ⟨hlt2, fr_tr hfr hu, fun i hi => ?_⟩
      by_cases him : i = m
      · subst him; exact hq
      · exact hno i (by omega))
  refine px_runG (h - 1) ck_43 [] [(2, px_l0 (I_few but σ))] 24 hC px_nosp (by omega) (px_cut1 (px_l0_ok lp) px_nocut) (fun G Jf hG hJf => ?_)
  simp only [↓hG, ↓hJf, ↓px_go, ↓px_vc, ↓px_ex, ↓px_jp, ↓px_gi, ↓px_gl, ↓px_gr, ↓px_s1, ↓px_s2, ↓px_nl, ↓px_i1, ↓px_l1, ↓px_r1, ↓px_q1, ↓px_i2, ↓px_l2, ↓px_il, ↓px_d0, ↓px_d1, ↓px_d2, ↓px_pop, px_sz, ↓px_sp, ↓px_obj, ↓px_arr, ↓px_rd, ↓px_pt, ↓px_rok, ↓px_rv, ↓px_fill, ↓px_sl, ↓px_li, ↓px_l0, ↓px_lw, ↓px_lc, px_wi, px_wl, px_wr, px_up_at, lc_lt, lc_ge, lc_gt, lc_le, lc_eq, ↓reduceIte, Nat.reduceEqDiff, Nat.reduceLeDiff, Nat.reduceAdd, Nat.reduceSub, reduceCtorEq, List.length_cons, List.length_nil, Option.toList_some, Option.toList_none, List.cons_append, List.nil_append, true_and, and_true, false_and, and_false, true_or, or_true, false_or, or_false, and_self, or_self, not_false_eq_true, not_true_eq_false, false_implies, forall_const, true_implies, ↓bk_43, ↓pn_i43, I_few]
  try simp (disch := omega) only [true_and, and_true, mb_bit, mb_house, bcI_eq, px_up_row, ni_divL, ni_subL, nI_add, pk_mul, nI_leI, nI_ltI, nI_eq, vp_in_eq, nI_clamp, fa_and, fa_or, ni_bit1, ni_1s, nI_l, mb_eq0, mb_ne0, mb_eq1]
  exact ⟨fr_rf 16 σ, fun i hi => absurd hi (by omega)⟩
