/-! the model: three, laysThree -/
theorem px_loopu {C : px_C} {k : Option px_V → px_M → Prop} {pc : Nat} (I : Nat → px_Ls → px_M → Prop) (n : Nat) (body : ∀ j ls σ, I j ls σ → (∀ ls' σ', j < n → I (j + 1) ls' σ' → px_W C k pc ls' [] σ') → px_W C k pc ls [] σ) : ∀ j ls σ, I j ls σ → px_W C k pc ls [] σ :=
  px_loopm I (fun j => n - j) (fun j ls σ hI nx => body j ls σ hI (fun ls' σ' hj hI' => nx (j + 1) ls' σ' (show n - (j + 1) < n - j by omega) hI'))
theorem fm_len {α : Type} {f : Nat → List α} {c : Nat} (h : ∀ j, (f j).length ≤ c) : ∀ m i, (fm f i m).length ≤ c * m := by
  intro m
  induction m with
  | zero => intro i; simp [fm]
  | succ m ih => intro i; have h1 := h i; have h2 := ih (i + 1); simp only [fm, List.length_append, Nat.mul_succ]; omega
/-- doors between three -/
def c3 (r : Nat → Int32) (a b c : Nat) : Bool := (tB r a).testBit b && ((tB r a).testBit c && (tB r b).testBit c)
def T3c (r : Nat → Int32) (a b c : Nat) : List (Nat × Nat × Nat) := fm (fun c => if c3 r a b c then [(a, b, c)] else []) c (tN r - c)
def T3b (r : Nat → Int32) (a b : Nat) : List (Nat × Nat × Nat) := fm (fun b => T3c r a b (b + 1)) b (tN r - b)
def T3a (r : Nat → Int32) (a : Nat) : List (Nat × Nat × Nat) := fm (fun a => T3b r a (a + 1)) a (tN r - a)
theorem T3_len {r : Nat → Int32} (h : tN r ≤ 11) : (T3a r 0).length ≤ 1331 := by
  have e1 : ∀ a b c, (T3c r a b c).length ≤ 11 := fun a b c => by
    have := fm_len (f := fun c => if c3 r a b c then [(a, b, c)] else []) (c := 1) (fun j => by split <;> simp) (tN r - c) c
    unfold T3c; omega
  have e2 : ∀ a b, (T3b r a b).length ≤ 121 := fun a b => by
    have := fm_len (f := fun b => T3c r a b (b + 1)) (c := 11) (fun j => e1 _ _ _) (tN r - b) b
    unfold T3b; omega
  have := fm_len (f := fun a => T3b r a (a + 1)) (c := 121) (fun j => e2 _ _) (tN r - 0) 0
  unfold T3a; omega
def cod3 (t : Nat × Nat × Nat) : Nat := 10000 * t.1 + 100 * t.2.1 + t.2.2
def th3 (T : List (Nat × Nat × Nat)) (x : Int32) : Int32 := if x = -1 then nI T.length else if 0 ≤ x.toInt ∧ x.toInt < T.length then nI (cod3 (T.getD x.toInt.toNat (0, 0, 0))) else -1
theorem th3_at {P : List (Nat × Nat × Nat)} {e : Nat × Nat × Nat} {Q : List (Nat × Nat × Nat)} (h : P.length < 2 ^ 31) : th3 (P ++ e :: Q) (nI P.length) = nI (cod3 e) := by
  unfold th3
  rw [if_neg (ni_m1 h), nI_toInt h, if_pos (by simp; omega)]
  simp
theorem th3_no {T : List (Nat × Nat × Nat)} {x : Int32} (h : T.length < 2 ^ 31) (hx : ¬ x = -1) (hn : ∀ i, i < T.length → ¬ x = nI i) : th3 T x = -1 := by
  unfold th3
  rw [if_neg hx, if_neg]
  rintro ⟨h1, h2⟩
  refine hn x.toInt.toNat (by omega) ?_
  apply Int32.toInt_inj.mp
  rw [nI_toInt (by omega)]
  omega
def S_three : px_S := fun av σ k => match av with
  | [.inr (.inr (some 0)), .inl x] => mt_R σ.2.2 ∧ tok (σ.1 1) ∧ k (some (.inl (th3 (T3a (σ.1 1) 0) x))) (px_wi σ 0 0 (nI 0))
  | _ => False
theorem S_three_sp {av : List px_V} {σ : px_M} {k : Option px_V → px_M → Prop} (h : S_three av σ k) : ∃ x, av = [.inr (.inr (some 0)), .inl x] ∧ (mt_R σ.2.2 ∧ tok (σ.1 1) ∧ k (some (.inl (th3 (T3a (σ.1 1) 0) x))) (px_wi σ 0 0 (nI 0))) := by
  unfold S_three at h
  split at h
  · exact ⟨_, rfl, h⟩
  · exact h.elim
def I_th3 (r : Nat → Int32) (τ0 : px_M) (x : Int32) (a b : Nat) : Nat → px_Ls → px_M → Prop := fun c ls τ => ∃ P, ls = [some (.inr (.inr (some 0))), some (.inl x), some (.inl (nI (List.length P))), some (.inl (nI a)), some (.inl (nI b)), some (.inl (nI c))] ∧ τ = τ0 ∧ P ++ (T3c r a b c ++ (T3b r a (b + 1) ++ T3a r (a + 1))) = T3a r 0 ∧ (∀ i, i < P.length → ¬ x = nI i)
def I_th2 (r : Nat → Int32) (τ0 : px_M) (x : Int32) (a : Nat) : Nat → px_Ls → px_M → Prop := fun b ls τ => ∃ P z5, ls = [some (.inr (.inr (some 0))), some (.inl x), some (.inl (nI (List.length P))), some (.inl (nI a)), some (.inl (nI b)), z5] ∧ τ = τ0 ∧ P ++ (T3b r a b ++ T3a r (a + 1)) = T3a r 0 ∧ (∀ i, i < P.length → ¬ x = nI i)
def I_th1 (r : Nat → Int32) (τ0 : px_M) (x : Int32) : Nat → px_Ls → px_M → Prop := fun a ls τ => ∃ P z4 z5, ls = [some (.inr (.inr (some 0))), some (.inl x), some (.inl (nI (List.length P))), some (.inl (nI a)), z4, z5] ∧ τ = τ0 ∧ P ++ T3a r a = T3a r 0 ∧ (∀ i, i < P.length → ¬ x = nI i)
set_option maxHeartbeats 4000000 in
set_option maxRecDepth 100000 in
theorem m_three {tab : px_T} (ht : mt_ok tab) {h : Nat} (hh : 2 ≤ h) : px_Ok tab pn_i80 h S_three := by
  refine px_mth ht.1 (by decide +kernel) (fun av σ k hS => by obtain ⟨x, rfl, hR, htk, hS⟩ := S_three_sp hS; exact Nat.le_of_ble_eq_true rfl) (fun C hT hC av σ k hS => ?_)
  replace hS := S_three_sp hS
  obtain ⟨x, rfl, hR, htk, hS⟩ := hS
  subst hT
  obtain ⟨hn, h1, hnb, hlt⟩ := id htk
  have hT := T3_len hn
  have lp3 := fun (a b : Nat) (hab : a < b) (hbn : b < tN (σ.1 1)) (nx : ∀ ls τ, I_th2 (σ.1 1) (px_wi σ 0 0 (nI 0)) x a (b + 1) ls τ → px_W C k 24 ls [] τ) => px_loop (C := C) (k := k) (pc := 41) (I_th3 (σ.1 1) (px_wi σ 0 0 (nI 0)) x a b) (tN (σ.1 1)) (fun c ls τ hc hI hn2 => by
    obtain ⟨P, rfl, rfl, hP, hno⟩ := hI
    have hPl : P.length ≤ 1331 := by rw [← hP, List.length_append] at hT; omega
    have hla := hlt a (by omega)
    have hlb := hlt b (by omega)
    refine px_runG (h - 1) ck_80 [(31, S_near), (14, S_isIn)] [(41, px_li (I_th3 (σ.1 1) (px_wi σ 0 0 (nI 0)) x a b) c (tN (σ.1 1))), (24, px_lw (I_th2 (σ.1 1) (px_wi σ 0 0 (nI 0)) x a (b + 1)))] 24 hC (px_sp1 (m_near ht (by omega)) (px_sp1 (m_isIn ht (by omega)) px_nosp)) (by omega) (px_cut1 (px_li_ok hn2) (px_cut1 (px_lw_ok nx) px_nocut)) (fun G Jf hG hJf => ?_)
    simp only [↓hG, ↓hJf, ↓px_go, ↓px_vc, ↓px_ex, ↓px_jp, ↓px_gi, ↓px_gl, ↓px_gr, ↓px_s1, ↓px_s2, ↓px_nl, ↓px_i1, ↓px_l1, ↓px_r1, ↓px_q1, ↓px_i2, ↓px_l2, ↓px_il, ↓px_d0, ↓px_d1, ↓px_d2, ↓px_pop, px_sz, ↓px_sp, ↓px_obj, ↓px_arr, ↓px_rd, ↓px_pt, ↓px_rok, ↓px_rv, ↓px_fill, ↓px_sl, ↓px_li, ↓px_l0, ↓px_lw, ↓px_lc, px_wi, px_wl, px_wr, px_up_at, lc_lt, lc_ge, lc_gt, lc_le, lc_eq, ↓reduceIte, Nat.reduceEqDiff, Nat.reduceLeDiff, Nat.reduceAdd, Nat.reduceSub, reduceCtorEq, List.length_cons, List.length_nil, Option.toList_some, Option.toList_none, List.cons_append, List.nil_append, true_and, and_true, false_and, and_false, true_or, or_true, false_or, or_false, and_self, or_self, not_false_eq_true, not_true_eq_false, false_implies, forall_const, true_implies, ↓bk_80, ↓pn_i80, ↓S_near, ↓S_isIn, I_th3, I_th2, mt_0 ht, mt_1 ht, mr_1 hR]
    try simp (disch := omega) only [true_and, and_true, mb_bit, mb_house, bcI_eq, px_up_row, ni_divL, ni_subL, nI_add, pk_mul, nI_leI, nI_ltI, nI_eq, vp_in_eq, nI_clamp, fa_and, fa_or, ni_bit1, ni_1s, nI_l, mb_eq0, mb_ne0, mb_eq1, h1, hnb]
    try simp only [Bool.true_eq_false, Bool.false_eq_true, reduceCtorEq, not_true_eq_false, not_false_eq_true, false_implies, true_implies, forall_const, and_self, true_and, and_true]
    have stay : c3 (σ.1 1) a b c = false → c < tN (σ.1 1) → P ++ (T3c (σ.1 1) a b (c + 1) ++ (T3b (σ.1 1) a (b + 1) ++ T3a (σ.1 1) (a + 1))) = T3a (σ.1 1) 0 := fun h3 h4 => by
      rw [T3c, fm_st h4, if_neg (by rw [h3]; decide)] at hP
      exact hP
    refine ⟨by omega, fun q => ⟨P, _, rfl, ?_, hno⟩, fun q => ⟨hR, by omega, fun q2 => ⟨by omega, P, rfl, stay (by simp [c3, q2]) (by omega), hno⟩, fun q2 => ⟨hR, by omega, fun q3 => ⟨by omega, P, rfl, stay (by simp [c3, q3]) (by omega), hno⟩, fun q3 => ⟨hR, by omega, fun q4 => ?_, fun q4 => ⟨by omega, P, rfl, stay (by simp [c3, q4]) (by omega), hno⟩⟩⟩⟩⟩
    · rw [T3c, fm_nd q] at hP
      exact hP
    · have h3 : c3 (σ.1 1) a b c = true := by simp [c3, q2, q3, q4]
      rw [T3c, fm_st (by omega), if_pos h3] at hP
      refine ⟨fun q5 => ⟨by omega, P ++ [(a, b, c)], by simp, by simpa [T3c] using hP, fun i hi => ?_⟩, fun q5 => ?_⟩
      · by_cases hi2 : i = P.length
        · subst hi2; exact fun e => q5 e.symm
        · exact hno i (by simp at hi; omega)
      · rw [← hP, ← q5, List.cons_append, List.cons_append, th3_at (by omega)] at hS
        exact hS)
  have lp2 := fun (a : Nat) (han : a < tN (σ.1 1)) (nx : ∀ ls τ, I_th1 (σ.1 1) (px_wi σ 0 0 (nI 0)) x (a + 1) ls τ → px_W C k 9 ls [] τ) => px_loop (C := C) (k := k) (pc := 24) (fun b ls τ => a < b ∧ I_th2 (σ.1 1) (px_wi σ 0 0 (nI 0)) x a b ls τ) (tN (σ.1 1)) (fun b ls τ hb hI hn2 => by
    obtain ⟨hab, P, z5, rfl, rfl, hP, hno⟩ := hI
    refine px_runG (h - 1) ck_80 [] [(41, px_lc (b < tN (σ.1 1)) (I_th3 (σ.1 1) (px_wi σ 0 0 (nI 0)) x a b (b + 1))), (9, px_lw (I_th1 (σ.1 1) (px_wi σ 0 0 (nI 0)) x (a + 1)))] 24 hC px_nosp (by omega) (px_cut1 (px_lc_ok (fun hb ls τ hI => lp3 a b hab hb (fun ls τ hI => hn2 ls τ hb ⟨by omega, hI⟩) (b + 1) ls τ (by omega) hI)) (px_cut1 (px_lw_ok nx) px_nocut)) (fun G Jf hG hJf => ?_)
    simp only [↓hG, ↓hJf, ↓px_go, ↓px_vc, ↓px_ex, ↓px_jp, ↓px_gi, ↓px_gl, ↓px_gr, ↓px_s1, ↓px_s2, ↓px_nl, ↓px_i1, ↓px_l1, ↓px_r1, ↓px_q1, ↓px_i2, ↓px_l2, ↓px_il, ↓px_d0, ↓px_d1, ↓px_d2, ↓px_pop, px_sz, ↓px_sp, ↓px_obj, ↓px_arr, ↓px_rd, ↓px_pt, ↓px_rok, ↓px_rv, ↓px_fill, ↓px_sl, ↓px_li, ↓px_l0, ↓px_lw, ↓px_lc, px_wi, px_wl, px_wr, px_up_at, lc_lt, lc_ge, lc_gt, lc_le, lc_eq, ↓reduceIte, Nat.reduceEqDiff, Nat.reduceLeDiff, Nat.reduceAdd, Nat.reduceSub, reduceCtorEq, List.length_cons, List.length_nil, Option.toList_some, Option.toList_none, List.cons_append, List.nil_append, true_and, and_true, false_and, and_false, true_or, or_true, false_or, or_false, and_self, or_self, not_false_eq_true, not_true_eq_false, false_implies, forall_const, true_implies, ↓bk_80, ↓pn_i80, I_th3, I_th1, mt_0 ht, mt_1 ht, mr_1 hR]
    try simp (disch := omega) only [true_and, and_true, mb_bit, mb_house, bcI_eq, px_up_row, ni_divL, ni_subL, nI_add, pk_mul, nI_leI, nI_ltI, nI_eq, vp_in_eq, nI_clamp, fa_and, fa_or, ni_bit1, ni_1s, nI_l, mb_eq0, mb_ne0, mb_eq1, h1]
    try simp only [Bool.true_eq_false, Bool.false_eq_true, reduceCtorEq, not_true_eq_false, not_false_eq_true, false_implies, true_implies, forall_const, and_self, true_and, and_true]
    refine ⟨by omega, fun q => ⟨P, _, _, rfl, ?_, hno⟩, fun q => ⟨by omega, P, rfl, ?_, hno⟩⟩
    · rw [T3b, fm_nd q] at hP
      exact hP
    · rw [T3b, fm_st (by omega), List.append_assoc] at hP
      exact hP)
  have lp1 := px_loop (C := C) (k := k) (pc := 9) (I_th1 (σ.1 1) (px_wi σ 0 0 (nI 0)) x) (tN (σ.1 1)) (fun a ls τ ha hI hn2 => by
    obtain ⟨P, z4, z5, rfl, rfl, hP, hno⟩ := hI
    refine px_runG (h - 1) ck_80 [] [(24, px_lc (a < tN (σ.1 1)) (I_th2 (σ.1 1) (px_wi σ 0 0 (nI 0)) x a (a + 1)))] 24 hC px_nosp (by omega) (px_cut1 (px_lc_ok (fun ha ls τ hI => lp2 a ha (fun ls τ hI => hn2 ls τ ha hI) (a + 1) ls τ (by omega) ⟨by omega, hI⟩)) px_nocut) (fun G Jf hG hJf => ?_)
    simp only [↓hG, ↓hJf, ↓px_go, ↓px_vc, ↓px_ex, ↓px_jp, ↓px_gi, ↓px_gl, ↓px_gr, ↓px_s1, ↓px_s2, ↓px_nl, ↓px_i1, ↓px_l1, ↓px_r1, ↓px_q1, ↓px_i2, ↓px_l2, ↓px_il, ↓px_d0, ↓px_d1, ↓px_d2, ↓px_pop, px_sz, ↓px_sp, ↓px_obj, ↓px_arr, ↓px_rd, ↓px_pt, ↓px_rok, ↓px_rv, ↓px_fill, ↓px_sl, ↓px_li, ↓px_l0, ↓px_lw, ↓px_lc, px_wi, px_wl, px_wr, px_up_at, lc_lt, lc_ge, lc_gt, lc_le, lc_eq, ↓reduceIte, Nat.reduceEqDiff, Nat.reduceLeDiff, Nat.reduceAdd, Nat.reduceSub, reduceCtorEq, List.length_cons, List.length_nil, Option.toList_some, Option.toList_none, List.cons_append, List.nil_append, true_and, and_true, false_and, and_false, true_or, or_true, false_or, or_false, and_self, or_self, not_false_eq_true, not_true_eq_false, false_implies, forall_const, true_implies, ↓bk_80, ↓pn_i80, I_th2, mt_0 ht, mt_1 ht, mr_1 hR]
    try simp (disch := omega) only [true_and, and_true, mb_bit, mb_house, bcI_eq, px_up_row, ni_divL, ni_subL, nI_add, pk_mul, nI_leI, nI_ltI, nI_eq, vp_in_eq, nI_clamp, fa_and, fa_or, ni_bit1, ni_1s, nI_l, mb_eq0, mb_ne0, mb_eq1, h1]
    try simp only [Bool.true_eq_false, Bool.false_eq_true, reduceCtorEq, not_true_eq_false, not_false_eq_true, false_implies, true_implies, forall_const, and_self, true_and, and_true]
    refine ⟨by omega, fun q => ?_, fun q => ⟨by omega, P, _, rfl, ?_, hno⟩⟩
    · rw [T3a, fm_nd (by omega), List.append_nil] at hP
      subst hP
      refine ⟨fun q2 => ?_, fun q2 => ?_⟩
      · rw [th3_no (by omega) q2 hno] at hS; exact hS
      · rw [th3, if_pos q2] at hS; exact hS
    · rw [T3a, fm_st (by omega)] at hP
      exact hP)
  refine px_runG (h - 1) ck_80 [] [(9, px_l0 (I_th1 (σ.1 1) (px_wi σ 0 0 (nI 0)) x))] 24 hC px_nosp (by omega) (px_cut1 (px_l0_ok lp1) px_nocut) (fun G Jf hG hJf => ?_)
  simp only [↓hG, ↓hJf, ↓px_go, ↓px_vc, ↓px_ex, ↓px_jp, ↓px_gi, ↓px_gl, ↓px_gr, ↓px_s1, ↓px_s2, ↓px_nl, ↓px_i1, ↓px_l1, ↓px_r1, ↓px_q1, ↓px_i2, ↓px_l2, ↓px_il, ↓px_d0, ↓px_d1, ↓px_d2, ↓px_pop, px_sz, ↓px_sp, ↓px_obj, ↓px_arr, ↓px_rd, ↓px_pt, ↓px_rok, ↓px_rv, ↓px_fill, ↓px_sl, ↓px_li, ↓px_l0, ↓px_lw, ↓px_lc, px_wi, px_wl, px_wr, px_up_at, lc_lt, lc_ge, lc_gt, lc_le, lc_eq, ↓reduceIte, Nat.reduceEqDiff, Nat.reduceLeDiff, Nat.reduceAdd, Nat.reduceSub, reduceCtorEq, List.length_cons, List.length_nil, Option.toList_some, Option.toList_none, List.cons_append, List.nil_append, true_and, and_true, false_and, and_false, true_or, or_true, false_or, or_false, and_self, or_self, not_false_eq_true, not_true_eq_false, false_implies, forall_const, true_implies, ↓bk_80, ↓pn_i80, I_th1, mt_0 ht]
  try simp (disch := omega) only [true_and, and_true, mb_bit, mb_house, bcI_eq, px_up_row, ni_divL, ni_subL, nI_add, pk_mul, nI_leI, nI_ltI, nI_eq, vp_in_eq, nI_clamp, fa_and, fa_or, ni_bit1, ni_1s, nI_l, mb_eq0, mb_ne0, mb_eq1]
  try simp only [Bool.true_eq_false, Bool.false_eq_true, reduceCtorEq, not_true_eq_false, not_false_eq_true, false_implies, true_implies, forall_const, and_self, true_and, and_true]
  exact ⟨[], _, _, rfl, rfl, fun i hi => absurd hi (by simp)⟩
