/-! the model: laysThree -/
def S_laysThree : px_S := fun av σ k => av = [.inr (.inr (some 0))] ∧ mt_R σ.2.2 ∧ tok (σ.1 1) ∧ (T3a (σ.1 1) 0 = [] → k (some (.inl (nI 0))) σ) ∧ (∀ a b c L, T3a (σ.1 1) 0 = (a, b, c) :: L → k (some (.inl (nI 1))) (px_wi (px_wi (px_wi σ 0 32 (nI a)) 0 33 (nI b)) 0 34 (nI c)))
def I_ly3 (σ : px_M) (a b : Nat) : Nat → px_Ls → px_M → Prop := fun c ls τ => ls = [some (.inr (.inr (some 0))), some (.inl (nI a)), some (.inl (nI b)), some (.inl (nI c))] ∧ τ = σ ∧ T3c (σ.1 1) a b c ++ (T3b (σ.1 1) a (b + 1) ++ T3a (σ.1 1) (a + 1)) = T3a (σ.1 1) 0
def I_ly2 (σ : px_M) (a : Nat) : Nat → px_Ls → px_M → Prop := fun b ls τ => ∃ z3, ls = [some (.inr (.inr (some 0))), some (.inl (nI a)), some (.inl (nI b)), z3] ∧ τ = σ ∧ T3b (σ.1 1) a b ++ T3a (σ.1 1) (a + 1) = T3a (σ.1 1) 0
def I_ly1 (σ : px_M) : Nat → px_Ls → px_M → Prop := fun a ls τ => ∃ z2 z3, ls = [some (.inr (.inr (some 0))), some (.inl (nI a)), z2, z3] ∧ τ = σ ∧ T3a (σ.1 1) a = T3a (σ.1 1) 0
set_option maxHeartbeats 4000000 in
set_option maxRecDepth 100000 in
theorem m_laysThree {tab : px_T} (ht : mt_ok tab) {h : Nat} (hh : 2 ≤ h) : px_Ok tab pn_i114 h S_laysThree := by
  refine px_mth ht.1 (by decide +kernel) (fun av σ k hS => by obtain ⟨rfl, hR, htk, hS1, hS2⟩ := hS; exact Nat.le_of_ble_eq_true rfl) (fun C hT hC av σ k hS => ?_)
  obtain ⟨rfl, hR, htk, hS1, hS2⟩ := hS
  subst hT
  obtain ⟨hn, h1, hnb, hlt⟩ := id htk
  have lp3 := fun (a b : Nat) (hab : a < b) (hbn : b < tN (σ.1 1)) (nx : ∀ ls τ, I_ly2 σ a (b + 1) ls τ → px_W C k 16 ls [] τ) => px_loop (C := C) (k := k) (pc := 30) (I_ly3 σ a b) (tN (σ.1 1)) (fun c ls τ hc hI hn2 => by
    obtain ⟨rfl, rfl, hP⟩ := hI
    have hla := hlt a (by omega)
    have hlb := hlt b (by omega)
    refine px_runG (h - 1) ck_114 [(31, S_near), (14, S_isIn)] [(30, px_li (I_ly3 τ a b) c (tN (τ.1 1))), (16, px_lw (I_ly2 τ a (b + 1)))] 24 hC (px_sp1 (m_near ht (by omega)) (px_sp1 (m_isIn ht (by omega)) px_nosp)) (by omega) (px_cut1 (px_li_ok hn2) (px_cut1 (px_lw_ok nx) px_nocut)) (fun G Jf hG hJf => ?_)
    simp only [↓hG, ↓hJf, ↓px_go, ↓px_vc, ↓px_ex, ↓px_jp, ↓px_gi, ↓px_gl, ↓px_gr, ↓px_s1, ↓px_s2, ↓px_nl, ↓px_i1, ↓px_l1, ↓px_r1, ↓px_q1, ↓px_i2, ↓px_l2, ↓px_il, ↓px_d0, ↓px_d1, ↓px_d2, ↓px_pop, px_sz, ↓px_sp, ↓px_obj, ↓px_arr, ↓px_rd, ↓px_pt, ↓px_rok, ↓px_rv, ↓px_fill, ↓px_sl, ↓px_li, ↓px_l0, ↓px_lw, ↓px_lc, px_wi, px_wl, px_wr, px_up_at, lc_lt, lc_ge, lc_gt, lc_le, lc_eq, ↓reduceIte, Nat.reduceEqDiff, Nat.reduceLeDiff, Nat.reduceAdd, Nat.reduceSub, reduceCtorEq, List.length_cons, List.length_nil, Option.toList_some, Option.toList_none, List.cons_append, List.nil_append, true_and, and_true, false_and, and_false, true_or, or_true, false_or, or_false, and_self, or_self, not_false_eq_true, not_true_eq_false, false_implies, forall_const, true_implies, ↓bk_114, ↓pn_i114, ↓S_near, ↓S_isIn, I_ly3, I_ly2, mt_0 ht, mt_1 ht, mr_1 hR]
    try simp (disch := omega) only [true_and, and_true, mb_bit, mb_house, bcI_eq, px_up_row, ni_divL, ni_subL, nI_add, pk_mul, nI_leI, nI_ltI, nI_eq, vp_in_eq, nI_clamp, fa_and, fa_or, ni_bit1, ni_1s, nI_l, mb_eq0, mb_ne0, mb_eq1, h1, hnb]
    try simp only [Bool.true_eq_false, Bool.false_eq_true, reduceCtorEq, not_true_eq_false, not_false_eq_true, false_implies, true_implies, forall_const, and_self, true_and, and_true]
    have stay : c3 (τ.1 1) a b c = false → c < tN (τ.1 1) → T3c (τ.1 1) a b (c + 1) ++ (T3b (τ.1 1) a (b + 1) ++ T3a (τ.1 1) (a + 1)) = T3a (τ.1 1) 0 := fun h3 h4 => by
      rw [T3c, fm_st h4, if_neg (by rw [h3]; decide)] at hP
      exact hP
    have got : c3 (τ.1 1) a b c = true → c < tN (τ.1 1) → k (some (.inl (nI 1))) (px_wi (px_wi (px_wi τ 0 32 (nI a)) 0 33 (nI b)) 0 34 (nI c)) := fun h3 h4 => by
      rw [T3c, fm_st h4, if_pos h3] at hP
      exact hS2 a b c _ hP.symm
    have nd : tN (τ.1 1) ≤ c → T3b (τ.1 1) a (b + 1) ++ T3a (τ.1 1) (a + 1) = T3a (τ.1 1) 0 := fun h4 => by
      rw [T3c, fm_nd h4] at hP
      exact hP
    refine ⟨by omega, fun q => ⟨by omega, fun z => absurd z (by omega), fun _ => ⟨_, rfl, nd q⟩⟩, fun q => ⟨hR, by omega, fun q2 => ⟨by omega, stay (by simp [c3, q2]) (by omega)⟩, fun q2 => ⟨hR, by omega, fun q3 => ⟨by omega, stay (by simp [c3, q3]) (by omega)⟩, fun q3 => ⟨hR, by omega, fun q4 => ⟨by omega, fun z => got (by simp [c3, q2, q3, q4]) z, fun z => absurd (show c < tN (τ.1 1) by omega) z⟩, fun q4 => ⟨by omega, stay (by simp [c3, q4]) (by omega)⟩⟩⟩⟩⟩)
  have lp2 := fun (a : Nat) (han : a < tN (σ.1 1)) (nx : ∀ ls τ, I_ly1 σ (a + 1) ls τ → px_W C k 2 ls [] τ) => px_loop (C := C) (k := k) (pc := 16) (fun b ls τ => a < b ∧ I_ly2 σ a b ls τ) (tN (σ.1 1)) (fun b ls τ hb hI hn2 => by
    obtain ⟨hab, z3, rfl, rfl, hP⟩ := hI
    refine px_runG (h - 1) ck_114 [] [(30, px_lc (b < tN (τ.1 1)) (I_ly3 τ a b (b + 1))), (2, px_lw (I_ly1 τ (a + 1)))] 24 hC px_nosp (by omega) (px_cut1 (px_lc_ok (fun hb ls υ hI => lp3 a b hab hb (fun ls υ hI => hn2 ls υ hb ⟨by omega, hI⟩) (b + 1) ls υ (by omega) hI)) (px_cut1 (px_lw_ok nx) px_nocut)) (fun G Jf hG hJf => ?_)
    simp only [↓hG, ↓hJf, ↓px_go, ↓px_vc, ↓px_ex, ↓px_jp, ↓px_gi, ↓px_gl, ↓px_gr, ↓px_s1, ↓px_s2, ↓px_nl, ↓px_i1, ↓px_l1, ↓px_r1, ↓px_q1, ↓px_i2, ↓px_l2, ↓px_il, ↓px_d0, ↓px_d1, ↓px_d2, ↓px_pop, px_sz, ↓px_sp, ↓px_obj, ↓px_arr, ↓px_rd, ↓px_pt, ↓px_rok, ↓px_rv, ↓px_fill, ↓px_sl, ↓px_li, ↓px_l0, ↓px_lw, ↓px_lc, px_wi, px_wl, px_wr, px_up_at, lc_lt, lc_ge, lc_gt, lc_le, lc_eq, ↓reduceIte, Nat.reduceEqDiff, Nat.reduceLeDiff, Nat.reduceAdd, Nat.reduceSub, reduceCtorEq, List.length_cons, List.length_nil, Option.toList_some, Option.toList_none, List.cons_append, List.nil_append, true_and, and_true, false_and, and_false, true_or, or_true, false_or, or_false, and_self, or_self, not_false_eq_true, not_true_eq_false, false_implies, forall_const, true_implies, ↓bk_114, ↓pn_i114, I_ly3, I_ly1, mt_0 ht, mt_1 ht, mr_1 hR]
    try simp (disch := omega) only [true_and, and_true, mb_bit, mb_house, bcI_eq, px_up_row, ni_divL, ni_subL, nI_add, pk_mul, nI_leI, nI_ltI, nI_eq, vp_in_eq, nI_clamp, fa_and, fa_or, ni_bit1, ni_1s, nI_l, mb_eq0, mb_ne0, mb_eq1, h1]
    try simp only [Bool.true_eq_false, Bool.false_eq_true, reduceCtorEq, not_true_eq_false, not_false_eq_true, false_implies, true_implies, forall_const, and_self, true_and, and_true]
    refine ⟨by omega, fun q => ⟨_, _, rfl, ?_⟩, fun q => ⟨by omega, ?_⟩⟩
    · rw [T3b, fm_nd q] at hP
      exact hP
    · rw [T3b, fm_st (by omega), List.append_assoc] at hP
      exact hP)
  have lp1 := px_loop (C := C) (k := k) (pc := 2) (I_ly1 σ) (tN (σ.1 1)) (fun a ls τ ha hI hn2 => by
    obtain ⟨z2, z3, rfl, rfl, hP⟩ := hI
    refine px_runG (h - 1) ck_114 [] [(16, px_lc (a < tN (τ.1 1)) (I_ly2 τ a (a + 1)))] 24 hC px_nosp (by omega) (px_cut1 (px_lc_ok (fun ha ls υ hI => lp2 a ha (fun ls υ hI => hn2 ls υ ha hI) (a + 1) ls υ (by omega) ⟨by omega, hI⟩)) px_nocut) (fun G Jf hG hJf => ?_)
    simp only [↓hG, ↓hJf, ↓px_go, ↓px_vc, ↓px_ex, ↓px_jp, ↓px_gi, ↓px_gl, ↓px_gr, ↓px_s1, ↓px_s2, ↓px_nl, ↓px_i1, ↓px_l1, ↓px_r1, ↓px_q1, ↓px_i2, ↓px_l2, ↓px_il, ↓px_d0, ↓px_d1, ↓px_d2, ↓px_pop, px_sz, ↓px_sp, ↓px_obj, ↓px_arr, ↓px_rd, ↓px_pt, ↓px_rok, ↓px_rv, ↓px_fill, ↓px_sl, ↓px_li, ↓px_l0, ↓px_lw, ↓px_lc, px_wi, px_wl, px_wr, px_up_at, lc_lt, lc_ge, lc_gt, lc_le, lc_eq, ↓reduceIte, Nat.reduceEqDiff, Nat.reduceLeDiff, Nat.reduceAdd, Nat.reduceSub, reduceCtorEq, List.length_cons, List.length_nil, Option.toList_some, Option.toList_none, List.cons_append, List.nil_append, true_and, and_true, false_and, and_false, true_or, or_true, false_or, or_false, and_self, or_self, not_false_eq_true, not_true_eq_false, false_implies, forall_const, true_implies, ↓bk_114, ↓pn_i114, I_ly2, mt_0 ht, mt_1 ht, mr_1 hR]
    try simp (disch := omega) only [true_and, and_true, mb_bit, mb_house, bcI_eq, px_up_row, ni_divL, ni_subL, nI_add, pk_mul, nI_leI, nI_ltI, nI_eq, vp_in_eq, nI_clamp, fa_and, fa_or, ni_bit1, ni_1s, nI_l, mb_eq0, mb_ne0, mb_eq1, h1]
    try simp only [Bool.true_eq_false, Bool.false_eq_true, reduceCtorEq, not_true_eq_false, not_false_eq_true, false_implies, true_implies, forall_const, and_self, true_and, and_true]
    refine ⟨by omega, fun q => ?_, fun q => ⟨by omega, _, rfl, ?_⟩⟩
    · rw [T3a, fm_nd (by omega)] at hP
      exact hS1 hP.symm
    · rw [T3a, fm_st (by omega)] at hP
      exact hP)
  refine px_runG (h - 1) ck_114 [] [(2, px_l0 (I_ly1 σ))] 24 hC px_nosp (by omega) (px_cut1 (px_l0_ok lp1) px_nocut) (fun G Jf hG hJf => ?_)
  simp only [↓hG, ↓hJf, ↓px_go, ↓px_vc, ↓px_ex, ↓px_jp, ↓px_gi, ↓px_gl, ↓px_gr, ↓px_s1, ↓px_s2, ↓px_nl, ↓px_i1, ↓px_l1, ↓px_r1, ↓px_q1, ↓px_i2, ↓px_l2, ↓px_il, ↓px_d0, ↓px_d1, ↓px_d2, ↓px_pop, px_sz, ↓px_sp, ↓px_obj, ↓px_arr, ↓px_rd, ↓px_pt, ↓px_rok, ↓px_rv, ↓px_fill, ↓px_sl, ↓px_li, ↓px_l0, ↓px_lw, ↓px_lc, px_wi, px_wl, px_wr, px_up_at, lc_lt, lc_ge, lc_gt, lc_le, lc_eq, ↓reduceIte, Nat.reduceEqDiff, Nat.reduceLeDiff, Nat.reduceAdd, Nat.reduceSub, reduceCtorEq, List.length_cons, List.length_nil, Option.toList_some, Option.toList_none, List.cons_append, List.nil_append, true_and, and_true, false_and, and_false, true_or, or_true, false_or, or_false, and_self, or_self, not_false_eq_true, not_true_eq_false, false_implies, forall_const, true_implies, ↓bk_114, ↓pn_i114, I_ly1, mt_0 ht]
  try simp (disch := omega) only [true_and, and_true, mb_bit, mb_house, bcI_eq, px_up_row, ni_divL, ni_subL, nI_add, pk_mul, nI_leI, nI_ltI, nI_eq, vp_in_eq, nI_clamp, fa_and, fa_or, ni_bit1, ni_1s, nI_l, mb_eq0, mb_ne0, mb_eq1]
  try simp only [Bool.true_eq_false, Bool.false_eq_true, reduceCtorEq, not_true_eq_false, not_false_eq_true, false_implies, true_implies, forall_const, and_self, true_and, and_true]
  exact ⟨_, _, rfl⟩
/-! the model: likes, strangers -/
def c4 (r : Nat → Int32) (s : Nat) (w : Int32) (a b c : Nat) : Bool := (s.testBit a && (s.testBit b && s.testBit c)) && ((!(tB r a).testBit b && (!(tB r a).testBit c && !(tB r b).testBit c)) || (!decide (w = nI 0) && c3 r a b c))
def L3c (r : Nat → Int32) (s : Nat) (w : Int32) (a b c : Nat) : List Unit := fm (fun c => if c4 r s w a b c then [()] else []) c (tN r - c)
def L3b (r : Nat → Int32) (s : Nat) (w : Int32) (a b : Nat) : List Unit := fm (fun b => L3c r s w a b (b + 1)) b (tN r - b)
def L3a (r : Nat → Int32) (s : Nat) (w : Int32) (a : Nat) : List Unit := fm (fun a => L3b r s w a (a + 1)) a (tN r - a)
def lik (r : Nat → Int32) (s : Nat) (w : Int32) : Nat := (L3a r s w 0).length
theorem lik_le {r : Nat → Int32} (h : tN r ≤ 11) (s : Nat) (w : Int32) : lik r s w ≤ 1331 := by
  have e1 : ∀ a b c, (L3c r s w a b c).length ≤ 11 := fun a b c => by
    have := fm_len (f := fun c => if c4 r s w a b c then [()] else []) (c := 1) (fun j => by split <;> simp) (tN r - c) c
    unfold L3c; omega
  have e2 : ∀ a b, (L3b r s w a b).length ≤ 121 := fun a b => by
    have := fm_len (f := fun b => L3c r s w a b (b + 1)) (c := 11) (fun j => e1 _ _ _) (tN r - b) b
    unfold L3b; omega
  have := fm_len (f := fun a => L3b r s w a (a + 1)) (c := 121) (fun j => e2 _ _) (tN r - 0) 0
  unfold lik L3a; omega
def S_likes : px_S := fun av σ k => match av with
  | [.inr (.inr (some 0)), .inl v, .inl w] => mt_R σ.2.2 ∧ tok (σ.1 1) ∧ v = nI v.toNatClampNeg ∧ v.toNatClampNeg < 2048 ∧ k (some (.inl (nI (lik (σ.1 1) v.toNatClampNeg w)))) σ
  | _ => False
theorem S_likes_sp {av : List px_V} {σ : px_M} {k : Option px_V → px_M → Prop} (h : S_likes av σ k) : ∃ v w, av = [.inr (.inr (some 0)), .inl v, .inl w] ∧ (mt_R σ.2.2 ∧ tok (σ.1 1) ∧ v = nI v.toNatClampNeg ∧ v.toNatClampNeg < 2048 ∧ k (some (.inl (nI (lik (σ.1 1) v.toNatClampNeg w)))) σ) := by
  unfold S_likes at h
  split at h
  · exact ⟨_, _, rfl, h⟩
  · exact h.elim
def I_lk3 (σ : px_M) (s : Nat) (w : Int32) (a b : Nat) : Nat → px_Ls → px_M → Prop := fun c ls τ => ∃ P z7, ls = [some (.inr (.inr (some 0))), some (.inl (nI s)), some (.inl w), some (.inl (nI (List.length P))), some (.inl (nI a)), some (.inl (nI b)), some (.inl (nI c)), z7] ∧ τ = σ ∧ P ++ (L3c (σ.1 1) s w a b c ++ (L3b (σ.1 1) s w a (b + 1) ++ L3a (σ.1 1) s w (a + 1))) = L3a (σ.1 1) s w 0
def I_lk2 (σ : px_M) (s : Nat) (w : Int32) (a : Nat) : Nat → px_Ls → px_M → Prop := fun b ls τ => ∃ P z6 z7, ls = [some (.inr (.inr (some 0))), some (.inl (nI s)), some (.inl w), some (.inl (nI (List.length P))), some (.inl (nI a)), some (.inl (nI b)), z6, z7] ∧ τ = σ ∧ P ++ (L3b (σ.1 1) s w a b ++ L3a (σ.1 1) s w (a + 1)) = L3a (σ.1 1) s w 0
def I_lk1 (σ : px_M) (s : Nat) (w : Int32) : Nat → px_Ls → px_M → Prop := fun a ls τ => ∃ P z5 z6 z7, ls = [some (.inr (.inr (some 0))), some (.inl (nI s)), some (.inl w), some (.inl (nI (List.length P))), some (.inl (nI a)), z5, z6, z7] ∧ τ = σ ∧ P ++ L3a (σ.1 1) s w a = L3a (σ.1 1) s w 0
theorem if_nn {P Q : Prop} {x y : Int32} [Decidable P] : (if P then x else y) = if P then x else y := rfl
set_option maxHeartbeats 4000000 in
set_option maxRecDepth 100000 in
theorem m_likes {tab : px_T} (ht : mt_ok tab) {h : Nat} (hh : 2 ≤ h) : px_Ok tab pn_i84 h S_likes := by
  refine px_mth ht.1 (by decide +kernel) (fun av σ k hS => by obtain ⟨v, w, rfl, hR, htk, hv, hv2, hS⟩ := S_likes_sp hS; exact Nat.le_of_ble_eq_true rfl) (fun C hT hC av σ k hS => ?_)
  replace hS := S_likes_sp hS
  obtain ⟨v, w, rfl, hR, htk, hv, hv2, hS⟩ := hS
  subst hT
  obtain ⟨s, hs0⟩ : ∃ s, v.toNatClampNeg = s := ⟨_, rfl⟩
  rw [hs0] at hv hv2 hS
  subst hv
  clear hs0
  obtain ⟨hn, h1, hnb, hlt⟩ := id htk
  have lp3 := fun (a b : Nat) (hab : a < b) (hbn : b < tN (σ.1 1)) (nx : ∀ ls τ, I_lk2 σ s w a (b + 1) ls τ → px_W C k 22 ls [] τ) => px_loop (C := C) (k := k) (pc := 39) (I_lk3 σ s w a b) (tN (σ.1 1)) (fun c ls τ hc hI hn2 => by
    obtain ⟨P, z7, rfl, rfl, hP⟩ := hI
    have hla := hlt a (by omega)
    have hlb := hlt b (by omega)
    have hw : (w = nI 0) = (decide (w = nI 0) = true) := by simp
    have stay : c4 (τ.1 1) s w a b c = false → c < tN (τ.1 1) → P ++ (L3c (τ.1 1) s w a b (c + 1) ++ (L3b (τ.1 1) s w a (b + 1) ++ L3a (τ.1 1) s w (a + 1))) = L3a (τ.1 1) s w 0 := fun h3 h4 => by
      rw [L3c, fm_st h4, if_neg (by rw [h3]; decide)] at hP
      exact hP
    have step : c4 (τ.1 1) s w a b c = true → c < tN (τ.1 1) → (P ++ [()]) ++ (L3c (τ.1 1) s w a b (c + 1) ++ (L3b (τ.1 1) s w a (b + 1) ++ L3a (τ.1 1) s w (a + 1))) = L3a (τ.1 1) s w 0 := fun h3 h4 => by
      rw [L3c, fm_st h4, if_pos h3] at hP
      simpa [L3c] using hP
    have nd : tN (τ.1 1) ≤ c → P ++ (L3b (τ.1 1) s w a (b + 1) ++ L3a (τ.1 1) s w (a + 1)) = L3a (τ.1 1) s w 0 := fun h4 => by
      rw [L3c, fm_nd h4] at hP
      exact hP
    cases q1 : (tB (τ.1 1) a).testBit b
    all_goals cases q2 : (tB (τ.1 1) a).testBit c
    all_goals cases q3 : (tB (τ.1 1) b).testBit c
    all_goals
      refine px_runG (h - 1) ck_84 [(31, S_near), (14, S_isIn)] [(39, px_li (I_lk3 τ s w a b) c (tN (τ.1 1))), (22, px_lw (I_lk2 τ s w a (b + 1)))] 24 hC (px_sp1 (m_near ht (by omega)) (px_sp1 (m_isIn ht (by omega)) px_nosp)) (by omega) (px_cut1 (px_li_ok hn2) (px_cut1 (px_lw_ok nx) px_nocut)) (fun G Jf hG hJf => ?_)
      simp only [↓hG, ↓hJf, ↓px_go, ↓px_vc, ↓px_ex, ↓px_jp, ↓px_gi, ↓px_gl, ↓px_gr, ↓px_s1, ↓px_s2, ↓px_nl, ↓px_i1, ↓px_l1, ↓px_r1, ↓px_q1, ↓px_i2, ↓px_l2, ↓px_il, ↓px_d0, ↓px_d1, ↓px_d2, ↓px_pop, px_sz, ↓px_sp, ↓px_obj, ↓px_arr, ↓px_rd, ↓px_pt, ↓px_rok, ↓px_rv, ↓px_fill, ↓px_sl, ↓px_li, ↓px_l0, ↓px_lw, ↓px_lc, px_wi, px_wl, px_wr, px_up_at, lc_lt, lc_ge, lc_gt, lc_le, lc_eq, ↓reduceIte, Nat.reduceEqDiff, Nat.reduceLeDiff, Nat.reduceAdd, Nat.reduceSub, reduceCtorEq, List.length_cons, List.length_nil, Option.toList_some, Option.toList_none, List.cons_append, List.nil_append, true_and, and_true, false_and, and_false, true_or, or_true, false_or, or_false, and_self, or_self, not_false_eq_true, not_true_eq_false, false_implies, forall_const, true_implies, ↓bk_84, ↓pn_i84, ↓S_near, ↓S_isIn, I_lk3, I_lk2, mt_0 ht, mt_1 ht, mr_1 hR]
      try simp (disch := omega) only [true_and, and_true, mb_bit, mb_house, bcI_eq, px_up_row, ni_divL, ni_subL, nI_add, pk_mul, nI_leI, nI_ltI, nI_eq, vp_in_eq, nI_clamp, fa_and, fa_or, ni_bit1, ni_1s, nI_l, mb_eq0, mb_ne0, mb_eq1, h1, hnb, q1, q2, q3]
      try simp only [Bool.true_eq_false, Bool.false_eq_true, reduceCtorEq, not_true_eq_false, not_false_eq_true, false_implies, true_implies, forall_const, and_self, true_and, and_true]
      refine ⟨by omega, fun q => ⟨P, _, _, rfl, nd q⟩, fun q => ⟨fun s1 => ⟨by omega, P, _, rfl, stay (by simp [c4, s1]) (by omega)⟩, fun s1 => ⟨fun s2 => ⟨by omega, P, _, rfl, stay (by simp [c4, s2]) (by omega)⟩, fun s2 => ⟨fun s3 => ?_, fun s3 => ⟨by omega, P, _, rfl, stay (by simp [c4, s3]) (by omega)⟩⟩⟩⟩⟩
      refine ⟨hR, by omega, hR, by omega, hR, by omega, ?_⟩
      first
        | exact ⟨by omega, P ++ [()], _, by simp, step (by simp [c4, c3, q1, q2, q3, s1, s2, s3]) (by omega)⟩
        | exact ⟨fun e => ⟨by omega, P ++ [()], _, by simp, step (by simp [c4, c3, q1, q2, q3, s1, s2, s3, e]) (by omega)⟩, fun e => ⟨by omega, P, _, rfl, stay (by simp [c4, c3, q1, q2, q3, s1, s2, s3, e]) (by omega)⟩⟩
        | exact ⟨fun e => ⟨by omega, P, _, rfl, stay (by simp [c4, c3, q1, q2, q3, s1, s2, s3, e]) (by omega)⟩, fun e => ⟨by omega, P ++ [()], _, by simp, step (by simp [c4, c3, q1, q2, q3, s1, s2, s3, e]) (by omega)⟩⟩
        | exact ⟨fun e => ⟨by omega, P, _, rfl, stay (by simp [c4, c3, q1, q2, q3, s1, s2, s3, e]) (by omega)⟩, fun e => ⟨by omega, P, _, rfl, stay (by simp [c4, c3, q1, q2, q3, s1, s2, s3, e]) (by omega)⟩⟩
        | skip
    exact hS)
  have lp2 := fun (a : Nat) (han : a < tN (σ.1 1)) (nx : ∀ ls τ, I_lk1 σ s w (a + 1) ls τ → px_W C k 5 ls [] τ) => px_loop (C := C) (k := k) (pc := 22) (fun b ls τ => a < b ∧ I_lk2 σ s w a b ls τ) (tN (σ.1 1)) (fun b ls τ hb hI hn2 => by
    obtain ⟨hab, P, z6, z7, rfl, rfl, hP⟩ := hI
    refine px_runG (h - 1) ck_84 [] [(39, px_lc (b < tN (τ.1 1)) (I_lk3 τ s w a b (b + 1))), (5, px_lw (I_lk1 τ s w (a + 1)))] 24 hC px_nosp (by omega) (px_cut1 (px_lc_ok (fun hb ls υ hI => lp3 a b hab hb (fun ls υ hI => hn2 ls υ hb ⟨by omega, hI⟩) (b + 1) ls υ (by omega) hI)) (px_cut1 (px_lw_ok nx) px_nocut)) (fun G Jf hG hJf => ?_)
    simp only [↓hG, ↓hJf, ↓px_go, ↓px_vc, ↓px_ex, ↓px_jp, ↓px_gi, ↓px_gl, ↓px_gr, ↓px_s1, ↓px_s2, ↓px_nl, ↓px_i1, ↓px_l1, ↓px_r1, ↓px_q1, ↓px_i2, ↓px_l2, ↓px_il, ↓px_d0, ↓px_d1, ↓px_d2, ↓px_pop, px_sz, ↓px_sp, ↓px_obj, ↓px_arr, ↓px_rd, ↓px_pt, ↓px_rok, ↓px_rv, ↓px_fill, ↓px_sl, ↓px_li, ↓px_l0, ↓px_lw, ↓px_lc, px_wi, px_wl, px_wr, px_up_at, lc_lt, lc_ge, lc_gt, lc_le, lc_eq, ↓reduceIte, Nat.reduceEqDiff, Nat.reduceLeDiff, Nat.reduceAdd, Nat.reduceSub, reduceCtorEq, List.length_cons, List.length_nil, Option.toList_some, Option.toList_none, List.cons_append, List.nil_append, true_and, and_true, false_and, and_false, true_or, or_true, false_or, or_false, and_self, or_self, not_false_eq_true, not_true_eq_false, false_implies, forall_const, true_implies, ↓bk_84, ↓pn_i84, I_lk3, I_lk1, mt_0 ht, mt_1 ht, mr_1 hR]
    try simp (disch := omega) only [true_and, and_true, mb_bit, mb_house, bcI_eq, px_up_row, ni_divL, ni_subL, nI_add, pk_mul, nI_leI, nI_ltI, nI_eq, vp_in_eq, nI_clamp, fa_and, fa_or, ni_bit1, ni_1s, nI_l, mb_eq0, mb_ne0, mb_eq1, h1]
    try simp only [Bool.true_eq_false, Bool.false_eq_true, reduceCtorEq, not_true_eq_false, not_false_eq_true, false_implies, true_implies, forall_const, and_self, true_and, and_true]
    refine ⟨by omega, fun q => ⟨P, _, _, _, rfl, ?_⟩, fun q => ⟨by omega, P, _, rfl, ?_⟩⟩
    · rw [L3b, fm_nd q] at hP
      exact hP
    · rw [L3b, fm_st (by omega), List.append_assoc] at hP
      exact hP)
  have lp1 := px_loop (C := C) (k := k) (pc := 5) (I_lk1 σ s w) (tN (σ.1 1)) (fun a ls τ ha hI hn2 => by
    obtain ⟨P, z5, z6, z7, rfl, rfl, hP⟩ := hI
    refine px_runG (h - 1) ck_84 [] [(22, px_lc (a < tN (τ.1 1)) (I_lk2 τ s w a (a + 1)))] 24 hC px_nosp (by omega) (px_cut1 (px_lc_ok (fun ha ls υ hI => lp2 a ha (fun ls υ hI => hn2 ls υ ha hI) (a + 1) ls υ (by omega) ⟨by omega, hI⟩)) px_nocut) (fun G Jf hG hJf => ?_)
    simp only [↓hG, ↓hJf, ↓px_go, ↓px_vc, ↓px_ex, ↓px_jp, ↓px_gi, ↓px_gl, ↓px_gr, ↓px_s1, ↓px_s2, ↓px_nl, ↓px_i1, ↓px_l1, ↓px_r1, ↓px_q1, ↓px_i2, ↓px_l2, ↓px_il, ↓px_d0, ↓px_d1, ↓px_d2, ↓px_pop, px_sz, ↓px_sp, ↓px_obj, ↓px_arr, ↓px_rd, ↓px_pt, ↓px_rok, ↓px_rv, ↓px_fill, ↓px_sl, ↓px_li, ↓px_l0, ↓px_lw, ↓px_lc, px_wi, px_wl, px_wr, px_up_at, lc_lt, lc_ge, lc_gt, lc_le, lc_eq, ↓reduceIte, Nat.reduceEqDiff, Nat.reduceLeDiff, Nat.reduceAdd, Nat.reduceSub, reduceCtorEq, List.length_cons, List.length_nil, Option.toList_some, Option.toList_none, List.cons_append, List.nil_append, true_and, and_true, false_and, and_false, true_or, or_true, false_or, or_false, and_self, or_self, not_false_eq_true, not_true_eq_false, false_implies, forall_const, true_implies, ↓bk_84, ↓pn_i84, I_lk2, mt_0 ht, mt_1 ht, mr_1 hR]
    try simp (disch := omega) only [true_and, and_true, mb_bit, mb_house, bcI_eq, px_up_row, ni_divL, ni_subL, nI_add, pk_mul, nI_leI, nI_ltI, nI_eq, vp_in_eq, nI_clamp, fa_and, fa_or, ni_bit1, ni_1s, nI_l, mb_eq0, mb_ne0, mb_eq1, h1]
    try simp only [Bool.true_eq_false, Bool.false_eq_true, reduceCtorEq, not_true_eq_false, not_false_eq_true, false_implies, true_implies, forall_const, and_self, true_and, and_true]
    refine ⟨by omega, fun q => ?_, fun q => ⟨by omega, P, _, _, rfl, ?_⟩⟩
    · rw [L3a, fm_nd (by omega), List.append_nil] at hP
      subst hP
      exact hS
    · rw [L3a, fm_st (by omega)] at hP
      exact hP)
  refine px_runG (h - 1) ck_84 [] [(5, px_l0 (I_lk1 σ s w))] 24 hC px_nosp (by omega) (px_cut1 (px_l0_ok lp1) px_nocut) (fun G Jf hG hJf => ?_)
  simp only [↓hG, ↓hJf, ↓px_go, ↓px_vc, ↓px_ex, ↓px_jp, ↓px_gi, ↓px_gl, ↓px_gr, ↓px_s1, ↓px_s2, ↓px_nl, ↓px_i1, ↓px_l1, ↓px_r1, ↓px_q1, ↓px_i2, ↓px_l2, ↓px_il, ↓px_d0, ↓px_d1, ↓px_d2, ↓px_pop, px_sz, ↓px_sp, ↓px_obj, ↓px_arr, ↓px_rd, ↓px_pt, ↓px_rok, ↓px_rv, ↓px_fill, ↓px_sl, ↓px_li, ↓px_l0, ↓px_lw, ↓px_lc, px_wi, px_wl, px_wr, px_up_at, lc_lt, lc_ge, lc_gt, lc_le, lc_eq, ↓reduceIte, Nat.reduceEqDiff, Nat.reduceLeDiff, Nat.reduceAdd, Nat.reduceSub, reduceCtorEq, List.length_cons, List.length_nil, Option.toList_some, Option.toList_none, List.cons_append, List.nil_append, true_and, and_true, false_and, and_false, true_or, or_true, false_or, or_false, and_self, or_self, not_false_eq_true, not_true_eq_false, false_implies, forall_const, true_implies, ↓bk_84, ↓pn_i84, I_lk1, mt_0 ht]
  try simp (disch := omega) only [true_and, and_true, mb_bit, mb_house, bcI_eq, px_up_row, ni_divL, ni_subL, nI_add, pk_mul, nI_leI, nI_ltI, nI_eq, vp_in_eq, nI_clamp, fa_and, fa_or, ni_bit1, ni_1s, nI_l, mb_eq0, mb_ne0, mb_eq1]
  try simp only [Bool.true_eq_false, Bool.false_eq_true, reduceCtorEq, not_true_eq_false, not_false_eq_true, false_implies, true_implies, forall_const, and_self, true_and, and_true]
  exact ⟨[], _, _, _, rfl, rfl⟩
